theorem d_Txm_init_0 : decode prog_19_method_1_code 0 = .ok (.aload_n 0, 1) := by decide +kernel
theorem d_Txm_init_1 : decode prog_19_method_1_code 1 = .ok (.invokespecial 1, 3) := by decide +kernel
theorem d_Txm_init_4 : decode prog_19_method_1_code 4 = .ok (.aload_n 0, 1) := by decide +kernel
theorem d_Txm_init_5 : decode prog_19_method_1_code 5 = .ok (.bipush 32, 2) := by decide +kernel
theorem d_Txm_init_7 : decode prog_19_method_1_code 7 = .ok (.newarray .int, 2) := by decide +kernel
theorem d_Txm_init_9 : decode prog_19_method_1_code 9 = .ok (.putfield 7, 3) := by decide +kernel
theorem d_Txm_init_12 : decode prog_19_method_1_code 12 = .ok (.aload_n 0, 1) := by decide +kernel
theorem d_Txm_init_13 : decode prog_19_method_1_code 13 = .ok (.bipush 16, 2) := by decide +kernel
theorem d_Txm_init_15 : decode prog_19_method_1_code 15 = .ok (.newarray .int, 2) := by decide +kernel
theorem d_Txm_init_17 : decode prog_19_method_1_code 17 = .ok (.putfield 13, 3) := by decide +kernel
theorem d_Txm_init_20 : decode prog_19_method_1_code 20 = .ok (.aload_n 0, 1) := by decide +kernel
theorem d_Txm_init_21 : decode prog_19_method_1_code 21 = .ok (.iconst 4, 1) := by decide +kernel
theorem d_Txm_init_22 : decode prog_19_method_1_code 22 = .ok (.newarray .int, 2) := by decide +kernel
theorem d_Txm_init_24 : decode prog_19_method_1_code 24 = .ok (.putfield 16, 3) := by decide +kernel
theorem d_Txm_init_27 : decode prog_19_method_1_code 27 = .ok (.aload_n 0, 1) := by decide +kernel
theorem d_Txm_init_28 : decode prog_19_method_1_code 28 = .ok (.iconst 4, 1) := by decide +kernel
theorem d_Txm_init_29 : decode prog_19_method_1_code 29 = .ok (.newarray .int, 2) := by decide +kernel
theorem d_Txm_init_31 : decode prog_19_method_1_code 31 = .ok (.putfield 19, 3) := by decide +kernel
theorem d_Txm_init_34 : decode prog_19_method_1_code 34 = .ok (.aload_n 0, 1) := by decide +kernel
theorem d_Txm_init_35 : decode prog_19_method_1_code 35 = .ok (.iconst 4, 1) := by decide +kernel
theorem d_Txm_init_36 : decode prog_19_method_1_code 36 = .ok (.newarray .int, 2) := by decide +kernel
theorem d_Txm_init_38 : decode prog_19_method_1_code 38 = .ok (.putfield 22, 3) := by decide +kernel
theorem d_Txm_init_41 : decode prog_19_method_1_code 41 = .ok (.aload_n 0, 1) := by decide +kernel
theorem d_Txm_init_42 : decode prog_19_method_1_code 42 = .ok (.iconst 4, 1) := by decide +kernel
theorem d_Txm_init_43 : decode prog_19_method_1_code 43 = .ok (.newarray .int, 2) := by decide +kernel
theorem d_Txm_init_45 : decode prog_19_method_1_code 45 = .ok (.putfield 25, 3) := by decide +kernel
theorem d_Txm_init_48 : decode prog_19_method_1_code 48 = .ok (.aload_n 0, 1) := by decide +kernel
theorem d_Txm_init_49 : decode prog_19_method_1_code 49 = .ok (.iconst 4, 1) := by decide +kernel
theorem d_Txm_init_50 : decode prog_19_method_1_code 50 = .ok (.newarray .int, 2) := by decide +kernel
theorem d_Txm_init_52 : decode prog_19_method_1_code 52 = .ok (.putfield 28, 3) := by decide +kernel
theorem d_Txm_init_55 : decode prog_19_method_1_code 55 = .ok (.aload_n 0, 1) := by decide +kernel
theorem d_Txm_init_56 : decode prog_19_method_1_code 56 = .ok (.iconst 4, 1) := by decide +kernel
theorem d_Txm_init_57 : decode prog_19_method_1_code 57 = .ok (.newarray .int, 2) := by decide +kernel
theorem d_Txm_init_59 : decode prog_19_method_1_code 59 = .ok (.putfield 31, 3) := by decide +kernel
theorem d_Txm_init_62 : decode prog_19_method_1_code 62 = .ok (.aload_n 0, 1) := by decide +kernel
theorem d_Txm_init_63 : decode prog_19_method_1_code 63 = .ok (.iconst 4, 1) := by decide +kernel
theorem d_Txm_init_64 : decode prog_19_method_1_code 64 = .ok (.newarray .int, 2) := by decide +kernel
theorem d_Txm_init_66 : decode prog_19_method_1_code 66 = .ok (.putfield 34, 3) := by decide +kernel
theorem d_Txm_init_69 : decode prog_19_method_1_code 69 = .ok (.aload_n 0, 1) := by decide +kernel
theorem d_Txm_init_70 : decode prog_19_method_1_code 70 = .ok (.aload_n 1, 1) := by decide +kernel
theorem d_Txm_init_71 : decode prog_19_method_1_code 71 = .ok (.putfield 37, 3) := by decide +kernel
theorem d_Txm_init_74 : decode prog_19_method_1_code 74 = .ok (.iconst 0, 1) := by decide +kernel
theorem d_Txm_init_75 : decode prog_19_method_1_code 75 = .ok (.istore_n 2, 1) := by decide +kernel
theorem d_Txm_init_76 : decode prog_19_method_1_code 76 = .ok (.iload_n 2, 1) := by decide +kernel
theorem d_Txm_init_77 : decode prog_19_method_1_code 77 = .ok (.iconst 4, 1) := by decide +kernel
theorem d_Txm_init_78 : decode prog_19_method_1_code 78 = .ok (.if_icmp .ge 21, 3) := by decide +kernel
theorem d_Txm_init_81 : decode prog_19_method_1_code 81 = .ok (.aload_n 0, 1) := by decide +kernel
theorem d_Txm_init_82 : decode prog_19_method_1_code 82 = .ok (.getfield 7, 3) := by decide +kernel
theorem d_Txm_init_85 : decode prog_19_method_1_code 85 = .ok (.bipush 8, 2) := by decide +kernel
theorem d_Txm_init_87 : decode prog_19_method_1_code 87 = .ok (.iload_n 2, 1) := by decide +kernel
theorem d_Txm_init_88 : decode prog_19_method_1_code 88 = .ok (.imul, 1) := by decide +kernel
theorem d_Txm_init_89 : decode prog_19_method_1_code 89 = .ok (.iconst 3, 1) := by decide +kernel
theorem d_Txm_init_90 : decode prog_19_method_1_code 90 = .ok (.iadd, 1) := by decide +kernel
theorem d_Txm_init_91 : decode prog_19_method_1_code 91 = .ok (.iconst 1, 1) := by decide +kernel
theorem d_Txm_init_92 : decode prog_19_method_1_code 92 = .ok (.iastore, 1) := by decide +kernel
theorem d_Txm_init_93 : decode prog_19_method_1_code 93 = .ok (.iinc 2 1, 3) := by decide +kernel
theorem d_Txm_init_96 : decode prog_19_method_1_code 96 = .ok (.goto (-20), 3) := by decide +kernel
theorem d_Txm_init_99 : decode prog_19_method_1_code 99 = .ok (.return_, 1) := by decide +kernel
set_option maxHeartbeats 4000000 in
set_option maxRecDepth 100000 in
theorem c_Txm_init (l : Launch) (D : va_G) (cI cL : ClassId) (B sz : Nat) (h0 : Nat) (me : Nat) : Met l y_Txm_init ((Cond.code y_Txm_init prog_19_method_1_code 3 none) :: tw) ({ frames := 20, cells := 9, slots := 76, locals := 2000 }) (va_Pc [.ref h0, .ref me] (wP D cI cL B sz [(h0, .inr (14, [.int 0, .null, .null, .null, .null, .null, .null, .null, .null, .null, .null]))])) (va_Qv (S := Unit) (fun _ => True) (fun u => wB D cI cL (va_A [(h0, .inr (14, [.int 0, .null, .null, .null, .null, .null, .null, .null, .null, .null, .null]))] sz) ((fun _ : Unit => []) u)) (va_A [(h0, .inr (14, [.int 0, .null, .null, .null, .null, .null, .null, .null, .null, .null, .null]))] sz)) 9 76 (va_A [(h0, .inr (14, [.int 0, .null, .null, .null, .null, .null, .null, .null, .null, .null, .null]))] sz) := by
  refine Met.ofW (cc := prog_19_method_1_code) (maxL := 3) (ret := none) (by decide) rfl ?_
  intro p e s m args below meth c s₁ B0 hml hv
  obtain ⟨rfl, hv⟩ := hv
  have hx := B0.exec
  have hb := B0.bytes
  have hr := B0.returns
  have hts := atoms_spec (ws := (Cond.code y_Txm_init prog_19_method_1_code 3 none) :: tw) B0.pre
  have htw : ∀ w ∈ tw, w.before _ s = true := fun w hw => hts w (List.mem_cons_of_mem _ hw)
  have hown : s.vm.findClass "DrawingMachineModel$TextureUnitsModel" = some m.cls := findClass_of_methodNamed B0.named
  have hlocks := B0.notSynchronized
  have hin : meth.name = "<init>" := (name_of_methodNamed B0.named B0.method).1
  obtain ⟨hC, hP, hD, hsz⟩ := wC_init hv
  subst hsz
  generalize hAe : va_A [(h0, .inr (14, [.int 0, .null, .null, .null, .null, .null, .null, .null, .null, .null, .null]))] s.heap.size = A at hC hD ⊢
  have hS : va_S A s.heap s.heap [] := va_S.rf
  have hl := lv_entry ([.ref h0, .ref me]) (n := 3) (Nat.le_of_ble_eq_true rfl)
  rw [lg_entry_eq]
  generalize (lg_sl ([.ref h0, .ref me]) ++ List.replicate (3 - (lg_sl ([.ref h0, .ref me])).length) Slot.unset).toArray = ls at hl ⊢
  have hl : lv_has ls 3 [(0, .ref h0), (1, .ref me)] := hl
  refine lv_aload_n hx hb d_Txm_init_0 rfl (lv_at hl 0 rfl) ?_
  refine W.objInit hx hb hown (htw _ k567) (htw _ k242) (htw _ k243) rfl (by rw [hml]; exact hl.1) rfl d_Txm_init_1 (Nat.le_of_ble_eq_true rfl) (Nat.le_of_ble_eq_true rfl) ?_
  refine W.eq (g2 := F0 m 4 ls []) rfl ?_
  refine lv_aload_n hx hb d_Txm_init_4 rfl (lv_at hl 0 rfl) ?_
  refine lv_bipush (v := 32) hx hb d_Txm_init_5 (by decide) ?_
  refine wna_i hx hb (htw _ k238) hC hP hD hS (N := 32) (by decide) (by omega) (Nat.le_of_ble_eq_true rfl) (Nat.le_of_ble_eq_true rfl) d_Txm_init_7 (fun q493 H hP hD hS => ?_)
  have hP : va_P D classes [(h0, .inr (14, [.int 0, .null, .null, .null, .null, .null, .null, .null, .null, .null, .null])), (q493, .inl (cI, 32, .inl (fun _ => 0)))] H := hP
  have hD : va_D A [(h0, .inr (14, [.int 0, .null, .null, .null, .null, .null, .null, .null, .null, .null, .null])), (q493, .inl (cI, 32, .inl (fun _ => 0)))] := hD
  refine W.widen (k := 1) (n := 32) (by omega) (by omega) ?_
  refine va_putF (D := D) (ci := 14) (v := .ref q493) (ty := .array .int) (C := R_Txm) (T := F_Txm) (N := 11) hx hb htw i_Txm t_Txm t_Txm_ok n_Txm hown hC.1 hP hD hS 0 rfl rfl 2 (by decide) (htw _ k568) (fun _ h9 => h9) rfl hin rfl (by decide +kernel) rfl rfl (Nat.le_of_ble_eq_true rfl) d_Txm_init_9 (fun H locs hP hD hS => ?_)
  have hP : va_P D classes [(h0, .inr (14, [.int 0, .null, .ref q493, .null, .null, .null, .null, .null, .null, .null, .null])), (q493, .inl (cI, 32, .inl (fun _ => 0)))] H := hP
  have hD : va_D A [(h0, .inr (14, [.int 0, .null, .ref q493, .null, .null, .null, .null, .null, .null, .null, .null])), (q493, .inl (cI, 32, .inl (fun _ => 0)))] := hD
  refine lv_aload_n hx hb d_Txm_init_12 rfl (lv_at hl 0 rfl) ?_
  refine lv_bipush (v := 16) hx hb d_Txm_init_13 (by decide) ?_
  refine wna_i hx hb (htw _ k238) hC hP hD hS (N := 16) (by decide) (by omega) (Nat.le_of_ble_eq_true rfl) (Nat.le_of_ble_eq_true rfl) d_Txm_init_15 (fun q494 H hP hD hS => ?_)
  have hP : va_P D classes [(h0, .inr (14, [.int 0, .null, .ref q493, .null, .null, .null, .null, .null, .null, .null, .null])), (q493, .inl (cI, 32, .inl (fun _ => 0))), (q494, .inl (cI, 16, .inl (fun _ => 0)))] H := hP
  have hD : va_D A [(h0, .inr (14, [.int 0, .null, .ref q493, .null, .null, .null, .null, .null, .null, .null, .null])), (q493, .inl (cI, 32, .inl (fun _ => 0))), (q494, .inl (cI, 16, .inl (fun _ => 0)))] := hD
  refine W.widen (k := 2) (n := 48) (by omega) (by omega) ?_
  refine va_putF (D := D) (ci := 14) (v := .ref q494) (ty := .array .int) (C := R_Txm) (T := F_Txm) (N := 11) hx hb htw i_Txm t_Txm t_Txm_ok n_Txm hown hC.1 hP hD hS 0 rfl rfl 3 (by decide) (htw _ k569) (fun _ h9 => h9) rfl hin rfl (by decide +kernel) rfl rfl (Nat.le_of_ble_eq_true rfl) d_Txm_init_17 (fun H locs hP hD hS => ?_)
  have hP : va_P D classes [(h0, .inr (14, [.int 0, .null, .ref q493, .ref q494, .null, .null, .null, .null, .null, .null, .null])), (q493, .inl (cI, 32, .inl (fun _ => 0))), (q494, .inl (cI, 16, .inl (fun _ => 0)))] H := hP
  have hD : va_D A [(h0, .inr (14, [.int 0, .null, .ref q493, .ref q494, .null, .null, .null, .null, .null, .null, .null])), (q493, .inl (cI, 32, .inl (fun _ => 0))), (q494, .inl (cI, 16, .inl (fun _ => 0)))] := hD
  refine lv_aload_n hx hb d_Txm_init_20 rfl (lv_at hl 0 rfl) ?_
  refine lv_iconst (v := 4) hx hb d_Txm_init_21 (by decide) ?_
  refine wna_i hx hb (htw _ k238) hC hP hD hS (N := 4) (by decide) (by omega) (Nat.le_of_ble_eq_true rfl) (Nat.le_of_ble_eq_true rfl) d_Txm_init_22 (fun q495 H hP hD hS => ?_)
  have hP : va_P D classes [(h0, .inr (14, [.int 0, .null, .ref q493, .ref q494, .null, .null, .null, .null, .null, .null, .null])), (q493, .inl (cI, 32, .inl (fun _ => 0))), (q494, .inl (cI, 16, .inl (fun _ => 0))), (q495, .inl (cI, 4, .inl (fun _ => 0)))] H := hP
  have hD : va_D A [(h0, .inr (14, [.int 0, .null, .ref q493, .ref q494, .null, .null, .null, .null, .null, .null, .null])), (q493, .inl (cI, 32, .inl (fun _ => 0))), (q494, .inl (cI, 16, .inl (fun _ => 0))), (q495, .inl (cI, 4, .inl (fun _ => 0)))] := hD
  refine W.widen (k := 3) (n := 52) (by omega) (by omega) ?_
  refine va_putF (D := D) (ci := 14) (v := .ref q495) (ty := .array .int) (C := R_Txm) (T := F_Txm) (N := 11) hx hb htw i_Txm t_Txm t_Txm_ok n_Txm hown hC.1 hP hD hS 0 rfl rfl 4 (by decide) (htw _ k570) (fun _ h9 => h9) rfl hin rfl (by decide +kernel) rfl rfl (Nat.le_of_ble_eq_true rfl) d_Txm_init_24 (fun H locs hP hD hS => ?_)
  have hP : va_P D classes [(h0, .inr (14, [.int 0, .null, .ref q493, .ref q494, .ref q495, .null, .null, .null, .null, .null, .null])), (q493, .inl (cI, 32, .inl (fun _ => 0))), (q494, .inl (cI, 16, .inl (fun _ => 0))), (q495, .inl (cI, 4, .inl (fun _ => 0)))] H := hP
  have hD : va_D A [(h0, .inr (14, [.int 0, .null, .ref q493, .ref q494, .ref q495, .null, .null, .null, .null, .null, .null])), (q493, .inl (cI, 32, .inl (fun _ => 0))), (q494, .inl (cI, 16, .inl (fun _ => 0))), (q495, .inl (cI, 4, .inl (fun _ => 0)))] := hD
  refine lv_aload_n hx hb d_Txm_init_27 rfl (lv_at hl 0 rfl) ?_
  refine lv_iconst (v := 4) hx hb d_Txm_init_28 (by decide) ?_
  refine wna_i hx hb (htw _ k238) hC hP hD hS (N := 4) (by decide) (by omega) (Nat.le_of_ble_eq_true rfl) (Nat.le_of_ble_eq_true rfl) d_Txm_init_29 (fun q496 H hP hD hS => ?_)
  have hP : va_P D classes [(h0, .inr (14, [.int 0, .null, .ref q493, .ref q494, .ref q495, .null, .null, .null, .null, .null, .null])), (q493, .inl (cI, 32, .inl (fun _ => 0))), (q494, .inl (cI, 16, .inl (fun _ => 0))), (q495, .inl (cI, 4, .inl (fun _ => 0))), (q496, .inl (cI, 4, .inl (fun _ => 0)))] H := hP
  have hD : va_D A [(h0, .inr (14, [.int 0, .null, .ref q493, .ref q494, .ref q495, .null, .null, .null, .null, .null, .null])), (q493, .inl (cI, 32, .inl (fun _ => 0))), (q494, .inl (cI, 16, .inl (fun _ => 0))), (q495, .inl (cI, 4, .inl (fun _ => 0))), (q496, .inl (cI, 4, .inl (fun _ => 0)))] := hD
  refine W.widen (k := 4) (n := 56) (by omega) (by omega) ?_
  refine va_putF (D := D) (ci := 14) (v := .ref q496) (ty := .array .int) (C := R_Txm) (T := F_Txm) (N := 11) hx hb htw i_Txm t_Txm t_Txm_ok n_Txm hown hC.1 hP hD hS 0 rfl rfl 5 (by decide) (htw _ k571) (fun _ h9 => h9) rfl hin rfl (by decide +kernel) rfl rfl (Nat.le_of_ble_eq_true rfl) d_Txm_init_31 (fun H locs hP hD hS => ?_)
  have hP : va_P D classes [(h0, .inr (14, [.int 0, .null, .ref q493, .ref q494, .ref q495, .ref q496, .null, .null, .null, .null, .null])), (q493, .inl (cI, 32, .inl (fun _ => 0))), (q494, .inl (cI, 16, .inl (fun _ => 0))), (q495, .inl (cI, 4, .inl (fun _ => 0))), (q496, .inl (cI, 4, .inl (fun _ => 0)))] H := hP
  have hD : va_D A [(h0, .inr (14, [.int 0, .null, .ref q493, .ref q494, .ref q495, .ref q496, .null, .null, .null, .null, .null])), (q493, .inl (cI, 32, .inl (fun _ => 0))), (q494, .inl (cI, 16, .inl (fun _ => 0))), (q495, .inl (cI, 4, .inl (fun _ => 0))), (q496, .inl (cI, 4, .inl (fun _ => 0)))] := hD
  refine lv_aload_n hx hb d_Txm_init_34 rfl (lv_at hl 0 rfl) ?_
  refine lv_iconst (v := 4) hx hb d_Txm_init_35 (by decide) ?_
  refine wna_i hx hb (htw _ k238) hC hP hD hS (N := 4) (by decide) (by omega) (Nat.le_of_ble_eq_true rfl) (Nat.le_of_ble_eq_true rfl) d_Txm_init_36 (fun q497 H hP hD hS => ?_)
  have hP : va_P D classes [(h0, .inr (14, [.int 0, .null, .ref q493, .ref q494, .ref q495, .ref q496, .null, .null, .null, .null, .null])), (q493, .inl (cI, 32, .inl (fun _ => 0))), (q494, .inl (cI, 16, .inl (fun _ => 0))), (q495, .inl (cI, 4, .inl (fun _ => 0))), (q496, .inl (cI, 4, .inl (fun _ => 0))), (q497, .inl (cI, 4, .inl (fun _ => 0)))] H := hP
  have hD : va_D A [(h0, .inr (14, [.int 0, .null, .ref q493, .ref q494, .ref q495, .ref q496, .null, .null, .null, .null, .null])), (q493, .inl (cI, 32, .inl (fun _ => 0))), (q494, .inl (cI, 16, .inl (fun _ => 0))), (q495, .inl (cI, 4, .inl (fun _ => 0))), (q496, .inl (cI, 4, .inl (fun _ => 0))), (q497, .inl (cI, 4, .inl (fun _ => 0)))] := hD
  refine W.widen (k := 5) (n := 60) (by omega) (by omega) ?_
  refine va_putF (D := D) (ci := 14) (v := .ref q497) (ty := .array .int) (C := R_Txm) (T := F_Txm) (N := 11) hx hb htw i_Txm t_Txm t_Txm_ok n_Txm hown hC.1 hP hD hS 0 rfl rfl 6 (by decide) (htw _ k572) (fun _ h9 => h9) rfl hin rfl (by decide +kernel) rfl rfl (Nat.le_of_ble_eq_true rfl) d_Txm_init_38 (fun H locs hP hD hS => ?_)
  have hP : va_P D classes [(h0, .inr (14, [.int 0, .null, .ref q493, .ref q494, .ref q495, .ref q496, .ref q497, .null, .null, .null, .null])), (q493, .inl (cI, 32, .inl (fun _ => 0))), (q494, .inl (cI, 16, .inl (fun _ => 0))), (q495, .inl (cI, 4, .inl (fun _ => 0))), (q496, .inl (cI, 4, .inl (fun _ => 0))), (q497, .inl (cI, 4, .inl (fun _ => 0)))] H := hP
  have hD : va_D A [(h0, .inr (14, [.int 0, .null, .ref q493, .ref q494, .ref q495, .ref q496, .ref q497, .null, .null, .null, .null])), (q493, .inl (cI, 32, .inl (fun _ => 0))), (q494, .inl (cI, 16, .inl (fun _ => 0))), (q495, .inl (cI, 4, .inl (fun _ => 0))), (q496, .inl (cI, 4, .inl (fun _ => 0))), (q497, .inl (cI, 4, .inl (fun _ => 0)))] := hD
  refine lv_aload_n hx hb d_Txm_init_41 rfl (lv_at hl 0 rfl) ?_
  refine lv_iconst (v := 4) hx hb d_Txm_init_42 (by decide) ?_
  refine wna_i hx hb (htw _ k238) hC hP hD hS (N := 4) (by decide) (by omega) (Nat.le_of_ble_eq_true rfl) (Nat.le_of_ble_eq_true rfl) d_Txm_init_43 (fun q498 H hP hD hS => ?_)
  have hP : va_P D classes [(h0, .inr (14, [.int 0, .null, .ref q493, .ref q494, .ref q495, .ref q496, .ref q497, .null, .null, .null, .null])), (q493, .inl (cI, 32, .inl (fun _ => 0))), (q494, .inl (cI, 16, .inl (fun _ => 0))), (q495, .inl (cI, 4, .inl (fun _ => 0))), (q496, .inl (cI, 4, .inl (fun _ => 0))), (q497, .inl (cI, 4, .inl (fun _ => 0))), (q498, .inl (cI, 4, .inl (fun _ => 0)))] H := hP
  have hD : va_D A [(h0, .inr (14, [.int 0, .null, .ref q493, .ref q494, .ref q495, .ref q496, .ref q497, .null, .null, .null, .null])), (q493, .inl (cI, 32, .inl (fun _ => 0))), (q494, .inl (cI, 16, .inl (fun _ => 0))), (q495, .inl (cI, 4, .inl (fun _ => 0))), (q496, .inl (cI, 4, .inl (fun _ => 0))), (q497, .inl (cI, 4, .inl (fun _ => 0))), (q498, .inl (cI, 4, .inl (fun _ => 0)))] := hD
  refine W.widen (k := 6) (n := 64) (by omega) (by omega) ?_
  refine va_putF (D := D) (ci := 14) (v := .ref q498) (ty := .array .int) (C := R_Txm) (T := F_Txm) (N := 11) hx hb htw i_Txm t_Txm t_Txm_ok n_Txm hown hC.1 hP hD hS 0 rfl rfl 7 (by decide) (htw _ k573) (fun _ h9 => h9) rfl hin rfl (by decide +kernel) rfl rfl (Nat.le_of_ble_eq_true rfl) d_Txm_init_45 (fun H locs hP hD hS => ?_)
  have hP : va_P D classes [(h0, .inr (14, [.int 0, .null, .ref q493, .ref q494, .ref q495, .ref q496, .ref q497, .ref q498, .null, .null, .null])), (q493, .inl (cI, 32, .inl (fun _ => 0))), (q494, .inl (cI, 16, .inl (fun _ => 0))), (q495, .inl (cI, 4, .inl (fun _ => 0))), (q496, .inl (cI, 4, .inl (fun _ => 0))), (q497, .inl (cI, 4, .inl (fun _ => 0))), (q498, .inl (cI, 4, .inl (fun _ => 0)))] H := hP
  have hD : va_D A [(h0, .inr (14, [.int 0, .null, .ref q493, .ref q494, .ref q495, .ref q496, .ref q497, .ref q498, .null, .null, .null])), (q493, .inl (cI, 32, .inl (fun _ => 0))), (q494, .inl (cI, 16, .inl (fun _ => 0))), (q495, .inl (cI, 4, .inl (fun _ => 0))), (q496, .inl (cI, 4, .inl (fun _ => 0))), (q497, .inl (cI, 4, .inl (fun _ => 0))), (q498, .inl (cI, 4, .inl (fun _ => 0)))] := hD
  refine lv_aload_n hx hb d_Txm_init_48 rfl (lv_at hl 0 rfl) ?_
  refine lv_iconst (v := 4) hx hb d_Txm_init_49 (by decide) ?_
  refine wna_i hx hb (htw _ k238) hC hP hD hS (N := 4) (by decide) (by omega) (Nat.le_of_ble_eq_true rfl) (Nat.le_of_ble_eq_true rfl) d_Txm_init_50 (fun q499 H hP hD hS => ?_)
  have hP : va_P D classes [(h0, .inr (14, [.int 0, .null, .ref q493, .ref q494, .ref q495, .ref q496, .ref q497, .ref q498, .null, .null, .null])), (q493, .inl (cI, 32, .inl (fun _ => 0))), (q494, .inl (cI, 16, .inl (fun _ => 0))), (q495, .inl (cI, 4, .inl (fun _ => 0))), (q496, .inl (cI, 4, .inl (fun _ => 0))), (q497, .inl (cI, 4, .inl (fun _ => 0))), (q498, .inl (cI, 4, .inl (fun _ => 0))), (q499, .inl (cI, 4, .inl (fun _ => 0)))] H := hP
  have hD : va_D A [(h0, .inr (14, [.int 0, .null, .ref q493, .ref q494, .ref q495, .ref q496, .ref q497, .ref q498, .null, .null, .null])), (q493, .inl (cI, 32, .inl (fun _ => 0))), (q494, .inl (cI, 16, .inl (fun _ => 0))), (q495, .inl (cI, 4, .inl (fun _ => 0))), (q496, .inl (cI, 4, .inl (fun _ => 0))), (q497, .inl (cI, 4, .inl (fun _ => 0))), (q498, .inl (cI, 4, .inl (fun _ => 0))), (q499, .inl (cI, 4, .inl (fun _ => 0)))] := hD
  refine W.widen (k := 7) (n := 68) (by omega) (by omega) ?_
  refine va_putF (D := D) (ci := 14) (v := .ref q499) (ty := .array .int) (C := R_Txm) (T := F_Txm) (N := 11) hx hb htw i_Txm t_Txm t_Txm_ok n_Txm hown hC.1 hP hD hS 0 rfl rfl 8 (by decide) (htw _ k574) (fun _ h9 => h9) rfl hin rfl (by decide +kernel) rfl rfl (Nat.le_of_ble_eq_true rfl) d_Txm_init_52 (fun H locs hP hD hS => ?_)
  have hP : va_P D classes [(h0, .inr (14, [.int 0, .null, .ref q493, .ref q494, .ref q495, .ref q496, .ref q497, .ref q498, .ref q499, .null, .null])), (q493, .inl (cI, 32, .inl (fun _ => 0))), (q494, .inl (cI, 16, .inl (fun _ => 0))), (q495, .inl (cI, 4, .inl (fun _ => 0))), (q496, .inl (cI, 4, .inl (fun _ => 0))), (q497, .inl (cI, 4, .inl (fun _ => 0))), (q498, .inl (cI, 4, .inl (fun _ => 0))), (q499, .inl (cI, 4, .inl (fun _ => 0)))] H := hP
  have hD : va_D A [(h0, .inr (14, [.int 0, .null, .ref q493, .ref q494, .ref q495, .ref q496, .ref q497, .ref q498, .ref q499, .null, .null])), (q493, .inl (cI, 32, .inl (fun _ => 0))), (q494, .inl (cI, 16, .inl (fun _ => 0))), (q495, .inl (cI, 4, .inl (fun _ => 0))), (q496, .inl (cI, 4, .inl (fun _ => 0))), (q497, .inl (cI, 4, .inl (fun _ => 0))), (q498, .inl (cI, 4, .inl (fun _ => 0))), (q499, .inl (cI, 4, .inl (fun _ => 0)))] := hD
  refine lv_aload_n hx hb d_Txm_init_55 rfl (lv_at hl 0 rfl) ?_
  refine lv_iconst (v := 4) hx hb d_Txm_init_56 (by decide) ?_
  refine wna_i hx hb (htw _ k238) hC hP hD hS (N := 4) (by decide) (by omega) (Nat.le_of_ble_eq_true rfl) (Nat.le_of_ble_eq_true rfl) d_Txm_init_57 (fun q500 H hP hD hS => ?_)
  have hP : va_P D classes [(h0, .inr (14, [.int 0, .null, .ref q493, .ref q494, .ref q495, .ref q496, .ref q497, .ref q498, .ref q499, .null, .null])), (q493, .inl (cI, 32, .inl (fun _ => 0))), (q494, .inl (cI, 16, .inl (fun _ => 0))), (q495, .inl (cI, 4, .inl (fun _ => 0))), (q496, .inl (cI, 4, .inl (fun _ => 0))), (q497, .inl (cI, 4, .inl (fun _ => 0))), (q498, .inl (cI, 4, .inl (fun _ => 0))), (q499, .inl (cI, 4, .inl (fun _ => 0))), (q500, .inl (cI, 4, .inl (fun _ => 0)))] H := hP
  have hD : va_D A [(h0, .inr (14, [.int 0, .null, .ref q493, .ref q494, .ref q495, .ref q496, .ref q497, .ref q498, .ref q499, .null, .null])), (q493, .inl (cI, 32, .inl (fun _ => 0))), (q494, .inl (cI, 16, .inl (fun _ => 0))), (q495, .inl (cI, 4, .inl (fun _ => 0))), (q496, .inl (cI, 4, .inl (fun _ => 0))), (q497, .inl (cI, 4, .inl (fun _ => 0))), (q498, .inl (cI, 4, .inl (fun _ => 0))), (q499, .inl (cI, 4, .inl (fun _ => 0))), (q500, .inl (cI, 4, .inl (fun _ => 0)))] := hD
  refine W.widen (k := 8) (n := 72) (by omega) (by omega) ?_
  refine va_putF (D := D) (ci := 14) (v := .ref q500) (ty := .array .int) (C := R_Txm) (T := F_Txm) (N := 11) hx hb htw i_Txm t_Txm t_Txm_ok n_Txm hown hC.1 hP hD hS 0 rfl rfl 9 (by decide) (htw _ k575) (fun _ h9 => h9) rfl hin rfl (by decide +kernel) rfl rfl (Nat.le_of_ble_eq_true rfl) d_Txm_init_59 (fun H locs hP hD hS => ?_)
  have hP : va_P D classes [(h0, .inr (14, [.int 0, .null, .ref q493, .ref q494, .ref q495, .ref q496, .ref q497, .ref q498, .ref q499, .ref q500, .null])), (q493, .inl (cI, 32, .inl (fun _ => 0))), (q494, .inl (cI, 16, .inl (fun _ => 0))), (q495, .inl (cI, 4, .inl (fun _ => 0))), (q496, .inl (cI, 4, .inl (fun _ => 0))), (q497, .inl (cI, 4, .inl (fun _ => 0))), (q498, .inl (cI, 4, .inl (fun _ => 0))), (q499, .inl (cI, 4, .inl (fun _ => 0))), (q500, .inl (cI, 4, .inl (fun _ => 0)))] H := hP
  have hD : va_D A [(h0, .inr (14, [.int 0, .null, .ref q493, .ref q494, .ref q495, .ref q496, .ref q497, .ref q498, .ref q499, .ref q500, .null])), (q493, .inl (cI, 32, .inl (fun _ => 0))), (q494, .inl (cI, 16, .inl (fun _ => 0))), (q495, .inl (cI, 4, .inl (fun _ => 0))), (q496, .inl (cI, 4, .inl (fun _ => 0))), (q497, .inl (cI, 4, .inl (fun _ => 0))), (q498, .inl (cI, 4, .inl (fun _ => 0))), (q499, .inl (cI, 4, .inl (fun _ => 0))), (q500, .inl (cI, 4, .inl (fun _ => 0)))] := hD
  refine lv_aload_n hx hb d_Txm_init_62 rfl (lv_at hl 0 rfl) ?_
  refine lv_iconst (v := 4) hx hb d_Txm_init_63 (by decide) ?_
  refine wna_i hx hb (htw _ k238) hC hP hD hS (N := 4) (by decide) (by omega) (Nat.le_of_ble_eq_true rfl) (Nat.le_of_ble_eq_true rfl) d_Txm_init_64 (fun q501 H hP hD hS => ?_)
  have hP : va_P D classes [(h0, .inr (14, [.int 0, .null, .ref q493, .ref q494, .ref q495, .ref q496, .ref q497, .ref q498, .ref q499, .ref q500, .null])), (q493, .inl (cI, 32, .inl (fun _ => 0))), (q494, .inl (cI, 16, .inl (fun _ => 0))), (q495, .inl (cI, 4, .inl (fun _ => 0))), (q496, .inl (cI, 4, .inl (fun _ => 0))), (q497, .inl (cI, 4, .inl (fun _ => 0))), (q498, .inl (cI, 4, .inl (fun _ => 0))), (q499, .inl (cI, 4, .inl (fun _ => 0))), (q500, .inl (cI, 4, .inl (fun _ => 0))), (q501, .inl (cI, 4, .inl (fun _ => 0)))] H := hP
  have hD : va_D A [(h0, .inr (14, [.int 0, .null, .ref q493, .ref q494, .ref q495, .ref q496, .ref q497, .ref q498, .ref q499, .ref q500, .null])), (q493, .inl (cI, 32, .inl (fun _ => 0))), (q494, .inl (cI, 16, .inl (fun _ => 0))), (q495, .inl (cI, 4, .inl (fun _ => 0))), (q496, .inl (cI, 4, .inl (fun _ => 0))), (q497, .inl (cI, 4, .inl (fun _ => 0))), (q498, .inl (cI, 4, .inl (fun _ => 0))), (q499, .inl (cI, 4, .inl (fun _ => 0))), (q500, .inl (cI, 4, .inl (fun _ => 0))), (q501, .inl (cI, 4, .inl (fun _ => 0)))] := hD
  refine W.widen (k := 9) (n := 76) (by omega) (by omega) ?_
  refine va_putF (D := D) (ci := 14) (v := .ref q501) (ty := .array .int) (C := R_Txm) (T := F_Txm) (N := 11) hx hb htw i_Txm t_Txm t_Txm_ok n_Txm hown hC.1 hP hD hS 0 rfl rfl 10 (by decide) (htw _ k576) (fun _ h9 => h9) rfl hin rfl (by decide +kernel) rfl rfl (Nat.le_of_ble_eq_true rfl) d_Txm_init_66 (fun H locs hP hD hS => ?_)
  have hP : va_P D classes [(h0, .inr (14, [.int 0, .null, .ref q493, .ref q494, .ref q495, .ref q496, .ref q497, .ref q498, .ref q499, .ref q500, .ref q501])), (q493, .inl (cI, 32, .inl (fun _ => 0))), (q494, .inl (cI, 16, .inl (fun _ => 0))), (q495, .inl (cI, 4, .inl (fun _ => 0))), (q496, .inl (cI, 4, .inl (fun _ => 0))), (q497, .inl (cI, 4, .inl (fun _ => 0))), (q498, .inl (cI, 4, .inl (fun _ => 0))), (q499, .inl (cI, 4, .inl (fun _ => 0))), (q500, .inl (cI, 4, .inl (fun _ => 0))), (q501, .inl (cI, 4, .inl (fun _ => 0)))] H := hP
  have hD : va_D A [(h0, .inr (14, [.int 0, .null, .ref q493, .ref q494, .ref q495, .ref q496, .ref q497, .ref q498, .ref q499, .ref q500, .ref q501])), (q493, .inl (cI, 32, .inl (fun _ => 0))), (q494, .inl (cI, 16, .inl (fun _ => 0))), (q495, .inl (cI, 4, .inl (fun _ => 0))), (q496, .inl (cI, 4, .inl (fun _ => 0))), (q497, .inl (cI, 4, .inl (fun _ => 0))), (q498, .inl (cI, 4, .inl (fun _ => 0))), (q499, .inl (cI, 4, .inl (fun _ => 0))), (q500, .inl (cI, 4, .inl (fun _ => 0))), (q501, .inl (cI, 4, .inl (fun _ => 0)))] := hD
  refine lv_aload_n hx hb d_Txm_init_69 rfl (lv_at hl 0 rfl) ?_
  refine lv_aload_n hx hb d_Txm_init_70 rfl (lv_at hl 1 rfl) ?_
  refine va_putF (D := D) (ci := 14) (v := .ref me) (ty := .array .int) (C := R_Txm) (T := F_Txm) (N := 11) hx hb htw i_Txm t_Txm t_Txm_ok n_Txm hown hC.1 hP hD hS 0 rfl rfl 1 (by decide) (htw _ k577) (fun _ h9 => h9) rfl hin rfl (by decide +kernel) rfl rfl (Nat.le_of_ble_eq_true rfl) d_Txm_init_71 (fun H locs hP hD hS => ?_)
  have hP : va_P D classes [(h0, .inr (14, [.int 0, .ref me, .ref q493, .ref q494, .ref q495, .ref q496, .ref q497, .ref q498, .ref q499, .ref q500, .ref q501])), (q493, .inl (cI, 32, .inl (fun _ => 0))), (q494, .inl (cI, 16, .inl (fun _ => 0))), (q495, .inl (cI, 4, .inl (fun _ => 0))), (q496, .inl (cI, 4, .inl (fun _ => 0))), (q497, .inl (cI, 4, .inl (fun _ => 0))), (q498, .inl (cI, 4, .inl (fun _ => 0))), (q499, .inl (cI, 4, .inl (fun _ => 0))), (q500, .inl (cI, 4, .inl (fun _ => 0))), (q501, .inl (cI, 4, .inl (fun _ => 0)))] H := hP
  have hD : va_D A [(h0, .inr (14, [.int 0, .ref me, .ref q493, .ref q494, .ref q495, .ref q496, .ref q497, .ref q498, .ref q499, .ref q500, .ref q501])), (q493, .inl (cI, 32, .inl (fun _ => 0))), (q494, .inl (cI, 16, .inl (fun _ => 0))), (q495, .inl (cI, 4, .inl (fun _ => 0))), (q496, .inl (cI, 4, .inl (fun _ => 0))), (q497, .inl (cI, 4, .inl (fun _ => 0))), (q498, .inl (cI, 4, .inl (fun _ => 0))), (q499, .inl (cI, 4, .inl (fun _ => 0))), (q500, .inl (cI, 4, .inl (fun _ => 0))), (q501, .inl (cI, 4, .inl (fun _ => 0)))] := hD
  refine lv_iconst (v := 0) hx hb d_Txm_init_74 (by decide) ?_
  refine lv_istore_n (lv' := [(2, .int 0), (0, .ref h0), (1, .ref me)]) hx hb d_Txm_init_75 rfl hl (by decide) rfl (fun ls hl => ?_)
  refine lv_iload_n hx hb d_Txm_init_76 rfl (lv_at hl 0 rfl) ?_
  refine lv_iconst (v := 4) hx hb d_Txm_init_77 (by decide) ?_
  refine lv_icmp_ge (tgt := 99) hx hb d_Txm_init_78 (by decide) (fun c_502 => absurd c_502 (by decide)) (fun c_502 => ?_)
  refine lv_aload_n hx hb d_Txm_init_81 rfl (lv_at hl 1 rfl) ?_
  refine va_get (D := D) (ci := 14) (v := .ref q493) (C := R_Txm) (T := F_Txm) (N := 11) hx hb htw i_Txm hown hC.1 hP 0 rfl rfl 2 (by decide) (htw _ k568) (fun _ h9 => h9) rfl d_Txm_init_82 ?_
  refine lv_bipush (v := 8) hx hb d_Txm_init_85 (by decide) ?_
  refine lv_iload_n hx hb d_Txm_init_87 rfl (lv_at hl 0 rfl) ?_
  refine lv_imul hx hb d_Txm_init_88 ?_
  refine wi_c (v := 0) (by decide) ?_
  refine lv_iconst (v := 3) hx hb d_Txm_init_89 (by decide) ?_
  refine lv_iadd hx hb d_Txm_init_90 ?_
  refine wi_c (v := 3) (by decide) ?_
  refine lv_iconst (v := 1) hx hb d_Txm_init_91 (by decide) ?_
  refine va_iast hx hb hC.1 hP hD hS 1 0 rfl rfl (by unfold vp_in; decide) d_Txm_init_92 (fun H locs hP hD hS => ?_)
  have hP : va_P D classes [(h0, .inr (14, [.int 0, .ref me, .ref q493, .ref q494, .ref q495, .ref q496, .ref q497, .ref q498, .ref q499, .ref q500, .ref q501])), (q493, .inl (cI, 32, .inl (upd (fun _ => 0) (3 : Int32).toNatClampNeg 1))), (q494, .inl (cI, 16, .inl (fun _ => 0))), (q495, .inl (cI, 4, .inl (fun _ => 0))), (q496, .inl (cI, 4, .inl (fun _ => 0))), (q497, .inl (cI, 4, .inl (fun _ => 0))), (q498, .inl (cI, 4, .inl (fun _ => 0))), (q499, .inl (cI, 4, .inl (fun _ => 0))), (q500, .inl (cI, 4, .inl (fun _ => 0))), (q501, .inl (cI, 4, .inl (fun _ => 0)))] H := hP
  have hD : va_D A [(h0, .inr (14, [.int 0, .ref me, .ref q493, .ref q494, .ref q495, .ref q496, .ref q497, .ref q498, .ref q499, .ref q500, .ref q501])), (q493, .inl (cI, 32, .inl (upd (fun _ => 0) (3 : Int32).toNatClampNeg 1))), (q494, .inl (cI, 16, .inl (fun _ => 0))), (q495, .inl (cI, 4, .inl (fun _ => 0))), (q496, .inl (cI, 4, .inl (fun _ => 0))), (q497, .inl (cI, 4, .inl (fun _ => 0))), (q498, .inl (cI, 4, .inl (fun _ => 0))), (q499, .inl (cI, 4, .inl (fun _ => 0))), (q500, .inl (cI, 4, .inl (fun _ => 0))), (q501, .inl (cI, 4, .inl (fun _ => 0)))] := hD
  generalize upd (fun _ => 0) (3 : Int32).toNatClampNeg 1 = f503 at hP hD
  refine lv_iinc (v := 1) (lv' := [(2, .int 1), (0, .ref h0), (1, .ref me)]) hx hb d_Txm_init_93 hl (k := 0) rfl (by decide) (by decide) rfl (fun ls hl => ?_)
  refine lv_goto (tgt := 76) hx hb d_Txm_init_96 (by decide) ?_
  refine lv_iload_n hx hb d_Txm_init_76 rfl (lv_at hl 0 rfl) ?_
  refine lv_iconst (v := 4) hx hb d_Txm_init_77 (by decide) ?_
  refine lv_icmp_ge (tgt := 99) hx hb d_Txm_init_78 (by decide) (fun c_504 => absurd c_504 (by decide)) (fun c_504 => ?_)
  refine lv_aload_n hx hb d_Txm_init_81 rfl (lv_at hl 1 rfl) ?_
  refine va_get (D := D) (ci := 14) (v := .ref q493) (C := R_Txm) (T := F_Txm) (N := 11) hx hb htw i_Txm hown hC.1 hP 0 rfl rfl 2 (by decide) (htw _ k568) (fun _ h9 => h9) rfl d_Txm_init_82 ?_
  refine lv_bipush (v := 8) hx hb d_Txm_init_85 (by decide) ?_
  refine lv_iload_n hx hb d_Txm_init_87 rfl (lv_at hl 0 rfl) ?_
  refine lv_imul hx hb d_Txm_init_88 ?_
  refine wi_c (v := 8) (by decide) ?_
  refine lv_iconst (v := 3) hx hb d_Txm_init_89 (by decide) ?_
  refine lv_iadd hx hb d_Txm_init_90 ?_
  refine wi_c (v := 11) (by decide) ?_
  refine lv_iconst (v := 1) hx hb d_Txm_init_91 (by decide) ?_
  refine va_iast hx hb hC.1 hP hD hS 1 0 rfl rfl (by unfold vp_in; decide) d_Txm_init_92 (fun H locs hP hD hS => ?_)
  have hP : va_P D classes [(h0, .inr (14, [.int 0, .ref me, .ref q493, .ref q494, .ref q495, .ref q496, .ref q497, .ref q498, .ref q499, .ref q500, .ref q501])), (q493, .inl (cI, 32, .inl (upd f503 (11 : Int32).toNatClampNeg 1))), (q494, .inl (cI, 16, .inl (fun _ => 0))), (q495, .inl (cI, 4, .inl (fun _ => 0))), (q496, .inl (cI, 4, .inl (fun _ => 0))), (q497, .inl (cI, 4, .inl (fun _ => 0))), (q498, .inl (cI, 4, .inl (fun _ => 0))), (q499, .inl (cI, 4, .inl (fun _ => 0))), (q500, .inl (cI, 4, .inl (fun _ => 0))), (q501, .inl (cI, 4, .inl (fun _ => 0)))] H := hP
  have hD : va_D A [(h0, .inr (14, [.int 0, .ref me, .ref q493, .ref q494, .ref q495, .ref q496, .ref q497, .ref q498, .ref q499, .ref q500, .ref q501])), (q493, .inl (cI, 32, .inl (upd f503 (11 : Int32).toNatClampNeg 1))), (q494, .inl (cI, 16, .inl (fun _ => 0))), (q495, .inl (cI, 4, .inl (fun _ => 0))), (q496, .inl (cI, 4, .inl (fun _ => 0))), (q497, .inl (cI, 4, .inl (fun _ => 0))), (q498, .inl (cI, 4, .inl (fun _ => 0))), (q499, .inl (cI, 4, .inl (fun _ => 0))), (q500, .inl (cI, 4, .inl (fun _ => 0))), (q501, .inl (cI, 4, .inl (fun _ => 0)))] := hD
  generalize upd f503 (11 : Int32).toNatClampNeg 1 = f505 at hP hD
  refine lv_iinc (v := 2) (lv' := [(2, .int 2), (0, .ref h0), (1, .ref me)]) hx hb d_Txm_init_93 hl (k := 0) rfl (by decide) (by decide) rfl (fun ls hl => ?_)
  refine lv_goto (tgt := 76) hx hb d_Txm_init_96 (by decide) ?_
  refine lv_iload_n hx hb d_Txm_init_76 rfl (lv_at hl 0 rfl) ?_
  refine lv_iconst (v := 4) hx hb d_Txm_init_77 (by decide) ?_
  refine lv_icmp_ge (tgt := 99) hx hb d_Txm_init_78 (by decide) (fun c_506 => absurd c_506 (by decide)) (fun c_506 => ?_)
  refine lv_aload_n hx hb d_Txm_init_81 rfl (lv_at hl 1 rfl) ?_
  refine va_get (D := D) (ci := 14) (v := .ref q493) (C := R_Txm) (T := F_Txm) (N := 11) hx hb htw i_Txm hown hC.1 hP 0 rfl rfl 2 (by decide) (htw _ k568) (fun _ h9 => h9) rfl d_Txm_init_82 ?_
  refine lv_bipush (v := 8) hx hb d_Txm_init_85 (by decide) ?_
  refine lv_iload_n hx hb d_Txm_init_87 rfl (lv_at hl 0 rfl) ?_
  refine lv_imul hx hb d_Txm_init_88 ?_
  refine wi_c (v := 16) (by decide) ?_
  refine lv_iconst (v := 3) hx hb d_Txm_init_89 (by decide) ?_
  refine lv_iadd hx hb d_Txm_init_90 ?_
  refine wi_c (v := 19) (by decide) ?_
  refine lv_iconst (v := 1) hx hb d_Txm_init_91 (by decide) ?_
  refine va_iast hx hb hC.1 hP hD hS 1 0 rfl rfl (by unfold vp_in; decide) d_Txm_init_92 (fun H locs hP hD hS => ?_)
  have hP : va_P D classes [(h0, .inr (14, [.int 0, .ref me, .ref q493, .ref q494, .ref q495, .ref q496, .ref q497, .ref q498, .ref q499, .ref q500, .ref q501])), (q493, .inl (cI, 32, .inl (upd f505 (19 : Int32).toNatClampNeg 1))), (q494, .inl (cI, 16, .inl (fun _ => 0))), (q495, .inl (cI, 4, .inl (fun _ => 0))), (q496, .inl (cI, 4, .inl (fun _ => 0))), (q497, .inl (cI, 4, .inl (fun _ => 0))), (q498, .inl (cI, 4, .inl (fun _ => 0))), (q499, .inl (cI, 4, .inl (fun _ => 0))), (q500, .inl (cI, 4, .inl (fun _ => 0))), (q501, .inl (cI, 4, .inl (fun _ => 0)))] H := hP
  have hD : va_D A [(h0, .inr (14, [.int 0, .ref me, .ref q493, .ref q494, .ref q495, .ref q496, .ref q497, .ref q498, .ref q499, .ref q500, .ref q501])), (q493, .inl (cI, 32, .inl (upd f505 (19 : Int32).toNatClampNeg 1))), (q494, .inl (cI, 16, .inl (fun _ => 0))), (q495, .inl (cI, 4, .inl (fun _ => 0))), (q496, .inl (cI, 4, .inl (fun _ => 0))), (q497, .inl (cI, 4, .inl (fun _ => 0))), (q498, .inl (cI, 4, .inl (fun _ => 0))), (q499, .inl (cI, 4, .inl (fun _ => 0))), (q500, .inl (cI, 4, .inl (fun _ => 0))), (q501, .inl (cI, 4, .inl (fun _ => 0)))] := hD
  generalize upd f505 (19 : Int32).toNatClampNeg 1 = f507 at hP hD
  refine lv_iinc (v := 3) (lv' := [(2, .int 3), (0, .ref h0), (1, .ref me)]) hx hb d_Txm_init_93 hl (k := 0) rfl (by decide) (by decide) rfl (fun ls hl => ?_)
  refine lv_goto (tgt := 76) hx hb d_Txm_init_96 (by decide) ?_
  refine lv_iload_n hx hb d_Txm_init_76 rfl (lv_at hl 0 rfl) ?_
  refine lv_iconst (v := 4) hx hb d_Txm_init_77 (by decide) ?_
  refine lv_icmp_ge (tgt := 99) hx hb d_Txm_init_78 (by decide) (fun c_508 => absurd c_508 (by decide)) (fun c_508 => ?_)
  refine lv_aload_n hx hb d_Txm_init_81 rfl (lv_at hl 1 rfl) ?_
  refine va_get (D := D) (ci := 14) (v := .ref q493) (C := R_Txm) (T := F_Txm) (N := 11) hx hb htw i_Txm hown hC.1 hP 0 rfl rfl 2 (by decide) (htw _ k568) (fun _ h9 => h9) rfl d_Txm_init_82 ?_
  refine lv_bipush (v := 8) hx hb d_Txm_init_85 (by decide) ?_
  refine lv_iload_n hx hb d_Txm_init_87 rfl (lv_at hl 0 rfl) ?_
  refine lv_imul hx hb d_Txm_init_88 ?_
  refine wi_c (v := 24) (by decide) ?_
  refine lv_iconst (v := 3) hx hb d_Txm_init_89 (by decide) ?_
  refine lv_iadd hx hb d_Txm_init_90 ?_
  refine wi_c (v := 27) (by decide) ?_
  refine lv_iconst (v := 1) hx hb d_Txm_init_91 (by decide) ?_
  refine va_iast hx hb hC.1 hP hD hS 1 0 rfl rfl (by unfold vp_in; decide) d_Txm_init_92 (fun H locs hP hD hS => ?_)
  have hP : va_P D classes [(h0, .inr (14, [.int 0, .ref me, .ref q493, .ref q494, .ref q495, .ref q496, .ref q497, .ref q498, .ref q499, .ref q500, .ref q501])), (q493, .inl (cI, 32, .inl (upd f507 (27 : Int32).toNatClampNeg 1))), (q494, .inl (cI, 16, .inl (fun _ => 0))), (q495, .inl (cI, 4, .inl (fun _ => 0))), (q496, .inl (cI, 4, .inl (fun _ => 0))), (q497, .inl (cI, 4, .inl (fun _ => 0))), (q498, .inl (cI, 4, .inl (fun _ => 0))), (q499, .inl (cI, 4, .inl (fun _ => 0))), (q500, .inl (cI, 4, .inl (fun _ => 0))), (q501, .inl (cI, 4, .inl (fun _ => 0)))] H := hP
  have hD : va_D A [(h0, .inr (14, [.int 0, .ref me, .ref q493, .ref q494, .ref q495, .ref q496, .ref q497, .ref q498, .ref q499, .ref q500, .ref q501])), (q493, .inl (cI, 32, .inl (upd f507 (27 : Int32).toNatClampNeg 1))), (q494, .inl (cI, 16, .inl (fun _ => 0))), (q495, .inl (cI, 4, .inl (fun _ => 0))), (q496, .inl (cI, 4, .inl (fun _ => 0))), (q497, .inl (cI, 4, .inl (fun _ => 0))), (q498, .inl (cI, 4, .inl (fun _ => 0))), (q499, .inl (cI, 4, .inl (fun _ => 0))), (q500, .inl (cI, 4, .inl (fun _ => 0))), (q501, .inl (cI, 4, .inl (fun _ => 0)))] := hD
  generalize upd f507 (27 : Int32).toNatClampNeg 1 = f509 at hP hD
  refine lv_iinc (v := 4) (lv' := [(2, .int 4), (0, .ref h0), (1, .ref me)]) hx hb d_Txm_init_93 hl (k := 0) rfl (by decide) (by decide) rfl (fun ls hl => ?_)
  refine lv_goto (tgt := 76) hx hb d_Txm_init_96 (by decide) ?_
  refine lv_iload_n hx hb d_Txm_init_76 rfl (lv_at hl 0 rfl) ?_
  refine lv_iconst (v := 4) hx hb d_Txm_init_77 (by decide) ?_
  refine lv_icmp_ge (tgt := 99) hx hb d_Txm_init_78 (by decide) (fun c_510 => ?_) (fun c_510 => absurd c_510 (by decide))
  refine W.widen (k := 9) (n := 76) (Nat.le_of_ble_eq_true rfl) (Nat.le_of_ble_eq_true rfl) ?_
  have hP9 := hP.sub (ws' := []) [] rfl
  have hD9 := hD.sub (ws' := []) [] (by decide) rfl
  exact W.vret hx hb hr (fun t ht hW => ⟨⟨(), rfl, trivial, by rw [ht]; exact hP9, va_K.moved hW.alike hC.1, hD9⟩, hS.F ht⟩) hS.2.2 d_Txm_init_99

theorem d_Shm_init_0 : decode prog_18_method_1_code 0 = .ok (.aload_n 0, 1) := by decide +kernel
theorem d_Shm_init_1 : decode prog_18_method_1_code 1 = .ok (.invokespecial 1, 3) := by decide +kernel
theorem d_Shm_init_4 : decode prog_18_method_1_code 4 = .ok (.aload_n 0, 1) := by decide +kernel
theorem d_Shm_init_5 : decode prog_18_method_1_code 5 = .ok (.sipush 768, 3) := by decide +kernel
theorem d_Shm_init_8 : decode prog_18_method_1_code 8 = .ok (.newarray .int, 2) := by decide +kernel
theorem d_Shm_init_10 : decode prog_18_method_1_code 10 = .ok (.putfield 7, 3) := by decide +kernel
theorem d_Shm_init_13 : decode prog_18_method_1_code 13 = .ok (.aload_n 0, 1) := by decide +kernel
theorem d_Shm_init_14 : decode prog_18_method_1_code 14 = .ok (.sipush 768, 3) := by decide +kernel
theorem d_Shm_init_17 : decode prog_18_method_1_code 17 = .ok (.newarray .int, 2) := by decide +kernel
theorem d_Shm_init_19 : decode prog_18_method_1_code 19 = .ok (.putfield 13, 3) := by decide +kernel
theorem d_Shm_init_22 : decode prog_18_method_1_code 22 = .ok (.aload_n 0, 1) := by decide +kernel
theorem d_Shm_init_23 : decode prog_18_method_1_code 23 = .ok (.iconst (-1), 1) := by decide +kernel
theorem d_Shm_init_24 : decode prog_18_method_1_code 24 = .ok (.putfield 16, 3) := by decide +kernel
theorem d_Shm_init_27 : decode prog_18_method_1_code 27 = .ok (.aload_n 0, 1) := by decide +kernel
theorem d_Shm_init_28 : decode prog_18_method_1_code 28 = .ok (.bipush 64, 2) := by decide +kernel
theorem d_Shm_init_30 : decode prog_18_method_1_code 30 = .ok (.newarray .int, 2) := by decide +kernel
theorem d_Shm_init_32 : decode prog_18_method_1_code 32 = .ok (.putfield 20, 3) := by decide +kernel
theorem d_Shm_init_35 : decode prog_18_method_1_code 35 = .ok (.aload_n 0, 1) := by decide +kernel
theorem d_Shm_init_36 : decode prog_18_method_1_code 36 = .ok (.bipush 32, 2) := by decide +kernel
theorem d_Shm_init_38 : decode prog_18_method_1_code 38 = .ok (.newarray .int, 2) := by decide +kernel
theorem d_Shm_init_40 : decode prog_18_method_1_code 40 = .ok (.putfield 23, 3) := by decide +kernel
theorem d_Shm_init_43 : decode prog_18_method_1_code 43 = .ok (.aload_n 0, 1) := by decide +kernel
theorem d_Shm_init_44 : decode prog_18_method_1_code 44 = .ok (.bipush 32, 2) := by decide +kernel
theorem d_Shm_init_46 : decode prog_18_method_1_code 46 = .ok (.newarray .int, 2) := by decide +kernel
theorem d_Shm_init_48 : decode prog_18_method_1_code 48 = .ok (.putfield 26, 3) := by decide +kernel
theorem d_Shm_init_51 : decode prog_18_method_1_code 51 = .ok (.aload_n 0, 1) := by decide +kernel
theorem d_Shm_init_52 : decode prog_18_method_1_code 52 = .ok (.sipush 128, 3) := by decide +kernel
theorem d_Shm_init_55 : decode prog_18_method_1_code 55 = .ok (.newarray .int, 2) := by decide +kernel
theorem d_Shm_init_57 : decode prog_18_method_1_code 57 = .ok (.putfield 29, 3) := by decide +kernel
theorem d_Shm_init_60 : decode prog_18_method_1_code 60 = .ok (.aload_n 0, 1) := by decide +kernel
theorem d_Shm_init_61 : decode prog_18_method_1_code 61 = .ok (.bipush 12, 2) := by decide +kernel
theorem d_Shm_init_63 : decode prog_18_method_1_code 63 = .ok (.newarray .int, 2) := by decide +kernel
theorem d_Shm_init_65 : decode prog_18_method_1_code 65 = .ok (.putfield 32, 3) := by decide +kernel
theorem d_Shm_init_68 : decode prog_18_method_1_code 68 = .ok (.aload_n 0, 1) := by decide +kernel
theorem d_Shm_init_69 : decode prog_18_method_1_code 69 = .ok (.iconst 4, 1) := by decide +kernel
theorem d_Shm_init_70 : decode prog_18_method_1_code 70 = .ok (.newarray .int, 2) := by decide +kernel
theorem d_Shm_init_72 : decode prog_18_method_1_code 72 = .ok (.putfield 35, 3) := by decide +kernel
theorem d_Shm_init_75 : decode prog_18_method_1_code 75 = .ok (.aload_n 0, 1) := by decide +kernel
theorem d_Shm_init_76 : decode prog_18_method_1_code 76 = .ok (.sipush 256, 3) := by decide +kernel
theorem d_Shm_init_79 : decode prog_18_method_1_code 79 = .ok (.newarray .int, 2) := by decide +kernel
theorem d_Shm_init_81 : decode prog_18_method_1_code 81 = .ok (.putfield 38, 3) := by decide +kernel
theorem d_Shm_init_84 : decode prog_18_method_1_code 84 = .ok (.aload_n 0, 1) := by decide +kernel
theorem d_Shm_init_85 : decode prog_18_method_1_code 85 = .ok (.sipush 256, 3) := by decide +kernel
theorem d_Shm_init_88 : decode prog_18_method_1_code 88 = .ok (.newarray .int, 2) := by decide +kernel
theorem d_Shm_init_90 : decode prog_18_method_1_code 90 = .ok (.putfield 41, 3) := by decide +kernel
theorem d_Shm_init_93 : decode prog_18_method_1_code 93 = .ok (.aload_n 0, 1) := by decide +kernel
theorem d_Shm_init_94 : decode prog_18_method_1_code 94 = .ok (.aload_n 1, 1) := by decide +kernel
theorem d_Shm_init_95 : decode prog_18_method_1_code 95 = .ok (.putfield 44, 3) := by decide +kernel
theorem d_Shm_init_98 : decode prog_18_method_1_code 98 = .ok (.aload_n 0, 1) := by decide +kernel
theorem d_Shm_init_99 : decode prog_18_method_1_code 99 = .ok (.aload_n 2, 1) := by decide +kernel
theorem d_Shm_init_100 : decode prog_18_method_1_code 100 = .ok (.putfield 47, 3) := by decide +kernel
theorem d_Shm_init_103 : decode prog_18_method_1_code 103 = .ok (.return_, 1) := by decide +kernel
set_option maxHeartbeats 4000000 in
set_option maxRecDepth 100000 in
theorem c_Shm_init (l : Launch) (D : va_G) (cI cL : ClassId) (B sz : Nat) (h0 : Nat) (me : Nat) (un : Nat) : Met l y_Shm_init ((Cond.code y_Shm_init prog_18_method_1_code 3 none) :: tw) ({ frames := 20, cells := 10, slots := 2320, locals := 2000 }) (va_Pc [.ref h0, .ref me, .ref un] (wP D cI cL B sz [(h0, .inr (15, [.int 0, .null, .null, .null, .null, .int 0, .int 0, .int 0, .int 0, .null, .null, .null, .null, .null, .null, .int 0, .null, .null]))])) (va_Qv (S := Unit) (fun _ => True) (fun u => wB D cI cL (va_A [(h0, .inr (15, [.int 0, .null, .null, .null, .null, .int 0, .int 0, .int 0, .int 0, .null, .null, .null, .null, .null, .null, .int 0, .null, .null]))] sz) ((fun _ : Unit => []) u)) (va_A [(h0, .inr (15, [.int 0, .null, .null, .null, .null, .int 0, .int 0, .int 0, .int 0, .null, .null, .null, .null, .null, .null, .int 0, .null, .null]))] sz)) 10 2320 (va_A [(h0, .inr (15, [.int 0, .null, .null, .null, .null, .int 0, .int 0, .int 0, .int 0, .null, .null, .null, .null, .null, .null, .int 0, .null, .null]))] sz) := by
  refine Met.ofW (cc := prog_18_method_1_code) (maxL := 3) (ret := none) (by decide) rfl ?_
  intro p e s m args below meth c s₁ B0 hml hv
  obtain ⟨rfl, hv⟩ := hv
  have hx := B0.exec
  have hb := B0.bytes
  have hr := B0.returns
  have hts := atoms_spec (ws := (Cond.code y_Shm_init prog_18_method_1_code 3 none) :: tw) B0.pre
  have htw : ∀ w ∈ tw, w.before _ s = true := fun w hw => hts w (List.mem_cons_of_mem _ hw)
  have hown : s.vm.findClass "DrawingMachineModel$ShaderMachineModel" = some m.cls := findClass_of_methodNamed B0.named
  have hlocks := B0.notSynchronized
  have hin : meth.name = "<init>" := (name_of_methodNamed B0.named B0.method).1
  obtain ⟨hC, hP, hD, hsz⟩ := wC_init hv
  subst hsz
  generalize hAe : va_A [(h0, .inr (15, [.int 0, .null, .null, .null, .null, .int 0, .int 0, .int 0, .int 0, .null, .null, .null, .null, .null, .null, .int 0, .null, .null]))] s.heap.size = A at hC hD ⊢
  have hS : va_S A s.heap s.heap [] := va_S.rf
  have hl := lv_entry ([.ref h0, .ref me, .ref un]) (n := 3) (Nat.le_of_ble_eq_true rfl)
  rw [lg_entry_eq]
  generalize (lg_sl ([.ref h0, .ref me, .ref un]) ++ List.replicate (3 - (lg_sl ([.ref h0, .ref me, .ref un])).length) Slot.unset).toArray = ls at hl ⊢
  have hl : lv_has ls 3 [(0, .ref h0), (1, .ref me), (2, .ref un)] := hl
  refine lv_aload_n hx hb d_Shm_init_0 rfl (lv_at hl 0 rfl) ?_
  refine W.objInit hx hb hown (htw _ k578) (htw _ k242) (htw _ k243) rfl (by rw [hml]; exact hl.1) rfl d_Shm_init_1 (Nat.le_of_ble_eq_true rfl) (Nat.le_of_ble_eq_true rfl) ?_
  refine W.eq (g2 := F0 m 4 ls []) rfl ?_
  refine lv_aload_n hx hb d_Shm_init_4 rfl (lv_at hl 0 rfl) ?_
  refine lv_sipush (v := 768) hx hb d_Shm_init_5 (by decide) ?_
  refine wna_i hx hb (htw _ k238) hC hP hD hS (N := 768) (by decide) (by omega) (Nat.le_of_ble_eq_true rfl) (Nat.le_of_ble_eq_true rfl) d_Shm_init_8 (fun q511 H hP hD hS => ?_)
  have hP : va_P D classes [(h0, .inr (15, [.int 0, .null, .null, .null, .null, .int 0, .int 0, .int 0, .int 0, .null, .null, .null, .null, .null, .null, .int 0, .null, .null])), (q511, .inl (cI, 768, .inl (fun _ => 0)))] H := hP
  have hD : va_D A [(h0, .inr (15, [.int 0, .null, .null, .null, .null, .int 0, .int 0, .int 0, .int 0, .null, .null, .null, .null, .null, .null, .int 0, .null, .null])), (q511, .inl (cI, 768, .inl (fun _ => 0)))] := hD
  refine W.widen (k := 1) (n := 768) (by omega) (by omega) ?_
  refine va_putF (D := D) (ci := 15) (v := .ref q511) (ty := .array .int) (C := R_Shm) (T := F_Shm) (N := 18) hx hb htw i_Shm t_Shm t_Shm_ok n_Shm hown hC.1 hP hD hS 0 rfl rfl 3 (by decide) (htw _ k579) (fun _ h9 => h9) rfl hin rfl (by decide +kernel) rfl rfl (Nat.le_of_ble_eq_true rfl) d_Shm_init_10 (fun H locs hP hD hS => ?_)
  have hP : va_P D classes [(h0, .inr (15, [.int 0, .null, .null, .ref q511, .null, .int 0, .int 0, .int 0, .int 0, .null, .null, .null, .null, .null, .null, .int 0, .null, .null])), (q511, .inl (cI, 768, .inl (fun _ => 0)))] H := hP
  have hD : va_D A [(h0, .inr (15, [.int 0, .null, .null, .ref q511, .null, .int 0, .int 0, .int 0, .int 0, .null, .null, .null, .null, .null, .null, .int 0, .null, .null])), (q511, .inl (cI, 768, .inl (fun _ => 0)))] := hD
  refine lv_aload_n hx hb d_Shm_init_13 rfl (lv_at hl 0 rfl) ?_
  refine lv_sipush (v := 768) hx hb d_Shm_init_14 (by decide) ?_
  refine wna_i hx hb (htw _ k238) hC hP hD hS (N := 768) (by decide) (by omega) (Nat.le_of_ble_eq_true rfl) (Nat.le_of_ble_eq_true rfl) d_Shm_init_17 (fun q512 H hP hD hS => ?_)
  have hP : va_P D classes [(h0, .inr (15, [.int 0, .null, .null, .ref q511, .null, .int 0, .int 0, .int 0, .int 0, .null, .null, .null, .null, .null, .null, .int 0, .null, .null])), (q511, .inl (cI, 768, .inl (fun _ => 0))), (q512, .inl (cI, 768, .inl (fun _ => 0)))] H := hP
  have hD : va_D A [(h0, .inr (15, [.int 0, .null, .null, .ref q511, .null, .int 0, .int 0, .int 0, .int 0, .null, .null, .null, .null, .null, .null, .int 0, .null, .null])), (q511, .inl (cI, 768, .inl (fun _ => 0))), (q512, .inl (cI, 768, .inl (fun _ => 0)))] := hD
  refine W.widen (k := 2) (n := 1536) (by omega) (by omega) ?_
  refine va_putF (D := D) (ci := 15) (v := .ref q512) (ty := .array .int) (C := R_Shm) (T := F_Shm) (N := 18) hx hb htw i_Shm t_Shm t_Shm_ok n_Shm hown hC.1 hP hD hS 0 rfl rfl 4 (by decide) (htw _ k580) (fun _ h9 => h9) rfl hin rfl (by decide +kernel) rfl rfl (Nat.le_of_ble_eq_true rfl) d_Shm_init_19 (fun H locs hP hD hS => ?_)
  have hP : va_P D classes [(h0, .inr (15, [.int 0, .null, .null, .ref q511, .ref q512, .int 0, .int 0, .int 0, .int 0, .null, .null, .null, .null, .null, .null, .int 0, .null, .null])), (q511, .inl (cI, 768, .inl (fun _ => 0))), (q512, .inl (cI, 768, .inl (fun _ => 0)))] H := hP
  have hD : va_D A [(h0, .inr (15, [.int 0, .null, .null, .ref q511, .ref q512, .int 0, .int 0, .int 0, .int 0, .null, .null, .null, .null, .null, .null, .int 0, .null, .null])), (q511, .inl (cI, 768, .inl (fun _ => 0))), (q512, .inl (cI, 768, .inl (fun _ => 0)))] := hD
  refine lv_aload_n hx hb d_Shm_init_22 rfl (lv_at hl 0 rfl) ?_
  refine lv_iconst (v := (-1)) hx hb d_Shm_init_23 (by decide) ?_
  refine va_put (D := D) (ci := 15) (v := .int (-1)) (ty := .int) (C := R_Shm) (T := F_Shm) (N := 18) hx hb htw i_Shm t_Shm t_Shm_ok n_Shm hown hC.1 hP hD hS 0 rfl rfl 7 (by decide) (htw _ k581) (fun _ h9 => h9) rfl (by decide +kernel) rfl rfl (Nat.le_of_ble_eq_true rfl) d_Shm_init_24 (fun H locs hP hD hS => ?_)
  have hP : va_P D classes [(h0, .inr (15, [.int 0, .null, .null, .ref q511, .ref q512, .int 0, .int 0, .int (-1), .int 0, .null, .null, .null, .null, .null, .null, .int 0, .null, .null])), (q511, .inl (cI, 768, .inl (fun _ => 0))), (q512, .inl (cI, 768, .inl (fun _ => 0)))] H := hP
  have hD : va_D A [(h0, .inr (15, [.int 0, .null, .null, .ref q511, .ref q512, .int 0, .int 0, .int (-1), .int 0, .null, .null, .null, .null, .null, .null, .int 0, .null, .null])), (q511, .inl (cI, 768, .inl (fun _ => 0))), (q512, .inl (cI, 768, .inl (fun _ => 0)))] := hD
  refine lv_aload_n hx hb d_Shm_init_27 rfl (lv_at hl 0 rfl) ?_
  refine lv_bipush (v := 64) hx hb d_Shm_init_28 (by decide) ?_
  refine wna_i hx hb (htw _ k238) hC hP hD hS (N := 64) (by decide) (by omega) (Nat.le_of_ble_eq_true rfl) (Nat.le_of_ble_eq_true rfl) d_Shm_init_30 (fun q513 H hP hD hS => ?_)
  have hP : va_P D classes [(h0, .inr (15, [.int 0, .null, .null, .ref q511, .ref q512, .int 0, .int 0, .int (-1), .int 0, .null, .null, .null, .null, .null, .null, .int 0, .null, .null])), (q511, .inl (cI, 768, .inl (fun _ => 0))), (q512, .inl (cI, 768, .inl (fun _ => 0))), (q513, .inl (cI, 64, .inl (fun _ => 0)))] H := hP
  have hD : va_D A [(h0, .inr (15, [.int 0, .null, .null, .ref q511, .ref q512, .int 0, .int 0, .int (-1), .int 0, .null, .null, .null, .null, .null, .null, .int 0, .null, .null])), (q511, .inl (cI, 768, .inl (fun _ => 0))), (q512, .inl (cI, 768, .inl (fun _ => 0))), (q513, .inl (cI, 64, .inl (fun _ => 0)))] := hD
  refine W.widen (k := 3) (n := 1600) (by omega) (by omega) ?_
  refine va_putF (D := D) (ci := 15) (v := .ref q513) (ty := .array .int) (C := R_Shm) (T := F_Shm) (N := 18) hx hb htw i_Shm t_Shm t_Shm_ok n_Shm hown hC.1 hP hD hS 0 rfl rfl 9 (by decide) (htw _ k582) (fun _ h9 => h9) rfl hin rfl (by decide +kernel) rfl rfl (Nat.le_of_ble_eq_true rfl) d_Shm_init_32 (fun H locs hP hD hS => ?_)
  have hP : va_P D classes [(h0, .inr (15, [.int 0, .null, .null, .ref q511, .ref q512, .int 0, .int 0, .int (-1), .int 0, .ref q513, .null, .null, .null, .null, .null, .int 0, .null, .null])), (q511, .inl (cI, 768, .inl (fun _ => 0))), (q512, .inl (cI, 768, .inl (fun _ => 0))), (q513, .inl (cI, 64, .inl (fun _ => 0)))] H := hP
  have hD : va_D A [(h0, .inr (15, [.int 0, .null, .null, .ref q511, .ref q512, .int 0, .int 0, .int (-1), .int 0, .ref q513, .null, .null, .null, .null, .null, .int 0, .null, .null])), (q511, .inl (cI, 768, .inl (fun _ => 0))), (q512, .inl (cI, 768, .inl (fun _ => 0))), (q513, .inl (cI, 64, .inl (fun _ => 0)))] := hD
  refine lv_aload_n hx hb d_Shm_init_35 rfl (lv_at hl 0 rfl) ?_
  refine lv_bipush (v := 32) hx hb d_Shm_init_36 (by decide) ?_
  refine wna_i hx hb (htw _ k238) hC hP hD hS (N := 32) (by decide) (by omega) (Nat.le_of_ble_eq_true rfl) (Nat.le_of_ble_eq_true rfl) d_Shm_init_38 (fun q514 H hP hD hS => ?_)
  have hP : va_P D classes [(h0, .inr (15, [.int 0, .null, .null, .ref q511, .ref q512, .int 0, .int 0, .int (-1), .int 0, .ref q513, .null, .null, .null, .null, .null, .int 0, .null, .null])), (q511, .inl (cI, 768, .inl (fun _ => 0))), (q512, .inl (cI, 768, .inl (fun _ => 0))), (q513, .inl (cI, 64, .inl (fun _ => 0))), (q514, .inl (cI, 32, .inl (fun _ => 0)))] H := hP
  have hD : va_D A [(h0, .inr (15, [.int 0, .null, .null, .ref q511, .ref q512, .int 0, .int 0, .int (-1), .int 0, .ref q513, .null, .null, .null, .null, .null, .int 0, .null, .null])), (q511, .inl (cI, 768, .inl (fun _ => 0))), (q512, .inl (cI, 768, .inl (fun _ => 0))), (q513, .inl (cI, 64, .inl (fun _ => 0))), (q514, .inl (cI, 32, .inl (fun _ => 0)))] := hD
  refine W.widen (k := 4) (n := 1632) (by omega) (by omega) ?_
  refine va_putF (D := D) (ci := 15) (v := .ref q514) (ty := .array .int) (C := R_Shm) (T := F_Shm) (N := 18) hx hb htw i_Shm t_Shm t_Shm_ok n_Shm hown hC.1 hP hD hS 0 rfl rfl 10 (by decide) (htw _ k583) (fun _ h9 => h9) rfl hin rfl (by decide +kernel) rfl rfl (Nat.le_of_ble_eq_true rfl) d_Shm_init_40 (fun H locs hP hD hS => ?_)
  have hP : va_P D classes [(h0, .inr (15, [.int 0, .null, .null, .ref q511, .ref q512, .int 0, .int 0, .int (-1), .int 0, .ref q513, .ref q514, .null, .null, .null, .null, .int 0, .null, .null])), (q511, .inl (cI, 768, .inl (fun _ => 0))), (q512, .inl (cI, 768, .inl (fun _ => 0))), (q513, .inl (cI, 64, .inl (fun _ => 0))), (q514, .inl (cI, 32, .inl (fun _ => 0)))] H := hP
  have hD : va_D A [(h0, .inr (15, [.int 0, .null, .null, .ref q511, .ref q512, .int 0, .int 0, .int (-1), .int 0, .ref q513, .ref q514, .null, .null, .null, .null, .int 0, .null, .null])), (q511, .inl (cI, 768, .inl (fun _ => 0))), (q512, .inl (cI, 768, .inl (fun _ => 0))), (q513, .inl (cI, 64, .inl (fun _ => 0))), (q514, .inl (cI, 32, .inl (fun _ => 0)))] := hD
  refine lv_aload_n hx hb d_Shm_init_43 rfl (lv_at hl 0 rfl) ?_
  refine lv_bipush (v := 32) hx hb d_Shm_init_44 (by decide) ?_
  refine wna_i hx hb (htw _ k238) hC hP hD hS (N := 32) (by decide) (by omega) (Nat.le_of_ble_eq_true rfl) (Nat.le_of_ble_eq_true rfl) d_Shm_init_46 (fun q515 H hP hD hS => ?_)
  have hP : va_P D classes [(h0, .inr (15, [.int 0, .null, .null, .ref q511, .ref q512, .int 0, .int 0, .int (-1), .int 0, .ref q513, .ref q514, .null, .null, .null, .null, .int 0, .null, .null])), (q511, .inl (cI, 768, .inl (fun _ => 0))), (q512, .inl (cI, 768, .inl (fun _ => 0))), (q513, .inl (cI, 64, .inl (fun _ => 0))), (q514, .inl (cI, 32, .inl (fun _ => 0))), (q515, .inl (cI, 32, .inl (fun _ => 0)))] H := hP
  have hD : va_D A [(h0, .inr (15, [.int 0, .null, .null, .ref q511, .ref q512, .int 0, .int 0, .int (-1), .int 0, .ref q513, .ref q514, .null, .null, .null, .null, .int 0, .null, .null])), (q511, .inl (cI, 768, .inl (fun _ => 0))), (q512, .inl (cI, 768, .inl (fun _ => 0))), (q513, .inl (cI, 64, .inl (fun _ => 0))), (q514, .inl (cI, 32, .inl (fun _ => 0))), (q515, .inl (cI, 32, .inl (fun _ => 0)))] := hD
  refine W.widen (k := 5) (n := 1664) (by omega) (by omega) ?_
  refine va_putF (D := D) (ci := 15) (v := .ref q515) (ty := .array .int) (C := R_Shm) (T := F_Shm) (N := 18) hx hb htw i_Shm t_Shm t_Shm_ok n_Shm hown hC.1 hP hD hS 0 rfl rfl 11 (by decide) (htw _ k584) (fun _ h9 => h9) rfl hin rfl (by decide +kernel) rfl rfl (Nat.le_of_ble_eq_true rfl) d_Shm_init_48 (fun H locs hP hD hS => ?_)
  have hP : va_P D classes [(h0, .inr (15, [.int 0, .null, .null, .ref q511, .ref q512, .int 0, .int 0, .int (-1), .int 0, .ref q513, .ref q514, .ref q515, .null, .null, .null, .int 0, .null, .null])), (q511, .inl (cI, 768, .inl (fun _ => 0))), (q512, .inl (cI, 768, .inl (fun _ => 0))), (q513, .inl (cI, 64, .inl (fun _ => 0))), (q514, .inl (cI, 32, .inl (fun _ => 0))), (q515, .inl (cI, 32, .inl (fun _ => 0)))] H := hP
  have hD : va_D A [(h0, .inr (15, [.int 0, .null, .null, .ref q511, .ref q512, .int 0, .int 0, .int (-1), .int 0, .ref q513, .ref q514, .ref q515, .null, .null, .null, .int 0, .null, .null])), (q511, .inl (cI, 768, .inl (fun _ => 0))), (q512, .inl (cI, 768, .inl (fun _ => 0))), (q513, .inl (cI, 64, .inl (fun _ => 0))), (q514, .inl (cI, 32, .inl (fun _ => 0))), (q515, .inl (cI, 32, .inl (fun _ => 0)))] := hD
  refine lv_aload_n hx hb d_Shm_init_51 rfl (lv_at hl 0 rfl) ?_
  refine lv_sipush (v := 128) hx hb d_Shm_init_52 (by decide) ?_
  refine wna_i hx hb (htw _ k238) hC hP hD hS (N := 128) (by decide) (by omega) (Nat.le_of_ble_eq_true rfl) (Nat.le_of_ble_eq_true rfl) d_Shm_init_55 (fun q516 H hP hD hS => ?_)
  have hP : va_P D classes [(h0, .inr (15, [.int 0, .null, .null, .ref q511, .ref q512, .int 0, .int 0, .int (-1), .int 0, .ref q513, .ref q514, .ref q515, .null, .null, .null, .int 0, .null, .null])), (q511, .inl (cI, 768, .inl (fun _ => 0))), (q512, .inl (cI, 768, .inl (fun _ => 0))), (q513, .inl (cI, 64, .inl (fun _ => 0))), (q514, .inl (cI, 32, .inl (fun _ => 0))), (q515, .inl (cI, 32, .inl (fun _ => 0))), (q516, .inl (cI, 128, .inl (fun _ => 0)))] H := hP
  have hD : va_D A [(h0, .inr (15, [.int 0, .null, .null, .ref q511, .ref q512, .int 0, .int 0, .int (-1), .int 0, .ref q513, .ref q514, .ref q515, .null, .null, .null, .int 0, .null, .null])), (q511, .inl (cI, 768, .inl (fun _ => 0))), (q512, .inl (cI, 768, .inl (fun _ => 0))), (q513, .inl (cI, 64, .inl (fun _ => 0))), (q514, .inl (cI, 32, .inl (fun _ => 0))), (q515, .inl (cI, 32, .inl (fun _ => 0))), (q516, .inl (cI, 128, .inl (fun _ => 0)))] := hD
  refine W.widen (k := 6) (n := 1792) (by omega) (by omega) ?_
  refine va_putF (D := D) (ci := 15) (v := .ref q516) (ty := .array .int) (C := R_Shm) (T := F_Shm) (N := 18) hx hb htw i_Shm t_Shm t_Shm_ok n_Shm hown hC.1 hP hD hS 0 rfl rfl 12 (by decide) (htw _ k585) (fun _ h9 => h9) rfl hin rfl (by decide +kernel) rfl rfl (Nat.le_of_ble_eq_true rfl) d_Shm_init_57 (fun H locs hP hD hS => ?_)
  have hP : va_P D classes [(h0, .inr (15, [.int 0, .null, .null, .ref q511, .ref q512, .int 0, .int 0, .int (-1), .int 0, .ref q513, .ref q514, .ref q515, .ref q516, .null, .null, .int 0, .null, .null])), (q511, .inl (cI, 768, .inl (fun _ => 0))), (q512, .inl (cI, 768, .inl (fun _ => 0))), (q513, .inl (cI, 64, .inl (fun _ => 0))), (q514, .inl (cI, 32, .inl (fun _ => 0))), (q515, .inl (cI, 32, .inl (fun _ => 0))), (q516, .inl (cI, 128, .inl (fun _ => 0)))] H := hP
  have hD : va_D A [(h0, .inr (15, [.int 0, .null, .null, .ref q511, .ref q512, .int 0, .int 0, .int (-1), .int 0, .ref q513, .ref q514, .ref q515, .ref q516, .null, .null, .int 0, .null, .null])), (q511, .inl (cI, 768, .inl (fun _ => 0))), (q512, .inl (cI, 768, .inl (fun _ => 0))), (q513, .inl (cI, 64, .inl (fun _ => 0))), (q514, .inl (cI, 32, .inl (fun _ => 0))), (q515, .inl (cI, 32, .inl (fun _ => 0))), (q516, .inl (cI, 128, .inl (fun _ => 0)))] := hD
  refine lv_aload_n hx hb d_Shm_init_60 rfl (lv_at hl 0 rfl) ?_
  refine lv_bipush (v := 12) hx hb d_Shm_init_61 (by decide) ?_
  refine wna_i hx hb (htw _ k238) hC hP hD hS (N := 12) (by decide) (by omega) (Nat.le_of_ble_eq_true rfl) (Nat.le_of_ble_eq_true rfl) d_Shm_init_63 (fun q517 H hP hD hS => ?_)
  have hP : va_P D classes [(h0, .inr (15, [.int 0, .null, .null, .ref q511, .ref q512, .int 0, .int 0, .int (-1), .int 0, .ref q513, .ref q514, .ref q515, .ref q516, .null, .null, .int 0, .null, .null])), (q511, .inl (cI, 768, .inl (fun _ => 0))), (q512, .inl (cI, 768, .inl (fun _ => 0))), (q513, .inl (cI, 64, .inl (fun _ => 0))), (q514, .inl (cI, 32, .inl (fun _ => 0))), (q515, .inl (cI, 32, .inl (fun _ => 0))), (q516, .inl (cI, 128, .inl (fun _ => 0))), (q517, .inl (cI, 12, .inl (fun _ => 0)))] H := hP
  have hD : va_D A [(h0, .inr (15, [.int 0, .null, .null, .ref q511, .ref q512, .int 0, .int 0, .int (-1), .int 0, .ref q513, .ref q514, .ref q515, .ref q516, .null, .null, .int 0, .null, .null])), (q511, .inl (cI, 768, .inl (fun _ => 0))), (q512, .inl (cI, 768, .inl (fun _ => 0))), (q513, .inl (cI, 64, .inl (fun _ => 0))), (q514, .inl (cI, 32, .inl (fun _ => 0))), (q515, .inl (cI, 32, .inl (fun _ => 0))), (q516, .inl (cI, 128, .inl (fun _ => 0))), (q517, .inl (cI, 12, .inl (fun _ => 0)))] := hD
  refine W.widen (k := 7) (n := 1804) (by omega) (by omega) ?_
  refine va_putF (D := D) (ci := 15) (v := .ref q517) (ty := .array .int) (C := R_Shm) (T := F_Shm) (N := 18) hx hb htw i_Shm t_Shm t_Shm_ok n_Shm hown hC.1 hP hD hS 0 rfl rfl 13 (by decide) (htw _ k586) (fun _ h9 => h9) rfl hin rfl (by decide +kernel) rfl rfl (Nat.le_of_ble_eq_true rfl) d_Shm_init_65 (fun H locs hP hD hS => ?_)
  have hP : va_P D classes [(h0, .inr (15, [.int 0, .null, .null, .ref q511, .ref q512, .int 0, .int 0, .int (-1), .int 0, .ref q513, .ref q514, .ref q515, .ref q516, .ref q517, .null, .int 0, .null, .null])), (q511, .inl (cI, 768, .inl (fun _ => 0))), (q512, .inl (cI, 768, .inl (fun _ => 0))), (q513, .inl (cI, 64, .inl (fun _ => 0))), (q514, .inl (cI, 32, .inl (fun _ => 0))), (q515, .inl (cI, 32, .inl (fun _ => 0))), (q516, .inl (cI, 128, .inl (fun _ => 0))), (q517, .inl (cI, 12, .inl (fun _ => 0)))] H := hP
  have hD : va_D A [(h0, .inr (15, [.int 0, .null, .null, .ref q511, .ref q512, .int 0, .int 0, .int (-1), .int 0, .ref q513, .ref q514, .ref q515, .ref q516, .ref q517, .null, .int 0, .null, .null])), (q511, .inl (cI, 768, .inl (fun _ => 0))), (q512, .inl (cI, 768, .inl (fun _ => 0))), (q513, .inl (cI, 64, .inl (fun _ => 0))), (q514, .inl (cI, 32, .inl (fun _ => 0))), (q515, .inl (cI, 32, .inl (fun _ => 0))), (q516, .inl (cI, 128, .inl (fun _ => 0))), (q517, .inl (cI, 12, .inl (fun _ => 0)))] := hD
  refine lv_aload_n hx hb d_Shm_init_68 rfl (lv_at hl 0 rfl) ?_
  refine lv_iconst (v := 4) hx hb d_Shm_init_69 (by decide) ?_
  refine wna_i hx hb (htw _ k238) hC hP hD hS (N := 4) (by decide) (by omega) (Nat.le_of_ble_eq_true rfl) (Nat.le_of_ble_eq_true rfl) d_Shm_init_70 (fun q518 H hP hD hS => ?_)
  have hP : va_P D classes [(h0, .inr (15, [.int 0, .null, .null, .ref q511, .ref q512, .int 0, .int 0, .int (-1), .int 0, .ref q513, .ref q514, .ref q515, .ref q516, .ref q517, .null, .int 0, .null, .null])), (q511, .inl (cI, 768, .inl (fun _ => 0))), (q512, .inl (cI, 768, .inl (fun _ => 0))), (q513, .inl (cI, 64, .inl (fun _ => 0))), (q514, .inl (cI, 32, .inl (fun _ => 0))), (q515, .inl (cI, 32, .inl (fun _ => 0))), (q516, .inl (cI, 128, .inl (fun _ => 0))), (q517, .inl (cI, 12, .inl (fun _ => 0))), (q518, .inl (cI, 4, .inl (fun _ => 0)))] H := hP
  have hD : va_D A [(h0, .inr (15, [.int 0, .null, .null, .ref q511, .ref q512, .int 0, .int 0, .int (-1), .int 0, .ref q513, .ref q514, .ref q515, .ref q516, .ref q517, .null, .int 0, .null, .null])), (q511, .inl (cI, 768, .inl (fun _ => 0))), (q512, .inl (cI, 768, .inl (fun _ => 0))), (q513, .inl (cI, 64, .inl (fun _ => 0))), (q514, .inl (cI, 32, .inl (fun _ => 0))), (q515, .inl (cI, 32, .inl (fun _ => 0))), (q516, .inl (cI, 128, .inl (fun _ => 0))), (q517, .inl (cI, 12, .inl (fun _ => 0))), (q518, .inl (cI, 4, .inl (fun _ => 0)))] := hD
  refine W.widen (k := 8) (n := 1808) (by omega) (by omega) ?_
  refine va_putF (D := D) (ci := 15) (v := .ref q518) (ty := .array .int) (C := R_Shm) (T := F_Shm) (N := 18) hx hb htw i_Shm t_Shm t_Shm_ok n_Shm hown hC.1 hP hD hS 0 rfl rfl 14 (by decide) (htw _ k587) (fun _ h9 => h9) rfl hin rfl (by decide +kernel) rfl rfl (Nat.le_of_ble_eq_true rfl) d_Shm_init_72 (fun H locs hP hD hS => ?_)
  have hP : va_P D classes [(h0, .inr (15, [.int 0, .null, .null, .ref q511, .ref q512, .int 0, .int 0, .int (-1), .int 0, .ref q513, .ref q514, .ref q515, .ref q516, .ref q517, .ref q518, .int 0, .null, .null])), (q511, .inl (cI, 768, .inl (fun _ => 0))), (q512, .inl (cI, 768, .inl (fun _ => 0))), (q513, .inl (cI, 64, .inl (fun _ => 0))), (q514, .inl (cI, 32, .inl (fun _ => 0))), (q515, .inl (cI, 32, .inl (fun _ => 0))), (q516, .inl (cI, 128, .inl (fun _ => 0))), (q517, .inl (cI, 12, .inl (fun _ => 0))), (q518, .inl (cI, 4, .inl (fun _ => 0)))] H := hP
  have hD : va_D A [(h0, .inr (15, [.int 0, .null, .null, .ref q511, .ref q512, .int 0, .int 0, .int (-1), .int 0, .ref q513, .ref q514, .ref q515, .ref q516, .ref q517, .ref q518, .int 0, .null, .null])), (q511, .inl (cI, 768, .inl (fun _ => 0))), (q512, .inl (cI, 768, .inl (fun _ => 0))), (q513, .inl (cI, 64, .inl (fun _ => 0))), (q514, .inl (cI, 32, .inl (fun _ => 0))), (q515, .inl (cI, 32, .inl (fun _ => 0))), (q516, .inl (cI, 128, .inl (fun _ => 0))), (q517, .inl (cI, 12, .inl (fun _ => 0))), (q518, .inl (cI, 4, .inl (fun _ => 0)))] := hD
  refine lv_aload_n hx hb d_Shm_init_75 rfl (lv_at hl 0 rfl) ?_
  refine lv_sipush (v := 256) hx hb d_Shm_init_76 (by decide) ?_
  refine wna_i hx hb (htw _ k238) hC hP hD hS (N := 256) (by decide) (by omega) (Nat.le_of_ble_eq_true rfl) (Nat.le_of_ble_eq_true rfl) d_Shm_init_79 (fun q519 H hP hD hS => ?_)
  have hP : va_P D classes [(h0, .inr (15, [.int 0, .null, .null, .ref q511, .ref q512, .int 0, .int 0, .int (-1), .int 0, .ref q513, .ref q514, .ref q515, .ref q516, .ref q517, .ref q518, .int 0, .null, .null])), (q511, .inl (cI, 768, .inl (fun _ => 0))), (q512, .inl (cI, 768, .inl (fun _ => 0))), (q513, .inl (cI, 64, .inl (fun _ => 0))), (q514, .inl (cI, 32, .inl (fun _ => 0))), (q515, .inl (cI, 32, .inl (fun _ => 0))), (q516, .inl (cI, 128, .inl (fun _ => 0))), (q517, .inl (cI, 12, .inl (fun _ => 0))), (q518, .inl (cI, 4, .inl (fun _ => 0))), (q519, .inl (cI, 256, .inl (fun _ => 0)))] H := hP
  have hD : va_D A [(h0, .inr (15, [.int 0, .null, .null, .ref q511, .ref q512, .int 0, .int 0, .int (-1), .int 0, .ref q513, .ref q514, .ref q515, .ref q516, .ref q517, .ref q518, .int 0, .null, .null])), (q511, .inl (cI, 768, .inl (fun _ => 0))), (q512, .inl (cI, 768, .inl (fun _ => 0))), (q513, .inl (cI, 64, .inl (fun _ => 0))), (q514, .inl (cI, 32, .inl (fun _ => 0))), (q515, .inl (cI, 32, .inl (fun _ => 0))), (q516, .inl (cI, 128, .inl (fun _ => 0))), (q517, .inl (cI, 12, .inl (fun _ => 0))), (q518, .inl (cI, 4, .inl (fun _ => 0))), (q519, .inl (cI, 256, .inl (fun _ => 0)))] := hD
  refine W.widen (k := 9) (n := 2064) (by omega) (by omega) ?_
  refine va_putF (D := D) (ci := 15) (v := .ref q519) (ty := .array .int) (C := R_Shm) (T := F_Shm) (N := 18) hx hb htw i_Shm t_Shm t_Shm_ok n_Shm hown hC.1 hP hD hS 0 rfl rfl 16 (by decide) (htw _ k588) (fun _ h9 => h9) rfl hin rfl (by decide +kernel) rfl rfl (Nat.le_of_ble_eq_true rfl) d_Shm_init_81 (fun H locs hP hD hS => ?_)
  have hP : va_P D classes [(h0, .inr (15, [.int 0, .null, .null, .ref q511, .ref q512, .int 0, .int 0, .int (-1), .int 0, .ref q513, .ref q514, .ref q515, .ref q516, .ref q517, .ref q518, .int 0, .ref q519, .null])), (q511, .inl (cI, 768, .inl (fun _ => 0))), (q512, .inl (cI, 768, .inl (fun _ => 0))), (q513, .inl (cI, 64, .inl (fun _ => 0))), (q514, .inl (cI, 32, .inl (fun _ => 0))), (q515, .inl (cI, 32, .inl (fun _ => 0))), (q516, .inl (cI, 128, .inl (fun _ => 0))), (q517, .inl (cI, 12, .inl (fun _ => 0))), (q518, .inl (cI, 4, .inl (fun _ => 0))), (q519, .inl (cI, 256, .inl (fun _ => 0)))] H := hP
  have hD : va_D A [(h0, .inr (15, [.int 0, .null, .null, .ref q511, .ref q512, .int 0, .int 0, .int (-1), .int 0, .ref q513, .ref q514, .ref q515, .ref q516, .ref q517, .ref q518, .int 0, .ref q519, .null])), (q511, .inl (cI, 768, .inl (fun _ => 0))), (q512, .inl (cI, 768, .inl (fun _ => 0))), (q513, .inl (cI, 64, .inl (fun _ => 0))), (q514, .inl (cI, 32, .inl (fun _ => 0))), (q515, .inl (cI, 32, .inl (fun _ => 0))), (q516, .inl (cI, 128, .inl (fun _ => 0))), (q517, .inl (cI, 12, .inl (fun _ => 0))), (q518, .inl (cI, 4, .inl (fun _ => 0))), (q519, .inl (cI, 256, .inl (fun _ => 0)))] := hD
  refine lv_aload_n hx hb d_Shm_init_84 rfl (lv_at hl 0 rfl) ?_
  refine lv_sipush (v := 256) hx hb d_Shm_init_85 (by decide) ?_
  refine wna_i hx hb (htw _ k238) hC hP hD hS (N := 256) (by decide) (by omega) (Nat.le_of_ble_eq_true rfl) (Nat.le_of_ble_eq_true rfl) d_Shm_init_88 (fun q520 H hP hD hS => ?_)
  have hP : va_P D classes [(h0, .inr (15, [.int 0, .null, .null, .ref q511, .ref q512, .int 0, .int 0, .int (-1), .int 0, .ref q513, .ref q514, .ref q515, .ref q516, .ref q517, .ref q518, .int 0, .ref q519, .null])), (q511, .inl (cI, 768, .inl (fun _ => 0))), (q512, .inl (cI, 768, .inl (fun _ => 0))), (q513, .inl (cI, 64, .inl (fun _ => 0))), (q514, .inl (cI, 32, .inl (fun _ => 0))), (q515, .inl (cI, 32, .inl (fun _ => 0))), (q516, .inl (cI, 128, .inl (fun _ => 0))), (q517, .inl (cI, 12, .inl (fun _ => 0))), (q518, .inl (cI, 4, .inl (fun _ => 0))), (q519, .inl (cI, 256, .inl (fun _ => 0))), (q520, .inl (cI, 256, .inl (fun _ => 0)))] H := hP
  have hD : va_D A [(h0, .inr (15, [.int 0, .null, .null, .ref q511, .ref q512, .int 0, .int 0, .int (-1), .int 0, .ref q513, .ref q514, .ref q515, .ref q516, .ref q517, .ref q518, .int 0, .ref q519, .null])), (q511, .inl (cI, 768, .inl (fun _ => 0))), (q512, .inl (cI, 768, .inl (fun _ => 0))), (q513, .inl (cI, 64, .inl (fun _ => 0))), (q514, .inl (cI, 32, .inl (fun _ => 0))), (q515, .inl (cI, 32, .inl (fun _ => 0))), (q516, .inl (cI, 128, .inl (fun _ => 0))), (q517, .inl (cI, 12, .inl (fun _ => 0))), (q518, .inl (cI, 4, .inl (fun _ => 0))), (q519, .inl (cI, 256, .inl (fun _ => 0))), (q520, .inl (cI, 256, .inl (fun _ => 0)))] := hD
  refine W.widen (k := 10) (n := 2320) (by omega) (by omega) ?_
  refine va_putF (D := D) (ci := 15) (v := .ref q520) (ty := .array .int) (C := R_Shm) (T := F_Shm) (N := 18) hx hb htw i_Shm t_Shm t_Shm_ok n_Shm hown hC.1 hP hD hS 0 rfl rfl 17 (by decide) (htw _ k589) (fun _ h9 => h9) rfl hin rfl (by decide +kernel) rfl rfl (Nat.le_of_ble_eq_true rfl) d_Shm_init_90 (fun H locs hP hD hS => ?_)
  have hP : va_P D classes [(h0, .inr (15, [.int 0, .null, .null, .ref q511, .ref q512, .int 0, .int 0, .int (-1), .int 0, .ref q513, .ref q514, .ref q515, .ref q516, .ref q517, .ref q518, .int 0, .ref q519, .ref q520])), (q511, .inl (cI, 768, .inl (fun _ => 0))), (q512, .inl (cI, 768, .inl (fun _ => 0))), (q513, .inl (cI, 64, .inl (fun _ => 0))), (q514, .inl (cI, 32, .inl (fun _ => 0))), (q515, .inl (cI, 32, .inl (fun _ => 0))), (q516, .inl (cI, 128, .inl (fun _ => 0))), (q517, .inl (cI, 12, .inl (fun _ => 0))), (q518, .inl (cI, 4, .inl (fun _ => 0))), (q519, .inl (cI, 256, .inl (fun _ => 0))), (q520, .inl (cI, 256, .inl (fun _ => 0)))] H := hP
  have hD : va_D A [(h0, .inr (15, [.int 0, .null, .null, .ref q511, .ref q512, .int 0, .int 0, .int (-1), .int 0, .ref q513, .ref q514, .ref q515, .ref q516, .ref q517, .ref q518, .int 0, .ref q519, .ref q520])), (q511, .inl (cI, 768, .inl (fun _ => 0))), (q512, .inl (cI, 768, .inl (fun _ => 0))), (q513, .inl (cI, 64, .inl (fun _ => 0))), (q514, .inl (cI, 32, .inl (fun _ => 0))), (q515, .inl (cI, 32, .inl (fun _ => 0))), (q516, .inl (cI, 128, .inl (fun _ => 0))), (q517, .inl (cI, 12, .inl (fun _ => 0))), (q518, .inl (cI, 4, .inl (fun _ => 0))), (q519, .inl (cI, 256, .inl (fun _ => 0))), (q520, .inl (cI, 256, .inl (fun _ => 0)))] := hD
  refine lv_aload_n hx hb d_Shm_init_93 rfl (lv_at hl 0 rfl) ?_
  refine lv_aload_n hx hb d_Shm_init_94 rfl (lv_at hl 1 rfl) ?_
  refine va_putF (D := D) (ci := 15) (v := .ref me) (ty := .array .int) (C := R_Shm) (T := F_Shm) (N := 18) hx hb htw i_Shm t_Shm t_Shm_ok n_Shm hown hC.1 hP hD hS 0 rfl rfl 1 (by decide) (htw _ k590) (fun _ h9 => h9) rfl hin rfl (by decide +kernel) rfl rfl (Nat.le_of_ble_eq_true rfl) d_Shm_init_95 (fun H locs hP hD hS => ?_)
  have hP : va_P D classes [(h0, .inr (15, [.int 0, .ref me, .null, .ref q511, .ref q512, .int 0, .int 0, .int (-1), .int 0, .ref q513, .ref q514, .ref q515, .ref q516, .ref q517, .ref q518, .int 0, .ref q519, .ref q520])), (q511, .inl (cI, 768, .inl (fun _ => 0))), (q512, .inl (cI, 768, .inl (fun _ => 0))), (q513, .inl (cI, 64, .inl (fun _ => 0))), (q514, .inl (cI, 32, .inl (fun _ => 0))), (q515, .inl (cI, 32, .inl (fun _ => 0))), (q516, .inl (cI, 128, .inl (fun _ => 0))), (q517, .inl (cI, 12, .inl (fun _ => 0))), (q518, .inl (cI, 4, .inl (fun _ => 0))), (q519, .inl (cI, 256, .inl (fun _ => 0))), (q520, .inl (cI, 256, .inl (fun _ => 0)))] H := hP
  have hD : va_D A [(h0, .inr (15, [.int 0, .ref me, .null, .ref q511, .ref q512, .int 0, .int 0, .int (-1), .int 0, .ref q513, .ref q514, .ref q515, .ref q516, .ref q517, .ref q518, .int 0, .ref q519, .ref q520])), (q511, .inl (cI, 768, .inl (fun _ => 0))), (q512, .inl (cI, 768, .inl (fun _ => 0))), (q513, .inl (cI, 64, .inl (fun _ => 0))), (q514, .inl (cI, 32, .inl (fun _ => 0))), (q515, .inl (cI, 32, .inl (fun _ => 0))), (q516, .inl (cI, 128, .inl (fun _ => 0))), (q517, .inl (cI, 12, .inl (fun _ => 0))), (q518, .inl (cI, 4, .inl (fun _ => 0))), (q519, .inl (cI, 256, .inl (fun _ => 0))), (q520, .inl (cI, 256, .inl (fun _ => 0)))] := hD
  refine lv_aload_n hx hb d_Shm_init_98 rfl (lv_at hl 0 rfl) ?_
  refine lv_aload_n hx hb d_Shm_init_99 rfl (lv_at hl 2 rfl) ?_
  refine va_putF (D := D) (ci := 15) (v := .ref un) (ty := .object "DrawingMachineModel$TextureUnitsModel") (C := R_Shm) (T := F_Shm) (N := 18) hx hb htw i_Shm t_Shm t_Shm_ok n_Shm hown hC.1 hP hD hS 0 rfl rfl 2 (by decide) (htw _ k591) (fun _ h9 => h9) rfl hin rfl (by decide +kernel) rfl rfl (Nat.le_of_ble_eq_true rfl) d_Shm_init_100 (fun H locs hP hD hS => ?_)
  have hP : va_P D classes [(h0, .inr (15, [.int 0, .ref me, .ref un, .ref q511, .ref q512, .int 0, .int 0, .int (-1), .int 0, .ref q513, .ref q514, .ref q515, .ref q516, .ref q517, .ref q518, .int 0, .ref q519, .ref q520])), (q511, .inl (cI, 768, .inl (fun _ => 0))), (q512, .inl (cI, 768, .inl (fun _ => 0))), (q513, .inl (cI, 64, .inl (fun _ => 0))), (q514, .inl (cI, 32, .inl (fun _ => 0))), (q515, .inl (cI, 32, .inl (fun _ => 0))), (q516, .inl (cI, 128, .inl (fun _ => 0))), (q517, .inl (cI, 12, .inl (fun _ => 0))), (q518, .inl (cI, 4, .inl (fun _ => 0))), (q519, .inl (cI, 256, .inl (fun _ => 0))), (q520, .inl (cI, 256, .inl (fun _ => 0)))] H := hP
  have hD : va_D A [(h0, .inr (15, [.int 0, .ref me, .ref un, .ref q511, .ref q512, .int 0, .int 0, .int (-1), .int 0, .ref q513, .ref q514, .ref q515, .ref q516, .ref q517, .ref q518, .int 0, .ref q519, .ref q520])), (q511, .inl (cI, 768, .inl (fun _ => 0))), (q512, .inl (cI, 768, .inl (fun _ => 0))), (q513, .inl (cI, 64, .inl (fun _ => 0))), (q514, .inl (cI, 32, .inl (fun _ => 0))), (q515, .inl (cI, 32, .inl (fun _ => 0))), (q516, .inl (cI, 128, .inl (fun _ => 0))), (q517, .inl (cI, 12, .inl (fun _ => 0))), (q518, .inl (cI, 4, .inl (fun _ => 0))), (q519, .inl (cI, 256, .inl (fun _ => 0))), (q520, .inl (cI, 256, .inl (fun _ => 0)))] := hD
  refine W.widen (k := 10) (n := 2320) (Nat.le_of_ble_eq_true rfl) (Nat.le_of_ble_eq_true rfl) ?_
  have hP9 := hP.sub (ws' := []) [] rfl
  have hD9 := hD.sub (ws' := []) [] (by decide) rfl
  exact W.vret hx hb hr (fun t ht hW => ⟨⟨(), rfl, trivial, by rw [ht]; exact hP9, va_K.moved hW.alike hC.1, hD9⟩, hS.F ht⟩) hS.2.2 d_Shm_init_103

theorem d_Vwm_init_0 : decode prog_20_method_1_code 0 = .ok (.aload_n 0, 1) := by decide +kernel
theorem d_Vwm_init_1 : decode prog_20_method_1_code 1 = .ok (.invokespecial 1, 3) := by decide +kernel
theorem d_Vwm_init_4 : decode prog_20_method_1_code 4 = .ok (.aload_n 0, 1) := by decide +kernel
theorem d_Vwm_init_5 : decode prog_20_method_1_code 5 = .ok (.bipush 32, 2) := by decide +kernel
theorem d_Vwm_init_7 : decode prog_20_method_1_code 7 = .ok (.newarray .int, 2) := by decide +kernel
theorem d_Vwm_init_9 : decode prog_20_method_1_code 9 = .ok (.putfield 7, 3) := by decide +kernel
theorem d_Vwm_init_12 : decode prog_20_method_1_code 12 = .ok (.aload_n 0, 1) := by decide +kernel
theorem d_Vwm_init_13 : decode prog_20_method_1_code 13 = .ok (.bipush 96, 2) := by decide +kernel
theorem d_Vwm_init_15 : decode prog_20_method_1_code 15 = .ok (.newarray .int, 2) := by decide +kernel
theorem d_Vwm_init_17 : decode prog_20_method_1_code 17 = .ok (.putfield 13, 3) := by decide +kernel
theorem d_Vwm_init_20 : decode prog_20_method_1_code 20 = .ok (.aload_n 0, 1) := by decide +kernel
theorem d_Vwm_init_21 : decode prog_20_method_1_code 21 = .ok (.bipush 6, 2) := by decide +kernel
theorem d_Vwm_init_23 : decode prog_20_method_1_code 23 = .ok (.newarray .int, 2) := by decide +kernel
theorem d_Vwm_init_25 : decode prog_20_method_1_code 25 = .ok (.putfield 16, 3) := by decide +kernel
theorem d_Vwm_init_28 : decode prog_20_method_1_code 28 = .ok (.aload_n 0, 1) := by decide +kernel
theorem d_Vwm_init_29 : decode prog_20_method_1_code 29 = .ok (.sipush 256, 3) := by decide +kernel
theorem d_Vwm_init_32 : decode prog_20_method_1_code 32 = .ok (.newarray .int, 2) := by decide +kernel
theorem d_Vwm_init_34 : decode prog_20_method_1_code 34 = .ok (.putfield 19, 3) := by decide +kernel
theorem d_Vwm_init_37 : decode prog_20_method_1_code 37 = .ok (.aload_n 0, 1) := by decide +kernel
theorem d_Vwm_init_38 : decode prog_20_method_1_code 38 = .ok (.sipush 256, 3) := by decide +kernel
theorem d_Vwm_init_41 : decode prog_20_method_1_code 41 = .ok (.newarray .int, 2) := by decide +kernel
theorem d_Vwm_init_43 : decode prog_20_method_1_code 43 = .ok (.putfield 22, 3) := by decide +kernel
theorem d_Vwm_init_46 : decode prog_20_method_1_code 46 = .ok (.aload_n 0, 1) := by decide +kernel
theorem d_Vwm_init_47 : decode prog_20_method_1_code 47 = .ok (.bipush 32, 2) := by decide +kernel
theorem d_Vwm_init_49 : decode prog_20_method_1_code 49 = .ok (.newarray .int, 2) := by decide +kernel
theorem d_Vwm_init_51 : decode prog_20_method_1_code 51 = .ok (.putfield 25, 3) := by decide +kernel
theorem d_Vwm_init_54 : decode prog_20_method_1_code 54 = .ok (.aload_n 0, 1) := by decide +kernel
theorem d_Vwm_init_55 : decode prog_20_method_1_code 55 = .ok (.aload_n 1, 1) := by decide +kernel
theorem d_Vwm_init_56 : decode prog_20_method_1_code 56 = .ok (.putfield 28, 3) := by decide +kernel
theorem d_Vwm_init_59 : decode prog_20_method_1_code 59 = .ok (.aload_n 0, 1) := by decide +kernel
theorem d_Vwm_init_60 : decode prog_20_method_1_code 60 = .ok (.getfield 16, 3) := by decide +kernel
theorem d_Vwm_init_63 : decode prog_20_method_1_code 63 = .ok (.iconst 2, 1) := by decide +kernel
theorem d_Vwm_init_64 : decode prog_20_method_1_code 64 = .ok (.iconst 1, 1) := by decide +kernel
theorem d_Vwm_init_65 : decode prog_20_method_1_code 65 = .ok (.iastore, 1) := by decide +kernel
theorem d_Vwm_init_66 : decode prog_20_method_1_code 66 = .ok (.aload_n 0, 1) := by decide +kernel
theorem d_Vwm_init_67 : decode prog_20_method_1_code 67 = .ok (.getfield 16, 3) := by decide +kernel
theorem d_Vwm_init_70 : decode prog_20_method_1_code 70 = .ok (.iconst 3, 1) := by decide +kernel
theorem d_Vwm_init_71 : decode prog_20_method_1_code 71 = .ok (.iconst 1, 1) := by decide +kernel
theorem d_Vwm_init_72 : decode prog_20_method_1_code 72 = .ok (.iastore, 1) := by decide +kernel
theorem d_Vwm_init_73 : decode prog_20_method_1_code 73 = .ok (.aload_n 0, 1) := by decide +kernel
theorem d_Vwm_init_74 : decode prog_20_method_1_code 74 = .ok (.getfield 16, 3) := by decide +kernel
theorem d_Vwm_init_77 : decode prog_20_method_1_code 77 = .ok (.iconst 5, 1) := by decide +kernel
theorem d_Vwm_init_78 : decode prog_20_method_1_code 78 = .ok (.ldc 31, 2) := by decide +kernel
theorem d_Vwm_init_80 : decode prog_20_method_1_code 80 = .ok (.iastore, 1) := by decide +kernel
theorem d_Vwm_init_81 : decode prog_20_method_1_code 81 = .ok (.return_, 1) := by decide +kernel
set_option maxHeartbeats 4000000 in
set_option maxRecDepth 100000 in
theorem c_Vwm_init (l : Launch) (D : va_G) (cI cL : ClassId) (B sz : Nat) (h0 : Nat) (me : Nat) : Met l y_Vwm_init ((Cond.code y_Vwm_init prog_20_method_1_code 2 none) :: tw) ({ frames := 20, cells := 6, slots := 678, locals := 2000 }) (va_Pc [.ref h0, .ref me] (wP D cI cL B sz [(h0, .inr (16, [.int 0, .null, .null, .null, .null, .int 0, .int 0, .int 0, .null, .int 0, .null, .int 0, .null]))])) (va_Qv (S := Unit) (fun _ => True) (fun u => wB D cI cL (va_A [(h0, .inr (16, [.int 0, .null, .null, .null, .null, .int 0, .int 0, .int 0, .null, .int 0, .null, .int 0, .null]))] sz) ((fun _ : Unit => []) u)) (va_A [(h0, .inr (16, [.int 0, .null, .null, .null, .null, .int 0, .int 0, .int 0, .null, .int 0, .null, .int 0, .null]))] sz)) 6 678 (va_A [(h0, .inr (16, [.int 0, .null, .null, .null, .null, .int 0, .int 0, .int 0, .null, .int 0, .null, .int 0, .null]))] sz) := by
  refine Met.ofW (cc := prog_20_method_1_code) (maxL := 2) (ret := none) (by decide) rfl ?_
  intro p e s m args below meth c s₁ B0 hml hv
  obtain ⟨rfl, hv⟩ := hv
  have hx := B0.exec
  have hb := B0.bytes
  have hr := B0.returns
  have hts := atoms_spec (ws := (Cond.code y_Vwm_init prog_20_method_1_code 2 none) :: tw) B0.pre
  have htw : ∀ w ∈ tw, w.before _ s = true := fun w hw => hts w (List.mem_cons_of_mem _ hw)
  have hown : s.vm.findClass "DrawingMachineModel$VertexWorkModel" = some m.cls := findClass_of_methodNamed B0.named
  have hlocks := B0.notSynchronized
  have hin : meth.name = "<init>" := (name_of_methodNamed B0.named B0.method).1
  obtain ⟨hC, hP, hD, hsz⟩ := wC_init hv
  subst hsz
  generalize hAe : va_A [(h0, .inr (16, [.int 0, .null, .null, .null, .null, .int 0, .int 0, .int 0, .null, .int 0, .null, .int 0, .null]))] s.heap.size = A at hC hD ⊢
  have hS : va_S A s.heap s.heap [] := va_S.rf
  have hl := lv_entry ([.ref h0, .ref me]) (n := 2) (Nat.le_of_ble_eq_true rfl)
  rw [lg_entry_eq]
  generalize (lg_sl ([.ref h0, .ref me]) ++ List.replicate (2 - (lg_sl ([.ref h0, .ref me])).length) Slot.unset).toArray = ls at hl ⊢
  have hl : lv_has ls 2 [(0, .ref h0), (1, .ref me)] := hl
  refine lv_aload_n hx hb d_Vwm_init_0 rfl (lv_at hl 0 rfl) ?_
  refine W.objInit hx hb hown (htw _ k592) (htw _ k242) (htw _ k243) rfl (by rw [hml]; exact hl.1) rfl d_Vwm_init_1 (Nat.le_of_ble_eq_true rfl) (Nat.le_of_ble_eq_true rfl) ?_
  refine W.eq (g2 := F0 m 4 ls []) rfl ?_
  refine lv_aload_n hx hb d_Vwm_init_4 rfl (lv_at hl 0 rfl) ?_
  refine lv_bipush (v := 32) hx hb d_Vwm_init_5 (by decide) ?_
  refine wna_i hx hb (htw _ k238) hC hP hD hS (N := 32) (by decide) (by omega) (Nat.le_of_ble_eq_true rfl) (Nat.le_of_ble_eq_true rfl) d_Vwm_init_7 (fun q521 H hP hD hS => ?_)
  have hP : va_P D classes [(h0, .inr (16, [.int 0, .null, .null, .null, .null, .int 0, .int 0, .int 0, .null, .int 0, .null, .int 0, .null])), (q521, .inl (cI, 32, .inl (fun _ => 0)))] H := hP
  have hD : va_D A [(h0, .inr (16, [.int 0, .null, .null, .null, .null, .int 0, .int 0, .int 0, .null, .int 0, .null, .int 0, .null])), (q521, .inl (cI, 32, .inl (fun _ => 0)))] := hD
  refine W.widen (k := 1) (n := 32) (by omega) (by omega) ?_
  refine va_putF (D := D) (ci := 16) (v := .ref q521) (ty := .array .int) (C := R_Vwm) (T := F_Vwm) (N := 13) hx hb htw i_Vwm t_Vwm t_Vwm_ok n_Vwm hown hC.1 hP hD hS 0 rfl rfl 2 (by decide) (htw _ k593) (fun _ h9 => h9) rfl hin rfl (by decide +kernel) rfl rfl (Nat.le_of_ble_eq_true rfl) d_Vwm_init_9 (fun H locs hP hD hS => ?_)
  have hP : va_P D classes [(h0, .inr (16, [.int 0, .null, .ref q521, .null, .null, .int 0, .int 0, .int 0, .null, .int 0, .null, .int 0, .null])), (q521, .inl (cI, 32, .inl (fun _ => 0)))] H := hP
  have hD : va_D A [(h0, .inr (16, [.int 0, .null, .ref q521, .null, .null, .int 0, .int 0, .int 0, .null, .int 0, .null, .int 0, .null])), (q521, .inl (cI, 32, .inl (fun _ => 0)))] := hD
  refine lv_aload_n hx hb d_Vwm_init_12 rfl (lv_at hl 0 rfl) ?_
  refine lv_bipush (v := 96) hx hb d_Vwm_init_13 (by decide) ?_
  refine wna_i hx hb (htw _ k238) hC hP hD hS (N := 96) (by decide) (by omega) (Nat.le_of_ble_eq_true rfl) (Nat.le_of_ble_eq_true rfl) d_Vwm_init_15 (fun q522 H hP hD hS => ?_)
  have hP : va_P D classes [(h0, .inr (16, [.int 0, .null, .ref q521, .null, .null, .int 0, .int 0, .int 0, .null, .int 0, .null, .int 0, .null])), (q521, .inl (cI, 32, .inl (fun _ => 0))), (q522, .inl (cI, 96, .inl (fun _ => 0)))] H := hP
  have hD : va_D A [(h0, .inr (16, [.int 0, .null, .ref q521, .null, .null, .int 0, .int 0, .int 0, .null, .int 0, .null, .int 0, .null])), (q521, .inl (cI, 32, .inl (fun _ => 0))), (q522, .inl (cI, 96, .inl (fun _ => 0)))] := hD
  refine W.widen (k := 2) (n := 128) (by omega) (by omega) ?_
  refine va_putF (D := D) (ci := 16) (v := .ref q522) (ty := .array .int) (C := R_Vwm) (T := F_Vwm) (N := 13) hx hb htw i_Vwm t_Vwm t_Vwm_ok n_Vwm hown hC.1 hP hD hS 0 rfl rfl 3 (by decide) (htw _ k594) (fun _ h9 => h9) rfl hin rfl (by decide +kernel) rfl rfl (Nat.le_of_ble_eq_true rfl) d_Vwm_init_17 (fun H locs hP hD hS => ?_)
  have hP : va_P D classes [(h0, .inr (16, [.int 0, .null, .ref q521, .ref q522, .null, .int 0, .int 0, .int 0, .null, .int 0, .null, .int 0, .null])), (q521, .inl (cI, 32, .inl (fun _ => 0))), (q522, .inl (cI, 96, .inl (fun _ => 0)))] H := hP
  have hD : va_D A [(h0, .inr (16, [.int 0, .null, .ref q521, .ref q522, .null, .int 0, .int 0, .int 0, .null, .int 0, .null, .int 0, .null])), (q521, .inl (cI, 32, .inl (fun _ => 0))), (q522, .inl (cI, 96, .inl (fun _ => 0)))] := hD
  refine lv_aload_n hx hb d_Vwm_init_20 rfl (lv_at hl 0 rfl) ?_
  refine lv_bipush (v := 6) hx hb d_Vwm_init_21 (by decide) ?_
  refine wna_i hx hb (htw _ k238) hC hP hD hS (N := 6) (by decide) (by omega) (Nat.le_of_ble_eq_true rfl) (Nat.le_of_ble_eq_true rfl) d_Vwm_init_23 (fun q523 H hP hD hS => ?_)
  have hP : va_P D classes [(h0, .inr (16, [.int 0, .null, .ref q521, .ref q522, .null, .int 0, .int 0, .int 0, .null, .int 0, .null, .int 0, .null])), (q521, .inl (cI, 32, .inl (fun _ => 0))), (q522, .inl (cI, 96, .inl (fun _ => 0))), (q523, .inl (cI, 6, .inl (fun _ => 0)))] H := hP
  have hD : va_D A [(h0, .inr (16, [.int 0, .null, .ref q521, .ref q522, .null, .int 0, .int 0, .int 0, .null, .int 0, .null, .int 0, .null])), (q521, .inl (cI, 32, .inl (fun _ => 0))), (q522, .inl (cI, 96, .inl (fun _ => 0))), (q523, .inl (cI, 6, .inl (fun _ => 0)))] := hD
  refine W.widen (k := 3) (n := 134) (by omega) (by omega) ?_
  refine va_putF (D := D) (ci := 16) (v := .ref q523) (ty := .array .int) (C := R_Vwm) (T := F_Vwm) (N := 13) hx hb htw i_Vwm t_Vwm t_Vwm_ok n_Vwm hown hC.1 hP hD hS 0 rfl rfl 4 (by decide) (htw _ k595) (fun _ h9 => h9) rfl hin rfl (by decide +kernel) rfl rfl (Nat.le_of_ble_eq_true rfl) d_Vwm_init_25 (fun H locs hP hD hS => ?_)
  have hP : va_P D classes [(h0, .inr (16, [.int 0, .null, .ref q521, .ref q522, .ref q523, .int 0, .int 0, .int 0, .null, .int 0, .null, .int 0, .null])), (q521, .inl (cI, 32, .inl (fun _ => 0))), (q522, .inl (cI, 96, .inl (fun _ => 0))), (q523, .inl (cI, 6, .inl (fun _ => 0)))] H := hP
  have hD : va_D A [(h0, .inr (16, [.int 0, .null, .ref q521, .ref q522, .ref q523, .int 0, .int 0, .int 0, .null, .int 0, .null, .int 0, .null])), (q521, .inl (cI, 32, .inl (fun _ => 0))), (q522, .inl (cI, 96, .inl (fun _ => 0))), (q523, .inl (cI, 6, .inl (fun _ => 0)))] := hD
  refine lv_aload_n hx hb d_Vwm_init_28 rfl (lv_at hl 0 rfl) ?_
  refine lv_sipush (v := 256) hx hb d_Vwm_init_29 (by decide) ?_
  refine wna_i hx hb (htw _ k238) hC hP hD hS (N := 256) (by decide) (by omega) (Nat.le_of_ble_eq_true rfl) (Nat.le_of_ble_eq_true rfl) d_Vwm_init_32 (fun q524 H hP hD hS => ?_)
  have hP : va_P D classes [(h0, .inr (16, [.int 0, .null, .ref q521, .ref q522, .ref q523, .int 0, .int 0, .int 0, .null, .int 0, .null, .int 0, .null])), (q521, .inl (cI, 32, .inl (fun _ => 0))), (q522, .inl (cI, 96, .inl (fun _ => 0))), (q523, .inl (cI, 6, .inl (fun _ => 0))), (q524, .inl (cI, 256, .inl (fun _ => 0)))] H := hP
  have hD : va_D A [(h0, .inr (16, [.int 0, .null, .ref q521, .ref q522, .ref q523, .int 0, .int 0, .int 0, .null, .int 0, .null, .int 0, .null])), (q521, .inl (cI, 32, .inl (fun _ => 0))), (q522, .inl (cI, 96, .inl (fun _ => 0))), (q523, .inl (cI, 6, .inl (fun _ => 0))), (q524, .inl (cI, 256, .inl (fun _ => 0)))] := hD
  refine W.widen (k := 4) (n := 390) (by omega) (by omega) ?_
  refine va_putF (D := D) (ci := 16) (v := .ref q524) (ty := .array .int) (C := R_Vwm) (T := F_Vwm) (N := 13) hx hb htw i_Vwm t_Vwm t_Vwm_ok n_Vwm hown hC.1 hP hD hS 0 rfl rfl 8 (by decide) (htw _ k596) (fun _ h9 => h9) rfl hin rfl (by decide +kernel) rfl rfl (Nat.le_of_ble_eq_true rfl) d_Vwm_init_34 (fun H locs hP hD hS => ?_)
  have hP : va_P D classes [(h0, .inr (16, [.int 0, .null, .ref q521, .ref q522, .ref q523, .int 0, .int 0, .int 0, .ref q524, .int 0, .null, .int 0, .null])), (q521, .inl (cI, 32, .inl (fun _ => 0))), (q522, .inl (cI, 96, .inl (fun _ => 0))), (q523, .inl (cI, 6, .inl (fun _ => 0))), (q524, .inl (cI, 256, .inl (fun _ => 0)))] H := hP
  have hD : va_D A [(h0, .inr (16, [.int 0, .null, .ref q521, .ref q522, .ref q523, .int 0, .int 0, .int 0, .ref q524, .int 0, .null, .int 0, .null])), (q521, .inl (cI, 32, .inl (fun _ => 0))), (q522, .inl (cI, 96, .inl (fun _ => 0))), (q523, .inl (cI, 6, .inl (fun _ => 0))), (q524, .inl (cI, 256, .inl (fun _ => 0)))] := hD
  refine lv_aload_n hx hb d_Vwm_init_37 rfl (lv_at hl 0 rfl) ?_
  refine lv_sipush (v := 256) hx hb d_Vwm_init_38 (by decide) ?_
  refine wna_i hx hb (htw _ k238) hC hP hD hS (N := 256) (by decide) (by omega) (Nat.le_of_ble_eq_true rfl) (Nat.le_of_ble_eq_true rfl) d_Vwm_init_41 (fun q525 H hP hD hS => ?_)
  have hP : va_P D classes [(h0, .inr (16, [.int 0, .null, .ref q521, .ref q522, .ref q523, .int 0, .int 0, .int 0, .ref q524, .int 0, .null, .int 0, .null])), (q521, .inl (cI, 32, .inl (fun _ => 0))), (q522, .inl (cI, 96, .inl (fun _ => 0))), (q523, .inl (cI, 6, .inl (fun _ => 0))), (q524, .inl (cI, 256, .inl (fun _ => 0))), (q525, .inl (cI, 256, .inl (fun _ => 0)))] H := hP
  have hD : va_D A [(h0, .inr (16, [.int 0, .null, .ref q521, .ref q522, .ref q523, .int 0, .int 0, .int 0, .ref q524, .int 0, .null, .int 0, .null])), (q521, .inl (cI, 32, .inl (fun _ => 0))), (q522, .inl (cI, 96, .inl (fun _ => 0))), (q523, .inl (cI, 6, .inl (fun _ => 0))), (q524, .inl (cI, 256, .inl (fun _ => 0))), (q525, .inl (cI, 256, .inl (fun _ => 0)))] := hD
  refine W.widen (k := 5) (n := 646) (by omega) (by omega) ?_
  refine va_putF (D := D) (ci := 16) (v := .ref q525) (ty := .array .int) (C := R_Vwm) (T := F_Vwm) (N := 13) hx hb htw i_Vwm t_Vwm t_Vwm_ok n_Vwm hown hC.1 hP hD hS 0 rfl rfl 10 (by decide) (htw _ k597) (fun _ h9 => h9) rfl hin rfl (by decide +kernel) rfl rfl (Nat.le_of_ble_eq_true rfl) d_Vwm_init_43 (fun H locs hP hD hS => ?_)
  have hP : va_P D classes [(h0, .inr (16, [.int 0, .null, .ref q521, .ref q522, .ref q523, .int 0, .int 0, .int 0, .ref q524, .int 0, .ref q525, .int 0, .null])), (q521, .inl (cI, 32, .inl (fun _ => 0))), (q522, .inl (cI, 96, .inl (fun _ => 0))), (q523, .inl (cI, 6, .inl (fun _ => 0))), (q524, .inl (cI, 256, .inl (fun _ => 0))), (q525, .inl (cI, 256, .inl (fun _ => 0)))] H := hP
  have hD : va_D A [(h0, .inr (16, [.int 0, .null, .ref q521, .ref q522, .ref q523, .int 0, .int 0, .int 0, .ref q524, .int 0, .ref q525, .int 0, .null])), (q521, .inl (cI, 32, .inl (fun _ => 0))), (q522, .inl (cI, 96, .inl (fun _ => 0))), (q523, .inl (cI, 6, .inl (fun _ => 0))), (q524, .inl (cI, 256, .inl (fun _ => 0))), (q525, .inl (cI, 256, .inl (fun _ => 0)))] := hD
  refine lv_aload_n hx hb d_Vwm_init_46 rfl (lv_at hl 0 rfl) ?_
  refine lv_bipush (v := 32) hx hb d_Vwm_init_47 (by decide) ?_
  refine wna_i hx hb (htw _ k238) hC hP hD hS (N := 32) (by decide) (by omega) (Nat.le_of_ble_eq_true rfl) (Nat.le_of_ble_eq_true rfl) d_Vwm_init_49 (fun q526 H hP hD hS => ?_)
  have hP : va_P D classes [(h0, .inr (16, [.int 0, .null, .ref q521, .ref q522, .ref q523, .int 0, .int 0, .int 0, .ref q524, .int 0, .ref q525, .int 0, .null])), (q521, .inl (cI, 32, .inl (fun _ => 0))), (q522, .inl (cI, 96, .inl (fun _ => 0))), (q523, .inl (cI, 6, .inl (fun _ => 0))), (q524, .inl (cI, 256, .inl (fun _ => 0))), (q525, .inl (cI, 256, .inl (fun _ => 0))), (q526, .inl (cI, 32, .inl (fun _ => 0)))] H := hP
  have hD : va_D A [(h0, .inr (16, [.int 0, .null, .ref q521, .ref q522, .ref q523, .int 0, .int 0, .int 0, .ref q524, .int 0, .ref q525, .int 0, .null])), (q521, .inl (cI, 32, .inl (fun _ => 0))), (q522, .inl (cI, 96, .inl (fun _ => 0))), (q523, .inl (cI, 6, .inl (fun _ => 0))), (q524, .inl (cI, 256, .inl (fun _ => 0))), (q525, .inl (cI, 256, .inl (fun _ => 0))), (q526, .inl (cI, 32, .inl (fun _ => 0)))] := hD
  refine W.widen (k := 6) (n := 678) (by omega) (by omega) ?_
  refine va_putF (D := D) (ci := 16) (v := .ref q526) (ty := .array .int) (C := R_Vwm) (T := F_Vwm) (N := 13) hx hb htw i_Vwm t_Vwm t_Vwm_ok n_Vwm hown hC.1 hP hD hS 0 rfl rfl 12 (by decide) (htw _ k598) (fun _ h9 => h9) rfl hin rfl (by decide +kernel) rfl rfl (Nat.le_of_ble_eq_true rfl) d_Vwm_init_51 (fun H locs hP hD hS => ?_)
  have hP : va_P D classes [(h0, .inr (16, [.int 0, .null, .ref q521, .ref q522, .ref q523, .int 0, .int 0, .int 0, .ref q524, .int 0, .ref q525, .int 0, .ref q526])), (q521, .inl (cI, 32, .inl (fun _ => 0))), (q522, .inl (cI, 96, .inl (fun _ => 0))), (q523, .inl (cI, 6, .inl (fun _ => 0))), (q524, .inl (cI, 256, .inl (fun _ => 0))), (q525, .inl (cI, 256, .inl (fun _ => 0))), (q526, .inl (cI, 32, .inl (fun _ => 0)))] H := hP
  have hD : va_D A [(h0, .inr (16, [.int 0, .null, .ref q521, .ref q522, .ref q523, .int 0, .int 0, .int 0, .ref q524, .int 0, .ref q525, .int 0, .ref q526])), (q521, .inl (cI, 32, .inl (fun _ => 0))), (q522, .inl (cI, 96, .inl (fun _ => 0))), (q523, .inl (cI, 6, .inl (fun _ => 0))), (q524, .inl (cI, 256, .inl (fun _ => 0))), (q525, .inl (cI, 256, .inl (fun _ => 0))), (q526, .inl (cI, 32, .inl (fun _ => 0)))] := hD
  refine lv_aload_n hx hb d_Vwm_init_54 rfl (lv_at hl 0 rfl) ?_
  refine lv_aload_n hx hb d_Vwm_init_55 rfl (lv_at hl 1 rfl) ?_
  refine va_putF (D := D) (ci := 16) (v := .ref me) (ty := .array .int) (C := R_Vwm) (T := F_Vwm) (N := 13) hx hb htw i_Vwm t_Vwm t_Vwm_ok n_Vwm hown hC.1 hP hD hS 0 rfl rfl 1 (by decide) (htw _ k599) (fun _ h9 => h9) rfl hin rfl (by decide +kernel) rfl rfl (Nat.le_of_ble_eq_true rfl) d_Vwm_init_56 (fun H locs hP hD hS => ?_)
  have hP : va_P D classes [(h0, .inr (16, [.int 0, .ref me, .ref q521, .ref q522, .ref q523, .int 0, .int 0, .int 0, .ref q524, .int 0, .ref q525, .int 0, .ref q526])), (q521, .inl (cI, 32, .inl (fun _ => 0))), (q522, .inl (cI, 96, .inl (fun _ => 0))), (q523, .inl (cI, 6, .inl (fun _ => 0))), (q524, .inl (cI, 256, .inl (fun _ => 0))), (q525, .inl (cI, 256, .inl (fun _ => 0))), (q526, .inl (cI, 32, .inl (fun _ => 0)))] H := hP
  have hD : va_D A [(h0, .inr (16, [.int 0, .ref me, .ref q521, .ref q522, .ref q523, .int 0, .int 0, .int 0, .ref q524, .int 0, .ref q525, .int 0, .ref q526])), (q521, .inl (cI, 32, .inl (fun _ => 0))), (q522, .inl (cI, 96, .inl (fun _ => 0))), (q523, .inl (cI, 6, .inl (fun _ => 0))), (q524, .inl (cI, 256, .inl (fun _ => 0))), (q525, .inl (cI, 256, .inl (fun _ => 0))), (q526, .inl (cI, 32, .inl (fun _ => 0)))] := hD
  refine lv_aload_n hx hb d_Vwm_init_59 rfl (lv_at hl 0 rfl) ?_
  refine va_get (D := D) (ci := 16) (v := .ref q523) (C := R_Vwm) (T := F_Vwm) (N := 13) hx hb htw i_Vwm hown hC.1 hP 0 rfl rfl 4 (by decide) (htw _ k595) (fun _ h9 => h9) rfl d_Vwm_init_60 ?_
  refine lv_iconst (v := 2) hx hb d_Vwm_init_63 (by decide) ?_
  refine lv_iconst (v := 1) hx hb d_Vwm_init_64 (by decide) ?_
  refine va_iast hx hb hC.1 hP hD hS 3 0 rfl rfl (by unfold vp_in; decide) d_Vwm_init_65 (fun H locs hP hD hS => ?_)
  have hP : va_P D classes [(h0, .inr (16, [.int 0, .ref me, .ref q521, .ref q522, .ref q523, .int 0, .int 0, .int 0, .ref q524, .int 0, .ref q525, .int 0, .ref q526])), (q521, .inl (cI, 32, .inl (fun _ => 0))), (q522, .inl (cI, 96, .inl (fun _ => 0))), (q523, .inl (cI, 6, .inl (upd (fun _ => 0) (2 : Int32).toNatClampNeg 1))), (q524, .inl (cI, 256, .inl (fun _ => 0))), (q525, .inl (cI, 256, .inl (fun _ => 0))), (q526, .inl (cI, 32, .inl (fun _ => 0)))] H := hP
  have hD : va_D A [(h0, .inr (16, [.int 0, .ref me, .ref q521, .ref q522, .ref q523, .int 0, .int 0, .int 0, .ref q524, .int 0, .ref q525, .int 0, .ref q526])), (q521, .inl (cI, 32, .inl (fun _ => 0))), (q522, .inl (cI, 96, .inl (fun _ => 0))), (q523, .inl (cI, 6, .inl (upd (fun _ => 0) (2 : Int32).toNatClampNeg 1))), (q524, .inl (cI, 256, .inl (fun _ => 0))), (q525, .inl (cI, 256, .inl (fun _ => 0))), (q526, .inl (cI, 32, .inl (fun _ => 0)))] := hD
  generalize upd (fun _ => 0) (2 : Int32).toNatClampNeg 1 = f527 at hP hD
  refine lv_aload_n hx hb d_Vwm_init_66 rfl (lv_at hl 0 rfl) ?_
  refine va_get (D := D) (ci := 16) (v := .ref q523) (C := R_Vwm) (T := F_Vwm) (N := 13) hx hb htw i_Vwm hown hC.1 hP 0 rfl rfl 4 (by decide) (htw _ k595) (fun _ h9 => h9) rfl d_Vwm_init_67 ?_
  refine lv_iconst (v := 3) hx hb d_Vwm_init_70 (by decide) ?_
  refine lv_iconst (v := 1) hx hb d_Vwm_init_71 (by decide) ?_
  refine va_iast hx hb hC.1 hP hD hS 3 0 rfl rfl (by unfold vp_in; decide) d_Vwm_init_72 (fun H locs hP hD hS => ?_)
  have hP : va_P D classes [(h0, .inr (16, [.int 0, .ref me, .ref q521, .ref q522, .ref q523, .int 0, .int 0, .int 0, .ref q524, .int 0, .ref q525, .int 0, .ref q526])), (q521, .inl (cI, 32, .inl (fun _ => 0))), (q522, .inl (cI, 96, .inl (fun _ => 0))), (q523, .inl (cI, 6, .inl (upd f527 (3 : Int32).toNatClampNeg 1))), (q524, .inl (cI, 256, .inl (fun _ => 0))), (q525, .inl (cI, 256, .inl (fun _ => 0))), (q526, .inl (cI, 32, .inl (fun _ => 0)))] H := hP
  have hD : va_D A [(h0, .inr (16, [.int 0, .ref me, .ref q521, .ref q522, .ref q523, .int 0, .int 0, .int 0, .ref q524, .int 0, .ref q525, .int 0, .ref q526])), (q521, .inl (cI, 32, .inl (fun _ => 0))), (q522, .inl (cI, 96, .inl (fun _ => 0))), (q523, .inl (cI, 6, .inl (upd f527 (3 : Int32).toNatClampNeg 1))), (q524, .inl (cI, 256, .inl (fun _ => 0))), (q525, .inl (cI, 256, .inl (fun _ => 0))), (q526, .inl (cI, 32, .inl (fun _ => 0)))] := hD
  generalize upd f527 (3 : Int32).toNatClampNeg 1 = f528 at hP hD
  refine lv_aload_n hx hb d_Vwm_init_73 rfl (lv_at hl 0 rfl) ?_
  refine va_get (D := D) (ci := 16) (v := .ref q523) (C := R_Vwm) (T := F_Vwm) (N := 13) hx hb htw i_Vwm hown hC.1 hP 0 rfl rfl 4 (by decide) (htw _ k595) (fun _ h9 => h9) rfl d_Vwm_init_74 ?_
  refine lv_iconst (v := 5) hx hb d_Vwm_init_77 (by decide) ?_
  refine lv_ldc (v := 16777215) hx hb hown (htw _ k600) d_Vwm_init_78 ?_
  refine va_iast hx hb hC.1 hP hD hS 3 0 rfl rfl (by unfold vp_in; decide) d_Vwm_init_80 (fun H locs hP hD hS => ?_)
  have hP : va_P D classes [(h0, .inr (16, [.int 0, .ref me, .ref q521, .ref q522, .ref q523, .int 0, .int 0, .int 0, .ref q524, .int 0, .ref q525, .int 0, .ref q526])), (q521, .inl (cI, 32, .inl (fun _ => 0))), (q522, .inl (cI, 96, .inl (fun _ => 0))), (q523, .inl (cI, 6, .inl (upd f528 (5 : Int32).toNatClampNeg 16777215))), (q524, .inl (cI, 256, .inl (fun _ => 0))), (q525, .inl (cI, 256, .inl (fun _ => 0))), (q526, .inl (cI, 32, .inl (fun _ => 0)))] H := hP
  have hD : va_D A [(h0, .inr (16, [.int 0, .ref me, .ref q521, .ref q522, .ref q523, .int 0, .int 0, .int 0, .ref q524, .int 0, .ref q525, .int 0, .ref q526])), (q521, .inl (cI, 32, .inl (fun _ => 0))), (q522, .inl (cI, 96, .inl (fun _ => 0))), (q523, .inl (cI, 6, .inl (upd f528 (5 : Int32).toNatClampNeg 16777215))), (q524, .inl (cI, 256, .inl (fun _ => 0))), (q525, .inl (cI, 256, .inl (fun _ => 0))), (q526, .inl (cI, 32, .inl (fun _ => 0)))] := hD
  generalize upd f528 (5 : Int32).toNatClampNeg 16777215 = f529 at hP hD
  refine W.widen (k := 6) (n := 678) (Nat.le_of_ble_eq_true rfl) (Nat.le_of_ble_eq_true rfl) ?_
  have hP9 := hP.sub (ws' := []) [] rfl
  have hD9 := hD.sub (ws' := []) [] (by decide) rfl
  exact W.vret hx hb hr (fun t ht hW => ⟨⟨(), rfl, trivial, by rw [ht]; exact hP9, va_K.moved hW.alike hC.1, hD9⟩, hS.F ht⟩) hS.2.2 d_Vwm_init_81

theorem d_Erm_init_0 : decode prog_16_method_1_code 0 = .ok (.aload_n 0, 1) := by decide +kernel
theorem d_Erm_init_1 : decode prog_16_method_1_code 1 = .ok (.invokespecial 1, 3) := by decide +kernel
theorem d_Erm_init_4 : decode prog_16_method_1_code 4 = .ok (.aload_n 0, 1) := by decide +kernel
theorem d_Erm_init_5 : decode prog_16_method_1_code 5 = .ok (.iconst 3, 1) := by decide +kernel
theorem d_Erm_init_6 : decode prog_16_method_1_code 6 = .ok (.newarray .int, 2) := by decide +kernel
theorem d_Erm_init_8 : decode prog_16_method_1_code 8 = .ok (.putfield 7, 3) := by decide +kernel
theorem d_Erm_init_11 : decode prog_16_method_1_code 11 = .ok (.aload_n 0, 1) := by decide +kernel
theorem d_Erm_init_12 : decode prog_16_method_1_code 12 = .ok (.iconst 3, 1) := by decide +kernel
theorem d_Erm_init_13 : decode prog_16_method_1_code 13 = .ok (.newarray .int, 2) := by decide +kernel
theorem d_Erm_init_15 : decode prog_16_method_1_code 15 = .ok (.putfield 13, 3) := by decide +kernel
theorem d_Erm_init_18 : decode prog_16_method_1_code 18 = .ok (.aload_n 0, 1) := by decide +kernel
theorem d_Erm_init_19 : decode prog_16_method_1_code 19 = .ok (.iconst 3, 1) := by decide +kernel
theorem d_Erm_init_20 : decode prog_16_method_1_code 20 = .ok (.newarray .int, 2) := by decide +kernel
theorem d_Erm_init_22 : decode prog_16_method_1_code 22 = .ok (.putfield 16, 3) := by decide +kernel
theorem d_Erm_init_25 : decode prog_16_method_1_code 25 = .ok (.aload_n 0, 1) := by decide +kernel
theorem d_Erm_init_26 : decode prog_16_method_1_code 26 = .ok (.iconst 3, 1) := by decide +kernel
theorem d_Erm_init_27 : decode prog_16_method_1_code 27 = .ok (.newarray .int, 2) := by decide +kernel
theorem d_Erm_init_29 : decode prog_16_method_1_code 29 = .ok (.putfield 19, 3) := by decide +kernel
theorem d_Erm_init_32 : decode prog_16_method_1_code 32 = .ok (.aload_n 0, 1) := by decide +kernel
theorem d_Erm_init_33 : decode prog_16_method_1_code 33 = .ok (.bipush 84, 2) := by decide +kernel
theorem d_Erm_init_35 : decode prog_16_method_1_code 35 = .ok (.newarray .int, 2) := by decide +kernel
theorem d_Erm_init_37 : decode prog_16_method_1_code 37 = .ok (.putfield 22, 3) := by decide +kernel
theorem d_Erm_init_40 : decode prog_16_method_1_code 40 = .ok (.iconst 0, 1) := by decide +kernel
theorem d_Erm_init_41 : decode prog_16_method_1_code 41 = .ok (.istore_n 1, 1) := by decide +kernel
theorem d_Erm_init_42 : decode prog_16_method_1_code 42 = .ok (.iload_n 1, 1) := by decide +kernel
theorem d_Erm_init_43 : decode prog_16_method_1_code 43 = .ok (.iconst 3, 1) := by decide +kernel
theorem d_Erm_init_44 : decode prog_16_method_1_code 44 = .ok (.if_icmp .ge 16, 3) := by decide +kernel
theorem d_Erm_init_47 : decode prog_16_method_1_code 47 = .ok (.aload_n 0, 1) := by decide +kernel
theorem d_Erm_init_48 : decode prog_16_method_1_code 48 = .ok (.getfield 19, 3) := by decide +kernel
theorem d_Erm_init_51 : decode prog_16_method_1_code 51 = .ok (.iload_n 1, 1) := by decide +kernel
theorem d_Erm_init_52 : decode prog_16_method_1_code 52 = .ok (.iconst 1, 1) := by decide +kernel
theorem d_Erm_init_53 : decode prog_16_method_1_code 53 = .ok (.iastore, 1) := by decide +kernel
theorem d_Erm_init_54 : decode prog_16_method_1_code 54 = .ok (.iinc 1 1, 3) := by decide +kernel
theorem d_Erm_init_57 : decode prog_16_method_1_code 57 = .ok (.goto (-15), 3) := by decide +kernel
theorem d_Erm_init_60 : decode prog_16_method_1_code 60 = .ok (.return_, 1) := by decide +kernel
set_option maxHeartbeats 4000000 in
set_option maxRecDepth 100000 in
theorem c_Erm_init (l : Launch) (D : va_G) (cI cL : ClassId) (B sz : Nat) (h0 : Nat) : Met l y_Erm_init ((Cond.code y_Erm_init prog_16_method_1_code 2 none) :: tw) ({ frames := 20, cells := 5, slots := 96, locals := 2000 }) (va_Pc [.ref h0] (wP D cI cL B sz [(h0, .inr (17, [.int 0, .null, .null, .null, .null, .null]))])) (va_Qv (S := Unit) (fun _ => True) (fun u => wB D cI cL (va_A [(h0, .inr (17, [.int 0, .null, .null, .null, .null, .null]))] sz) ((fun _ : Unit => []) u)) (va_A [(h0, .inr (17, [.int 0, .null, .null, .null, .null, .null]))] sz)) 5 96 (va_A [(h0, .inr (17, [.int 0, .null, .null, .null, .null, .null]))] sz) := by
  refine Met.ofW (cc := prog_16_method_1_code) (maxL := 2) (ret := none) (by decide) rfl ?_
  intro p e s m args below meth c s₁ B0 hml hv
  obtain ⟨rfl, hv⟩ := hv
  have hx := B0.exec
  have hb := B0.bytes
  have hr := B0.returns
  have hts := atoms_spec (ws := (Cond.code y_Erm_init prog_16_method_1_code 2 none) :: tw) B0.pre
  have htw : ∀ w ∈ tw, w.before _ s = true := fun w hw => hts w (List.mem_cons_of_mem _ hw)
  have hown : s.vm.findClass "DrawingMachineModel$EdgeRasterModel" = some m.cls := findClass_of_methodNamed B0.named
  have hlocks := B0.notSynchronized
  have hin : meth.name = "<init>" := (name_of_methodNamed B0.named B0.method).1
  obtain ⟨hC, hP, hD, hsz⟩ := wC_init hv
  subst hsz
  generalize hAe : va_A [(h0, .inr (17, [.int 0, .null, .null, .null, .null, .null]))] s.heap.size = A at hC hD ⊢
  have hS : va_S A s.heap s.heap [] := va_S.rf
  have hl := lv_entry ([.ref h0]) (n := 2) (Nat.le_of_ble_eq_true rfl)
  rw [lg_entry_eq]
  generalize (lg_sl ([.ref h0]) ++ List.replicate (2 - (lg_sl ([.ref h0])).length) Slot.unset).toArray = ls at hl ⊢
  have hl : lv_has ls 2 [(0, .ref h0)] := hl
  refine lv_aload_n hx hb d_Erm_init_0 rfl (lv_at hl 0 rfl) ?_
  refine W.objInit hx hb hown (htw _ k601) (htw _ k242) (htw _ k243) rfl (by rw [hml]; exact hl.1) rfl d_Erm_init_1 (Nat.le_of_ble_eq_true rfl) (Nat.le_of_ble_eq_true rfl) ?_
  refine W.eq (g2 := F0 m 4 ls []) rfl ?_
  refine lv_aload_n hx hb d_Erm_init_4 rfl (lv_at hl 0 rfl) ?_
  refine lv_iconst (v := 3) hx hb d_Erm_init_5 (by decide) ?_
  refine wna_i hx hb (htw _ k238) hC hP hD hS (N := 3) (by decide) (by omega) (Nat.le_of_ble_eq_true rfl) (Nat.le_of_ble_eq_true rfl) d_Erm_init_6 (fun q530 H hP hD hS => ?_)
  have hP : va_P D classes [(h0, .inr (17, [.int 0, .null, .null, .null, .null, .null])), (q530, .inl (cI, 3, .inl (fun _ => 0)))] H := hP
  have hD : va_D A [(h0, .inr (17, [.int 0, .null, .null, .null, .null, .null])), (q530, .inl (cI, 3, .inl (fun _ => 0)))] := hD
  refine W.widen (k := 1) (n := 3) (by omega) (by omega) ?_
  refine va_putF (D := D) (ci := 17) (v := .ref q530) (ty := .array .int) (C := R_Erm) (T := F_Erm) (N := 6) hx hb htw i_Erm t_Erm t_Erm_ok n_Erm hown hC.1 hP hD hS 0 rfl rfl 1 (by decide) (htw _ k602) (fun _ h9 => h9) rfl hin rfl (by decide +kernel) rfl rfl (Nat.le_of_ble_eq_true rfl) d_Erm_init_8 (fun H locs hP hD hS => ?_)
  have hP : va_P D classes [(h0, .inr (17, [.int 0, .ref q530, .null, .null, .null, .null])), (q530, .inl (cI, 3, .inl (fun _ => 0)))] H := hP
  have hD : va_D A [(h0, .inr (17, [.int 0, .ref q530, .null, .null, .null, .null])), (q530, .inl (cI, 3, .inl (fun _ => 0)))] := hD
  refine lv_aload_n hx hb d_Erm_init_11 rfl (lv_at hl 0 rfl) ?_
  refine lv_iconst (v := 3) hx hb d_Erm_init_12 (by decide) ?_
  refine wna_i hx hb (htw _ k238) hC hP hD hS (N := 3) (by decide) (by omega) (Nat.le_of_ble_eq_true rfl) (Nat.le_of_ble_eq_true rfl) d_Erm_init_13 (fun q531 H hP hD hS => ?_)
  have hP : va_P D classes [(h0, .inr (17, [.int 0, .ref q530, .null, .null, .null, .null])), (q530, .inl (cI, 3, .inl (fun _ => 0))), (q531, .inl (cI, 3, .inl (fun _ => 0)))] H := hP
  have hD : va_D A [(h0, .inr (17, [.int 0, .ref q530, .null, .null, .null, .null])), (q530, .inl (cI, 3, .inl (fun _ => 0))), (q531, .inl (cI, 3, .inl (fun _ => 0)))] := hD
  refine W.widen (k := 2) (n := 6) (by omega) (by omega) ?_
  refine va_putF (D := D) (ci := 17) (v := .ref q531) (ty := .array .int) (C := R_Erm) (T := F_Erm) (N := 6) hx hb htw i_Erm t_Erm t_Erm_ok n_Erm hown hC.1 hP hD hS 0 rfl rfl 2 (by decide) (htw _ k603) (fun _ h9 => h9) rfl hin rfl (by decide +kernel) rfl rfl (Nat.le_of_ble_eq_true rfl) d_Erm_init_15 (fun H locs hP hD hS => ?_)
  have hP : va_P D classes [(h0, .inr (17, [.int 0, .ref q530, .ref q531, .null, .null, .null])), (q530, .inl (cI, 3, .inl (fun _ => 0))), (q531, .inl (cI, 3, .inl (fun _ => 0)))] H := hP
  have hD : va_D A [(h0, .inr (17, [.int 0, .ref q530, .ref q531, .null, .null, .null])), (q530, .inl (cI, 3, .inl (fun _ => 0))), (q531, .inl (cI, 3, .inl (fun _ => 0)))] := hD
  refine lv_aload_n hx hb d_Erm_init_18 rfl (lv_at hl 0 rfl) ?_
  refine lv_iconst (v := 3) hx hb d_Erm_init_19 (by decide) ?_
  refine wna_i hx hb (htw _ k238) hC hP hD hS (N := 3) (by decide) (by omega) (Nat.le_of_ble_eq_true rfl) (Nat.le_of_ble_eq_true rfl) d_Erm_init_20 (fun q532 H hP hD hS => ?_)
  have hP : va_P D classes [(h0, .inr (17, [.int 0, .ref q530, .ref q531, .null, .null, .null])), (q530, .inl (cI, 3, .inl (fun _ => 0))), (q531, .inl (cI, 3, .inl (fun _ => 0))), (q532, .inl (cI, 3, .inl (fun _ => 0)))] H := hP
  have hD : va_D A [(h0, .inr (17, [.int 0, .ref q530, .ref q531, .null, .null, .null])), (q530, .inl (cI, 3, .inl (fun _ => 0))), (q531, .inl (cI, 3, .inl (fun _ => 0))), (q532, .inl (cI, 3, .inl (fun _ => 0)))] := hD
  refine W.widen (k := 3) (n := 9) (by omega) (by omega) ?_
  refine va_putF (D := D) (ci := 17) (v := .ref q532) (ty := .array .int) (C := R_Erm) (T := F_Erm) (N := 6) hx hb htw i_Erm t_Erm t_Erm_ok n_Erm hown hC.1 hP hD hS 0 rfl rfl 3 (by decide) (htw _ k604) (fun _ h9 => h9) rfl hin rfl (by decide +kernel) rfl rfl (Nat.le_of_ble_eq_true rfl) d_Erm_init_22 (fun H locs hP hD hS => ?_)
  have hP : va_P D classes [(h0, .inr (17, [.int 0, .ref q530, .ref q531, .ref q532, .null, .null])), (q530, .inl (cI, 3, .inl (fun _ => 0))), (q531, .inl (cI, 3, .inl (fun _ => 0))), (q532, .inl (cI, 3, .inl (fun _ => 0)))] H := hP
  have hD : va_D A [(h0, .inr (17, [.int 0, .ref q530, .ref q531, .ref q532, .null, .null])), (q530, .inl (cI, 3, .inl (fun _ => 0))), (q531, .inl (cI, 3, .inl (fun _ => 0))), (q532, .inl (cI, 3, .inl (fun _ => 0)))] := hD
  refine lv_aload_n hx hb d_Erm_init_25 rfl (lv_at hl 0 rfl) ?_
  refine lv_iconst (v := 3) hx hb d_Erm_init_26 (by decide) ?_
  refine wna_i hx hb (htw _ k238) hC hP hD hS (N := 3) (by decide) (by omega) (Nat.le_of_ble_eq_true rfl) (Nat.le_of_ble_eq_true rfl) d_Erm_init_27 (fun q533 H hP hD hS => ?_)
  have hP : va_P D classes [(h0, .inr (17, [.int 0, .ref q530, .ref q531, .ref q532, .null, .null])), (q530, .inl (cI, 3, .inl (fun _ => 0))), (q531, .inl (cI, 3, .inl (fun _ => 0))), (q532, .inl (cI, 3, .inl (fun _ => 0))), (q533, .inl (cI, 3, .inl (fun _ => 0)))] H := hP
  have hD : va_D A [(h0, .inr (17, [.int 0, .ref q530, .ref q531, .ref q532, .null, .null])), (q530, .inl (cI, 3, .inl (fun _ => 0))), (q531, .inl (cI, 3, .inl (fun _ => 0))), (q532, .inl (cI, 3, .inl (fun _ => 0))), (q533, .inl (cI, 3, .inl (fun _ => 0)))] := hD
  refine W.widen (k := 4) (n := 12) (by omega) (by omega) ?_
  refine va_putF (D := D) (ci := 17) (v := .ref q533) (ty := .array .int) (C := R_Erm) (T := F_Erm) (N := 6) hx hb htw i_Erm t_Erm t_Erm_ok n_Erm hown hC.1 hP hD hS 0 rfl rfl 4 (by decide) (htw _ k605) (fun _ h9 => h9) rfl hin rfl (by decide +kernel) rfl rfl (Nat.le_of_ble_eq_true rfl) d_Erm_init_29 (fun H locs hP hD hS => ?_)
  have hP : va_P D classes [(h0, .inr (17, [.int 0, .ref q530, .ref q531, .ref q532, .ref q533, .null])), (q530, .inl (cI, 3, .inl (fun _ => 0))), (q531, .inl (cI, 3, .inl (fun _ => 0))), (q532, .inl (cI, 3, .inl (fun _ => 0))), (q533, .inl (cI, 3, .inl (fun _ => 0)))] H := hP
  have hD : va_D A [(h0, .inr (17, [.int 0, .ref q530, .ref q531, .ref q532, .ref q533, .null])), (q530, .inl (cI, 3, .inl (fun _ => 0))), (q531, .inl (cI, 3, .inl (fun _ => 0))), (q532, .inl (cI, 3, .inl (fun _ => 0))), (q533, .inl (cI, 3, .inl (fun _ => 0)))] := hD
  refine lv_aload_n hx hb d_Erm_init_32 rfl (lv_at hl 0 rfl) ?_
  refine lv_bipush (v := 84) hx hb d_Erm_init_33 (by decide) ?_
  refine wna_i hx hb (htw _ k238) hC hP hD hS (N := 84) (by decide) (by omega) (Nat.le_of_ble_eq_true rfl) (Nat.le_of_ble_eq_true rfl) d_Erm_init_35 (fun q534 H hP hD hS => ?_)
  have hP : va_P D classes [(h0, .inr (17, [.int 0, .ref q530, .ref q531, .ref q532, .ref q533, .null])), (q530, .inl (cI, 3, .inl (fun _ => 0))), (q531, .inl (cI, 3, .inl (fun _ => 0))), (q532, .inl (cI, 3, .inl (fun _ => 0))), (q533, .inl (cI, 3, .inl (fun _ => 0))), (q534, .inl (cI, 84, .inl (fun _ => 0)))] H := hP
  have hD : va_D A [(h0, .inr (17, [.int 0, .ref q530, .ref q531, .ref q532, .ref q533, .null])), (q530, .inl (cI, 3, .inl (fun _ => 0))), (q531, .inl (cI, 3, .inl (fun _ => 0))), (q532, .inl (cI, 3, .inl (fun _ => 0))), (q533, .inl (cI, 3, .inl (fun _ => 0))), (q534, .inl (cI, 84, .inl (fun _ => 0)))] := hD
  refine W.widen (k := 5) (n := 96) (by omega) (by omega) ?_
  refine va_putF (D := D) (ci := 17) (v := .ref q534) (ty := .array .int) (C := R_Erm) (T := F_Erm) (N := 6) hx hb htw i_Erm t_Erm t_Erm_ok n_Erm hown hC.1 hP hD hS 0 rfl rfl 5 (by decide) (htw _ k606) (fun _ h9 => h9) rfl hin rfl (by decide +kernel) rfl rfl (Nat.le_of_ble_eq_true rfl) d_Erm_init_37 (fun H locs hP hD hS => ?_)
  have hP : va_P D classes [(h0, .inr (17, [.int 0, .ref q530, .ref q531, .ref q532, .ref q533, .ref q534])), (q530, .inl (cI, 3, .inl (fun _ => 0))), (q531, .inl (cI, 3, .inl (fun _ => 0))), (q532, .inl (cI, 3, .inl (fun _ => 0))), (q533, .inl (cI, 3, .inl (fun _ => 0))), (q534, .inl (cI, 84, .inl (fun _ => 0)))] H := hP
  have hD : va_D A [(h0, .inr (17, [.int 0, .ref q530, .ref q531, .ref q532, .ref q533, .ref q534])), (q530, .inl (cI, 3, .inl (fun _ => 0))), (q531, .inl (cI, 3, .inl (fun _ => 0))), (q532, .inl (cI, 3, .inl (fun _ => 0))), (q533, .inl (cI, 3, .inl (fun _ => 0))), (q534, .inl (cI, 84, .inl (fun _ => 0)))] := hD
  refine lv_iconst (v := 0) hx hb d_Erm_init_40 (by decide) ?_
  refine lv_istore_n (lv' := [(1, .int 0), (0, .ref h0)]) hx hb d_Erm_init_41 rfl hl (by decide) rfl (fun ls hl => ?_)
  refine lv_iload_n hx hb d_Erm_init_42 rfl (lv_at hl 0 rfl) ?_
  refine lv_iconst (v := 3) hx hb d_Erm_init_43 (by decide) ?_
  refine lv_icmp_ge (tgt := 60) hx hb d_Erm_init_44 (by decide) (fun c_535 => absurd c_535 (by decide)) (fun c_535 => ?_)
  refine lv_aload_n hx hb d_Erm_init_47 rfl (lv_at hl 1 rfl) ?_
  refine va_get (D := D) (ci := 17) (v := .ref q533) (C := R_Erm) (T := F_Erm) (N := 6) hx hb htw i_Erm hown hC.1 hP 0 rfl rfl 4 (by decide) (htw _ k605) (fun _ h9 => h9) rfl d_Erm_init_48 ?_
  refine lv_iload_n hx hb d_Erm_init_51 rfl (lv_at hl 0 rfl) ?_
  refine lv_iconst (v := 1) hx hb d_Erm_init_52 (by decide) ?_
  refine va_iast hx hb hC.1 hP hD hS 4 0 rfl rfl (by unfold vp_in; decide) d_Erm_init_53 (fun H locs hP hD hS => ?_)
  have hP : va_P D classes [(h0, .inr (17, [.int 0, .ref q530, .ref q531, .ref q532, .ref q533, .ref q534])), (q530, .inl (cI, 3, .inl (fun _ => 0))), (q531, .inl (cI, 3, .inl (fun _ => 0))), (q532, .inl (cI, 3, .inl (fun _ => 0))), (q533, .inl (cI, 3, .inl (upd (fun _ => 0) (0 : Int32).toNatClampNeg 1))), (q534, .inl (cI, 84, .inl (fun _ => 0)))] H := hP
  have hD : va_D A [(h0, .inr (17, [.int 0, .ref q530, .ref q531, .ref q532, .ref q533, .ref q534])), (q530, .inl (cI, 3, .inl (fun _ => 0))), (q531, .inl (cI, 3, .inl (fun _ => 0))), (q532, .inl (cI, 3, .inl (fun _ => 0))), (q533, .inl (cI, 3, .inl (upd (fun _ => 0) (0 : Int32).toNatClampNeg 1))), (q534, .inl (cI, 84, .inl (fun _ => 0)))] := hD
  generalize upd (fun _ => 0) (0 : Int32).toNatClampNeg 1 = f536 at hP hD
  refine lv_iinc (v := 1) (lv' := [(1, .int 1), (0, .ref h0)]) hx hb d_Erm_init_54 hl (k := 0) rfl (by decide) (by decide) rfl (fun ls hl => ?_)
  refine lv_goto (tgt := 42) hx hb d_Erm_init_57 (by decide) ?_
  refine lv_iload_n hx hb d_Erm_init_42 rfl (lv_at hl 0 rfl) ?_
  refine lv_iconst (v := 3) hx hb d_Erm_init_43 (by decide) ?_
  refine lv_icmp_ge (tgt := 60) hx hb d_Erm_init_44 (by decide) (fun c_537 => absurd c_537 (by decide)) (fun c_537 => ?_)
  refine lv_aload_n hx hb d_Erm_init_47 rfl (lv_at hl 1 rfl) ?_
  refine va_get (D := D) (ci := 17) (v := .ref q533) (C := R_Erm) (T := F_Erm) (N := 6) hx hb htw i_Erm hown hC.1 hP 0 rfl rfl 4 (by decide) (htw _ k605) (fun _ h9 => h9) rfl d_Erm_init_48 ?_
  refine lv_iload_n hx hb d_Erm_init_51 rfl (lv_at hl 0 rfl) ?_
  refine lv_iconst (v := 1) hx hb d_Erm_init_52 (by decide) ?_
  refine va_iast hx hb hC.1 hP hD hS 4 0 rfl rfl (by unfold vp_in; decide) d_Erm_init_53 (fun H locs hP hD hS => ?_)
  have hP : va_P D classes [(h0, .inr (17, [.int 0, .ref q530, .ref q531, .ref q532, .ref q533, .ref q534])), (q530, .inl (cI, 3, .inl (fun _ => 0))), (q531, .inl (cI, 3, .inl (fun _ => 0))), (q532, .inl (cI, 3, .inl (fun _ => 0))), (q533, .inl (cI, 3, .inl (upd f536 (1 : Int32).toNatClampNeg 1))), (q534, .inl (cI, 84, .inl (fun _ => 0)))] H := hP
  have hD : va_D A [(h0, .inr (17, [.int 0, .ref q530, .ref q531, .ref q532, .ref q533, .ref q534])), (q530, .inl (cI, 3, .inl (fun _ => 0))), (q531, .inl (cI, 3, .inl (fun _ => 0))), (q532, .inl (cI, 3, .inl (fun _ => 0))), (q533, .inl (cI, 3, .inl (upd f536 (1 : Int32).toNatClampNeg 1))), (q534, .inl (cI, 84, .inl (fun _ => 0)))] := hD
  generalize upd f536 (1 : Int32).toNatClampNeg 1 = f538 at hP hD
  refine lv_iinc (v := 2) (lv' := [(1, .int 2), (0, .ref h0)]) hx hb d_Erm_init_54 hl (k := 0) rfl (by decide) (by decide) rfl (fun ls hl => ?_)
  refine lv_goto (tgt := 42) hx hb d_Erm_init_57 (by decide) ?_
  refine lv_iload_n hx hb d_Erm_init_42 rfl (lv_at hl 0 rfl) ?_
  refine lv_iconst (v := 3) hx hb d_Erm_init_43 (by decide) ?_
  refine lv_icmp_ge (tgt := 60) hx hb d_Erm_init_44 (by decide) (fun c_539 => absurd c_539 (by decide)) (fun c_539 => ?_)
  refine lv_aload_n hx hb d_Erm_init_47 rfl (lv_at hl 1 rfl) ?_
  refine va_get (D := D) (ci := 17) (v := .ref q533) (C := R_Erm) (T := F_Erm) (N := 6) hx hb htw i_Erm hown hC.1 hP 0 rfl rfl 4 (by decide) (htw _ k605) (fun _ h9 => h9) rfl d_Erm_init_48 ?_
  refine lv_iload_n hx hb d_Erm_init_51 rfl (lv_at hl 0 rfl) ?_
  refine lv_iconst (v := 1) hx hb d_Erm_init_52 (by decide) ?_
  refine va_iast hx hb hC.1 hP hD hS 4 0 rfl rfl (by unfold vp_in; decide) d_Erm_init_53 (fun H locs hP hD hS => ?_)
  have hP : va_P D classes [(h0, .inr (17, [.int 0, .ref q530, .ref q531, .ref q532, .ref q533, .ref q534])), (q530, .inl (cI, 3, .inl (fun _ => 0))), (q531, .inl (cI, 3, .inl (fun _ => 0))), (q532, .inl (cI, 3, .inl (fun _ => 0))), (q533, .inl (cI, 3, .inl (upd f538 (2 : Int32).toNatClampNeg 1))), (q534, .inl (cI, 84, .inl (fun _ => 0)))] H := hP
  have hD : va_D A [(h0, .inr (17, [.int 0, .ref q530, .ref q531, .ref q532, .ref q533, .ref q534])), (q530, .inl (cI, 3, .inl (fun _ => 0))), (q531, .inl (cI, 3, .inl (fun _ => 0))), (q532, .inl (cI, 3, .inl (fun _ => 0))), (q533, .inl (cI, 3, .inl (upd f538 (2 : Int32).toNatClampNeg 1))), (q534, .inl (cI, 84, .inl (fun _ => 0)))] := hD
  generalize upd f538 (2 : Int32).toNatClampNeg 1 = f540 at hP hD
  refine lv_iinc (v := 3) (lv' := [(1, .int 3), (0, .ref h0)]) hx hb d_Erm_init_54 hl (k := 0) rfl (by decide) (by decide) rfl (fun ls hl => ?_)
  refine lv_goto (tgt := 42) hx hb d_Erm_init_57 (by decide) ?_
  refine lv_iload_n hx hb d_Erm_init_42 rfl (lv_at hl 0 rfl) ?_
  refine lv_iconst (v := 3) hx hb d_Erm_init_43 (by decide) ?_
  refine lv_icmp_ge (tgt := 60) hx hb d_Erm_init_44 (by decide) (fun c_541 => ?_) (fun c_541 => absurd c_541 (by decide))
  refine W.widen (k := 5) (n := 96) (Nat.le_of_ble_eq_true rfl) (Nat.le_of_ble_eq_true rfl) ?_
  have hP9 := hP.sub (ws' := []) [] rfl
  have hD9 := hD.sub (ws' := []) [] (by decide) rfl
  exact W.vret hx hb hr (fun t ht hW => ⟨⟨(), rfl, trivial, by rw [ht]; exact hP9, va_K.moved hW.alike hC.1, hD9⟩, hS.F ht⟩) hS.2.2 d_Erm_init_60

theorem d_Ptm_init_0 : decode prog_17_method_1_code 0 = .ok (.aload_n 0, 1) := by decide +kernel
theorem d_Ptm_init_1 : decode prog_17_method_1_code 1 = .ok (.invokespecial 1, 3) := by decide +kernel
theorem d_Ptm_init_4 : decode prog_17_method_1_code 4 = .ok (.aload_n 0, 1) := by decide +kernel
theorem d_Ptm_init_5 : decode prog_17_method_1_code 5 = .ok (.iconst 1, 1) := by decide +kernel
theorem d_Ptm_init_6 : decode prog_17_method_1_code 6 = .ok (.putfield 7, 3) := by decide +kernel
theorem d_Ptm_init_9 : decode prog_17_method_1_code 9 = .ok (.aload_n 0, 1) := by decide +kernel
theorem d_Ptm_init_10 : decode prog_17_method_1_code 10 = .ok (.iconst 1, 1) := by decide +kernel
theorem d_Ptm_init_11 : decode prog_17_method_1_code 11 = .ok (.putfield 13, 3) := by decide +kernel
theorem d_Ptm_init_14 : decode prog_17_method_1_code 14 = .ok (.aload_n 0, 1) := by decide +kernel
theorem d_Ptm_init_15 : decode prog_17_method_1_code 15 = .ok (.ldc 16, 2) := by decide +kernel
theorem d_Ptm_init_17 : decode prog_17_method_1_code 17 = .ok (.newarray .int, 2) := by decide +kernel
theorem d_Ptm_init_19 : decode prog_17_method_1_code 19 = .ok (.putfield 17, 3) := by decide +kernel
theorem d_Ptm_init_22 : decode prog_17_method_1_code 22 = .ok (.aload_n 0, 1) := by decide +kernel
theorem d_Ptm_init_23 : decode prog_17_method_1_code 23 = .ok (.sipush 16384, 3) := by decide +kernel
theorem d_Ptm_init_26 : decode prog_17_method_1_code 26 = .ok (.newarray .int, 2) := by decide +kernel
theorem d_Ptm_init_28 : decode prog_17_method_1_code 28 = .ok (.putfield 21, 3) := by decide +kernel
theorem d_Ptm_init_31 : decode prog_17_method_1_code 31 = .ok (.aload_n 0, 1) := by decide +kernel
theorem d_Ptm_init_32 : decode prog_17_method_1_code 32 = .ok (.sipush 16384, 3) := by decide +kernel
theorem d_Ptm_init_35 : decode prog_17_method_1_code 35 = .ok (.newarray .int, 2) := by decide +kernel
theorem d_Ptm_init_37 : decode prog_17_method_1_code 37 = .ok (.putfield 24, 3) := by decide +kernel
theorem d_Ptm_init_40 : decode prog_17_method_1_code 40 = .ok (.aload_n 0, 1) := by decide +kernel
theorem d_Ptm_init_41 : decode prog_17_method_1_code 41 = .ok (.iconst 4, 1) := by decide +kernel
theorem d_Ptm_init_42 : decode prog_17_method_1_code 42 = .ok (.newarray .int, 2) := by decide +kernel
theorem d_Ptm_init_44 : decode prog_17_method_1_code 44 = .ok (.putfield 27, 3) := by decide +kernel
theorem d_Ptm_init_47 : decode prog_17_method_1_code 47 = .ok (.aload_n 0, 1) := by decide +kernel
theorem d_Ptm_init_48 : decode prog_17_method_1_code 48 = .ok (.iconst (-1), 1) := by decide +kernel
theorem d_Ptm_init_49 : decode prog_17_method_1_code 49 = .ok (.putfield 30, 3) := by decide +kernel
theorem d_Ptm_init_52 : decode prog_17_method_1_code 52 = .ok (.aload_n 0, 1) := by decide +kernel
theorem d_Ptm_init_53 : decode prog_17_method_1_code 53 = .ok (.bipush 14, 2) := by decide +kernel
theorem d_Ptm_init_55 : decode prog_17_method_1_code 55 = .ok (.newarray .int, 2) := by decide +kernel
theorem d_Ptm_init_57 : decode prog_17_method_1_code 57 = .ok (.putfield 33, 3) := by decide +kernel
theorem d_Ptm_init_60 : decode prog_17_method_1_code 60 = .ok (.aload_n 0, 1) := by decide +kernel
theorem d_Ptm_init_61 : decode prog_17_method_1_code 61 = .ok (.iconst 4, 1) := by decide +kernel
theorem d_Ptm_init_62 : decode prog_17_method_1_code 62 = .ok (.newarray .int, 2) := by decide +kernel
theorem d_Ptm_init_64 : decode prog_17_method_1_code 64 = .ok (.putfield 36, 3) := by decide +kernel
theorem d_Ptm_init_67 : decode prog_17_method_1_code 67 = .ok (.aload_n 0, 1) := by decide +kernel
theorem d_Ptm_init_68 : decode prog_17_method_1_code 68 = .ok (.iconst (-1), 1) := by decide +kernel
theorem d_Ptm_init_69 : decode prog_17_method_1_code 69 = .ok (.putfield 39, 3) := by decide +kernel
theorem d_Ptm_init_72 : decode prog_17_method_1_code 72 = .ok (.aload_n 0, 1) := by decide +kernel
theorem d_Ptm_init_73 : decode prog_17_method_1_code 73 = .ok (.iconst 4, 1) := by decide +kernel
theorem d_Ptm_init_74 : decode prog_17_method_1_code 74 = .ok (.newarray .int, 2) := by decide +kernel
theorem d_Ptm_init_76 : decode prog_17_method_1_code 76 = .ok (.putfield 42, 3) := by decide +kernel
theorem d_Ptm_init_79 : decode prog_17_method_1_code 79 = .ok (.aload_n 0, 1) := by decide +kernel
theorem d_Ptm_init_80 : decode prog_17_method_1_code 80 = .ok (.iconst (-1), 1) := by decide +kernel
theorem d_Ptm_init_81 : decode prog_17_method_1_code 81 = .ok (.putfield 45, 3) := by decide +kernel
theorem d_Ptm_init_84 : decode prog_17_method_1_code 84 = .ok (.aload_n 0, 1) := by decide +kernel
theorem d_Ptm_init_85 : decode prog_17_method_1_code 85 = .ok (.bipush 15, 2) := by decide +kernel
theorem d_Ptm_init_87 : decode prog_17_method_1_code 87 = .ok (.putfield 48, 3) := by decide +kernel
theorem d_Ptm_init_90 : decode prog_17_method_1_code 90 = .ok (.aload_n 0, 1) := by decide +kernel
theorem d_Ptm_init_91 : decode prog_17_method_1_code 91 = .ok (.iconst 4, 1) := by decide +kernel
theorem d_Ptm_init_92 : decode prog_17_method_1_code 92 = .ok (.newarray .int, 2) := by decide +kernel
theorem d_Ptm_init_94 : decode prog_17_method_1_code 94 = .ok (.putfield 51, 3) := by decide +kernel
theorem d_Ptm_init_97 : decode prog_17_method_1_code 97 = .ok (.aload_n 0, 1) := by decide +kernel
theorem d_Ptm_init_98 : decode prog_17_method_1_code 98 = .ok (.iconst 4, 1) := by decide +kernel
theorem d_Ptm_init_99 : decode prog_17_method_1_code 99 = .ok (.newarray .int, 2) := by decide +kernel
theorem d_Ptm_init_101 : decode prog_17_method_1_code 101 = .ok (.putfield 54, 3) := by decide +kernel
theorem d_Ptm_init_104 : decode prog_17_method_1_code 104 = .ok (.aload_n 0, 1) := by decide +kernel
theorem d_Ptm_init_105 : decode prog_17_method_1_code 105 = .ok (.iconst 4, 1) := by decide +kernel
theorem d_Ptm_init_106 : decode prog_17_method_1_code 106 = .ok (.newarray .int, 2) := by decide +kernel
theorem d_Ptm_init_108 : decode prog_17_method_1_code 108 = .ok (.putfield 57, 3) := by decide +kernel
theorem d_Ptm_init_111 : decode prog_17_method_1_code 111 = .ok (.aload_n 0, 1) := by decide +kernel
theorem d_Ptm_init_112 : decode prog_17_method_1_code 112 = .ok (.getfield 33, 3) := by decide +kernel
theorem d_Ptm_init_115 : decode prog_17_method_1_code 115 = .ok (.iconst 0, 1) := by decide +kernel
theorem d_Ptm_init_116 : decode prog_17_method_1_code 116 = .ok (.iconst (-1), 1) := by decide +kernel
theorem d_Ptm_init_117 : decode prog_17_method_1_code 117 = .ok (.iastore, 1) := by decide +kernel
theorem d_Ptm_init_118 : decode prog_17_method_1_code 118 = .ok (.aload_n 0, 1) := by decide +kernel
theorem d_Ptm_init_119 : decode prog_17_method_1_code 119 = .ok (.getfield 33, 3) := by decide +kernel
theorem d_Ptm_init_122 : decode prog_17_method_1_code 122 = .ok (.bipush 7, 2) := by decide +kernel
theorem d_Ptm_init_124 : decode prog_17_method_1_code 124 = .ok (.iconst (-1), 1) := by decide +kernel
theorem d_Ptm_init_125 : decode prog_17_method_1_code 125 = .ok (.iastore, 1) := by decide +kernel
theorem d_Ptm_init_126 : decode prog_17_method_1_code 126 = .ok (.return_, 1) := by decide +kernel
set_option maxHeartbeats 4000000 in
set_option maxRecDepth 100000 in
theorem c_Ptm_init (l : Launch) (D : va_G) (cI cL : ClassId) (B sz : Nat) (h0 : Nat) : Met l y_Ptm_init ((Cond.code y_Ptm_init prog_17_method_1_code 1 none) :: tw) ({ frames := 20, cells := 10, slots := 98342, locals := 2000 }) (va_Pc [.ref h0] (wP D cI cL B sz [(h0, .inr (18, [.int 0, .int 0, .int 0, .int 0, .int 0, .null, .null, .null, .int 0, .null, .int 0, .int 0, .null, .null, .int 0, .int 0, .null, .int 0, .int 0, .null, .null, .null]))])) (va_Qv (S := Nat × Nat × Nat × Nat × Nat × Nat × Nat × Nat × Nat × Nat) (fun _ => True) (fun u => wB D cI cL (va_A [(h0, .inr (18, [.int 0, .int 0, .int 0, .int 0, .int 0, .null, .null, .null, .int 0, .null, .int 0, .int 0, .null, .null, .int 0, .int 0, .null, .int 0, .int 0, .null, .null, .null]))] sz) ((fun u : Nat × Nat × Nat × Nat × Nat × Nat × Nat × Nat × Nat × Nat => match u with | (q542, q543, q544, q545, q546, q547, q548, q549, q550, q551) => [(h0, .inr (18, [.int 0, .int 0, .int 0, .int 1, .int 1, .ref q542, .ref q543, .ref q544, .int 0, .ref q545, .int (-1), .int 0, .ref q546, .ref q547, .int (-1), .int 0, .ref q548, .int (-1), .int 15, .ref q549, .ref q550, .ref q551])), (q542, .inl (cI, 65536, .inl (fun _ => 0))), (q543, .inl (cI, 16384, .inl (fun _ => 0))), (q544, .inl (cI, 16384, .inl (fun _ => 0)))]) u)) (va_A [(h0, .inr (18, [.int 0, .int 0, .int 0, .int 0, .int 0, .null, .null, .null, .int 0, .null, .int 0, .int 0, .null, .null, .int 0, .int 0, .null, .int 0, .int 0, .null, .null, .null]))] sz)) 10 98342 (va_A [(h0, .inr (18, [.int 0, .int 0, .int 0, .int 0, .int 0, .null, .null, .null, .int 0, .null, .int 0, .int 0, .null, .null, .int 0, .int 0, .null, .int 0, .int 0, .null, .null, .null]))] sz) := by
  refine Met.ofW (cc := prog_17_method_1_code) (maxL := 1) (ret := none) (by decide) rfl ?_
  intro p e s m args below meth c s₁ B0 hml hv
  obtain ⟨rfl, hv⟩ := hv
  have hx := B0.exec
  have hb := B0.bytes
  have hr := B0.returns
  have hts := atoms_spec (ws := (Cond.code y_Ptm_init prog_17_method_1_code 1 none) :: tw) B0.pre
  have htw : ∀ w ∈ tw, w.before _ s = true := fun w hw => hts w (List.mem_cons_of_mem _ hw)
  have hown : s.vm.findClass "DrawingMachineModel$PlaceTestsModel" = some m.cls := findClass_of_methodNamed B0.named
  have hlocks := B0.notSynchronized
  have hin : meth.name = "<init>" := (name_of_methodNamed B0.named B0.method).1
  obtain ⟨hC, hP, hD, hsz⟩ := wC_init hv
  subst hsz
  generalize hAe : va_A [(h0, .inr (18, [.int 0, .int 0, .int 0, .int 0, .int 0, .null, .null, .null, .int 0, .null, .int 0, .int 0, .null, .null, .int 0, .int 0, .null, .int 0, .int 0, .null, .null, .null]))] s.heap.size = A at hC hD ⊢
  have hS : va_S A s.heap s.heap [] := va_S.rf
  have hl := lv_entry ([.ref h0]) (n := 1) (Nat.le_of_ble_eq_true rfl)
  rw [lg_entry_eq]
  generalize (lg_sl ([.ref h0]) ++ List.replicate (1 - (lg_sl ([.ref h0])).length) Slot.unset).toArray = ls at hl ⊢
  have hl : lv_has ls 1 [(0, .ref h0)] := hl
  refine lv_aload_n hx hb d_Ptm_init_0 rfl (lv_at hl 0 rfl) ?_
  refine W.objInit hx hb hown (htw _ k607) (htw _ k242) (htw _ k243) rfl (by rw [hml]; exact hl.1) rfl d_Ptm_init_1 (Nat.le_of_ble_eq_true rfl) (Nat.le_of_ble_eq_true rfl) ?_
  refine W.eq (g2 := F0 m 4 ls []) rfl ?_
  refine lv_aload_n hx hb d_Ptm_init_4 rfl (lv_at hl 0 rfl) ?_
  refine lv_iconst (v := 1) hx hb d_Ptm_init_5 (by decide) ?_
  refine va_put (D := D) (ci := 18) (v := .int 1) (ty := .int) (C := R_Ptm) (T := F_Ptm) (N := 22) hx hb htw i_Ptm t_Ptm t_Ptm_ok n_Ptm hown hC.1 hP hD hS 0 rfl rfl 3 (by decide) (htw _ k608) (fun _ h9 => h9) rfl (by decide +kernel) rfl rfl (Nat.le_of_ble_eq_true rfl) d_Ptm_init_6 (fun H locs hP hD hS => ?_)
  have hP : va_P D classes [(h0, .inr (18, [.int 0, .int 0, .int 0, .int 1, .int 0, .null, .null, .null, .int 0, .null, .int 0, .int 0, .null, .null, .int 0, .int 0, .null, .int 0, .int 0, .null, .null, .null]))] H := hP
  have hD : va_D A [(h0, .inr (18, [.int 0, .int 0, .int 0, .int 1, .int 0, .null, .null, .null, .int 0, .null, .int 0, .int 0, .null, .null, .int 0, .int 0, .null, .int 0, .int 0, .null, .null, .null]))] := hD
  refine lv_aload_n hx hb d_Ptm_init_9 rfl (lv_at hl 0 rfl) ?_
  refine lv_iconst (v := 1) hx hb d_Ptm_init_10 (by decide) ?_
  refine va_put (D := D) (ci := 18) (v := .int 1) (ty := .int) (C := R_Ptm) (T := F_Ptm) (N := 22) hx hb htw i_Ptm t_Ptm t_Ptm_ok n_Ptm hown hC.1 hP hD hS 0 rfl rfl 4 (by decide) (htw _ k609) (fun _ h9 => h9) rfl (by decide +kernel) rfl rfl (Nat.le_of_ble_eq_true rfl) d_Ptm_init_11 (fun H locs hP hD hS => ?_)
  have hP : va_P D classes [(h0, .inr (18, [.int 0, .int 0, .int 0, .int 1, .int 1, .null, .null, .null, .int 0, .null, .int 0, .int 0, .null, .null, .int 0, .int 0, .null, .int 0, .int 0, .null, .null, .null]))] H := hP
  have hD : va_D A [(h0, .inr (18, [.int 0, .int 0, .int 0, .int 1, .int 1, .null, .null, .null, .int 0, .null, .int 0, .int 0, .null, .null, .int 0, .int 0, .null, .int 0, .int 0, .null, .null, .null]))] := hD
  refine lv_aload_n hx hb d_Ptm_init_14 rfl (lv_at hl 0 rfl) ?_
  refine lv_ldc (v := 65536) hx hb hown (htw _ k610) d_Ptm_init_15 ?_
  refine wna_i hx hb (htw _ k238) hC hP hD hS (N := 65536) (by decide) (by omega) (Nat.le_of_ble_eq_true rfl) (Nat.le_of_ble_eq_true rfl) d_Ptm_init_17 (fun q542 H hP hD hS => ?_)
  have hP : va_P D classes [(h0, .inr (18, [.int 0, .int 0, .int 0, .int 1, .int 1, .null, .null, .null, .int 0, .null, .int 0, .int 0, .null, .null, .int 0, .int 0, .null, .int 0, .int 0, .null, .null, .null])), (q542, .inl (cI, 65536, .inl (fun _ => 0)))] H := hP
  have hD : va_D A [(h0, .inr (18, [.int 0, .int 0, .int 0, .int 1, .int 1, .null, .null, .null, .int 0, .null, .int 0, .int 0, .null, .null, .int 0, .int 0, .null, .int 0, .int 0, .null, .null, .null])), (q542, .inl (cI, 65536, .inl (fun _ => 0)))] := hD
  refine W.widen (k := 1) (n := 65536) (by omega) (by omega) ?_
  refine va_putF (D := D) (ci := 18) (v := .ref q542) (ty := .array .int) (C := R_Ptm) (T := F_Ptm) (N := 22) hx hb htw i_Ptm t_Ptm t_Ptm_ok n_Ptm hown hC.1 hP hD hS 0 rfl rfl 5 (by decide) (htw _ k611) (fun _ h9 => h9) rfl hin rfl (by decide +kernel) rfl rfl (Nat.le_of_ble_eq_true rfl) d_Ptm_init_19 (fun H locs hP hD hS => ?_)
  have hP : va_P D classes [(h0, .inr (18, [.int 0, .int 0, .int 0, .int 1, .int 1, .ref q542, .null, .null, .int 0, .null, .int 0, .int 0, .null, .null, .int 0, .int 0, .null, .int 0, .int 0, .null, .null, .null])), (q542, .inl (cI, 65536, .inl (fun _ => 0)))] H := hP
  have hD : va_D A [(h0, .inr (18, [.int 0, .int 0, .int 0, .int 1, .int 1, .ref q542, .null, .null, .int 0, .null, .int 0, .int 0, .null, .null, .int 0, .int 0, .null, .int 0, .int 0, .null, .null, .null])), (q542, .inl (cI, 65536, .inl (fun _ => 0)))] := hD
  refine lv_aload_n hx hb d_Ptm_init_22 rfl (lv_at hl 0 rfl) ?_
  refine lv_sipush (v := 16384) hx hb d_Ptm_init_23 (by decide) ?_
  refine wna_i hx hb (htw _ k238) hC hP hD hS (N := 16384) (by decide) (by omega) (Nat.le_of_ble_eq_true rfl) (Nat.le_of_ble_eq_true rfl) d_Ptm_init_26 (fun q543 H hP hD hS => ?_)
  have hP : va_P D classes [(h0, .inr (18, [.int 0, .int 0, .int 0, .int 1, .int 1, .ref q542, .null, .null, .int 0, .null, .int 0, .int 0, .null, .null, .int 0, .int 0, .null, .int 0, .int 0, .null, .null, .null])), (q542, .inl (cI, 65536, .inl (fun _ => 0))), (q543, .inl (cI, 16384, .inl (fun _ => 0)))] H := hP
  have hD : va_D A [(h0, .inr (18, [.int 0, .int 0, .int 0, .int 1, .int 1, .ref q542, .null, .null, .int 0, .null, .int 0, .int 0, .null, .null, .int 0, .int 0, .null, .int 0, .int 0, .null, .null, .null])), (q542, .inl (cI, 65536, .inl (fun _ => 0))), (q543, .inl (cI, 16384, .inl (fun _ => 0)))] := hD
  refine W.widen (k := 2) (n := 81920) (by omega) (by omega) ?_
  refine va_putF (D := D) (ci := 18) (v := .ref q543) (ty := .array .int) (C := R_Ptm) (T := F_Ptm) (N := 22) hx hb htw i_Ptm t_Ptm t_Ptm_ok n_Ptm hown hC.1 hP hD hS 0 rfl rfl 6 (by decide) (htw _ k612) (fun _ h9 => h9) rfl hin rfl (by decide +kernel) rfl rfl (Nat.le_of_ble_eq_true rfl) d_Ptm_init_28 (fun H locs hP hD hS => ?_)
  have hP : va_P D classes [(h0, .inr (18, [.int 0, .int 0, .int 0, .int 1, .int 1, .ref q542, .ref q543, .null, .int 0, .null, .int 0, .int 0, .null, .null, .int 0, .int 0, .null, .int 0, .int 0, .null, .null, .null])), (q542, .inl (cI, 65536, .inl (fun _ => 0))), (q543, .inl (cI, 16384, .inl (fun _ => 0)))] H := hP
  have hD : va_D A [(h0, .inr (18, [.int 0, .int 0, .int 0, .int 1, .int 1, .ref q542, .ref q543, .null, .int 0, .null, .int 0, .int 0, .null, .null, .int 0, .int 0, .null, .int 0, .int 0, .null, .null, .null])), (q542, .inl (cI, 65536, .inl (fun _ => 0))), (q543, .inl (cI, 16384, .inl (fun _ => 0)))] := hD
  refine lv_aload_n hx hb d_Ptm_init_31 rfl (lv_at hl 0 rfl) ?_
  refine lv_sipush (v := 16384) hx hb d_Ptm_init_32 (by decide) ?_
  refine wna_i hx hb (htw _ k238) hC hP hD hS (N := 16384) (by decide) (by omega) (Nat.le_of_ble_eq_true rfl) (Nat.le_of_ble_eq_true rfl) d_Ptm_init_35 (fun q544 H hP hD hS => ?_)
  have hP : va_P D classes [(h0, .inr (18, [.int 0, .int 0, .int 0, .int 1, .int 1, .ref q542, .ref q543, .null, .int 0, .null, .int 0, .int 0, .null, .null, .int 0, .int 0, .null, .int 0, .int 0, .null, .null, .null])), (q542, .inl (cI, 65536, .inl (fun _ => 0))), (q543, .inl (cI, 16384, .inl (fun _ => 0))), (q544, .inl (cI, 16384, .inl (fun _ => 0)))] H := hP
  have hD : va_D A [(h0, .inr (18, [.int 0, .int 0, .int 0, .int 1, .int 1, .ref q542, .ref q543, .null, .int 0, .null, .int 0, .int 0, .null, .null, .int 0, .int 0, .null, .int 0, .int 0, .null, .null, .null])), (q542, .inl (cI, 65536, .inl (fun _ => 0))), (q543, .inl (cI, 16384, .inl (fun _ => 0))), (q544, .inl (cI, 16384, .inl (fun _ => 0)))] := hD
  refine W.widen (k := 3) (n := 98304) (by omega) (by omega) ?_
  refine va_putF (D := D) (ci := 18) (v := .ref q544) (ty := .array .int) (C := R_Ptm) (T := F_Ptm) (N := 22) hx hb htw i_Ptm t_Ptm t_Ptm_ok n_Ptm hown hC.1 hP hD hS 0 rfl rfl 7 (by decide) (htw _ k613) (fun _ h9 => h9) rfl hin rfl (by decide +kernel) rfl rfl (Nat.le_of_ble_eq_true rfl) d_Ptm_init_37 (fun H locs hP hD hS => ?_)
  have hP : va_P D classes [(h0, .inr (18, [.int 0, .int 0, .int 0, .int 1, .int 1, .ref q542, .ref q543, .ref q544, .int 0, .null, .int 0, .int 0, .null, .null, .int 0, .int 0, .null, .int 0, .int 0, .null, .null, .null])), (q542, .inl (cI, 65536, .inl (fun _ => 0))), (q543, .inl (cI, 16384, .inl (fun _ => 0))), (q544, .inl (cI, 16384, .inl (fun _ => 0)))] H := hP
  have hD : va_D A [(h0, .inr (18, [.int 0, .int 0, .int 0, .int 1, .int 1, .ref q542, .ref q543, .ref q544, .int 0, .null, .int 0, .int 0, .null, .null, .int 0, .int 0, .null, .int 0, .int 0, .null, .null, .null])), (q542, .inl (cI, 65536, .inl (fun _ => 0))), (q543, .inl (cI, 16384, .inl (fun _ => 0))), (q544, .inl (cI, 16384, .inl (fun _ => 0)))] := hD
  refine lv_aload_n hx hb d_Ptm_init_40 rfl (lv_at hl 0 rfl) ?_
  refine lv_iconst (v := 4) hx hb d_Ptm_init_41 (by decide) ?_
  refine wna_i hx hb (htw _ k238) hC hP hD hS (N := 4) (by decide) (by omega) (Nat.le_of_ble_eq_true rfl) (Nat.le_of_ble_eq_true rfl) d_Ptm_init_42 (fun q545 H hP hD hS => ?_)
  have hP : va_P D classes [(h0, .inr (18, [.int 0, .int 0, .int 0, .int 1, .int 1, .ref q542, .ref q543, .ref q544, .int 0, .null, .int 0, .int 0, .null, .null, .int 0, .int 0, .null, .int 0, .int 0, .null, .null, .null])), (q542, .inl (cI, 65536, .inl (fun _ => 0))), (q543, .inl (cI, 16384, .inl (fun _ => 0))), (q544, .inl (cI, 16384, .inl (fun _ => 0))), (q545, .inl (cI, 4, .inl (fun _ => 0)))] H := hP
  have hD : va_D A [(h0, .inr (18, [.int 0, .int 0, .int 0, .int 1, .int 1, .ref q542, .ref q543, .ref q544, .int 0, .null, .int 0, .int 0, .null, .null, .int 0, .int 0, .null, .int 0, .int 0, .null, .null, .null])), (q542, .inl (cI, 65536, .inl (fun _ => 0))), (q543, .inl (cI, 16384, .inl (fun _ => 0))), (q544, .inl (cI, 16384, .inl (fun _ => 0))), (q545, .inl (cI, 4, .inl (fun _ => 0)))] := hD
  refine W.widen (k := 4) (n := 98308) (by omega) (by omega) ?_
  refine va_putF (D := D) (ci := 18) (v := .ref q545) (ty := .array .int) (C := R_Ptm) (T := F_Ptm) (N := 22) hx hb htw i_Ptm t_Ptm t_Ptm_ok n_Ptm hown hC.1 hP hD hS 0 rfl rfl 9 (by decide) (htw _ k614) (fun _ h9 => h9) rfl hin rfl (by decide +kernel) rfl rfl (Nat.le_of_ble_eq_true rfl) d_Ptm_init_44 (fun H locs hP hD hS => ?_)
  have hP : va_P D classes [(h0, .inr (18, [.int 0, .int 0, .int 0, .int 1, .int 1, .ref q542, .ref q543, .ref q544, .int 0, .ref q545, .int 0, .int 0, .null, .null, .int 0, .int 0, .null, .int 0, .int 0, .null, .null, .null])), (q542, .inl (cI, 65536, .inl (fun _ => 0))), (q543, .inl (cI, 16384, .inl (fun _ => 0))), (q544, .inl (cI, 16384, .inl (fun _ => 0))), (q545, .inl (cI, 4, .inl (fun _ => 0)))] H := hP
  have hD : va_D A [(h0, .inr (18, [.int 0, .int 0, .int 0, .int 1, .int 1, .ref q542, .ref q543, .ref q544, .int 0, .ref q545, .int 0, .int 0, .null, .null, .int 0, .int 0, .null, .int 0, .int 0, .null, .null, .null])), (q542, .inl (cI, 65536, .inl (fun _ => 0))), (q543, .inl (cI, 16384, .inl (fun _ => 0))), (q544, .inl (cI, 16384, .inl (fun _ => 0))), (q545, .inl (cI, 4, .inl (fun _ => 0)))] := hD
  refine lv_aload_n hx hb d_Ptm_init_47 rfl (lv_at hl 0 rfl) ?_
  refine lv_iconst (v := (-1)) hx hb d_Ptm_init_48 (by decide) ?_
  refine va_put (D := D) (ci := 18) (v := .int (-1)) (ty := .int) (C := R_Ptm) (T := F_Ptm) (N := 22) hx hb htw i_Ptm t_Ptm t_Ptm_ok n_Ptm hown hC.1 hP hD hS 0 rfl rfl 10 (by decide) (htw _ k615) (fun _ h9 => h9) rfl (by decide +kernel) rfl rfl (Nat.le_of_ble_eq_true rfl) d_Ptm_init_49 (fun H locs hP hD hS => ?_)
  have hP : va_P D classes [(h0, .inr (18, [.int 0, .int 0, .int 0, .int 1, .int 1, .ref q542, .ref q543, .ref q544, .int 0, .ref q545, .int (-1), .int 0, .null, .null, .int 0, .int 0, .null, .int 0, .int 0, .null, .null, .null])), (q542, .inl (cI, 65536, .inl (fun _ => 0))), (q543, .inl (cI, 16384, .inl (fun _ => 0))), (q544, .inl (cI, 16384, .inl (fun _ => 0))), (q545, .inl (cI, 4, .inl (fun _ => 0)))] H := hP
  have hD : va_D A [(h0, .inr (18, [.int 0, .int 0, .int 0, .int 1, .int 1, .ref q542, .ref q543, .ref q544, .int 0, .ref q545, .int (-1), .int 0, .null, .null, .int 0, .int 0, .null, .int 0, .int 0, .null, .null, .null])), (q542, .inl (cI, 65536, .inl (fun _ => 0))), (q543, .inl (cI, 16384, .inl (fun _ => 0))), (q544, .inl (cI, 16384, .inl (fun _ => 0))), (q545, .inl (cI, 4, .inl (fun _ => 0)))] := hD
  refine lv_aload_n hx hb d_Ptm_init_52 rfl (lv_at hl 0 rfl) ?_
  refine lv_bipush (v := 14) hx hb d_Ptm_init_53 (by decide) ?_
  refine wna_i hx hb (htw _ k238) hC hP hD hS (N := 14) (by decide) (by omega) (Nat.le_of_ble_eq_true rfl) (Nat.le_of_ble_eq_true rfl) d_Ptm_init_55 (fun q546 H hP hD hS => ?_)
  have hP : va_P D classes [(h0, .inr (18, [.int 0, .int 0, .int 0, .int 1, .int 1, .ref q542, .ref q543, .ref q544, .int 0, .ref q545, .int (-1), .int 0, .null, .null, .int 0, .int 0, .null, .int 0, .int 0, .null, .null, .null])), (q542, .inl (cI, 65536, .inl (fun _ => 0))), (q543, .inl (cI, 16384, .inl (fun _ => 0))), (q544, .inl (cI, 16384, .inl (fun _ => 0))), (q545, .inl (cI, 4, .inl (fun _ => 0))), (q546, .inl (cI, 14, .inl (fun _ => 0)))] H := hP
  have hD : va_D A [(h0, .inr (18, [.int 0, .int 0, .int 0, .int 1, .int 1, .ref q542, .ref q543, .ref q544, .int 0, .ref q545, .int (-1), .int 0, .null, .null, .int 0, .int 0, .null, .int 0, .int 0, .null, .null, .null])), (q542, .inl (cI, 65536, .inl (fun _ => 0))), (q543, .inl (cI, 16384, .inl (fun _ => 0))), (q544, .inl (cI, 16384, .inl (fun _ => 0))), (q545, .inl (cI, 4, .inl (fun _ => 0))), (q546, .inl (cI, 14, .inl (fun _ => 0)))] := hD
  refine W.widen (k := 5) (n := 98322) (by omega) (by omega) ?_
  refine va_putF (D := D) (ci := 18) (v := .ref q546) (ty := .array .int) (C := R_Ptm) (T := F_Ptm) (N := 22) hx hb htw i_Ptm t_Ptm t_Ptm_ok n_Ptm hown hC.1 hP hD hS 0 rfl rfl 12 (by decide) (htw _ k616) (fun _ h9 => h9) rfl hin rfl (by decide +kernel) rfl rfl (Nat.le_of_ble_eq_true rfl) d_Ptm_init_57 (fun H locs hP hD hS => ?_)
  have hP : va_P D classes [(h0, .inr (18, [.int 0, .int 0, .int 0, .int 1, .int 1, .ref q542, .ref q543, .ref q544, .int 0, .ref q545, .int (-1), .int 0, .ref q546, .null, .int 0, .int 0, .null, .int 0, .int 0, .null, .null, .null])), (q542, .inl (cI, 65536, .inl (fun _ => 0))), (q543, .inl (cI, 16384, .inl (fun _ => 0))), (q544, .inl (cI, 16384, .inl (fun _ => 0))), (q545, .inl (cI, 4, .inl (fun _ => 0))), (q546, .inl (cI, 14, .inl (fun _ => 0)))] H := hP
  have hD : va_D A [(h0, .inr (18, [.int 0, .int 0, .int 0, .int 1, .int 1, .ref q542, .ref q543, .ref q544, .int 0, .ref q545, .int (-1), .int 0, .ref q546, .null, .int 0, .int 0, .null, .int 0, .int 0, .null, .null, .null])), (q542, .inl (cI, 65536, .inl (fun _ => 0))), (q543, .inl (cI, 16384, .inl (fun _ => 0))), (q544, .inl (cI, 16384, .inl (fun _ => 0))), (q545, .inl (cI, 4, .inl (fun _ => 0))), (q546, .inl (cI, 14, .inl (fun _ => 0)))] := hD
  refine lv_aload_n hx hb d_Ptm_init_60 rfl (lv_at hl 0 rfl) ?_
  refine lv_iconst (v := 4) hx hb d_Ptm_init_61 (by decide) ?_
  refine wna_i hx hb (htw _ k238) hC hP hD hS (N := 4) (by decide) (by omega) (Nat.le_of_ble_eq_true rfl) (Nat.le_of_ble_eq_true rfl) d_Ptm_init_62 (fun q547 H hP hD hS => ?_)
  have hP : va_P D classes [(h0, .inr (18, [.int 0, .int 0, .int 0, .int 1, .int 1, .ref q542, .ref q543, .ref q544, .int 0, .ref q545, .int (-1), .int 0, .ref q546, .null, .int 0, .int 0, .null, .int 0, .int 0, .null, .null, .null])), (q542, .inl (cI, 65536, .inl (fun _ => 0))), (q543, .inl (cI, 16384, .inl (fun _ => 0))), (q544, .inl (cI, 16384, .inl (fun _ => 0))), (q545, .inl (cI, 4, .inl (fun _ => 0))), (q546, .inl (cI, 14, .inl (fun _ => 0))), (q547, .inl (cI, 4, .inl (fun _ => 0)))] H := hP
  have hD : va_D A [(h0, .inr (18, [.int 0, .int 0, .int 0, .int 1, .int 1, .ref q542, .ref q543, .ref q544, .int 0, .ref q545, .int (-1), .int 0, .ref q546, .null, .int 0, .int 0, .null, .int 0, .int 0, .null, .null, .null])), (q542, .inl (cI, 65536, .inl (fun _ => 0))), (q543, .inl (cI, 16384, .inl (fun _ => 0))), (q544, .inl (cI, 16384, .inl (fun _ => 0))), (q545, .inl (cI, 4, .inl (fun _ => 0))), (q546, .inl (cI, 14, .inl (fun _ => 0))), (q547, .inl (cI, 4, .inl (fun _ => 0)))] := hD
  refine W.widen (k := 6) (n := 98326) (by omega) (by omega) ?_
  refine va_putF (D := D) (ci := 18) (v := .ref q547) (ty := .array .int) (C := R_Ptm) (T := F_Ptm) (N := 22) hx hb htw i_Ptm t_Ptm t_Ptm_ok n_Ptm hown hC.1 hP hD hS 0 rfl rfl 13 (by decide) (htw _ k617) (fun _ h9 => h9) rfl hin rfl (by decide +kernel) rfl rfl (Nat.le_of_ble_eq_true rfl) d_Ptm_init_64 (fun H locs hP hD hS => ?_)
  have hP : va_P D classes [(h0, .inr (18, [.int 0, .int 0, .int 0, .int 1, .int 1, .ref q542, .ref q543, .ref q544, .int 0, .ref q545, .int (-1), .int 0, .ref q546, .ref q547, .int 0, .int 0, .null, .int 0, .int 0, .null, .null, .null])), (q542, .inl (cI, 65536, .inl (fun _ => 0))), (q543, .inl (cI, 16384, .inl (fun _ => 0))), (q544, .inl (cI, 16384, .inl (fun _ => 0))), (q545, .inl (cI, 4, .inl (fun _ => 0))), (q546, .inl (cI, 14, .inl (fun _ => 0))), (q547, .inl (cI, 4, .inl (fun _ => 0)))] H := hP
  have hD : va_D A [(h0, .inr (18, [.int 0, .int 0, .int 0, .int 1, .int 1, .ref q542, .ref q543, .ref q544, .int 0, .ref q545, .int (-1), .int 0, .ref q546, .ref q547, .int 0, .int 0, .null, .int 0, .int 0, .null, .null, .null])), (q542, .inl (cI, 65536, .inl (fun _ => 0))), (q543, .inl (cI, 16384, .inl (fun _ => 0))), (q544, .inl (cI, 16384, .inl (fun _ => 0))), (q545, .inl (cI, 4, .inl (fun _ => 0))), (q546, .inl (cI, 14, .inl (fun _ => 0))), (q547, .inl (cI, 4, .inl (fun _ => 0)))] := hD
  refine lv_aload_n hx hb d_Ptm_init_67 rfl (lv_at hl 0 rfl) ?_
  refine lv_iconst (v := (-1)) hx hb d_Ptm_init_68 (by decide) ?_
  refine va_put (D := D) (ci := 18) (v := .int (-1)) (ty := .int) (C := R_Ptm) (T := F_Ptm) (N := 22) hx hb htw i_Ptm t_Ptm t_Ptm_ok n_Ptm hown hC.1 hP hD hS 0 rfl rfl 14 (by decide) (htw _ k618) (fun _ h9 => h9) rfl (by decide +kernel) rfl rfl (Nat.le_of_ble_eq_true rfl) d_Ptm_init_69 (fun H locs hP hD hS => ?_)
  have hP : va_P D classes [(h0, .inr (18, [.int 0, .int 0, .int 0, .int 1, .int 1, .ref q542, .ref q543, .ref q544, .int 0, .ref q545, .int (-1), .int 0, .ref q546, .ref q547, .int (-1), .int 0, .null, .int 0, .int 0, .null, .null, .null])), (q542, .inl (cI, 65536, .inl (fun _ => 0))), (q543, .inl (cI, 16384, .inl (fun _ => 0))), (q544, .inl (cI, 16384, .inl (fun _ => 0))), (q545, .inl (cI, 4, .inl (fun _ => 0))), (q546, .inl (cI, 14, .inl (fun _ => 0))), (q547, .inl (cI, 4, .inl (fun _ => 0)))] H := hP
  have hD : va_D A [(h0, .inr (18, [.int 0, .int 0, .int 0, .int 1, .int 1, .ref q542, .ref q543, .ref q544, .int 0, .ref q545, .int (-1), .int 0, .ref q546, .ref q547, .int (-1), .int 0, .null, .int 0, .int 0, .null, .null, .null])), (q542, .inl (cI, 65536, .inl (fun _ => 0))), (q543, .inl (cI, 16384, .inl (fun _ => 0))), (q544, .inl (cI, 16384, .inl (fun _ => 0))), (q545, .inl (cI, 4, .inl (fun _ => 0))), (q546, .inl (cI, 14, .inl (fun _ => 0))), (q547, .inl (cI, 4, .inl (fun _ => 0)))] := hD
  refine lv_aload_n hx hb d_Ptm_init_72 rfl (lv_at hl 0 rfl) ?_
  refine lv_iconst (v := 4) hx hb d_Ptm_init_73 (by decide) ?_
  refine wna_i hx hb (htw _ k238) hC hP hD hS (N := 4) (by decide) (by omega) (Nat.le_of_ble_eq_true rfl) (Nat.le_of_ble_eq_true rfl) d_Ptm_init_74 (fun q548 H hP hD hS => ?_)
  have hP : va_P D classes [(h0, .inr (18, [.int 0, .int 0, .int 0, .int 1, .int 1, .ref q542, .ref q543, .ref q544, .int 0, .ref q545, .int (-1), .int 0, .ref q546, .ref q547, .int (-1), .int 0, .null, .int 0, .int 0, .null, .null, .null])), (q542, .inl (cI, 65536, .inl (fun _ => 0))), (q543, .inl (cI, 16384, .inl (fun _ => 0))), (q544, .inl (cI, 16384, .inl (fun _ => 0))), (q545, .inl (cI, 4, .inl (fun _ => 0))), (q546, .inl (cI, 14, .inl (fun _ => 0))), (q547, .inl (cI, 4, .inl (fun _ => 0))), (q548, .inl (cI, 4, .inl (fun _ => 0)))] H := hP
  have hD : va_D A [(h0, .inr (18, [.int 0, .int 0, .int 0, .int 1, .int 1, .ref q542, .ref q543, .ref q544, .int 0, .ref q545, .int (-1), .int 0, .ref q546, .ref q547, .int (-1), .int 0, .null, .int 0, .int 0, .null, .null, .null])), (q542, .inl (cI, 65536, .inl (fun _ => 0))), (q543, .inl (cI, 16384, .inl (fun _ => 0))), (q544, .inl (cI, 16384, .inl (fun _ => 0))), (q545, .inl (cI, 4, .inl (fun _ => 0))), (q546, .inl (cI, 14, .inl (fun _ => 0))), (q547, .inl (cI, 4, .inl (fun _ => 0))), (q548, .inl (cI, 4, .inl (fun _ => 0)))] := hD
  refine W.widen (k := 7) (n := 98330) (by omega) (by omega) ?_
  refine va_putF (D := D) (ci := 18) (v := .ref q548) (ty := .array .int) (C := R_Ptm) (T := F_Ptm) (N := 22) hx hb htw i_Ptm t_Ptm t_Ptm_ok n_Ptm hown hC.1 hP hD hS 0 rfl rfl 16 (by decide) (htw _ k619) (fun _ h9 => h9) rfl hin rfl (by decide +kernel) rfl rfl (Nat.le_of_ble_eq_true rfl) d_Ptm_init_76 (fun H locs hP hD hS => ?_)
  have hP : va_P D classes [(h0, .inr (18, [.int 0, .int 0, .int 0, .int 1, .int 1, .ref q542, .ref q543, .ref q544, .int 0, .ref q545, .int (-1), .int 0, .ref q546, .ref q547, .int (-1), .int 0, .ref q548, .int 0, .int 0, .null, .null, .null])), (q542, .inl (cI, 65536, .inl (fun _ => 0))), (q543, .inl (cI, 16384, .inl (fun _ => 0))), (q544, .inl (cI, 16384, .inl (fun _ => 0))), (q545, .inl (cI, 4, .inl (fun _ => 0))), (q546, .inl (cI, 14, .inl (fun _ => 0))), (q547, .inl (cI, 4, .inl (fun _ => 0))), (q548, .inl (cI, 4, .inl (fun _ => 0)))] H := hP
  have hD : va_D A [(h0, .inr (18, [.int 0, .int 0, .int 0, .int 1, .int 1, .ref q542, .ref q543, .ref q544, .int 0, .ref q545, .int (-1), .int 0, .ref q546, .ref q547, .int (-1), .int 0, .ref q548, .int 0, .int 0, .null, .null, .null])), (q542, .inl (cI, 65536, .inl (fun _ => 0))), (q543, .inl (cI, 16384, .inl (fun _ => 0))), (q544, .inl (cI, 16384, .inl (fun _ => 0))), (q545, .inl (cI, 4, .inl (fun _ => 0))), (q546, .inl (cI, 14, .inl (fun _ => 0))), (q547, .inl (cI, 4, .inl (fun _ => 0))), (q548, .inl (cI, 4, .inl (fun _ => 0)))] := hD
  refine lv_aload_n hx hb d_Ptm_init_79 rfl (lv_at hl 0 rfl) ?_
  refine lv_iconst (v := (-1)) hx hb d_Ptm_init_80 (by decide) ?_
  refine va_put (D := D) (ci := 18) (v := .int (-1)) (ty := .int) (C := R_Ptm) (T := F_Ptm) (N := 22) hx hb htw i_Ptm t_Ptm t_Ptm_ok n_Ptm hown hC.1 hP hD hS 0 rfl rfl 17 (by decide) (htw _ k620) (fun _ h9 => h9) rfl (by decide +kernel) rfl rfl (Nat.le_of_ble_eq_true rfl) d_Ptm_init_81 (fun H locs hP hD hS => ?_)
  have hP : va_P D classes [(h0, .inr (18, [.int 0, .int 0, .int 0, .int 1, .int 1, .ref q542, .ref q543, .ref q544, .int 0, .ref q545, .int (-1), .int 0, .ref q546, .ref q547, .int (-1), .int 0, .ref q548, .int (-1), .int 0, .null, .null, .null])), (q542, .inl (cI, 65536, .inl (fun _ => 0))), (q543, .inl (cI, 16384, .inl (fun _ => 0))), (q544, .inl (cI, 16384, .inl (fun _ => 0))), (q545, .inl (cI, 4, .inl (fun _ => 0))), (q546, .inl (cI, 14, .inl (fun _ => 0))), (q547, .inl (cI, 4, .inl (fun _ => 0))), (q548, .inl (cI, 4, .inl (fun _ => 0)))] H := hP
  have hD : va_D A [(h0, .inr (18, [.int 0, .int 0, .int 0, .int 1, .int 1, .ref q542, .ref q543, .ref q544, .int 0, .ref q545, .int (-1), .int 0, .ref q546, .ref q547, .int (-1), .int 0, .ref q548, .int (-1), .int 0, .null, .null, .null])), (q542, .inl (cI, 65536, .inl (fun _ => 0))), (q543, .inl (cI, 16384, .inl (fun _ => 0))), (q544, .inl (cI, 16384, .inl (fun _ => 0))), (q545, .inl (cI, 4, .inl (fun _ => 0))), (q546, .inl (cI, 14, .inl (fun _ => 0))), (q547, .inl (cI, 4, .inl (fun _ => 0))), (q548, .inl (cI, 4, .inl (fun _ => 0)))] := hD
  refine lv_aload_n hx hb d_Ptm_init_84 rfl (lv_at hl 0 rfl) ?_
  refine lv_bipush (v := 15) hx hb d_Ptm_init_85 (by decide) ?_
  refine va_put (D := D) (ci := 18) (v := .int 15) (ty := .int) (C := R_Ptm) (T := F_Ptm) (N := 22) hx hb htw i_Ptm t_Ptm t_Ptm_ok n_Ptm hown hC.1 hP hD hS 0 rfl rfl 18 (by decide) (htw _ k621) (fun _ h9 => h9) rfl (by decide +kernel) rfl rfl (Nat.le_of_ble_eq_true rfl) d_Ptm_init_87 (fun H locs hP hD hS => ?_)
  have hP : va_P D classes [(h0, .inr (18, [.int 0, .int 0, .int 0, .int 1, .int 1, .ref q542, .ref q543, .ref q544, .int 0, .ref q545, .int (-1), .int 0, .ref q546, .ref q547, .int (-1), .int 0, .ref q548, .int (-1), .int 15, .null, .null, .null])), (q542, .inl (cI, 65536, .inl (fun _ => 0))), (q543, .inl (cI, 16384, .inl (fun _ => 0))), (q544, .inl (cI, 16384, .inl (fun _ => 0))), (q545, .inl (cI, 4, .inl (fun _ => 0))), (q546, .inl (cI, 14, .inl (fun _ => 0))), (q547, .inl (cI, 4, .inl (fun _ => 0))), (q548, .inl (cI, 4, .inl (fun _ => 0)))] H := hP
  have hD : va_D A [(h0, .inr (18, [.int 0, .int 0, .int 0, .int 1, .int 1, .ref q542, .ref q543, .ref q544, .int 0, .ref q545, .int (-1), .int 0, .ref q546, .ref q547, .int (-1), .int 0, .ref q548, .int (-1), .int 15, .null, .null, .null])), (q542, .inl (cI, 65536, .inl (fun _ => 0))), (q543, .inl (cI, 16384, .inl (fun _ => 0))), (q544, .inl (cI, 16384, .inl (fun _ => 0))), (q545, .inl (cI, 4, .inl (fun _ => 0))), (q546, .inl (cI, 14, .inl (fun _ => 0))), (q547, .inl (cI, 4, .inl (fun _ => 0))), (q548, .inl (cI, 4, .inl (fun _ => 0)))] := hD
  refine lv_aload_n hx hb d_Ptm_init_90 rfl (lv_at hl 0 rfl) ?_
  refine lv_iconst (v := 4) hx hb d_Ptm_init_91 (by decide) ?_
  refine wna_i hx hb (htw _ k238) hC hP hD hS (N := 4) (by decide) (by omega) (Nat.le_of_ble_eq_true rfl) (Nat.le_of_ble_eq_true rfl) d_Ptm_init_92 (fun q549 H hP hD hS => ?_)
  have hP : va_P D classes [(h0, .inr (18, [.int 0, .int 0, .int 0, .int 1, .int 1, .ref q542, .ref q543, .ref q544, .int 0, .ref q545, .int (-1), .int 0, .ref q546, .ref q547, .int (-1), .int 0, .ref q548, .int (-1), .int 15, .null, .null, .null])), (q542, .inl (cI, 65536, .inl (fun _ => 0))), (q543, .inl (cI, 16384, .inl (fun _ => 0))), (q544, .inl (cI, 16384, .inl (fun _ => 0))), (q545, .inl (cI, 4, .inl (fun _ => 0))), (q546, .inl (cI, 14, .inl (fun _ => 0))), (q547, .inl (cI, 4, .inl (fun _ => 0))), (q548, .inl (cI, 4, .inl (fun _ => 0))), (q549, .inl (cI, 4, .inl (fun _ => 0)))] H := hP
  have hD : va_D A [(h0, .inr (18, [.int 0, .int 0, .int 0, .int 1, .int 1, .ref q542, .ref q543, .ref q544, .int 0, .ref q545, .int (-1), .int 0, .ref q546, .ref q547, .int (-1), .int 0, .ref q548, .int (-1), .int 15, .null, .null, .null])), (q542, .inl (cI, 65536, .inl (fun _ => 0))), (q543, .inl (cI, 16384, .inl (fun _ => 0))), (q544, .inl (cI, 16384, .inl (fun _ => 0))), (q545, .inl (cI, 4, .inl (fun _ => 0))), (q546, .inl (cI, 14, .inl (fun _ => 0))), (q547, .inl (cI, 4, .inl (fun _ => 0))), (q548, .inl (cI, 4, .inl (fun _ => 0))), (q549, .inl (cI, 4, .inl (fun _ => 0)))] := hD
  refine W.widen (k := 8) (n := 98334) (by omega) (by omega) ?_
  refine va_putF (D := D) (ci := 18) (v := .ref q549) (ty := .array .int) (C := R_Ptm) (T := F_Ptm) (N := 22) hx hb htw i_Ptm t_Ptm t_Ptm_ok n_Ptm hown hC.1 hP hD hS 0 rfl rfl 19 (by decide) (htw _ k622) (fun _ h9 => h9) rfl hin rfl (by decide +kernel) rfl rfl (Nat.le_of_ble_eq_true rfl) d_Ptm_init_94 (fun H locs hP hD hS => ?_)
  have hP : va_P D classes [(h0, .inr (18, [.int 0, .int 0, .int 0, .int 1, .int 1, .ref q542, .ref q543, .ref q544, .int 0, .ref q545, .int (-1), .int 0, .ref q546, .ref q547, .int (-1), .int 0, .ref q548, .int (-1), .int 15, .ref q549, .null, .null])), (q542, .inl (cI, 65536, .inl (fun _ => 0))), (q543, .inl (cI, 16384, .inl (fun _ => 0))), (q544, .inl (cI, 16384, .inl (fun _ => 0))), (q545, .inl (cI, 4, .inl (fun _ => 0))), (q546, .inl (cI, 14, .inl (fun _ => 0))), (q547, .inl (cI, 4, .inl (fun _ => 0))), (q548, .inl (cI, 4, .inl (fun _ => 0))), (q549, .inl (cI, 4, .inl (fun _ => 0)))] H := hP
  have hD : va_D A [(h0, .inr (18, [.int 0, .int 0, .int 0, .int 1, .int 1, .ref q542, .ref q543, .ref q544, .int 0, .ref q545, .int (-1), .int 0, .ref q546, .ref q547, .int (-1), .int 0, .ref q548, .int (-1), .int 15, .ref q549, .null, .null])), (q542, .inl (cI, 65536, .inl (fun _ => 0))), (q543, .inl (cI, 16384, .inl (fun _ => 0))), (q544, .inl (cI, 16384, .inl (fun _ => 0))), (q545, .inl (cI, 4, .inl (fun _ => 0))), (q546, .inl (cI, 14, .inl (fun _ => 0))), (q547, .inl (cI, 4, .inl (fun _ => 0))), (q548, .inl (cI, 4, .inl (fun _ => 0))), (q549, .inl (cI, 4, .inl (fun _ => 0)))] := hD
  refine lv_aload_n hx hb d_Ptm_init_97 rfl (lv_at hl 0 rfl) ?_
  refine lv_iconst (v := 4) hx hb d_Ptm_init_98 (by decide) ?_
  refine wna_i hx hb (htw _ k238) hC hP hD hS (N := 4) (by decide) (by omega) (Nat.le_of_ble_eq_true rfl) (Nat.le_of_ble_eq_true rfl) d_Ptm_init_99 (fun q550 H hP hD hS => ?_)
  have hP : va_P D classes [(h0, .inr (18, [.int 0, .int 0, .int 0, .int 1, .int 1, .ref q542, .ref q543, .ref q544, .int 0, .ref q545, .int (-1), .int 0, .ref q546, .ref q547, .int (-1), .int 0, .ref q548, .int (-1), .int 15, .ref q549, .null, .null])), (q542, .inl (cI, 65536, .inl (fun _ => 0))), (q543, .inl (cI, 16384, .inl (fun _ => 0))), (q544, .inl (cI, 16384, .inl (fun _ => 0))), (q545, .inl (cI, 4, .inl (fun _ => 0))), (q546, .inl (cI, 14, .inl (fun _ => 0))), (q547, .inl (cI, 4, .inl (fun _ => 0))), (q548, .inl (cI, 4, .inl (fun _ => 0))), (q549, .inl (cI, 4, .inl (fun _ => 0))), (q550, .inl (cI, 4, .inl (fun _ => 0)))] H := hP
  have hD : va_D A [(h0, .inr (18, [.int 0, .int 0, .int 0, .int 1, .int 1, .ref q542, .ref q543, .ref q544, .int 0, .ref q545, .int (-1), .int 0, .ref q546, .ref q547, .int (-1), .int 0, .ref q548, .int (-1), .int 15, .ref q549, .null, .null])), (q542, .inl (cI, 65536, .inl (fun _ => 0))), (q543, .inl (cI, 16384, .inl (fun _ => 0))), (q544, .inl (cI, 16384, .inl (fun _ => 0))), (q545, .inl (cI, 4, .inl (fun _ => 0))), (q546, .inl (cI, 14, .inl (fun _ => 0))), (q547, .inl (cI, 4, .inl (fun _ => 0))), (q548, .inl (cI, 4, .inl (fun _ => 0))), (q549, .inl (cI, 4, .inl (fun _ => 0))), (q550, .inl (cI, 4, .inl (fun _ => 0)))] := hD
  refine W.widen (k := 9) (n := 98338) (by omega) (by omega) ?_
  refine va_putF (D := D) (ci := 18) (v := .ref q550) (ty := .array .int) (C := R_Ptm) (T := F_Ptm) (N := 22) hx hb htw i_Ptm t_Ptm t_Ptm_ok n_Ptm hown hC.1 hP hD hS 0 rfl rfl 20 (by decide) (htw _ k623) (fun _ h9 => h9) rfl hin rfl (by decide +kernel) rfl rfl (Nat.le_of_ble_eq_true rfl) d_Ptm_init_101 (fun H locs hP hD hS => ?_)
  have hP : va_P D classes [(h0, .inr (18, [.int 0, .int 0, .int 0, .int 1, .int 1, .ref q542, .ref q543, .ref q544, .int 0, .ref q545, .int (-1), .int 0, .ref q546, .ref q547, .int (-1), .int 0, .ref q548, .int (-1), .int 15, .ref q549, .ref q550, .null])), (q542, .inl (cI, 65536, .inl (fun _ => 0))), (q543, .inl (cI, 16384, .inl (fun _ => 0))), (q544, .inl (cI, 16384, .inl (fun _ => 0))), (q545, .inl (cI, 4, .inl (fun _ => 0))), (q546, .inl (cI, 14, .inl (fun _ => 0))), (q547, .inl (cI, 4, .inl (fun _ => 0))), (q548, .inl (cI, 4, .inl (fun _ => 0))), (q549, .inl (cI, 4, .inl (fun _ => 0))), (q550, .inl (cI, 4, .inl (fun _ => 0)))] H := hP
  have hD : va_D A [(h0, .inr (18, [.int 0, .int 0, .int 0, .int 1, .int 1, .ref q542, .ref q543, .ref q544, .int 0, .ref q545, .int (-1), .int 0, .ref q546, .ref q547, .int (-1), .int 0, .ref q548, .int (-1), .int 15, .ref q549, .ref q550, .null])), (q542, .inl (cI, 65536, .inl (fun _ => 0))), (q543, .inl (cI, 16384, .inl (fun _ => 0))), (q544, .inl (cI, 16384, .inl (fun _ => 0))), (q545, .inl (cI, 4, .inl (fun _ => 0))), (q546, .inl (cI, 14, .inl (fun _ => 0))), (q547, .inl (cI, 4, .inl (fun _ => 0))), (q548, .inl (cI, 4, .inl (fun _ => 0))), (q549, .inl (cI, 4, .inl (fun _ => 0))), (q550, .inl (cI, 4, .inl (fun _ => 0)))] := hD
  refine lv_aload_n hx hb d_Ptm_init_104 rfl (lv_at hl 0 rfl) ?_
  refine lv_iconst (v := 4) hx hb d_Ptm_init_105 (by decide) ?_
  refine wna_i hx hb (htw _ k238) hC hP hD hS (N := 4) (by decide) (by omega) (Nat.le_of_ble_eq_true rfl) (Nat.le_of_ble_eq_true rfl) d_Ptm_init_106 (fun q551 H hP hD hS => ?_)
  have hP : va_P D classes [(h0, .inr (18, [.int 0, .int 0, .int 0, .int 1, .int 1, .ref q542, .ref q543, .ref q544, .int 0, .ref q545, .int (-1), .int 0, .ref q546, .ref q547, .int (-1), .int 0, .ref q548, .int (-1), .int 15, .ref q549, .ref q550, .null])), (q542, .inl (cI, 65536, .inl (fun _ => 0))), (q543, .inl (cI, 16384, .inl (fun _ => 0))), (q544, .inl (cI, 16384, .inl (fun _ => 0))), (q545, .inl (cI, 4, .inl (fun _ => 0))), (q546, .inl (cI, 14, .inl (fun _ => 0))), (q547, .inl (cI, 4, .inl (fun _ => 0))), (q548, .inl (cI, 4, .inl (fun _ => 0))), (q549, .inl (cI, 4, .inl (fun _ => 0))), (q550, .inl (cI, 4, .inl (fun _ => 0))), (q551, .inl (cI, 4, .inl (fun _ => 0)))] H := hP
  have hD : va_D A [(h0, .inr (18, [.int 0, .int 0, .int 0, .int 1, .int 1, .ref q542, .ref q543, .ref q544, .int 0, .ref q545, .int (-1), .int 0, .ref q546, .ref q547, .int (-1), .int 0, .ref q548, .int (-1), .int 15, .ref q549, .ref q550, .null])), (q542, .inl (cI, 65536, .inl (fun _ => 0))), (q543, .inl (cI, 16384, .inl (fun _ => 0))), (q544, .inl (cI, 16384, .inl (fun _ => 0))), (q545, .inl (cI, 4, .inl (fun _ => 0))), (q546, .inl (cI, 14, .inl (fun _ => 0))), (q547, .inl (cI, 4, .inl (fun _ => 0))), (q548, .inl (cI, 4, .inl (fun _ => 0))), (q549, .inl (cI, 4, .inl (fun _ => 0))), (q550, .inl (cI, 4, .inl (fun _ => 0))), (q551, .inl (cI, 4, .inl (fun _ => 0)))] := hD
  refine W.widen (k := 10) (n := 98342) (by omega) (by omega) ?_
  refine va_putF (D := D) (ci := 18) (v := .ref q551) (ty := .array .int) (C := R_Ptm) (T := F_Ptm) (N := 22) hx hb htw i_Ptm t_Ptm t_Ptm_ok n_Ptm hown hC.1 hP hD hS 0 rfl rfl 21 (by decide) (htw _ k624) (fun _ h9 => h9) rfl hin rfl (by decide +kernel) rfl rfl (Nat.le_of_ble_eq_true rfl) d_Ptm_init_108 (fun H locs hP hD hS => ?_)
  have hP : va_P D classes [(h0, .inr (18, [.int 0, .int 0, .int 0, .int 1, .int 1, .ref q542, .ref q543, .ref q544, .int 0, .ref q545, .int (-1), .int 0, .ref q546, .ref q547, .int (-1), .int 0, .ref q548, .int (-1), .int 15, .ref q549, .ref q550, .ref q551])), (q542, .inl (cI, 65536, .inl (fun _ => 0))), (q543, .inl (cI, 16384, .inl (fun _ => 0))), (q544, .inl (cI, 16384, .inl (fun _ => 0))), (q545, .inl (cI, 4, .inl (fun _ => 0))), (q546, .inl (cI, 14, .inl (fun _ => 0))), (q547, .inl (cI, 4, .inl (fun _ => 0))), (q548, .inl (cI, 4, .inl (fun _ => 0))), (q549, .inl (cI, 4, .inl (fun _ => 0))), (q550, .inl (cI, 4, .inl (fun _ => 0))), (q551, .inl (cI, 4, .inl (fun _ => 0)))] H := hP
  have hD : va_D A [(h0, .inr (18, [.int 0, .int 0, .int 0, .int 1, .int 1, .ref q542, .ref q543, .ref q544, .int 0, .ref q545, .int (-1), .int 0, .ref q546, .ref q547, .int (-1), .int 0, .ref q548, .int (-1), .int 15, .ref q549, .ref q550, .ref q551])), (q542, .inl (cI, 65536, .inl (fun _ => 0))), (q543, .inl (cI, 16384, .inl (fun _ => 0))), (q544, .inl (cI, 16384, .inl (fun _ => 0))), (q545, .inl (cI, 4, .inl (fun _ => 0))), (q546, .inl (cI, 14, .inl (fun _ => 0))), (q547, .inl (cI, 4, .inl (fun _ => 0))), (q548, .inl (cI, 4, .inl (fun _ => 0))), (q549, .inl (cI, 4, .inl (fun _ => 0))), (q550, .inl (cI, 4, .inl (fun _ => 0))), (q551, .inl (cI, 4, .inl (fun _ => 0)))] := hD
  refine lv_aload_n hx hb d_Ptm_init_111 rfl (lv_at hl 0 rfl) ?_
  refine va_get (D := D) (ci := 18) (v := .ref q546) (C := R_Ptm) (T := F_Ptm) (N := 22) hx hb htw i_Ptm hown hC.1 hP 0 rfl rfl 12 (by decide) (htw _ k616) (fun _ h9 => h9) rfl d_Ptm_init_112 ?_
  refine lv_iconst (v := 0) hx hb d_Ptm_init_115 (by decide) ?_
  refine lv_iconst (v := (-1)) hx hb d_Ptm_init_116 (by decide) ?_
  refine va_iast hx hb hC.1 hP hD hS 5 0 rfl rfl (by unfold vp_in; decide) d_Ptm_init_117 (fun H locs hP hD hS => ?_)
  have hP : va_P D classes [(h0, .inr (18, [.int 0, .int 0, .int 0, .int 1, .int 1, .ref q542, .ref q543, .ref q544, .int 0, .ref q545, .int (-1), .int 0, .ref q546, .ref q547, .int (-1), .int 0, .ref q548, .int (-1), .int 15, .ref q549, .ref q550, .ref q551])), (q542, .inl (cI, 65536, .inl (fun _ => 0))), (q543, .inl (cI, 16384, .inl (fun _ => 0))), (q544, .inl (cI, 16384, .inl (fun _ => 0))), (q545, .inl (cI, 4, .inl (fun _ => 0))), (q546, .inl (cI, 14, .inl (upd (fun _ => 0) (0 : Int32).toNatClampNeg (-1)))), (q547, .inl (cI, 4, .inl (fun _ => 0))), (q548, .inl (cI, 4, .inl (fun _ => 0))), (q549, .inl (cI, 4, .inl (fun _ => 0))), (q550, .inl (cI, 4, .inl (fun _ => 0))), (q551, .inl (cI, 4, .inl (fun _ => 0)))] H := hP
  have hD : va_D A [(h0, .inr (18, [.int 0, .int 0, .int 0, .int 1, .int 1, .ref q542, .ref q543, .ref q544, .int 0, .ref q545, .int (-1), .int 0, .ref q546, .ref q547, .int (-1), .int 0, .ref q548, .int (-1), .int 15, .ref q549, .ref q550, .ref q551])), (q542, .inl (cI, 65536, .inl (fun _ => 0))), (q543, .inl (cI, 16384, .inl (fun _ => 0))), (q544, .inl (cI, 16384, .inl (fun _ => 0))), (q545, .inl (cI, 4, .inl (fun _ => 0))), (q546, .inl (cI, 14, .inl (upd (fun _ => 0) (0 : Int32).toNatClampNeg (-1)))), (q547, .inl (cI, 4, .inl (fun _ => 0))), (q548, .inl (cI, 4, .inl (fun _ => 0))), (q549, .inl (cI, 4, .inl (fun _ => 0))), (q550, .inl (cI, 4, .inl (fun _ => 0))), (q551, .inl (cI, 4, .inl (fun _ => 0)))] := hD
  generalize upd (fun _ => 0) (0 : Int32).toNatClampNeg (-1) = f552 at hP hD
  refine lv_aload_n hx hb d_Ptm_init_118 rfl (lv_at hl 0 rfl) ?_
  refine va_get (D := D) (ci := 18) (v := .ref q546) (C := R_Ptm) (T := F_Ptm) (N := 22) hx hb htw i_Ptm hown hC.1 hP 0 rfl rfl 12 (by decide) (htw _ k616) (fun _ h9 => h9) rfl d_Ptm_init_119 ?_
  refine lv_bipush (v := 7) hx hb d_Ptm_init_122 (by decide) ?_
  refine lv_iconst (v := (-1)) hx hb d_Ptm_init_124 (by decide) ?_
  refine va_iast hx hb hC.1 hP hD hS 5 0 rfl rfl (by unfold vp_in; decide) d_Ptm_init_125 (fun H locs hP hD hS => ?_)
  have hP : va_P D classes [(h0, .inr (18, [.int 0, .int 0, .int 0, .int 1, .int 1, .ref q542, .ref q543, .ref q544, .int 0, .ref q545, .int (-1), .int 0, .ref q546, .ref q547, .int (-1), .int 0, .ref q548, .int (-1), .int 15, .ref q549, .ref q550, .ref q551])), (q542, .inl (cI, 65536, .inl (fun _ => 0))), (q543, .inl (cI, 16384, .inl (fun _ => 0))), (q544, .inl (cI, 16384, .inl (fun _ => 0))), (q545, .inl (cI, 4, .inl (fun _ => 0))), (q546, .inl (cI, 14, .inl (upd f552 (7 : Int32).toNatClampNeg (-1)))), (q547, .inl (cI, 4, .inl (fun _ => 0))), (q548, .inl (cI, 4, .inl (fun _ => 0))), (q549, .inl (cI, 4, .inl (fun _ => 0))), (q550, .inl (cI, 4, .inl (fun _ => 0))), (q551, .inl (cI, 4, .inl (fun _ => 0)))] H := hP
  have hD : va_D A [(h0, .inr (18, [.int 0, .int 0, .int 0, .int 1, .int 1, .ref q542, .ref q543, .ref q544, .int 0, .ref q545, .int (-1), .int 0, .ref q546, .ref q547, .int (-1), .int 0, .ref q548, .int (-1), .int 15, .ref q549, .ref q550, .ref q551])), (q542, .inl (cI, 65536, .inl (fun _ => 0))), (q543, .inl (cI, 16384, .inl (fun _ => 0))), (q544, .inl (cI, 16384, .inl (fun _ => 0))), (q545, .inl (cI, 4, .inl (fun _ => 0))), (q546, .inl (cI, 14, .inl (upd f552 (7 : Int32).toNatClampNeg (-1)))), (q547, .inl (cI, 4, .inl (fun _ => 0))), (q548, .inl (cI, 4, .inl (fun _ => 0))), (q549, .inl (cI, 4, .inl (fun _ => 0))), (q550, .inl (cI, 4, .inl (fun _ => 0))), (q551, .inl (cI, 4, .inl (fun _ => 0)))] := hD
  generalize upd f552 (7 : Int32).toNatClampNeg (-1) = f553 at hP hD
  refine W.widen (k := 10) (n := 98342) (Nat.le_of_ble_eq_true rfl) (Nat.le_of_ble_eq_true rfl) ?_
  have hP9 := hP.sub (ws' := [(h0, .inr (18, [.int 0, .int 0, .int 0, .int 1, .int 1, .ref q542, .ref q543, .ref q544, .int 0, .ref q545, .int (-1), .int 0, .ref q546, .ref q547, .int (-1), .int 0, .ref q548, .int (-1), .int 15, .ref q549, .ref q550, .ref q551])), (q542, .inl (cI, 65536, .inl (fun _ => 0))), (q543, .inl (cI, 16384, .inl (fun _ => 0))), (q544, .inl (cI, 16384, .inl (fun _ => 0)))]) [0, 1, 2, 3] rfl
  have hD9 := hD.sub (ws' := [(h0, .inr (18, [.int 0, .int 0, .int 0, .int 1, .int 1, .ref q542, .ref q543, .ref q544, .int 0, .ref q545, .int (-1), .int 0, .ref q546, .ref q547, .int (-1), .int 0, .ref q548, .int (-1), .int 15, .ref q549, .ref q550, .ref q551])), (q542, .inl (cI, 65536, .inl (fun _ => 0))), (q543, .inl (cI, 16384, .inl (fun _ => 0))), (q544, .inl (cI, 16384, .inl (fun _ => 0)))]) [0, 1, 2, 3] (by decide) rfl
  exact W.vret hx hb hr (fun t ht hW => ⟨⟨(q542, q543, q544, q545, q546, q547, q548, q549, q550, q551), rfl, trivial, by rw [ht]; exact hP9, va_K.moved hW.alike hC.1, hD9⟩, hS.F ht⟩) hS.2.2 d_Ptm_init_126

theorem d_Cmd_init_0 : decode prog_15_method_1_code 0 = .ok (.aload_n 0, 1) := by decide +kernel
theorem d_Cmd_init_1 : decode prog_15_method_1_code 1 = .ok (.invokespecial 1, 3) := by decide +kernel
theorem d_Cmd_init_4 : decode prog_15_method_1_code 4 = .ok (.aload_n 0, 1) := by decide +kernel
theorem d_Cmd_init_5 : decode prog_15_method_1_code 5 = .ok (.sipush 4096, 3) := by decide +kernel
theorem d_Cmd_init_8 : decode prog_15_method_1_code 8 = .ok (.newarray .int, 2) := by decide +kernel
theorem d_Cmd_init_10 : decode prog_15_method_1_code 10 = .ok (.putfield 7, 3) := by decide +kernel
theorem d_Cmd_init_13 : decode prog_15_method_1_code 13 = .ok (.aload_n 0, 1) := by decide +kernel
theorem d_Cmd_init_14 : decode prog_15_method_1_code 14 = .ok (.iconst 1, 1) := by decide +kernel
theorem d_Cmd_init_15 : decode prog_15_method_1_code 15 = .ok (.putfield 13, 3) := by decide +kernel
theorem d_Cmd_init_18 : decode prog_15_method_1_code 18 = .ok (.aload_n 0, 1) := by decide +kernel
theorem d_Cmd_init_19 : decode prog_15_method_1_code 19 = .ok (.iconst 1, 1) := by decide +kernel
theorem d_Cmd_init_20 : decode prog_15_method_1_code 20 = .ok (.putfield 17, 3) := by decide +kernel
theorem d_Cmd_init_23 : decode prog_15_method_1_code 23 = .ok (.aload_n 0, 1) := by decide +kernel
theorem d_Cmd_init_24 : decode prog_15_method_1_code 24 = .ok (.sipush 4096, 3) := by decide +kernel
theorem d_Cmd_init_27 : decode prog_15_method_1_code 27 = .ok (.newarray .int, 2) := by decide +kernel
theorem d_Cmd_init_29 : decode prog_15_method_1_code 29 = .ok (.putfield 20, 3) := by decide +kernel
theorem d_Cmd_init_32 : decode prog_15_method_1_code 32 = .ok (.aload_n 0, 1) := by decide +kernel
theorem d_Cmd_init_33 : decode prog_15_method_1_code 33 = .ok (.iconst 4, 1) := by decide +kernel
theorem d_Cmd_init_34 : decode prog_15_method_1_code 34 = .ok (.newarray .int, 2) := by decide +kernel
theorem d_Cmd_init_36 : decode prog_15_method_1_code 36 = .ok (.putfield 23, 3) := by decide +kernel
theorem d_Cmd_init_39 : decode prog_15_method_1_code 39 = .ok (.aload_n 0, 1) := by decide +kernel
theorem d_Cmd_init_40 : decode prog_15_method_1_code 40 = .ok (.iconst (-1), 1) := by decide +kernel
theorem d_Cmd_init_41 : decode prog_15_method_1_code 41 = .ok (.putfield 26, 3) := by decide +kernel
theorem d_Cmd_init_44 : decode prog_15_method_1_code 44 = .ok (.aload_n 0, 1) := by decide +kernel
theorem d_Cmd_init_45 : decode prog_15_method_1_code 45 = .ok (.iconst (-1), 1) := by decide +kernel
theorem d_Cmd_init_46 : decode prog_15_method_1_code 46 = .ok (.putfield 29, 3) := by decide +kernel
theorem d_Cmd_init_49 : decode prog_15_method_1_code 49 = .ok (.aload_n 0, 1) := by decide +kernel
theorem d_Cmd_init_50 : decode prog_15_method_1_code 50 = .ok (.iconst (-1), 1) := by decide +kernel
theorem d_Cmd_init_51 : decode prog_15_method_1_code 51 = .ok (.putfield 32, 3) := by decide +kernel
theorem d_Cmd_init_54 : decode prog_15_method_1_code 54 = .ok (.aload_n 0, 1) := by decide +kernel
theorem d_Cmd_init_55 : decode prog_15_method_1_code 55 = .ok (.sipush 300, 3) := by decide +kernel
theorem d_Cmd_init_58 : decode prog_15_method_1_code 58 = .ok (.newarray .int, 2) := by decide +kernel
theorem d_Cmd_init_60 : decode prog_15_method_1_code 60 = .ok (.putfield 35, 3) := by decide +kernel
theorem d_Cmd_init_63 : decode prog_15_method_1_code 63 = .ok (.aload_n 0, 1) := by decide +kernel
theorem d_Cmd_init_64 : decode prog_15_method_1_code 64 = .ok (.sipush 4160, 3) := by decide +kernel
theorem d_Cmd_init_67 : decode prog_15_method_1_code 67 = .ok (.newarray .int, 2) := by decide +kernel
theorem d_Cmd_init_69 : decode prog_15_method_1_code 69 = .ok (.putfield 38, 3) := by decide +kernel
theorem d_Cmd_init_72 : decode prog_15_method_1_code 72 = .ok (.aload_n 0, 1) := by decide +kernel
theorem d_Cmd_init_73 : decode prog_15_method_1_code 73 = .ok (.invokevirtual 41, 3) := by decide +kernel
theorem d_Cmd_init_76 : decode prog_15_method_1_code 76 = .ok (.return_, 1) := by decide +kernel
theorem gV_Cmd_41 : GoodIn tw (wsV "DrawingMachineModel$DrawCommandsModel" 41 "DrawingMachineModel$DrawCommandsModel" y_Cmd_nothingTold ((Cond.code y_Cmd_nothingTold prog_15_method_12_code 3 none) :: tw)) := tw_pre (fun _ h => h) (tw_good (fun _ h => h) k566) (List.forall_mem_cons.mpr ⟨k564, List.forall_mem_cons.mpr ⟨k565, List.forall_mem_cons.mpr ⟨k1008, List.forall_mem_cons.mpr ⟨k137, fun _ h => absurd h List.not_mem_nil⟩⟩⟩⟩)
set_option maxHeartbeats 4000000 in
set_option maxRecDepth 100000 in
theorem c_Cmd_init (l : Launch) (D : va_G) (cI cL : ClassId) (B sz : Nat) (h0 : Nat) : Met l y_Cmd_init ((Cond.code y_Cmd_init prog_15_method_1_code 1 none) :: tw) ({ frames := 50, cells := 5, slots := 12656, locals := 5000 }) (va_Pc [.ref h0] (wP D cI cL B sz [(h0, .inr (13, [.int 0, .null, .int 0, .int 0, .null, .int 0, .int 0, .int 0, .null, .int 0, .int 0, .int 0, .int 0, .int 0, .int 0, .int 0, .null, .null]))])) (va_Qv (S := Nat × Nat × Nat × Nat × Nat × (Nat → Int32)) (fun _ => True) (fun u => wB D cI cL (va_A [(h0, .inr (13, [.int 0, .null, .int 0, .int 0, .null, .int 0, .int 0, .int 0, .null, .int 0, .int 0, .int 0, .int 0, .int 0, .int 0, .int 0, .null, .null]))] sz) ((fun u : Nat × Nat × Nat × Nat × Nat × (Nat → Int32) => match u with | (q554, q555, q556, q557, q558, z561) => [(h0, .inr (13, [.int 0, .ref q554, .int 1, .int 1, .ref q555, .int 0, .int 0, .int 0, .ref q556, .int 0, .int 0, .int (-1), .int (-1), .int 0, .int (-1), .int 0, .ref q557, .ref q558])), (q554, .inl (cI, 4096, .inl (fun _ => 0))), (q555, .inl (cI, 4096, .inl (fun _ => 0))), (q558, .inl (cI, 4160, .inl z561))]) u)) (va_A [(h0, .inr (13, [.int 0, .null, .int 0, .int 0, .null, .int 0, .int 0, .int 0, .null, .int 0, .int 0, .int 0, .int 0, .int 0, .int 0, .int 0, .null, .null]))] sz)) 5 12656 (va_A [(h0, .inr (13, [.int 0, .null, .int 0, .int 0, .null, .int 0, .int 0, .int 0, .null, .int 0, .int 0, .int 0, .int 0, .int 0, .int 0, .int 0, .null, .null]))] sz) := by
  refine Met.ofW (cc := prog_15_method_1_code) (maxL := 1) (ret := none) (by decide) rfl ?_
  intro p e s m args below meth c s₁ B0 hml hv
  obtain ⟨rfl, hv⟩ := hv
  have hx := B0.exec
  have hb := B0.bytes
  have hr := B0.returns
  have hts := atoms_spec (ws := (Cond.code y_Cmd_init prog_15_method_1_code 1 none) :: tw) B0.pre
  have htw : ∀ w ∈ tw, w.before _ s = true := fun w hw => hts w (List.mem_cons_of_mem _ hw)
  have hown : s.vm.findClass "DrawingMachineModel$DrawCommandsModel" = some m.cls := findClass_of_methodNamed B0.named
  have hlocks := B0.notSynchronized
  have hin : meth.name = "<init>" := (name_of_methodNamed B0.named B0.method).1
  obtain ⟨hC, hP, hD, hsz⟩ := wC_init hv
  subst hsz
  generalize hAe : va_A [(h0, .inr (13, [.int 0, .null, .int 0, .int 0, .null, .int 0, .int 0, .int 0, .null, .int 0, .int 0, .int 0, .int 0, .int 0, .int 0, .int 0, .null, .null]))] s.heap.size = A at hC hD ⊢
  have hS : va_S A s.heap s.heap [] := va_S.rf
  have hl := lv_entry ([.ref h0]) (n := 1) (Nat.le_of_ble_eq_true rfl)
  rw [lg_entry_eq]
  generalize (lg_sl ([.ref h0]) ++ List.replicate (1 - (lg_sl ([.ref h0])).length) Slot.unset).toArray = ls at hl ⊢
  have hl : lv_has ls 1 [(0, .ref h0)] := hl
  refine lv_aload_n hx hb d_Cmd_init_0 rfl (lv_at hl 0 rfl) ?_
  refine W.objInit hx hb hown (htw _ k553) (htw _ k242) (htw _ k243) rfl (by rw [hml]; exact hl.1) rfl d_Cmd_init_1 (Nat.le_of_ble_eq_true rfl) (Nat.le_of_ble_eq_true rfl) ?_
  refine W.eq (g2 := F0 m 4 ls []) rfl ?_
  refine lv_aload_n hx hb d_Cmd_init_4 rfl (lv_at hl 0 rfl) ?_
  refine lv_sipush (v := 4096) hx hb d_Cmd_init_5 (by decide) ?_
  refine wna_i hx hb (htw _ k238) hC hP hD hS (N := 4096) (by decide) (by omega) (Nat.le_of_ble_eq_true rfl) (Nat.le_of_ble_eq_true rfl) d_Cmd_init_8 (fun q554 H hP hD hS => ?_)
  have hP : va_P D classes [(h0, .inr (13, [.int 0, .null, .int 0, .int 0, .null, .int 0, .int 0, .int 0, .null, .int 0, .int 0, .int 0, .int 0, .int 0, .int 0, .int 0, .null, .null])), (q554, .inl (cI, 4096, .inl (fun _ => 0)))] H := hP
  have hD : va_D A [(h0, .inr (13, [.int 0, .null, .int 0, .int 0, .null, .int 0, .int 0, .int 0, .null, .int 0, .int 0, .int 0, .int 0, .int 0, .int 0, .int 0, .null, .null])), (q554, .inl (cI, 4096, .inl (fun _ => 0)))] := hD
  refine W.widen (k := 1) (n := 4096) (by omega) (by omega) ?_
  refine va_putF (D := D) (ci := 13) (v := .ref q554) (ty := .array .int) (C := R_Cmd) (T := F_Cmd) (N := 18) hx hb htw i_Cmd t_Cmd t_Cmd_ok n_Cmd hown hC.1 hP hD hS 0 rfl rfl 1 (by decide) (htw _ k554) (fun _ h9 => h9) rfl hin rfl (by decide +kernel) rfl rfl (Nat.le_of_ble_eq_true rfl) d_Cmd_init_10 (fun H locs hP hD hS => ?_)
  have hP : va_P D classes [(h0, .inr (13, [.int 0, .ref q554, .int 0, .int 0, .null, .int 0, .int 0, .int 0, .null, .int 0, .int 0, .int 0, .int 0, .int 0, .int 0, .int 0, .null, .null])), (q554, .inl (cI, 4096, .inl (fun _ => 0)))] H := hP
  have hD : va_D A [(h0, .inr (13, [.int 0, .ref q554, .int 0, .int 0, .null, .int 0, .int 0, .int 0, .null, .int 0, .int 0, .int 0, .int 0, .int 0, .int 0, .int 0, .null, .null])), (q554, .inl (cI, 4096, .inl (fun _ => 0)))] := hD
  refine lv_aload_n hx hb d_Cmd_init_13 rfl (lv_at hl 0 rfl) ?_
  refine lv_iconst (v := 1) hx hb d_Cmd_init_14 (by decide) ?_
  refine va_put (D := D) (ci := 13) (v := .int 1) (ty := .int) (C := R_Cmd) (T := F_Cmd) (N := 18) hx hb htw i_Cmd t_Cmd t_Cmd_ok n_Cmd hown hC.1 hP hD hS 0 rfl rfl 2 (by decide) (htw _ k555) (fun _ h9 => h9) rfl (by decide +kernel) rfl rfl (Nat.le_of_ble_eq_true rfl) d_Cmd_init_15 (fun H locs hP hD hS => ?_)
  have hP : va_P D classes [(h0, .inr (13, [.int 0, .ref q554, .int 1, .int 0, .null, .int 0, .int 0, .int 0, .null, .int 0, .int 0, .int 0, .int 0, .int 0, .int 0, .int 0, .null, .null])), (q554, .inl (cI, 4096, .inl (fun _ => 0)))] H := hP
  have hD : va_D A [(h0, .inr (13, [.int 0, .ref q554, .int 1, .int 0, .null, .int 0, .int 0, .int 0, .null, .int 0, .int 0, .int 0, .int 0, .int 0, .int 0, .int 0, .null, .null])), (q554, .inl (cI, 4096, .inl (fun _ => 0)))] := hD
  refine lv_aload_n hx hb d_Cmd_init_18 rfl (lv_at hl 0 rfl) ?_
  refine lv_iconst (v := 1) hx hb d_Cmd_init_19 (by decide) ?_
  refine va_put (D := D) (ci := 13) (v := .int 1) (ty := .int) (C := R_Cmd) (T := F_Cmd) (N := 18) hx hb htw i_Cmd t_Cmd t_Cmd_ok n_Cmd hown hC.1 hP hD hS 0 rfl rfl 3 (by decide) (htw _ k556) (fun _ h9 => h9) rfl (by decide +kernel) rfl rfl (Nat.le_of_ble_eq_true rfl) d_Cmd_init_20 (fun H locs hP hD hS => ?_)
  have hP : va_P D classes [(h0, .inr (13, [.int 0, .ref q554, .int 1, .int 1, .null, .int 0, .int 0, .int 0, .null, .int 0, .int 0, .int 0, .int 0, .int 0, .int 0, .int 0, .null, .null])), (q554, .inl (cI, 4096, .inl (fun _ => 0)))] H := hP
  have hD : va_D A [(h0, .inr (13, [.int 0, .ref q554, .int 1, .int 1, .null, .int 0, .int 0, .int 0, .null, .int 0, .int 0, .int 0, .int 0, .int 0, .int 0, .int 0, .null, .null])), (q554, .inl (cI, 4096, .inl (fun _ => 0)))] := hD
  refine lv_aload_n hx hb d_Cmd_init_23 rfl (lv_at hl 0 rfl) ?_
  refine lv_sipush (v := 4096) hx hb d_Cmd_init_24 (by decide) ?_
  refine wna_i hx hb (htw _ k238) hC hP hD hS (N := 4096) (by decide) (by omega) (Nat.le_of_ble_eq_true rfl) (Nat.le_of_ble_eq_true rfl) d_Cmd_init_27 (fun q555 H hP hD hS => ?_)
  have hP : va_P D classes [(h0, .inr (13, [.int 0, .ref q554, .int 1, .int 1, .null, .int 0, .int 0, .int 0, .null, .int 0, .int 0, .int 0, .int 0, .int 0, .int 0, .int 0, .null, .null])), (q554, .inl (cI, 4096, .inl (fun _ => 0))), (q555, .inl (cI, 4096, .inl (fun _ => 0)))] H := hP
  have hD : va_D A [(h0, .inr (13, [.int 0, .ref q554, .int 1, .int 1, .null, .int 0, .int 0, .int 0, .null, .int 0, .int 0, .int 0, .int 0, .int 0, .int 0, .int 0, .null, .null])), (q554, .inl (cI, 4096, .inl (fun _ => 0))), (q555, .inl (cI, 4096, .inl (fun _ => 0)))] := hD
  refine W.widen (k := 2) (n := 8192) (by omega) (by omega) ?_
  refine va_putF (D := D) (ci := 13) (v := .ref q555) (ty := .array .int) (C := R_Cmd) (T := F_Cmd) (N := 18) hx hb htw i_Cmd t_Cmd t_Cmd_ok n_Cmd hown hC.1 hP hD hS 0 rfl rfl 4 (by decide) (htw _ k557) (fun _ h9 => h9) rfl hin rfl (by decide +kernel) rfl rfl (Nat.le_of_ble_eq_true rfl) d_Cmd_init_29 (fun H locs hP hD hS => ?_)
  have hP : va_P D classes [(h0, .inr (13, [.int 0, .ref q554, .int 1, .int 1, .ref q555, .int 0, .int 0, .int 0, .null, .int 0, .int 0, .int 0, .int 0, .int 0, .int 0, .int 0, .null, .null])), (q554, .inl (cI, 4096, .inl (fun _ => 0))), (q555, .inl (cI, 4096, .inl (fun _ => 0)))] H := hP
  have hD : va_D A [(h0, .inr (13, [.int 0, .ref q554, .int 1, .int 1, .ref q555, .int 0, .int 0, .int 0, .null, .int 0, .int 0, .int 0, .int 0, .int 0, .int 0, .int 0, .null, .null])), (q554, .inl (cI, 4096, .inl (fun _ => 0))), (q555, .inl (cI, 4096, .inl (fun _ => 0)))] := hD
  refine lv_aload_n hx hb d_Cmd_init_32 rfl (lv_at hl 0 rfl) ?_
  refine lv_iconst (v := 4) hx hb d_Cmd_init_33 (by decide) ?_
  refine wna_i hx hb (htw _ k238) hC hP hD hS (N := 4) (by decide) (by omega) (Nat.le_of_ble_eq_true rfl) (Nat.le_of_ble_eq_true rfl) d_Cmd_init_34 (fun q556 H hP hD hS => ?_)
  have hP : va_P D classes [(h0, .inr (13, [.int 0, .ref q554, .int 1, .int 1, .ref q555, .int 0, .int 0, .int 0, .null, .int 0, .int 0, .int 0, .int 0, .int 0, .int 0, .int 0, .null, .null])), (q554, .inl (cI, 4096, .inl (fun _ => 0))), (q555, .inl (cI, 4096, .inl (fun _ => 0))), (q556, .inl (cI, 4, .inl (fun _ => 0)))] H := hP
  have hD : va_D A [(h0, .inr (13, [.int 0, .ref q554, .int 1, .int 1, .ref q555, .int 0, .int 0, .int 0, .null, .int 0, .int 0, .int 0, .int 0, .int 0, .int 0, .int 0, .null, .null])), (q554, .inl (cI, 4096, .inl (fun _ => 0))), (q555, .inl (cI, 4096, .inl (fun _ => 0))), (q556, .inl (cI, 4, .inl (fun _ => 0)))] := hD
  refine W.widen (k := 3) (n := 8196) (by omega) (by omega) ?_
  refine va_putF (D := D) (ci := 13) (v := .ref q556) (ty := .array .int) (C := R_Cmd) (T := F_Cmd) (N := 18) hx hb htw i_Cmd t_Cmd t_Cmd_ok n_Cmd hown hC.1 hP hD hS 0 rfl rfl 8 (by decide) (htw _ k558) (fun _ h9 => h9) rfl hin rfl (by decide +kernel) rfl rfl (Nat.le_of_ble_eq_true rfl) d_Cmd_init_36 (fun H locs hP hD hS => ?_)
  have hP : va_P D classes [(h0, .inr (13, [.int 0, .ref q554, .int 1, .int 1, .ref q555, .int 0, .int 0, .int 0, .ref q556, .int 0, .int 0, .int 0, .int 0, .int 0, .int 0, .int 0, .null, .null])), (q554, .inl (cI, 4096, .inl (fun _ => 0))), (q555, .inl (cI, 4096, .inl (fun _ => 0))), (q556, .inl (cI, 4, .inl (fun _ => 0)))] H := hP
  have hD : va_D A [(h0, .inr (13, [.int 0, .ref q554, .int 1, .int 1, .ref q555, .int 0, .int 0, .int 0, .ref q556, .int 0, .int 0, .int 0, .int 0, .int 0, .int 0, .int 0, .null, .null])), (q554, .inl (cI, 4096, .inl (fun _ => 0))), (q555, .inl (cI, 4096, .inl (fun _ => 0))), (q556, .inl (cI, 4, .inl (fun _ => 0)))] := hD
  refine lv_aload_n hx hb d_Cmd_init_39 rfl (lv_at hl 0 rfl) ?_
  refine lv_iconst (v := (-1)) hx hb d_Cmd_init_40 (by decide) ?_
  refine va_put (D := D) (ci := 13) (v := .int (-1)) (ty := .int) (C := R_Cmd) (T := F_Cmd) (N := 18) hx hb htw i_Cmd t_Cmd t_Cmd_ok n_Cmd hown hC.1 hP hD hS 0 rfl rfl 11 (by decide) (htw _ k559) (fun _ h9 => h9) rfl (by decide +kernel) rfl rfl (Nat.le_of_ble_eq_true rfl) d_Cmd_init_41 (fun H locs hP hD hS => ?_)
  have hP : va_P D classes [(h0, .inr (13, [.int 0, .ref q554, .int 1, .int 1, .ref q555, .int 0, .int 0, .int 0, .ref q556, .int 0, .int 0, .int (-1), .int 0, .int 0, .int 0, .int 0, .null, .null])), (q554, .inl (cI, 4096, .inl (fun _ => 0))), (q555, .inl (cI, 4096, .inl (fun _ => 0))), (q556, .inl (cI, 4, .inl (fun _ => 0)))] H := hP
  have hD : va_D A [(h0, .inr (13, [.int 0, .ref q554, .int 1, .int 1, .ref q555, .int 0, .int 0, .int 0, .ref q556, .int 0, .int 0, .int (-1), .int 0, .int 0, .int 0, .int 0, .null, .null])), (q554, .inl (cI, 4096, .inl (fun _ => 0))), (q555, .inl (cI, 4096, .inl (fun _ => 0))), (q556, .inl (cI, 4, .inl (fun _ => 0)))] := hD
  refine lv_aload_n hx hb d_Cmd_init_44 rfl (lv_at hl 0 rfl) ?_
  refine lv_iconst (v := (-1)) hx hb d_Cmd_init_45 (by decide) ?_
  refine va_put (D := D) (ci := 13) (v := .int (-1)) (ty := .int) (C := R_Cmd) (T := F_Cmd) (N := 18) hx hb htw i_Cmd t_Cmd t_Cmd_ok n_Cmd hown hC.1 hP hD hS 0 rfl rfl 12 (by decide) (htw _ k560) (fun _ h9 => h9) rfl (by decide +kernel) rfl rfl (Nat.le_of_ble_eq_true rfl) d_Cmd_init_46 (fun H locs hP hD hS => ?_)
  have hP : va_P D classes [(h0, .inr (13, [.int 0, .ref q554, .int 1, .int 1, .ref q555, .int 0, .int 0, .int 0, .ref q556, .int 0, .int 0, .int (-1), .int (-1), .int 0, .int 0, .int 0, .null, .null])), (q554, .inl (cI, 4096, .inl (fun _ => 0))), (q555, .inl (cI, 4096, .inl (fun _ => 0))), (q556, .inl (cI, 4, .inl (fun _ => 0)))] H := hP
  have hD : va_D A [(h0, .inr (13, [.int 0, .ref q554, .int 1, .int 1, .ref q555, .int 0, .int 0, .int 0, .ref q556, .int 0, .int 0, .int (-1), .int (-1), .int 0, .int 0, .int 0, .null, .null])), (q554, .inl (cI, 4096, .inl (fun _ => 0))), (q555, .inl (cI, 4096, .inl (fun _ => 0))), (q556, .inl (cI, 4, .inl (fun _ => 0)))] := hD
  refine lv_aload_n hx hb d_Cmd_init_49 rfl (lv_at hl 0 rfl) ?_
  refine lv_iconst (v := (-1)) hx hb d_Cmd_init_50 (by decide) ?_
  refine va_put (D := D) (ci := 13) (v := .int (-1)) (ty := .int) (C := R_Cmd) (T := F_Cmd) (N := 18) hx hb htw i_Cmd t_Cmd t_Cmd_ok n_Cmd hown hC.1 hP hD hS 0 rfl rfl 14 (by decide) (htw _ k561) (fun _ h9 => h9) rfl (by decide +kernel) rfl rfl (Nat.le_of_ble_eq_true rfl) d_Cmd_init_51 (fun H locs hP hD hS => ?_)
  have hP : va_P D classes [(h0, .inr (13, [.int 0, .ref q554, .int 1, .int 1, .ref q555, .int 0, .int 0, .int 0, .ref q556, .int 0, .int 0, .int (-1), .int (-1), .int 0, .int (-1), .int 0, .null, .null])), (q554, .inl (cI, 4096, .inl (fun _ => 0))), (q555, .inl (cI, 4096, .inl (fun _ => 0))), (q556, .inl (cI, 4, .inl (fun _ => 0)))] H := hP
  have hD : va_D A [(h0, .inr (13, [.int 0, .ref q554, .int 1, .int 1, .ref q555, .int 0, .int 0, .int 0, .ref q556, .int 0, .int 0, .int (-1), .int (-1), .int 0, .int (-1), .int 0, .null, .null])), (q554, .inl (cI, 4096, .inl (fun _ => 0))), (q555, .inl (cI, 4096, .inl (fun _ => 0))), (q556, .inl (cI, 4, .inl (fun _ => 0)))] := hD
  refine lv_aload_n hx hb d_Cmd_init_54 rfl (lv_at hl 0 rfl) ?_
  refine lv_sipush (v := 300) hx hb d_Cmd_init_55 (by decide) ?_
  refine wna_i hx hb (htw _ k238) hC hP hD hS (N := 300) (by decide) (by omega) (Nat.le_of_ble_eq_true rfl) (Nat.le_of_ble_eq_true rfl) d_Cmd_init_58 (fun q557 H hP hD hS => ?_)
  have hP : va_P D classes [(h0, .inr (13, [.int 0, .ref q554, .int 1, .int 1, .ref q555, .int 0, .int 0, .int 0, .ref q556, .int 0, .int 0, .int (-1), .int (-1), .int 0, .int (-1), .int 0, .null, .null])), (q554, .inl (cI, 4096, .inl (fun _ => 0))), (q555, .inl (cI, 4096, .inl (fun _ => 0))), (q556, .inl (cI, 4, .inl (fun _ => 0))), (q557, .inl (cI, 300, .inl (fun _ => 0)))] H := hP
  have hD : va_D A [(h0, .inr (13, [.int 0, .ref q554, .int 1, .int 1, .ref q555, .int 0, .int 0, .int 0, .ref q556, .int 0, .int 0, .int (-1), .int (-1), .int 0, .int (-1), .int 0, .null, .null])), (q554, .inl (cI, 4096, .inl (fun _ => 0))), (q555, .inl (cI, 4096, .inl (fun _ => 0))), (q556, .inl (cI, 4, .inl (fun _ => 0))), (q557, .inl (cI, 300, .inl (fun _ => 0)))] := hD
  refine W.widen (k := 4) (n := 8496) (by omega) (by omega) ?_
  refine va_putF (D := D) (ci := 13) (v := .ref q557) (ty := .array .int) (C := R_Cmd) (T := F_Cmd) (N := 18) hx hb htw i_Cmd t_Cmd t_Cmd_ok n_Cmd hown hC.1 hP hD hS 0 rfl rfl 16 (by decide) (htw _ k562) (fun _ h9 => h9) rfl hin rfl (by decide +kernel) rfl rfl (Nat.le_of_ble_eq_true rfl) d_Cmd_init_60 (fun H locs hP hD hS => ?_)
  have hP : va_P D classes [(h0, .inr (13, [.int 0, .ref q554, .int 1, .int 1, .ref q555, .int 0, .int 0, .int 0, .ref q556, .int 0, .int 0, .int (-1), .int (-1), .int 0, .int (-1), .int 0, .ref q557, .null])), (q554, .inl (cI, 4096, .inl (fun _ => 0))), (q555, .inl (cI, 4096, .inl (fun _ => 0))), (q556, .inl (cI, 4, .inl (fun _ => 0))), (q557, .inl (cI, 300, .inl (fun _ => 0)))] H := hP
  have hD : va_D A [(h0, .inr (13, [.int 0, .ref q554, .int 1, .int 1, .ref q555, .int 0, .int 0, .int 0, .ref q556, .int 0, .int 0, .int (-1), .int (-1), .int 0, .int (-1), .int 0, .ref q557, .null])), (q554, .inl (cI, 4096, .inl (fun _ => 0))), (q555, .inl (cI, 4096, .inl (fun _ => 0))), (q556, .inl (cI, 4, .inl (fun _ => 0))), (q557, .inl (cI, 300, .inl (fun _ => 0)))] := hD
  refine lv_aload_n hx hb d_Cmd_init_63 rfl (lv_at hl 0 rfl) ?_
  refine lv_sipush (v := 4160) hx hb d_Cmd_init_64 (by decide) ?_
  refine wna_i hx hb (htw _ k238) hC hP hD hS (N := 4160) (by decide) (by omega) (Nat.le_of_ble_eq_true rfl) (Nat.le_of_ble_eq_true rfl) d_Cmd_init_67 (fun q558 H hP hD hS => ?_)
  have hP : va_P D classes [(h0, .inr (13, [.int 0, .ref q554, .int 1, .int 1, .ref q555, .int 0, .int 0, .int 0, .ref q556, .int 0, .int 0, .int (-1), .int (-1), .int 0, .int (-1), .int 0, .ref q557, .null])), (q554, .inl (cI, 4096, .inl (fun _ => 0))), (q555, .inl (cI, 4096, .inl (fun _ => 0))), (q556, .inl (cI, 4, .inl (fun _ => 0))), (q557, .inl (cI, 300, .inl (fun _ => 0))), (q558, .inl (cI, 4160, .inl (fun _ => 0)))] H := hP
  have hD : va_D A [(h0, .inr (13, [.int 0, .ref q554, .int 1, .int 1, .ref q555, .int 0, .int 0, .int 0, .ref q556, .int 0, .int 0, .int (-1), .int (-1), .int 0, .int (-1), .int 0, .ref q557, .null])), (q554, .inl (cI, 4096, .inl (fun _ => 0))), (q555, .inl (cI, 4096, .inl (fun _ => 0))), (q556, .inl (cI, 4, .inl (fun _ => 0))), (q557, .inl (cI, 300, .inl (fun _ => 0))), (q558, .inl (cI, 4160, .inl (fun _ => 0)))] := hD
  refine W.widen (k := 5) (n := 12656) (by omega) (by omega) ?_
  refine va_putF (D := D) (ci := 13) (v := .ref q558) (ty := .array .int) (C := R_Cmd) (T := F_Cmd) (N := 18) hx hb htw i_Cmd t_Cmd t_Cmd_ok n_Cmd hown hC.1 hP hD hS 0 rfl rfl 17 (by decide) (htw _ k563) (fun _ h9 => h9) rfl hin rfl (by decide +kernel) rfl rfl (Nat.le_of_ble_eq_true rfl) d_Cmd_init_69 (fun H locs hP hD hS => ?_)
  have hP : va_P D classes [(h0, .inr (13, [.int 0, .ref q554, .int 1, .int 1, .ref q555, .int 0, .int 0, .int 0, .ref q556, .int 0, .int 0, .int (-1), .int (-1), .int 0, .int (-1), .int 0, .ref q557, .ref q558])), (q554, .inl (cI, 4096, .inl (fun _ => 0))), (q555, .inl (cI, 4096, .inl (fun _ => 0))), (q556, .inl (cI, 4, .inl (fun _ => 0))), (q557, .inl (cI, 300, .inl (fun _ => 0))), (q558, .inl (cI, 4160, .inl (fun _ => 0)))] H := hP
  have hD : va_D A [(h0, .inr (13, [.int 0, .ref q554, .int 1, .int 1, .ref q555, .int 0, .int 0, .int 0, .ref q556, .int 0, .int 0, .int (-1), .int (-1), .int 0, .int (-1), .int 0, .ref q557, .ref q558])), (q554, .inl (cI, 4096, .inl (fun _ => 0))), (q555, .inl (cI, 4096, .inl (fun _ => 0))), (q556, .inl (cI, 4, .inl (fun _ => 0))), (q557, .inl (cI, 300, .inl (fun _ => 0))), (q558, .inl (cI, 4160, .inl (fun _ => 0)))] := hD
  refine lv_aload_n hx hb d_Cmd_init_72 rfl (lv_at hl 0 rfl) ?_
  refine wc_v (wr := [(q554, .inl (cI, 4096, .inl (fun _ => 0))), (q555, .inl (cI, 4096, .inl (fun _ => 0))), (q556, .inl (cI, 4, .inl (fun _ => 0))), (q557, .inl (cI, 300, .inl (fun _ => 0)))]) hC hP hD hS [0, 5] [1, 2, 3, 4] rfl rfl (by decide) (by decide) (va_runV (As := []) (rest := []) ⟨hx, hb, hml, hown, htw⟩ (c_nothingTold l D cI cL B _ h0 q558 (fun _ => 0) q554 q555 q556 q557 0 1 1 0 0 0 0 0 (-1) (-1) 0 (-1) 0) (cwV 0 htw gV_Cmd_41 rfl rfl rfl (by decide +kernel) ⟨Nat.le_of_ble_eq_true rfl, Nat.le_of_ble_eq_true rfl⟩) (wC_preV (As := []) hC hP hD hS [0, 5] (by decide) rfl (q0 := 0) rfl rfl) rfl rfl hl.1 rfl (lv_room (Nat.le_of_ble_eq_true rfl)) d_Cmd_init_73 ⟨Nat.le_of_ble_eq_true rfl, Nat.le_of_ble_eq_true rfl⟩) (fun u559 H locs hw560 hP hD hS => ?_)
  obtain ⟨z561, rfl⟩ : ∃ z, z = u559 := ⟨_, rfl⟩
  have hP : va_P D classes [(q554, .inl (cI, 4096, .inl (fun _ => 0))), (q555, .inl (cI, 4096, .inl (fun _ => 0))), (q556, .inl (cI, 4, .inl (fun _ => 0))), (q557, .inl (cI, 300, .inl (fun _ => 0))), (h0, .inr (13, [.int 0, .ref q554, .int 1, .int 1, .ref q555, .int 0, .int 0, .int 0, .ref q556, .int 0, .int 0, .int (-1), .int (-1), .int 0, .int (-1), .int 0, .ref q557, .ref q558])), (q558, .inl (cI, 4160, .inl z561))] H := hP
  have hD : va_D A [(q554, .inl (cI, 4096, .inl (fun _ => 0))), (q555, .inl (cI, 4096, .inl (fun _ => 0))), (q556, .inl (cI, 4, .inl (fun _ => 0))), (q557, .inl (cI, 300, .inl (fun _ => 0))), (h0, .inr (13, [.int 0, .ref q554, .int 1, .int 1, .ref q555, .int 0, .int 0, .int 0, .ref q556, .int 0, .int 0, .int (-1), .int (-1), .int 0, .int (-1), .int 0, .ref q557, .ref q558])), (q558, .inl (cI, 4160, .inl z561))] := hD
  refine W.widen (k := 5) (n := 12656) (by omega) (by omega) ?_
  refine W.widen (k := 5) (n := 12656) (Nat.le_of_ble_eq_true rfl) (Nat.le_of_ble_eq_true rfl) ?_
  have hP9 := hP.sub (ws' := [(h0, .inr (13, [.int 0, .ref q554, .int 1, .int 1, .ref q555, .int 0, .int 0, .int 0, .ref q556, .int 0, .int 0, .int (-1), .int (-1), .int 0, .int (-1), .int 0, .ref q557, .ref q558])), (q554, .inl (cI, 4096, .inl (fun _ => 0))), (q555, .inl (cI, 4096, .inl (fun _ => 0))), (q558, .inl (cI, 4160, .inl z561))]) [4, 0, 1, 5] rfl
  have hD9 := hD.sub (ws' := [(h0, .inr (13, [.int 0, .ref q554, .int 1, .int 1, .ref q555, .int 0, .int 0, .int 0, .ref q556, .int 0, .int 0, .int (-1), .int (-1), .int 0, .int (-1), .int 0, .ref q557, .ref q558])), (q554, .inl (cI, 4096, .inl (fun _ => 0))), (q555, .inl (cI, 4096, .inl (fun _ => 0))), (q558, .inl (cI, 4160, .inl z561))]) [4, 0, 1, 5] (by decide) rfl
  exact W.vret hx hb hr (fun t ht hW => ⟨⟨(q554, q555, q556, q557, q558, z561), rfl, trivial, by rw [ht]; exact hP9, va_K.moved hW.alike hC.1, hD9⟩, hS.F ht⟩) hS.2.2 d_Cmd_init_76

theorem d_Mod_init_0 : decode prog_14_method_1_code 0 = .ok (.aload_n 0, 1) := by decide +kernel
theorem d_Mod_init_1 : decode prog_14_method_1_code 1 = .ok (.invokespecial 1, 3) := by decide +kernel
theorem d_Mod_init_4 : decode prog_14_method_1_code 4 = .ok (.aload_n 0, 1) := by decide +kernel
theorem d_Mod_init_5 : decode prog_14_method_1_code 5 = .ok (.iconst 1, 1) := by decide +kernel
theorem d_Mod_init_6 : decode prog_14_method_1_code 6 = .ok (.putfield 7, 3) := by decide +kernel
theorem d_Mod_init_9 : decode prog_14_method_1_code 9 = .ok (.aload_n 0, 1) := by decide +kernel
theorem d_Mod_init_10 : decode prog_14_method_1_code 10 = .ok (.iconst 1, 1) := by decide +kernel
theorem d_Mod_init_11 : decode prog_14_method_1_code 11 = .ok (.putfield 13, 3) := by decide +kernel
theorem d_Mod_init_14 : decode prog_14_method_1_code 14 = .ok (.aload_n 0, 1) := by decide +kernel
theorem d_Mod_init_15 : decode prog_14_method_1_code 15 = .ok (.new 16, 3) := by decide +kernel
theorem d_Mod_init_18 : decode prog_14_method_1_code 18 = .ok (.dup, 1) := by decide +kernel
theorem d_Mod_init_19 : decode prog_14_method_1_code 19 = .ok (.invokespecial 18, 3) := by decide +kernel
theorem d_Mod_init_22 : decode prog_14_method_1_code 22 = .ok (.putfield 19, 3) := by decide +kernel
theorem d_Mod_init_25 : decode prog_14_method_1_code 25 = .ok (.aload_n 0, 1) := by decide +kernel
theorem d_Mod_init_26 : decode prog_14_method_1_code 26 = .ok (.new 23, 3) := by decide +kernel
theorem d_Mod_init_29 : decode prog_14_method_1_code 29 = .ok (.dup, 1) := by decide +kernel
theorem d_Mod_init_30 : decode prog_14_method_1_code 30 = .ok (.aload_n 0, 1) := by decide +kernel
theorem d_Mod_init_31 : decode prog_14_method_1_code 31 = .ok (.getfield 19, 3) := by decide +kernel
theorem d_Mod_init_34 : decode prog_14_method_1_code 34 = .ok (.getfield 25, 3) := by decide +kernel
theorem d_Mod_init_37 : decode prog_14_method_1_code 37 = .ok (.invokespecial 29, 3) := by decide +kernel
theorem d_Mod_init_40 : decode prog_14_method_1_code 40 = .ok (.putfield 32, 3) := by decide +kernel
theorem d_Mod_init_43 : decode prog_14_method_1_code 43 = .ok (.aload_n 0, 1) := by decide +kernel
theorem d_Mod_init_44 : decode prog_14_method_1_code 44 = .ok (.new 36, 3) := by decide +kernel
theorem d_Mod_init_47 : decode prog_14_method_1_code 47 = .ok (.dup, 1) := by decide +kernel
theorem d_Mod_init_48 : decode prog_14_method_1_code 48 = .ok (.aload_n 0, 1) := by decide +kernel
theorem d_Mod_init_49 : decode prog_14_method_1_code 49 = .ok (.getfield 19, 3) := by decide +kernel
theorem d_Mod_init_52 : decode prog_14_method_1_code 52 = .ok (.getfield 25, 3) := by decide +kernel
theorem d_Mod_init_55 : decode prog_14_method_1_code 55 = .ok (.aload_n 0, 1) := by decide +kernel
theorem d_Mod_init_56 : decode prog_14_method_1_code 56 = .ok (.getfield 32, 3) := by decide +kernel
theorem d_Mod_init_59 : decode prog_14_method_1_code 59 = .ok (.invokespecial 38, 3) := by decide +kernel
theorem d_Mod_init_62 : decode prog_14_method_1_code 62 = .ok (.putfield 41, 3) := by decide +kernel
theorem d_Mod_init_65 : decode prog_14_method_1_code 65 = .ok (.aload_n 0, 1) := by decide +kernel
theorem d_Mod_init_66 : decode prog_14_method_1_code 66 = .ok (.new 36, 3) := by decide +kernel
theorem d_Mod_init_69 : decode prog_14_method_1_code 69 = .ok (.dup, 1) := by decide +kernel
theorem d_Mod_init_70 : decode prog_14_method_1_code 70 = .ok (.aload_n 0, 1) := by decide +kernel
theorem d_Mod_init_71 : decode prog_14_method_1_code 71 = .ok (.getfield 19, 3) := by decide +kernel
theorem d_Mod_init_74 : decode prog_14_method_1_code 74 = .ok (.getfield 25, 3) := by decide +kernel
theorem d_Mod_init_77 : decode prog_14_method_1_code 77 = .ok (.aload_n 0, 1) := by decide +kernel
theorem d_Mod_init_78 : decode prog_14_method_1_code 78 = .ok (.getfield 32, 3) := by decide +kernel
theorem d_Mod_init_81 : decode prog_14_method_1_code 81 = .ok (.invokespecial 38, 3) := by decide +kernel
theorem d_Mod_init_84 : decode prog_14_method_1_code 84 = .ok (.putfield 45, 3) := by decide +kernel
theorem d_Mod_init_87 : decode prog_14_method_1_code 87 = .ok (.aload_n 0, 1) := by decide +kernel
theorem d_Mod_init_88 : decode prog_14_method_1_code 88 = .ok (.new 48, 3) := by decide +kernel
theorem d_Mod_init_91 : decode prog_14_method_1_code 91 = .ok (.dup, 1) := by decide +kernel
theorem d_Mod_init_92 : decode prog_14_method_1_code 92 = .ok (.aload_n 0, 1) := by decide +kernel
theorem d_Mod_init_93 : decode prog_14_method_1_code 93 = .ok (.getfield 19, 3) := by decide +kernel
theorem d_Mod_init_96 : decode prog_14_method_1_code 96 = .ok (.getfield 25, 3) := by decide +kernel
theorem d_Mod_init_99 : decode prog_14_method_1_code 99 = .ok (.invokespecial 50, 3) := by decide +kernel
theorem d_Mod_init_102 : decode prog_14_method_1_code 102 = .ok (.putfield 51, 3) := by decide +kernel
theorem d_Mod_init_105 : decode prog_14_method_1_code 105 = .ok (.aload_n 0, 1) := by decide +kernel
theorem d_Mod_init_106 : decode prog_14_method_1_code 106 = .ok (.new 55, 3) := by decide +kernel
theorem d_Mod_init_109 : decode prog_14_method_1_code 109 = .ok (.dup, 1) := by decide +kernel
theorem d_Mod_init_110 : decode prog_14_method_1_code 110 = .ok (.invokespecial 57, 3) := by decide +kernel
theorem d_Mod_init_113 : decode prog_14_method_1_code 113 = .ok (.putfield 58, 3) := by decide +kernel
theorem d_Mod_init_116 : decode prog_14_method_1_code 116 = .ok (.aload_n 0, 1) := by decide +kernel
theorem d_Mod_init_117 : decode prog_14_method_1_code 117 = .ok (.new 62, 3) := by decide +kernel
theorem d_Mod_init_120 : decode prog_14_method_1_code 120 = .ok (.dup, 1) := by decide +kernel
theorem d_Mod_init_121 : decode prog_14_method_1_code 121 = .ok (.invokespecial 64, 3) := by decide +kernel
theorem d_Mod_init_124 : decode prog_14_method_1_code 124 = .ok (.putfield 65, 3) := by decide +kernel
theorem d_Mod_init_127 : decode prog_14_method_1_code 127 = .ok (.aload_n 0, 1) := by decide +kernel
theorem d_Mod_init_128 : decode prog_14_method_1_code 128 = .ok (.iconst (-1), 1) := by decide +kernel
theorem d_Mod_init_129 : decode prog_14_method_1_code 129 = .ok (.putfield 69, 3) := by decide +kernel
theorem d_Mod_init_132 : decode prog_14_method_1_code 132 = .ok (.aload_n 0, 1) := by decide +kernel
theorem d_Mod_init_133 : decode prog_14_method_1_code 133 = .ok (.bipush 8, 2) := by decide +kernel
theorem d_Mod_init_135 : decode prog_14_method_1_code 135 = .ok (.newarray .int, 2) := by decide +kernel
theorem d_Mod_init_137 : decode prog_14_method_1_code 137 = .ok (.putfield 72, 3) := by decide +kernel
theorem d_Mod_init_140 : decode prog_14_method_1_code 140 = .ok (.aload_n 0, 1) := by decide +kernel
theorem d_Mod_init_141 : decode prog_14_method_1_code 141 = .ok (.bipush 9, 2) := by decide +kernel
theorem d_Mod_init_143 : decode prog_14_method_1_code 143 = .ok (.newarray .int, 2) := by decide +kernel
theorem d_Mod_init_145 : decode prog_14_method_1_code 145 = .ok (.putfield 75, 3) := by decide +kernel
theorem d_Mod_init_148 : decode prog_14_method_1_code 148 = .ok (.aload_n 0, 1) := by decide +kernel
theorem d_Mod_init_149 : decode prog_14_method_1_code 149 = .ok (.iconst 4, 1) := by decide +kernel
theorem d_Mod_init_150 : decode prog_14_method_1_code 150 = .ok (.newarray .int, 2) := by decide +kernel
theorem d_Mod_init_152 : decode prog_14_method_1_code 152 = .ok (.putfield 78, 3) := by decide +kernel
theorem d_Mod_init_155 : decode prog_14_method_1_code 155 = .ok (.aload_n 0, 1) := by decide +kernel
theorem d_Mod_init_156 : decode prog_14_method_1_code 156 = .ok (.iconst 3, 1) := by decide +kernel
theorem d_Mod_init_157 : decode prog_14_method_1_code 157 = .ok (.newarray .long, 2) := by decide +kernel
theorem d_Mod_init_159 : decode prog_14_method_1_code 159 = .ok (.putfield 81, 3) := by decide +kernel
theorem d_Mod_init_162 : decode prog_14_method_1_code 162 = .ok (.return_, 1) := by decide +kernel
set_option maxHeartbeats 4000000 in
set_option maxRecDepth 100000 in
theorem c_Mod_init (l : Launch) (D : va_G) (cI cL : ClassId) (B sz : Nat) (h0 : Nat) : Met l y_Mod_init ((Cond.code y_Mod_init prog_14_method_1_code 1 none) :: tw) ({ frames := 60, cells := 66, slots := 116618, locals := 6000 }) (va_Pc [.ref h0] (wP D cI cL B sz [(h0, .inr (12, [.int 0, .int 0, .int 0, .null, .null, .null, .null, .null, .null, .null, .int 0, .int 0, .int 0, .int 0, .long 0, .null, .null, .null, .null]))])) (va_Qv (S := Nat × Nat × Nat × Nat × Nat × Nat × (Nat → Int32) × Nat × Nat × Nat × Nat × Nat × Nat × Nat × Nat × Nat × Nat × Nat × Nat × Nat × Nat × Nat × Nat × Nat × Nat × Nat × Nat) (fun _ => True) (fun u => wB D cI cL (va_A [(h0, .inr (12, [.int 0, .int 0, .int 0, .null, .null, .null, .null, .null, .null, .null, .int 0, .int 0, .int 0, .int 0, .long 0, .null, .null, .null, .null]))] sz) ((fun u : Nat × Nat × Nat × Nat × Nat × Nat × (Nat → Int32) × Nat × Nat × Nat × Nat × Nat × Nat × Nat × Nat × Nat × Nat × Nat × Nat × Nat × Nat × Nat × Nat × Nat × Nat × Nat × Nat => match u with | (q562, z565, z566, z567, z568, z569, z570, q571, q574, q577, q580, q583, q586, z589, z590, z591, z592, z593, z594, z595, z596, z597, z598, q599, q600, q601, q602) => [(h0, .inr (12, [.int 0, .int 1, .int 1, .ref q562, .ref q571, .ref q574, .ref q577, .ref q580, .ref q583, .ref q586, .int 0, .int (-1), .int 0, .int 0, .long 0, .ref q599, .ref q600, .ref q601, .ref q602])), (q562, .inr (13, [.int 0, .ref z565, .int 1, .int 1, .ref z566, .int 0, .int 0, .int 0, .ref z567, .int 0, .int 0, .int (-1), .int (-1), .int 0, .int (-1), .int 0, .ref z568, .ref z569])), (z565, .inl (cI, 4096, .inl (fun _ => 0))), (z566, .inl (cI, 4096, .inl (fun _ => 0))), (z569, .inl (cI, 4160, .inl z570)), (q586, .inr (18, [.int 0, .int 0, .int 0, .int 1, .int 1, .ref z589, .ref z590, .ref z591, .int 0, .ref z592, .int (-1), .int 0, .ref z593, .ref z594, .int (-1), .int 0, .ref z595, .int (-1), .int 15, .ref z596, .ref z597, .ref z598])), (z589, .inl (cI, 65536, .inl (fun _ => 0))), (z590, .inl (cI, 16384, .inl (fun _ => 0))), (z591, .inl (cI, 16384, .inl (fun _ => 0))), (q599, .inl (cI, 8, .inl (fun _ => 0))), (q600, .inl (cI, 9, .inl (fun _ => 0))), (q601, .inl (cI, 4, .inl (fun _ => 0)))]) u)) (va_A [(h0, .inr (12, [.int 0, .int 0, .int 0, .null, .null, .null, .null, .null, .null, .null, .int 0, .int 0, .int 0, .int 0, .long 0, .null, .null, .null, .null]))] sz)) 66 116618 (va_A [(h0, .inr (12, [.int 0, .int 0, .int 0, .null, .null, .null, .null, .null, .null, .null, .int 0, .int 0, .int 0, .int 0, .long 0, .null, .null, .null, .null]))] sz) := by
  refine Met.ofW (cc := prog_14_method_1_code) (maxL := 1) (ret := none) (by decide) rfl ?_
  intro p e s m args below meth c s₁ B0 hml hv
  obtain ⟨rfl, hv⟩ := hv
  have hx := B0.exec
  have hb := B0.bytes
  have hr := B0.returns
  have hts := atoms_spec (ws := (Cond.code y_Mod_init prog_14_method_1_code 1 none) :: tw) B0.pre
  have htw : ∀ w ∈ tw, w.before _ s = true := fun w hw => hts w (List.mem_cons_of_mem _ hw)
  have hown : s.vm.findClass "DrawingMachineModel" = some m.cls := findClass_of_methodNamed B0.named
  have hlocks := B0.notSynchronized
  have hin : meth.name = "<init>" := (name_of_methodNamed B0.named B0.method).1
  obtain ⟨hC, hP, hD, hsz⟩ := wC_init hv
  subst hsz
  generalize hAe : va_A [(h0, .inr (12, [.int 0, .int 0, .int 0, .null, .null, .null, .null, .null, .null, .null, .int 0, .int 0, .int 0, .int 0, .long 0, .null, .null, .null, .null]))] s.heap.size = A at hC hD ⊢
  have hS : va_S A s.heap s.heap [] := va_S.rf
  have hl := lv_entry ([.ref h0]) (n := 1) (Nat.le_of_ble_eq_true rfl)
  rw [lg_entry_eq]
  generalize (lg_sl ([.ref h0]) ++ List.replicate (1 - (lg_sl ([.ref h0])).length) Slot.unset).toArray = ls at hl ⊢
  have hl : lv_has ls 1 [(0, .ref h0)] := hl
  refine lv_aload_n hx hb d_Mod_init_0 rfl (lv_at hl 0 rfl) ?_
  refine W.objInit hx hb hown (htw _ k514) (htw _ k242) (htw _ k243) rfl (by rw [hml]; exact hl.1) rfl d_Mod_init_1 (Nat.le_of_ble_eq_true rfl) (Nat.le_of_ble_eq_true rfl) ?_
  refine W.eq (g2 := F0 m 4 ls []) rfl ?_
  refine lv_aload_n hx hb d_Mod_init_4 rfl (lv_at hl 0 rfl) ?_
  refine lv_iconst (v := 1) hx hb d_Mod_init_5 (by decide) ?_
  refine va_put (D := D) (ci := 12) (v := .int 1) (ty := .int) (C := R_Mod) (T := F_Mod) (N := 19) hx hb htw i_Mod t_Mod t_Mod_ok n_Mod hown hC.1 hP hD hS 0 rfl rfl 1 (by decide) (htw _ k515) (fun _ h9 => h9) rfl (by decide +kernel) rfl rfl (Nat.le_of_ble_eq_true rfl) d_Mod_init_6 (fun H locs hP hD hS => ?_)
  have hP : va_P D classes [(h0, .inr (12, [.int 0, .int 1, .int 0, .null, .null, .null, .null, .null, .null, .null, .int 0, .int 0, .int 0, .int 0, .long 0, .null, .null, .null, .null]))] H := hP
  have hD : va_D A [(h0, .inr (12, [.int 0, .int 1, .int 0, .null, .null, .null, .null, .null, .null, .null, .int 0, .int 0, .int 0, .int 0, .long 0, .null, .null, .null, .null]))] := hD
  refine lv_aload_n hx hb d_Mod_init_9 rfl (lv_at hl 0 rfl) ?_
  refine lv_iconst (v := 1) hx hb d_Mod_init_10 (by decide) ?_
  refine va_put (D := D) (ci := 12) (v := .int 1) (ty := .int) (C := R_Mod) (T := F_Mod) (N := 19) hx hb htw i_Mod t_Mod t_Mod_ok n_Mod hown hC.1 hP hD hS 0 rfl rfl 2 (by decide) (htw _ k516) (fun _ h9 => h9) rfl (by decide +kernel) rfl rfl (Nat.le_of_ble_eq_true rfl) d_Mod_init_11 (fun H locs hP hD hS => ?_)
  have hP : va_P D classes [(h0, .inr (12, [.int 0, .int 1, .int 1, .null, .null, .null, .null, .null, .null, .null, .int 0, .int 0, .int 0, .int 0, .long 0, .null, .null, .null, .null]))] H := hP
  have hD : va_D A [(h0, .inr (12, [.int 0, .int 1, .int 1, .null, .null, .null, .null, .null, .null, .null, .int 0, .int 0, .int 0, .int 0, .long 0, .null, .null, .null, .null]))] := hD
  refine lv_aload_n hx hb d_Mod_init_14 rfl (lv_at hl 0 rfl) ?_
  refine va_new (ci := 13) (fs := [.int 0, .null, .int 0, .int 0, .null, .int 0, .int 0, .int 0, .null, .int 0, .int 0, .int 0, .int 0, .int 0, .int 0, .int 0, .null, .null]) (C := R_Cmd) (T := F_Cmd) (N := 18) hx hb htw i_Cmd t_Cmd t_Cmd_ok hown (htw _ k517) (htw _ k138) (htw _ k137) hC.1 hP hD hS hC.2.2.2.1 rfl (fun j hj => by rcases (show j = 0 ∨ j = 1 ∨ j = 2 ∨ j = 3 ∨ j = 4 ∨ j = 5 ∨ j = 6 ∨ j = 7 ∨ j = 8 ∨ j = 9 ∨ j = 10 ∨ j = 11 ∨ j = 12 ∨ j = 13 ∨ j = 14 ∨ j = 15 ∨ j = 16 ∨ j = 17 by omega) with rfl | rfl | rfl | rfl | rfl | rfl | rfl | rfl | rfl | rfl | rfl | rfl | rfl | rfl | rfl | rfl | rfl | rfl <;> rfl) (Nat.le_of_ble_eq_true rfl) (Nat.le_of_ble_eq_true rfl) d_Mod_init_15 (fun q562 H hP hD hS => ?_)
  have hP : va_P D classes [(h0, .inr (12, [.int 0, .int 1, .int 1, .null, .null, .null, .null, .null, .null, .null, .int 0, .int 0, .int 0, .int 0, .long 0, .null, .null, .null, .null])), (q562, .inr (13, [.int 0, .null, .int 0, .int 0, .null, .int 0, .int 0, .int 0, .null, .int 0, .int 0, .int 0, .int 0, .int 0, .int 0, .int 0, .null, .null]))] H := hP
  have hD : va_D A [(h0, .inr (12, [.int 0, .int 1, .int 1, .null, .null, .null, .null, .null, .null, .null, .int 0, .int 0, .int 0, .int 0, .long 0, .null, .null, .null, .null])), (q562, .inr (13, [.int 0, .null, .int 0, .int 0, .null, .int 0, .int 0, .int 0, .null, .int 0, .int 0, .int 0, .int 0, .int 0, .int 0, .int 0, .null, .null]))] := hD
  refine W.widen (k := 1) (n := 18) (by omega) (by omega) ?_
  refine lv_dup hx hb d_Mod_init_18 rfl ?_
  refine wc_v (wr := [(h0, .inr (12, [.int 0, .int 1, .int 1, .null, .null, .null, .null, .null, .null, .null, .int 0, .int 0, .int 0, .int 0, .long 0, .null, .null, .null, .null]))]) hC hP hD hS [1] [0] rfl rfl (by decide) (by decide) (va_runI (As := []) (rest := [.ref q562, .ref h0]) ⟨hx, hb, hml, hown, htw⟩ (c_Cmd_init l D cI cL B _ q562) (cwI 0 htw (tw_good (fun _ h => h) k520) rfl rfl rfl (htw _ k137) (htw _ k518) (htw _ k519) rfl (by decide +kernel) ⟨Nat.le_of_ble_eq_true rfl, Nat.le_of_ble_eq_true rfl⟩) (wC_pre hC hP hD hS [1] (by decide) rfl) rfl rfl hl.1 rfl (lv_room (Nat.le_of_ble_eq_true rfl)) d_Mod_init_19 ⟨Nat.le_of_ble_eq_true rfl, Nat.le_of_ble_eq_true rfl⟩) (fun u563 H locs hw564 hP hD hS => ?_)
  obtain ⟨z565, z566, z567, z568, z569, z570⟩ := u563
  have hP : va_P D classes [(h0, .inr (12, [.int 0, .int 1, .int 1, .null, .null, .null, .null, .null, .null, .null, .int 0, .int 0, .int 0, .int 0, .long 0, .null, .null, .null, .null])), (q562, .inr (13, [.int 0, .ref z565, .int 1, .int 1, .ref z566, .int 0, .int 0, .int 0, .ref z567, .int 0, .int 0, .int (-1), .int (-1), .int 0, .int (-1), .int 0, .ref z568, .ref z569])), (z565, .inl (cI, 4096, .inl (fun _ => 0))), (z566, .inl (cI, 4096, .inl (fun _ => 0))), (z569, .inl (cI, 4160, .inl z570))] H := hP
  have hD : va_D A [(h0, .inr (12, [.int 0, .int 1, .int 1, .null, .null, .null, .null, .null, .null, .null, .int 0, .int 0, .int 0, .int 0, .long 0, .null, .null, .null, .null])), (q562, .inr (13, [.int 0, .ref z565, .int 1, .int 1, .ref z566, .int 0, .int 0, .int 0, .ref z567, .int 0, .int 0, .int (-1), .int (-1), .int 0, .int (-1), .int 0, .ref z568, .ref z569])), (z565, .inl (cI, 4096, .inl (fun _ => 0))), (z566, .inl (cI, 4096, .inl (fun _ => 0))), (z569, .inl (cI, 4160, .inl z570))] := hD
  refine W.widen (k := 6) (n := 12674) (by omega) (by omega) ?_
  refine va_putF (D := D) (ci := 12) (v := .ref q562) (ty := .object "DrawingMachineModel$DrawCommandsModel") (C := R_Mod) (T := F_Mod) (N := 19) hx hb htw i_Mod t_Mod t_Mod_ok n_Mod hown hC.1 hP hD hS 0 rfl rfl 3 (by decide) (htw _ k521) (fun _ h9 => h9) rfl hin rfl (by decide +kernel) rfl rfl (Nat.le_of_ble_eq_true rfl) d_Mod_init_22 (fun H locs hP hD hS => ?_)
  have hP : va_P D classes [(h0, .inr (12, [.int 0, .int 1, .int 1, .ref q562, .null, .null, .null, .null, .null, .null, .int 0, .int 0, .int 0, .int 0, .long 0, .null, .null, .null, .null])), (q562, .inr (13, [.int 0, .ref z565, .int 1, .int 1, .ref z566, .int 0, .int 0, .int 0, .ref z567, .int 0, .int 0, .int (-1), .int (-1), .int 0, .int (-1), .int 0, .ref z568, .ref z569])), (z565, .inl (cI, 4096, .inl (fun _ => 0))), (z566, .inl (cI, 4096, .inl (fun _ => 0))), (z569, .inl (cI, 4160, .inl z570))] H := hP
  have hD : va_D A [(h0, .inr (12, [.int 0, .int 1, .int 1, .ref q562, .null, .null, .null, .null, .null, .null, .int 0, .int 0, .int 0, .int 0, .long 0, .null, .null, .null, .null])), (q562, .inr (13, [.int 0, .ref z565, .int 1, .int 1, .ref z566, .int 0, .int 0, .int 0, .ref z567, .int 0, .int 0, .int (-1), .int (-1), .int 0, .int (-1), .int 0, .ref z568, .ref z569])), (z565, .inl (cI, 4096, .inl (fun _ => 0))), (z566, .inl (cI, 4096, .inl (fun _ => 0))), (z569, .inl (cI, 4160, .inl z570))] := hD
  refine lv_aload_n hx hb d_Mod_init_25 rfl (lv_at hl 0 rfl) ?_
  refine va_new (ci := 14) (fs := [.int 0, .null, .null, .null, .null, .null, .null, .null, .null, .null, .null]) (C := R_Txm) (T := F_Txm) (N := 11) hx hb htw i_Txm t_Txm t_Txm_ok hown (htw _ k522) (htw _ k158) (htw _ k157) hC.1 hP hD hS hC.2.2.2.1 rfl (fun j hj => by rcases (show j = 0 ∨ j = 1 ∨ j = 2 ∨ j = 3 ∨ j = 4 ∨ j = 5 ∨ j = 6 ∨ j = 7 ∨ j = 8 ∨ j = 9 ∨ j = 10 by omega) with rfl | rfl | rfl | rfl | rfl | rfl | rfl | rfl | rfl | rfl | rfl <;> rfl) (Nat.le_of_ble_eq_true rfl) (Nat.le_of_ble_eq_true rfl) d_Mod_init_26 (fun q571 H hP hD hS => ?_)
  have hP : va_P D classes [(h0, .inr (12, [.int 0, .int 1, .int 1, .ref q562, .null, .null, .null, .null, .null, .null, .int 0, .int 0, .int 0, .int 0, .long 0, .null, .null, .null, .null])), (q562, .inr (13, [.int 0, .ref z565, .int 1, .int 1, .ref z566, .int 0, .int 0, .int 0, .ref z567, .int 0, .int 0, .int (-1), .int (-1), .int 0, .int (-1), .int 0, .ref z568, .ref z569])), (z565, .inl (cI, 4096, .inl (fun _ => 0))), (z566, .inl (cI, 4096, .inl (fun _ => 0))), (z569, .inl (cI, 4160, .inl z570)), (q571, .inr (14, [.int 0, .null, .null, .null, .null, .null, .null, .null, .null, .null, .null]))] H := hP
  have hD : va_D A [(h0, .inr (12, [.int 0, .int 1, .int 1, .ref q562, .null, .null, .null, .null, .null, .null, .int 0, .int 0, .int 0, .int 0, .long 0, .null, .null, .null, .null])), (q562, .inr (13, [.int 0, .ref z565, .int 1, .int 1, .ref z566, .int 0, .int 0, .int 0, .ref z567, .int 0, .int 0, .int (-1), .int (-1), .int 0, .int (-1), .int 0, .ref z568, .ref z569])), (z565, .inl (cI, 4096, .inl (fun _ => 0))), (z566, .inl (cI, 4096, .inl (fun _ => 0))), (z569, .inl (cI, 4160, .inl z570)), (q571, .inr (14, [.int 0, .null, .null, .null, .null, .null, .null, .null, .null, .null, .null]))] := hD
  refine W.widen (k := 7) (n := 12685) (by omega) (by omega) ?_
  refine lv_dup hx hb d_Mod_init_29 rfl ?_
  refine lv_aload_n hx hb d_Mod_init_30 rfl (lv_at hl 0 rfl) ?_
  refine va_get (D := D) (ci := 12) (v := .ref q562) (C := R_Mod) (T := F_Mod) (N := 19) hx hb htw i_Mod hown hC.1 hP 0 rfl rfl 3 (by decide) (htw _ k521) (fun _ h9 => h9) rfl d_Mod_init_31 ?_
  refine va_getN (D := D) (ci := 13) (v := .ref z565) (C := R_Cmd) (T := F_Cmd) (N := 18) hx hb htw i_Cmd hown hC.1 hP 1 rfl rfl 1 (by decide) (va_Nw.use rfl (hC.2.1.1 _ kn7)) (fun _ h9 => h9) rfl d_Mod_init_34 ?_
  refine wc_v (wr := [(h0, .inr (12, [.int 0, .int 1, .int 1, .ref q562, .null, .null, .null, .null, .null, .null, .int 0, .int 0, .int 0, .int 0, .long 0, .null, .null, .null, .null])), (q562, .inr (13, [.int 0, .ref z565, .int 1, .int 1, .ref z566, .int 0, .int 0, .int 0, .ref z567, .int 0, .int 0, .int (-1), .int (-1), .int 0, .int (-1), .int 0, .ref z568, .ref z569])), (z565, .inl (cI, 4096, .inl (fun _ => 0))), (z566, .inl (cI, 4096, .inl (fun _ => 0))), (z569, .inl (cI, 4160, .inl z570))]) hC hP hD hS [5] [0, 1, 2, 3, 4] rfl rfl (by decide) (by decide) (va_runI (As := [.ref z565]) (rest := [.ref q571, .ref h0]) ⟨hx, hb, hml, hown, htw⟩ (c_Txm_init l D cI cL B _ q571 z565) (cwI 1 htw (tw_good (fun _ h => h) k525) rfl rfl rfl (htw _ k157) (htw _ k523) (htw _ k524) rfl (by decide +kernel) ⟨Nat.le_of_ble_eq_true rfl, Nat.le_of_ble_eq_true rfl⟩) (wC_pre hC hP hD hS [5] (by decide) rfl) rfl rfl hl.1 rfl (lv_room (Nat.le_of_ble_eq_true rfl)) d_Mod_init_37 ⟨Nat.le_of_ble_eq_true rfl, Nat.le_of_ble_eq_true rfl⟩) (fun u572 H locs hw573 hP hD hS => ?_)
  have hP : va_P D classes [(h0, .inr (12, [.int 0, .int 1, .int 1, .ref q562, .null, .null, .null, .null, .null, .null, .int 0, .int 0, .int 0, .int 0, .long 0, .null, .null, .null, .null])), (q562, .inr (13, [.int 0, .ref z565, .int 1, .int 1, .ref z566, .int 0, .int 0, .int 0, .ref z567, .int 0, .int 0, .int (-1), .int (-1), .int 0, .int (-1), .int 0, .ref z568, .ref z569])), (z565, .inl (cI, 4096, .inl (fun _ => 0))), (z566, .inl (cI, 4096, .inl (fun _ => 0))), (z569, .inl (cI, 4160, .inl z570))] H := hP
  have hD : va_D A [(h0, .inr (12, [.int 0, .int 1, .int 1, .ref q562, .null, .null, .null, .null, .null, .null, .int 0, .int 0, .int 0, .int 0, .long 0, .null, .null, .null, .null])), (q562, .inr (13, [.int 0, .ref z565, .int 1, .int 1, .ref z566, .int 0, .int 0, .int 0, .ref z567, .int 0, .int 0, .int (-1), .int (-1), .int 0, .int (-1), .int 0, .ref z568, .ref z569])), (z565, .inl (cI, 4096, .inl (fun _ => 0))), (z566, .inl (cI, 4096, .inl (fun _ => 0))), (z569, .inl (cI, 4160, .inl z570))] := hD
  refine W.widen (k := 16) (n := 12761) (by omega) (by omega) ?_
  refine va_putF (D := D) (ci := 12) (v := .ref q571) (ty := .object "DrawingMachineModel$TextureUnitsModel") (C := R_Mod) (T := F_Mod) (N := 19) hx hb htw i_Mod t_Mod t_Mod_ok n_Mod hown hC.1 hP hD hS 0 rfl rfl 4 (by decide) (htw _ k526) (fun _ h9 => h9) rfl hin rfl (by decide +kernel) rfl rfl (Nat.le_of_ble_eq_true rfl) d_Mod_init_40 (fun H locs hP hD hS => ?_)
  have hP : va_P D classes [(h0, .inr (12, [.int 0, .int 1, .int 1, .ref q562, .ref q571, .null, .null, .null, .null, .null, .int 0, .int 0, .int 0, .int 0, .long 0, .null, .null, .null, .null])), (q562, .inr (13, [.int 0, .ref z565, .int 1, .int 1, .ref z566, .int 0, .int 0, .int 0, .ref z567, .int 0, .int 0, .int (-1), .int (-1), .int 0, .int (-1), .int 0, .ref z568, .ref z569])), (z565, .inl (cI, 4096, .inl (fun _ => 0))), (z566, .inl (cI, 4096, .inl (fun _ => 0))), (z569, .inl (cI, 4160, .inl z570))] H := hP
  have hD : va_D A [(h0, .inr (12, [.int 0, .int 1, .int 1, .ref q562, .ref q571, .null, .null, .null, .null, .null, .int 0, .int 0, .int 0, .int 0, .long 0, .null, .null, .null, .null])), (q562, .inr (13, [.int 0, .ref z565, .int 1, .int 1, .ref z566, .int 0, .int 0, .int 0, .ref z567, .int 0, .int 0, .int (-1), .int (-1), .int 0, .int (-1), .int 0, .ref z568, .ref z569])), (z565, .inl (cI, 4096, .inl (fun _ => 0))), (z566, .inl (cI, 4096, .inl (fun _ => 0))), (z569, .inl (cI, 4160, .inl z570))] := hD
  refine lv_aload_n hx hb d_Mod_init_43 rfl (lv_at hl 0 rfl) ?_
  refine va_new (ci := 15) (fs := [.int 0, .null, .null, .null, .null, .int 0, .int 0, .int 0, .int 0, .null, .null, .null, .null, .null, .null, .int 0, .null, .null]) (C := R_Shm) (T := F_Shm) (N := 18) hx hb htw i_Shm t_Shm t_Shm_ok hown (htw _ k527) (htw _ k171) (htw _ k170) hC.1 hP hD hS hC.2.2.2.1 rfl (fun j hj => by rcases (show j = 0 ∨ j = 1 ∨ j = 2 ∨ j = 3 ∨ j = 4 ∨ j = 5 ∨ j = 6 ∨ j = 7 ∨ j = 8 ∨ j = 9 ∨ j = 10 ∨ j = 11 ∨ j = 12 ∨ j = 13 ∨ j = 14 ∨ j = 15 ∨ j = 16 ∨ j = 17 by omega) with rfl | rfl | rfl | rfl | rfl | rfl | rfl | rfl | rfl | rfl | rfl | rfl | rfl | rfl | rfl | rfl | rfl | rfl <;> rfl) (Nat.le_of_ble_eq_true rfl) (Nat.le_of_ble_eq_true rfl) d_Mod_init_44 (fun q574 H hP hD hS => ?_)
  have hP : va_P D classes [(h0, .inr (12, [.int 0, .int 1, .int 1, .ref q562, .ref q571, .null, .null, .null, .null, .null, .int 0, .int 0, .int 0, .int 0, .long 0, .null, .null, .null, .null])), (q562, .inr (13, [.int 0, .ref z565, .int 1, .int 1, .ref z566, .int 0, .int 0, .int 0, .ref z567, .int 0, .int 0, .int (-1), .int (-1), .int 0, .int (-1), .int 0, .ref z568, .ref z569])), (z565, .inl (cI, 4096, .inl (fun _ => 0))), (z566, .inl (cI, 4096, .inl (fun _ => 0))), (z569, .inl (cI, 4160, .inl z570)), (q574, .inr (15, [.int 0, .null, .null, .null, .null, .int 0, .int 0, .int 0, .int 0, .null, .null, .null, .null, .null, .null, .int 0, .null, .null]))] H := hP
  have hD : va_D A [(h0, .inr (12, [.int 0, .int 1, .int 1, .ref q562, .ref q571, .null, .null, .null, .null, .null, .int 0, .int 0, .int 0, .int 0, .long 0, .null, .null, .null, .null])), (q562, .inr (13, [.int 0, .ref z565, .int 1, .int 1, .ref z566, .int 0, .int 0, .int 0, .ref z567, .int 0, .int 0, .int (-1), .int (-1), .int 0, .int (-1), .int 0, .ref z568, .ref z569])), (z565, .inl (cI, 4096, .inl (fun _ => 0))), (z566, .inl (cI, 4096, .inl (fun _ => 0))), (z569, .inl (cI, 4160, .inl z570)), (q574, .inr (15, [.int 0, .null, .null, .null, .null, .int 0, .int 0, .int 0, .int 0, .null, .null, .null, .null, .null, .null, .int 0, .null, .null]))] := hD
  refine W.widen (k := 17) (n := 12779) (by omega) (by omega) ?_
  refine lv_dup hx hb d_Mod_init_47 rfl ?_
  refine lv_aload_n hx hb d_Mod_init_48 rfl (lv_at hl 0 rfl) ?_
  refine va_get (D := D) (ci := 12) (v := .ref q562) (C := R_Mod) (T := F_Mod) (N := 19) hx hb htw i_Mod hown hC.1 hP 0 rfl rfl 3 (by decide) (htw _ k521) (fun _ h9 => h9) rfl d_Mod_init_49 ?_
  refine va_getN (D := D) (ci := 13) (v := .ref z565) (C := R_Cmd) (T := F_Cmd) (N := 18) hx hb htw i_Cmd hown hC.1 hP 1 rfl rfl 1 (by decide) (va_Nw.use rfl (hC.2.1.1 _ kn7)) (fun _ h9 => h9) rfl d_Mod_init_52 ?_
  refine lv_aload_n hx hb d_Mod_init_55 rfl (lv_at hl 0 rfl) ?_
  refine va_get (D := D) (ci := 12) (v := .ref q571) (C := R_Mod) (T := F_Mod) (N := 19) hx hb htw i_Mod hown hC.1 hP 0 rfl rfl 4 (by decide) (htw _ k526) (fun _ h9 => h9) rfl d_Mod_init_56 ?_
  refine wc_v (wr := [(h0, .inr (12, [.int 0, .int 1, .int 1, .ref q562, .ref q571, .null, .null, .null, .null, .null, .int 0, .int 0, .int 0, .int 0, .long 0, .null, .null, .null, .null])), (q562, .inr (13, [.int 0, .ref z565, .int 1, .int 1, .ref z566, .int 0, .int 0, .int 0, .ref z567, .int 0, .int 0, .int (-1), .int (-1), .int 0, .int (-1), .int 0, .ref z568, .ref z569])), (z565, .inl (cI, 4096, .inl (fun _ => 0))), (z566, .inl (cI, 4096, .inl (fun _ => 0))), (z569, .inl (cI, 4160, .inl z570))]) hC hP hD hS [5] [0, 1, 2, 3, 4] rfl rfl (by decide) (by decide) (va_runI (As := [.ref z565, .ref q571]) (rest := [.ref q574, .ref h0]) ⟨hx, hb, hml, hown, htw⟩ (c_Shm_init l D cI cL B _ q574 z565 q571) (cwI 2 htw (tw_good (fun _ h => h) k530) rfl rfl rfl (htw _ k170) (htw _ k528) (htw _ k529) rfl (by decide +kernel) ⟨Nat.le_of_ble_eq_true rfl, Nat.le_of_ble_eq_true rfl⟩) (wC_pre hC hP hD hS [5] (by decide) rfl) rfl rfl hl.1 rfl (lv_room (Nat.le_of_ble_eq_true rfl)) d_Mod_init_59 ⟨Nat.le_of_ble_eq_true rfl, Nat.le_of_ble_eq_true rfl⟩) (fun u575 H locs hw576 hP hD hS => ?_)
  have hP : va_P D classes [(h0, .inr (12, [.int 0, .int 1, .int 1, .ref q562, .ref q571, .null, .null, .null, .null, .null, .int 0, .int 0, .int 0, .int 0, .long 0, .null, .null, .null, .null])), (q562, .inr (13, [.int 0, .ref z565, .int 1, .int 1, .ref z566, .int 0, .int 0, .int 0, .ref z567, .int 0, .int 0, .int (-1), .int (-1), .int 0, .int (-1), .int 0, .ref z568, .ref z569])), (z565, .inl (cI, 4096, .inl (fun _ => 0))), (z566, .inl (cI, 4096, .inl (fun _ => 0))), (z569, .inl (cI, 4160, .inl z570))] H := hP
  have hD : va_D A [(h0, .inr (12, [.int 0, .int 1, .int 1, .ref q562, .ref q571, .null, .null, .null, .null, .null, .int 0, .int 0, .int 0, .int 0, .long 0, .null, .null, .null, .null])), (q562, .inr (13, [.int 0, .ref z565, .int 1, .int 1, .ref z566, .int 0, .int 0, .int 0, .ref z567, .int 0, .int 0, .int (-1), .int (-1), .int 0, .int (-1), .int 0, .ref z568, .ref z569])), (z565, .inl (cI, 4096, .inl (fun _ => 0))), (z566, .inl (cI, 4096, .inl (fun _ => 0))), (z569, .inl (cI, 4160, .inl z570))] := hD
  refine W.widen (k := 27) (n := 15099) (by omega) (by omega) ?_
  refine va_putF (D := D) (ci := 12) (v := .ref q574) (ty := .object "DrawingMachineModel$ShaderMachineModel") (C := R_Mod) (T := F_Mod) (N := 19) hx hb htw i_Mod t_Mod t_Mod_ok n_Mod hown hC.1 hP hD hS 0 rfl rfl 5 (by decide) (htw _ k531) (fun _ h9 => h9) rfl hin rfl (by decide +kernel) rfl rfl (Nat.le_of_ble_eq_true rfl) d_Mod_init_62 (fun H locs hP hD hS => ?_)
  have hP : va_P D classes [(h0, .inr (12, [.int 0, .int 1, .int 1, .ref q562, .ref q571, .ref q574, .null, .null, .null, .null, .int 0, .int 0, .int 0, .int 0, .long 0, .null, .null, .null, .null])), (q562, .inr (13, [.int 0, .ref z565, .int 1, .int 1, .ref z566, .int 0, .int 0, .int 0, .ref z567, .int 0, .int 0, .int (-1), .int (-1), .int 0, .int (-1), .int 0, .ref z568, .ref z569])), (z565, .inl (cI, 4096, .inl (fun _ => 0))), (z566, .inl (cI, 4096, .inl (fun _ => 0))), (z569, .inl (cI, 4160, .inl z570))] H := hP
  have hD : va_D A [(h0, .inr (12, [.int 0, .int 1, .int 1, .ref q562, .ref q571, .ref q574, .null, .null, .null, .null, .int 0, .int 0, .int 0, .int 0, .long 0, .null, .null, .null, .null])), (q562, .inr (13, [.int 0, .ref z565, .int 1, .int 1, .ref z566, .int 0, .int 0, .int 0, .ref z567, .int 0, .int 0, .int (-1), .int (-1), .int 0, .int (-1), .int 0, .ref z568, .ref z569])), (z565, .inl (cI, 4096, .inl (fun _ => 0))), (z566, .inl (cI, 4096, .inl (fun _ => 0))), (z569, .inl (cI, 4160, .inl z570))] := hD
  refine lv_aload_n hx hb d_Mod_init_65 rfl (lv_at hl 0 rfl) ?_
  refine va_new (ci := 15) (fs := [.int 0, .null, .null, .null, .null, .int 0, .int 0, .int 0, .int 0, .null, .null, .null, .null, .null, .null, .int 0, .null, .null]) (C := R_Shm) (T := F_Shm) (N := 18) hx hb htw i_Shm t_Shm t_Shm_ok hown (htw _ k527) (htw _ k171) (htw _ k170) hC.1 hP hD hS hC.2.2.2.1 rfl (fun j hj => by rcases (show j = 0 ∨ j = 1 ∨ j = 2 ∨ j = 3 ∨ j = 4 ∨ j = 5 ∨ j = 6 ∨ j = 7 ∨ j = 8 ∨ j = 9 ∨ j = 10 ∨ j = 11 ∨ j = 12 ∨ j = 13 ∨ j = 14 ∨ j = 15 ∨ j = 16 ∨ j = 17 by omega) with rfl | rfl | rfl | rfl | rfl | rfl | rfl | rfl | rfl | rfl | rfl | rfl | rfl | rfl | rfl | rfl | rfl | rfl <;> rfl) (Nat.le_of_ble_eq_true rfl) (Nat.le_of_ble_eq_true rfl) d_Mod_init_66 (fun q577 H hP hD hS => ?_)
  have hP : va_P D classes [(h0, .inr (12, [.int 0, .int 1, .int 1, .ref q562, .ref q571, .ref q574, .null, .null, .null, .null, .int 0, .int 0, .int 0, .int 0, .long 0, .null, .null, .null, .null])), (q562, .inr (13, [.int 0, .ref z565, .int 1, .int 1, .ref z566, .int 0, .int 0, .int 0, .ref z567, .int 0, .int 0, .int (-1), .int (-1), .int 0, .int (-1), .int 0, .ref z568, .ref z569])), (z565, .inl (cI, 4096, .inl (fun _ => 0))), (z566, .inl (cI, 4096, .inl (fun _ => 0))), (z569, .inl (cI, 4160, .inl z570)), (q577, .inr (15, [.int 0, .null, .null, .null, .null, .int 0, .int 0, .int 0, .int 0, .null, .null, .null, .null, .null, .null, .int 0, .null, .null]))] H := hP
  have hD : va_D A [(h0, .inr (12, [.int 0, .int 1, .int 1, .ref q562, .ref q571, .ref q574, .null, .null, .null, .null, .int 0, .int 0, .int 0, .int 0, .long 0, .null, .null, .null, .null])), (q562, .inr (13, [.int 0, .ref z565, .int 1, .int 1, .ref z566, .int 0, .int 0, .int 0, .ref z567, .int 0, .int 0, .int (-1), .int (-1), .int 0, .int (-1), .int 0, .ref z568, .ref z569])), (z565, .inl (cI, 4096, .inl (fun _ => 0))), (z566, .inl (cI, 4096, .inl (fun _ => 0))), (z569, .inl (cI, 4160, .inl z570)), (q577, .inr (15, [.int 0, .null, .null, .null, .null, .int 0, .int 0, .int 0, .int 0, .null, .null, .null, .null, .null, .null, .int 0, .null, .null]))] := hD
  refine W.widen (k := 28) (n := 15117) (by omega) (by omega) ?_
  refine lv_dup hx hb d_Mod_init_69 rfl ?_
  refine lv_aload_n hx hb d_Mod_init_70 rfl (lv_at hl 0 rfl) ?_
  refine va_get (D := D) (ci := 12) (v := .ref q562) (C := R_Mod) (T := F_Mod) (N := 19) hx hb htw i_Mod hown hC.1 hP 0 rfl rfl 3 (by decide) (htw _ k521) (fun _ h9 => h9) rfl d_Mod_init_71 ?_
  refine va_getN (D := D) (ci := 13) (v := .ref z565) (C := R_Cmd) (T := F_Cmd) (N := 18) hx hb htw i_Cmd hown hC.1 hP 1 rfl rfl 1 (by decide) (va_Nw.use rfl (hC.2.1.1 _ kn7)) (fun _ h9 => h9) rfl d_Mod_init_74 ?_
  refine lv_aload_n hx hb d_Mod_init_77 rfl (lv_at hl 0 rfl) ?_
  refine va_get (D := D) (ci := 12) (v := .ref q571) (C := R_Mod) (T := F_Mod) (N := 19) hx hb htw i_Mod hown hC.1 hP 0 rfl rfl 4 (by decide) (htw _ k526) (fun _ h9 => h9) rfl d_Mod_init_78 ?_
  refine wc_v (wr := [(h0, .inr (12, [.int 0, .int 1, .int 1, .ref q562, .ref q571, .ref q574, .null, .null, .null, .null, .int 0, .int 0, .int 0, .int 0, .long 0, .null, .null, .null, .null])), (q562, .inr (13, [.int 0, .ref z565, .int 1, .int 1, .ref z566, .int 0, .int 0, .int 0, .ref z567, .int 0, .int 0, .int (-1), .int (-1), .int 0, .int (-1), .int 0, .ref z568, .ref z569])), (z565, .inl (cI, 4096, .inl (fun _ => 0))), (z566, .inl (cI, 4096, .inl (fun _ => 0))), (z569, .inl (cI, 4160, .inl z570))]) hC hP hD hS [5] [0, 1, 2, 3, 4] rfl rfl (by decide) (by decide) (va_runI (As := [.ref z565, .ref q571]) (rest := [.ref q577, .ref h0]) ⟨hx, hb, hml, hown, htw⟩ (c_Shm_init l D cI cL B _ q577 z565 q571) (cwI 2 htw (tw_good (fun _ h => h) k530) rfl rfl rfl (htw _ k170) (htw _ k528) (htw _ k529) rfl (by decide +kernel) ⟨Nat.le_of_ble_eq_true rfl, Nat.le_of_ble_eq_true rfl⟩) (wC_pre hC hP hD hS [5] (by decide) rfl) rfl rfl hl.1 rfl (lv_room (Nat.le_of_ble_eq_true rfl)) d_Mod_init_81 ⟨Nat.le_of_ble_eq_true rfl, Nat.le_of_ble_eq_true rfl⟩) (fun u578 H locs hw579 hP hD hS => ?_)
  have hP : va_P D classes [(h0, .inr (12, [.int 0, .int 1, .int 1, .ref q562, .ref q571, .ref q574, .null, .null, .null, .null, .int 0, .int 0, .int 0, .int 0, .long 0, .null, .null, .null, .null])), (q562, .inr (13, [.int 0, .ref z565, .int 1, .int 1, .ref z566, .int 0, .int 0, .int 0, .ref z567, .int 0, .int 0, .int (-1), .int (-1), .int 0, .int (-1), .int 0, .ref z568, .ref z569])), (z565, .inl (cI, 4096, .inl (fun _ => 0))), (z566, .inl (cI, 4096, .inl (fun _ => 0))), (z569, .inl (cI, 4160, .inl z570))] H := hP
  have hD : va_D A [(h0, .inr (12, [.int 0, .int 1, .int 1, .ref q562, .ref q571, .ref q574, .null, .null, .null, .null, .int 0, .int 0, .int 0, .int 0, .long 0, .null, .null, .null, .null])), (q562, .inr (13, [.int 0, .ref z565, .int 1, .int 1, .ref z566, .int 0, .int 0, .int 0, .ref z567, .int 0, .int 0, .int (-1), .int (-1), .int 0, .int (-1), .int 0, .ref z568, .ref z569])), (z565, .inl (cI, 4096, .inl (fun _ => 0))), (z566, .inl (cI, 4096, .inl (fun _ => 0))), (z569, .inl (cI, 4160, .inl z570))] := hD
  refine W.widen (k := 38) (n := 17437) (by omega) (by omega) ?_
  refine va_putF (D := D) (ci := 12) (v := .ref q577) (ty := .object "DrawingMachineModel$ShaderMachineModel") (C := R_Mod) (T := F_Mod) (N := 19) hx hb htw i_Mod t_Mod t_Mod_ok n_Mod hown hC.1 hP hD hS 0 rfl rfl 6 (by decide) (htw _ k532) (fun _ h9 => h9) rfl hin rfl (by decide +kernel) rfl rfl (Nat.le_of_ble_eq_true rfl) d_Mod_init_84 (fun H locs hP hD hS => ?_)
  have hP : va_P D classes [(h0, .inr (12, [.int 0, .int 1, .int 1, .ref q562, .ref q571, .ref q574, .ref q577, .null, .null, .null, .int 0, .int 0, .int 0, .int 0, .long 0, .null, .null, .null, .null])), (q562, .inr (13, [.int 0, .ref z565, .int 1, .int 1, .ref z566, .int 0, .int 0, .int 0, .ref z567, .int 0, .int 0, .int (-1), .int (-1), .int 0, .int (-1), .int 0, .ref z568, .ref z569])), (z565, .inl (cI, 4096, .inl (fun _ => 0))), (z566, .inl (cI, 4096, .inl (fun _ => 0))), (z569, .inl (cI, 4160, .inl z570))] H := hP
  have hD : va_D A [(h0, .inr (12, [.int 0, .int 1, .int 1, .ref q562, .ref q571, .ref q574, .ref q577, .null, .null, .null, .int 0, .int 0, .int 0, .int 0, .long 0, .null, .null, .null, .null])), (q562, .inr (13, [.int 0, .ref z565, .int 1, .int 1, .ref z566, .int 0, .int 0, .int 0, .ref z567, .int 0, .int 0, .int (-1), .int (-1), .int 0, .int (-1), .int 0, .ref z568, .ref z569])), (z565, .inl (cI, 4096, .inl (fun _ => 0))), (z566, .inl (cI, 4096, .inl (fun _ => 0))), (z569, .inl (cI, 4160, .inl z570))] := hD
  refine lv_aload_n hx hb d_Mod_init_87 rfl (lv_at hl 0 rfl) ?_
  refine va_new (ci := 16) (fs := [.int 0, .null, .null, .null, .null, .int 0, .int 0, .int 0, .null, .int 0, .null, .int 0, .null]) (C := R_Vwm) (T := F_Vwm) (N := 13) hx hb htw i_Vwm t_Vwm t_Vwm_ok hown (htw _ k533) (htw _ k191) (htw _ k190) hC.1 hP hD hS hC.2.2.2.1 rfl (fun j hj => by rcases (show j = 0 ∨ j = 1 ∨ j = 2 ∨ j = 3 ∨ j = 4 ∨ j = 5 ∨ j = 6 ∨ j = 7 ∨ j = 8 ∨ j = 9 ∨ j = 10 ∨ j = 11 ∨ j = 12 by omega) with rfl | rfl | rfl | rfl | rfl | rfl | rfl | rfl | rfl | rfl | rfl | rfl | rfl <;> rfl) (Nat.le_of_ble_eq_true rfl) (Nat.le_of_ble_eq_true rfl) d_Mod_init_88 (fun q580 H hP hD hS => ?_)
  have hP : va_P D classes [(h0, .inr (12, [.int 0, .int 1, .int 1, .ref q562, .ref q571, .ref q574, .ref q577, .null, .null, .null, .int 0, .int 0, .int 0, .int 0, .long 0, .null, .null, .null, .null])), (q562, .inr (13, [.int 0, .ref z565, .int 1, .int 1, .ref z566, .int 0, .int 0, .int 0, .ref z567, .int 0, .int 0, .int (-1), .int (-1), .int 0, .int (-1), .int 0, .ref z568, .ref z569])), (z565, .inl (cI, 4096, .inl (fun _ => 0))), (z566, .inl (cI, 4096, .inl (fun _ => 0))), (z569, .inl (cI, 4160, .inl z570)), (q580, .inr (16, [.int 0, .null, .null, .null, .null, .int 0, .int 0, .int 0, .null, .int 0, .null, .int 0, .null]))] H := hP
  have hD : va_D A [(h0, .inr (12, [.int 0, .int 1, .int 1, .ref q562, .ref q571, .ref q574, .ref q577, .null, .null, .null, .int 0, .int 0, .int 0, .int 0, .long 0, .null, .null, .null, .null])), (q562, .inr (13, [.int 0, .ref z565, .int 1, .int 1, .ref z566, .int 0, .int 0, .int 0, .ref z567, .int 0, .int 0, .int (-1), .int (-1), .int 0, .int (-1), .int 0, .ref z568, .ref z569])), (z565, .inl (cI, 4096, .inl (fun _ => 0))), (z566, .inl (cI, 4096, .inl (fun _ => 0))), (z569, .inl (cI, 4160, .inl z570)), (q580, .inr (16, [.int 0, .null, .null, .null, .null, .int 0, .int 0, .int 0, .null, .int 0, .null, .int 0, .null]))] := hD
  refine W.widen (k := 39) (n := 17450) (by omega) (by omega) ?_
  refine lv_dup hx hb d_Mod_init_91 rfl ?_
  refine lv_aload_n hx hb d_Mod_init_92 rfl (lv_at hl 0 rfl) ?_
  refine va_get (D := D) (ci := 12) (v := .ref q562) (C := R_Mod) (T := F_Mod) (N := 19) hx hb htw i_Mod hown hC.1 hP 0 rfl rfl 3 (by decide) (htw _ k521) (fun _ h9 => h9) rfl d_Mod_init_93 ?_
  refine va_getN (D := D) (ci := 13) (v := .ref z565) (C := R_Cmd) (T := F_Cmd) (N := 18) hx hb htw i_Cmd hown hC.1 hP 1 rfl rfl 1 (by decide) (va_Nw.use rfl (hC.2.1.1 _ kn7)) (fun _ h9 => h9) rfl d_Mod_init_96 ?_
  refine wc_v (wr := [(h0, .inr (12, [.int 0, .int 1, .int 1, .ref q562, .ref q571, .ref q574, .ref q577, .null, .null, .null, .int 0, .int 0, .int 0, .int 0, .long 0, .null, .null, .null, .null])), (q562, .inr (13, [.int 0, .ref z565, .int 1, .int 1, .ref z566, .int 0, .int 0, .int 0, .ref z567, .int 0, .int 0, .int (-1), .int (-1), .int 0, .int (-1), .int 0, .ref z568, .ref z569])), (z565, .inl (cI, 4096, .inl (fun _ => 0))), (z566, .inl (cI, 4096, .inl (fun _ => 0))), (z569, .inl (cI, 4160, .inl z570))]) hC hP hD hS [5] [0, 1, 2, 3, 4] rfl rfl (by decide) (by decide) (va_runI (As := [.ref z565]) (rest := [.ref q580, .ref h0]) ⟨hx, hb, hml, hown, htw⟩ (c_Vwm_init l D cI cL B _ q580 z565) (cwI 1 htw (tw_good (fun _ h => h) k536) rfl rfl rfl (htw _ k190) (htw _ k534) (htw _ k535) rfl (by decide +kernel) ⟨Nat.le_of_ble_eq_true rfl, Nat.le_of_ble_eq_true rfl⟩) (wC_pre hC hP hD hS [5] (by decide) rfl) rfl rfl hl.1 rfl (lv_room (Nat.le_of_ble_eq_true rfl)) d_Mod_init_99 ⟨Nat.le_of_ble_eq_true rfl, Nat.le_of_ble_eq_true rfl⟩) (fun u581 H locs hw582 hP hD hS => ?_)
  have hP : va_P D classes [(h0, .inr (12, [.int 0, .int 1, .int 1, .ref q562, .ref q571, .ref q574, .ref q577, .null, .null, .null, .int 0, .int 0, .int 0, .int 0, .long 0, .null, .null, .null, .null])), (q562, .inr (13, [.int 0, .ref z565, .int 1, .int 1, .ref z566, .int 0, .int 0, .int 0, .ref z567, .int 0, .int 0, .int (-1), .int (-1), .int 0, .int (-1), .int 0, .ref z568, .ref z569])), (z565, .inl (cI, 4096, .inl (fun _ => 0))), (z566, .inl (cI, 4096, .inl (fun _ => 0))), (z569, .inl (cI, 4160, .inl z570))] H := hP
  have hD : va_D A [(h0, .inr (12, [.int 0, .int 1, .int 1, .ref q562, .ref q571, .ref q574, .ref q577, .null, .null, .null, .int 0, .int 0, .int 0, .int 0, .long 0, .null, .null, .null, .null])), (q562, .inr (13, [.int 0, .ref z565, .int 1, .int 1, .ref z566, .int 0, .int 0, .int 0, .ref z567, .int 0, .int 0, .int (-1), .int (-1), .int 0, .int (-1), .int 0, .ref z568, .ref z569])), (z565, .inl (cI, 4096, .inl (fun _ => 0))), (z566, .inl (cI, 4096, .inl (fun _ => 0))), (z569, .inl (cI, 4160, .inl z570))] := hD
  refine W.widen (k := 45) (n := 18128) (by omega) (by omega) ?_
  refine va_putF (D := D) (ci := 12) (v := .ref q580) (ty := .object "DrawingMachineModel$VertexWorkModel") (C := R_Mod) (T := F_Mod) (N := 19) hx hb htw i_Mod t_Mod t_Mod_ok n_Mod hown hC.1 hP hD hS 0 rfl rfl 7 (by decide) (htw _ k537) (fun _ h9 => h9) rfl hin rfl (by decide +kernel) rfl rfl (Nat.le_of_ble_eq_true rfl) d_Mod_init_102 (fun H locs hP hD hS => ?_)
  have hP : va_P D classes [(h0, .inr (12, [.int 0, .int 1, .int 1, .ref q562, .ref q571, .ref q574, .ref q577, .ref q580, .null, .null, .int 0, .int 0, .int 0, .int 0, .long 0, .null, .null, .null, .null])), (q562, .inr (13, [.int 0, .ref z565, .int 1, .int 1, .ref z566, .int 0, .int 0, .int 0, .ref z567, .int 0, .int 0, .int (-1), .int (-1), .int 0, .int (-1), .int 0, .ref z568, .ref z569])), (z565, .inl (cI, 4096, .inl (fun _ => 0))), (z566, .inl (cI, 4096, .inl (fun _ => 0))), (z569, .inl (cI, 4160, .inl z570))] H := hP
  have hD : va_D A [(h0, .inr (12, [.int 0, .int 1, .int 1, .ref q562, .ref q571, .ref q574, .ref q577, .ref q580, .null, .null, .int 0, .int 0, .int 0, .int 0, .long 0, .null, .null, .null, .null])), (q562, .inr (13, [.int 0, .ref z565, .int 1, .int 1, .ref z566, .int 0, .int 0, .int 0, .ref z567, .int 0, .int 0, .int (-1), .int (-1), .int 0, .int (-1), .int 0, .ref z568, .ref z569])), (z565, .inl (cI, 4096, .inl (fun _ => 0))), (z566, .inl (cI, 4096, .inl (fun _ => 0))), (z569, .inl (cI, 4160, .inl z570))] := hD
  refine lv_aload_n hx hb d_Mod_init_105 rfl (lv_at hl 0 rfl) ?_
  refine va_new (ci := 17) (fs := [.int 0, .null, .null, .null, .null, .null]) (C := R_Erm) (T := F_Erm) (N := 6) hx hb htw i_Erm t_Erm t_Erm_ok hown (htw _ k538) (htw _ k206) (htw _ k205) hC.1 hP hD hS hC.2.2.2.1 rfl (fun j hj => by rcases (show j = 0 ∨ j = 1 ∨ j = 2 ∨ j = 3 ∨ j = 4 ∨ j = 5 by omega) with rfl | rfl | rfl | rfl | rfl | rfl <;> rfl) (Nat.le_of_ble_eq_true rfl) (Nat.le_of_ble_eq_true rfl) d_Mod_init_106 (fun q583 H hP hD hS => ?_)
  have hP : va_P D classes [(h0, .inr (12, [.int 0, .int 1, .int 1, .ref q562, .ref q571, .ref q574, .ref q577, .ref q580, .null, .null, .int 0, .int 0, .int 0, .int 0, .long 0, .null, .null, .null, .null])), (q562, .inr (13, [.int 0, .ref z565, .int 1, .int 1, .ref z566, .int 0, .int 0, .int 0, .ref z567, .int 0, .int 0, .int (-1), .int (-1), .int 0, .int (-1), .int 0, .ref z568, .ref z569])), (z565, .inl (cI, 4096, .inl (fun _ => 0))), (z566, .inl (cI, 4096, .inl (fun _ => 0))), (z569, .inl (cI, 4160, .inl z570)), (q583, .inr (17, [.int 0, .null, .null, .null, .null, .null]))] H := hP
  have hD : va_D A [(h0, .inr (12, [.int 0, .int 1, .int 1, .ref q562, .ref q571, .ref q574, .ref q577, .ref q580, .null, .null, .int 0, .int 0, .int 0, .int 0, .long 0, .null, .null, .null, .null])), (q562, .inr (13, [.int 0, .ref z565, .int 1, .int 1, .ref z566, .int 0, .int 0, .int 0, .ref z567, .int 0, .int 0, .int (-1), .int (-1), .int 0, .int (-1), .int 0, .ref z568, .ref z569])), (z565, .inl (cI, 4096, .inl (fun _ => 0))), (z566, .inl (cI, 4096, .inl (fun _ => 0))), (z569, .inl (cI, 4160, .inl z570)), (q583, .inr (17, [.int 0, .null, .null, .null, .null, .null]))] := hD
  refine W.widen (k := 46) (n := 18134) (by omega) (by omega) ?_
  refine lv_dup hx hb d_Mod_init_109 rfl ?_
  refine wc_v (wr := [(h0, .inr (12, [.int 0, .int 1, .int 1, .ref q562, .ref q571, .ref q574, .ref q577, .ref q580, .null, .null, .int 0, .int 0, .int 0, .int 0, .long 0, .null, .null, .null, .null])), (q562, .inr (13, [.int 0, .ref z565, .int 1, .int 1, .ref z566, .int 0, .int 0, .int 0, .ref z567, .int 0, .int 0, .int (-1), .int (-1), .int 0, .int (-1), .int 0, .ref z568, .ref z569])), (z565, .inl (cI, 4096, .inl (fun _ => 0))), (z566, .inl (cI, 4096, .inl (fun _ => 0))), (z569, .inl (cI, 4160, .inl z570))]) hC hP hD hS [5] [0, 1, 2, 3, 4] rfl rfl (by decide) (by decide) (va_runI (As := []) (rest := [.ref q583, .ref h0]) ⟨hx, hb, hml, hown, htw⟩ (c_Erm_init l D cI cL B _ q583) (cwI 0 htw (tw_good (fun _ h => h) k541) rfl rfl rfl (htw _ k205) (htw _ k539) (htw _ k540) rfl (by decide +kernel) ⟨Nat.le_of_ble_eq_true rfl, Nat.le_of_ble_eq_true rfl⟩) (wC_pre hC hP hD hS [5] (by decide) rfl) rfl rfl hl.1 rfl (lv_room (Nat.le_of_ble_eq_true rfl)) d_Mod_init_110 ⟨Nat.le_of_ble_eq_true rfl, Nat.le_of_ble_eq_true rfl⟩) (fun u584 H locs hw585 hP hD hS => ?_)
  have hP : va_P D classes [(h0, .inr (12, [.int 0, .int 1, .int 1, .ref q562, .ref q571, .ref q574, .ref q577, .ref q580, .null, .null, .int 0, .int 0, .int 0, .int 0, .long 0, .null, .null, .null, .null])), (q562, .inr (13, [.int 0, .ref z565, .int 1, .int 1, .ref z566, .int 0, .int 0, .int 0, .ref z567, .int 0, .int 0, .int (-1), .int (-1), .int 0, .int (-1), .int 0, .ref z568, .ref z569])), (z565, .inl (cI, 4096, .inl (fun _ => 0))), (z566, .inl (cI, 4096, .inl (fun _ => 0))), (z569, .inl (cI, 4160, .inl z570))] H := hP
  have hD : va_D A [(h0, .inr (12, [.int 0, .int 1, .int 1, .ref q562, .ref q571, .ref q574, .ref q577, .ref q580, .null, .null, .int 0, .int 0, .int 0, .int 0, .long 0, .null, .null, .null, .null])), (q562, .inr (13, [.int 0, .ref z565, .int 1, .int 1, .ref z566, .int 0, .int 0, .int 0, .ref z567, .int 0, .int 0, .int (-1), .int (-1), .int 0, .int (-1), .int 0, .ref z568, .ref z569])), (z565, .inl (cI, 4096, .inl (fun _ => 0))), (z566, .inl (cI, 4096, .inl (fun _ => 0))), (z569, .inl (cI, 4160, .inl z570))] := hD
  refine W.widen (k := 51) (n := 18230) (by omega) (by omega) ?_
  refine va_putF (D := D) (ci := 12) (v := .ref q583) (ty := .object "DrawingMachineModel$EdgeRasterModel") (C := R_Mod) (T := F_Mod) (N := 19) hx hb htw i_Mod t_Mod t_Mod_ok n_Mod hown hC.1 hP hD hS 0 rfl rfl 8 (by decide) (htw _ k542) (fun _ h9 => h9) rfl hin rfl (by decide +kernel) rfl rfl (Nat.le_of_ble_eq_true rfl) d_Mod_init_113 (fun H locs hP hD hS => ?_)
  have hP : va_P D classes [(h0, .inr (12, [.int 0, .int 1, .int 1, .ref q562, .ref q571, .ref q574, .ref q577, .ref q580, .ref q583, .null, .int 0, .int 0, .int 0, .int 0, .long 0, .null, .null, .null, .null])), (q562, .inr (13, [.int 0, .ref z565, .int 1, .int 1, .ref z566, .int 0, .int 0, .int 0, .ref z567, .int 0, .int 0, .int (-1), .int (-1), .int 0, .int (-1), .int 0, .ref z568, .ref z569])), (z565, .inl (cI, 4096, .inl (fun _ => 0))), (z566, .inl (cI, 4096, .inl (fun _ => 0))), (z569, .inl (cI, 4160, .inl z570))] H := hP
  have hD : va_D A [(h0, .inr (12, [.int 0, .int 1, .int 1, .ref q562, .ref q571, .ref q574, .ref q577, .ref q580, .ref q583, .null, .int 0, .int 0, .int 0, .int 0, .long 0, .null, .null, .null, .null])), (q562, .inr (13, [.int 0, .ref z565, .int 1, .int 1, .ref z566, .int 0, .int 0, .int 0, .ref z567, .int 0, .int 0, .int (-1), .int (-1), .int 0, .int (-1), .int 0, .ref z568, .ref z569])), (z565, .inl (cI, 4096, .inl (fun _ => 0))), (z566, .inl (cI, 4096, .inl (fun _ => 0))), (z569, .inl (cI, 4160, .inl z570))] := hD
  refine lv_aload_n hx hb d_Mod_init_116 rfl (lv_at hl 0 rfl) ?_
  refine va_new (ci := 18) (fs := [.int 0, .int 0, .int 0, .int 0, .int 0, .null, .null, .null, .int 0, .null, .int 0, .int 0, .null, .null, .int 0, .int 0, .null, .int 0, .int 0, .null, .null, .null]) (C := R_Ptm) (T := F_Ptm) (N := 22) hx hb htw i_Ptm t_Ptm t_Ptm_ok hown (htw _ k543) (htw _ k214) (htw _ k213) hC.1 hP hD hS hC.2.2.2.1 rfl (fun j hj => by rcases (show j = 0 ∨ j = 1 ∨ j = 2 ∨ j = 3 ∨ j = 4 ∨ j = 5 ∨ j = 6 ∨ j = 7 ∨ j = 8 ∨ j = 9 ∨ j = 10 ∨ j = 11 ∨ j = 12 ∨ j = 13 ∨ j = 14 ∨ j = 15 ∨ j = 16 ∨ j = 17 ∨ j = 18 ∨ j = 19 ∨ j = 20 ∨ j = 21 by omega) with rfl | rfl | rfl | rfl | rfl | rfl | rfl | rfl | rfl | rfl | rfl | rfl | rfl | rfl | rfl | rfl | rfl | rfl | rfl | rfl | rfl | rfl <;> rfl) (Nat.le_of_ble_eq_true rfl) (Nat.le_of_ble_eq_true rfl) d_Mod_init_117 (fun q586 H hP hD hS => ?_)
  have hP : va_P D classes [(h0, .inr (12, [.int 0, .int 1, .int 1, .ref q562, .ref q571, .ref q574, .ref q577, .ref q580, .ref q583, .null, .int 0, .int 0, .int 0, .int 0, .long 0, .null, .null, .null, .null])), (q562, .inr (13, [.int 0, .ref z565, .int 1, .int 1, .ref z566, .int 0, .int 0, .int 0, .ref z567, .int 0, .int 0, .int (-1), .int (-1), .int 0, .int (-1), .int 0, .ref z568, .ref z569])), (z565, .inl (cI, 4096, .inl (fun _ => 0))), (z566, .inl (cI, 4096, .inl (fun _ => 0))), (z569, .inl (cI, 4160, .inl z570)), (q586, .inr (18, [.int 0, .int 0, .int 0, .int 0, .int 0, .null, .null, .null, .int 0, .null, .int 0, .int 0, .null, .null, .int 0, .int 0, .null, .int 0, .int 0, .null, .null, .null]))] H := hP
  have hD : va_D A [(h0, .inr (12, [.int 0, .int 1, .int 1, .ref q562, .ref q571, .ref q574, .ref q577, .ref q580, .ref q583, .null, .int 0, .int 0, .int 0, .int 0, .long 0, .null, .null, .null, .null])), (q562, .inr (13, [.int 0, .ref z565, .int 1, .int 1, .ref z566, .int 0, .int 0, .int 0, .ref z567, .int 0, .int 0, .int (-1), .int (-1), .int 0, .int (-1), .int 0, .ref z568, .ref z569])), (z565, .inl (cI, 4096, .inl (fun _ => 0))), (z566, .inl (cI, 4096, .inl (fun _ => 0))), (z569, .inl (cI, 4160, .inl z570)), (q586, .inr (18, [.int 0, .int 0, .int 0, .int 0, .int 0, .null, .null, .null, .int 0, .null, .int 0, .int 0, .null, .null, .int 0, .int 0, .null, .int 0, .int 0, .null, .null, .null]))] := hD
  refine W.widen (k := 52) (n := 18252) (by omega) (by omega) ?_
  refine lv_dup hx hb d_Mod_init_120 rfl ?_
  refine wc_v (wr := [(h0, .inr (12, [.int 0, .int 1, .int 1, .ref q562, .ref q571, .ref q574, .ref q577, .ref q580, .ref q583, .null, .int 0, .int 0, .int 0, .int 0, .long 0, .null, .null, .null, .null])), (q562, .inr (13, [.int 0, .ref z565, .int 1, .int 1, .ref z566, .int 0, .int 0, .int 0, .ref z567, .int 0, .int 0, .int (-1), .int (-1), .int 0, .int (-1), .int 0, .ref z568, .ref z569])), (z565, .inl (cI, 4096, .inl (fun _ => 0))), (z566, .inl (cI, 4096, .inl (fun _ => 0))), (z569, .inl (cI, 4160, .inl z570))]) hC hP hD hS [5] [0, 1, 2, 3, 4] rfl rfl (by decide) (by decide) (va_runI (As := []) (rest := [.ref q586, .ref h0]) ⟨hx, hb, hml, hown, htw⟩ (c_Ptm_init l D cI cL B _ q586) (cwI 0 htw (tw_good (fun _ h => h) k546) rfl rfl rfl (htw _ k213) (htw _ k544) (htw _ k545) rfl (by decide +kernel) ⟨Nat.le_of_ble_eq_true rfl, Nat.le_of_ble_eq_true rfl⟩) (wC_pre hC hP hD hS [5] (by decide) rfl) rfl rfl hl.1 rfl (lv_room (Nat.le_of_ble_eq_true rfl)) d_Mod_init_121 ⟨Nat.le_of_ble_eq_true rfl, Nat.le_of_ble_eq_true rfl⟩) (fun u587 H locs hw588 hP hD hS => ?_)
  obtain ⟨z589, z590, z591, z592, z593, z594, z595, z596, z597, z598⟩ := u587
  have hP : va_P D classes [(h0, .inr (12, [.int 0, .int 1, .int 1, .ref q562, .ref q571, .ref q574, .ref q577, .ref q580, .ref q583, .null, .int 0, .int 0, .int 0, .int 0, .long 0, .null, .null, .null, .null])), (q562, .inr (13, [.int 0, .ref z565, .int 1, .int 1, .ref z566, .int 0, .int 0, .int 0, .ref z567, .int 0, .int 0, .int (-1), .int (-1), .int 0, .int (-1), .int 0, .ref z568, .ref z569])), (z565, .inl (cI, 4096, .inl (fun _ => 0))), (z566, .inl (cI, 4096, .inl (fun _ => 0))), (z569, .inl (cI, 4160, .inl z570)), (q586, .inr (18, [.int 0, .int 0, .int 0, .int 1, .int 1, .ref z589, .ref z590, .ref z591, .int 0, .ref z592, .int (-1), .int 0, .ref z593, .ref z594, .int (-1), .int 0, .ref z595, .int (-1), .int 15, .ref z596, .ref z597, .ref z598])), (z589, .inl (cI, 65536, .inl (fun _ => 0))), (z590, .inl (cI, 16384, .inl (fun _ => 0))), (z591, .inl (cI, 16384, .inl (fun _ => 0)))] H := hP
  have hD : va_D A [(h0, .inr (12, [.int 0, .int 1, .int 1, .ref q562, .ref q571, .ref q574, .ref q577, .ref q580, .ref q583, .null, .int 0, .int 0, .int 0, .int 0, .long 0, .null, .null, .null, .null])), (q562, .inr (13, [.int 0, .ref z565, .int 1, .int 1, .ref z566, .int 0, .int 0, .int 0, .ref z567, .int 0, .int 0, .int (-1), .int (-1), .int 0, .int (-1), .int 0, .ref z568, .ref z569])), (z565, .inl (cI, 4096, .inl (fun _ => 0))), (z566, .inl (cI, 4096, .inl (fun _ => 0))), (z569, .inl (cI, 4160, .inl z570)), (q586, .inr (18, [.int 0, .int 0, .int 0, .int 1, .int 1, .ref z589, .ref z590, .ref z591, .int 0, .ref z592, .int (-1), .int 0, .ref z593, .ref z594, .int (-1), .int 0, .ref z595, .int (-1), .int 15, .ref z596, .ref z597, .ref z598])), (z589, .inl (cI, 65536, .inl (fun _ => 0))), (z590, .inl (cI, 16384, .inl (fun _ => 0))), (z591, .inl (cI, 16384, .inl (fun _ => 0)))] := hD
  refine W.widen (k := 62) (n := 116594) (by omega) (by omega) ?_
  refine va_putF (D := D) (ci := 12) (v := .ref q586) (ty := .object "DrawingMachineModel$PlaceTestsModel") (C := R_Mod) (T := F_Mod) (N := 19) hx hb htw i_Mod t_Mod t_Mod_ok n_Mod hown hC.1 hP hD hS 0 rfl rfl 9 (by decide) (htw _ k547) (fun _ h9 => h9) rfl hin rfl (by decide +kernel) rfl rfl (Nat.le_of_ble_eq_true rfl) d_Mod_init_124 (fun H locs hP hD hS => ?_)
  have hP : va_P D classes [(h0, .inr (12, [.int 0, .int 1, .int 1, .ref q562, .ref q571, .ref q574, .ref q577, .ref q580, .ref q583, .ref q586, .int 0, .int 0, .int 0, .int 0, .long 0, .null, .null, .null, .null])), (q562, .inr (13, [.int 0, .ref z565, .int 1, .int 1, .ref z566, .int 0, .int 0, .int 0, .ref z567, .int 0, .int 0, .int (-1), .int (-1), .int 0, .int (-1), .int 0, .ref z568, .ref z569])), (z565, .inl (cI, 4096, .inl (fun _ => 0))), (z566, .inl (cI, 4096, .inl (fun _ => 0))), (z569, .inl (cI, 4160, .inl z570)), (q586, .inr (18, [.int 0, .int 0, .int 0, .int 1, .int 1, .ref z589, .ref z590, .ref z591, .int 0, .ref z592, .int (-1), .int 0, .ref z593, .ref z594, .int (-1), .int 0, .ref z595, .int (-1), .int 15, .ref z596, .ref z597, .ref z598])), (z589, .inl (cI, 65536, .inl (fun _ => 0))), (z590, .inl (cI, 16384, .inl (fun _ => 0))), (z591, .inl (cI, 16384, .inl (fun _ => 0)))] H := hP
  have hD : va_D A [(h0, .inr (12, [.int 0, .int 1, .int 1, .ref q562, .ref q571, .ref q574, .ref q577, .ref q580, .ref q583, .ref q586, .int 0, .int 0, .int 0, .int 0, .long 0, .null, .null, .null, .null])), (q562, .inr (13, [.int 0, .ref z565, .int 1, .int 1, .ref z566, .int 0, .int 0, .int 0, .ref z567, .int 0, .int 0, .int (-1), .int (-1), .int 0, .int (-1), .int 0, .ref z568, .ref z569])), (z565, .inl (cI, 4096, .inl (fun _ => 0))), (z566, .inl (cI, 4096, .inl (fun _ => 0))), (z569, .inl (cI, 4160, .inl z570)), (q586, .inr (18, [.int 0, .int 0, .int 0, .int 1, .int 1, .ref z589, .ref z590, .ref z591, .int 0, .ref z592, .int (-1), .int 0, .ref z593, .ref z594, .int (-1), .int 0, .ref z595, .int (-1), .int 15, .ref z596, .ref z597, .ref z598])), (z589, .inl (cI, 65536, .inl (fun _ => 0))), (z590, .inl (cI, 16384, .inl (fun _ => 0))), (z591, .inl (cI, 16384, .inl (fun _ => 0)))] := hD
  refine lv_aload_n hx hb d_Mod_init_127 rfl (lv_at hl 0 rfl) ?_
  refine lv_iconst (v := (-1)) hx hb d_Mod_init_128 (by decide) ?_
  refine va_put (D := D) (ci := 12) (v := .int (-1)) (ty := .int) (C := R_Mod) (T := F_Mod) (N := 19) hx hb htw i_Mod t_Mod t_Mod_ok n_Mod hown hC.1 hP hD hS 0 rfl rfl 11 (by decide) (htw _ k548) (fun _ h9 => h9) rfl (by decide +kernel) rfl rfl (Nat.le_of_ble_eq_true rfl) d_Mod_init_129 (fun H locs hP hD hS => ?_)
  have hP : va_P D classes [(h0, .inr (12, [.int 0, .int 1, .int 1, .ref q562, .ref q571, .ref q574, .ref q577, .ref q580, .ref q583, .ref q586, .int 0, .int (-1), .int 0, .int 0, .long 0, .null, .null, .null, .null])), (q562, .inr (13, [.int 0, .ref z565, .int 1, .int 1, .ref z566, .int 0, .int 0, .int 0, .ref z567, .int 0, .int 0, .int (-1), .int (-1), .int 0, .int (-1), .int 0, .ref z568, .ref z569])), (z565, .inl (cI, 4096, .inl (fun _ => 0))), (z566, .inl (cI, 4096, .inl (fun _ => 0))), (z569, .inl (cI, 4160, .inl z570)), (q586, .inr (18, [.int 0, .int 0, .int 0, .int 1, .int 1, .ref z589, .ref z590, .ref z591, .int 0, .ref z592, .int (-1), .int 0, .ref z593, .ref z594, .int (-1), .int 0, .ref z595, .int (-1), .int 15, .ref z596, .ref z597, .ref z598])), (z589, .inl (cI, 65536, .inl (fun _ => 0))), (z590, .inl (cI, 16384, .inl (fun _ => 0))), (z591, .inl (cI, 16384, .inl (fun _ => 0)))] H := hP
  have hD : va_D A [(h0, .inr (12, [.int 0, .int 1, .int 1, .ref q562, .ref q571, .ref q574, .ref q577, .ref q580, .ref q583, .ref q586, .int 0, .int (-1), .int 0, .int 0, .long 0, .null, .null, .null, .null])), (q562, .inr (13, [.int 0, .ref z565, .int 1, .int 1, .ref z566, .int 0, .int 0, .int 0, .ref z567, .int 0, .int 0, .int (-1), .int (-1), .int 0, .int (-1), .int 0, .ref z568, .ref z569])), (z565, .inl (cI, 4096, .inl (fun _ => 0))), (z566, .inl (cI, 4096, .inl (fun _ => 0))), (z569, .inl (cI, 4160, .inl z570)), (q586, .inr (18, [.int 0, .int 0, .int 0, .int 1, .int 1, .ref z589, .ref z590, .ref z591, .int 0, .ref z592, .int (-1), .int 0, .ref z593, .ref z594, .int (-1), .int 0, .ref z595, .int (-1), .int 15, .ref z596, .ref z597, .ref z598])), (z589, .inl (cI, 65536, .inl (fun _ => 0))), (z590, .inl (cI, 16384, .inl (fun _ => 0))), (z591, .inl (cI, 16384, .inl (fun _ => 0)))] := hD
  refine lv_aload_n hx hb d_Mod_init_132 rfl (lv_at hl 0 rfl) ?_
  refine lv_bipush (v := 8) hx hb d_Mod_init_133 (by decide) ?_
  refine wna_i hx hb (htw _ k238) hC hP hD hS (N := 8) (by decide) (by omega) (Nat.le_of_ble_eq_true rfl) (Nat.le_of_ble_eq_true rfl) d_Mod_init_135 (fun q599 H hP hD hS => ?_)
  have hP : va_P D classes [(h0, .inr (12, [.int 0, .int 1, .int 1, .ref q562, .ref q571, .ref q574, .ref q577, .ref q580, .ref q583, .ref q586, .int 0, .int (-1), .int 0, .int 0, .long 0, .null, .null, .null, .null])), (q562, .inr (13, [.int 0, .ref z565, .int 1, .int 1, .ref z566, .int 0, .int 0, .int 0, .ref z567, .int 0, .int 0, .int (-1), .int (-1), .int 0, .int (-1), .int 0, .ref z568, .ref z569])), (z565, .inl (cI, 4096, .inl (fun _ => 0))), (z566, .inl (cI, 4096, .inl (fun _ => 0))), (z569, .inl (cI, 4160, .inl z570)), (q586, .inr (18, [.int 0, .int 0, .int 0, .int 1, .int 1, .ref z589, .ref z590, .ref z591, .int 0, .ref z592, .int (-1), .int 0, .ref z593, .ref z594, .int (-1), .int 0, .ref z595, .int (-1), .int 15, .ref z596, .ref z597, .ref z598])), (z589, .inl (cI, 65536, .inl (fun _ => 0))), (z590, .inl (cI, 16384, .inl (fun _ => 0))), (z591, .inl (cI, 16384, .inl (fun _ => 0))), (q599, .inl (cI, 8, .inl (fun _ => 0)))] H := hP
  have hD : va_D A [(h0, .inr (12, [.int 0, .int 1, .int 1, .ref q562, .ref q571, .ref q574, .ref q577, .ref q580, .ref q583, .ref q586, .int 0, .int (-1), .int 0, .int 0, .long 0, .null, .null, .null, .null])), (q562, .inr (13, [.int 0, .ref z565, .int 1, .int 1, .ref z566, .int 0, .int 0, .int 0, .ref z567, .int 0, .int 0, .int (-1), .int (-1), .int 0, .int (-1), .int 0, .ref z568, .ref z569])), (z565, .inl (cI, 4096, .inl (fun _ => 0))), (z566, .inl (cI, 4096, .inl (fun _ => 0))), (z569, .inl (cI, 4160, .inl z570)), (q586, .inr (18, [.int 0, .int 0, .int 0, .int 1, .int 1, .ref z589, .ref z590, .ref z591, .int 0, .ref z592, .int (-1), .int 0, .ref z593, .ref z594, .int (-1), .int 0, .ref z595, .int (-1), .int 15, .ref z596, .ref z597, .ref z598])), (z589, .inl (cI, 65536, .inl (fun _ => 0))), (z590, .inl (cI, 16384, .inl (fun _ => 0))), (z591, .inl (cI, 16384, .inl (fun _ => 0))), (q599, .inl (cI, 8, .inl (fun _ => 0)))] := hD
  refine W.widen (k := 63) (n := 116602) (by omega) (by omega) ?_
  refine va_putF (D := D) (ci := 12) (v := .ref q599) (ty := .array .int) (C := R_Mod) (T := F_Mod) (N := 19) hx hb htw i_Mod t_Mod t_Mod_ok n_Mod hown hC.1 hP hD hS 0 rfl rfl 15 (by decide) (htw _ k549) (fun _ h9 => h9) rfl hin rfl (by decide +kernel) rfl rfl (Nat.le_of_ble_eq_true rfl) d_Mod_init_137 (fun H locs hP hD hS => ?_)
  have hP : va_P D classes [(h0, .inr (12, [.int 0, .int 1, .int 1, .ref q562, .ref q571, .ref q574, .ref q577, .ref q580, .ref q583, .ref q586, .int 0, .int (-1), .int 0, .int 0, .long 0, .ref q599, .null, .null, .null])), (q562, .inr (13, [.int 0, .ref z565, .int 1, .int 1, .ref z566, .int 0, .int 0, .int 0, .ref z567, .int 0, .int 0, .int (-1), .int (-1), .int 0, .int (-1), .int 0, .ref z568, .ref z569])), (z565, .inl (cI, 4096, .inl (fun _ => 0))), (z566, .inl (cI, 4096, .inl (fun _ => 0))), (z569, .inl (cI, 4160, .inl z570)), (q586, .inr (18, [.int 0, .int 0, .int 0, .int 1, .int 1, .ref z589, .ref z590, .ref z591, .int 0, .ref z592, .int (-1), .int 0, .ref z593, .ref z594, .int (-1), .int 0, .ref z595, .int (-1), .int 15, .ref z596, .ref z597, .ref z598])), (z589, .inl (cI, 65536, .inl (fun _ => 0))), (z590, .inl (cI, 16384, .inl (fun _ => 0))), (z591, .inl (cI, 16384, .inl (fun _ => 0))), (q599, .inl (cI, 8, .inl (fun _ => 0)))] H := hP
  have hD : va_D A [(h0, .inr (12, [.int 0, .int 1, .int 1, .ref q562, .ref q571, .ref q574, .ref q577, .ref q580, .ref q583, .ref q586, .int 0, .int (-1), .int 0, .int 0, .long 0, .ref q599, .null, .null, .null])), (q562, .inr (13, [.int 0, .ref z565, .int 1, .int 1, .ref z566, .int 0, .int 0, .int 0, .ref z567, .int 0, .int 0, .int (-1), .int (-1), .int 0, .int (-1), .int 0, .ref z568, .ref z569])), (z565, .inl (cI, 4096, .inl (fun _ => 0))), (z566, .inl (cI, 4096, .inl (fun _ => 0))), (z569, .inl (cI, 4160, .inl z570)), (q586, .inr (18, [.int 0, .int 0, .int 0, .int 1, .int 1, .ref z589, .ref z590, .ref z591, .int 0, .ref z592, .int (-1), .int 0, .ref z593, .ref z594, .int (-1), .int 0, .ref z595, .int (-1), .int 15, .ref z596, .ref z597, .ref z598])), (z589, .inl (cI, 65536, .inl (fun _ => 0))), (z590, .inl (cI, 16384, .inl (fun _ => 0))), (z591, .inl (cI, 16384, .inl (fun _ => 0))), (q599, .inl (cI, 8, .inl (fun _ => 0)))] := hD
  refine lv_aload_n hx hb d_Mod_init_140 rfl (lv_at hl 0 rfl) ?_
  refine lv_bipush (v := 9) hx hb d_Mod_init_141 (by decide) ?_
  refine wna_i hx hb (htw _ k238) hC hP hD hS (N := 9) (by decide) (by omega) (Nat.le_of_ble_eq_true rfl) (Nat.le_of_ble_eq_true rfl) d_Mod_init_143 (fun q600 H hP hD hS => ?_)
  have hP : va_P D classes [(h0, .inr (12, [.int 0, .int 1, .int 1, .ref q562, .ref q571, .ref q574, .ref q577, .ref q580, .ref q583, .ref q586, .int 0, .int (-1), .int 0, .int 0, .long 0, .ref q599, .null, .null, .null])), (q562, .inr (13, [.int 0, .ref z565, .int 1, .int 1, .ref z566, .int 0, .int 0, .int 0, .ref z567, .int 0, .int 0, .int (-1), .int (-1), .int 0, .int (-1), .int 0, .ref z568, .ref z569])), (z565, .inl (cI, 4096, .inl (fun _ => 0))), (z566, .inl (cI, 4096, .inl (fun _ => 0))), (z569, .inl (cI, 4160, .inl z570)), (q586, .inr (18, [.int 0, .int 0, .int 0, .int 1, .int 1, .ref z589, .ref z590, .ref z591, .int 0, .ref z592, .int (-1), .int 0, .ref z593, .ref z594, .int (-1), .int 0, .ref z595, .int (-1), .int 15, .ref z596, .ref z597, .ref z598])), (z589, .inl (cI, 65536, .inl (fun _ => 0))), (z590, .inl (cI, 16384, .inl (fun _ => 0))), (z591, .inl (cI, 16384, .inl (fun _ => 0))), (q599, .inl (cI, 8, .inl (fun _ => 0))), (q600, .inl (cI, 9, .inl (fun _ => 0)))] H := hP
  have hD : va_D A [(h0, .inr (12, [.int 0, .int 1, .int 1, .ref q562, .ref q571, .ref q574, .ref q577, .ref q580, .ref q583, .ref q586, .int 0, .int (-1), .int 0, .int 0, .long 0, .ref q599, .null, .null, .null])), (q562, .inr (13, [.int 0, .ref z565, .int 1, .int 1, .ref z566, .int 0, .int 0, .int 0, .ref z567, .int 0, .int 0, .int (-1), .int (-1), .int 0, .int (-1), .int 0, .ref z568, .ref z569])), (z565, .inl (cI, 4096, .inl (fun _ => 0))), (z566, .inl (cI, 4096, .inl (fun _ => 0))), (z569, .inl (cI, 4160, .inl z570)), (q586, .inr (18, [.int 0, .int 0, .int 0, .int 1, .int 1, .ref z589, .ref z590, .ref z591, .int 0, .ref z592, .int (-1), .int 0, .ref z593, .ref z594, .int (-1), .int 0, .ref z595, .int (-1), .int 15, .ref z596, .ref z597, .ref z598])), (z589, .inl (cI, 65536, .inl (fun _ => 0))), (z590, .inl (cI, 16384, .inl (fun _ => 0))), (z591, .inl (cI, 16384, .inl (fun _ => 0))), (q599, .inl (cI, 8, .inl (fun _ => 0))), (q600, .inl (cI, 9, .inl (fun _ => 0)))] := hD
  refine W.widen (k := 64) (n := 116611) (by omega) (by omega) ?_
  refine va_putF (D := D) (ci := 12) (v := .ref q600) (ty := .array .int) (C := R_Mod) (T := F_Mod) (N := 19) hx hb htw i_Mod t_Mod t_Mod_ok n_Mod hown hC.1 hP hD hS 0 rfl rfl 16 (by decide) (htw _ k550) (fun _ h9 => h9) rfl hin rfl (by decide +kernel) rfl rfl (Nat.le_of_ble_eq_true rfl) d_Mod_init_145 (fun H locs hP hD hS => ?_)
  have hP : va_P D classes [(h0, .inr (12, [.int 0, .int 1, .int 1, .ref q562, .ref q571, .ref q574, .ref q577, .ref q580, .ref q583, .ref q586, .int 0, .int (-1), .int 0, .int 0, .long 0, .ref q599, .ref q600, .null, .null])), (q562, .inr (13, [.int 0, .ref z565, .int 1, .int 1, .ref z566, .int 0, .int 0, .int 0, .ref z567, .int 0, .int 0, .int (-1), .int (-1), .int 0, .int (-1), .int 0, .ref z568, .ref z569])), (z565, .inl (cI, 4096, .inl (fun _ => 0))), (z566, .inl (cI, 4096, .inl (fun _ => 0))), (z569, .inl (cI, 4160, .inl z570)), (q586, .inr (18, [.int 0, .int 0, .int 0, .int 1, .int 1, .ref z589, .ref z590, .ref z591, .int 0, .ref z592, .int (-1), .int 0, .ref z593, .ref z594, .int (-1), .int 0, .ref z595, .int (-1), .int 15, .ref z596, .ref z597, .ref z598])), (z589, .inl (cI, 65536, .inl (fun _ => 0))), (z590, .inl (cI, 16384, .inl (fun _ => 0))), (z591, .inl (cI, 16384, .inl (fun _ => 0))), (q599, .inl (cI, 8, .inl (fun _ => 0))), (q600, .inl (cI, 9, .inl (fun _ => 0)))] H := hP
  have hD : va_D A [(h0, .inr (12, [.int 0, .int 1, .int 1, .ref q562, .ref q571, .ref q574, .ref q577, .ref q580, .ref q583, .ref q586, .int 0, .int (-1), .int 0, .int 0, .long 0, .ref q599, .ref q600, .null, .null])), (q562, .inr (13, [.int 0, .ref z565, .int 1, .int 1, .ref z566, .int 0, .int 0, .int 0, .ref z567, .int 0, .int 0, .int (-1), .int (-1), .int 0, .int (-1), .int 0, .ref z568, .ref z569])), (z565, .inl (cI, 4096, .inl (fun _ => 0))), (z566, .inl (cI, 4096, .inl (fun _ => 0))), (z569, .inl (cI, 4160, .inl z570)), (q586, .inr (18, [.int 0, .int 0, .int 0, .int 1, .int 1, .ref z589, .ref z590, .ref z591, .int 0, .ref z592, .int (-1), .int 0, .ref z593, .ref z594, .int (-1), .int 0, .ref z595, .int (-1), .int 15, .ref z596, .ref z597, .ref z598])), (z589, .inl (cI, 65536, .inl (fun _ => 0))), (z590, .inl (cI, 16384, .inl (fun _ => 0))), (z591, .inl (cI, 16384, .inl (fun _ => 0))), (q599, .inl (cI, 8, .inl (fun _ => 0))), (q600, .inl (cI, 9, .inl (fun _ => 0)))] := hD
  refine lv_aload_n hx hb d_Mod_init_148 rfl (lv_at hl 0 rfl) ?_
  refine lv_iconst (v := 4) hx hb d_Mod_init_149 (by decide) ?_
  refine wna_i hx hb (htw _ k238) hC hP hD hS (N := 4) (by decide) (by omega) (Nat.le_of_ble_eq_true rfl) (Nat.le_of_ble_eq_true rfl) d_Mod_init_150 (fun q601 H hP hD hS => ?_)
  have hP : va_P D classes [(h0, .inr (12, [.int 0, .int 1, .int 1, .ref q562, .ref q571, .ref q574, .ref q577, .ref q580, .ref q583, .ref q586, .int 0, .int (-1), .int 0, .int 0, .long 0, .ref q599, .ref q600, .null, .null])), (q562, .inr (13, [.int 0, .ref z565, .int 1, .int 1, .ref z566, .int 0, .int 0, .int 0, .ref z567, .int 0, .int 0, .int (-1), .int (-1), .int 0, .int (-1), .int 0, .ref z568, .ref z569])), (z565, .inl (cI, 4096, .inl (fun _ => 0))), (z566, .inl (cI, 4096, .inl (fun _ => 0))), (z569, .inl (cI, 4160, .inl z570)), (q586, .inr (18, [.int 0, .int 0, .int 0, .int 1, .int 1, .ref z589, .ref z590, .ref z591, .int 0, .ref z592, .int (-1), .int 0, .ref z593, .ref z594, .int (-1), .int 0, .ref z595, .int (-1), .int 15, .ref z596, .ref z597, .ref z598])), (z589, .inl (cI, 65536, .inl (fun _ => 0))), (z590, .inl (cI, 16384, .inl (fun _ => 0))), (z591, .inl (cI, 16384, .inl (fun _ => 0))), (q599, .inl (cI, 8, .inl (fun _ => 0))), (q600, .inl (cI, 9, .inl (fun _ => 0))), (q601, .inl (cI, 4, .inl (fun _ => 0)))] H := hP
  have hD : va_D A [(h0, .inr (12, [.int 0, .int 1, .int 1, .ref q562, .ref q571, .ref q574, .ref q577, .ref q580, .ref q583, .ref q586, .int 0, .int (-1), .int 0, .int 0, .long 0, .ref q599, .ref q600, .null, .null])), (q562, .inr (13, [.int 0, .ref z565, .int 1, .int 1, .ref z566, .int 0, .int 0, .int 0, .ref z567, .int 0, .int 0, .int (-1), .int (-1), .int 0, .int (-1), .int 0, .ref z568, .ref z569])), (z565, .inl (cI, 4096, .inl (fun _ => 0))), (z566, .inl (cI, 4096, .inl (fun _ => 0))), (z569, .inl (cI, 4160, .inl z570)), (q586, .inr (18, [.int 0, .int 0, .int 0, .int 1, .int 1, .ref z589, .ref z590, .ref z591, .int 0, .ref z592, .int (-1), .int 0, .ref z593, .ref z594, .int (-1), .int 0, .ref z595, .int (-1), .int 15, .ref z596, .ref z597, .ref z598])), (z589, .inl (cI, 65536, .inl (fun _ => 0))), (z590, .inl (cI, 16384, .inl (fun _ => 0))), (z591, .inl (cI, 16384, .inl (fun _ => 0))), (q599, .inl (cI, 8, .inl (fun _ => 0))), (q600, .inl (cI, 9, .inl (fun _ => 0))), (q601, .inl (cI, 4, .inl (fun _ => 0)))] := hD
  refine W.widen (k := 65) (n := 116615) (by omega) (by omega) ?_
  refine va_putF (D := D) (ci := 12) (v := .ref q601) (ty := .array .int) (C := R_Mod) (T := F_Mod) (N := 19) hx hb htw i_Mod t_Mod t_Mod_ok n_Mod hown hC.1 hP hD hS 0 rfl rfl 17 (by decide) (htw _ k551) (fun _ h9 => h9) rfl hin rfl (by decide +kernel) rfl rfl (Nat.le_of_ble_eq_true rfl) d_Mod_init_152 (fun H locs hP hD hS => ?_)
  have hP : va_P D classes [(h0, .inr (12, [.int 0, .int 1, .int 1, .ref q562, .ref q571, .ref q574, .ref q577, .ref q580, .ref q583, .ref q586, .int 0, .int (-1), .int 0, .int 0, .long 0, .ref q599, .ref q600, .ref q601, .null])), (q562, .inr (13, [.int 0, .ref z565, .int 1, .int 1, .ref z566, .int 0, .int 0, .int 0, .ref z567, .int 0, .int 0, .int (-1), .int (-1), .int 0, .int (-1), .int 0, .ref z568, .ref z569])), (z565, .inl (cI, 4096, .inl (fun _ => 0))), (z566, .inl (cI, 4096, .inl (fun _ => 0))), (z569, .inl (cI, 4160, .inl z570)), (q586, .inr (18, [.int 0, .int 0, .int 0, .int 1, .int 1, .ref z589, .ref z590, .ref z591, .int 0, .ref z592, .int (-1), .int 0, .ref z593, .ref z594, .int (-1), .int 0, .ref z595, .int (-1), .int 15, .ref z596, .ref z597, .ref z598])), (z589, .inl (cI, 65536, .inl (fun _ => 0))), (z590, .inl (cI, 16384, .inl (fun _ => 0))), (z591, .inl (cI, 16384, .inl (fun _ => 0))), (q599, .inl (cI, 8, .inl (fun _ => 0))), (q600, .inl (cI, 9, .inl (fun _ => 0))), (q601, .inl (cI, 4, .inl (fun _ => 0)))] H := hP
  have hD : va_D A [(h0, .inr (12, [.int 0, .int 1, .int 1, .ref q562, .ref q571, .ref q574, .ref q577, .ref q580, .ref q583, .ref q586, .int 0, .int (-1), .int 0, .int 0, .long 0, .ref q599, .ref q600, .ref q601, .null])), (q562, .inr (13, [.int 0, .ref z565, .int 1, .int 1, .ref z566, .int 0, .int 0, .int 0, .ref z567, .int 0, .int 0, .int (-1), .int (-1), .int 0, .int (-1), .int 0, .ref z568, .ref z569])), (z565, .inl (cI, 4096, .inl (fun _ => 0))), (z566, .inl (cI, 4096, .inl (fun _ => 0))), (z569, .inl (cI, 4160, .inl z570)), (q586, .inr (18, [.int 0, .int 0, .int 0, .int 1, .int 1, .ref z589, .ref z590, .ref z591, .int 0, .ref z592, .int (-1), .int 0, .ref z593, .ref z594, .int (-1), .int 0, .ref z595, .int (-1), .int 15, .ref z596, .ref z597, .ref z598])), (z589, .inl (cI, 65536, .inl (fun _ => 0))), (z590, .inl (cI, 16384, .inl (fun _ => 0))), (z591, .inl (cI, 16384, .inl (fun _ => 0))), (q599, .inl (cI, 8, .inl (fun _ => 0))), (q600, .inl (cI, 9, .inl (fun _ => 0))), (q601, .inl (cI, 4, .inl (fun _ => 0)))] := hD
  refine lv_aload_n hx hb d_Mod_init_155 rfl (lv_at hl 0 rfl) ?_
  refine lv_iconst (v := 3) hx hb d_Mod_init_156 (by decide) ?_
  refine wna_l hx hb (htw _ k239) hC hP hD hS (N := 3) (by decide) (by omega) (Nat.le_of_ble_eq_true rfl) (Nat.le_of_ble_eq_true rfl) d_Mod_init_157 (fun q602 H hP hD hS => ?_)
  have hP : va_P D classes [(h0, .inr (12, [.int 0, .int 1, .int 1, .ref q562, .ref q571, .ref q574, .ref q577, .ref q580, .ref q583, .ref q586, .int 0, .int (-1), .int 0, .int 0, .long 0, .ref q599, .ref q600, .ref q601, .null])), (q562, .inr (13, [.int 0, .ref z565, .int 1, .int 1, .ref z566, .int 0, .int 0, .int 0, .ref z567, .int 0, .int 0, .int (-1), .int (-1), .int 0, .int (-1), .int 0, .ref z568, .ref z569])), (z565, .inl (cI, 4096, .inl (fun _ => 0))), (z566, .inl (cI, 4096, .inl (fun _ => 0))), (z569, .inl (cI, 4160, .inl z570)), (q586, .inr (18, [.int 0, .int 0, .int 0, .int 1, .int 1, .ref z589, .ref z590, .ref z591, .int 0, .ref z592, .int (-1), .int 0, .ref z593, .ref z594, .int (-1), .int 0, .ref z595, .int (-1), .int 15, .ref z596, .ref z597, .ref z598])), (z589, .inl (cI, 65536, .inl (fun _ => 0))), (z590, .inl (cI, 16384, .inl (fun _ => 0))), (z591, .inl (cI, 16384, .inl (fun _ => 0))), (q599, .inl (cI, 8, .inl (fun _ => 0))), (q600, .inl (cI, 9, .inl (fun _ => 0))), (q601, .inl (cI, 4, .inl (fun _ => 0))), (q602, .inl (cL, 3, .inr (.inl (fun _ => 0))))] H := hP
  have hD : va_D A [(h0, .inr (12, [.int 0, .int 1, .int 1, .ref q562, .ref q571, .ref q574, .ref q577, .ref q580, .ref q583, .ref q586, .int 0, .int (-1), .int 0, .int 0, .long 0, .ref q599, .ref q600, .ref q601, .null])), (q562, .inr (13, [.int 0, .ref z565, .int 1, .int 1, .ref z566, .int 0, .int 0, .int 0, .ref z567, .int 0, .int 0, .int (-1), .int (-1), .int 0, .int (-1), .int 0, .ref z568, .ref z569])), (z565, .inl (cI, 4096, .inl (fun _ => 0))), (z566, .inl (cI, 4096, .inl (fun _ => 0))), (z569, .inl (cI, 4160, .inl z570)), (q586, .inr (18, [.int 0, .int 0, .int 0, .int 1, .int 1, .ref z589, .ref z590, .ref z591, .int 0, .ref z592, .int (-1), .int 0, .ref z593, .ref z594, .int (-1), .int 0, .ref z595, .int (-1), .int 15, .ref z596, .ref z597, .ref z598])), (z589, .inl (cI, 65536, .inl (fun _ => 0))), (z590, .inl (cI, 16384, .inl (fun _ => 0))), (z591, .inl (cI, 16384, .inl (fun _ => 0))), (q599, .inl (cI, 8, .inl (fun _ => 0))), (q600, .inl (cI, 9, .inl (fun _ => 0))), (q601, .inl (cI, 4, .inl (fun _ => 0))), (q602, .inl (cL, 3, .inr (.inl (fun _ => 0))))] := hD
  refine W.widen (k := 66) (n := 116618) (by omega) (by omega) ?_
  refine va_putF (D := D) (ci := 12) (v := .ref q602) (ty := .array .long) (C := R_Mod) (T := F_Mod) (N := 19) hx hb htw i_Mod t_Mod t_Mod_ok n_Mod hown hC.1 hP hD hS 0 rfl rfl 18 (by decide) (htw _ k552) (fun _ h9 => h9) rfl hin rfl (by decide +kernel) rfl rfl (Nat.le_of_ble_eq_true rfl) d_Mod_init_159 (fun H locs hP hD hS => ?_)
  have hP : va_P D classes [(h0, .inr (12, [.int 0, .int 1, .int 1, .ref q562, .ref q571, .ref q574, .ref q577, .ref q580, .ref q583, .ref q586, .int 0, .int (-1), .int 0, .int 0, .long 0, .ref q599, .ref q600, .ref q601, .ref q602])), (q562, .inr (13, [.int 0, .ref z565, .int 1, .int 1, .ref z566, .int 0, .int 0, .int 0, .ref z567, .int 0, .int 0, .int (-1), .int (-1), .int 0, .int (-1), .int 0, .ref z568, .ref z569])), (z565, .inl (cI, 4096, .inl (fun _ => 0))), (z566, .inl (cI, 4096, .inl (fun _ => 0))), (z569, .inl (cI, 4160, .inl z570)), (q586, .inr (18, [.int 0, .int 0, .int 0, .int 1, .int 1, .ref z589, .ref z590, .ref z591, .int 0, .ref z592, .int (-1), .int 0, .ref z593, .ref z594, .int (-1), .int 0, .ref z595, .int (-1), .int 15, .ref z596, .ref z597, .ref z598])), (z589, .inl (cI, 65536, .inl (fun _ => 0))), (z590, .inl (cI, 16384, .inl (fun _ => 0))), (z591, .inl (cI, 16384, .inl (fun _ => 0))), (q599, .inl (cI, 8, .inl (fun _ => 0))), (q600, .inl (cI, 9, .inl (fun _ => 0))), (q601, .inl (cI, 4, .inl (fun _ => 0))), (q602, .inl (cL, 3, .inr (.inl (fun _ => 0))))] H := hP
  have hD : va_D A [(h0, .inr (12, [.int 0, .int 1, .int 1, .ref q562, .ref q571, .ref q574, .ref q577, .ref q580, .ref q583, .ref q586, .int 0, .int (-1), .int 0, .int 0, .long 0, .ref q599, .ref q600, .ref q601, .ref q602])), (q562, .inr (13, [.int 0, .ref z565, .int 1, .int 1, .ref z566, .int 0, .int 0, .int 0, .ref z567, .int 0, .int 0, .int (-1), .int (-1), .int 0, .int (-1), .int 0, .ref z568, .ref z569])), (z565, .inl (cI, 4096, .inl (fun _ => 0))), (z566, .inl (cI, 4096, .inl (fun _ => 0))), (z569, .inl (cI, 4160, .inl z570)), (q586, .inr (18, [.int 0, .int 0, .int 0, .int 1, .int 1, .ref z589, .ref z590, .ref z591, .int 0, .ref z592, .int (-1), .int 0, .ref z593, .ref z594, .int (-1), .int 0, .ref z595, .int (-1), .int 15, .ref z596, .ref z597, .ref z598])), (z589, .inl (cI, 65536, .inl (fun _ => 0))), (z590, .inl (cI, 16384, .inl (fun _ => 0))), (z591, .inl (cI, 16384, .inl (fun _ => 0))), (q599, .inl (cI, 8, .inl (fun _ => 0))), (q600, .inl (cI, 9, .inl (fun _ => 0))), (q601, .inl (cI, 4, .inl (fun _ => 0))), (q602, .inl (cL, 3, .inr (.inl (fun _ => 0))))] := hD
  refine W.widen (k := 66) (n := 116618) (Nat.le_of_ble_eq_true rfl) (Nat.le_of_ble_eq_true rfl) ?_
  have hP9 := hP.sub (ws' := [(h0, .inr (12, [.int 0, .int 1, .int 1, .ref q562, .ref q571, .ref q574, .ref q577, .ref q580, .ref q583, .ref q586, .int 0, .int (-1), .int 0, .int 0, .long 0, .ref q599, .ref q600, .ref q601, .ref q602])), (q562, .inr (13, [.int 0, .ref z565, .int 1, .int 1, .ref z566, .int 0, .int 0, .int 0, .ref z567, .int 0, .int 0, .int (-1), .int (-1), .int 0, .int (-1), .int 0, .ref z568, .ref z569])), (z565, .inl (cI, 4096, .inl (fun _ => 0))), (z566, .inl (cI, 4096, .inl (fun _ => 0))), (z569, .inl (cI, 4160, .inl z570)), (q586, .inr (18, [.int 0, .int 0, .int 0, .int 1, .int 1, .ref z589, .ref z590, .ref z591, .int 0, .ref z592, .int (-1), .int 0, .ref z593, .ref z594, .int (-1), .int 0, .ref z595, .int (-1), .int 15, .ref z596, .ref z597, .ref z598])), (z589, .inl (cI, 65536, .inl (fun _ => 0))), (z590, .inl (cI, 16384, .inl (fun _ => 0))), (z591, .inl (cI, 16384, .inl (fun _ => 0))), (q599, .inl (cI, 8, .inl (fun _ => 0))), (q600, .inl (cI, 9, .inl (fun _ => 0))), (q601, .inl (cI, 4, .inl (fun _ => 0)))]) [0, 1, 2, 3, 4, 5, 6, 7, 8, 9, 10, 11] rfl
  have hD9 := hD.sub (ws' := [(h0, .inr (12, [.int 0, .int 1, .int 1, .ref q562, .ref q571, .ref q574, .ref q577, .ref q580, .ref q583, .ref q586, .int 0, .int (-1), .int 0, .int 0, .long 0, .ref q599, .ref q600, .ref q601, .ref q602])), (q562, .inr (13, [.int 0, .ref z565, .int 1, .int 1, .ref z566, .int 0, .int 0, .int 0, .ref z567, .int 0, .int 0, .int (-1), .int (-1), .int 0, .int (-1), .int 0, .ref z568, .ref z569])), (z565, .inl (cI, 4096, .inl (fun _ => 0))), (z566, .inl (cI, 4096, .inl (fun _ => 0))), (z569, .inl (cI, 4160, .inl z570)), (q586, .inr (18, [.int 0, .int 0, .int 0, .int 1, .int 1, .ref z589, .ref z590, .ref z591, .int 0, .ref z592, .int (-1), .int 0, .ref z593, .ref z594, .int (-1), .int 0, .ref z595, .int (-1), .int 15, .ref z596, .ref z597, .ref z598])), (z589, .inl (cI, 65536, .inl (fun _ => 0))), (z590, .inl (cI, 16384, .inl (fun _ => 0))), (z591, .inl (cI, 16384, .inl (fun _ => 0))), (q599, .inl (cI, 8, .inl (fun _ => 0))), (q600, .inl (cI, 9, .inl (fun _ => 0))), (q601, .inl (cI, 4, .inl (fun _ => 0)))]) [0, 1, 2, 3, 4, 5, 6, 7, 8, 9, 10, 11] (by decide) rfl
  exact W.vret hx hb hr (fun t ht hW => ⟨⟨(q562, z565, z566, z567, z568, z569, z570, q571, q574, q577, q580, q583, q586, z589, z590, z591, z592, z593, z594, z595, z596, z597, z598, q599, q600, q601, q602), rfl, trivial, by rw [ht]; exact hP9, va_K.moved hW.alike hC.1, hD9⟩, hS.F ht⟩) hS.2.2 d_Mod_init_162
