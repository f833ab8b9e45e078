set_option maxRecDepth 100000 in
theorem c_tNothing (l : Launch) (D : va_G) (τ : ClassId × ClassId × ClassId) (B sz : Nat) (h0 : Nat) (ke : Nat) (f : Nat → Int32) (xm : Nat) (xs : Nat) (xb : Nat) (xa : Nat) (fl0 : Int32) (fl1 : Int32) (fl2 : Int32) (fl3 : Int32) (fl4 : Int32) (fl5 : Int32) (fl6 : Int32) (fl7 : Int32) (fl8 : Int32) (fl9 : Int32) (fl10 : Int32) (fl11 : Int32) (fl12 : Int32) : Met l y_Cmd_nothingTold ((Cond.code y_Cmd_nothingTold prog_15_method_12_code 3 none) :: tw) ({ frames := 30, cells := 0, slots := 0, locals := 3000 }) (va_Pc [.ref h0] (wP D τ B sz [(ke, .inl (τ.1, 4160, .inl f)), (h0, .inr (13, [.int fl0, .ref xm, .int fl1, .int fl2, .ref xs, .int fl3, .int fl4, .int fl5, .ref xb, .int fl6, .int fl7, .int fl8, .int fl9, .int fl10, .int fl11, .int fl12, .ref xa, .ref ke]))])) (va_Qv (S := Unit) (fun _ => True) (fun u => wB D τ (va_A [(ke, .inl (τ.1, 4160, .inl f)), (h0, .inr (13, [.int fl0, .ref xm, .int fl1, .int fl2, .ref xs, .int fl3, .int fl4, .int fl5, .ref xb, .int fl6, .int fl7, .int fl8, .int fl9, .int fl10, .int fl11, .int fl12, .ref xa, .ref ke]))] sz) ((fun _ : Unit => [(ke, .inl (τ.1, 4160, .inl (mtold (rowset f 0 4160 (fun _ => 0))))), (h0, .inr (13, [.int fl0, .ref xm, .int fl1, .int fl2, .ref xs, .int fl3, .int fl4, .int fl5, .ref xb, .int fl6, .int fl7, .int fl8, .int fl9, .int fl10, .int fl11, .int fl12, .ref xa, .ref ke]))]) u)) (va_A [(ke, .inl (τ.1, 4160, .inl f)), (h0, .inr (13, [.int fl0, .ref xm, .int fl1, .int fl2, .ref xs, .int fl3, .int fl4, .int fl5, .ref xb, .int fl6, .int fl7, .int fl8, .int fl9, .int fl10, .int fl11, .int fl12, .ref xa, .ref ke]))] sz)) 0 0 (va_A [(ke, .inl (τ.1, 4160, .inl f)), (h0, .inr (13, [.int fl0, .ref xm, .int fl1, .int fl2, .ref xs, .int fl3, .int fl4, .int fl5, .ref xb, .int fl6, .int fl7, .int fl8, .int fl9, .int fl10, .int fl11, .int fl12, .ref xa, .ref ke]))] sz) := cQ_Cmd_nothingTold l D τ B (fun k => ([fl0, fl1, fl2, fl3, fl4, fl5, fl6, fl7, fl8, fl9, fl10, fl11, fl12] : List Int32).getD (k - 7) 0, fun _ => 0, fun _ => f, fun _ _ => 0, fun _ => 0) (fun k => if k = 60 then h0 else if k = 4 then ke else if k = 0 then xm else if k = 1 then xs else if k = 2 then xb else xa) _ (e_told _) sz

theorem d_Txm_init_0 : decode prog_19_method_1_code 0 = .ok (.aload_n 0, 1) := by decide +kernel
theorem d_Txm_init_1 : decode prog_19_method_1_code 1 = .ok (.invokespecial 1, 3) := by decide +kernel
theorem d_Txm_init_4 : decode prog_19_method_1_code 4 = .ok (.aload_n 0, 1) := by decide +kernel
theorem d_Txm_init_5 : decode prog_19_method_1_code 5 = .ok (.bipush 32, 2) := by decide +kernel
theorem d_Txm_init_7 : decode prog_19_method_1_code 7 = .ok (.newarray .int, 2) := by decide +kernel
theorem d_Txm_init_9 : decode prog_19_method_1_code 9 = .ok (.putfield 7, 3) := by decide +kernel
theorem d_Txm_init_12 : decode prog_19_method_1_code 12 = .ok (.aload_n 0, 1) := by decide +kernel
theorem d_Txm_init_13 : decode prog_19_method_1_code 13 = .ok (.bipush 16, 2) := by decide +kernel
theorem d_Txm_init_15 : decode prog_19_method_1_code 15 = .ok (.newarray .int, 2) := by decide +kernel
theorem d_Txm_init_17 : decode prog_19_method_1_code 17 = .ok (.putfield 13, 3) := by decide +kernel
theorem d_Txm_init_20 : decode prog_19_method_1_code 20 = .ok (.aload_n 0, 1) := by decide +kernel
theorem d_Txm_init_21 : decode prog_19_method_1_code 21 = .ok (.iconst 4, 1) := by decide +kernel
theorem d_Txm_init_22 : decode prog_19_method_1_code 22 = .ok (.newarray .int, 2) := by decide +kernel
theorem d_Txm_init_24 : decode prog_19_method_1_code 24 = .ok (.putfield 16, 3) := by decide +kernel
theorem d_Txm_init_27 : decode prog_19_method_1_code 27 = .ok (.aload_n 0, 1) := by decide +kernel
theorem d_Txm_init_28 : decode prog_19_method_1_code 28 = .ok (.iconst 4, 1) := by decide +kernel
theorem d_Txm_init_29 : decode prog_19_method_1_code 29 = .ok (.newarray .int, 2) := by decide +kernel
theorem d_Txm_init_31 : decode prog_19_method_1_code 31 = .ok (.putfield 19, 3) := by decide +kernel
theorem d_Txm_init_34 : decode prog_19_method_1_code 34 = .ok (.aload_n 0, 1) := by decide +kernel
theorem d_Txm_init_35 : decode prog_19_method_1_code 35 = .ok (.iconst 4, 1) := by decide +kernel
theorem d_Txm_init_36 : decode prog_19_method_1_code 36 = .ok (.newarray .int, 2) := by decide +kernel
theorem d_Txm_init_38 : decode prog_19_method_1_code 38 = .ok (.putfield 22, 3) := by decide +kernel
theorem d_Txm_init_41 : decode prog_19_method_1_code 41 = .ok (.aload_n 0, 1) := by decide +kernel
theorem d_Txm_init_42 : decode prog_19_method_1_code 42 = .ok (.iconst 4, 1) := by decide +kernel
theorem d_Txm_init_43 : decode prog_19_method_1_code 43 = .ok (.newarray .int, 2) := by decide +kernel
theorem d_Txm_init_45 : decode prog_19_method_1_code 45 = .ok (.putfield 25, 3) := by decide +kernel
theorem d_Txm_init_48 : decode prog_19_method_1_code 48 = .ok (.aload_n 0, 1) := by decide +kernel
theorem d_Txm_init_49 : decode prog_19_method_1_code 49 = .ok (.iconst 4, 1) := by decide +kernel
theorem d_Txm_init_50 : decode prog_19_method_1_code 50 = .ok (.newarray .int, 2) := by decide +kernel
theorem d_Txm_init_52 : decode prog_19_method_1_code 52 = .ok (.putfield 28, 3) := by decide +kernel
theorem d_Txm_init_55 : decode prog_19_method_1_code 55 = .ok (.aload_n 0, 1) := by decide +kernel
theorem d_Txm_init_56 : decode prog_19_method_1_code 56 = .ok (.iconst 4, 1) := by decide +kernel
theorem d_Txm_init_57 : decode prog_19_method_1_code 57 = .ok (.newarray .int, 2) := by decide +kernel
theorem d_Txm_init_59 : decode prog_19_method_1_code 59 = .ok (.putfield 31, 3) := by decide +kernel
theorem d_Txm_init_62 : decode prog_19_method_1_code 62 = .ok (.aload_n 0, 1) := by decide +kernel
theorem d_Txm_init_63 : decode prog_19_method_1_code 63 = .ok (.iconst 4, 1) := by decide +kernel
theorem d_Txm_init_64 : decode prog_19_method_1_code 64 = .ok (.newarray .int, 2) := by decide +kernel
theorem d_Txm_init_66 : decode prog_19_method_1_code 66 = .ok (.putfield 34, 3) := by decide +kernel
theorem d_Txm_init_69 : decode prog_19_method_1_code 69 = .ok (.aload_n 0, 1) := by decide +kernel
theorem d_Txm_init_70 : decode prog_19_method_1_code 70 = .ok (.aload_n 1, 1) := by decide +kernel
theorem d_Txm_init_71 : decode prog_19_method_1_code 71 = .ok (.putfield 37, 3) := by decide +kernel
theorem d_Txm_init_74 : decode prog_19_method_1_code 74 = .ok (.iconst 0, 1) := by decide +kernel
theorem d_Txm_init_75 : decode prog_19_method_1_code 75 = .ok (.istore_n 2, 1) := by decide +kernel
theorem d_Txm_init_76 : decode prog_19_method_1_code 76 = .ok (.iload_n 2, 1) := by decide +kernel
theorem d_Txm_init_77 : decode prog_19_method_1_code 77 = .ok (.iconst 4, 1) := by decide +kernel
theorem d_Txm_init_78 : decode prog_19_method_1_code 78 = .ok (.if_icmp .ge 21, 3) := by decide +kernel
theorem d_Txm_init_81 : decode prog_19_method_1_code 81 = .ok (.aload_n 0, 1) := by decide +kernel
theorem d_Txm_init_82 : decode prog_19_method_1_code 82 = .ok (.getfield 7, 3) := by decide +kernel
theorem d_Txm_init_85 : decode prog_19_method_1_code 85 = .ok (.bipush 8, 2) := by decide +kernel
theorem d_Txm_init_87 : decode prog_19_method_1_code 87 = .ok (.iload_n 2, 1) := by decide +kernel
theorem d_Txm_init_88 : decode prog_19_method_1_code 88 = .ok (.imul, 1) := by decide +kernel
theorem d_Txm_init_89 : decode prog_19_method_1_code 89 = .ok (.iconst 3, 1) := by decide +kernel
theorem d_Txm_init_90 : decode prog_19_method_1_code 90 = .ok (.iadd, 1) := by decide +kernel
theorem d_Txm_init_91 : decode prog_19_method_1_code 91 = .ok (.iconst 1, 1) := by decide +kernel
theorem d_Txm_init_92 : decode prog_19_method_1_code 92 = .ok (.iastore, 1) := by decide +kernel
theorem d_Txm_init_93 : decode prog_19_method_1_code 93 = .ok (.iinc 2 1, 3) := by decide +kernel
theorem d_Txm_init_96 : decode prog_19_method_1_code 96 = .ok (.goto (-20), 3) := by decide +kernel
theorem d_Txm_init_99 : decode prog_19_method_1_code 99 = .ok (.return_, 1) := by decide +kernel
set_option maxHeartbeats 4000000 in
set_option maxRecDepth 100000 in
theorem c_Txm_init (l : Launch) (D : va_G) (τ : ClassId × ClassId × ClassId) (B sz : Nat) (h0 : Nat) (me : Nat) : Met l y_Txm_init ((Cond.code y_Txm_init prog_19_method_1_code 3 none) :: tw) ({ frames := 20, cells := 9, slots := 76, locals := 2000 }) (va_Pc [.ref h0, .ref me] (wP D τ B sz [(h0, .inr (14, [.int 0, .null, .null, .null, .null, .null, .null, .null, .null, .null, .null]))])) (va_Qv (S := Nat × Nat × Nat × Nat × Nat × Nat × Nat × Nat × Nat × (Nat → Int32)) (fun _ => True) (fun u => wB D τ (va_A [(h0, .inr (14, [.int 0, .null, .null, .null, .null, .null, .null, .null, .null, .null, .null]))] sz) ((fun u : Nat × Nat × Nat × Nat × Nat × Nat × Nat × Nat × Nat × (Nat → Int32) => match u with | (q153, q154, q155, q156, q157, q158, q159, q160, q161, f169) => [(h0, .inr (14, [.int 0, .ref me, .ref q153, .ref q154, .ref q155, .ref q156, .ref q157, .ref q158, .ref q159, .ref q160, .ref q161])), (q153, .inl (τ.1, 32, .inl f169)), (q154, .inl (τ.1, 16, .inl (fun _ => 0))), (q155, .inl (τ.1, 4, .inl (fun _ => 0))), (q156, .inl (τ.1, 4, .inl (fun _ => 0))), (q157, .inl (τ.1, 4, .inl (fun _ => 0))), (q158, .inl (τ.1, 4, .inl (fun _ => 0))), (q159, .inl (τ.1, 4, .inl (fun _ => 0))), (q160, .inl (τ.1, 4, .inl (fun _ => 0))), (q161, .inl (τ.1, 4, .inl (fun _ => 0)))]) u)) (va_A [(h0, .inr (14, [.int 0, .null, .null, .null, .null, .null, .null, .null, .null, .null, .null]))] sz)) 9 76 (va_A [(h0, .inr (14, [.int 0, .null, .null, .null, .null, .null, .null, .null, .null, .null, .null]))] sz) := by
  refine Met.ofW (cc := prog_19_method_1_code) (maxL := 3) (ret := none) (by decide) rfl ?_
  intro p e s m args below meth c s₁ B0 hml hv
  obtain ⟨rfl, hv⟩ := hv
  have hx := B0.exec
  have hb := B0.bytes
  have hr := B0.returns
  have hts := atoms_spec (ws := (Cond.code y_Txm_init prog_19_method_1_code 3 none) :: tw) B0.pre
  have htw : ∀ w ∈ tw, w.before _ s = true := fun w hw => hts w (List.mem_cons_of_mem _ hw)
  have hown : s.vm.findClass "DrawingMachineModel$TextureUnitsModel" = some m.cls := findClass_of_methodNamed B0.named
  have hlocks := B0.notSynchronized
  have hin : meth.name = "<init>" := (name_of_methodNamed B0.named B0.method).1
  obtain ⟨hC, hP, hD, hsz⟩ := wC_init hv
  subst hsz
  generalize hAe : va_A [(h0, .inr (14, [.int 0, .null, .null, .null, .null, .null, .null, .null, .null, .null, .null]))] s.heap.size = A at hC hD ⊢
  have hS : va_S A s.heap s.heap [] := va_S.rf
  have hl := lv_entry ([.ref h0, .ref me]) (n := 3) (Nat.le_of_ble_eq_true rfl)
  rw [lg_entry_eq]
  generalize (lg_sl ([.ref h0, .ref me]) ++ List.replicate (3 - (lg_sl ([.ref h0, .ref me])).length) Slot.unset).toArray = ls at hl ⊢
  have hl : lv_has ls 3 [(0, .ref h0), (1, .ref me)] := hl
  refine lv_aload_n hx hb d_Txm_init_0 rfl (lv_at hl 0 rfl) ?_
  refine W.objInit hx hb hown (htw _ k1512) (htw _ k46) (htw _ k47) rfl (by rw [hml]; exact hl.1) rfl d_Txm_init_1 (Nat.le_of_ble_eq_true rfl) (Nat.le_of_ble_eq_true rfl) ?_
  refine W.eq (g2 := F0 m 4 ls []) rfl ?_
  refine lv_aload_n hx hb d_Txm_init_4 rfl (lv_at hl 0 rfl) ?_
  refine lv_bipush (v := 32) hx hb d_Txm_init_5 (by decide) ?_
  refine wna_i hx hb (htw _ k71) hC hP hD hS (N := 32) (by decide) (by omega) (Nat.le_of_ble_eq_true rfl) (Nat.le_of_ble_eq_true rfl) d_Txm_init_7 (fun q153 H hP hD hS => ?_)
  have hP : va_P D classes [(h0, .inr (14, [.int 0, .null, .null, .null, .null, .null, .null, .null, .null, .null, .null])), (q153, .inl (τ.1, 32, .inl (fun _ => 0)))] H := hP
  have hD : va_D A [(h0, .inr (14, [.int 0, .null, .null, .null, .null, .null, .null, .null, .null, .null, .null])), (q153, .inl (τ.1, 32, .inl (fun _ => 0)))] := hD
  refine W.widen (k := 1) (n := 32) (by omega) (by omega) ?_
  refine va_putF (D := D) (ci := 14) (v := .ref q153) (ty := .array .int) (C := R_Txm) (T := F_Txm) (N := 11) hx hb htw i_Txm t_Txm t_Txm_ok n_Txm hown hC.1 hP hD hS 0 rfl rfl 2 (by decide) (htw _ k1515) (fun _ h9 => h9) rfl hin rfl (by decide +kernel) rfl rfl (Nat.le_of_ble_eq_true rfl) d_Txm_init_9 (fun H locs hP hD hS => ?_)
  have hP : va_P D classes [(h0, .inr (14, [.int 0, .null, .ref q153, .null, .null, .null, .null, .null, .null, .null, .null])), (q153, .inl (τ.1, 32, .inl (fun _ => 0)))] H := hP
  have hD : va_D A [(h0, .inr (14, [.int 0, .null, .ref q153, .null, .null, .null, .null, .null, .null, .null, .null])), (q153, .inl (τ.1, 32, .inl (fun _ => 0)))] := hD
  refine lv_aload_n hx hb d_Txm_init_12 rfl (lv_at hl 0 rfl) ?_
  refine lv_bipush (v := 16) hx hb d_Txm_init_13 (by decide) ?_
  refine wna_i hx hb (htw _ k71) hC hP hD hS (N := 16) (by decide) (by omega) (Nat.le_of_ble_eq_true rfl) (Nat.le_of_ble_eq_true rfl) d_Txm_init_15 (fun q154 H hP hD hS => ?_)
  have hP : va_P D classes [(h0, .inr (14, [.int 0, .null, .ref q153, .null, .null, .null, .null, .null, .null, .null, .null])), (q153, .inl (τ.1, 32, .inl (fun _ => 0))), (q154, .inl (τ.1, 16, .inl (fun _ => 0)))] H := hP
  have hD : va_D A [(h0, .inr (14, [.int 0, .null, .ref q153, .null, .null, .null, .null, .null, .null, .null, .null])), (q153, .inl (τ.1, 32, .inl (fun _ => 0))), (q154, .inl (τ.1, 16, .inl (fun _ => 0)))] := hD
  refine W.widen (k := 2) (n := 48) (by omega) (by omega) ?_
  refine va_putF (D := D) (ci := 14) (v := .ref q154) (ty := .array .int) (C := R_Txm) (T := F_Txm) (N := 11) hx hb htw i_Txm t_Txm t_Txm_ok n_Txm hown hC.1 hP hD hS 0 rfl rfl 3 (by decide) (htw _ k1516) (fun _ h9 => h9) rfl hin rfl (by decide +kernel) rfl rfl (Nat.le_of_ble_eq_true rfl) d_Txm_init_17 (fun H locs hP hD hS => ?_)
  have hP : va_P D classes [(h0, .inr (14, [.int 0, .null, .ref q153, .ref q154, .null, .null, .null, .null, .null, .null, .null])), (q153, .inl (τ.1, 32, .inl (fun _ => 0))), (q154, .inl (τ.1, 16, .inl (fun _ => 0)))] H := hP
  have hD : va_D A [(h0, .inr (14, [.int 0, .null, .ref q153, .ref q154, .null, .null, .null, .null, .null, .null, .null])), (q153, .inl (τ.1, 32, .inl (fun _ => 0))), (q154, .inl (τ.1, 16, .inl (fun _ => 0)))] := hD
  refine lv_aload_n hx hb d_Txm_init_20 rfl (lv_at hl 0 rfl) ?_
  refine lv_iconst (v := 4) hx hb d_Txm_init_21 (by decide) ?_
  refine wna_i hx hb (htw _ k71) hC hP hD hS (N := 4) (by decide) (by omega) (Nat.le_of_ble_eq_true rfl) (Nat.le_of_ble_eq_true rfl) d_Txm_init_22 (fun q155 H hP hD hS => ?_)
  have hP : va_P D classes [(h0, .inr (14, [.int 0, .null, .ref q153, .ref q154, .null, .null, .null, .null, .null, .null, .null])), (q153, .inl (τ.1, 32, .inl (fun _ => 0))), (q154, .inl (τ.1, 16, .inl (fun _ => 0))), (q155, .inl (τ.1, 4, .inl (fun _ => 0)))] H := hP
  have hD : va_D A [(h0, .inr (14, [.int 0, .null, .ref q153, .ref q154, .null, .null, .null, .null, .null, .null, .null])), (q153, .inl (τ.1, 32, .inl (fun _ => 0))), (q154, .inl (τ.1, 16, .inl (fun _ => 0))), (q155, .inl (τ.1, 4, .inl (fun _ => 0)))] := hD
  refine W.widen (k := 3) (n := 52) (by omega) (by omega) ?_
  refine va_putF (D := D) (ci := 14) (v := .ref q155) (ty := .array .int) (C := R_Txm) (T := F_Txm) (N := 11) hx hb htw i_Txm t_Txm t_Txm_ok n_Txm hown hC.1 hP hD hS 0 rfl rfl 4 (by decide) (htw _ k1517) (fun _ h9 => h9) rfl hin rfl (by decide +kernel) rfl rfl (Nat.le_of_ble_eq_true rfl) d_Txm_init_24 (fun H locs hP hD hS => ?_)
  have hP : va_P D classes [(h0, .inr (14, [.int 0, .null, .ref q153, .ref q154, .ref q155, .null, .null, .null, .null, .null, .null])), (q153, .inl (τ.1, 32, .inl (fun _ => 0))), (q154, .inl (τ.1, 16, .inl (fun _ => 0))), (q155, .inl (τ.1, 4, .inl (fun _ => 0)))] H := hP
  have hD : va_D A [(h0, .inr (14, [.int 0, .null, .ref q153, .ref q154, .ref q155, .null, .null, .null, .null, .null, .null])), (q153, .inl (τ.1, 32, .inl (fun _ => 0))), (q154, .inl (τ.1, 16, .inl (fun _ => 0))), (q155, .inl (τ.1, 4, .inl (fun _ => 0)))] := hD
  refine lv_aload_n hx hb d_Txm_init_27 rfl (lv_at hl 0 rfl) ?_
  refine lv_iconst (v := 4) hx hb d_Txm_init_28 (by decide) ?_
  refine wna_i hx hb (htw _ k71) hC hP hD hS (N := 4) (by decide) (by omega) (Nat.le_of_ble_eq_true rfl) (Nat.le_of_ble_eq_true rfl) d_Txm_init_29 (fun q156 H hP hD hS => ?_)
  have hP : va_P D classes [(h0, .inr (14, [.int 0, .null, .ref q153, .ref q154, .ref q155, .null, .null, .null, .null, .null, .null])), (q153, .inl (τ.1, 32, .inl (fun _ => 0))), (q154, .inl (τ.1, 16, .inl (fun _ => 0))), (q155, .inl (τ.1, 4, .inl (fun _ => 0))), (q156, .inl (τ.1, 4, .inl (fun _ => 0)))] H := hP
  have hD : va_D A [(h0, .inr (14, [.int 0, .null, .ref q153, .ref q154, .ref q155, .null, .null, .null, .null, .null, .null])), (q153, .inl (τ.1, 32, .inl (fun _ => 0))), (q154, .inl (τ.1, 16, .inl (fun _ => 0))), (q155, .inl (τ.1, 4, .inl (fun _ => 0))), (q156, .inl (τ.1, 4, .inl (fun _ => 0)))] := hD
  refine W.widen (k := 4) (n := 56) (by omega) (by omega) ?_
  refine va_putF (D := D) (ci := 14) (v := .ref q156) (ty := .array .int) (C := R_Txm) (T := F_Txm) (N := 11) hx hb htw i_Txm t_Txm t_Txm_ok n_Txm hown hC.1 hP hD hS 0 rfl rfl 5 (by decide) (htw _ k1518) (fun _ h9 => h9) rfl hin rfl (by decide +kernel) rfl rfl (Nat.le_of_ble_eq_true rfl) d_Txm_init_31 (fun H locs hP hD hS => ?_)
  have hP : va_P D classes [(h0, .inr (14, [.int 0, .null, .ref q153, .ref q154, .ref q155, .ref q156, .null, .null, .null, .null, .null])), (q153, .inl (τ.1, 32, .inl (fun _ => 0))), (q154, .inl (τ.1, 16, .inl (fun _ => 0))), (q155, .inl (τ.1, 4, .inl (fun _ => 0))), (q156, .inl (τ.1, 4, .inl (fun _ => 0)))] H := hP
  have hD : va_D A [(h0, .inr (14, [.int 0, .null, .ref q153, .ref q154, .ref q155, .ref q156, .null, .null, .null, .null, .null])), (q153, .inl (τ.1, 32, .inl (fun _ => 0))), (q154, .inl (τ.1, 16, .inl (fun _ => 0))), (q155, .inl (τ.1, 4, .inl (fun _ => 0))), (q156, .inl (τ.1, 4, .inl (fun _ => 0)))] := hD
  refine lv_aload_n hx hb d_Txm_init_34 rfl (lv_at hl 0 rfl) ?_
  refine lv_iconst (v := 4) hx hb d_Txm_init_35 (by decide) ?_
  refine wna_i hx hb (htw _ k71) hC hP hD hS (N := 4) (by decide) (by omega) (Nat.le_of_ble_eq_true rfl) (Nat.le_of_ble_eq_true rfl) d_Txm_init_36 (fun q157 H hP hD hS => ?_)
  have hP : va_P D classes [(h0, .inr (14, [.int 0, .null, .ref q153, .ref q154, .ref q155, .ref q156, .null, .null, .null, .null, .null])), (q153, .inl (τ.1, 32, .inl (fun _ => 0))), (q154, .inl (τ.1, 16, .inl (fun _ => 0))), (q155, .inl (τ.1, 4, .inl (fun _ => 0))), (q156, .inl (τ.1, 4, .inl (fun _ => 0))), (q157, .inl (τ.1, 4, .inl (fun _ => 0)))] H := hP
  have hD : va_D A [(h0, .inr (14, [.int 0, .null, .ref q153, .ref q154, .ref q155, .ref q156, .null, .null, .null, .null, .null])), (q153, .inl (τ.1, 32, .inl (fun _ => 0))), (q154, .inl (τ.1, 16, .inl (fun _ => 0))), (q155, .inl (τ.1, 4, .inl (fun _ => 0))), (q156, .inl (τ.1, 4, .inl (fun _ => 0))), (q157, .inl (τ.1, 4, .inl (fun _ => 0)))] := hD
  refine W.widen (k := 5) (n := 60) (by omega) (by omega) ?_
  refine va_putF (D := D) (ci := 14) (v := .ref q157) (ty := .array .int) (C := R_Txm) (T := F_Txm) (N := 11) hx hb htw i_Txm t_Txm t_Txm_ok n_Txm hown hC.1 hP hD hS 0 rfl rfl 6 (by decide) (htw _ k1519) (fun _ h9 => h9) rfl hin rfl (by decide +kernel) rfl rfl (Nat.le_of_ble_eq_true rfl) d_Txm_init_38 (fun H locs hP hD hS => ?_)
  have hP : va_P D classes [(h0, .inr (14, [.int 0, .null, .ref q153, .ref q154, .ref q155, .ref q156, .ref q157, .null, .null, .null, .null])), (q153, .inl (τ.1, 32, .inl (fun _ => 0))), (q154, .inl (τ.1, 16, .inl (fun _ => 0))), (q155, .inl (τ.1, 4, .inl (fun _ => 0))), (q156, .inl (τ.1, 4, .inl (fun _ => 0))), (q157, .inl (τ.1, 4, .inl (fun _ => 0)))] H := hP
  have hD : va_D A [(h0, .inr (14, [.int 0, .null, .ref q153, .ref q154, .ref q155, .ref q156, .ref q157, .null, .null, .null, .null])), (q153, .inl (τ.1, 32, .inl (fun _ => 0))), (q154, .inl (τ.1, 16, .inl (fun _ => 0))), (q155, .inl (τ.1, 4, .inl (fun _ => 0))), (q156, .inl (τ.1, 4, .inl (fun _ => 0))), (q157, .inl (τ.1, 4, .inl (fun _ => 0)))] := hD
  refine lv_aload_n hx hb d_Txm_init_41 rfl (lv_at hl 0 rfl) ?_
  refine lv_iconst (v := 4) hx hb d_Txm_init_42 (by decide) ?_
  refine wna_i hx hb (htw _ k71) hC hP hD hS (N := 4) (by decide) (by omega) (Nat.le_of_ble_eq_true rfl) (Nat.le_of_ble_eq_true rfl) d_Txm_init_43 (fun q158 H hP hD hS => ?_)
  have hP : va_P D classes [(h0, .inr (14, [.int 0, .null, .ref q153, .ref q154, .ref q155, .ref q156, .ref q157, .null, .null, .null, .null])), (q153, .inl (τ.1, 32, .inl (fun _ => 0))), (q154, .inl (τ.1, 16, .inl (fun _ => 0))), (q155, .inl (τ.1, 4, .inl (fun _ => 0))), (q156, .inl (τ.1, 4, .inl (fun _ => 0))), (q157, .inl (τ.1, 4, .inl (fun _ => 0))), (q158, .inl (τ.1, 4, .inl (fun _ => 0)))] H := hP
  have hD : va_D A [(h0, .inr (14, [.int 0, .null, .ref q153, .ref q154, .ref q155, .ref q156, .ref q157, .null, .null, .null, .null])), (q153, .inl (τ.1, 32, .inl (fun _ => 0))), (q154, .inl (τ.1, 16, .inl (fun _ => 0))), (q155, .inl (τ.1, 4, .inl (fun _ => 0))), (q156, .inl (τ.1, 4, .inl (fun _ => 0))), (q157, .inl (τ.1, 4, .inl (fun _ => 0))), (q158, .inl (τ.1, 4, .inl (fun _ => 0)))] := hD
  refine W.widen (k := 6) (n := 64) (by omega) (by omega) ?_
  refine va_putF (D := D) (ci := 14) (v := .ref q158) (ty := .array .int) (C := R_Txm) (T := F_Txm) (N := 11) hx hb htw i_Txm t_Txm t_Txm_ok n_Txm hown hC.1 hP hD hS 0 rfl rfl 7 (by decide) (htw _ k1520) (fun _ h9 => h9) rfl hin rfl (by decide +kernel) rfl rfl (Nat.le_of_ble_eq_true rfl) d_Txm_init_45 (fun H locs hP hD hS => ?_)
  have hP : va_P D classes [(h0, .inr (14, [.int 0, .null, .ref q153, .ref q154, .ref q155, .ref q156, .ref q157, .ref q158, .null, .null, .null])), (q153, .inl (τ.1, 32, .inl (fun _ => 0))), (q154, .inl (τ.1, 16, .inl (fun _ => 0))), (q155, .inl (τ.1, 4, .inl (fun _ => 0))), (q156, .inl (τ.1, 4, .inl (fun _ => 0))), (q157, .inl (τ.1, 4, .inl (fun _ => 0))), (q158, .inl (τ.1, 4, .inl (fun _ => 0)))] H := hP
  have hD : va_D A [(h0, .inr (14, [.int 0, .null, .ref q153, .ref q154, .ref q155, .ref q156, .ref q157, .ref q158, .null, .null, .null])), (q153, .inl (τ.1, 32, .inl (fun _ => 0))), (q154, .inl (τ.1, 16, .inl (fun _ => 0))), (q155, .inl (τ.1, 4, .inl (fun _ => 0))), (q156, .inl (τ.1, 4, .inl (fun _ => 0))), (q157, .inl (τ.1, 4, .inl (fun _ => 0))), (q158, .inl (τ.1, 4, .inl (fun _ => 0)))] := hD
  refine lv_aload_n hx hb d_Txm_init_48 rfl (lv_at hl 0 rfl) ?_
  refine lv_iconst (v := 4) hx hb d_Txm_init_49 (by decide) ?_
  refine wna_i hx hb (htw _ k71) hC hP hD hS (N := 4) (by decide) (by omega) (Nat.le_of_ble_eq_true rfl) (Nat.le_of_ble_eq_true rfl) d_Txm_init_50 (fun q159 H hP hD hS => ?_)
  have hP : va_P D classes [(h0, .inr (14, [.int 0, .null, .ref q153, .ref q154, .ref q155, .ref q156, .ref q157, .ref q158, .null, .null, .null])), (q153, .inl (τ.1, 32, .inl (fun _ => 0))), (q154, .inl (τ.1, 16, .inl (fun _ => 0))), (q155, .inl (τ.1, 4, .inl (fun _ => 0))), (q156, .inl (τ.1, 4, .inl (fun _ => 0))), (q157, .inl (τ.1, 4, .inl (fun _ => 0))), (q158, .inl (τ.1, 4, .inl (fun _ => 0))), (q159, .inl (τ.1, 4, .inl (fun _ => 0)))] H := hP
  have hD : va_D A [(h0, .inr (14, [.int 0, .null, .ref q153, .ref q154, .ref q155, .ref q156, .ref q157, .ref q158, .null, .null, .null])), (q153, .inl (τ.1, 32, .inl (fun _ => 0))), (q154, .inl (τ.1, 16, .inl (fun _ => 0))), (q155, .inl (τ.1, 4, .inl (fun _ => 0))), (q156, .inl (τ.1, 4, .inl (fun _ => 0))), (q157, .inl (τ.1, 4, .inl (fun _ => 0))), (q158, .inl (τ.1, 4, .inl (fun _ => 0))), (q159, .inl (τ.1, 4, .inl (fun _ => 0)))] := hD
  refine W.widen (k := 7) (n := 68) (by omega) (by omega) ?_
  refine va_putF (D := D) (ci := 14) (v := .ref q159) (ty := .array .int) (C := R_Txm) (T := F_Txm) (N := 11) hx hb htw i_Txm t_Txm t_Txm_ok n_Txm hown hC.1 hP hD hS 0 rfl rfl 8 (by decide) (htw _ k1521) (fun _ h9 => h9) rfl hin rfl (by decide +kernel) rfl rfl (Nat.le_of_ble_eq_true rfl) d_Txm_init_52 (fun H locs hP hD hS => ?_)
  have hP : va_P D classes [(h0, .inr (14, [.int 0, .null, .ref q153, .ref q154, .ref q155, .ref q156, .ref q157, .ref q158, .ref q159, .null, .null])), (q153, .inl (τ.1, 32, .inl (fun _ => 0))), (q154, .inl (τ.1, 16, .inl (fun _ => 0))), (q155, .inl (τ.1, 4, .inl (fun _ => 0))), (q156, .inl (τ.1, 4, .inl (fun _ => 0))), (q157, .inl (τ.1, 4, .inl (fun _ => 0))), (q158, .inl (τ.1, 4, .inl (fun _ => 0))), (q159, .inl (τ.1, 4, .inl (fun _ => 0)))] H := hP
  have hD : va_D A [(h0, .inr (14, [.int 0, .null, .ref q153, .ref q154, .ref q155, .ref q156, .ref q157, .ref q158, .ref q159, .null, .null])), (q153, .inl (τ.1, 32, .inl (fun _ => 0))), (q154, .inl (τ.1, 16, .inl (fun _ => 0))), (q155, .inl (τ.1, 4, .inl (fun _ => 0))), (q156, .inl (τ.1, 4, .inl (fun _ => 0))), (q157, .inl (τ.1, 4, .inl (fun _ => 0))), (q158, .inl (τ.1, 4, .inl (fun _ => 0))), (q159, .inl (τ.1, 4, .inl (fun _ => 0)))] := hD
  refine lv_aload_n hx hb d_Txm_init_55 rfl (lv_at hl 0 rfl) ?_
  refine lv_iconst (v := 4) hx hb d_Txm_init_56 (by decide) ?_
  refine wna_i hx hb (htw _ k71) hC hP hD hS (N := 4) (by decide) (by omega) (Nat.le_of_ble_eq_true rfl) (Nat.le_of_ble_eq_true rfl) d_Txm_init_57 (fun q160 H hP hD hS => ?_)
  have hP : va_P D classes [(h0, .inr (14, [.int 0, .null, .ref q153, .ref q154, .ref q155, .ref q156, .ref q157, .ref q158, .ref q159, .null, .null])), (q153, .inl (τ.1, 32, .inl (fun _ => 0))), (q154, .inl (τ.1, 16, .inl (fun _ => 0))), (q155, .inl (τ.1, 4, .inl (fun _ => 0))), (q156, .inl (τ.1, 4, .inl (fun _ => 0))), (q157, .inl (τ.1, 4, .inl (fun _ => 0))), (q158, .inl (τ.1, 4, .inl (fun _ => 0))), (q159, .inl (τ.1, 4, .inl (fun _ => 0))), (q160, .inl (τ.1, 4, .inl (fun _ => 0)))] H := hP
  have hD : va_D A [(h0, .inr (14, [.int 0, .null, .ref q153, .ref q154, .ref q155, .ref q156, .ref q157, .ref q158, .ref q159, .null, .null])), (q153, .inl (τ.1, 32, .inl (fun _ => 0))), (q154, .inl (τ.1, 16, .inl (fun _ => 0))), (q155, .inl (τ.1, 4, .inl (fun _ => 0))), (q156, .inl (τ.1, 4, .inl (fun _ => 0))), (q157, .inl (τ.1, 4, .inl (fun _ => 0))), (q158, .inl (τ.1, 4, .inl (fun _ => 0))), (q159, .inl (τ.1, 4, .inl (fun _ => 0))), (q160, .inl (τ.1, 4, .inl (fun _ => 0)))] := hD
  refine W.widen (k := 8) (n := 72) (by omega) (by omega) ?_
  refine va_putF (D := D) (ci := 14) (v := .ref q160) (ty := .array .int) (C := R_Txm) (T := F_Txm) (N := 11) hx hb htw i_Txm t_Txm t_Txm_ok n_Txm hown hC.1 hP hD hS 0 rfl rfl 9 (by decide) (htw _ k1522) (fun _ h9 => h9) rfl hin rfl (by decide +kernel) rfl rfl (Nat.le_of_ble_eq_true rfl) d_Txm_init_59 (fun H locs hP hD hS => ?_)
  have hP : va_P D classes [(h0, .inr (14, [.int 0, .null, .ref q153, .ref q154, .ref q155, .ref q156, .ref q157, .ref q158, .ref q159, .ref q160, .null])), (q153, .inl (τ.1, 32, .inl (fun _ => 0))), (q154, .inl (τ.1, 16, .inl (fun _ => 0))), (q155, .inl (τ.1, 4, .inl (fun _ => 0))), (q156, .inl (τ.1, 4, .inl (fun _ => 0))), (q157, .inl (τ.1, 4, .inl (fun _ => 0))), (q158, .inl (τ.1, 4, .inl (fun _ => 0))), (q159, .inl (τ.1, 4, .inl (fun _ => 0))), (q160, .inl (τ.1, 4, .inl (fun _ => 0)))] H := hP
  have hD : va_D A [(h0, .inr (14, [.int 0, .null, .ref q153, .ref q154, .ref q155, .ref q156, .ref q157, .ref q158, .ref q159, .ref q160, .null])), (q153, .inl (τ.1, 32, .inl (fun _ => 0))), (q154, .inl (τ.1, 16, .inl (fun _ => 0))), (q155, .inl (τ.1, 4, .inl (fun _ => 0))), (q156, .inl (τ.1, 4, .inl (fun _ => 0))), (q157, .inl (τ.1, 4, .inl (fun _ => 0))), (q158, .inl (τ.1, 4, .inl (fun _ => 0))), (q159, .inl (τ.1, 4, .inl (fun _ => 0))), (q160, .inl (τ.1, 4, .inl (fun _ => 0)))] := hD
  refine lv_aload_n hx hb d_Txm_init_62 rfl (lv_at hl 0 rfl) ?_
  refine lv_iconst (v := 4) hx hb d_Txm_init_63 (by decide) ?_
  refine wna_i hx hb (htw _ k71) hC hP hD hS (N := 4) (by decide) (by omega) (Nat.le_of_ble_eq_true rfl) (Nat.le_of_ble_eq_true rfl) d_Txm_init_64 (fun q161 H hP hD hS => ?_)
  have hP : va_P D classes [(h0, .inr (14, [.int 0, .null, .ref q153, .ref q154, .ref q155, .ref q156, .ref q157, .ref q158, .ref q159, .ref q160, .null])), (q153, .inl (τ.1, 32, .inl (fun _ => 0))), (q154, .inl (τ.1, 16, .inl (fun _ => 0))), (q155, .inl (τ.1, 4, .inl (fun _ => 0))), (q156, .inl (τ.1, 4, .inl (fun _ => 0))), (q157, .inl (τ.1, 4, .inl (fun _ => 0))), (q158, .inl (τ.1, 4, .inl (fun _ => 0))), (q159, .inl (τ.1, 4, .inl (fun _ => 0))), (q160, .inl (τ.1, 4, .inl (fun _ => 0))), (q161, .inl (τ.1, 4, .inl (fun _ => 0)))] H := hP
  have hD : va_D A [(h0, .inr (14, [.int 0, .null, .ref q153, .ref q154, .ref q155, .ref q156, .ref q157, .ref q158, .ref q159, .ref q160, .null])), (q153, .inl (τ.1, 32, .inl (fun _ => 0))), (q154, .inl (τ.1, 16, .inl (fun _ => 0))), (q155, .inl (τ.1, 4, .inl (fun _ => 0))), (q156, .inl (τ.1, 4, .inl (fun _ => 0))), (q157, .inl (τ.1, 4, .inl (fun _ => 0))), (q158, .inl (τ.1, 4, .inl (fun _ => 0))), (q159, .inl (τ.1, 4, .inl (fun _ => 0))), (q160, .inl (τ.1, 4, .inl (fun _ => 0))), (q161, .inl (τ.1, 4, .inl (fun _ => 0)))] := hD
  refine W.widen (k := 9) (n := 76) (by omega) (by omega) ?_
  refine va_putF (D := D) (ci := 14) (v := .ref q161) (ty := .array .int) (C := R_Txm) (T := F_Txm) (N := 11) hx hb htw i_Txm t_Txm t_Txm_ok n_Txm hown hC.1 hP hD hS 0 rfl rfl 10 (by decide) (htw _ k1523) (fun _ h9 => h9) rfl hin rfl (by decide +kernel) rfl rfl (Nat.le_of_ble_eq_true rfl) d_Txm_init_66 (fun H locs hP hD hS => ?_)
  have hP : va_P D classes [(h0, .inr (14, [.int 0, .null, .ref q153, .ref q154, .ref q155, .ref q156, .ref q157, .ref q158, .ref q159, .ref q160, .ref q161])), (q153, .inl (τ.1, 32, .inl (fun _ => 0))), (q154, .inl (τ.1, 16, .inl (fun _ => 0))), (q155, .inl (τ.1, 4, .inl (fun _ => 0))), (q156, .inl (τ.1, 4, .inl (fun _ => 0))), (q157, .inl (τ.1, 4, .inl (fun _ => 0))), (q158, .inl (τ.1, 4, .inl (fun _ => 0))), (q159, .inl (τ.1, 4, .inl (fun _ => 0))), (q160, .inl (τ.1, 4, .inl (fun _ => 0))), (q161, .inl (τ.1, 4, .inl (fun _ => 0)))] H := hP
  have hD : va_D A [(h0, .inr (14, [.int 0, .null, .ref q153, .ref q154, .ref q155, .ref q156, .ref q157, .ref q158, .ref q159, .ref q160, .ref q161])), (q153, .inl (τ.1, 32, .inl (fun _ => 0))), (q154, .inl (τ.1, 16, .inl (fun _ => 0))), (q155, .inl (τ.1, 4, .inl (fun _ => 0))), (q156, .inl (τ.1, 4, .inl (fun _ => 0))), (q157, .inl (τ.1, 4, .inl (fun _ => 0))), (q158, .inl (τ.1, 4, .inl (fun _ => 0))), (q159, .inl (τ.1, 4, .inl (fun _ => 0))), (q160, .inl (τ.1, 4, .inl (fun _ => 0))), (q161, .inl (τ.1, 4, .inl (fun _ => 0)))] := hD
  refine lv_aload_n hx hb d_Txm_init_69 rfl (lv_at hl 0 rfl) ?_
  refine lv_aload_n hx hb d_Txm_init_70 rfl (lv_at hl 1 rfl) ?_
  refine va_putF (D := D) (ci := 14) (v := .ref me) (ty := .array .int) (C := R_Txm) (T := F_Txm) (N := 11) hx hb htw i_Txm t_Txm t_Txm_ok n_Txm hown hC.1 hP hD hS 0 rfl rfl 1 (by decide) (htw _ k1514) (fun _ h9 => h9) rfl hin rfl (by decide +kernel) rfl rfl (Nat.le_of_ble_eq_true rfl) d_Txm_init_71 (fun H locs hP hD hS => ?_)
  have hP : va_P D classes [(h0, .inr (14, [.int 0, .ref me, .ref q153, .ref q154, .ref q155, .ref q156, .ref q157, .ref q158, .ref q159, .ref q160, .ref q161])), (q153, .inl (τ.1, 32, .inl (fun _ => 0))), (q154, .inl (τ.1, 16, .inl (fun _ => 0))), (q155, .inl (τ.1, 4, .inl (fun _ => 0))), (q156, .inl (τ.1, 4, .inl (fun _ => 0))), (q157, .inl (τ.1, 4, .inl (fun _ => 0))), (q158, .inl (τ.1, 4, .inl (fun _ => 0))), (q159, .inl (τ.1, 4, .inl (fun _ => 0))), (q160, .inl (τ.1, 4, .inl (fun _ => 0))), (q161, .inl (τ.1, 4, .inl (fun _ => 0)))] H := hP
  have hD : va_D A [(h0, .inr (14, [.int 0, .ref me, .ref q153, .ref q154, .ref q155, .ref q156, .ref q157, .ref q158, .ref q159, .ref q160, .ref q161])), (q153, .inl (τ.1, 32, .inl (fun _ => 0))), (q154, .inl (τ.1, 16, .inl (fun _ => 0))), (q155, .inl (τ.1, 4, .inl (fun _ => 0))), (q156, .inl (τ.1, 4, .inl (fun _ => 0))), (q157, .inl (τ.1, 4, .inl (fun _ => 0))), (q158, .inl (τ.1, 4, .inl (fun _ => 0))), (q159, .inl (τ.1, 4, .inl (fun _ => 0))), (q160, .inl (τ.1, 4, .inl (fun _ => 0))), (q161, .inl (τ.1, 4, .inl (fun _ => 0)))] := hD
  refine lv_iconst (v := 0) hx hb d_Txm_init_74 (by decide) ?_
  refine lv_istore_n (lv' := [(2, .int 0), (0, .ref h0), (1, .ref me)]) hx hb d_Txm_init_75 rfl hl (by decide) rfl (fun ls hl => ?_)
  refine lv_iload_n hx hb d_Txm_init_76 rfl (lv_at hl 0 rfl) ?_
  refine lv_iconst (v := 4) hx hb d_Txm_init_77 (by decide) ?_
  refine lv_icmp_ge (tgt := 99) hx hb d_Txm_init_78 (by decide) (fun c_162 => absurd c_162 (by decide)) (fun c_162 => ?_)
  refine lv_aload_n hx hb d_Txm_init_81 rfl (lv_at hl 1 rfl) ?_
  refine va_get (D := D) (ci := 14) (v := .ref q153) (C := R_Txm) (T := F_Txm) (N := 11) hx hb htw i_Txm hown hC.1 hP 0 rfl rfl 2 (by decide) (htw _ k1515) (fun _ h9 => h9) rfl d_Txm_init_82 ?_
  refine lv_bipush (v := 8) hx hb d_Txm_init_85 (by decide) ?_
  refine lv_iload_n hx hb d_Txm_init_87 rfl (lv_at hl 0 rfl) ?_
  refine lv_imul hx hb d_Txm_init_88 ?_
  refine wi_c (v := 0) (by decide) ?_
  refine lv_iconst (v := 3) hx hb d_Txm_init_89 (by decide) ?_
  refine lv_iadd hx hb d_Txm_init_90 ?_
  refine wi_c (v := 3) (by decide) ?_
  refine lv_iconst (v := 1) hx hb d_Txm_init_91 (by decide) ?_
  refine va_iast hx hb hC.1 hP hD hS 1 0 rfl rfl (by unfold vp_in; decide) d_Txm_init_92 (fun H locs hP hD hS => ?_)
  have hP : va_P D classes [(h0, .inr (14, [.int 0, .ref me, .ref q153, .ref q154, .ref q155, .ref q156, .ref q157, .ref q158, .ref q159, .ref q160, .ref q161])), (q153, .inl (τ.1, 32, .inl (upd (fun _ => 0) (3 : Int32).toNatClampNeg 1))), (q154, .inl (τ.1, 16, .inl (fun _ => 0))), (q155, .inl (τ.1, 4, .inl (fun _ => 0))), (q156, .inl (τ.1, 4, .inl (fun _ => 0))), (q157, .inl (τ.1, 4, .inl (fun _ => 0))), (q158, .inl (τ.1, 4, .inl (fun _ => 0))), (q159, .inl (τ.1, 4, .inl (fun _ => 0))), (q160, .inl (τ.1, 4, .inl (fun _ => 0))), (q161, .inl (τ.1, 4, .inl (fun _ => 0)))] H := hP
  have hD : va_D A [(h0, .inr (14, [.int 0, .ref me, .ref q153, .ref q154, .ref q155, .ref q156, .ref q157, .ref q158, .ref q159, .ref q160, .ref q161])), (q153, .inl (τ.1, 32, .inl (upd (fun _ => 0) (3 : Int32).toNatClampNeg 1))), (q154, .inl (τ.1, 16, .inl (fun _ => 0))), (q155, .inl (τ.1, 4, .inl (fun _ => 0))), (q156, .inl (τ.1, 4, .inl (fun _ => 0))), (q157, .inl (τ.1, 4, .inl (fun _ => 0))), (q158, .inl (τ.1, 4, .inl (fun _ => 0))), (q159, .inl (τ.1, 4, .inl (fun _ => 0))), (q160, .inl (τ.1, 4, .inl (fun _ => 0))), (q161, .inl (τ.1, 4, .inl (fun _ => 0)))] := hD
  generalize upd (fun _ => 0) (3 : Int32).toNatClampNeg 1 = f163 at hP hD
  refine lv_iinc (v := 1) (lv' := [(2, .int 1), (0, .ref h0), (1, .ref me)]) hx hb d_Txm_init_93 hl (k := 0) rfl (by decide) (by decide) rfl (fun ls hl => ?_)
  refine lv_goto (tgt := 76) hx hb d_Txm_init_96 (by decide) ?_
  refine lv_iload_n hx hb d_Txm_init_76 rfl (lv_at hl 0 rfl) ?_
  refine lv_iconst (v := 4) hx hb d_Txm_init_77 (by decide) ?_
  refine lv_icmp_ge (tgt := 99) hx hb d_Txm_init_78 (by decide) (fun c_164 => absurd c_164 (by decide)) (fun c_164 => ?_)
  refine lv_aload_n hx hb d_Txm_init_81 rfl (lv_at hl 1 rfl) ?_
  refine va_get (D := D) (ci := 14) (v := .ref q153) (C := R_Txm) (T := F_Txm) (N := 11) hx hb htw i_Txm hown hC.1 hP 0 rfl rfl 2 (by decide) (htw _ k1515) (fun _ h9 => h9) rfl d_Txm_init_82 ?_
  refine lv_bipush (v := 8) hx hb d_Txm_init_85 (by decide) ?_
  refine lv_iload_n hx hb d_Txm_init_87 rfl (lv_at hl 0 rfl) ?_
  refine lv_imul hx hb d_Txm_init_88 ?_
  refine wi_c (v := 8) (by decide) ?_
  refine lv_iconst (v := 3) hx hb d_Txm_init_89 (by decide) ?_
  refine lv_iadd hx hb d_Txm_init_90 ?_
  refine wi_c (v := 11) (by decide) ?_
  refine lv_iconst (v := 1) hx hb d_Txm_init_91 (by decide) ?_
  refine va_iast hx hb hC.1 hP hD hS 1 0 rfl rfl (by unfold vp_in; decide) d_Txm_init_92 (fun H locs hP hD hS => ?_)
  have hP : va_P D classes [(h0, .inr (14, [.int 0, .ref me, .ref q153, .ref q154, .ref q155, .ref q156, .ref q157, .ref q158, .ref q159, .ref q160, .ref q161])), (q153, .inl (τ.1, 32, .inl (upd f163 (11 : Int32).toNatClampNeg 1))), (q154, .inl (τ.1, 16, .inl (fun _ => 0))), (q155, .inl (τ.1, 4, .inl (fun _ => 0))), (q156, .inl (τ.1, 4, .inl (fun _ => 0))), (q157, .inl (τ.1, 4, .inl (fun _ => 0))), (q158, .inl (τ.1, 4, .inl (fun _ => 0))), (q159, .inl (τ.1, 4, .inl (fun _ => 0))), (q160, .inl (τ.1, 4, .inl (fun _ => 0))), (q161, .inl (τ.1, 4, .inl (fun _ => 0)))] H := hP
  have hD : va_D A [(h0, .inr (14, [.int 0, .ref me, .ref q153, .ref q154, .ref q155, .ref q156, .ref q157, .ref q158, .ref q159, .ref q160, .ref q161])), (q153, .inl (τ.1, 32, .inl (upd f163 (11 : Int32).toNatClampNeg 1))), (q154, .inl (τ.1, 16, .inl (fun _ => 0))), (q155, .inl (τ.1, 4, .inl (fun _ => 0))), (q156, .inl (τ.1, 4, .inl (fun _ => 0))), (q157, .inl (τ.1, 4, .inl (fun _ => 0))), (q158, .inl (τ.1, 4, .inl (fun _ => 0))), (q159, .inl (τ.1, 4, .inl (fun _ => 0))), (q160, .inl (τ.1, 4, .inl (fun _ => 0))), (q161, .inl (τ.1, 4, .inl (fun _ => 0)))] := hD
  generalize upd f163 (11 : Int32).toNatClampNeg 1 = f165 at hP hD
  refine lv_iinc (v := 2) (lv' := [(2, .int 2), (0, .ref h0), (1, .ref me)]) hx hb d_Txm_init_93 hl (k := 0) rfl (by decide) (by decide) rfl (fun ls hl => ?_)
  refine lv_goto (tgt := 76) hx hb d_Txm_init_96 (by decide) ?_
  refine lv_iload_n hx hb d_Txm_init_76 rfl (lv_at hl 0 rfl) ?_
  refine lv_iconst (v := 4) hx hb d_Txm_init_77 (by decide) ?_
  refine lv_icmp_ge (tgt := 99) hx hb d_Txm_init_78 (by decide) (fun c_166 => absurd c_166 (by decide)) (fun c_166 => ?_)
  refine lv_aload_n hx hb d_Txm_init_81 rfl (lv_at hl 1 rfl) ?_
  refine va_get (D := D) (ci := 14) (v := .ref q153) (C := R_Txm) (T := F_Txm) (N := 11) hx hb htw i_Txm hown hC.1 hP 0 rfl rfl 2 (by decide) (htw _ k1515) (fun _ h9 => h9) rfl d_Txm_init_82 ?_
  refine lv_bipush (v := 8) hx hb d_Txm_init_85 (by decide) ?_
  refine lv_iload_n hx hb d_Txm_init_87 rfl (lv_at hl 0 rfl) ?_
  refine lv_imul hx hb d_Txm_init_88 ?_
  refine wi_c (v := 16) (by decide) ?_
  refine lv_iconst (v := 3) hx hb d_Txm_init_89 (by decide) ?_
  refine lv_iadd hx hb d_Txm_init_90 ?_
  refine wi_c (v := 19) (by decide) ?_
  refine lv_iconst (v := 1) hx hb d_Txm_init_91 (by decide) ?_
  refine va_iast hx hb hC.1 hP hD hS 1 0 rfl rfl (by unfold vp_in; decide) d_Txm_init_92 (fun H locs hP hD hS => ?_)
  have hP : va_P D classes [(h0, .inr (14, [.int 0, .ref me, .ref q153, .ref q154, .ref q155, .ref q156, .ref q157, .ref q158, .ref q159, .ref q160, .ref q161])), (q153, .inl (τ.1, 32, .inl (upd f165 (19 : Int32).toNatClampNeg 1))), (q154, .inl (τ.1, 16, .inl (fun _ => 0))), (q155, .inl (τ.1, 4, .inl (fun _ => 0))), (q156, .inl (τ.1, 4, .inl (fun _ => 0))), (q157, .inl (τ.1, 4, .inl (fun _ => 0))), (q158, .inl (τ.1, 4, .inl (fun _ => 0))), (q159, .inl (τ.1, 4, .inl (fun _ => 0))), (q160, .inl (τ.1, 4, .inl (fun _ => 0))), (q161, .inl (τ.1, 4, .inl (fun _ => 0)))] H := hP
  have hD : va_D A [(h0, .inr (14, [.int 0, .ref me, .ref q153, .ref q154, .ref q155, .ref q156, .ref q157, .ref q158, .ref q159, .ref q160, .ref q161])), (q153, .inl (τ.1, 32, .inl (upd f165 (19 : Int32).toNatClampNeg 1))), (q154, .inl (τ.1, 16, .inl (fun _ => 0))), (q155, .inl (τ.1, 4, .inl (fun _ => 0))), (q156, .inl (τ.1, 4, .inl (fun _ => 0))), (q157, .inl (τ.1, 4, .inl (fun _ => 0))), (q158, .inl (τ.1, 4, .inl (fun _ => 0))), (q159, .inl (τ.1, 4, .inl (fun _ => 0))), (q160, .inl (τ.1, 4, .inl (fun _ => 0))), (q161, .inl (τ.1, 4, .inl (fun _ => 0)))] := hD
  generalize upd f165 (19 : Int32).toNatClampNeg 1 = f167 at hP hD
  refine lv_iinc (v := 3) (lv' := [(2, .int 3), (0, .ref h0), (1, .ref me)]) hx hb d_Txm_init_93 hl (k := 0) rfl (by decide) (by decide) rfl (fun ls hl => ?_)
  refine lv_goto (tgt := 76) hx hb d_Txm_init_96 (by decide) ?_
  refine lv_iload_n hx hb d_Txm_init_76 rfl (lv_at hl 0 rfl) ?_
  refine lv_iconst (v := 4) hx hb d_Txm_init_77 (by decide) ?_
  refine lv_icmp_ge (tgt := 99) hx hb d_Txm_init_78 (by decide) (fun c_168 => absurd c_168 (by decide)) (fun c_168 => ?_)
  refine lv_aload_n hx hb d_Txm_init_81 rfl (lv_at hl 1 rfl) ?_
  refine va_get (D := D) (ci := 14) (v := .ref q153) (C := R_Txm) (T := F_Txm) (N := 11) hx hb htw i_Txm hown hC.1 hP 0 rfl rfl 2 (by decide) (htw _ k1515) (fun _ h9 => h9) rfl d_Txm_init_82 ?_
  refine lv_bipush (v := 8) hx hb d_Txm_init_85 (by decide) ?_
  refine lv_iload_n hx hb d_Txm_init_87 rfl (lv_at hl 0 rfl) ?_
  refine lv_imul hx hb d_Txm_init_88 ?_
  refine wi_c (v := 24) (by decide) ?_
  refine lv_iconst (v := 3) hx hb d_Txm_init_89 (by decide) ?_
  refine lv_iadd hx hb d_Txm_init_90 ?_
  refine wi_c (v := 27) (by decide) ?_
  refine lv_iconst (v := 1) hx hb d_Txm_init_91 (by decide) ?_
  refine va_iast hx hb hC.1 hP hD hS 1 0 rfl rfl (by unfold vp_in; decide) d_Txm_init_92 (fun H locs hP hD hS => ?_)
  have hP : va_P D classes [(h0, .inr (14, [.int 0, .ref me, .ref q153, .ref q154, .ref q155, .ref q156, .ref q157, .ref q158, .ref q159, .ref q160, .ref q161])), (q153, .inl (τ.1, 32, .inl (upd f167 (27 : Int32).toNatClampNeg 1))), (q154, .inl (τ.1, 16, .inl (fun _ => 0))), (q155, .inl (τ.1, 4, .inl (fun _ => 0))), (q156, .inl (τ.1, 4, .inl (fun _ => 0))), (q157, .inl (τ.1, 4, .inl (fun _ => 0))), (q158, .inl (τ.1, 4, .inl (fun _ => 0))), (q159, .inl (τ.1, 4, .inl (fun _ => 0))), (q160, .inl (τ.1, 4, .inl (fun _ => 0))), (q161, .inl (τ.1, 4, .inl (fun _ => 0)))] H := hP
  have hD : va_D A [(h0, .inr (14, [.int 0, .ref me, .ref q153, .ref q154, .ref q155, .ref q156, .ref q157, .ref q158, .ref q159, .ref q160, .ref q161])), (q153, .inl (τ.1, 32, .inl (upd f167 (27 : Int32).toNatClampNeg 1))), (q154, .inl (τ.1, 16, .inl (fun _ => 0))), (q155, .inl (τ.1, 4, .inl (fun _ => 0))), (q156, .inl (τ.1, 4, .inl (fun _ => 0))), (q157, .inl (τ.1, 4, .inl (fun _ => 0))), (q158, .inl (τ.1, 4, .inl (fun _ => 0))), (q159, .inl (τ.1, 4, .inl (fun _ => 0))), (q160, .inl (τ.1, 4, .inl (fun _ => 0))), (q161, .inl (τ.1, 4, .inl (fun _ => 0)))] := hD
  generalize upd f167 (27 : Int32).toNatClampNeg 1 = f169 at hP hD
  refine lv_iinc (v := 4) (lv' := [(2, .int 4), (0, .ref h0), (1, .ref me)]) hx hb d_Txm_init_93 hl (k := 0) rfl (by decide) (by decide) rfl (fun ls hl => ?_)
  refine lv_goto (tgt := 76) hx hb d_Txm_init_96 (by decide) ?_
  refine lv_iload_n hx hb d_Txm_init_76 rfl (lv_at hl 0 rfl) ?_
  refine lv_iconst (v := 4) hx hb d_Txm_init_77 (by decide) ?_
  refine lv_icmp_ge (tgt := 99) hx hb d_Txm_init_78 (by decide) (fun c_170 => ?_) (fun c_170 => absurd c_170 (by decide))
  refine W.widen (k := 9) (n := 76) (Nat.le_of_ble_eq_true rfl) (Nat.le_of_ble_eq_true rfl) ?_
  have hP9 := hP.sub (ws' := [(h0, .inr (14, [.int 0, .ref me, .ref q153, .ref q154, .ref q155, .ref q156, .ref q157, .ref q158, .ref q159, .ref q160, .ref q161])), (q153, .inl (τ.1, 32, .inl f169)), (q154, .inl (τ.1, 16, .inl (fun _ => 0))), (q155, .inl (τ.1, 4, .inl (fun _ => 0))), (q156, .inl (τ.1, 4, .inl (fun _ => 0))), (q157, .inl (τ.1, 4, .inl (fun _ => 0))), (q158, .inl (τ.1, 4, .inl (fun _ => 0))), (q159, .inl (τ.1, 4, .inl (fun _ => 0))), (q160, .inl (τ.1, 4, .inl (fun _ => 0))), (q161, .inl (τ.1, 4, .inl (fun _ => 0)))]) [0, 1, 2, 3, 4, 5, 6, 7, 8, 9] rfl
  have hD9 := hD.sub (ws' := [(h0, .inr (14, [.int 0, .ref me, .ref q153, .ref q154, .ref q155, .ref q156, .ref q157, .ref q158, .ref q159, .ref q160, .ref q161])), (q153, .inl (τ.1, 32, .inl f169)), (q154, .inl (τ.1, 16, .inl (fun _ => 0))), (q155, .inl (τ.1, 4, .inl (fun _ => 0))), (q156, .inl (τ.1, 4, .inl (fun _ => 0))), (q157, .inl (τ.1, 4, .inl (fun _ => 0))), (q158, .inl (τ.1, 4, .inl (fun _ => 0))), (q159, .inl (τ.1, 4, .inl (fun _ => 0))), (q160, .inl (τ.1, 4, .inl (fun _ => 0))), (q161, .inl (τ.1, 4, .inl (fun _ => 0)))]) [0, 1, 2, 3, 4, 5, 6, 7, 8, 9] (by decide) rfl
  exact W.vret hx hb hr (fun t ht hW => ⟨⟨(q153, q154, q155, q156, q157, q158, q159, q160, q161, f169), rfl, trivial, by rw [ht]; exact hP9, va_K.moved hW.alike hC.1, hD9⟩, hS.F ht⟩) hS.2.2 d_Txm_init_99

theorem d_Shm_init_0 : decode prog_18_method_1_code 0 = .ok (.aload_n 0, 1) := by decide +kernel
theorem d_Shm_init_1 : decode prog_18_method_1_code 1 = .ok (.invokespecial 1, 3) := by decide +kernel
theorem d_Shm_init_4 : decode prog_18_method_1_code 4 = .ok (.aload_n 0, 1) := by decide +kernel
theorem d_Shm_init_5 : decode prog_18_method_1_code 5 = .ok (.sipush 768, 3) := by decide +kernel
theorem d_Shm_init_8 : decode prog_18_method_1_code 8 = .ok (.newarray .int, 2) := by decide +kernel
theorem d_Shm_init_10 : decode prog_18_method_1_code 10 = .ok (.putfield 7, 3) := by decide +kernel
theorem d_Shm_init_13 : decode prog_18_method_1_code 13 = .ok (.aload_n 0, 1) := by decide +kernel
theorem d_Shm_init_14 : decode prog_18_method_1_code 14 = .ok (.sipush 768, 3) := by decide +kernel
theorem d_Shm_init_17 : decode prog_18_method_1_code 17 = .ok (.newarray .int, 2) := by decide +kernel
theorem d_Shm_init_19 : decode prog_18_method_1_code 19 = .ok (.putfield 13, 3) := by decide +kernel
theorem d_Shm_init_22 : decode prog_18_method_1_code 22 = .ok (.aload_n 0, 1) := by decide +kernel
theorem d_Shm_init_23 : decode prog_18_method_1_code 23 = .ok (.iconst (-1), 1) := by decide +kernel
theorem d_Shm_init_24 : decode prog_18_method_1_code 24 = .ok (.putfield 16, 3) := by decide +kernel
theorem d_Shm_init_27 : decode prog_18_method_1_code 27 = .ok (.aload_n 0, 1) := by decide +kernel
theorem d_Shm_init_28 : decode prog_18_method_1_code 28 = .ok (.bipush 64, 2) := by decide +kernel
theorem d_Shm_init_30 : decode prog_18_method_1_code 30 = .ok (.newarray .int, 2) := by decide +kernel
theorem d_Shm_init_32 : decode prog_18_method_1_code 32 = .ok (.putfield 20, 3) := by decide +kernel
theorem d_Shm_init_35 : decode prog_18_method_1_code 35 = .ok (.aload_n 0, 1) := by decide +kernel
theorem d_Shm_init_36 : decode prog_18_method_1_code 36 = .ok (.bipush 32, 2) := by decide +kernel
theorem d_Shm_init_38 : decode prog_18_method_1_code 38 = .ok (.newarray .int, 2) := by decide +kernel
theorem d_Shm_init_40 : decode prog_18_method_1_code 40 = .ok (.putfield 23, 3) := by decide +kernel
theorem d_Shm_init_43 : decode prog_18_method_1_code 43 = .ok (.aload_n 0, 1) := by decide +kernel
theorem d_Shm_init_44 : decode prog_18_method_1_code 44 = .ok (.bipush 32, 2) := by decide +kernel
theorem d_Shm_init_46 : decode prog_18_method_1_code 46 = .ok (.newarray .int, 2) := by decide +kernel
theorem d_Shm_init_48 : decode prog_18_method_1_code 48 = .ok (.putfield 26, 3) := by decide +kernel
theorem d_Shm_init_51 : decode prog_18_method_1_code 51 = .ok (.aload_n 0, 1) := by decide +kernel
theorem d_Shm_init_52 : decode prog_18_method_1_code 52 = .ok (.sipush 128, 3) := by decide +kernel
theorem d_Shm_init_55 : decode prog_18_method_1_code 55 = .ok (.newarray .int, 2) := by decide +kernel
theorem d_Shm_init_57 : decode prog_18_method_1_code 57 = .ok (.putfield 29, 3) := by decide +kernel
theorem d_Shm_init_60 : decode prog_18_method_1_code 60 = .ok (.aload_n 0, 1) := by decide +kernel
theorem d_Shm_init_61 : decode prog_18_method_1_code 61 = .ok (.bipush 12, 2) := by decide +kernel
theorem d_Shm_init_63 : decode prog_18_method_1_code 63 = .ok (.newarray .int, 2) := by decide +kernel
theorem d_Shm_init_65 : decode prog_18_method_1_code 65 = .ok (.putfield 32, 3) := by decide +kernel
theorem d_Shm_init_68 : decode prog_18_method_1_code 68 = .ok (.aload_n 0, 1) := by decide +kernel
theorem d_Shm_init_69 : decode prog_18_method_1_code 69 = .ok (.iconst 4, 1) := by decide +kernel
theorem d_Shm_init_70 : decode prog_18_method_1_code 70 = .ok (.newarray .int, 2) := by decide +kernel
theorem d_Shm_init_72 : decode prog_18_method_1_code 72 = .ok (.putfield 35, 3) := by decide +kernel
theorem d_Shm_init_75 : decode prog_18_method_1_code 75 = .ok (.aload_n 0, 1) := by decide +kernel
theorem d_Shm_init_76 : decode prog_18_method_1_code 76 = .ok (.sipush 256, 3) := by decide +kernel
theorem d_Shm_init_79 : decode prog_18_method_1_code 79 = .ok (.newarray .int, 2) := by decide +kernel
theorem d_Shm_init_81 : decode prog_18_method_1_code 81 = .ok (.putfield 38, 3) := by decide +kernel
theorem d_Shm_init_84 : decode prog_18_method_1_code 84 = .ok (.aload_n 0, 1) := by decide +kernel
theorem d_Shm_init_85 : decode prog_18_method_1_code 85 = .ok (.sipush 256, 3) := by decide +kernel
theorem d_Shm_init_88 : decode prog_18_method_1_code 88 = .ok (.newarray .int, 2) := by decide +kernel
theorem d_Shm_init_90 : decode prog_18_method_1_code 90 = .ok (.putfield 41, 3) := by decide +kernel
theorem d_Shm_init_93 : decode prog_18_method_1_code 93 = .ok (.aload_n 0, 1) := by decide +kernel
theorem d_Shm_init_94 : decode prog_18_method_1_code 94 = .ok (.aload_n 1, 1) := by decide +kernel
theorem d_Shm_init_95 : decode prog_18_method_1_code 95 = .ok (.putfield 44, 3) := by decide +kernel
theorem d_Shm_init_98 : decode prog_18_method_1_code 98 = .ok (.aload_n 0, 1) := by decide +kernel
theorem d_Shm_init_99 : decode prog_18_method_1_code 99 = .ok (.aload_n 2, 1) := by decide +kernel
theorem d_Shm_init_100 : decode prog_18_method_1_code 100 = .ok (.putfield 47, 3) := by decide +kernel
theorem d_Shm_init_103 : decode prog_18_method_1_code 103 = .ok (.return_, 1) := by decide +kernel
set_option maxHeartbeats 4000000 in
set_option maxRecDepth 100000 in
theorem c_Shm_init (l : Launch) (D : va_G) (τ : ClassId × ClassId × ClassId) (B sz : Nat) (h0 : Nat) (me : Nat) (un : Nat) : Met l y_Shm_init ((Cond.code y_Shm_init prog_18_method_1_code 3 none) :: tw) ({ frames := 20, cells := 10, slots := 2320, locals := 2000 }) (va_Pc [.ref h0, .ref me, .ref un] (wP D τ B sz [(h0, .inr (15, [.int 0, .null, .null, .null, .null, .int 0, .int 0, .int 0, .int 0, .null, .null, .null, .null, .null, .null, .int 0, .null, .null]))])) (va_Qv (S := Nat × Nat × Nat × Nat × Nat × Nat × Nat × Nat × Nat × Nat) (fun _ => True) (fun u => wB D τ (va_A [(h0, .inr (15, [.int 0, .null, .null, .null, .null, .int 0, .int 0, .int 0, .int 0, .null, .null, .null, .null, .null, .null, .int 0, .null, .null]))] sz) ((fun u : Nat × Nat × Nat × Nat × Nat × Nat × Nat × Nat × Nat × Nat => match u with | (q171, q172, q173, q174, q175, q176, q177, q178, q179, q180) => [(h0, .inr (15, [.int 0, .ref me, .ref un, .ref q171, .ref q172, .int 0, .int 0, .int (-1), .int 0, .ref q173, .ref q174, .ref q175, .ref q176, .ref q177, .ref q178, .int 0, .ref q179, .ref q180])), (q171, .inl (τ.1, 768, .inl (fun _ => 0))), (q172, .inl (τ.1, 768, .inl (fun _ => 0))), (q173, .inl (τ.1, 64, .inl (fun _ => 0))), (q174, .inl (τ.1, 32, .inl (fun _ => 0))), (q175, .inl (τ.1, 32, .inl (fun _ => 0))), (q176, .inl (τ.1, 128, .inl (fun _ => 0))), (q177, .inl (τ.1, 12, .inl (fun _ => 0))), (q178, .inl (τ.1, 4, .inl (fun _ => 0))), (q179, .inl (τ.1, 256, .inl (fun _ => 0))), (q180, .inl (τ.1, 256, .inl (fun _ => 0)))]) u)) (va_A [(h0, .inr (15, [.int 0, .null, .null, .null, .null, .int 0, .int 0, .int 0, .int 0, .null, .null, .null, .null, .null, .null, .int 0, .null, .null]))] sz)) 10 2320 (va_A [(h0, .inr (15, [.int 0, .null, .null, .null, .null, .int 0, .int 0, .int 0, .int 0, .null, .null, .null, .null, .null, .null, .int 0, .null, .null]))] sz) := by
  refine Met.ofW (cc := prog_18_method_1_code) (maxL := 3) (ret := none) (by decide) rfl ?_
  intro p e s m args below meth c s₁ B0 hml hv
  obtain ⟨rfl, hv⟩ := hv
  have hx := B0.exec
  have hb := B0.bytes
  have hr := B0.returns
  have hts := atoms_spec (ws := (Cond.code y_Shm_init prog_18_method_1_code 3 none) :: tw) B0.pre
  have htw : ∀ w ∈ tw, w.before _ s = true := fun w hw => hts w (List.mem_cons_of_mem _ hw)
  have hown : s.vm.findClass "DrawingMachineModel$ShaderMachineModel" = some m.cls := findClass_of_methodNamed B0.named
  have hlocks := B0.notSynchronized
  have hin : meth.name = "<init>" := (name_of_methodNamed B0.named B0.method).1
  obtain ⟨hC, hP, hD, hsz⟩ := wC_init hv
  subst hsz
  generalize hAe : va_A [(h0, .inr (15, [.int 0, .null, .null, .null, .null, .int 0, .int 0, .int 0, .int 0, .null, .null, .null, .null, .null, .null, .int 0, .null, .null]))] s.heap.size = A at hC hD ⊢
  have hS : va_S A s.heap s.heap [] := va_S.rf
  have hl := lv_entry ([.ref h0, .ref me, .ref un]) (n := 3) (Nat.le_of_ble_eq_true rfl)
  rw [lg_entry_eq]
  generalize (lg_sl ([.ref h0, .ref me, .ref un]) ++ List.replicate (3 - (lg_sl ([.ref h0, .ref me, .ref un])).length) Slot.unset).toArray = ls at hl ⊢
  have hl : lv_has ls 3 [(0, .ref h0), (1, .ref me), (2, .ref un)] := hl
  refine lv_aload_n hx hb d_Shm_init_0 rfl (lv_at hl 0 rfl) ?_
  refine W.objInit hx hb hown (htw _ k1552) (htw _ k46) (htw _ k47) rfl (by rw [hml]; exact hl.1) rfl d_Shm_init_1 (Nat.le_of_ble_eq_true rfl) (Nat.le_of_ble_eq_true rfl) ?_
  refine W.eq (g2 := F0 m 4 ls []) rfl ?_
  refine lv_aload_n hx hb d_Shm_init_4 rfl (lv_at hl 0 rfl) ?_
  refine lv_sipush (v := 768) hx hb d_Shm_init_5 (by decide) ?_
  refine wna_i hx hb (htw _ k71) hC hP hD hS (N := 768) (by decide) (by omega) (Nat.le_of_ble_eq_true rfl) (Nat.le_of_ble_eq_true rfl) d_Shm_init_8 (fun q171 H hP hD hS => ?_)
  have hP : va_P D classes [(h0, .inr (15, [.int 0, .null, .null, .null, .null, .int 0, .int 0, .int 0, .int 0, .null, .null, .null, .null, .null, .null, .int 0, .null, .null])), (q171, .inl (τ.1, 768, .inl (fun _ => 0)))] H := hP
  have hD : va_D A [(h0, .inr (15, [.int 0, .null, .null, .null, .null, .int 0, .int 0, .int 0, .int 0, .null, .null, .null, .null, .null, .null, .int 0, .null, .null])), (q171, .inl (τ.1, 768, .inl (fun _ => 0)))] := hD
  refine W.widen (k := 1) (n := 768) (by omega) (by omega) ?_
  refine va_putF (D := D) (ci := 15) (v := .ref q171) (ty := .array .int) (C := R_Shm) (T := F_Shm) (N := 18) hx hb htw i_Shm t_Shm t_Shm_ok n_Shm hown hC.1 hP hD hS 0 rfl rfl 3 (by decide) (htw _ k1556) (fun _ h9 => h9) rfl hin rfl (by decide +kernel) rfl rfl (Nat.le_of_ble_eq_true rfl) d_Shm_init_10 (fun H locs hP hD hS => ?_)
  have hP : va_P D classes [(h0, .inr (15, [.int 0, .null, .null, .ref q171, .null, .int 0, .int 0, .int 0, .int 0, .null, .null, .null, .null, .null, .null, .int 0, .null, .null])), (q171, .inl (τ.1, 768, .inl (fun _ => 0)))] H := hP
  have hD : va_D A [(h0, .inr (15, [.int 0, .null, .null, .ref q171, .null, .int 0, .int 0, .int 0, .int 0, .null, .null, .null, .null, .null, .null, .int 0, .null, .null])), (q171, .inl (τ.1, 768, .inl (fun _ => 0)))] := hD
  refine lv_aload_n hx hb d_Shm_init_13 rfl (lv_at hl 0 rfl) ?_
  refine lv_sipush (v := 768) hx hb d_Shm_init_14 (by decide) ?_
  refine wna_i hx hb (htw _ k71) hC hP hD hS (N := 768) (by decide) (by omega) (Nat.le_of_ble_eq_true rfl) (Nat.le_of_ble_eq_true rfl) d_Shm_init_17 (fun q172 H hP hD hS => ?_)
  have hP : va_P D classes [(h0, .inr (15, [.int 0, .null, .null, .ref q171, .null, .int 0, .int 0, .int 0, .int 0, .null, .null, .null, .null, .null, .null, .int 0, .null, .null])), (q171, .inl (τ.1, 768, .inl (fun _ => 0))), (q172, .inl (τ.1, 768, .inl (fun _ => 0)))] H := hP
  have hD : va_D A [(h0, .inr (15, [.int 0, .null, .null, .ref q171, .null, .int 0, .int 0, .int 0, .int 0, .null, .null, .null, .null, .null, .null, .int 0, .null, .null])), (q171, .inl (τ.1, 768, .inl (fun _ => 0))), (q172, .inl (τ.1, 768, .inl (fun _ => 0)))] := hD
  refine W.widen (k := 2) (n := 1536) (by omega) (by omega) ?_
  refine va_putF (D := D) (ci := 15) (v := .ref q172) (ty := .array .int) (C := R_Shm) (T := F_Shm) (N := 18) hx hb htw i_Shm t_Shm t_Shm_ok n_Shm hown hC.1 hP hD hS 0 rfl rfl 4 (by decide) (htw _ k1557) (fun _ h9 => h9) rfl hin rfl (by decide +kernel) rfl rfl (Nat.le_of_ble_eq_true rfl) d_Shm_init_19 (fun H locs hP hD hS => ?_)
  have hP : va_P D classes [(h0, .inr (15, [.int 0, .null, .null, .ref q171, .ref q172, .int 0, .int 0, .int 0, .int 0, .null, .null, .null, .null, .null, .null, .int 0, .null, .null])), (q171, .inl (τ.1, 768, .inl (fun _ => 0))), (q172, .inl (τ.1, 768, .inl (fun _ => 0)))] H := hP
  have hD : va_D A [(h0, .inr (15, [.int 0, .null, .null, .ref q171, .ref q172, .int 0, .int 0, .int 0, .int 0, .null, .null, .null, .null, .null, .null, .int 0, .null, .null])), (q171, .inl (τ.1, 768, .inl (fun _ => 0))), (q172, .inl (τ.1, 768, .inl (fun _ => 0)))] := hD
  refine lv_aload_n hx hb d_Shm_init_22 rfl (lv_at hl 0 rfl) ?_
  refine lv_iconst (v := (-1)) hx hb d_Shm_init_23 (by decide) ?_
  refine va_put (D := D) (ci := 15) (v := .int (-1)) (ty := .int) (C := R_Shm) (T := F_Shm) (N := 18) hx hb htw i_Shm t_Shm t_Shm_ok n_Shm hown hC.1 hP hD hS 0 rfl rfl 7 (by decide) (htw _ k1561) (fun _ h9 => h9) rfl (by decide +kernel) rfl rfl (Nat.le_of_ble_eq_true rfl) d_Shm_init_24 (fun H locs hP hD hS => ?_)
  have hP : va_P D classes [(h0, .inr (15, [.int 0, .null, .null, .ref q171, .ref q172, .int 0, .int 0, .int (-1), .int 0, .null, .null, .null, .null, .null, .null, .int 0, .null, .null])), (q171, .inl (τ.1, 768, .inl (fun _ => 0))), (q172, .inl (τ.1, 768, .inl (fun _ => 0)))] H := hP
  have hD : va_D A [(h0, .inr (15, [.int 0, .null, .null, .ref q171, .ref q172, .int 0, .int 0, .int (-1), .int 0, .null, .null, .null, .null, .null, .null, .int 0, .null, .null])), (q171, .inl (τ.1, 768, .inl (fun _ => 0))), (q172, .inl (τ.1, 768, .inl (fun _ => 0)))] := hD
  refine lv_aload_n hx hb d_Shm_init_27 rfl (lv_at hl 0 rfl) ?_
  refine lv_bipush (v := 64) hx hb d_Shm_init_28 (by decide) ?_
  refine wna_i hx hb (htw _ k71) hC hP hD hS (N := 64) (by decide) (by omega) (Nat.le_of_ble_eq_true rfl) (Nat.le_of_ble_eq_true rfl) d_Shm_init_30 (fun q173 H hP hD hS => ?_)
  have hP : va_P D classes [(h0, .inr (15, [.int 0, .null, .null, .ref q171, .ref q172, .int 0, .int 0, .int (-1), .int 0, .null, .null, .null, .null, .null, .null, .int 0, .null, .null])), (q171, .inl (τ.1, 768, .inl (fun _ => 0))), (q172, .inl (τ.1, 768, .inl (fun _ => 0))), (q173, .inl (τ.1, 64, .inl (fun _ => 0)))] H := hP
  have hD : va_D A [(h0, .inr (15, [.int 0, .null, .null, .ref q171, .ref q172, .int 0, .int 0, .int (-1), .int 0, .null, .null, .null, .null, .null, .null, .int 0, .null, .null])), (q171, .inl (τ.1, 768, .inl (fun _ => 0))), (q172, .inl (τ.1, 768, .inl (fun _ => 0))), (q173, .inl (τ.1, 64, .inl (fun _ => 0)))] := hD
  refine W.widen (k := 3) (n := 1600) (by omega) (by omega) ?_
  refine va_putF (D := D) (ci := 15) (v := .ref q173) (ty := .array .int) (C := R_Shm) (T := F_Shm) (N := 18) hx hb htw i_Shm t_Shm t_Shm_ok n_Shm hown hC.1 hP hD hS 0 rfl rfl 9 (by decide) (htw _ k1564) (fun _ h9 => h9) rfl hin rfl (by decide +kernel) rfl rfl (Nat.le_of_ble_eq_true rfl) d_Shm_init_32 (fun H locs hP hD hS => ?_)
  have hP : va_P D classes [(h0, .inr (15, [.int 0, .null, .null, .ref q171, .ref q172, .int 0, .int 0, .int (-1), .int 0, .ref q173, .null, .null, .null, .null, .null, .int 0, .null, .null])), (q171, .inl (τ.1, 768, .inl (fun _ => 0))), (q172, .inl (τ.1, 768, .inl (fun _ => 0))), (q173, .inl (τ.1, 64, .inl (fun _ => 0)))] H := hP
  have hD : va_D A [(h0, .inr (15, [.int 0, .null, .null, .ref q171, .ref q172, .int 0, .int 0, .int (-1), .int 0, .ref q173, .null, .null, .null, .null, .null, .int 0, .null, .null])), (q171, .inl (τ.1, 768, .inl (fun _ => 0))), (q172, .inl (τ.1, 768, .inl (fun _ => 0))), (q173, .inl (τ.1, 64, .inl (fun _ => 0)))] := hD
  refine lv_aload_n hx hb d_Shm_init_35 rfl (lv_at hl 0 rfl) ?_
  refine lv_bipush (v := 32) hx hb d_Shm_init_36 (by decide) ?_
  refine wna_i hx hb (htw _ k71) hC hP hD hS (N := 32) (by decide) (by omega) (Nat.le_of_ble_eq_true rfl) (Nat.le_of_ble_eq_true rfl) d_Shm_init_38 (fun q174 H hP hD hS => ?_)
  have hP : va_P D classes [(h0, .inr (15, [.int 0, .null, .null, .ref q171, .ref q172, .int 0, .int 0, .int (-1), .int 0, .ref q173, .null, .null, .null, .null, .null, .int 0, .null, .null])), (q171, .inl (τ.1, 768, .inl (fun _ => 0))), (q172, .inl (τ.1, 768, .inl (fun _ => 0))), (q173, .inl (τ.1, 64, .inl (fun _ => 0))), (q174, .inl (τ.1, 32, .inl (fun _ => 0)))] H := hP
  have hD : va_D A [(h0, .inr (15, [.int 0, .null, .null, .ref q171, .ref q172, .int 0, .int 0, .int (-1), .int 0, .ref q173, .null, .null, .null, .null, .null, .int 0, .null, .null])), (q171, .inl (τ.1, 768, .inl (fun _ => 0))), (q172, .inl (τ.1, 768, .inl (fun _ => 0))), (q173, .inl (τ.1, 64, .inl (fun _ => 0))), (q174, .inl (τ.1, 32, .inl (fun _ => 0)))] := hD
  refine W.widen (k := 4) (n := 1632) (by omega) (by omega) ?_
  refine va_putF (D := D) (ci := 15) (v := .ref q174) (ty := .array .int) (C := R_Shm) (T := F_Shm) (N := 18) hx hb htw i_Shm t_Shm t_Shm_ok n_Shm hown hC.1 hP hD hS 0 rfl rfl 10 (by decide) (htw _ k1565) (fun _ h9 => h9) rfl hin rfl (by decide +kernel) rfl rfl (Nat.le_of_ble_eq_true rfl) d_Shm_init_40 (fun H locs hP hD hS => ?_)
  have hP : va_P D classes [(h0, .inr (15, [.int 0, .null, .null, .ref q171, .ref q172, .int 0, .int 0, .int (-1), .int 0, .ref q173, .ref q174, .null, .null, .null, .null, .int 0, .null, .null])), (q171, .inl (τ.1, 768, .inl (fun _ => 0))), (q172, .inl (τ.1, 768, .inl (fun _ => 0))), (q173, .inl (τ.1, 64, .inl (fun _ => 0))), (q174, .inl (τ.1, 32, .inl (fun _ => 0)))] H := hP
  have hD : va_D A [(h0, .inr (15, [.int 0, .null, .null, .ref q171, .ref q172, .int 0, .int 0, .int (-1), .int 0, .ref q173, .ref q174, .null, .null, .null, .null, .int 0, .null, .null])), (q171, .inl (τ.1, 768, .inl (fun _ => 0))), (q172, .inl (τ.1, 768, .inl (fun _ => 0))), (q173, .inl (τ.1, 64, .inl (fun _ => 0))), (q174, .inl (τ.1, 32, .inl (fun _ => 0)))] := hD
  refine lv_aload_n hx hb d_Shm_init_43 rfl (lv_at hl 0 rfl) ?_
  refine lv_bipush (v := 32) hx hb d_Shm_init_44 (by decide) ?_
  refine wna_i hx hb (htw _ k71) hC hP hD hS (N := 32) (by decide) (by omega) (Nat.le_of_ble_eq_true rfl) (Nat.le_of_ble_eq_true rfl) d_Shm_init_46 (fun q175 H hP hD hS => ?_)
  have hP : va_P D classes [(h0, .inr (15, [.int 0, .null, .null, .ref q171, .ref q172, .int 0, .int 0, .int (-1), .int 0, .ref q173, .ref q174, .null, .null, .null, .null, .int 0, .null, .null])), (q171, .inl (τ.1, 768, .inl (fun _ => 0))), (q172, .inl (τ.1, 768, .inl (fun _ => 0))), (q173, .inl (τ.1, 64, .inl (fun _ => 0))), (q174, .inl (τ.1, 32, .inl (fun _ => 0))), (q175, .inl (τ.1, 32, .inl (fun _ => 0)))] H := hP
  have hD : va_D A [(h0, .inr (15, [.int 0, .null, .null, .ref q171, .ref q172, .int 0, .int 0, .int (-1), .int 0, .ref q173, .ref q174, .null, .null, .null, .null, .int 0, .null, .null])), (q171, .inl (τ.1, 768, .inl (fun _ => 0))), (q172, .inl (τ.1, 768, .inl (fun _ => 0))), (q173, .inl (τ.1, 64, .inl (fun _ => 0))), (q174, .inl (τ.1, 32, .inl (fun _ => 0))), (q175, .inl (τ.1, 32, .inl (fun _ => 0)))] := hD
  refine W.widen (k := 5) (n := 1664) (by omega) (by omega) ?_
  refine va_putF (D := D) (ci := 15) (v := .ref q175) (ty := .array .int) (C := R_Shm) (T := F_Shm) (N := 18) hx hb htw i_Shm t_Shm t_Shm_ok n_Shm hown hC.1 hP hD hS 0 rfl rfl 11 (by decide) (htw _ k1567) (fun _ h9 => h9) rfl hin rfl (by decide +kernel) rfl rfl (Nat.le_of_ble_eq_true rfl) d_Shm_init_48 (fun H locs hP hD hS => ?_)
  have hP : va_P D classes [(h0, .inr (15, [.int 0, .null, .null, .ref q171, .ref q172, .int 0, .int 0, .int (-1), .int 0, .ref q173, .ref q174, .ref q175, .null, .null, .null, .int 0, .null, .null])), (q171, .inl (τ.1, 768, .inl (fun _ => 0))), (q172, .inl (τ.1, 768, .inl (fun _ => 0))), (q173, .inl (τ.1, 64, .inl (fun _ => 0))), (q174, .inl (τ.1, 32, .inl (fun _ => 0))), (q175, .inl (τ.1, 32, .inl (fun _ => 0)))] H := hP
  have hD : va_D A [(h0, .inr (15, [.int 0, .null, .null, .ref q171, .ref q172, .int 0, .int 0, .int (-1), .int 0, .ref q173, .ref q174, .ref q175, .null, .null, .null, .int 0, .null, .null])), (q171, .inl (τ.1, 768, .inl (fun _ => 0))), (q172, .inl (τ.1, 768, .inl (fun _ => 0))), (q173, .inl (τ.1, 64, .inl (fun _ => 0))), (q174, .inl (τ.1, 32, .inl (fun _ => 0))), (q175, .inl (τ.1, 32, .inl (fun _ => 0)))] := hD
  refine lv_aload_n hx hb d_Shm_init_51 rfl (lv_at hl 0 rfl) ?_
  refine lv_sipush (v := 128) hx hb d_Shm_init_52 (by decide) ?_
  refine wna_i hx hb (htw _ k71) hC hP hD hS (N := 128) (by decide) (by omega) (Nat.le_of_ble_eq_true rfl) (Nat.le_of_ble_eq_true rfl) d_Shm_init_55 (fun q176 H hP hD hS => ?_)
  have hP : va_P D classes [(h0, .inr (15, [.int 0, .null, .null, .ref q171, .ref q172, .int 0, .int 0, .int (-1), .int 0, .ref q173, .ref q174, .ref q175, .null, .null, .null, .int 0, .null, .null])), (q171, .inl (τ.1, 768, .inl (fun _ => 0))), (q172, .inl (τ.1, 768, .inl (fun _ => 0))), (q173, .inl (τ.1, 64, .inl (fun _ => 0))), (q174, .inl (τ.1, 32, .inl (fun _ => 0))), (q175, .inl (τ.1, 32, .inl (fun _ => 0))), (q176, .inl (τ.1, 128, .inl (fun _ => 0)))] H := hP
  have hD : va_D A [(h0, .inr (15, [.int 0, .null, .null, .ref q171, .ref q172, .int 0, .int 0, .int (-1), .int 0, .ref q173, .ref q174, .ref q175, .null, .null, .null, .int 0, .null, .null])), (q171, .inl (τ.1, 768, .inl (fun _ => 0))), (q172, .inl (τ.1, 768, .inl (fun _ => 0))), (q173, .inl (τ.1, 64, .inl (fun _ => 0))), (q174, .inl (τ.1, 32, .inl (fun _ => 0))), (q175, .inl (τ.1, 32, .inl (fun _ => 0))), (q176, .inl (τ.1, 128, .inl (fun _ => 0)))] := hD
  refine W.widen (k := 6) (n := 1792) (by omega) (by omega) ?_
  refine va_putF (D := D) (ci := 15) (v := .ref q176) (ty := .array .int) (C := R_Shm) (T := F_Shm) (N := 18) hx hb htw i_Shm t_Shm t_Shm_ok n_Shm hown hC.1 hP hD hS 0 rfl rfl 12 (by decide) (htw _ k1569) (fun _ h9 => h9) rfl hin rfl (by decide +kernel) rfl rfl (Nat.le_of_ble_eq_true rfl) d_Shm_init_57 (fun H locs hP hD hS => ?_)
  have hP : va_P D classes [(h0, .inr (15, [.int 0, .null, .null, .ref q171, .ref q172, .int 0, .int 0, .int (-1), .int 0, .ref q173, .ref q174, .ref q175, .ref q176, .null, .null, .int 0, .null, .null])), (q171, .inl (τ.1, 768, .inl (fun _ => 0))), (q172, .inl (τ.1, 768, .inl (fun _ => 0))), (q173, .inl (τ.1, 64, .inl (fun _ => 0))), (q174, .inl (τ.1, 32, .inl (fun _ => 0))), (q175, .inl (τ.1, 32, .inl (fun _ => 0))), (q176, .inl (τ.1, 128, .inl (fun _ => 0)))] H := hP
  have hD : va_D A [(h0, .inr (15, [.int 0, .null, .null, .ref q171, .ref q172, .int 0, .int 0, .int (-1), .int 0, .ref q173, .ref q174, .ref q175, .ref q176, .null, .null, .int 0, .null, .null])), (q171, .inl (τ.1, 768, .inl (fun _ => 0))), (q172, .inl (τ.1, 768, .inl (fun _ => 0))), (q173, .inl (τ.1, 64, .inl (fun _ => 0))), (q174, .inl (τ.1, 32, .inl (fun _ => 0))), (q175, .inl (τ.1, 32, .inl (fun _ => 0))), (q176, .inl (τ.1, 128, .inl (fun _ => 0)))] := hD
  refine lv_aload_n hx hb d_Shm_init_60 rfl (lv_at hl 0 rfl) ?_
  refine lv_bipush (v := 12) hx hb d_Shm_init_61 (by decide) ?_
  refine wna_i hx hb (htw _ k71) hC hP hD hS (N := 12) (by decide) (by omega) (Nat.le_of_ble_eq_true rfl) (Nat.le_of_ble_eq_true rfl) d_Shm_init_63 (fun q177 H hP hD hS => ?_)
  have hP : va_P D classes [(h0, .inr (15, [.int 0, .null, .null, .ref q171, .ref q172, .int 0, .int 0, .int (-1), .int 0, .ref q173, .ref q174, .ref q175, .ref q176, .null, .null, .int 0, .null, .null])), (q171, .inl (τ.1, 768, .inl (fun _ => 0))), (q172, .inl (τ.1, 768, .inl (fun _ => 0))), (q173, .inl (τ.1, 64, .inl (fun _ => 0))), (q174, .inl (τ.1, 32, .inl (fun _ => 0))), (q175, .inl (τ.1, 32, .inl (fun _ => 0))), (q176, .inl (τ.1, 128, .inl (fun _ => 0))), (q177, .inl (τ.1, 12, .inl (fun _ => 0)))] H := hP
  have hD : va_D A [(h0, .inr (15, [.int 0, .null, .null, .ref q171, .ref q172, .int 0, .int 0, .int (-1), .int 0, .ref q173, .ref q174, .ref q175, .ref q176, .null, .null, .int 0, .null, .null])), (q171, .inl (τ.1, 768, .inl (fun _ => 0))), (q172, .inl (τ.1, 768, .inl (fun _ => 0))), (q173, .inl (τ.1, 64, .inl (fun _ => 0))), (q174, .inl (τ.1, 32, .inl (fun _ => 0))), (q175, .inl (τ.1, 32, .inl (fun _ => 0))), (q176, .inl (τ.1, 128, .inl (fun _ => 0))), (q177, .inl (τ.1, 12, .inl (fun _ => 0)))] := hD
  refine W.widen (k := 7) (n := 1804) (by omega) (by omega) ?_
  refine va_putF (D := D) (ci := 15) (v := .ref q177) (ty := .array .int) (C := R_Shm) (T := F_Shm) (N := 18) hx hb htw i_Shm t_Shm t_Shm_ok n_Shm hown hC.1 hP hD hS 0 rfl rfl 13 (by decide) (htw _ k1571) (fun _ h9 => h9) rfl hin rfl (by decide +kernel) rfl rfl (Nat.le_of_ble_eq_true rfl) d_Shm_init_65 (fun H locs hP hD hS => ?_)
  have hP : va_P D classes [(h0, .inr (15, [.int 0, .null, .null, .ref q171, .ref q172, .int 0, .int 0, .int (-1), .int 0, .ref q173, .ref q174, .ref q175, .ref q176, .ref q177, .null, .int 0, .null, .null])), (q171, .inl (τ.1, 768, .inl (fun _ => 0))), (q172, .inl (τ.1, 768, .inl (fun _ => 0))), (q173, .inl (τ.1, 64, .inl (fun _ => 0))), (q174, .inl (τ.1, 32, .inl (fun _ => 0))), (q175, .inl (τ.1, 32, .inl (fun _ => 0))), (q176, .inl (τ.1, 128, .inl (fun _ => 0))), (q177, .inl (τ.1, 12, .inl (fun _ => 0)))] H := hP
  have hD : va_D A [(h0, .inr (15, [.int 0, .null, .null, .ref q171, .ref q172, .int 0, .int 0, .int (-1), .int 0, .ref q173, .ref q174, .ref q175, .ref q176, .ref q177, .null, .int 0, .null, .null])), (q171, .inl (τ.1, 768, .inl (fun _ => 0))), (q172, .inl (τ.1, 768, .inl (fun _ => 0))), (q173, .inl (τ.1, 64, .inl (fun _ => 0))), (q174, .inl (τ.1, 32, .inl (fun _ => 0))), (q175, .inl (τ.1, 32, .inl (fun _ => 0))), (q176, .inl (τ.1, 128, .inl (fun _ => 0))), (q177, .inl (τ.1, 12, .inl (fun _ => 0)))] := hD
  refine lv_aload_n hx hb d_Shm_init_68 rfl (lv_at hl 0 rfl) ?_
  refine lv_iconst (v := 4) hx hb d_Shm_init_69 (by decide) ?_
  refine wna_i hx hb (htw _ k71) hC hP hD hS (N := 4) (by decide) (by omega) (Nat.le_of_ble_eq_true rfl) (Nat.le_of_ble_eq_true rfl) d_Shm_init_70 (fun q178 H hP hD hS => ?_)
  have hP : va_P D classes [(h0, .inr (15, [.int 0, .null, .null, .ref q171, .ref q172, .int 0, .int 0, .int (-1), .int 0, .ref q173, .ref q174, .ref q175, .ref q176, .ref q177, .null, .int 0, .null, .null])), (q171, .inl (τ.1, 768, .inl (fun _ => 0))), (q172, .inl (τ.1, 768, .inl (fun _ => 0))), (q173, .inl (τ.1, 64, .inl (fun _ => 0))), (q174, .inl (τ.1, 32, .inl (fun _ => 0))), (q175, .inl (τ.1, 32, .inl (fun _ => 0))), (q176, .inl (τ.1, 128, .inl (fun _ => 0))), (q177, .inl (τ.1, 12, .inl (fun _ => 0))), (q178, .inl (τ.1, 4, .inl (fun _ => 0)))] H := hP
  have hD : va_D A [(h0, .inr (15, [.int 0, .null, .null, .ref q171, .ref q172, .int 0, .int 0, .int (-1), .int 0, .ref q173, .ref q174, .ref q175, .ref q176, .ref q177, .null, .int 0, .null, .null])), (q171, .inl (τ.1, 768, .inl (fun _ => 0))), (q172, .inl (τ.1, 768, .inl (fun _ => 0))), (q173, .inl (τ.1, 64, .inl (fun _ => 0))), (q174, .inl (τ.1, 32, .inl (fun _ => 0))), (q175, .inl (τ.1, 32, .inl (fun _ => 0))), (q176, .inl (τ.1, 128, .inl (fun _ => 0))), (q177, .inl (τ.1, 12, .inl (fun _ => 0))), (q178, .inl (τ.1, 4, .inl (fun _ => 0)))] := hD
  refine W.widen (k := 8) (n := 1808) (by omega) (by omega) ?_
  refine va_putF (D := D) (ci := 15) (v := .ref q178) (ty := .array .int) (C := R_Shm) (T := F_Shm) (N := 18) hx hb htw i_Shm t_Shm t_Shm_ok n_Shm hown hC.1 hP hD hS 0 rfl rfl 14 (by decide) (htw _ k1572) (fun _ h9 => h9) rfl hin rfl (by decide +kernel) rfl rfl (Nat.le_of_ble_eq_true rfl) d_Shm_init_72 (fun H locs hP hD hS => ?_)
  have hP : va_P D classes [(h0, .inr (15, [.int 0, .null, .null, .ref q171, .ref q172, .int 0, .int 0, .int (-1), .int 0, .ref q173, .ref q174, .ref q175, .ref q176, .ref q177, .ref q178, .int 0, .null, .null])), (q171, .inl (τ.1, 768, .inl (fun _ => 0))), (q172, .inl (τ.1, 768, .inl (fun _ => 0))), (q173, .inl (τ.1, 64, .inl (fun _ => 0))), (q174, .inl (τ.1, 32, .inl (fun _ => 0))), (q175, .inl (τ.1, 32, .inl (fun _ => 0))), (q176, .inl (τ.1, 128, .inl (fun _ => 0))), (q177, .inl (τ.1, 12, .inl (fun _ => 0))), (q178, .inl (τ.1, 4, .inl (fun _ => 0)))] H := hP
  have hD : va_D A [(h0, .inr (15, [.int 0, .null, .null, .ref q171, .ref q172, .int 0, .int 0, .int (-1), .int 0, .ref q173, .ref q174, .ref q175, .ref q176, .ref q177, .ref q178, .int 0, .null, .null])), (q171, .inl (τ.1, 768, .inl (fun _ => 0))), (q172, .inl (τ.1, 768, .inl (fun _ => 0))), (q173, .inl (τ.1, 64, .inl (fun _ => 0))), (q174, .inl (τ.1, 32, .inl (fun _ => 0))), (q175, .inl (τ.1, 32, .inl (fun _ => 0))), (q176, .inl (τ.1, 128, .inl (fun _ => 0))), (q177, .inl (τ.1, 12, .inl (fun _ => 0))), (q178, .inl (τ.1, 4, .inl (fun _ => 0)))] := hD
  refine lv_aload_n hx hb d_Shm_init_75 rfl (lv_at hl 0 rfl) ?_
  refine lv_sipush (v := 256) hx hb d_Shm_init_76 (by decide) ?_
  refine wna_i hx hb (htw _ k71) hC hP hD hS (N := 256) (by decide) (by omega) (Nat.le_of_ble_eq_true rfl) (Nat.le_of_ble_eq_true rfl) d_Shm_init_79 (fun q179 H hP hD hS => ?_)
  have hP : va_P D classes [(h0, .inr (15, [.int 0, .null, .null, .ref q171, .ref q172, .int 0, .int 0, .int (-1), .int 0, .ref q173, .ref q174, .ref q175, .ref q176, .ref q177, .ref q178, .int 0, .null, .null])), (q171, .inl (τ.1, 768, .inl (fun _ => 0))), (q172, .inl (τ.1, 768, .inl (fun _ => 0))), (q173, .inl (τ.1, 64, .inl (fun _ => 0))), (q174, .inl (τ.1, 32, .inl (fun _ => 0))), (q175, .inl (τ.1, 32, .inl (fun _ => 0))), (q176, .inl (τ.1, 128, .inl (fun _ => 0))), (q177, .inl (τ.1, 12, .inl (fun _ => 0))), (q178, .inl (τ.1, 4, .inl (fun _ => 0))), (q179, .inl (τ.1, 256, .inl (fun _ => 0)))] H := hP
  have hD : va_D A [(h0, .inr (15, [.int 0, .null, .null, .ref q171, .ref q172, .int 0, .int 0, .int (-1), .int 0, .ref q173, .ref q174, .ref q175, .ref q176, .ref q177, .ref q178, .int 0, .null, .null])), (q171, .inl (τ.1, 768, .inl (fun _ => 0))), (q172, .inl (τ.1, 768, .inl (fun _ => 0))), (q173, .inl (τ.1, 64, .inl (fun _ => 0))), (q174, .inl (τ.1, 32, .inl (fun _ => 0))), (q175, .inl (τ.1, 32, .inl (fun _ => 0))), (q176, .inl (τ.1, 128, .inl (fun _ => 0))), (q177, .inl (τ.1, 12, .inl (fun _ => 0))), (q178, .inl (τ.1, 4, .inl (fun _ => 0))), (q179, .inl (τ.1, 256, .inl (fun _ => 0)))] := hD
  refine W.widen (k := 9) (n := 2064) (by omega) (by omega) ?_
  refine va_putF (D := D) (ci := 15) (v := .ref q179) (ty := .array .int) (C := R_Shm) (T := F_Shm) (N := 18) hx hb htw i_Shm t_Shm t_Shm_ok n_Shm hown hC.1 hP hD hS 0 rfl rfl 16 (by decide) (htw _ k1575) (fun _ h9 => h9) rfl hin rfl (by decide +kernel) rfl rfl (Nat.le_of_ble_eq_true rfl) d_Shm_init_81 (fun H locs hP hD hS => ?_)
  have hP : va_P D classes [(h0, .inr (15, [.int 0, .null, .null, .ref q171, .ref q172, .int 0, .int 0, .int (-1), .int 0, .ref q173, .ref q174, .ref q175, .ref q176, .ref q177, .ref q178, .int 0, .ref q179, .null])), (q171, .inl (τ.1, 768, .inl (fun _ => 0))), (q172, .inl (τ.1, 768, .inl (fun _ => 0))), (q173, .inl (τ.1, 64, .inl (fun _ => 0))), (q174, .inl (τ.1, 32, .inl (fun _ => 0))), (q175, .inl (τ.1, 32, .inl (fun _ => 0))), (q176, .inl (τ.1, 128, .inl (fun _ => 0))), (q177, .inl (τ.1, 12, .inl (fun _ => 0))), (q178, .inl (τ.1, 4, .inl (fun _ => 0))), (q179, .inl (τ.1, 256, .inl (fun _ => 0)))] H := hP
  have hD : va_D A [(h0, .inr (15, [.int 0, .null, .null, .ref q171, .ref q172, .int 0, .int 0, .int (-1), .int 0, .ref q173, .ref q174, .ref q175, .ref q176, .ref q177, .ref q178, .int 0, .ref q179, .null])), (q171, .inl (τ.1, 768, .inl (fun _ => 0))), (q172, .inl (τ.1, 768, .inl (fun _ => 0))), (q173, .inl (τ.1, 64, .inl (fun _ => 0))), (q174, .inl (τ.1, 32, .inl (fun _ => 0))), (q175, .inl (τ.1, 32, .inl (fun _ => 0))), (q176, .inl (τ.1, 128, .inl (fun _ => 0))), (q177, .inl (τ.1, 12, .inl (fun _ => 0))), (q178, .inl (τ.1, 4, .inl (fun _ => 0))), (q179, .inl (τ.1, 256, .inl (fun _ => 0)))] := hD
  refine lv_aload_n hx hb d_Shm_init_84 rfl (lv_at hl 0 rfl) ?_
  refine lv_sipush (v := 256) hx hb d_Shm_init_85 (by decide) ?_
  refine wna_i hx hb (htw _ k71) hC hP hD hS (N := 256) (by decide) (by omega) (Nat.le_of_ble_eq_true rfl) (Nat.le_of_ble_eq_true rfl) d_Shm_init_88 (fun q180 H hP hD hS => ?_)
  have hP : va_P D classes [(h0, .inr (15, [.int 0, .null, .null, .ref q171, .ref q172, .int 0, .int 0, .int (-1), .int 0, .ref q173, .ref q174, .ref q175, .ref q176, .ref q177, .ref q178, .int 0, .ref q179, .null])), (q171, .inl (τ.1, 768, .inl (fun _ => 0))), (q172, .inl (τ.1, 768, .inl (fun _ => 0))), (q173, .inl (τ.1, 64, .inl (fun _ => 0))), (q174, .inl (τ.1, 32, .inl (fun _ => 0))), (q175, .inl (τ.1, 32, .inl (fun _ => 0))), (q176, .inl (τ.1, 128, .inl (fun _ => 0))), (q177, .inl (τ.1, 12, .inl (fun _ => 0))), (q178, .inl (τ.1, 4, .inl (fun _ => 0))), (q179, .inl (τ.1, 256, .inl (fun _ => 0))), (q180, .inl (τ.1, 256, .inl (fun _ => 0)))] H := hP
  have hD : va_D A [(h0, .inr (15, [.int 0, .null, .null, .ref q171, .ref q172, .int 0, .int 0, .int (-1), .int 0, .ref q173, .ref q174, .ref q175, .ref q176, .ref q177, .ref q178, .int 0, .ref q179, .null])), (q171, .inl (τ.1, 768, .inl (fun _ => 0))), (q172, .inl (τ.1, 768, .inl (fun _ => 0))), (q173, .inl (τ.1, 64, .inl (fun _ => 0))), (q174, .inl (τ.1, 32, .inl (fun _ => 0))), (q175, .inl (τ.1, 32, .inl (fun _ => 0))), (q176, .inl (τ.1, 128, .inl (fun _ => 0))), (q177, .inl (τ.1, 12, .inl (fun _ => 0))), (q178, .inl (τ.1, 4, .inl (fun _ => 0))), (q179, .inl (τ.1, 256, .inl (fun _ => 0))), (q180, .inl (τ.1, 256, .inl (fun _ => 0)))] := hD
  refine W.widen (k := 10) (n := 2320) (by omega) (by omega) ?_
  refine va_putF (D := D) (ci := 15) (v := .ref q180) (ty := .array .int) (C := R_Shm) (T := F_Shm) (N := 18) hx hb htw i_Shm t_Shm t_Shm_ok n_Shm hown hC.1 hP hD hS 0 rfl rfl 17 (by decide) (htw _ k1576) (fun _ h9 => h9) rfl hin rfl (by decide +kernel) rfl rfl (Nat.le_of_ble_eq_true rfl) d_Shm_init_90 (fun H locs hP hD hS => ?_)
  have hP : va_P D classes [(h0, .inr (15, [.int 0, .null, .null, .ref q171, .ref q172, .int 0, .int 0, .int (-1), .int 0, .ref q173, .ref q174, .ref q175, .ref q176, .ref q177, .ref q178, .int 0, .ref q179, .ref q180])), (q171, .inl (τ.1, 768, .inl (fun _ => 0))), (q172, .inl (τ.1, 768, .inl (fun _ => 0))), (q173, .inl (τ.1, 64, .inl (fun _ => 0))), (q174, .inl (τ.1, 32, .inl (fun _ => 0))), (q175, .inl (τ.1, 32, .inl (fun _ => 0))), (q176, .inl (τ.1, 128, .inl (fun _ => 0))), (q177, .inl (τ.1, 12, .inl (fun _ => 0))), (q178, .inl (τ.1, 4, .inl (fun _ => 0))), (q179, .inl (τ.1, 256, .inl (fun _ => 0))), (q180, .inl (τ.1, 256, .inl (fun _ => 0)))] H := hP
  have hD : va_D A [(h0, .inr (15, [.int 0, .null, .null, .ref q171, .ref q172, .int 0, .int 0, .int (-1), .int 0, .ref q173, .ref q174, .ref q175, .ref q176, .ref q177, .ref q178, .int 0, .ref q179, .ref q180])), (q171, .inl (τ.1, 768, .inl (fun _ => 0))), (q172, .inl (τ.1, 768, .inl (fun _ => 0))), (q173, .inl (τ.1, 64, .inl (fun _ => 0))), (q174, .inl (τ.1, 32, .inl (fun _ => 0))), (q175, .inl (τ.1, 32, .inl (fun _ => 0))), (q176, .inl (τ.1, 128, .inl (fun _ => 0))), (q177, .inl (τ.1, 12, .inl (fun _ => 0))), (q178, .inl (τ.1, 4, .inl (fun _ => 0))), (q179, .inl (τ.1, 256, .inl (fun _ => 0))), (q180, .inl (τ.1, 256, .inl (fun _ => 0)))] := hD
  refine lv_aload_n hx hb d_Shm_init_93 rfl (lv_at hl 0 rfl) ?_
  refine lv_aload_n hx hb d_Shm_init_94 rfl (lv_at hl 1 rfl) ?_
  refine va_putF (D := D) (ci := 15) (v := .ref me) (ty := .array .int) (C := R_Shm) (T := F_Shm) (N := 18) hx hb htw i_Shm t_Shm t_Shm_ok n_Shm hown hC.1 hP hD hS 0 rfl rfl 1 (by decide) (htw _ k1554) (fun _ h9 => h9) rfl hin rfl (by decide +kernel) rfl rfl (Nat.le_of_ble_eq_true rfl) d_Shm_init_95 (fun H locs hP hD hS => ?_)
  have hP : va_P D classes [(h0, .inr (15, [.int 0, .ref me, .null, .ref q171, .ref q172, .int 0, .int 0, .int (-1), .int 0, .ref q173, .ref q174, .ref q175, .ref q176, .ref q177, .ref q178, .int 0, .ref q179, .ref q180])), (q171, .inl (τ.1, 768, .inl (fun _ => 0))), (q172, .inl (τ.1, 768, .inl (fun _ => 0))), (q173, .inl (τ.1, 64, .inl (fun _ => 0))), (q174, .inl (τ.1, 32, .inl (fun _ => 0))), (q175, .inl (τ.1, 32, .inl (fun _ => 0))), (q176, .inl (τ.1, 128, .inl (fun _ => 0))), (q177, .inl (τ.1, 12, .inl (fun _ => 0))), (q178, .inl (τ.1, 4, .inl (fun _ => 0))), (q179, .inl (τ.1, 256, .inl (fun _ => 0))), (q180, .inl (τ.1, 256, .inl (fun _ => 0)))] H := hP
  have hD : va_D A [(h0, .inr (15, [.int 0, .ref me, .null, .ref q171, .ref q172, .int 0, .int 0, .int (-1), .int 0, .ref q173, .ref q174, .ref q175, .ref q176, .ref q177, .ref q178, .int 0, .ref q179, .ref q180])), (q171, .inl (τ.1, 768, .inl (fun _ => 0))), (q172, .inl (τ.1, 768, .inl (fun _ => 0))), (q173, .inl (τ.1, 64, .inl (fun _ => 0))), (q174, .inl (τ.1, 32, .inl (fun _ => 0))), (q175, .inl (τ.1, 32, .inl (fun _ => 0))), (q176, .inl (τ.1, 128, .inl (fun _ => 0))), (q177, .inl (τ.1, 12, .inl (fun _ => 0))), (q178, .inl (τ.1, 4, .inl (fun _ => 0))), (q179, .inl (τ.1, 256, .inl (fun _ => 0))), (q180, .inl (τ.1, 256, .inl (fun _ => 0)))] := hD
  refine lv_aload_n hx hb d_Shm_init_98 rfl (lv_at hl 0 rfl) ?_
  refine lv_aload_n hx hb d_Shm_init_99 rfl (lv_at hl 2 rfl) ?_
  refine va_putF (D := D) (ci := 15) (v := .ref un) (ty := .object "DrawingMachineModel$TextureUnitsModel") (C := R_Shm) (T := F_Shm) (N := 18) hx hb htw i_Shm t_Shm t_Shm_ok n_Shm hown hC.1 hP hD hS 0 rfl rfl 2 (by decide) (htw _ k1555) (fun _ h9 => h9) rfl hin rfl (by decide +kernel) rfl rfl (Nat.le_of_ble_eq_true rfl) d_Shm_init_100 (fun H locs hP hD hS => ?_)
  have hP : va_P D classes [(h0, .inr (15, [.int 0, .ref me, .ref un, .ref q171, .ref q172, .int 0, .int 0, .int (-1), .int 0, .ref q173, .ref q174, .ref q175, .ref q176, .ref q177, .ref q178, .int 0, .ref q179, .ref q180])), (q171, .inl (τ.1, 768, .inl (fun _ => 0))), (q172, .inl (τ.1, 768, .inl (fun _ => 0))), (q173, .inl (τ.1, 64, .inl (fun _ => 0))), (q174, .inl (τ.1, 32, .inl (fun _ => 0))), (q175, .inl (τ.1, 32, .inl (fun _ => 0))), (q176, .inl (τ.1, 128, .inl (fun _ => 0))), (q177, .inl (τ.1, 12, .inl (fun _ => 0))), (q178, .inl (τ.1, 4, .inl (fun _ => 0))), (q179, .inl (τ.1, 256, .inl (fun _ => 0))), (q180, .inl (τ.1, 256, .inl (fun _ => 0)))] H := hP
  have hD : va_D A [(h0, .inr (15, [.int 0, .ref me, .ref un, .ref q171, .ref q172, .int 0, .int 0, .int (-1), .int 0, .ref q173, .ref q174, .ref q175, .ref q176, .ref q177, .ref q178, .int 0, .ref q179, .ref q180])), (q171, .inl (τ.1, 768, .inl (fun _ => 0))), (q172, .inl (τ.1, 768, .inl (fun _ => 0))), (q173, .inl (τ.1, 64, .inl (fun _ => 0))), (q174, .inl (τ.1, 32, .inl (fun _ => 0))), (q175, .inl (τ.1, 32, .inl (fun _ => 0))), (q176, .inl (τ.1, 128, .inl (fun _ => 0))), (q177, .inl (τ.1, 12, .inl (fun _ => 0))), (q178, .inl (τ.1, 4, .inl (fun _ => 0))), (q179, .inl (τ.1, 256, .inl (fun _ => 0))), (q180, .inl (τ.1, 256, .inl (fun _ => 0)))] := hD
  refine W.widen (k := 10) (n := 2320) (Nat.le_of_ble_eq_true rfl) (Nat.le_of_ble_eq_true rfl) ?_
  have hP9 := hP.sub (ws' := [(h0, .inr (15, [.int 0, .ref me, .ref un, .ref q171, .ref q172, .int 0, .int 0, .int (-1), .int 0, .ref q173, .ref q174, .ref q175, .ref q176, .ref q177, .ref q178, .int 0, .ref q179, .ref q180])), (q171, .inl (τ.1, 768, .inl (fun _ => 0))), (q172, .inl (τ.1, 768, .inl (fun _ => 0))), (q173, .inl (τ.1, 64, .inl (fun _ => 0))), (q174, .inl (τ.1, 32, .inl (fun _ => 0))), (q175, .inl (τ.1, 32, .inl (fun _ => 0))), (q176, .inl (τ.1, 128, .inl (fun _ => 0))), (q177, .inl (τ.1, 12, .inl (fun _ => 0))), (q178, .inl (τ.1, 4, .inl (fun _ => 0))), (q179, .inl (τ.1, 256, .inl (fun _ => 0))), (q180, .inl (τ.1, 256, .inl (fun _ => 0)))]) [0, 1, 2, 3, 4, 5, 6, 7, 8, 9, 10] rfl
  have hD9 := hD.sub (ws' := [(h0, .inr (15, [.int 0, .ref me, .ref un, .ref q171, .ref q172, .int 0, .int 0, .int (-1), .int 0, .ref q173, .ref q174, .ref q175, .ref q176, .ref q177, .ref q178, .int 0, .ref q179, .ref q180])), (q171, .inl (τ.1, 768, .inl (fun _ => 0))), (q172, .inl (τ.1, 768, .inl (fun _ => 0))), (q173, .inl (τ.1, 64, .inl (fun _ => 0))), (q174, .inl (τ.1, 32, .inl (fun _ => 0))), (q175, .inl (τ.1, 32, .inl (fun _ => 0))), (q176, .inl (τ.1, 128, .inl (fun _ => 0))), (q177, .inl (τ.1, 12, .inl (fun _ => 0))), (q178, .inl (τ.1, 4, .inl (fun _ => 0))), (q179, .inl (τ.1, 256, .inl (fun _ => 0))), (q180, .inl (τ.1, 256, .inl (fun _ => 0)))]) [0, 1, 2, 3, 4, 5, 6, 7, 8, 9, 10] (by decide) rfl
  exact W.vret hx hb hr (fun t ht hW => ⟨⟨(q171, q172, q173, q174, q175, q176, q177, q178, q179, q180), rfl, trivial, by rw [ht]; exact hP9, va_K.moved hW.alike hC.1, hD9⟩, hS.F ht⟩) hS.2.2 d_Shm_init_103

theorem d_Vwm_init_0 : decode prog_20_method_1_code 0 = .ok (.aload_n 0, 1) := by decide +kernel
theorem d_Vwm_init_1 : decode prog_20_method_1_code 1 = .ok (.invokespecial 1, 3) := by decide +kernel
theorem d_Vwm_init_4 : decode prog_20_method_1_code 4 = .ok (.aload_n 0, 1) := by decide +kernel
theorem d_Vwm_init_5 : decode prog_20_method_1_code 5 = .ok (.bipush 32, 2) := by decide +kernel
theorem d_Vwm_init_7 : decode prog_20_method_1_code 7 = .ok (.newarray .int, 2) := by decide +kernel
theorem d_Vwm_init_9 : decode prog_20_method_1_code 9 = .ok (.putfield 7, 3) := by decide +kernel
theorem d_Vwm_init_12 : decode prog_20_method_1_code 12 = .ok (.aload_n 0, 1) := by decide +kernel
theorem d_Vwm_init_13 : decode prog_20_method_1_code 13 = .ok (.bipush 96, 2) := by decide +kernel
theorem d_Vwm_init_15 : decode prog_20_method_1_code 15 = .ok (.newarray .int, 2) := by decide +kernel
theorem d_Vwm_init_17 : decode prog_20_method_1_code 17 = .ok (.putfield 13, 3) := by decide +kernel
theorem d_Vwm_init_20 : decode prog_20_method_1_code 20 = .ok (.aload_n 0, 1) := by decide +kernel
theorem d_Vwm_init_21 : decode prog_20_method_1_code 21 = .ok (.bipush 6, 2) := by decide +kernel
theorem d_Vwm_init_23 : decode prog_20_method_1_code 23 = .ok (.newarray .int, 2) := by decide +kernel
theorem d_Vwm_init_25 : decode prog_20_method_1_code 25 = .ok (.putfield 16, 3) := by decide +kernel
theorem d_Vwm_init_28 : decode prog_20_method_1_code 28 = .ok (.aload_n 0, 1) := by decide +kernel
theorem d_Vwm_init_29 : decode prog_20_method_1_code 29 = .ok (.sipush 256, 3) := by decide +kernel
theorem d_Vwm_init_32 : decode prog_20_method_1_code 32 = .ok (.newarray .int, 2) := by decide +kernel
theorem d_Vwm_init_34 : decode prog_20_method_1_code 34 = .ok (.putfield 19, 3) := by decide +kernel
theorem d_Vwm_init_37 : decode prog_20_method_1_code 37 = .ok (.aload_n 0, 1) := by decide +kernel
theorem d_Vwm_init_38 : decode prog_20_method_1_code 38 = .ok (.sipush 256, 3) := by decide +kernel
theorem d_Vwm_init_41 : decode prog_20_method_1_code 41 = .ok (.newarray .int, 2) := by decide +kernel
theorem d_Vwm_init_43 : decode prog_20_method_1_code 43 = .ok (.putfield 22, 3) := by decide +kernel
theorem d_Vwm_init_46 : decode prog_20_method_1_code 46 = .ok (.aload_n 0, 1) := by decide +kernel
theorem d_Vwm_init_47 : decode prog_20_method_1_code 47 = .ok (.bipush 32, 2) := by decide +kernel
theorem d_Vwm_init_49 : decode prog_20_method_1_code 49 = .ok (.newarray .int, 2) := by decide +kernel
theorem d_Vwm_init_51 : decode prog_20_method_1_code 51 = .ok (.putfield 25, 3) := by decide +kernel
theorem d_Vwm_init_54 : decode prog_20_method_1_code 54 = .ok (.aload_n 0, 1) := by decide +kernel
theorem d_Vwm_init_55 : decode prog_20_method_1_code 55 = .ok (.aload_n 1, 1) := by decide +kernel
theorem d_Vwm_init_56 : decode prog_20_method_1_code 56 = .ok (.putfield 28, 3) := by decide +kernel
theorem d_Vwm_init_59 : decode prog_20_method_1_code 59 = .ok (.aload_n 0, 1) := by decide +kernel
theorem d_Vwm_init_60 : decode prog_20_method_1_code 60 = .ok (.getfield 16, 3) := by decide +kernel
theorem d_Vwm_init_63 : decode prog_20_method_1_code 63 = .ok (.iconst 2, 1) := by decide +kernel
theorem d_Vwm_init_64 : decode prog_20_method_1_code 64 = .ok (.iconst 1, 1) := by decide +kernel
theorem d_Vwm_init_65 : decode prog_20_method_1_code 65 = .ok (.iastore, 1) := by decide +kernel
theorem d_Vwm_init_66 : decode prog_20_method_1_code 66 = .ok (.aload_n 0, 1) := by decide +kernel
theorem d_Vwm_init_67 : decode prog_20_method_1_code 67 = .ok (.getfield 16, 3) := by decide +kernel
theorem d_Vwm_init_70 : decode prog_20_method_1_code 70 = .ok (.iconst 3, 1) := by decide +kernel
theorem d_Vwm_init_71 : decode prog_20_method_1_code 71 = .ok (.iconst 1, 1) := by decide +kernel
theorem d_Vwm_init_72 : decode prog_20_method_1_code 72 = .ok (.iastore, 1) := by decide +kernel
theorem d_Vwm_init_73 : decode prog_20_method_1_code 73 = .ok (.aload_n 0, 1) := by decide +kernel
theorem d_Vwm_init_74 : decode prog_20_method_1_code 74 = .ok (.getfield 16, 3) := by decide +kernel
theorem d_Vwm_init_77 : decode prog_20_method_1_code 77 = .ok (.iconst 5, 1) := by decide +kernel
theorem d_Vwm_init_78 : decode prog_20_method_1_code 78 = .ok (.ldc 31, 2) := by decide +kernel
theorem d_Vwm_init_80 : decode prog_20_method_1_code 80 = .ok (.iastore, 1) := by decide +kernel
theorem d_Vwm_init_81 : decode prog_20_method_1_code 81 = .ok (.return_, 1) := by decide +kernel
set_option maxHeartbeats 4000000 in
set_option maxRecDepth 100000 in
theorem c_Vwm_init (l : Launch) (D : va_G) (τ : ClassId × ClassId × ClassId) (B sz : Nat) (h0 : Nat) (me : Nat) : Met l y_Vwm_init ((Cond.code y_Vwm_init prog_20_method_1_code 2 none) :: tw) ({ frames := 20, cells := 6, slots := 678, locals := 2000 }) (va_Pc [.ref h0, .ref me] (wP D τ B sz [(h0, .inr (16, [.int 0, .null, .null, .null, .null, .int 0, .int 0, .int 0, .null, .int 0, .null, .int 0, .null]))])) (va_Qv (S := Nat × Nat × Nat × Nat × Nat × Nat × (Nat → Int32)) (fun _ => True) (fun u => wB D τ (va_A [(h0, .inr (16, [.int 0, .null, .null, .null, .null, .int 0, .int 0, .int 0, .null, .int 0, .null, .int 0, .null]))] sz) ((fun u : Nat × Nat × Nat × Nat × Nat × Nat × (Nat → Int32) => match u with | (q181, q182, q183, q184, q185, q186, f189) => [(h0, .inr (16, [.int 0, .ref me, .ref q181, .ref q182, .ref q183, .int 0, .int 0, .int 0, .ref q184, .int 0, .ref q185, .int 0, .ref q186])), (q181, .inl (τ.1, 32, .inl (fun _ => 0))), (q182, .inl (τ.1, 96, .inl (fun _ => 0))), (q183, .inl (τ.1, 6, .inl f189)), (q184, .inl (τ.1, 256, .inl (fun _ => 0))), (q185, .inl (τ.1, 256, .inl (fun _ => 0))), (q186, .inl (τ.1, 32, .inl (fun _ => 0)))]) u)) (va_A [(h0, .inr (16, [.int 0, .null, .null, .null, .null, .int 0, .int 0, .int 0, .null, .int 0, .null, .int 0, .null]))] sz)) 6 678 (va_A [(h0, .inr (16, [.int 0, .null, .null, .null, .null, .int 0, .int 0, .int 0, .null, .int 0, .null, .int 0, .null]))] sz) := by
  refine Met.ofW (cc := prog_20_method_1_code) (maxL := 2) (ret := none) (by decide) rfl ?_
  intro p e s m args below meth c s₁ B0 hml hv
  obtain ⟨rfl, hv⟩ := hv
  have hx := B0.exec
  have hb := B0.bytes
  have hr := B0.returns
  have hts := atoms_spec (ws := (Cond.code y_Vwm_init prog_20_method_1_code 2 none) :: tw) B0.pre
  have htw : ∀ w ∈ tw, w.before _ s = true := fun w hw => hts w (List.mem_cons_of_mem _ hw)
  have hown : s.vm.findClass "DrawingMachineModel$VertexWorkModel" = some m.cls := findClass_of_methodNamed B0.named
  have hlocks := B0.notSynchronized
  have hin : meth.name = "<init>" := (name_of_methodNamed B0.named B0.method).1
  obtain ⟨hC, hP, hD, hsz⟩ := wC_init hv
  subst hsz
  generalize hAe : va_A [(h0, .inr (16, [.int 0, .null, .null, .null, .null, .int 0, .int 0, .int 0, .null, .int 0, .null, .int 0, .null]))] s.heap.size = A at hC hD ⊢
  have hS : va_S A s.heap s.heap [] := va_S.rf
  have hl := lv_entry ([.ref h0, .ref me]) (n := 2) (Nat.le_of_ble_eq_true rfl)
  rw [lg_entry_eq]
  generalize (lg_sl ([.ref h0, .ref me]) ++ List.replicate (2 - (lg_sl ([.ref h0, .ref me])).length) Slot.unset).toArray = ls at hl ⊢
  have hl : lv_has ls 2 [(0, .ref h0), (1, .ref me)] := hl
  refine lv_aload_n hx hb d_Vwm_init_0 rfl (lv_at hl 0 rfl) ?_
  refine W.objInit hx hb hown (htw _ k1619) (htw _ k46) (htw _ k47) rfl (by rw [hml]; exact hl.1) rfl d_Vwm_init_1 (Nat.le_of_ble_eq_true rfl) (Nat.le_of_ble_eq_true rfl) ?_
  refine W.eq (g2 := F0 m 4 ls []) rfl ?_
  refine lv_aload_n hx hb d_Vwm_init_4 rfl (lv_at hl 0 rfl) ?_
  refine lv_bipush (v := 32) hx hb d_Vwm_init_5 (by decide) ?_
  refine wna_i hx hb (htw _ k71) hC hP hD hS (N := 32) (by decide) (by omega) (Nat.le_of_ble_eq_true rfl) (Nat.le_of_ble_eq_true rfl) d_Vwm_init_7 (fun q181 H hP hD hS => ?_)
  have hP : va_P D classes [(h0, .inr (16, [.int 0, .null, .null, .null, .null, .int 0, .int 0, .int 0, .null, .int 0, .null, .int 0, .null])), (q181, .inl (τ.1, 32, .inl (fun _ => 0)))] H := hP
  have hD : va_D A [(h0, .inr (16, [.int 0, .null, .null, .null, .null, .int 0, .int 0, .int 0, .null, .int 0, .null, .int 0, .null])), (q181, .inl (τ.1, 32, .inl (fun _ => 0)))] := hD
  refine W.widen (k := 1) (n := 32) (by omega) (by omega) ?_
  refine va_putF (D := D) (ci := 16) (v := .ref q181) (ty := .array .int) (C := R_Vwm) (T := F_Vwm) (N := 13) hx hb htw i_Vwm t_Vwm t_Vwm_ok n_Vwm hown hC.1 hP hD hS 0 rfl rfl 2 (by decide) (htw _ k1623) (fun _ h9 => h9) rfl hin rfl (by decide +kernel) rfl rfl (Nat.le_of_ble_eq_true rfl) d_Vwm_init_9 (fun H locs hP hD hS => ?_)
  have hP : va_P D classes [(h0, .inr (16, [.int 0, .null, .ref q181, .null, .null, .int 0, .int 0, .int 0, .null, .int 0, .null, .int 0, .null])), (q181, .inl (τ.1, 32, .inl (fun _ => 0)))] H := hP
  have hD : va_D A [(h0, .inr (16, [.int 0, .null, .ref q181, .null, .null, .int 0, .int 0, .int 0, .null, .int 0, .null, .int 0, .null])), (q181, .inl (τ.1, 32, .inl (fun _ => 0)))] := hD
  refine lv_aload_n hx hb d_Vwm_init_12 rfl (lv_at hl 0 rfl) ?_
  refine lv_bipush (v := 96) hx hb d_Vwm_init_13 (by decide) ?_
  refine wna_i hx hb (htw _ k71) hC hP hD hS (N := 96) (by decide) (by omega) (Nat.le_of_ble_eq_true rfl) (Nat.le_of_ble_eq_true rfl) d_Vwm_init_15 (fun q182 H hP hD hS => ?_)
  have hP : va_P D classes [(h0, .inr (16, [.int 0, .null, .ref q181, .null, .null, .int 0, .int 0, .int 0, .null, .int 0, .null, .int 0, .null])), (q181, .inl (τ.1, 32, .inl (fun _ => 0))), (q182, .inl (τ.1, 96, .inl (fun _ => 0)))] H := hP
  have hD : va_D A [(h0, .inr (16, [.int 0, .null, .ref q181, .null, .null, .int 0, .int 0, .int 0, .null, .int 0, .null, .int 0, .null])), (q181, .inl (τ.1, 32, .inl (fun _ => 0))), (q182, .inl (τ.1, 96, .inl (fun _ => 0)))] := hD
  refine W.widen (k := 2) (n := 128) (by omega) (by omega) ?_
  refine va_putF (D := D) (ci := 16) (v := .ref q182) (ty := .array .int) (C := R_Vwm) (T := F_Vwm) (N := 13) hx hb htw i_Vwm t_Vwm t_Vwm_ok n_Vwm hown hC.1 hP hD hS 0 rfl rfl 3 (by decide) (htw _ k1624) (fun _ h9 => h9) rfl hin rfl (by decide +kernel) rfl rfl (Nat.le_of_ble_eq_true rfl) d_Vwm_init_17 (fun H locs hP hD hS => ?_)
  have hP : va_P D classes [(h0, .inr (16, [.int 0, .null, .ref q181, .ref q182, .null, .int 0, .int 0, .int 0, .null, .int 0, .null, .int 0, .null])), (q181, .inl (τ.1, 32, .inl (fun _ => 0))), (q182, .inl (τ.1, 96, .inl (fun _ => 0)))] H := hP
  have hD : va_D A [(h0, .inr (16, [.int 0, .null, .ref q181, .ref q182, .null, .int 0, .int 0, .int 0, .null, .int 0, .null, .int 0, .null])), (q181, .inl (τ.1, 32, .inl (fun _ => 0))), (q182, .inl (τ.1, 96, .inl (fun _ => 0)))] := hD
  refine lv_aload_n hx hb d_Vwm_init_20 rfl (lv_at hl 0 rfl) ?_
  refine lv_bipush (v := 6) hx hb d_Vwm_init_21 (by decide) ?_
  refine wna_i hx hb (htw _ k71) hC hP hD hS (N := 6) (by decide) (by omega) (Nat.le_of_ble_eq_true rfl) (Nat.le_of_ble_eq_true rfl) d_Vwm_init_23 (fun q183 H hP hD hS => ?_)
  have hP : va_P D classes [(h0, .inr (16, [.int 0, .null, .ref q181, .ref q182, .null, .int 0, .int 0, .int 0, .null, .int 0, .null, .int 0, .null])), (q181, .inl (τ.1, 32, .inl (fun _ => 0))), (q182, .inl (τ.1, 96, .inl (fun _ => 0))), (q183, .inl (τ.1, 6, .inl (fun _ => 0)))] H := hP
  have hD : va_D A [(h0, .inr (16, [.int 0, .null, .ref q181, .ref q182, .null, .int 0, .int 0, .int 0, .null, .int 0, .null, .int 0, .null])), (q181, .inl (τ.1, 32, .inl (fun _ => 0))), (q182, .inl (τ.1, 96, .inl (fun _ => 0))), (q183, .inl (τ.1, 6, .inl (fun _ => 0)))] := hD
  refine W.widen (k := 3) (n := 134) (by omega) (by omega) ?_
  refine va_putF (D := D) (ci := 16) (v := .ref q183) (ty := .array .int) (C := R_Vwm) (T := F_Vwm) (N := 13) hx hb htw i_Vwm t_Vwm t_Vwm_ok n_Vwm hown hC.1 hP hD hS 0 rfl rfl 4 (by decide) (htw _ k1625) (fun _ h9 => h9) rfl hin rfl (by decide +kernel) rfl rfl (Nat.le_of_ble_eq_true rfl) d_Vwm_init_25 (fun H locs hP hD hS => ?_)
  have hP : va_P D classes [(h0, .inr (16, [.int 0, .null, .ref q181, .ref q182, .ref q183, .int 0, .int 0, .int 0, .null, .int 0, .null, .int 0, .null])), (q181, .inl (τ.1, 32, .inl (fun _ => 0))), (q182, .inl (τ.1, 96, .inl (fun _ => 0))), (q183, .inl (τ.1, 6, .inl (fun _ => 0)))] H := hP
  have hD : va_D A [(h0, .inr (16, [.int 0, .null, .ref q181, .ref q182, .ref q183, .int 0, .int 0, .int 0, .null, .int 0, .null, .int 0, .null])), (q181, .inl (τ.1, 32, .inl (fun _ => 0))), (q182, .inl (τ.1, 96, .inl (fun _ => 0))), (q183, .inl (τ.1, 6, .inl (fun _ => 0)))] := hD
  refine lv_aload_n hx hb d_Vwm_init_28 rfl (lv_at hl 0 rfl) ?_
  refine lv_sipush (v := 256) hx hb d_Vwm_init_29 (by decide) ?_
  refine wna_i hx hb (htw _ k71) hC hP hD hS (N := 256) (by decide) (by omega) (Nat.le_of_ble_eq_true rfl) (Nat.le_of_ble_eq_true rfl) d_Vwm_init_32 (fun q184 H hP hD hS => ?_)
  have hP : va_P D classes [(h0, .inr (16, [.int 0, .null, .ref q181, .ref q182, .ref q183, .int 0, .int 0, .int 0, .null, .int 0, .null, .int 0, .null])), (q181, .inl (τ.1, 32, .inl (fun _ => 0))), (q182, .inl (τ.1, 96, .inl (fun _ => 0))), (q183, .inl (τ.1, 6, .inl (fun _ => 0))), (q184, .inl (τ.1, 256, .inl (fun _ => 0)))] H := hP
  have hD : va_D A [(h0, .inr (16, [.int 0, .null, .ref q181, .ref q182, .ref q183, .int 0, .int 0, .int 0, .null, .int 0, .null, .int 0, .null])), (q181, .inl (τ.1, 32, .inl (fun _ => 0))), (q182, .inl (τ.1, 96, .inl (fun _ => 0))), (q183, .inl (τ.1, 6, .inl (fun _ => 0))), (q184, .inl (τ.1, 256, .inl (fun _ => 0)))] := hD
  refine W.widen (k := 4) (n := 390) (by omega) (by omega) ?_
  refine va_putF (D := D) (ci := 16) (v := .ref q184) (ty := .array .int) (C := R_Vwm) (T := F_Vwm) (N := 13) hx hb htw i_Vwm t_Vwm t_Vwm_ok n_Vwm hown hC.1 hP hD hS 0 rfl rfl 8 (by decide) (htw _ k1629) (fun _ h9 => h9) rfl hin rfl (by decide +kernel) rfl rfl (Nat.le_of_ble_eq_true rfl) d_Vwm_init_34 (fun H locs hP hD hS => ?_)
  have hP : va_P D classes [(h0, .inr (16, [.int 0, .null, .ref q181, .ref q182, .ref q183, .int 0, .int 0, .int 0, .ref q184, .int 0, .null, .int 0, .null])), (q181, .inl (τ.1, 32, .inl (fun _ => 0))), (q182, .inl (τ.1, 96, .inl (fun _ => 0))), (q183, .inl (τ.1, 6, .inl (fun _ => 0))), (q184, .inl (τ.1, 256, .inl (fun _ => 0)))] H := hP
  have hD : va_D A [(h0, .inr (16, [.int 0, .null, .ref q181, .ref q182, .ref q183, .int 0, .int 0, .int 0, .ref q184, .int 0, .null, .int 0, .null])), (q181, .inl (τ.1, 32, .inl (fun _ => 0))), (q182, .inl (τ.1, 96, .inl (fun _ => 0))), (q183, .inl (τ.1, 6, .inl (fun _ => 0))), (q184, .inl (τ.1, 256, .inl (fun _ => 0)))] := hD
  refine lv_aload_n hx hb d_Vwm_init_37 rfl (lv_at hl 0 rfl) ?_
  refine lv_sipush (v := 256) hx hb d_Vwm_init_38 (by decide) ?_
  refine wna_i hx hb (htw _ k71) hC hP hD hS (N := 256) (by decide) (by omega) (Nat.le_of_ble_eq_true rfl) (Nat.le_of_ble_eq_true rfl) d_Vwm_init_41 (fun q185 H hP hD hS => ?_)
  have hP : va_P D classes [(h0, .inr (16, [.int 0, .null, .ref q181, .ref q182, .ref q183, .int 0, .int 0, .int 0, .ref q184, .int 0, .null, .int 0, .null])), (q181, .inl (τ.1, 32, .inl (fun _ => 0))), (q182, .inl (τ.1, 96, .inl (fun _ => 0))), (q183, .inl (τ.1, 6, .inl (fun _ => 0))), (q184, .inl (τ.1, 256, .inl (fun _ => 0))), (q185, .inl (τ.1, 256, .inl (fun _ => 0)))] H := hP
  have hD : va_D A [(h0, .inr (16, [.int 0, .null, .ref q181, .ref q182, .ref q183, .int 0, .int 0, .int 0, .ref q184, .int 0, .null, .int 0, .null])), (q181, .inl (τ.1, 32, .inl (fun _ => 0))), (q182, .inl (τ.1, 96, .inl (fun _ => 0))), (q183, .inl (τ.1, 6, .inl (fun _ => 0))), (q184, .inl (τ.1, 256, .inl (fun _ => 0))), (q185, .inl (τ.1, 256, .inl (fun _ => 0)))] := hD
  refine W.widen (k := 5) (n := 646) (by omega) (by omega) ?_
  refine va_putF (D := D) (ci := 16) (v := .ref q185) (ty := .array .int) (C := R_Vwm) (T := F_Vwm) (N := 13) hx hb htw i_Vwm t_Vwm t_Vwm_ok n_Vwm hown hC.1 hP hD hS 0 rfl rfl 10 (by decide) (htw _ k1631) (fun _ h9 => h9) rfl hin rfl (by decide +kernel) rfl rfl (Nat.le_of_ble_eq_true rfl) d_Vwm_init_43 (fun H locs hP hD hS => ?_)
  have hP : va_P D classes [(h0, .inr (16, [.int 0, .null, .ref q181, .ref q182, .ref q183, .int 0, .int 0, .int 0, .ref q184, .int 0, .ref q185, .int 0, .null])), (q181, .inl (τ.1, 32, .inl (fun _ => 0))), (q182, .inl (τ.1, 96, .inl (fun _ => 0))), (q183, .inl (τ.1, 6, .inl (fun _ => 0))), (q184, .inl (τ.1, 256, .inl (fun _ => 0))), (q185, .inl (τ.1, 256, .inl (fun _ => 0)))] H := hP
  have hD : va_D A [(h0, .inr (16, [.int 0, .null, .ref q181, .ref q182, .ref q183, .int 0, .int 0, .int 0, .ref q184, .int 0, .ref q185, .int 0, .null])), (q181, .inl (τ.1, 32, .inl (fun _ => 0))), (q182, .inl (τ.1, 96, .inl (fun _ => 0))), (q183, .inl (τ.1, 6, .inl (fun _ => 0))), (q184, .inl (τ.1, 256, .inl (fun _ => 0))), (q185, .inl (τ.1, 256, .inl (fun _ => 0)))] := hD
  refine lv_aload_n hx hb d_Vwm_init_46 rfl (lv_at hl 0 rfl) ?_
  refine lv_bipush (v := 32) hx hb d_Vwm_init_47 (by decide) ?_
  refine wna_i hx hb (htw _ k71) hC hP hD hS (N := 32) (by decide) (by omega) (Nat.le_of_ble_eq_true rfl) (Nat.le_of_ble_eq_true rfl) d_Vwm_init_49 (fun q186 H hP hD hS => ?_)
  have hP : va_P D classes [(h0, .inr (16, [.int 0, .null, .ref q181, .ref q182, .ref q183, .int 0, .int 0, .int 0, .ref q184, .int 0, .ref q185, .int 0, .null])), (q181, .inl (τ.1, 32, .inl (fun _ => 0))), (q182, .inl (τ.1, 96, .inl (fun _ => 0))), (q183, .inl (τ.1, 6, .inl (fun _ => 0))), (q184, .inl (τ.1, 256, .inl (fun _ => 0))), (q185, .inl (τ.1, 256, .inl (fun _ => 0))), (q186, .inl (τ.1, 32, .inl (fun _ => 0)))] H := hP
  have hD : va_D A [(h0, .inr (16, [.int 0, .null, .ref q181, .ref q182, .ref q183, .int 0, .int 0, .int 0, .ref q184, .int 0, .ref q185, .int 0, .null])), (q181, .inl (τ.1, 32, .inl (fun _ => 0))), (q182, .inl (τ.1, 96, .inl (fun _ => 0))), (q183, .inl (τ.1, 6, .inl (fun _ => 0))), (q184, .inl (τ.1, 256, .inl (fun _ => 0))), (q185, .inl (τ.1, 256, .inl (fun _ => 0))), (q186, .inl (τ.1, 32, .inl (fun _ => 0)))] := hD
  refine W.widen (k := 6) (n := 678) (by omega) (by omega) ?_
  refine va_putF (D := D) (ci := 16) (v := .ref q186) (ty := .array .int) (C := R_Vwm) (T := F_Vwm) (N := 13) hx hb htw i_Vwm t_Vwm t_Vwm_ok n_Vwm hown hC.1 hP hD hS 0 rfl rfl 12 (by decide) (htw _ k1633) (fun _ h9 => h9) rfl hin rfl (by decide +kernel) rfl rfl (Nat.le_of_ble_eq_true rfl) d_Vwm_init_51 (fun H locs hP hD hS => ?_)
  have hP : va_P D classes [(h0, .inr (16, [.int 0, .null, .ref q181, .ref q182, .ref q183, .int 0, .int 0, .int 0, .ref q184, .int 0, .ref q185, .int 0, .ref q186])), (q181, .inl (τ.1, 32, .inl (fun _ => 0))), (q182, .inl (τ.1, 96, .inl (fun _ => 0))), (q183, .inl (τ.1, 6, .inl (fun _ => 0))), (q184, .inl (τ.1, 256, .inl (fun _ => 0))), (q185, .inl (τ.1, 256, .inl (fun _ => 0))), (q186, .inl (τ.1, 32, .inl (fun _ => 0)))] H := hP
  have hD : va_D A [(h0, .inr (16, [.int 0, .null, .ref q181, .ref q182, .ref q183, .int 0, .int 0, .int 0, .ref q184, .int 0, .ref q185, .int 0, .ref q186])), (q181, .inl (τ.1, 32, .inl (fun _ => 0))), (q182, .inl (τ.1, 96, .inl (fun _ => 0))), (q183, .inl (τ.1, 6, .inl (fun _ => 0))), (q184, .inl (τ.1, 256, .inl (fun _ => 0))), (q185, .inl (τ.1, 256, .inl (fun _ => 0))), (q186, .inl (τ.1, 32, .inl (fun _ => 0)))] := hD
  refine lv_aload_n hx hb d_Vwm_init_54 rfl (lv_at hl 0 rfl) ?_
  refine lv_aload_n hx hb d_Vwm_init_55 rfl (lv_at hl 1 rfl) ?_
  refine va_putF (D := D) (ci := 16) (v := .ref me) (ty := .array .int) (C := R_Vwm) (T := F_Vwm) (N := 13) hx hb htw i_Vwm t_Vwm t_Vwm_ok n_Vwm hown hC.1 hP hD hS 0 rfl rfl 1 (by decide) (htw _ k1622) (fun _ h9 => h9) rfl hin rfl (by decide +kernel) rfl rfl (Nat.le_of_ble_eq_true rfl) d_Vwm_init_56 (fun H locs hP hD hS => ?_)
  have hP : va_P D classes [(h0, .inr (16, [.int 0, .ref me, .ref q181, .ref q182, .ref q183, .int 0, .int 0, .int 0, .ref q184, .int 0, .ref q185, .int 0, .ref q186])), (q181, .inl (τ.1, 32, .inl (fun _ => 0))), (q182, .inl (τ.1, 96, .inl (fun _ => 0))), (q183, .inl (τ.1, 6, .inl (fun _ => 0))), (q184, .inl (τ.1, 256, .inl (fun _ => 0))), (q185, .inl (τ.1, 256, .inl (fun _ => 0))), (q186, .inl (τ.1, 32, .inl (fun _ => 0)))] H := hP
  have hD : va_D A [(h0, .inr (16, [.int 0, .ref me, .ref q181, .ref q182, .ref q183, .int 0, .int 0, .int 0, .ref q184, .int 0, .ref q185, .int 0, .ref q186])), (q181, .inl (τ.1, 32, .inl (fun _ => 0))), (q182, .inl (τ.1, 96, .inl (fun _ => 0))), (q183, .inl (τ.1, 6, .inl (fun _ => 0))), (q184, .inl (τ.1, 256, .inl (fun _ => 0))), (q185, .inl (τ.1, 256, .inl (fun _ => 0))), (q186, .inl (τ.1, 32, .inl (fun _ => 0)))] := hD
  refine lv_aload_n hx hb d_Vwm_init_59 rfl (lv_at hl 0 rfl) ?_
  refine va_get (D := D) (ci := 16) (v := .ref q183) (C := R_Vwm) (T := F_Vwm) (N := 13) hx hb htw i_Vwm hown hC.1 hP 0 rfl rfl 4 (by decide) (htw _ k1625) (fun _ h9 => h9) rfl d_Vwm_init_60 ?_
  refine lv_iconst (v := 2) hx hb d_Vwm_init_63 (by decide) ?_
  refine lv_iconst (v := 1) hx hb d_Vwm_init_64 (by decide) ?_
  refine va_iast hx hb hC.1 hP hD hS 3 0 rfl rfl (by unfold vp_in; decide) d_Vwm_init_65 (fun H locs hP hD hS => ?_)
  have hP : va_P D classes [(h0, .inr (16, [.int 0, .ref me, .ref q181, .ref q182, .ref q183, .int 0, .int 0, .int 0, .ref q184, .int 0, .ref q185, .int 0, .ref q186])), (q181, .inl (τ.1, 32, .inl (fun _ => 0))), (q182, .inl (τ.1, 96, .inl (fun _ => 0))), (q183, .inl (τ.1, 6, .inl (upd (fun _ => 0) (2 : Int32).toNatClampNeg 1))), (q184, .inl (τ.1, 256, .inl (fun _ => 0))), (q185, .inl (τ.1, 256, .inl (fun _ => 0))), (q186, .inl (τ.1, 32, .inl (fun _ => 0)))] H := hP
  have hD : va_D A [(h0, .inr (16, [.int 0, .ref me, .ref q181, .ref q182, .ref q183, .int 0, .int 0, .int 0, .ref q184, .int 0, .ref q185, .int 0, .ref q186])), (q181, .inl (τ.1, 32, .inl (fun _ => 0))), (q182, .inl (τ.1, 96, .inl (fun _ => 0))), (q183, .inl (τ.1, 6, .inl (upd (fun _ => 0) (2 : Int32).toNatClampNeg 1))), (q184, .inl (τ.1, 256, .inl (fun _ => 0))), (q185, .inl (τ.1, 256, .inl (fun _ => 0))), (q186, .inl (τ.1, 32, .inl (fun _ => 0)))] := hD
  generalize upd (fun _ => 0) (2 : Int32).toNatClampNeg 1 = f187 at hP hD
  refine lv_aload_n hx hb d_Vwm_init_66 rfl (lv_at hl 0 rfl) ?_
  refine va_get (D := D) (ci := 16) (v := .ref q183) (C := R_Vwm) (T := F_Vwm) (N := 13) hx hb htw i_Vwm hown hC.1 hP 0 rfl rfl 4 (by decide) (htw _ k1625) (fun _ h9 => h9) rfl d_Vwm_init_67 ?_
  refine lv_iconst (v := 3) hx hb d_Vwm_init_70 (by decide) ?_
  refine lv_iconst (v := 1) hx hb d_Vwm_init_71 (by decide) ?_
  refine va_iast hx hb hC.1 hP hD hS 3 0 rfl rfl (by unfold vp_in; decide) d_Vwm_init_72 (fun H locs hP hD hS => ?_)
  have hP : va_P D classes [(h0, .inr (16, [.int 0, .ref me, .ref q181, .ref q182, .ref q183, .int 0, .int 0, .int 0, .ref q184, .int 0, .ref q185, .int 0, .ref q186])), (q181, .inl (τ.1, 32, .inl (fun _ => 0))), (q182, .inl (τ.1, 96, .inl (fun _ => 0))), (q183, .inl (τ.1, 6, .inl (upd f187 (3 : Int32).toNatClampNeg 1))), (q184, .inl (τ.1, 256, .inl (fun _ => 0))), (q185, .inl (τ.1, 256, .inl (fun _ => 0))), (q186, .inl (τ.1, 32, .inl (fun _ => 0)))] H := hP
  have hD : va_D A [(h0, .inr (16, [.int 0, .ref me, .ref q181, .ref q182, .ref q183, .int 0, .int 0, .int 0, .ref q184, .int 0, .ref q185, .int 0, .ref q186])), (q181, .inl (τ.1, 32, .inl (fun _ => 0))), (q182, .inl (τ.1, 96, .inl (fun _ => 0))), (q183, .inl (τ.1, 6, .inl (upd f187 (3 : Int32).toNatClampNeg 1))), (q184, .inl (τ.1, 256, .inl (fun _ => 0))), (q185, .inl (τ.1, 256, .inl (fun _ => 0))), (q186, .inl (τ.1, 32, .inl (fun _ => 0)))] := hD
  generalize upd f187 (3 : Int32).toNatClampNeg 1 = f188 at hP hD
  refine lv_aload_n hx hb d_Vwm_init_73 rfl (lv_at hl 0 rfl) ?_
  refine va_get (D := D) (ci := 16) (v := .ref q183) (C := R_Vwm) (T := F_Vwm) (N := 13) hx hb htw i_Vwm hown hC.1 hP 0 rfl rfl 4 (by decide) (htw _ k1625) (fun _ h9 => h9) rfl d_Vwm_init_74 ?_
  refine lv_iconst (v := 5) hx hb d_Vwm_init_77 (by decide) ?_
  refine lv_ldc (v := 16777215) hx hb hown (htw _ k1620) d_Vwm_init_78 ?_
  refine va_iast hx hb hC.1 hP hD hS 3 0 rfl rfl (by unfold vp_in; decide) d_Vwm_init_80 (fun H locs hP hD hS => ?_)
  have hP : va_P D classes [(h0, .inr (16, [.int 0, .ref me, .ref q181, .ref q182, .ref q183, .int 0, .int 0, .int 0, .ref q184, .int 0, .ref q185, .int 0, .ref q186])), (q181, .inl (τ.1, 32, .inl (fun _ => 0))), (q182, .inl (τ.1, 96, .inl (fun _ => 0))), (q183, .inl (τ.1, 6, .inl (upd f188 (5 : Int32).toNatClampNeg 16777215))), (q184, .inl (τ.1, 256, .inl (fun _ => 0))), (q185, .inl (τ.1, 256, .inl (fun _ => 0))), (q186, .inl (τ.1, 32, .inl (fun _ => 0)))] H := hP
  have hD : va_D A [(h0, .inr (16, [.int 0, .ref me, .ref q181, .ref q182, .ref q183, .int 0, .int 0, .int 0, .ref q184, .int 0, .ref q185, .int 0, .ref q186])), (q181, .inl (τ.1, 32, .inl (fun _ => 0))), (q182, .inl (τ.1, 96, .inl (fun _ => 0))), (q183, .inl (τ.1, 6, .inl (upd f188 (5 : Int32).toNatClampNeg 16777215))), (q184, .inl (τ.1, 256, .inl (fun _ => 0))), (q185, .inl (τ.1, 256, .inl (fun _ => 0))), (q186, .inl (τ.1, 32, .inl (fun _ => 0)))] := hD
  generalize upd f188 (5 : Int32).toNatClampNeg 16777215 = f189 at hP hD
  refine W.widen (k := 6) (n := 678) (Nat.le_of_ble_eq_true rfl) (Nat.le_of_ble_eq_true rfl) ?_
  have hP9 := hP.sub (ws' := [(h0, .inr (16, [.int 0, .ref me, .ref q181, .ref q182, .ref q183, .int 0, .int 0, .int 0, .ref q184, .int 0, .ref q185, .int 0, .ref q186])), (q181, .inl (τ.1, 32, .inl (fun _ => 0))), (q182, .inl (τ.1, 96, .inl (fun _ => 0))), (q183, .inl (τ.1, 6, .inl f189)), (q184, .inl (τ.1, 256, .inl (fun _ => 0))), (q185, .inl (τ.1, 256, .inl (fun _ => 0))), (q186, .inl (τ.1, 32, .inl (fun _ => 0)))]) [0, 1, 2, 3, 4, 5, 6] rfl
  have hD9 := hD.sub (ws' := [(h0, .inr (16, [.int 0, .ref me, .ref q181, .ref q182, .ref q183, .int 0, .int 0, .int 0, .ref q184, .int 0, .ref q185, .int 0, .ref q186])), (q181, .inl (τ.1, 32, .inl (fun _ => 0))), (q182, .inl (τ.1, 96, .inl (fun _ => 0))), (q183, .inl (τ.1, 6, .inl f189)), (q184, .inl (τ.1, 256, .inl (fun _ => 0))), (q185, .inl (τ.1, 256, .inl (fun _ => 0))), (q186, .inl (τ.1, 32, .inl (fun _ => 0)))]) [0, 1, 2, 3, 4, 5, 6] (by decide) rfl
  exact W.vret hx hb hr (fun t ht hW => ⟨⟨(q181, q182, q183, q184, q185, q186, f189), rfl, trivial, by rw [ht]; exact hP9, va_K.moved hW.alike hC.1, hD9⟩, hS.F ht⟩) hS.2.2 d_Vwm_init_81

theorem d_Erm_init_0 : decode prog_16_method_1_code 0 = .ok (.aload_n 0, 1) := by decide +kernel
theorem d_Erm_init_1 : decode prog_16_method_1_code 1 = .ok (.invokespecial 1, 3) := by decide +kernel
theorem d_Erm_init_4 : decode prog_16_method_1_code 4 = .ok (.aload_n 0, 1) := by decide +kernel
theorem d_Erm_init_5 : decode prog_16_method_1_code 5 = .ok (.iconst 3, 1) := by decide +kernel
theorem d_Erm_init_6 : decode prog_16_method_1_code 6 = .ok (.newarray .int, 2) := by decide +kernel
theorem d_Erm_init_8 : decode prog_16_method_1_code 8 = .ok (.putfield 7, 3) := by decide +kernel
theorem d_Erm_init_11 : decode prog_16_method_1_code 11 = .ok (.aload_n 0, 1) := by decide +kernel
theorem d_Erm_init_12 : decode prog_16_method_1_code 12 = .ok (.iconst 3, 1) := by decide +kernel
theorem d_Erm_init_13 : decode prog_16_method_1_code 13 = .ok (.newarray .int, 2) := by decide +kernel
theorem d_Erm_init_15 : decode prog_16_method_1_code 15 = .ok (.putfield 13, 3) := by decide +kernel
theorem d_Erm_init_18 : decode prog_16_method_1_code 18 = .ok (.aload_n 0, 1) := by decide +kernel
theorem d_Erm_init_19 : decode prog_16_method_1_code 19 = .ok (.iconst 3, 1) := by decide +kernel
theorem d_Erm_init_20 : decode prog_16_method_1_code 20 = .ok (.newarray .int, 2) := by decide +kernel
theorem d_Erm_init_22 : decode prog_16_method_1_code 22 = .ok (.putfield 16, 3) := by decide +kernel
theorem d_Erm_init_25 : decode prog_16_method_1_code 25 = .ok (.aload_n 0, 1) := by decide +kernel
theorem d_Erm_init_26 : decode prog_16_method_1_code 26 = .ok (.iconst 3, 1) := by decide +kernel
theorem d_Erm_init_27 : decode prog_16_method_1_code 27 = .ok (.newarray .int, 2) := by decide +kernel
theorem d_Erm_init_29 : decode prog_16_method_1_code 29 = .ok (.putfield 19, 3) := by decide +kernel
theorem d_Erm_init_32 : decode prog_16_method_1_code 32 = .ok (.aload_n 0, 1) := by decide +kernel
theorem d_Erm_init_33 : decode prog_16_method_1_code 33 = .ok (.bipush 84, 2) := by decide +kernel
theorem d_Erm_init_35 : decode prog_16_method_1_code 35 = .ok (.newarray .int, 2) := by decide +kernel
theorem d_Erm_init_37 : decode prog_16_method_1_code 37 = .ok (.putfield 22, 3) := by decide +kernel
theorem d_Erm_init_40 : decode prog_16_method_1_code 40 = .ok (.iconst 0, 1) := by decide +kernel
theorem d_Erm_init_41 : decode prog_16_method_1_code 41 = .ok (.istore_n 1, 1) := by decide +kernel
theorem d_Erm_init_42 : decode prog_16_method_1_code 42 = .ok (.iload_n 1, 1) := by decide +kernel
theorem d_Erm_init_43 : decode prog_16_method_1_code 43 = .ok (.iconst 3, 1) := by decide +kernel
theorem d_Erm_init_44 : decode prog_16_method_1_code 44 = .ok (.if_icmp .ge 16, 3) := by decide +kernel
theorem d_Erm_init_47 : decode prog_16_method_1_code 47 = .ok (.aload_n 0, 1) := by decide +kernel
theorem d_Erm_init_48 : decode prog_16_method_1_code 48 = .ok (.getfield 19, 3) := by decide +kernel
theorem d_Erm_init_51 : decode prog_16_method_1_code 51 = .ok (.iload_n 1, 1) := by decide +kernel
theorem d_Erm_init_52 : decode prog_16_method_1_code 52 = .ok (.iconst 1, 1) := by decide +kernel
theorem d_Erm_init_53 : decode prog_16_method_1_code 53 = .ok (.iastore, 1) := by decide +kernel
theorem d_Erm_init_54 : decode prog_16_method_1_code 54 = .ok (.iinc 1 1, 3) := by decide +kernel
theorem d_Erm_init_57 : decode prog_16_method_1_code 57 = .ok (.goto (-15), 3) := by decide +kernel
theorem d_Erm_init_60 : decode prog_16_method_1_code 60 = .ok (.return_, 1) := by decide +kernel
set_option maxHeartbeats 4000000 in
set_option maxRecDepth 100000 in
theorem c_Erm_init (l : Launch) (D : va_G) (τ : ClassId × ClassId × ClassId) (B sz : Nat) (h0 : Nat) : Met l y_Erm_init ((Cond.code y_Erm_init prog_16_method_1_code 2 none) :: tw) ({ frames := 20, cells := 5, slots := 96, locals := 2000 }) (va_Pc [.ref h0] (wP D τ B sz [(h0, .inr (17, [.int 0, .null, .null, .null, .null, .null]))])) (va_Qv (S := Nat × Nat × Nat × Nat × Nat × (Nat → Int32)) (fun _ => True) (fun u => wB D τ (va_A [(h0, .inr (17, [.int 0, .null, .null, .null, .null, .null]))] sz) ((fun u : Nat × Nat × Nat × Nat × Nat × (Nat → Int32) => match u with | (q190, q191, q192, q193, q194, f200) => [(h0, .inr (17, [.int 0, .ref q190, .ref q191, .ref q192, .ref q193, .ref q194])), (q190, .inl (τ.1, 3, .inl (fun _ => 0))), (q191, .inl (τ.1, 3, .inl (fun _ => 0))), (q192, .inl (τ.1, 3, .inl (fun _ => 0))), (q193, .inl (τ.1, 3, .inl f200)), (q194, .inl (τ.1, 84, .inl (fun _ => 0)))]) u)) (va_A [(h0, .inr (17, [.int 0, .null, .null, .null, .null, .null]))] sz)) 5 96 (va_A [(h0, .inr (17, [.int 0, .null, .null, .null, .null, .null]))] sz) := by
  refine Met.ofW (cc := prog_16_method_1_code) (maxL := 2) (ret := none) (by decide) rfl ?_
  intro p e s m args below meth c s₁ B0 hml hv
  obtain ⟨rfl, hv⟩ := hv
  have hx := B0.exec
  have hb := B0.bytes
  have hr := B0.returns
  have hts := atoms_spec (ws := (Cond.code y_Erm_init prog_16_method_1_code 2 none) :: tw) B0.pre
  have htw : ∀ w ∈ tw, w.before _ s = true := fun w hw => hts w (List.mem_cons_of_mem _ hw)
  have hown : s.vm.findClass "DrawingMachineModel$EdgeRasterModel" = some m.cls := findClass_of_methodNamed B0.named
  have hlocks := B0.notSynchronized
  have hin : meth.name = "<init>" := (name_of_methodNamed B0.named B0.method).1
  obtain ⟨hC, hP, hD, hsz⟩ := wC_init hv
  subst hsz
  generalize hAe : va_A [(h0, .inr (17, [.int 0, .null, .null, .null, .null, .null]))] s.heap.size = A at hC hD ⊢
  have hS : va_S A s.heap s.heap [] := va_S.rf
  have hl := lv_entry ([.ref h0]) (n := 2) (Nat.le_of_ble_eq_true rfl)
  rw [lg_entry_eq]
  generalize (lg_sl ([.ref h0]) ++ List.replicate (2 - (lg_sl ([.ref h0])).length) Slot.unset).toArray = ls at hl ⊢
  have hl : lv_has ls 2 [(0, .ref h0)] := hl
  refine lv_aload_n hx hb d_Erm_init_0 rfl (lv_at hl 0 rfl) ?_
  refine W.objInit hx hb hown (htw _ k1666) (htw _ k46) (htw _ k47) rfl (by rw [hml]; exact hl.1) rfl d_Erm_init_1 (Nat.le_of_ble_eq_true rfl) (Nat.le_of_ble_eq_true rfl) ?_
  refine W.eq (g2 := F0 m 4 ls []) rfl ?_
  refine lv_aload_n hx hb d_Erm_init_4 rfl (lv_at hl 0 rfl) ?_
  refine lv_iconst (v := 3) hx hb d_Erm_init_5 (by decide) ?_
  refine wna_i hx hb (htw _ k71) hC hP hD hS (N := 3) (by decide) (by omega) (Nat.le_of_ble_eq_true rfl) (Nat.le_of_ble_eq_true rfl) d_Erm_init_6 (fun q190 H hP hD hS => ?_)
  have hP : va_P D classes [(h0, .inr (17, [.int 0, .null, .null, .null, .null, .null])), (q190, .inl (τ.1, 3, .inl (fun _ => 0)))] H := hP
  have hD : va_D A [(h0, .inr (17, [.int 0, .null, .null, .null, .null, .null])), (q190, .inl (τ.1, 3, .inl (fun _ => 0)))] := hD
  refine W.widen (k := 1) (n := 3) (by omega) (by omega) ?_
  refine va_putF (D := D) (ci := 17) (v := .ref q190) (ty := .array .int) (C := R_Erm) (T := F_Erm) (N := 6) hx hb htw i_Erm t_Erm t_Erm_ok n_Erm hown hC.1 hP hD hS 0 rfl rfl 1 (by decide) (htw _ k1668) (fun _ h9 => h9) rfl hin rfl (by decide +kernel) rfl rfl (Nat.le_of_ble_eq_true rfl) d_Erm_init_8 (fun H locs hP hD hS => ?_)
  have hP : va_P D classes [(h0, .inr (17, [.int 0, .ref q190, .null, .null, .null, .null])), (q190, .inl (τ.1, 3, .inl (fun _ => 0)))] H := hP
  have hD : va_D A [(h0, .inr (17, [.int 0, .ref q190, .null, .null, .null, .null])), (q190, .inl (τ.1, 3, .inl (fun _ => 0)))] := hD
  refine lv_aload_n hx hb d_Erm_init_11 rfl (lv_at hl 0 rfl) ?_
  refine lv_iconst (v := 3) hx hb d_Erm_init_12 (by decide) ?_
  refine wna_i hx hb (htw _ k71) hC hP hD hS (N := 3) (by decide) (by omega) (Nat.le_of_ble_eq_true rfl) (Nat.le_of_ble_eq_true rfl) d_Erm_init_13 (fun q191 H hP hD hS => ?_)
  have hP : va_P D classes [(h0, .inr (17, [.int 0, .ref q190, .null, .null, .null, .null])), (q190, .inl (τ.1, 3, .inl (fun _ => 0))), (q191, .inl (τ.1, 3, .inl (fun _ => 0)))] H := hP
  have hD : va_D A [(h0, .inr (17, [.int 0, .ref q190, .null, .null, .null, .null])), (q190, .inl (τ.1, 3, .inl (fun _ => 0))), (q191, .inl (τ.1, 3, .inl (fun _ => 0)))] := hD
  refine W.widen (k := 2) (n := 6) (by omega) (by omega) ?_
  refine va_putF (D := D) (ci := 17) (v := .ref q191) (ty := .array .int) (C := R_Erm) (T := F_Erm) (N := 6) hx hb htw i_Erm t_Erm t_Erm_ok n_Erm hown hC.1 hP hD hS 0 rfl rfl 2 (by decide) (htw _ k1670) (fun _ h9 => h9) rfl hin rfl (by decide +kernel) rfl rfl (Nat.le_of_ble_eq_true rfl) d_Erm_init_15 (fun H locs hP hD hS => ?_)
  have hP : va_P D classes [(h0, .inr (17, [.int 0, .ref q190, .ref q191, .null, .null, .null])), (q190, .inl (τ.1, 3, .inl (fun _ => 0))), (q191, .inl (τ.1, 3, .inl (fun _ => 0)))] H := hP
  have hD : va_D A [(h0, .inr (17, [.int 0, .ref q190, .ref q191, .null, .null, .null])), (q190, .inl (τ.1, 3, .inl (fun _ => 0))), (q191, .inl (τ.1, 3, .inl (fun _ => 0)))] := hD
  refine lv_aload_n hx hb d_Erm_init_18 rfl (lv_at hl 0 rfl) ?_
  refine lv_iconst (v := 3) hx hb d_Erm_init_19 (by decide) ?_
  refine wna_i hx hb (htw _ k71) hC hP hD hS (N := 3) (by decide) (by omega) (Nat.le_of_ble_eq_true rfl) (Nat.le_of_ble_eq_true rfl) d_Erm_init_20 (fun q192 H hP hD hS => ?_)
  have hP : va_P D classes [(h0, .inr (17, [.int 0, .ref q190, .ref q191, .null, .null, .null])), (q190, .inl (τ.1, 3, .inl (fun _ => 0))), (q191, .inl (τ.1, 3, .inl (fun _ => 0))), (q192, .inl (τ.1, 3, .inl (fun _ => 0)))] H := hP
  have hD : va_D A [(h0, .inr (17, [.int 0, .ref q190, .ref q191, .null, .null, .null])), (q190, .inl (τ.1, 3, .inl (fun _ => 0))), (q191, .inl (τ.1, 3, .inl (fun _ => 0))), (q192, .inl (τ.1, 3, .inl (fun _ => 0)))] := hD
  refine W.widen (k := 3) (n := 9) (by omega) (by omega) ?_
  refine va_putF (D := D) (ci := 17) (v := .ref q192) (ty := .array .int) (C := R_Erm) (T := F_Erm) (N := 6) hx hb htw i_Erm t_Erm t_Erm_ok n_Erm hown hC.1 hP hD hS 0 rfl rfl 3 (by decide) (htw _ k1672) (fun _ h9 => h9) rfl hin rfl (by decide +kernel) rfl rfl (Nat.le_of_ble_eq_true rfl) d_Erm_init_22 (fun H locs hP hD hS => ?_)
  have hP : va_P D classes [(h0, .inr (17, [.int 0, .ref q190, .ref q191, .ref q192, .null, .null])), (q190, .inl (τ.1, 3, .inl (fun _ => 0))), (q191, .inl (τ.1, 3, .inl (fun _ => 0))), (q192, .inl (τ.1, 3, .inl (fun _ => 0)))] H := hP
  have hD : va_D A [(h0, .inr (17, [.int 0, .ref q190, .ref q191, .ref q192, .null, .null])), (q190, .inl (τ.1, 3, .inl (fun _ => 0))), (q191, .inl (τ.1, 3, .inl (fun _ => 0))), (q192, .inl (τ.1, 3, .inl (fun _ => 0)))] := hD
  refine lv_aload_n hx hb d_Erm_init_25 rfl (lv_at hl 0 rfl) ?_
  refine lv_iconst (v := 3) hx hb d_Erm_init_26 (by decide) ?_
  refine wna_i hx hb (htw _ k71) hC hP hD hS (N := 3) (by decide) (by omega) (Nat.le_of_ble_eq_true rfl) (Nat.le_of_ble_eq_true rfl) d_Erm_init_27 (fun q193 H hP hD hS => ?_)
  have hP : va_P D classes [(h0, .inr (17, [.int 0, .ref q190, .ref q191, .ref q192, .null, .null])), (q190, .inl (τ.1, 3, .inl (fun _ => 0))), (q191, .inl (τ.1, 3, .inl (fun _ => 0))), (q192, .inl (τ.1, 3, .inl (fun _ => 0))), (q193, .inl (τ.1, 3, .inl (fun _ => 0)))] H := hP
  have hD : va_D A [(h0, .inr (17, [.int 0, .ref q190, .ref q191, .ref q192, .null, .null])), (q190, .inl (τ.1, 3, .inl (fun _ => 0))), (q191, .inl (τ.1, 3, .inl (fun _ => 0))), (q192, .inl (τ.1, 3, .inl (fun _ => 0))), (q193, .inl (τ.1, 3, .inl (fun _ => 0)))] := hD
  refine W.widen (k := 4) (n := 12) (by omega) (by omega) ?_
  refine va_putF (D := D) (ci := 17) (v := .ref q193) (ty := .array .int) (C := R_Erm) (T := F_Erm) (N := 6) hx hb htw i_Erm t_Erm t_Erm_ok n_Erm hown hC.1 hP hD hS 0 rfl rfl 4 (by decide) (htw _ k1674) (fun _ h9 => h9) rfl hin rfl (by decide +kernel) rfl rfl (Nat.le_of_ble_eq_true rfl) d_Erm_init_29 (fun H locs hP hD hS => ?_)
  have hP : va_P D classes [(h0, .inr (17, [.int 0, .ref q190, .ref q191, .ref q192, .ref q193, .null])), (q190, .inl (τ.1, 3, .inl (fun _ => 0))), (q191, .inl (τ.1, 3, .inl (fun _ => 0))), (q192, .inl (τ.1, 3, .inl (fun _ => 0))), (q193, .inl (τ.1, 3, .inl (fun _ => 0)))] H := hP
  have hD : va_D A [(h0, .inr (17, [.int 0, .ref q190, .ref q191, .ref q192, .ref q193, .null])), (q190, .inl (τ.1, 3, .inl (fun _ => 0))), (q191, .inl (τ.1, 3, .inl (fun _ => 0))), (q192, .inl (τ.1, 3, .inl (fun _ => 0))), (q193, .inl (τ.1, 3, .inl (fun _ => 0)))] := hD
  refine lv_aload_n hx hb d_Erm_init_32 rfl (lv_at hl 0 rfl) ?_
  refine lv_bipush (v := 84) hx hb d_Erm_init_33 (by decide) ?_
  refine wna_i hx hb (htw _ k71) hC hP hD hS (N := 84) (by decide) (by omega) (Nat.le_of_ble_eq_true rfl) (Nat.le_of_ble_eq_true rfl) d_Erm_init_35 (fun q194 H hP hD hS => ?_)
  have hP : va_P D classes [(h0, .inr (17, [.int 0, .ref q190, .ref q191, .ref q192, .ref q193, .null])), (q190, .inl (τ.1, 3, .inl (fun _ => 0))), (q191, .inl (τ.1, 3, .inl (fun _ => 0))), (q192, .inl (τ.1, 3, .inl (fun _ => 0))), (q193, .inl (τ.1, 3, .inl (fun _ => 0))), (q194, .inl (τ.1, 84, .inl (fun _ => 0)))] H := hP
  have hD : va_D A [(h0, .inr (17, [.int 0, .ref q190, .ref q191, .ref q192, .ref q193, .null])), (q190, .inl (τ.1, 3, .inl (fun _ => 0))), (q191, .inl (τ.1, 3, .inl (fun _ => 0))), (q192, .inl (τ.1, 3, .inl (fun _ => 0))), (q193, .inl (τ.1, 3, .inl (fun _ => 0))), (q194, .inl (τ.1, 84, .inl (fun _ => 0)))] := hD
  refine W.widen (k := 5) (n := 96) (by omega) (by omega) ?_
  refine va_putF (D := D) (ci := 17) (v := .ref q194) (ty := .array .int) (C := R_Erm) (T := F_Erm) (N := 6) hx hb htw i_Erm t_Erm t_Erm_ok n_Erm hown hC.1 hP hD hS 0 rfl rfl 5 (by decide) (htw _ k1676) (fun _ h9 => h9) rfl hin rfl (by decide +kernel) rfl rfl (Nat.le_of_ble_eq_true rfl) d_Erm_init_37 (fun H locs hP hD hS => ?_)
  have hP : va_P D classes [(h0, .inr (17, [.int 0, .ref q190, .ref q191, .ref q192, .ref q193, .ref q194])), (q190, .inl (τ.1, 3, .inl (fun _ => 0))), (q191, .inl (τ.1, 3, .inl (fun _ => 0))), (q192, .inl (τ.1, 3, .inl (fun _ => 0))), (q193, .inl (τ.1, 3, .inl (fun _ => 0))), (q194, .inl (τ.1, 84, .inl (fun _ => 0)))] H := hP
  have hD : va_D A [(h0, .inr (17, [.int 0, .ref q190, .ref q191, .ref q192, .ref q193, .ref q194])), (q190, .inl (τ.1, 3, .inl (fun _ => 0))), (q191, .inl (τ.1, 3, .inl (fun _ => 0))), (q192, .inl (τ.1, 3, .inl (fun _ => 0))), (q193, .inl (τ.1, 3, .inl (fun _ => 0))), (q194, .inl (τ.1, 84, .inl (fun _ => 0)))] := hD
  refine lv_iconst (v := 0) hx hb d_Erm_init_40 (by decide) ?_
  refine lv_istore_n (lv' := [(1, .int 0), (0, .ref h0)]) hx hb d_Erm_init_41 rfl hl (by decide) rfl (fun ls hl => ?_)
  refine lv_iload_n hx hb d_Erm_init_42 rfl (lv_at hl 0 rfl) ?_
  refine lv_iconst (v := 3) hx hb d_Erm_init_43 (by decide) ?_
  refine lv_icmp_ge (tgt := 60) hx hb d_Erm_init_44 (by decide) (fun c_195 => absurd c_195 (by decide)) (fun c_195 => ?_)
  refine lv_aload_n hx hb d_Erm_init_47 rfl (lv_at hl 1 rfl) ?_
  refine va_get (D := D) (ci := 17) (v := .ref q193) (C := R_Erm) (T := F_Erm) (N := 6) hx hb htw i_Erm hown hC.1 hP 0 rfl rfl 4 (by decide) (htw _ k1674) (fun _ h9 => h9) rfl d_Erm_init_48 ?_
  refine lv_iload_n hx hb d_Erm_init_51 rfl (lv_at hl 0 rfl) ?_
  refine lv_iconst (v := 1) hx hb d_Erm_init_52 (by decide) ?_
  refine va_iast hx hb hC.1 hP hD hS 4 0 rfl rfl (by unfold vp_in; decide) d_Erm_init_53 (fun H locs hP hD hS => ?_)
  have hP : va_P D classes [(h0, .inr (17, [.int 0, .ref q190, .ref q191, .ref q192, .ref q193, .ref q194])), (q190, .inl (τ.1, 3, .inl (fun _ => 0))), (q191, .inl (τ.1, 3, .inl (fun _ => 0))), (q192, .inl (τ.1, 3, .inl (fun _ => 0))), (q193, .inl (τ.1, 3, .inl (upd (fun _ => 0) (0 : Int32).toNatClampNeg 1))), (q194, .inl (τ.1, 84, .inl (fun _ => 0)))] H := hP
  have hD : va_D A [(h0, .inr (17, [.int 0, .ref q190, .ref q191, .ref q192, .ref q193, .ref q194])), (q190, .inl (τ.1, 3, .inl (fun _ => 0))), (q191, .inl (τ.1, 3, .inl (fun _ => 0))), (q192, .inl (τ.1, 3, .inl (fun _ => 0))), (q193, .inl (τ.1, 3, .inl (upd (fun _ => 0) (0 : Int32).toNatClampNeg 1))), (q194, .inl (τ.1, 84, .inl (fun _ => 0)))] := hD
  generalize upd (fun _ => 0) (0 : Int32).toNatClampNeg 1 = f196 at hP hD
  refine lv_iinc (v := 1) (lv' := [(1, .int 1), (0, .ref h0)]) hx hb d_Erm_init_54 hl (k := 0) rfl (by decide) (by decide) rfl (fun ls hl => ?_)
  refine lv_goto (tgt := 42) hx hb d_Erm_init_57 (by decide) ?_
  refine lv_iload_n hx hb d_Erm_init_42 rfl (lv_at hl 0 rfl) ?_
  refine lv_iconst (v := 3) hx hb d_Erm_init_43 (by decide) ?_
  refine lv_icmp_ge (tgt := 60) hx hb d_Erm_init_44 (by decide) (fun c_197 => absurd c_197 (by decide)) (fun c_197 => ?_)
  refine lv_aload_n hx hb d_Erm_init_47 rfl (lv_at hl 1 rfl) ?_
  refine va_get (D := D) (ci := 17) (v := .ref q193) (C := R_Erm) (T := F_Erm) (N := 6) hx hb htw i_Erm hown hC.1 hP 0 rfl rfl 4 (by decide) (htw _ k1674) (fun _ h9 => h9) rfl d_Erm_init_48 ?_
  refine lv_iload_n hx hb d_Erm_init_51 rfl (lv_at hl 0 rfl) ?_
  refine lv_iconst (v := 1) hx hb d_Erm_init_52 (by decide) ?_
  refine va_iast hx hb hC.1 hP hD hS 4 0 rfl rfl (by unfold vp_in; decide) d_Erm_init_53 (fun H locs hP hD hS => ?_)
  have hP : va_P D classes [(h0, .inr (17, [.int 0, .ref q190, .ref q191, .ref q192, .ref q193, .ref q194])), (q190, .inl (τ.1, 3, .inl (fun _ => 0))), (q191, .inl (τ.1, 3, .inl (fun _ => 0))), (q192, .inl (τ.1, 3, .inl (fun _ => 0))), (q193, .inl (τ.1, 3, .inl (upd f196 (1 : Int32).toNatClampNeg 1))), (q194, .inl (τ.1, 84, .inl (fun _ => 0)))] H := hP
  have hD : va_D A [(h0, .inr (17, [.int 0, .ref q190, .ref q191, .ref q192, .ref q193, .ref q194])), (q190, .inl (τ.1, 3, .inl (fun _ => 0))), (q191, .inl (τ.1, 3, .inl (fun _ => 0))), (q192, .inl (τ.1, 3, .inl (fun _ => 0))), (q193, .inl (τ.1, 3, .inl (upd f196 (1 : Int32).toNatClampNeg 1))), (q194, .inl (τ.1, 84, .inl (fun _ => 0)))] := hD
  generalize upd f196 (1 : Int32).toNatClampNeg 1 = f198 at hP hD
  refine lv_iinc (v := 2) (lv' := [(1, .int 2), (0, .ref h0)]) hx hb d_Erm_init_54 hl (k := 0) rfl (by decide) (by decide) rfl (fun ls hl => ?_)
  refine lv_goto (tgt := 42) hx hb d_Erm_init_57 (by decide) ?_
  refine lv_iload_n hx hb d_Erm_init_42 rfl (lv_at hl 0 rfl) ?_
  refine lv_iconst (v := 3) hx hb d_Erm_init_43 (by decide) ?_
  refine lv_icmp_ge (tgt := 60) hx hb d_Erm_init_44 (by decide) (fun c_199 => absurd c_199 (by decide)) (fun c_199 => ?_)
  refine lv_aload_n hx hb d_Erm_init_47 rfl (lv_at hl 1 rfl) ?_
  refine va_get (D := D) (ci := 17) (v := .ref q193) (C := R_Erm) (T := F_Erm) (N := 6) hx hb htw i_Erm hown hC.1 hP 0 rfl rfl 4 (by decide) (htw _ k1674) (fun _ h9 => h9) rfl d_Erm_init_48 ?_
  refine lv_iload_n hx hb d_Erm_init_51 rfl (lv_at hl 0 rfl) ?_
  refine lv_iconst (v := 1) hx hb d_Erm_init_52 (by decide) ?_
  refine va_iast hx hb hC.1 hP hD hS 4 0 rfl rfl (by unfold vp_in; decide) d_Erm_init_53 (fun H locs hP hD hS => ?_)
  have hP : va_P D classes [(h0, .inr (17, [.int 0, .ref q190, .ref q191, .ref q192, .ref q193, .ref q194])), (q190, .inl (τ.1, 3, .inl (fun _ => 0))), (q191, .inl (τ.1, 3, .inl (fun _ => 0))), (q192, .inl (τ.1, 3, .inl (fun _ => 0))), (q193, .inl (τ.1, 3, .inl (upd f198 (2 : Int32).toNatClampNeg 1))), (q194, .inl (τ.1, 84, .inl (fun _ => 0)))] H := hP
  have hD : va_D A [(h0, .inr (17, [.int 0, .ref q190, .ref q191, .ref q192, .ref q193, .ref q194])), (q190, .inl (τ.1, 3, .inl (fun _ => 0))), (q191, .inl (τ.1, 3, .inl (fun _ => 0))), (q192, .inl (τ.1, 3, .inl (fun _ => 0))), (q193, .inl (τ.1, 3, .inl (upd f198 (2 : Int32).toNatClampNeg 1))), (q194, .inl (τ.1, 84, .inl (fun _ => 0)))] := hD
  generalize upd f198 (2 : Int32).toNatClampNeg 1 = f200 at hP hD
  refine lv_iinc (v := 3) (lv' := [(1, .int 3), (0, .ref h0)]) hx hb d_Erm_init_54 hl (k := 0) rfl (by decide) (by decide) rfl (fun ls hl => ?_)
  refine lv_goto (tgt := 42) hx hb d_Erm_init_57 (by decide) ?_
  refine lv_iload_n hx hb d_Erm_init_42 rfl (lv_at hl 0 rfl) ?_
  refine lv_iconst (v := 3) hx hb d_Erm_init_43 (by decide) ?_
  refine lv_icmp_ge (tgt := 60) hx hb d_Erm_init_44 (by decide) (fun c_201 => ?_) (fun c_201 => absurd c_201 (by decide))
  refine W.widen (k := 5) (n := 96) (Nat.le_of_ble_eq_true rfl) (Nat.le_of_ble_eq_true rfl) ?_
  have hP9 := hP.sub (ws' := [(h0, .inr (17, [.int 0, .ref q190, .ref q191, .ref q192, .ref q193, .ref q194])), (q190, .inl (τ.1, 3, .inl (fun _ => 0))), (q191, .inl (τ.1, 3, .inl (fun _ => 0))), (q192, .inl (τ.1, 3, .inl (fun _ => 0))), (q193, .inl (τ.1, 3, .inl f200)), (q194, .inl (τ.1, 84, .inl (fun _ => 0)))]) [0, 1, 2, 3, 4, 5] rfl
  have hD9 := hD.sub (ws' := [(h0, .inr (17, [.int 0, .ref q190, .ref q191, .ref q192, .ref q193, .ref q194])), (q190, .inl (τ.1, 3, .inl (fun _ => 0))), (q191, .inl (τ.1, 3, .inl (fun _ => 0))), (q192, .inl (τ.1, 3, .inl (fun _ => 0))), (q193, .inl (τ.1, 3, .inl f200)), (q194, .inl (τ.1, 84, .inl (fun _ => 0)))]) [0, 1, 2, 3, 4, 5] (by decide) rfl
  exact W.vret hx hb hr (fun t ht hW => ⟨⟨(q190, q191, q192, q193, q194, f200), rfl, trivial, by rw [ht]; exact hP9, va_K.moved hW.alike hC.1, hD9⟩, hS.F ht⟩) hS.2.2 d_Erm_init_60
