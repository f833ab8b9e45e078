theorem sd_nz {sd : Int32} (hs : sd = 8 ∨ sd = 16 ∨ sd = 32 ∨ sd = 64) : ¬ sd = 0 := by
  rcases hs with h | h | h | h <;> rw [h] <;> decide
theorem nI_ne {a b : Nat} (h : a < b) (ha : a < 2147483648) (hb : b < 2147483648) : ¬ nI b = nI a := fun e => by
  have := (n_inj b a hb ha).mp e
  omega
theorem d_Pic_makeNew_27 : decode prog_6_method_2_code 27 = .ok (.aload_n 0, 1) := by decide +kernel
theorem d_Pic_makeNew_28 : decode prog_6_method_2_code 28 = .ok (.getfield 9, 3) := by decide +kernel
theorem d_Pic_makeNew_31 : decode prog_6_method_2_code 31 = .ok (.aload_n 0, 1) := by decide +kernel
theorem d_Pic_makeNew_32 : decode prog_6_method_2_code 32 = .ok (.getfield 15, 3) := by decide +kernel
theorem d_Pic_makeNew_35 : decode prog_6_method_2_code 35 = .ok (.imul, 1) := by decide +kernel
theorem d_Pic_makeNew_36 : decode prog_6_method_2_code 36 = .ok (.iconst 2, 1) := by decide +kernel
theorem d_Pic_makeNew_37 : decode prog_6_method_2_code 37 = .ok (.aload_n 0, 1) := by decide +kernel
theorem d_Pic_makeNew_38 : decode prog_6_method_2_code 38 = .ok (.getfield 18, 3) := by decide +kernel
theorem d_Pic_makeNew_41 : decode prog_6_method_2_code 41 = .ok (.arraylength, 1) := by decide +kernel
theorem d_Pic_makeNew_42 : decode prog_6_method_2_code 42 = .ok (.imul, 1) := by decide +kernel
theorem d_Pic_makeNew_43 : decode prog_6_method_2_code 43 = .ok (.invokestatic 38, 3) := by decide +kernel
theorem d_Pic_makeNew_46 : decode prog_6_method_2_code 46 = .ok (.sipush 16384, 3) := by decide +kernel
theorem d_Pic_makeNew_49 : decode prog_6_method_2_code 49 = .ok (.invokestatic 44, 3) := by decide +kernel
theorem d_Pic_makeNew_52 : decode prog_6_method_2_code 52 = .ok (.istore_n 3, 1) := by decide +kernel
theorem d_Pic_makeNew_53 : decode prog_6_method_2_code 53 = .ok (.aload_n 0, 1) := by decide +kernel
theorem d_Pic_makeNew_54 : decode prog_6_method_2_code 54 = .ok (.iload_n 3, 1) := by decide +kernel
theorem d_Pic_makeNew_55 : decode prog_6_method_2_code 55 = .ok (.newarray .int, 2) := by decide +kernel
theorem d_Pic_makeNew_57 : decode prog_6_method_2_code 57 = .ok (.putfield 18, 3) := by decide +kernel
theorem d_Pic_makeNew_60 : decode prog_6_method_2_code 60 = .ok (.aload_n 0, 1) := by decide +kernel
theorem d_Pic_makeNew_61 : decode prog_6_method_2_code 61 = .ok (.iload_n 3, 1) := by decide +kernel
theorem d_Pic_makeNew_62 : decode prog_6_method_2_code 62 = .ok (.newarray .int, 2) := by decide +kernel
theorem d_Pic_makeNew_64 : decode prog_6_method_2_code 64 = .ok (.putfield 22, 3) := by decide +kernel
theorem d_Pic_makeNew_67 : decode prog_6_method_2_code 67 = .ok (.aload_n 0, 1) := by decide +kernel
theorem d_Pic_makeNew_68 : decode prog_6_method_2_code 68 = .ok (.iload_n 3, 1) := by decide +kernel
theorem d_Pic_makeNew_69 : decode prog_6_method_2_code 69 = .ok (.newarray .int, 2) := by decide +kernel
theorem d_Pic_makeNew_71 : decode prog_6_method_2_code 71 = .ok (.putfield 25, 3) := by decide +kernel
theorem d_Pic_makeNew_74 : decode prog_6_method_2_code 74 = .ok (.return_, 1) := by decide +kernel
set_option maxHeartbeats 4000000 in
set_option maxRecDepth 100000 in
theorem c_aNew (l : Launch) (D : va_G) (τ : ClassId × ClassId × ClassId) (B sz : Nat) (σ : Sg) (ad : Nat → Nat) (a : Nat) (b : Nat) (r1 : Nat) (rm : Nat) (hgt : ¬ nI (a * b) ≤ nI (σ.2.2.2.2 0)) (hr1 : imax (nI (a * b)) (nI (2 * σ.2.2.2.2 0)) = nI r1) (hrm : imin (nI r1) 16384 = nI rm) (hrm2 : rm ≤ 16384) : Met l y_Pic_makeNew ((Cond.code y_Pic_makeNew prog_6_method_2_code 4 none) :: tw) ({ frames := 40, cells := 3, slots := (3 * rm), locals := 4000 }) (va_Pc [.ref (ad 58), .int (nI a), .int (nI b)] (wP D τ B sz [(ad 58, .inr (2, [.int (σ.1 0), .int (σ.1 1), .ref (ad 2), .ref (ad 3), .ref (ad 4), .ref (ad 57), .ref (ad 1)])), (ad 2, .inl (τ.1, σ.2.2.2.2 0, .inl (σ.2.2.1 2))), (ad 3, .inl (τ.1, σ.2.2.2.2 0, .inl (σ.2.2.1 3))), (ad 4, .inl (τ.1, σ.2.2.2.2 0, .inl (σ.2.2.1 4)))])) (va_Qv (S := Nat × Nat × Nat) (fun _ => True) (fun u => wB D τ (va_A [(ad 58, .inr (2, [.int (σ.1 0), .int (σ.1 1), .ref (ad 2), .ref (ad 3), .ref (ad 4), .ref (ad 57), .ref (ad 1)])), (ad 2, .inl (τ.1, σ.2.2.2.2 0, .inl (σ.2.2.1 2))), (ad 3, .inl (τ.1, σ.2.2.2.2 0, .inl (σ.2.2.1 3))), (ad 4, .inl (τ.1, σ.2.2.2.2 0, .inl (σ.2.2.1 4)))] sz) ((fun u : Nat × Nat × Nat => match u with | (q362, q363, q364) => [(ad 58, .inr (2, [.int (nI a), .int (nI b), .ref q362, .ref q363, .ref q364, .ref (ad 57), .ref (ad 1)])), (q362, .inl (τ.1, rm, .inl (fun _ => 0))), (q363, .inl (τ.1, rm, .inl (fun _ => 0))), (q364, .inl (τ.1, rm, .inl (fun _ => 0)))]) u)) (va_A [(ad 58, .inr (2, [.int (σ.1 0), .int (σ.1 1), .ref (ad 2), .ref (ad 3), .ref (ad 4), .ref (ad 57), .ref (ad 1)])), (ad 2, .inl (τ.1, σ.2.2.2.2 0, .inl (σ.2.2.1 2))), (ad 3, .inl (τ.1, σ.2.2.2.2 0, .inl (σ.2.2.1 3))), (ad 4, .inl (τ.1, σ.2.2.2.2 0, .inl (σ.2.2.1 4)))] sz)) 3 (3 * rm) (va_A [(ad 58, .inr (2, [.int (σ.1 0), .int (σ.1 1), .ref (ad 2), .ref (ad 3), .ref (ad 4), .ref (ad 57), .ref (ad 1)])), (ad 2, .inl (τ.1, σ.2.2.2.2 0, .inl (σ.2.2.1 2))), (ad 3, .inl (τ.1, σ.2.2.2.2 0, .inl (σ.2.2.1 3))), (ad 4, .inl (τ.1, σ.2.2.2.2 0, .inl (σ.2.2.1 4)))] sz) := by
  refine Met.ofW (cc := prog_6_method_2_code) (maxL := 4) (ret := none) (by decide) rfl ?_
  intro p e s m args below meth c s₁ B0 hml hv
  obtain ⟨rfl, hv⟩ := hv
  have hx := B0.exec
  have hb := B0.bytes
  have hr := B0.returns
  have hts := atoms_spec (ws := (Cond.code y_Pic_makeNew prog_6_method_2_code 4 none) :: tw) B0.pre
  have htw : ∀ w ∈ tw, w.before _ s = true := fun w hw => hts w (List.mem_cons_of_mem _ hw)
  have hown : s.vm.findClass "DrawingMachine$Picture" = some m.cls := findClass_of_methodNamed B0.named
  have hlocks := B0.notSynchronized
  obtain ⟨hC, hP, hD, hsz⟩ := wC_init hv
  subst hsz
  generalize hAe : va_A [(ad 58, .inr (2, [.int (σ.1 0), .int (σ.1 1), .ref (ad 2), .ref (ad 3), .ref (ad 4), .ref (ad 57), .ref (ad 1)])), (ad 2, .inl (τ.1, σ.2.2.2.2 0, .inl (σ.2.2.1 2))), (ad 3, .inl (τ.1, σ.2.2.2.2 0, .inl (σ.2.2.1 3))), (ad 4, .inl (τ.1, σ.2.2.2.2 0, .inl (σ.2.2.1 4)))] s.heap.size = A at hC hD ⊢
  have hS : va_S A s.heap s.heap [] := va_S.rf
  have hl := lv_entry ([.ref (ad 58), .int (nI a), .int (nI b)]) (n := 4) (Nat.le_of_ble_eq_true rfl)
  rw [lg_entry_eq]
  generalize (lg_sl ([.ref (ad 58), .int (nI a), .int (nI b)]) ++ List.replicate (4 - (lg_sl ([.ref (ad 58), .int (nI a), .int (nI b)])).length) Slot.unset).toArray = ls at hl ⊢
  have hl : lv_has ls 4 [(0, .ref (ad 58)), (1, .int (nI a)), (2, .int (nI b))] := hl
  refine lv_aload_n hx hb d_Pic_makeNew_0 rfl (lv_at hl 0 rfl) ?_
  refine lv_iload_n hx hb d_Pic_makeNew_1 rfl (lv_at hl 1 rfl) ?_
  refine va_put (D := D) (ci := 2) (v := .int (nI a)) (ty := .int) (C := R_Pic) (T := F_Pic) (N := 7) hx hb htw i_Pic t_Pic t_Pic_ok n_Pic hown hC.1 hP hD hS 0 rfl rfl 0 (by decide) (htw _ k78) (fun _ h9 => h9) rfl (by decide +kernel) rfl rfl (Nat.le_of_ble_eq_true rfl) d_Pic_makeNew_2 (fun H locs hP hD hS => ?_)
  have hP : va_P D classes [(ad 58, .inr (2, [.int (nI a), .int (σ.1 1), .ref (ad 2), .ref (ad 3), .ref (ad 4), .ref (ad 57), .ref (ad 1)])), (ad 2, .inl (τ.1, σ.2.2.2.2 0, .inl (σ.2.2.1 2))), (ad 3, .inl (τ.1, σ.2.2.2.2 0, .inl (σ.2.2.1 3))), (ad 4, .inl (τ.1, σ.2.2.2.2 0, .inl (σ.2.2.1 4)))] H := hP
  have hD : va_D A [(ad 58, .inr (2, [.int (nI a), .int (σ.1 1), .ref (ad 2), .ref (ad 3), .ref (ad 4), .ref (ad 57), .ref (ad 1)])), (ad 2, .inl (τ.1, σ.2.2.2.2 0, .inl (σ.2.2.1 2))), (ad 3, .inl (τ.1, σ.2.2.2.2 0, .inl (σ.2.2.1 3))), (ad 4, .inl (τ.1, σ.2.2.2.2 0, .inl (σ.2.2.1 4)))] := hD
  refine lv_aload_n hx hb d_Pic_makeNew_5 rfl (lv_at hl 0 rfl) ?_
  refine lv_iload_n hx hb d_Pic_makeNew_6 rfl (lv_at hl 2 rfl) ?_
  refine va_put (D := D) (ci := 2) (v := .int (nI b)) (ty := .int) (C := R_Pic) (T := F_Pic) (N := 7) hx hb htw i_Pic t_Pic t_Pic_ok n_Pic hown hC.1 hP hD hS 0 rfl rfl 1 (by decide) (htw _ k81) (fun _ h9 => h9) rfl (by decide +kernel) rfl rfl (Nat.le_of_ble_eq_true rfl) d_Pic_makeNew_7 (fun H locs hP hD hS => ?_)
  have hP : va_P D classes [(ad 58, .inr (2, [.int (nI a), .int (nI b), .ref (ad 2), .ref (ad 3), .ref (ad 4), .ref (ad 57), .ref (ad 1)])), (ad 2, .inl (τ.1, σ.2.2.2.2 0, .inl (σ.2.2.1 2))), (ad 3, .inl (τ.1, σ.2.2.2.2 0, .inl (σ.2.2.1 3))), (ad 4, .inl (τ.1, σ.2.2.2.2 0, .inl (σ.2.2.1 4)))] H := hP
  have hD : va_D A [(ad 58, .inr (2, [.int (nI a), .int (nI b), .ref (ad 2), .ref (ad 3), .ref (ad 4), .ref (ad 57), .ref (ad 1)])), (ad 2, .inl (τ.1, σ.2.2.2.2 0, .inl (σ.2.2.1 2))), (ad 3, .inl (τ.1, σ.2.2.2.2 0, .inl (σ.2.2.1 3))), (ad 4, .inl (τ.1, σ.2.2.2.2 0, .inl (σ.2.2.1 4)))] := hD
  refine lv_aload_n hx hb d_Pic_makeNew_10 rfl (lv_at hl 0 rfl) ?_
  refine va_get (D := D) (ci := 2) (v := .int (nI a)) (C := R_Pic) (T := F_Pic) (N := 7) hx hb htw i_Pic hown hC.1 hP 0 rfl rfl 0 (by decide) (htw _ k78) (fun _ h9 => h9) rfl d_Pic_makeNew_11 ?_
  refine lv_aload_n hx hb d_Pic_makeNew_14 rfl (lv_at hl 0 rfl) ?_
  refine va_get (D := D) (ci := 2) (v := .int (nI b)) (C := R_Pic) (T := F_Pic) (N := 7) hx hb htw i_Pic hown hC.1 hP 0 rfl rfl 1 (by decide) (htw _ k81) (fun _ h9 => h9) rfl d_Pic_makeNew_15 ?_
  refine lv_imul hx hb d_Pic_makeNew_18 ?_
  refine wi_c (v := nI (a * b)) (n_mul a b) ?_
  refine lv_aload_n hx hb d_Pic_makeNew_19 rfl (lv_at hl 0 rfl) ?_
  refine va_get (D := D) (ci := 2) (v := .ref (ad 2)) (C := R_Pic) (T := F_Pic) (N := 7) hx hb htw i_Pic hown hC.1 hP 0 rfl rfl 2 (by decide) (htw _ k84) (fun _ h9 => h9) rfl d_Pic_makeNew_20 ?_
  refine va_alen hx hb hC.1 hP 1 0 rfl (ty := .int) rfl (v := (nI (σ.2.2.2.2 0))) (rfl) d_Pic_makeNew_23 ?_
  refine lv_icmp_le (tgt := 75) hx hb d_Pic_makeNew_24 (by decide) (fun c_361 => absurd c_361 hgt) (fun c_361 => ?_)
  refine lv_aload_n hx hb d_Pic_makeNew_27 rfl (lv_at hl 0 rfl) ?_
  refine va_get (D := D) (ci := 2) (v := .int (nI a)) (C := R_Pic) (T := F_Pic) (N := 7) hx hb htw i_Pic hown hC.1 hP 0 rfl rfl 0 (by decide) (htw _ k78) (fun _ h9 => h9) rfl d_Pic_makeNew_28 ?_
  refine lv_aload_n hx hb d_Pic_makeNew_31 rfl (lv_at hl 0 rfl) ?_
  refine va_get (D := D) (ci := 2) (v := .int (nI b)) (C := R_Pic) (T := F_Pic) (N := 7) hx hb htw i_Pic hown hC.1 hP 0 rfl rfl 1 (by decide) (htw _ k81) (fun _ h9 => h9) rfl d_Pic_makeNew_32 ?_
  refine lv_imul hx hb d_Pic_makeNew_35 ?_
  refine wi_c (v := nI (a * b)) (n_mul a b) ?_
  refine lv_iconst (v := 2) hx hb d_Pic_makeNew_36 (by decide) ?_
  refine lv_aload_n hx hb d_Pic_makeNew_37 rfl (lv_at hl 0 rfl) ?_
  refine va_get (D := D) (ci := 2) (v := .ref (ad 2)) (C := R_Pic) (T := F_Pic) (N := 7) hx hb htw i_Pic hown hC.1 hP 0 rfl rfl 2 (by decide) (htw _ k84) (fun _ h9 => h9) rfl d_Pic_makeNew_38 ?_
  refine va_alen hx hb hC.1 hP 1 0 rfl (ty := .int) rfl (v := (nI (σ.2.2.2.2 0))) (rfl) d_Pic_makeNew_41 ?_
  refine lv_imul hx hb d_Pic_makeNew_42 ?_
  refine wi_c (v := nI (2 * σ.2.2.2.2 0)) (n_mul 2 _) ?_
  refine va_mmax hx hb (hml.trans hl.1.symm) hown (htw _ k559) (htw _ k560) (htw _ k25) (htw _ k561) (Nat.le_of_ble_eq_true rfl) (Nat.le_of_ble_eq_true rfl) (Nat.zero_le _) (Nat.zero_le _) d_Pic_makeNew_43 ?_
  refine wi_c (v := nI r1) (hr1) ?_
  refine lv_sipush (v := 16384) hx hb d_Pic_makeNew_46 (by decide) ?_
  refine va_mmin hx hb (hml.trans hl.1.symm) hown (htw _ k562) (htw _ k563) (htw _ k25) (htw _ k564) (Nat.le_of_ble_eq_true rfl) (Nat.le_of_ble_eq_true rfl) (Nat.zero_le _) (Nat.zero_le _) d_Pic_makeNew_49 ?_
  refine wi_c (v := nI rm) (hrm) ?_
  refine lv_istore_n (lv' := [(3, .int (nI rm)), (0, .ref (ad 58)), (1, .int (nI a)), (2, .int (nI b))]) hx hb d_Pic_makeNew_52 rfl hl (by decide) rfl (fun ls hl => ?_)
  refine lv_aload_n hx hb d_Pic_makeNew_53 rfl (lv_at hl 1 rfl) ?_
  refine lv_iload_n hx hb d_Pic_makeNew_54 rfl (lv_at hl 0 rfl) ?_
  refine wna_i hx hb (htw _ k71) hC hP hD hS (N := rm) (rfl) (by omega) (Nat.le_of_ble_eq_true rfl) (show 0 + rm ≤ (3 * rm) from by omega) d_Pic_makeNew_55 (fun q362 H hP hD hS => ?_)
  have hP : va_P D classes [(ad 58, .inr (2, [.int (nI a), .int (nI b), .ref (ad 2), .ref (ad 3), .ref (ad 4), .ref (ad 57), .ref (ad 1)])), (ad 2, .inl (τ.1, σ.2.2.2.2 0, .inl (σ.2.2.1 2))), (ad 3, .inl (τ.1, σ.2.2.2.2 0, .inl (σ.2.2.1 3))), (ad 4, .inl (τ.1, σ.2.2.2.2 0, .inl (σ.2.2.1 4))), (q362, .inl (τ.1, rm, .inl (fun _ => 0)))] H := hP
  have hD : va_D A [(ad 58, .inr (2, [.int (nI a), .int (nI b), .ref (ad 2), .ref (ad 3), .ref (ad 4), .ref (ad 57), .ref (ad 1)])), (ad 2, .inl (τ.1, σ.2.2.2.2 0, .inl (σ.2.2.1 2))), (ad 3, .inl (τ.1, σ.2.2.2.2 0, .inl (σ.2.2.1 3))), (ad 4, .inl (τ.1, σ.2.2.2.2 0, .inl (σ.2.2.1 4))), (q362, .inl (τ.1, rm, .inl (fun _ => 0)))] := hD
  refine W.widen (k := 1) (n := rm) (by omega) (by omega) ?_
  refine va_put (D := D) (ci := 2) (v := .ref q362) (ty := .array .int) (C := R_Pic) (T := F_Pic) (N := 7) hx hb htw i_Pic t_Pic t_Pic_ok n_Pic hown hC.1 hP hD hS 0 rfl rfl 2 (by decide) (htw _ k84) (fun _ h9 => h9) rfl (by decide +kernel) rfl rfl (Nat.le_of_ble_eq_true rfl) d_Pic_makeNew_57 (fun H locs hP hD hS => ?_)
  have hP : va_P D classes [(ad 58, .inr (2, [.int (nI a), .int (nI b), .ref q362, .ref (ad 3), .ref (ad 4), .ref (ad 57), .ref (ad 1)])), (ad 2, .inl (τ.1, σ.2.2.2.2 0, .inl (σ.2.2.1 2))), (ad 3, .inl (τ.1, σ.2.2.2.2 0, .inl (σ.2.2.1 3))), (ad 4, .inl (τ.1, σ.2.2.2.2 0, .inl (σ.2.2.1 4))), (q362, .inl (τ.1, rm, .inl (fun _ => 0)))] H := hP
  have hD : va_D A [(ad 58, .inr (2, [.int (nI a), .int (nI b), .ref q362, .ref (ad 3), .ref (ad 4), .ref (ad 57), .ref (ad 1)])), (ad 2, .inl (τ.1, σ.2.2.2.2 0, .inl (σ.2.2.1 2))), (ad 3, .inl (τ.1, σ.2.2.2.2 0, .inl (σ.2.2.1 3))), (ad 4, .inl (τ.1, σ.2.2.2.2 0, .inl (σ.2.2.1 4))), (q362, .inl (τ.1, rm, .inl (fun _ => 0)))] := hD
  refine lv_aload_n hx hb d_Pic_makeNew_60 rfl (lv_at hl 1 rfl) ?_
  refine lv_iload_n hx hb d_Pic_makeNew_61 rfl (lv_at hl 0 rfl) ?_
  refine wna_i hx hb (htw _ k71) hC hP hD hS (N := rm) (rfl) (by omega) (Nat.le_of_ble_eq_true rfl) (show rm + rm ≤ (3 * rm) from by omega) d_Pic_makeNew_62 (fun q363 H hP hD hS => ?_)
  have hP : va_P D classes [(ad 58, .inr (2, [.int (nI a), .int (nI b), .ref q362, .ref (ad 3), .ref (ad 4), .ref (ad 57), .ref (ad 1)])), (ad 2, .inl (τ.1, σ.2.2.2.2 0, .inl (σ.2.2.1 2))), (ad 3, .inl (τ.1, σ.2.2.2.2 0, .inl (σ.2.2.1 3))), (ad 4, .inl (τ.1, σ.2.2.2.2 0, .inl (σ.2.2.1 4))), (q362, .inl (τ.1, rm, .inl (fun _ => 0))), (q363, .inl (τ.1, rm, .inl (fun _ => 0)))] H := hP
  have hD : va_D A [(ad 58, .inr (2, [.int (nI a), .int (nI b), .ref q362, .ref (ad 3), .ref (ad 4), .ref (ad 57), .ref (ad 1)])), (ad 2, .inl (τ.1, σ.2.2.2.2 0, .inl (σ.2.2.1 2))), (ad 3, .inl (τ.1, σ.2.2.2.2 0, .inl (σ.2.2.1 3))), (ad 4, .inl (τ.1, σ.2.2.2.2 0, .inl (σ.2.2.1 4))), (q362, .inl (τ.1, rm, .inl (fun _ => 0))), (q363, .inl (τ.1, rm, .inl (fun _ => 0)))] := hD
  refine W.widen (k := 2) (n := rm + rm) (by omega) (by omega) ?_
  refine va_put (D := D) (ci := 2) (v := .ref q363) (ty := .array .int) (C := R_Pic) (T := F_Pic) (N := 7) hx hb htw i_Pic t_Pic t_Pic_ok n_Pic hown hC.1 hP hD hS 0 rfl rfl 3 (by decide) (htw _ k85) (fun _ h9 => h9) rfl (by decide +kernel) rfl rfl (Nat.le_of_ble_eq_true rfl) d_Pic_makeNew_64 (fun H locs hP hD hS => ?_)
  have hP : va_P D classes [(ad 58, .inr (2, [.int (nI a), .int (nI b), .ref q362, .ref q363, .ref (ad 4), .ref (ad 57), .ref (ad 1)])), (ad 2, .inl (τ.1, σ.2.2.2.2 0, .inl (σ.2.2.1 2))), (ad 3, .inl (τ.1, σ.2.2.2.2 0, .inl (σ.2.2.1 3))), (ad 4, .inl (τ.1, σ.2.2.2.2 0, .inl (σ.2.2.1 4))), (q362, .inl (τ.1, rm, .inl (fun _ => 0))), (q363, .inl (τ.1, rm, .inl (fun _ => 0)))] H := hP
  have hD : va_D A [(ad 58, .inr (2, [.int (nI a), .int (nI b), .ref q362, .ref q363, .ref (ad 4), .ref (ad 57), .ref (ad 1)])), (ad 2, .inl (τ.1, σ.2.2.2.2 0, .inl (σ.2.2.1 2))), (ad 3, .inl (τ.1, σ.2.2.2.2 0, .inl (σ.2.2.1 3))), (ad 4, .inl (τ.1, σ.2.2.2.2 0, .inl (σ.2.2.1 4))), (q362, .inl (τ.1, rm, .inl (fun _ => 0))), (q363, .inl (τ.1, rm, .inl (fun _ => 0)))] := hD
  refine lv_aload_n hx hb d_Pic_makeNew_67 rfl (lv_at hl 1 rfl) ?_
  refine lv_iload_n hx hb d_Pic_makeNew_68 rfl (lv_at hl 0 rfl) ?_
  refine wna_i hx hb (htw _ k71) hC hP hD hS (N := rm) (rfl) (by omega) (Nat.le_of_ble_eq_true rfl) (show rm + rm + rm ≤ (3 * rm) from by omega) d_Pic_makeNew_69 (fun q364 H hP hD hS => ?_)
  have hP : va_P D classes [(ad 58, .inr (2, [.int (nI a), .int (nI b), .ref q362, .ref q363, .ref (ad 4), .ref (ad 57), .ref (ad 1)])), (ad 2, .inl (τ.1, σ.2.2.2.2 0, .inl (σ.2.2.1 2))), (ad 3, .inl (τ.1, σ.2.2.2.2 0, .inl (σ.2.2.1 3))), (ad 4, .inl (τ.1, σ.2.2.2.2 0, .inl (σ.2.2.1 4))), (q362, .inl (τ.1, rm, .inl (fun _ => 0))), (q363, .inl (τ.1, rm, .inl (fun _ => 0))), (q364, .inl (τ.1, rm, .inl (fun _ => 0)))] H := hP
  have hD : va_D A [(ad 58, .inr (2, [.int (nI a), .int (nI b), .ref q362, .ref q363, .ref (ad 4), .ref (ad 57), .ref (ad 1)])), (ad 2, .inl (τ.1, σ.2.2.2.2 0, .inl (σ.2.2.1 2))), (ad 3, .inl (τ.1, σ.2.2.2.2 0, .inl (σ.2.2.1 3))), (ad 4, .inl (τ.1, σ.2.2.2.2 0, .inl (σ.2.2.1 4))), (q362, .inl (τ.1, rm, .inl (fun _ => 0))), (q363, .inl (τ.1, rm, .inl (fun _ => 0))), (q364, .inl (τ.1, rm, .inl (fun _ => 0)))] := hD
  refine W.widen (k := 3) (n := rm + rm + rm) (by omega) (by omega) ?_
  refine va_put (D := D) (ci := 2) (v := .ref q364) (ty := .array .int) (C := R_Pic) (T := F_Pic) (N := 7) hx hb htw i_Pic t_Pic t_Pic_ok n_Pic hown hC.1 hP hD hS 0 rfl rfl 4 (by decide) (htw _ k86) (fun _ h9 => h9) rfl (by decide +kernel) rfl rfl (Nat.le_of_ble_eq_true rfl) d_Pic_makeNew_71 (fun H locs hP hD hS => ?_)
  have hP : va_P D classes [(ad 58, .inr (2, [.int (nI a), .int (nI b), .ref q362, .ref q363, .ref q364, .ref (ad 57), .ref (ad 1)])), (ad 2, .inl (τ.1, σ.2.2.2.2 0, .inl (σ.2.2.1 2))), (ad 3, .inl (τ.1, σ.2.2.2.2 0, .inl (σ.2.2.1 3))), (ad 4, .inl (τ.1, σ.2.2.2.2 0, .inl (σ.2.2.1 4))), (q362, .inl (τ.1, rm, .inl (fun _ => 0))), (q363, .inl (τ.1, rm, .inl (fun _ => 0))), (q364, .inl (τ.1, rm, .inl (fun _ => 0)))] H := hP
  have hD : va_D A [(ad 58, .inr (2, [.int (nI a), .int (nI b), .ref q362, .ref q363, .ref q364, .ref (ad 57), .ref (ad 1)])), (ad 2, .inl (τ.1, σ.2.2.2.2 0, .inl (σ.2.2.1 2))), (ad 3, .inl (τ.1, σ.2.2.2.2 0, .inl (σ.2.2.1 3))), (ad 4, .inl (τ.1, σ.2.2.2.2 0, .inl (σ.2.2.1 4))), (q362, .inl (τ.1, rm, .inl (fun _ => 0))), (q363, .inl (τ.1, rm, .inl (fun _ => 0))), (q364, .inl (τ.1, rm, .inl (fun _ => 0)))] := hD
  refine W.widen (k := 3) (n := (3 * rm)) (by omega) (by omega) ?_
  have hP9 := hP.sub (ws' := [(ad 58, .inr (2, [.int (nI a), .int (nI b), .ref q362, .ref q363, .ref q364, .ref (ad 57), .ref (ad 1)])), (q362, .inl (τ.1, rm, .inl (fun _ => 0))), (q363, .inl (τ.1, rm, .inl (fun _ => 0))), (q364, .inl (τ.1, rm, .inl (fun _ => 0)))]) [0, 4, 5, 6] rfl
  have hD9 := hD.sub (ws' := [(ad 58, .inr (2, [.int (nI a), .int (nI b), .ref q362, .ref q363, .ref q364, .ref (ad 57), .ref (ad 1)])), (q362, .inl (τ.1, rm, .inl (fun _ => 0))), (q363, .inl (τ.1, rm, .inl (fun _ => 0))), (q364, .inl (τ.1, rm, .inl (fun _ => 0)))]) [0, 4, 5, 6] (by decide) rfl
  exact W.vret hx hb hr (fun t ht hW => ⟨⟨(q362, q363, q364), rfl, trivial, by rw [ht]; exact hP9, va_K.moved hW.alike hC.1, hD9⟩, hS.F ht⟩) hS.2.2 d_Pic_makeNew_74

set_option maxHeartbeats 4000000 in
set_option maxRecDepth 100000 in
theorem c_isTile_t (l : Launch) (D : va_G) (τ : ClassId × ClassId × ClassId) (B sz : Nat) (x : Int32) (hs : x = 8 ∨ x = 16 ∨ x = 32 ∨ x = 64) : Met l y_DM_isTileSide ((Cond.code y_DM_isTileSide prog_1_method_23_code 1 (some .boolean)) :: tw) ({ frames := 20, cells := 0, slots := 0, locals := 2000 }) (va_Pc [.int x] (wP D τ B sz [])) (va_Qi (S := Unit) (fun r u => r = 1) (fun u => wB D τ (va_A [] sz) ((fun _ : Unit => []) u)) (va_A [] sz)) 0 0 (va_A [] sz) := by
  refine Met.ofW (cc := prog_1_method_23_code) (maxL := 1) (ret := (some .boolean)) (by decide) rfl ?_
  intro p e s m args below meth c s₁ B0 hml hv
  obtain ⟨rfl, hv⟩ := hv
  have hx := B0.exec
  have hb := B0.bytes
  have hr := B0.returns
  have hts := atoms_spec (ws := (Cond.code y_DM_isTileSide prog_1_method_23_code 1 (some .boolean)) :: tw) B0.pre
  have htw : ∀ w ∈ tw, w.before _ s = true := fun w hw => hts w (List.mem_cons_of_mem _ hw)
  have hown : s.vm.findClass "DrawingMachine" = some m.cls := findClass_of_methodNamed B0.named
  have hlocks := B0.notSynchronized
  obtain ⟨hC, hP, hD, hsz⟩ := wC_init hv
  subst hsz
  generalize hAe : va_A [] s.heap.size = A at hC hD ⊢
  have hS : va_S A s.heap s.heap [] := va_S.rf
  have hl := lv_entry ([.int x]) (n := 1) (Nat.le_of_ble_eq_true rfl)
  rw [lg_entry_eq]
  generalize (lg_sl ([.int x]) ++ List.replicate (1 - (lg_sl ([.int x])).length) Slot.unset).toArray = ls at hl ⊢
  have hl : lv_has ls 1 [(0, .int x)] := hl
  refine lv_iload_n hx hb d_DM_isTileSide_0 rfl (lv_at hl 0 rfl) ?_
  refine lv_bipush (v := 8) hx hb d_DM_isTileSide_1 (by decide) ?_
  refine lv_icmp_eq (tgt := 24) hx hb d_DM_isTileSide_3 (by decide) (fun c_365 => ?_) (fun c_365 => ?_)
  ·
    refine lv_iconst (v := 1) hx hb d_DM_isTileSide_24 (by decide) ?_
    refine lv_goto (tgt := 29) hx hb d_DM_isTileSide_25 (by decide) ?_
    refine W.widen (k := 0) (n := 0) (Nat.le_of_ble_eq_true rfl) (Nat.le_of_ble_eq_true rfl) ?_
    have hP9 := hP.sub (ws' := []) [] rfl
    have hD9 := hD.sub (ws' := []) [] (by decide) rfl
    exact W.zret (v := 1) hx hb hr (by decide) (fun t ht hW => ⟨⟨1, (), rfl, rfl, by rw [ht]; exact hP9, va_K.moved hW.alike hC.1, hD9⟩, hS.F ht⟩) hS.2.2 d_DM_isTileSide_29
  ·
    refine lv_iload_n hx hb d_DM_isTileSide_6 rfl (lv_at hl 0 rfl) ?_
    refine lv_bipush (v := 16) hx hb d_DM_isTileSide_7 (by decide) ?_
    refine lv_icmp_eq (tgt := 24) hx hb d_DM_isTileSide_9 (by decide) (fun c_366 => ?_) (fun c_366 => ?_)
    ·
      refine lv_iconst (v := 1) hx hb d_DM_isTileSide_24 (by decide) ?_
      refine lv_goto (tgt := 29) hx hb d_DM_isTileSide_25 (by decide) ?_
      refine W.widen (k := 0) (n := 0) (Nat.le_of_ble_eq_true rfl) (Nat.le_of_ble_eq_true rfl) ?_
      have hP9 := hP.sub (ws' := []) [] rfl
      have hD9 := hD.sub (ws' := []) [] (by decide) rfl
      exact W.zret (v := 1) hx hb hr (by decide) (fun t ht hW => ⟨⟨1, (), rfl, rfl, by rw [ht]; exact hP9, va_K.moved hW.alike hC.1, hD9⟩, hS.F ht⟩) hS.2.2 d_DM_isTileSide_29
    ·
      refine lv_iload_n hx hb d_DM_isTileSide_12 rfl (lv_at hl 0 rfl) ?_
      refine lv_bipush (v := 32) hx hb d_DM_isTileSide_13 (by decide) ?_
      refine lv_icmp_eq (tgt := 24) hx hb d_DM_isTileSide_15 (by decide) (fun c_367 => ?_) (fun c_367 => ?_)
      ·
        refine lv_iconst (v := 1) hx hb d_DM_isTileSide_24 (by decide) ?_
        refine lv_goto (tgt := 29) hx hb d_DM_isTileSide_25 (by decide) ?_
        refine W.widen (k := 0) (n := 0) (Nat.le_of_ble_eq_true rfl) (Nat.le_of_ble_eq_true rfl) ?_
        have hP9 := hP.sub (ws' := []) [] rfl
        have hD9 := hD.sub (ws' := []) [] (by decide) rfl
        exact W.zret (v := 1) hx hb hr (by decide) (fun t ht hW => ⟨⟨1, (), rfl, rfl, by rw [ht]; exact hP9, va_K.moved hW.alike hC.1, hD9⟩, hS.F ht⟩) hS.2.2 d_DM_isTileSide_29
      ·
        refine lv_iload_n hx hb d_DM_isTileSide_18 rfl (lv_at hl 0 rfl) ?_
        refine lv_bipush (v := 64) hx hb d_DM_isTileSide_19 (by decide) ?_
        refine lv_icmp_ne (tgt := 28) hx hb d_DM_isTileSide_21 (by decide) (fun c_368 => by rcases hs with h | h | h | h <;> contradiction) (fun c_368 => ?_)
        refine lv_iconst (v := 1) hx hb d_DM_isTileSide_24 (by decide) ?_
        refine lv_goto (tgt := 29) hx hb d_DM_isTileSide_25 (by decide) ?_
        refine W.widen (k := 0) (n := 0) (Nat.le_of_ble_eq_true rfl) (Nat.le_of_ble_eq_true rfl) ?_
        have hP9 := hP.sub (ws' := []) [] rfl
        have hD9 := hD.sub (ws' := []) [] (by decide) rfl
        exact W.zret (v := 1) hx hb hr (by decide) (fun t ht hW => ⟨⟨1, (), rfl, rfl, by rw [ht]; exact hP9, va_K.moved hW.alike hC.1, hD9⟩, hS.F ht⟩) hS.2.2 d_DM_isTileSide_29

theorem gV_DM_81 : GoodIn tw (wsV "DrawingMachine" 81 "DrawingMachine$Picture" y_Pic_makeNew ((Cond.code y_Pic_makeNew prog_6_method_2_code 4 none) :: tw)) := tw_pre (tw_good k558) (l := [_, _, _, _]) (List.forall_mem_cons.mpr ⟨k555, List.forall_mem_cons.mpr ⟨k556, List.forall_mem_cons.mpr ⟨k557, List.forall_mem_cons.mpr ⟨k4, fun _ h => absurd h List.not_mem_nil⟩⟩⟩⟩)
set_option maxHeartbeats 4000000 in
set_option maxRecDepth 100000 in
theorem c_aFrame (l : Launch) (D : va_G) (τ : ClassId × ClassId × ClassId) (B sz : Nat) (σ : Sg) (ad : Nat → Nat) (a : Nat) (b : Nat) (r1 : Nat) (rm : Nat) (sd : Int32) (ha1 : 1 ≤ a) (ha2 : a ≤ 128) (hb1 : 1 ≤ b) (hb2 : b ≤ 128) (hgt : ¬ nI (a * b) ≤ nI (σ.2.2.2.2 0)) (hr1 : imax (nI (a * b)) (nI (2 * σ.2.2.2.2 0)) = nI r1) (hrm : imin (nI r1) 16384 = nI rm) (hrm2 : rm ≤ 16384) (hs : sd = 8 ∨ sd = 16 ∨ sd = 32 ∨ sd = 64) : Met l y_DM_frame ((Cond.code y_DM_frame prog_1_method_2_code 4 (some .int)) :: tw) ({ frames := 60, cells := 3, slots := (3 * rm), locals := 6000 }) (va_Pc [.ref (ad 56), .int (nI a), .int (nI b), .int sd] (wP D τ B sz [(ad 56, .inr (0, [.ref (ad 0), .ref (ad 57), .ref (ad 58), .ref (ad 59), .ref (ad 60), .ref (ad 61), .ref (ad (67 + σ.2.2.2.2 2)), .ref (ad (67 + σ.2.2.2.2 3)), .ref (ad (67 + σ.2.2.2.2 4))])), (ad 58, .inr (2, [.int (σ.1 0), .int (σ.1 1), .ref (ad 2), .ref (ad 3), .ref (ad 4), .ref (ad 57), .ref (ad 1)])), (ad 2, .inl (τ.1, σ.2.2.2.2 0, .inl (σ.2.2.1 2))), (ad 3, .inl (τ.1, σ.2.2.2.2 0, .inl (σ.2.2.1 3))), (ad 4, .inl (τ.1, σ.2.2.2.2 0, .inl (σ.2.2.1 4)))])) (va_Qi (S := Nat × Nat × Nat) (fun r u => r = (((((nI a) + sd) - 1) / sd) * ((((nI b) + sd) - 1) / sd))) (fun u => wB D τ (va_A [(ad 56, .inr (0, [.ref (ad 0), .ref (ad 57), .ref (ad 58), .ref (ad 59), .ref (ad 60), .ref (ad 61), .ref (ad (67 + σ.2.2.2.2 2)), .ref (ad (67 + σ.2.2.2.2 3)), .ref (ad (67 + σ.2.2.2.2 4))])), (ad 58, .inr (2, [.int (σ.1 0), .int (σ.1 1), .ref (ad 2), .ref (ad 3), .ref (ad 4), .ref (ad 57), .ref (ad 1)])), (ad 2, .inl (τ.1, σ.2.2.2.2 0, .inl (σ.2.2.1 2))), (ad 3, .inl (τ.1, σ.2.2.2.2 0, .inl (σ.2.2.1 3))), (ad 4, .inl (τ.1, σ.2.2.2.2 0, .inl (σ.2.2.1 4)))] sz) ((fun u : Nat × Nat × Nat => match u with | (z383, z384, z385) => [(ad 56, .inr (0, [.ref (ad 0), .ref (ad 57), .ref (ad 58), .ref (ad 59), .ref (ad 60), .ref (ad 61), .ref (ad (67 + σ.2.2.2.2 2)), .ref (ad (67 + σ.2.2.2.2 3)), .ref (ad (67 + σ.2.2.2.2 4))])), (ad 58, .inr (2, [.int (nI a), .int (nI b), .ref z383, .ref z384, .ref z385, .ref (ad 57), .ref (ad 1)])), (z383, .inl (τ.1, rm, .inl (fun _ => 0))), (z384, .inl (τ.1, rm, .inl (fun _ => 0))), (z385, .inl (τ.1, rm, .inl (fun _ => 0)))]) u)) (va_A [(ad 56, .inr (0, [.ref (ad 0), .ref (ad 57), .ref (ad 58), .ref (ad 59), .ref (ad 60), .ref (ad 61), .ref (ad (67 + σ.2.2.2.2 2)), .ref (ad (67 + σ.2.2.2.2 3)), .ref (ad (67 + σ.2.2.2.2 4))])), (ad 58, .inr (2, [.int (σ.1 0), .int (σ.1 1), .ref (ad 2), .ref (ad 3), .ref (ad 4), .ref (ad 57), .ref (ad 1)])), (ad 2, .inl (τ.1, σ.2.2.2.2 0, .inl (σ.2.2.1 2))), (ad 3, .inl (τ.1, σ.2.2.2.2 0, .inl (σ.2.2.1 3))), (ad 4, .inl (τ.1, σ.2.2.2.2 0, .inl (σ.2.2.1 4)))] sz)) 3 (3 * rm) (va_A [(ad 56, .inr (0, [.ref (ad 0), .ref (ad 57), .ref (ad 58), .ref (ad 59), .ref (ad 60), .ref (ad 61), .ref (ad (67 + σ.2.2.2.2 2)), .ref (ad (67 + σ.2.2.2.2 3)), .ref (ad (67 + σ.2.2.2.2 4))])), (ad 58, .inr (2, [.int (σ.1 0), .int (σ.1 1), .ref (ad 2), .ref (ad 3), .ref (ad 4), .ref (ad 57), .ref (ad 1)])), (ad 2, .inl (τ.1, σ.2.2.2.2 0, .inl (σ.2.2.1 2))), (ad 3, .inl (τ.1, σ.2.2.2.2 0, .inl (σ.2.2.1 3))), (ad 4, .inl (τ.1, σ.2.2.2.2 0, .inl (σ.2.2.1 4)))] sz) := by
  refine Met.ofW (cc := prog_1_method_2_code) (maxL := 4) (ret := (some .int)) (by decide) rfl ?_
  intro p e s m args below meth c s₁ B0 hml hv
  obtain ⟨rfl, hv⟩ := hv
  have hx := B0.exec
  have hb := B0.bytes
  have hr := B0.returns
  have hts := atoms_spec (ws := (Cond.code y_DM_frame prog_1_method_2_code 4 (some .int)) :: tw) B0.pre
  have htw : ∀ w ∈ tw, w.before _ s = true := fun w hw => hts w (List.mem_cons_of_mem _ hw)
  have hown : s.vm.findClass "DrawingMachine" = some m.cls := findClass_of_methodNamed B0.named
  have hlocks := B0.notSynchronized
  obtain ⟨hC, hP, hD, hsz⟩ := wC_init hv
  subst hsz
  generalize hAe : va_A [(ad 56, .inr (0, [.ref (ad 0), .ref (ad 57), .ref (ad 58), .ref (ad 59), .ref (ad 60), .ref (ad 61), .ref (ad (67 + σ.2.2.2.2 2)), .ref (ad (67 + σ.2.2.2.2 3)), .ref (ad (67 + σ.2.2.2.2 4))])), (ad 58, .inr (2, [.int (σ.1 0), .int (σ.1 1), .ref (ad 2), .ref (ad 3), .ref (ad 4), .ref (ad 57), .ref (ad 1)])), (ad 2, .inl (τ.1, σ.2.2.2.2 0, .inl (σ.2.2.1 2))), (ad 3, .inl (τ.1, σ.2.2.2.2 0, .inl (σ.2.2.1 3))), (ad 4, .inl (τ.1, σ.2.2.2.2 0, .inl (σ.2.2.1 4)))] s.heap.size = A at hC hD ⊢
  have hS : va_S A s.heap s.heap [] := va_S.rf
  have hl := lv_entry ([.ref (ad 56), .int (nI a), .int (nI b), .int sd]) (n := 4) (Nat.le_of_ble_eq_true rfl)
  rw [lg_entry_eq]
  generalize (lg_sl ([.ref (ad 56), .int (nI a), .int (nI b), .int sd]) ++ List.replicate (4 - (lg_sl ([.ref (ad 56), .int (nI a), .int (nI b), .int sd])).length) Slot.unset).toArray = ls at hl ⊢
  have hl : lv_has ls 4 [(0, .ref (ad 56)), (1, .int (nI a)), (2, .int (nI b)), (3, .int sd)] := hl
  refine lv_iload_n hx hb d_DM_frame_0 rfl (lv_at hl 1 rfl) ?_
  refine wc_i (wr := [(ad 56, .inr (0, [.ref (ad 0), .ref (ad 57), .ref (ad 58), .ref (ad 59), .ref (ad 60), .ref (ad 61), .ref (ad (67 + σ.2.2.2.2 2)), .ref (ad (67 + σ.2.2.2.2 3)), .ref (ad (67 + σ.2.2.2.2 4))])), (ad 58, .inr (2, [.int (σ.1 0), .int (σ.1 1), .ref (ad 2), .ref (ad 3), .ref (ad 4), .ref (ad 57), .ref (ad 1)])), (ad 2, .inl (τ.1, σ.2.2.2.2 0, .inl (σ.2.2.1 2))), (ad 3, .inl (τ.1, σ.2.2.2.2 0, .inl (σ.2.2.1 3))), (ad 4, .inl (τ.1, σ.2.2.2.2 0, .inl (σ.2.2.1 4)))]) hC hP hD hS [] [0, 1, 2, 3, 4] rfl rfl (by decide) (by decide) (va_runS (As := [.int (nI a)]) (rest := []) ⟨hx, hb, hml, hown, htw⟩ (c_isSide_t l D τ B _ (nI a) (nI_nlt (a := a) (b := 1) (by omega) (by omega)) (nI_nlt (a := 128) (b := a) (by omega) (by omega))) (va_cwS 1 htw gS_DM_67 rfl rfl rfl (by decide +kernel) ⟨Nat.le_of_ble_eq_true rfl, Nat.le_of_ble_eq_true rfl⟩) (wC_pre hC hP hD hS [] (by decide) rfl) rfl rfl hl.1 rfl (lv_room (Nat.le_of_ble_eq_true rfl)) d_DM_frame_1 ⟨Nat.le_of_ble_eq_true rfl, (show 0 + 0 ≤ (3 * rm) from by omega)⟩) (fun r371 u369 H locs hw370 hP hD hS => ?_)
  obtain rfl : r371 = 1 := hw370
  have hP : va_P D classes [(ad 56, .inr (0, [.ref (ad 0), .ref (ad 57), .ref (ad 58), .ref (ad 59), .ref (ad 60), .ref (ad 61), .ref (ad (67 + σ.2.2.2.2 2)), .ref (ad (67 + σ.2.2.2.2 3)), .ref (ad (67 + σ.2.2.2.2 4))])), (ad 58, .inr (2, [.int (σ.1 0), .int (σ.1 1), .ref (ad 2), .ref (ad 3), .ref (ad 4), .ref (ad 57), .ref (ad 1)])), (ad 2, .inl (τ.1, σ.2.2.2.2 0, .inl (σ.2.2.1 2))), (ad 3, .inl (τ.1, σ.2.2.2.2 0, .inl (σ.2.2.1 3))), (ad 4, .inl (τ.1, σ.2.2.2.2 0, .inl (σ.2.2.1 4)))] H := hP
  have hD : va_D A [(ad 56, .inr (0, [.ref (ad 0), .ref (ad 57), .ref (ad 58), .ref (ad 59), .ref (ad 60), .ref (ad 61), .ref (ad (67 + σ.2.2.2.2 2)), .ref (ad (67 + σ.2.2.2.2 3)), .ref (ad (67 + σ.2.2.2.2 4))])), (ad 58, .inr (2, [.int (σ.1 0), .int (σ.1 1), .ref (ad 2), .ref (ad 3), .ref (ad 4), .ref (ad 57), .ref (ad 1)])), (ad 2, .inl (τ.1, σ.2.2.2.2 0, .inl (σ.2.2.1 2))), (ad 3, .inl (τ.1, σ.2.2.2.2 0, .inl (σ.2.2.1 3))), (ad 4, .inl (τ.1, σ.2.2.2.2 0, .inl (σ.2.2.1 4)))] := hD
  refine W.widen (k := 0) (n := 0) (by omega) (by omega) ?_
  refine lv_if_eq (tgt := 21) hx hb d_DM_frame_4 (by decide) (fun c_372 => absurd c_372 (by decide)) (fun c_372 => ?_)
  refine lv_iload_n hx hb d_DM_frame_7 rfl (lv_at hl 2 rfl) ?_
  refine wc_i (wr := [(ad 56, .inr (0, [.ref (ad 0), .ref (ad 57), .ref (ad 58), .ref (ad 59), .ref (ad 60), .ref (ad 61), .ref (ad (67 + σ.2.2.2.2 2)), .ref (ad (67 + σ.2.2.2.2 3)), .ref (ad (67 + σ.2.2.2.2 4))])), (ad 58, .inr (2, [.int (σ.1 0), .int (σ.1 1), .ref (ad 2), .ref (ad 3), .ref (ad 4), .ref (ad 57), .ref (ad 1)])), (ad 2, .inl (τ.1, σ.2.2.2.2 0, .inl (σ.2.2.1 2))), (ad 3, .inl (τ.1, σ.2.2.2.2 0, .inl (σ.2.2.1 3))), (ad 4, .inl (τ.1, σ.2.2.2.2 0, .inl (σ.2.2.1 4)))]) hC hP hD hS [] [0, 1, 2, 3, 4] rfl rfl (by decide) (by decide) (va_runS (As := [.int (nI b)]) (rest := []) ⟨hx, hb, hml, hown, htw⟩ (c_isSide_t l D τ B _ (nI b) (nI_nlt (a := b) (b := 1) (by omega) (by omega)) (nI_nlt (a := 128) (b := b) (by omega) (by omega))) (va_cwS 1 htw gS_DM_67 rfl rfl rfl (by decide +kernel) ⟨Nat.le_of_ble_eq_true rfl, Nat.le_of_ble_eq_true rfl⟩) (wC_pre hC hP hD hS [] (by decide) rfl) rfl rfl hl.1 rfl (lv_room (Nat.le_of_ble_eq_true rfl)) d_DM_frame_8 ⟨Nat.le_of_ble_eq_true rfl, (show 0 + 0 ≤ (3 * rm) from by omega)⟩) (fun r375 u373 H locs hw374 hP hD hS => ?_)
  obtain rfl : r375 = 1 := hw374
  have hP : va_P D classes [(ad 56, .inr (0, [.ref (ad 0), .ref (ad 57), .ref (ad 58), .ref (ad 59), .ref (ad 60), .ref (ad 61), .ref (ad (67 + σ.2.2.2.2 2)), .ref (ad (67 + σ.2.2.2.2 3)), .ref (ad (67 + σ.2.2.2.2 4))])), (ad 58, .inr (2, [.int (σ.1 0), .int (σ.1 1), .ref (ad 2), .ref (ad 3), .ref (ad 4), .ref (ad 57), .ref (ad 1)])), (ad 2, .inl (τ.1, σ.2.2.2.2 0, .inl (σ.2.2.1 2))), (ad 3, .inl (τ.1, σ.2.2.2.2 0, .inl (σ.2.2.1 3))), (ad 4, .inl (τ.1, σ.2.2.2.2 0, .inl (σ.2.2.1 4)))] H := hP
  have hD : va_D A [(ad 56, .inr (0, [.ref (ad 0), .ref (ad 57), .ref (ad 58), .ref (ad 59), .ref (ad 60), .ref (ad 61), .ref (ad (67 + σ.2.2.2.2 2)), .ref (ad (67 + σ.2.2.2.2 3)), .ref (ad (67 + σ.2.2.2.2 4))])), (ad 58, .inr (2, [.int (σ.1 0), .int (σ.1 1), .ref (ad 2), .ref (ad 3), .ref (ad 4), .ref (ad 57), .ref (ad 1)])), (ad 2, .inl (τ.1, σ.2.2.2.2 0, .inl (σ.2.2.1 2))), (ad 3, .inl (τ.1, σ.2.2.2.2 0, .inl (σ.2.2.1 3))), (ad 4, .inl (τ.1, σ.2.2.2.2 0, .inl (σ.2.2.1 4)))] := hD
  refine W.widen (k := 0) (n := 0) (by omega) (by omega) ?_
  refine lv_if_eq (tgt := 21) hx hb d_DM_frame_11 (by decide) (fun c_376 => absurd c_376 (by decide)) (fun c_376 => ?_)
  refine lv_iload_n hx hb d_DM_frame_14 rfl (lv_at hl 3 rfl) ?_
  refine wc_i (wr := [(ad 56, .inr (0, [.ref (ad 0), .ref (ad 57), .ref (ad 58), .ref (ad 59), .ref (ad 60), .ref (ad 61), .ref (ad (67 + σ.2.2.2.2 2)), .ref (ad (67 + σ.2.2.2.2 3)), .ref (ad (67 + σ.2.2.2.2 4))])), (ad 58, .inr (2, [.int (σ.1 0), .int (σ.1 1), .ref (ad 2), .ref (ad 3), .ref (ad 4), .ref (ad 57), .ref (ad 1)])), (ad 2, .inl (τ.1, σ.2.2.2.2 0, .inl (σ.2.2.1 2))), (ad 3, .inl (τ.1, σ.2.2.2.2 0, .inl (σ.2.2.1 3))), (ad 4, .inl (τ.1, σ.2.2.2.2 0, .inl (σ.2.2.1 4)))]) hC hP hD hS [] [0, 1, 2, 3, 4] rfl rfl (by decide) (by decide) (va_runS (As := [.int sd]) (rest := []) ⟨hx, hb, hml, hown, htw⟩ (c_isTile_t l D τ B _ sd (hs)) (va_cwS 1 htw gS_DM_71 rfl rfl rfl (by decide +kernel) ⟨Nat.le_of_ble_eq_true rfl, Nat.le_of_ble_eq_true rfl⟩) (wC_pre hC hP hD hS [] (by decide) rfl) rfl rfl hl.1 rfl (lv_room (Nat.le_of_ble_eq_true rfl)) d_DM_frame_15 ⟨Nat.le_of_ble_eq_true rfl, (show 0 + 0 ≤ (3 * rm) from by omega)⟩) (fun r379 u377 H locs hw378 hP hD hS => ?_)
  obtain rfl : r379 = 1 := hw378
  have hP : va_P D classes [(ad 56, .inr (0, [.ref (ad 0), .ref (ad 57), .ref (ad 58), .ref (ad 59), .ref (ad 60), .ref (ad 61), .ref (ad (67 + σ.2.2.2.2 2)), .ref (ad (67 + σ.2.2.2.2 3)), .ref (ad (67 + σ.2.2.2.2 4))])), (ad 58, .inr (2, [.int (σ.1 0), .int (σ.1 1), .ref (ad 2), .ref (ad 3), .ref (ad 4), .ref (ad 57), .ref (ad 1)])), (ad 2, .inl (τ.1, σ.2.2.2.2 0, .inl (σ.2.2.1 2))), (ad 3, .inl (τ.1, σ.2.2.2.2 0, .inl (σ.2.2.1 3))), (ad 4, .inl (τ.1, σ.2.2.2.2 0, .inl (σ.2.2.1 4)))] H := hP
  have hD : va_D A [(ad 56, .inr (0, [.ref (ad 0), .ref (ad 57), .ref (ad 58), .ref (ad 59), .ref (ad 60), .ref (ad 61), .ref (ad (67 + σ.2.2.2.2 2)), .ref (ad (67 + σ.2.2.2.2 3)), .ref (ad (67 + σ.2.2.2.2 4))])), (ad 58, .inr (2, [.int (σ.1 0), .int (σ.1 1), .ref (ad 2), .ref (ad 3), .ref (ad 4), .ref (ad 57), .ref (ad 1)])), (ad 2, .inl (τ.1, σ.2.2.2.2 0, .inl (σ.2.2.1 2))), (ad 3, .inl (τ.1, σ.2.2.2.2 0, .inl (σ.2.2.1 3))), (ad 4, .inl (τ.1, σ.2.2.2.2 0, .inl (σ.2.2.1 4)))] := hD
  refine W.widen (k := 0) (n := 0) (by omega) (by omega) ?_
  refine lv_if_ne (tgt := 31) hx hb d_DM_frame_18 (by decide) (fun c_380 => ?_) (fun c_380 => absurd c_380 (by decide))
  refine lv_aload_n hx hb d_DM_frame_31 rfl (lv_at hl 0 rfl) ?_
  refine va_get (D := D) (ci := 0) (v := .ref (ad 58)) (C := R_DM) (T := F_DM) (N := 9) hx hb htw i_DM hown hC.1 hP 0 rfl rfl 2 (by decide) (htw _ k432) (fun _ h9 => h9) rfl d_DM_frame_32 ?_
  refine lv_iload_n hx hb d_DM_frame_35 rfl (lv_at hl 1 rfl) ?_
  refine lv_iload_n hx hb d_DM_frame_36 rfl (lv_at hl 2 rfl) ?_
  refine wc_v (wr := [(ad 56, .inr (0, [.ref (ad 0), .ref (ad 57), .ref (ad 58), .ref (ad 59), .ref (ad 60), .ref (ad 61), .ref (ad (67 + σ.2.2.2.2 2)), .ref (ad (67 + σ.2.2.2.2 3)), .ref (ad (67 + σ.2.2.2.2 4))]))]) hC hP hD hS [1, 2, 3, 4] [0] rfl rfl (by decide) (by decide) (va_runV (As := [.int (nI a), .int (nI b)]) (rest := []) ⟨hx, hb, hml, hown, htw⟩ (c_aNew l D τ B _ σ ad a b r1 rm (hgt) (hr1) (hrm) (hrm2)) (cwV 2 htw gV_DM_81 rfl rfl rfl (by decide +kernel) ⟨Nat.le_of_ble_eq_true rfl, Nat.le_of_ble_eq_true rfl⟩) (wC_preV (As := [.int (nI a), .int (nI b)]) hC hP hD hS [1, 2, 3, 4] (by decide) rfl (q0 := 1) rfl rfl) rfl rfl hl.1 rfl (lv_room (Nat.le_of_ble_eq_true rfl)) d_DM_frame_37 ⟨Nat.le_of_ble_eq_true rfl, (show 0 + (3 * rm) ≤ (3 * rm) from by omega)⟩) (fun u381 H locs hw382 hP hD hS => ?_)
  obtain ⟨z383, z384, z385⟩ := u381
  have hP : va_P D classes [(ad 56, .inr (0, [.ref (ad 0), .ref (ad 57), .ref (ad 58), .ref (ad 59), .ref (ad 60), .ref (ad 61), .ref (ad (67 + σ.2.2.2.2 2)), .ref (ad (67 + σ.2.2.2.2 3)), .ref (ad (67 + σ.2.2.2.2 4))])), (ad 58, .inr (2, [.int (nI a), .int (nI b), .ref z383, .ref z384, .ref z385, .ref (ad 57), .ref (ad 1)])), (z383, .inl (τ.1, rm, .inl (fun _ => 0))), (z384, .inl (τ.1, rm, .inl (fun _ => 0))), (z385, .inl (τ.1, rm, .inl (fun _ => 0)))] H := hP
  have hD : va_D A [(ad 56, .inr (0, [.ref (ad 0), .ref (ad 57), .ref (ad 58), .ref (ad 59), .ref (ad 60), .ref (ad 61), .ref (ad (67 + σ.2.2.2.2 2)), .ref (ad (67 + σ.2.2.2.2 3)), .ref (ad (67 + σ.2.2.2.2 4))])), (ad 58, .inr (2, [.int (nI a), .int (nI b), .ref z383, .ref z384, .ref z385, .ref (ad 57), .ref (ad 1)])), (z383, .inl (τ.1, rm, .inl (fun _ => 0))), (z384, .inl (τ.1, rm, .inl (fun _ => 0))), (z385, .inl (τ.1, rm, .inl (fun _ => 0)))] := hD
  refine W.widen (k := 3) (n := (3 * rm)) (by omega) (by omega) ?_
  refine lv_iload_n hx hb d_DM_frame_40 rfl (lv_at hl 1 rfl) ?_
  refine lv_iload_n hx hb d_DM_frame_41 rfl (lv_at hl 3 rfl) ?_
  refine lv_iadd hx hb d_DM_frame_42 ?_
  refine lv_iconst (v := 1) hx hb d_DM_frame_43 (by decide) ?_
  refine lv_isub hx hb d_DM_frame_44 ?_
  refine lv_iload_n hx hb d_DM_frame_45 rfl (lv_at hl 3 rfl) ?_
  refine lv_idiv hx hb d_DM_frame_46 (sd_nz hs) ?_
  refine lv_iload_n hx hb d_DM_frame_47 rfl (lv_at hl 2 rfl) ?_
  refine lv_iload_n hx hb d_DM_frame_48 rfl (lv_at hl 3 rfl) ?_
  refine lv_iadd hx hb d_DM_frame_49 ?_
  refine lv_iconst (v := 1) hx hb d_DM_frame_50 (by decide) ?_
  refine lv_isub hx hb d_DM_frame_51 ?_
  refine lv_iload_n hx hb d_DM_frame_52 rfl (lv_at hl 3 rfl) ?_
  refine lv_idiv hx hb d_DM_frame_53 (sd_nz hs) ?_
  refine lv_imul hx hb d_DM_frame_54 ?_
  refine W.widen (k := 3) (n := (3 * rm)) (by omega) (by omega) ?_
  have hP9 := hP.sub (ws' := [(ad 56, .inr (0, [.ref (ad 0), .ref (ad 57), .ref (ad 58), .ref (ad 59), .ref (ad 60), .ref (ad 61), .ref (ad (67 + σ.2.2.2.2 2)), .ref (ad (67 + σ.2.2.2.2 3)), .ref (ad (67 + σ.2.2.2.2 4))])), (ad 58, .inr (2, [.int (nI a), .int (nI b), .ref z383, .ref z384, .ref z385, .ref (ad 57), .ref (ad 1)])), (z383, .inl (τ.1, rm, .inl (fun _ => 0))), (z384, .inl (τ.1, rm, .inl (fun _ => 0))), (z385, .inl (τ.1, rm, .inl (fun _ => 0)))]) [0, 1, 2, 3, 4] rfl
  have hD9 := hD.sub (ws' := [(ad 56, .inr (0, [.ref (ad 0), .ref (ad 57), .ref (ad 58), .ref (ad 59), .ref (ad 60), .ref (ad 61), .ref (ad (67 + σ.2.2.2.2 2)), .ref (ad (67 + σ.2.2.2.2 3)), .ref (ad (67 + σ.2.2.2.2 4))])), (ad 58, .inr (2, [.int (nI a), .int (nI b), .ref z383, .ref z384, .ref z385, .ref (ad 57), .ref (ad 1)])), (z383, .inl (τ.1, rm, .inl (fun _ => 0))), (z384, .inl (τ.1, rm, .inl (fun _ => 0))), (z385, .inl (τ.1, rm, .inl (fun _ => 0)))]) [0, 1, 2, 3, 4] (by decide) rfl
  exact W.iret (v := (((((nI a) + sd) - 1) / sd) * ((((nI b) + sd) - 1) / sd))) hx hb hr (fun t ht hW => ⟨⟨(((((nI a) + sd) - 1) / sd) * ((((nI b) + sd) - 1) / sd)), (z383, z384, z385), rfl, rfl, by rw [ht]; exact hP9, va_K.moved hW.alike hC.1, hD9⟩, hS.F ht⟩) hS.2.2 d_DM_frame_55

theorem d_Arr_copyOf_0 : decode prog_39_method_123_code 0 = .ok (.iload_n 1, 1) := by decide +kernel
theorem d_Arr_copyOf_1 : decode prog_39_method_123_code 1 = .ok (.aload_n 0, 1) := by decide +kernel
theorem d_Arr_copyOf_2 : decode prog_39_method_123_code 2 = .ok (.arraylength, 1) := by decide +kernel
theorem d_Arr_copyOf_3 : decode prog_39_method_123_code 3 = .ok (.if_icmp .ne 11, 3) := by decide +kernel
theorem d_Arr_copyOf_14 : decode prog_39_method_123_code 14 = .ok (.iload_n 1, 1) := by decide +kernel
theorem d_Arr_copyOf_15 : decode prog_39_method_123_code 15 = .ok (.newarray .int, 2) := by decide +kernel
theorem d_Arr_copyOf_17 : decode prog_39_method_123_code 17 = .ok (.astore_n 2, 1) := by decide +kernel
theorem d_Arr_copyOf_18 : decode prog_39_method_123_code 18 = .ok (.aload_n 0, 1) := by decide +kernel
theorem d_Arr_copyOf_19 : decode prog_39_method_123_code 19 = .ok (.iconst 0, 1) := by decide +kernel
theorem d_Arr_copyOf_20 : decode prog_39_method_123_code 20 = .ok (.aload_n 2, 1) := by decide +kernel
theorem d_Arr_copyOf_21 : decode prog_39_method_123_code 21 = .ok (.iconst 0, 1) := by decide +kernel
theorem d_Arr_copyOf_22 : decode prog_39_method_123_code 22 = .ok (.aload_n 0, 1) := by decide +kernel
theorem d_Arr_copyOf_23 : decode prog_39_method_123_code 23 = .ok (.arraylength, 1) := by decide +kernel
theorem d_Arr_copyOf_24 : decode prog_39_method_123_code 24 = .ok (.iload_n 1, 1) := by decide +kernel
theorem d_Arr_copyOf_25 : decode prog_39_method_123_code 25 = .ok (.invokestatic 304, 3) := by decide +kernel
theorem d_Arr_copyOf_28 : decode prog_39_method_123_code 28 = .ok (.invokestatic 150, 3) := by decide +kernel
theorem d_Arr_copyOf_31 : decode prog_39_method_123_code 31 = .ok (.aload_n 2, 1) := by decide +kernel
theorem d_Arr_copyOf_32 : decode prog_39_method_123_code 32 = .ok (.areturn, 1) := by decide +kernel
set_option maxHeartbeats 4000000 in
set_option maxRecDepth 100000 in
theorem c_aCopy (l : Launch) (D : va_G) (τ : ClassId × ClassId × ClassId) (B sz : Nat) (aa : Nat) (N : Nat) (f : Nat → Int32) (n : Nat) (h1 : N < n) (h2 : n ≤ 16384) : Met l y_Arr_copyOf ((Cond.code y_Arr_copyOf prog_39_method_123_code 3 (some (.array .int))) :: tw) ({ frames := 20, cells := 1, slots := n, locals := 2000 }) (va_Pc [.ref aa, .int (nI n)] (wP D τ B sz [(aa, .inl (τ.1, N, .inl f))])) (va_Qr (S := Nat) (fun _ => True) (fun u q t => q = (fun q387 : Nat => q387) u ∧ wB D τ (va_A [(aa, .inl (τ.1, N, .inl f))] sz) ((fun q387 : Nat => [(aa, .inl (τ.1, N, .inl f)), (q387, .inl (τ.1, n, .inl (va_cpy f (fun _ => 0) (0 : Int32).toNatClampNeg (0 : Int32).toNatClampNeg ((nI N) : Int32).toNatClampNeg)))]) u) t) (va_A [(aa, .inl (τ.1, N, .inl f))] sz)) 1 n (va_A [(aa, .inl (τ.1, N, .inl f))] sz) := by
  refine Met.ofW (cc := prog_39_method_123_code) (maxL := 3) (ret := (some (.array .int))) (by decide) rfl ?_
  intro p e s m args below meth c s₁ B0 hml hv
  obtain ⟨rfl, hv⟩ := hv
  have hx := B0.exec
  have hb := B0.bytes
  have hr := B0.returns
  have hts := atoms_spec (ws := (Cond.code y_Arr_copyOf prog_39_method_123_code 3 (some (.array .int))) :: tw) B0.pre
  have htw : ∀ w ∈ tw, w.before _ s = true := fun w hw => hts w (List.mem_cons_of_mem _ hw)
  have hown : s.vm.findClass "java/util/Arrays" = some m.cls := findClass_of_methodNamed B0.named
  have hlocks := B0.notSynchronized
  obtain ⟨hC, hP, hD, hsz⟩ := wC_init hv
  subst hsz
  generalize hAe : va_A [(aa, .inl (τ.1, N, .inl f))] s.heap.size = A at hC hD ⊢
  have hS : va_S A s.heap s.heap [] := va_S.rf
  have hl := lv_entry ([.ref aa, .int (nI n)]) (n := 3) (Nat.le_of_ble_eq_true rfl)
  rw [lg_entry_eq]
  generalize (lg_sl ([.ref aa, .int (nI n)]) ++ List.replicate (3 - (lg_sl ([.ref aa, .int (nI n)])).length) Slot.unset).toArray = ls at hl ⊢
  have hl : lv_has ls 3 [(0, .ref aa), (1, .int (nI n))] := hl
  refine lv_iload_n hx hb d_Arr_copyOf_0 rfl (lv_at hl 1 rfl) ?_
  refine lv_aload_n hx hb d_Arr_copyOf_1 rfl (lv_at hl 0 rfl) ?_
  refine va_alen hx hb hC.1 hP 0 0 rfl (ty := .int) rfl (v := (nI N)) (rfl) d_Arr_copyOf_2 ?_
  refine lv_icmp_ne (tgt := 14) hx hb d_Arr_copyOf_3 (by decide) (fun c_386 => ?_) (fun c_386 => absurd c_386 (nI_ne (by omega) (by omega) (by omega)))
  refine lv_iload_n hx hb d_Arr_copyOf_14 rfl (lv_at hl 1 rfl) ?_
  refine wna_i hx hb (htw _ k71) hC hP hD hS (N := n) (rfl) (by omega) (Nat.le_of_ble_eq_true rfl) (show 0 + n ≤ n from by omega) d_Arr_copyOf_15 (fun q387 H hP hD hS => ?_)
  have hP : va_P D classes [(aa, .inl (τ.1, N, .inl f)), (q387, .inl (τ.1, n, .inl (fun _ => 0)))] H := hP
  have hD : va_D A [(aa, .inl (τ.1, N, .inl f)), (q387, .inl (τ.1, n, .inl (fun _ => 0)))] := hD
  refine W.widen (k := 1) (n := n) (by omega) (by omega) ?_
  refine lv_astore_n (lv' := [(2, .ref q387), (0, .ref aa), (1, .int (nI n))]) hx hb d_Arr_copyOf_17 rfl hl (by decide) rfl (fun ls hl => ?_)
  refine lv_aload_n hx hb d_Arr_copyOf_18 rfl (lv_at hl 1 rfl) ?_
  refine lv_iconst (v := 0) hx hb d_Arr_copyOf_19 (by decide) ?_
  refine lv_aload_n hx hb d_Arr_copyOf_20 rfl (lv_at hl 0 rfl) ?_
  refine lv_iconst (v := 0) hx hb d_Arr_copyOf_21 (by decide) ?_
  refine lv_aload_n hx hb d_Arr_copyOf_22 rfl (lv_at hl 1 rfl) ?_
  refine va_alen hx hb hC.1 hP 0 0 rfl (ty := .int) rfl (v := (nI N)) (rfl) d_Arr_copyOf_23 ?_
  refine lv_iload_n hx hb d_Arr_copyOf_24 rfl (lv_at hl 2 rfl) ?_
  refine va_mmin hx hb (hml.trans hl.1.symm) hown (htw _ k642) (htw _ k563) (htw _ k25) (htw _ k564) (Nat.le_of_ble_eq_true rfl) (Nat.le_of_ble_eq_true rfl) (show 1 ≤ 1 from Nat.le_refl 1) (show n ≤ n from Nat.le_refl n) d_Arr_copyOf_25 ?_
  refine wi_c (v := nI N) (if_neg (nI_nlt (by omega) (by omega))) ?_
  refine va_copyi hx hb (hml.trans hl.1.symm) hown (htw _ k643) (htw _ k645) (htw _ k644) (htw _ k31) hC.1 hP hD hS 0 1 0 0 rfl rfl rfl rfl rfl (by decide) (by decide) (nI_pos (by omega)) (by rw [nI_clamp (by omega)]; show 0 + N ≤ N; omega) (by rw [nI_clamp (by omega)]; show 0 + N ≤ n; omega) (fun i hi => rfl) (Nat.le_of_ble_eq_true rfl) (Nat.le_of_ble_eq_true rfl) d_Arr_copyOf_28 (fun H locs hP hD hS => ?_)
  have hP : va_P D classes [(aa, .inl (τ.1, N, .inl f)), (q387, .inl (τ.1, n, .inl (va_cpy f (fun _ => 0) (0 : Int32).toNatClampNeg (0 : Int32).toNatClampNeg ((nI N) : Int32).toNatClampNeg)))] H := hP
  have hD : va_D A [(aa, .inl (τ.1, N, .inl f)), (q387, .inl (τ.1, n, .inl (va_cpy f (fun _ => 0) (0 : Int32).toNatClampNeg (0 : Int32).toNatClampNeg ((nI N) : Int32).toNatClampNeg)))] := hD
  refine lv_aload_n hx hb d_Arr_copyOf_31 rfl (lv_at hl 0 rfl) ?_
  refine W.widen (k := 1) (n := n) (by omega) (by omega) ?_
  have hP9 := hP.sub (ws' := [(aa, .inl (τ.1, N, .inl f)), (q387, .inl (τ.1, n, .inl (va_cpy f (fun _ => 0) (0 : Int32).toNatClampNeg (0 : Int32).toNatClampNeg ((nI N) : Int32).toNatClampNeg)))]) [0, 1] rfl
  have hD9 := hD.sub (ws' := [(aa, .inl (τ.1, N, .inl f)), (q387, .inl (τ.1, n, .inl (va_cpy f (fun _ => 0) (0 : Int32).toNatClampNeg (0 : Int32).toNatClampNeg ((nI N) : Int32).toNatClampNeg)))]) [0, 1] (by decide) rfl
  exact W.aret (v := .ref q387) hx hb hr (Or.inr ⟨_, rfl⟩) (Or.inr ⟨_, rfl⟩) (fun t ht hW => ⟨⟨q387, q387, rfl, trivial, rfl, by rw [ht]; exact hP9, va_K.moved hW.alike hC.1, hD9⟩, hS.F ht⟩) hS.2.2 d_Arr_copyOf_32

theorem d_Cou_makeRoom_14 : decode prog_3_method_2_code 14 = .ok (.aload_n 0, 1) := by decide +kernel
theorem d_Cou_makeRoom_15 : decode prog_3_method_2_code 15 = .ok (.aload_n 0, 1) := by decide +kernel
theorem d_Cou_makeRoom_16 : decode prog_3_method_2_code 16 = .ok (.getfield 25, 3) := by decide +kernel
theorem d_Cou_makeRoom_19 : decode prog_3_method_2_code 19 = .ok (.iconst 2, 1) := by decide +kernel
theorem d_Cou_makeRoom_20 : decode prog_3_method_2_code 20 = .ok (.aload_n 0, 1) := by decide +kernel
theorem d_Cou_makeRoom_21 : decode prog_3_method_2_code 21 = .ok (.getfield 25, 3) := by decide +kernel
theorem d_Cou_makeRoom_24 : decode prog_3_method_2_code 24 = .ok (.arraylength, 1) := by decide +kernel
theorem d_Cou_makeRoom_25 : decode prog_3_method_2_code 25 = .ok (.imul, 1) := by decide +kernel
theorem d_Cou_makeRoom_26 : decode prog_3_method_2_code 26 = .ok (.sipush 4096, 3) := by decide +kernel
theorem d_Cou_makeRoom_29 : decode prog_3_method_2_code 29 = .ok (.invokestatic 34, 3) := by decide +kernel
theorem d_Cou_makeRoom_32 : decode prog_3_method_2_code 32 = .ok (.invokestatic 40, 3) := by decide +kernel
theorem d_Cou_makeRoom_35 : decode prog_3_method_2_code 35 = .ok (.putfield 25, 3) := by decide +kernel
theorem gS_Cou_40 : GoodIn tw (va_wsS "DrawingMachine$Course" 40 y_Arr_copyOf ((Cond.code y_Arr_copyOf prog_39_method_123_code 3 (some (.array .int))) :: tw)) := tw_pre (tw_good k890) (l := [_, _, _]) (List.forall_mem_cons.mpr ⟨k888, List.forall_mem_cons.mpr ⟨k889, List.forall_mem_cons.mpr ⟨k3, fun _ h => absurd h List.not_mem_nil⟩⟩⟩)
set_option maxHeartbeats 4000000 in
set_option maxRecDepth 100000 in
theorem c_aRoom (l : Launch) (D : va_G) (τ : ClassId × ClassId × ClassId) (B sz : Nat) (σ : Sg) (ad : Nat → Nat) (n : Nat) (hgt : ¬ σ.1 2 + 5 ≤ nI (σ.2.2.2.2 1)) (hn : imin (nI (2 * σ.2.2.2.2 1)) 4096 = nI n) (h1 : σ.2.2.2.2 1 < n) (h2 : n ≤ 16384) : Met l y_Cou_makeRoom ((Cond.code y_Cou_makeRoom prog_3_method_2_code 2 none) :: tw) ({ frames := 30, cells := 1, slots := n, locals := 3000 }) (va_Pc [.ref (ad 59), .int 5] (wP D τ B sz [(ad 59, .inr (3, [.ref (ad 5), .int (σ.1 2), .int (σ.1 3), .int (σ.1 4), .int (σ.1 5), .int (σ.1 6), .int (σ.1 7), .int (σ.1 8), .int (σ.1 9), .long (σ.2.1 0), .ref (ad 0), .ref (ad 6), .ref (ad 7), .int (σ.1 10), .int (σ.1 11)])), (ad 7, .inl (τ.1, σ.2.2.2.2 1, .inl (σ.2.2.1 7)))])) (va_Qv (S := Nat) (fun _ => True) (fun u => wB D τ (va_A [(ad 59, .inr (3, [.ref (ad 5), .int (σ.1 2), .int (σ.1 3), .int (σ.1 4), .int (σ.1 5), .int (σ.1 6), .int (σ.1 7), .int (σ.1 8), .int (σ.1 9), .long (σ.2.1 0), .ref (ad 0), .ref (ad 6), .ref (ad 7), .int (σ.1 10), .int (σ.1 11)])), (ad 7, .inl (τ.1, σ.2.2.2.2 1, .inl (σ.2.2.1 7)))] sz) ((fun z391 : Nat => [(ad 59, .inr (3, [.ref (ad 5), .int (σ.1 2), .int (σ.1 3), .int (σ.1 4), .int (σ.1 5), .int (σ.1 6), .int (σ.1 7), .int (σ.1 8), .int (σ.1 9), .long (σ.2.1 0), .ref (ad 0), .ref (ad 6), .ref z391, .int (σ.1 10), .int (σ.1 11)])), (z391, .inl (τ.1, n, .inl (va_cpy (σ.2.2.1 7) (fun _ => 0) (0 : Int32).toNatClampNeg (0 : Int32).toNatClampNeg ((nI (σ.2.2.2.2 1)) : Int32).toNatClampNeg)))]) u)) (va_A [(ad 59, .inr (3, [.ref (ad 5), .int (σ.1 2), .int (σ.1 3), .int (σ.1 4), .int (σ.1 5), .int (σ.1 6), .int (σ.1 7), .int (σ.1 8), .int (σ.1 9), .long (σ.2.1 0), .ref (ad 0), .ref (ad 6), .ref (ad 7), .int (σ.1 10), .int (σ.1 11)])), (ad 7, .inl (τ.1, σ.2.2.2.2 1, .inl (σ.2.2.1 7)))] sz)) 1 n (va_A [(ad 59, .inr (3, [.ref (ad 5), .int (σ.1 2), .int (σ.1 3), .int (σ.1 4), .int (σ.1 5), .int (σ.1 6), .int (σ.1 7), .int (σ.1 8), .int (σ.1 9), .long (σ.2.1 0), .ref (ad 0), .ref (ad 6), .ref (ad 7), .int (σ.1 10), .int (σ.1 11)])), (ad 7, .inl (τ.1, σ.2.2.2.2 1, .inl (σ.2.2.1 7)))] sz) := by
  refine Met.ofW (cc := prog_3_method_2_code) (maxL := 2) (ret := none) (by decide) rfl ?_
  intro p e s m args below meth c s₁ B0 hml hv
  obtain ⟨rfl, hv⟩ := hv
  have hx := B0.exec
  have hb := B0.bytes
  have hr := B0.returns
  have hts := atoms_spec (ws := (Cond.code y_Cou_makeRoom prog_3_method_2_code 2 none) :: tw) B0.pre
  have htw : ∀ w ∈ tw, w.before _ s = true := fun w hw => hts w (List.mem_cons_of_mem _ hw)
  have hown : s.vm.findClass "DrawingMachine$Course" = some m.cls := findClass_of_methodNamed B0.named
  have hlocks := B0.notSynchronized
  obtain ⟨hC, hP, hD, hsz⟩ := wC_init hv
  subst hsz
  generalize hAe : va_A [(ad 59, .inr (3, [.ref (ad 5), .int (σ.1 2), .int (σ.1 3), .int (σ.1 4), .int (σ.1 5), .int (σ.1 6), .int (σ.1 7), .int (σ.1 8), .int (σ.1 9), .long (σ.2.1 0), .ref (ad 0), .ref (ad 6), .ref (ad 7), .int (σ.1 10), .int (σ.1 11)])), (ad 7, .inl (τ.1, σ.2.2.2.2 1, .inl (σ.2.2.1 7)))] s.heap.size = A at hC hD ⊢
  have hS : va_S A s.heap s.heap [] := va_S.rf
  have hl := lv_entry ([.ref (ad 59), .int 5]) (n := 2) (Nat.le_of_ble_eq_true rfl)
  rw [lg_entry_eq]
  generalize (lg_sl ([.ref (ad 59), .int 5]) ++ List.replicate (2 - (lg_sl ([.ref (ad 59), .int 5])).length) Slot.unset).toArray = ls at hl ⊢
  have hl : lv_has ls 2 [(0, .ref (ad 59)), (1, .int 5)] := hl
  refine lv_aload_n hx hb d_Cou_makeRoom_0 rfl (lv_at hl 0 rfl) ?_
  refine va_get (D := D) (ci := 3) (v := .int (σ.1 2)) (C := R_Cou) (T := F_Cou) (N := 15) hx hb htw i_Cou hown hC.1 hP 0 rfl rfl 1 (by decide) (htw _ k113) (fun _ h9 => h9) rfl d_Cou_makeRoom_1 ?_
  refine lv_iload_n hx hb d_Cou_makeRoom_4 rfl (lv_at hl 1 rfl) ?_
  refine lv_iadd hx hb d_Cou_makeRoom_5 ?_
  refine lv_aload_n hx hb d_Cou_makeRoom_6 rfl (lv_at hl 0 rfl) ?_
  refine va_get (D := D) (ci := 3) (v := .ref (ad 7)) (C := R_Cou) (T := F_Cou) (N := 15) hx hb htw i_Cou hown hC.1 hP 0 rfl rfl 12 (by decide) (htw _ k134) (fun _ h9 => h9) rfl d_Cou_makeRoom_7 ?_
  refine va_alen hx hb hC.1 hP 1 0 rfl (ty := .int) rfl (v := (nI (σ.2.2.2.2 1))) (rfl) d_Cou_makeRoom_10 ?_
  refine lv_icmp_le (tgt := 38) hx hb d_Cou_makeRoom_11 (by decide) (fun c_388 => absurd c_388 hgt) (fun c_388 => ?_)
  refine lv_aload_n hx hb d_Cou_makeRoom_14 rfl (lv_at hl 0 rfl) ?_
  refine lv_aload_n hx hb d_Cou_makeRoom_15 rfl (lv_at hl 0 rfl) ?_
  refine va_get (D := D) (ci := 3) (v := .ref (ad 7)) (C := R_Cou) (T := F_Cou) (N := 15) hx hb htw i_Cou hown hC.1 hP 0 rfl rfl 12 (by decide) (htw _ k134) (fun _ h9 => h9) rfl d_Cou_makeRoom_16 ?_
  refine lv_iconst (v := 2) hx hb d_Cou_makeRoom_19 (by decide) ?_
  refine lv_aload_n hx hb d_Cou_makeRoom_20 rfl (lv_at hl 0 rfl) ?_
  refine va_get (D := D) (ci := 3) (v := .ref (ad 7)) (C := R_Cou) (T := F_Cou) (N := 15) hx hb htw i_Cou hown hC.1 hP 0 rfl rfl 12 (by decide) (htw _ k134) (fun _ h9 => h9) rfl d_Cou_makeRoom_21 ?_
  refine va_alen hx hb hC.1 hP 1 0 rfl (ty := .int) rfl (v := (nI (σ.2.2.2.2 1))) (rfl) d_Cou_makeRoom_24 ?_
  refine lv_imul hx hb d_Cou_makeRoom_25 ?_
  refine wi_c (v := nI (2 * σ.2.2.2.2 1)) (n_mul 2 _) ?_
  refine lv_sipush (v := 4096) hx hb d_Cou_makeRoom_26 (by decide) ?_
  refine va_mmin hx hb (hml.trans hl.1.symm) hown (htw _ k887) (htw _ k563) (htw _ k25) (htw _ k564) (Nat.le_of_ble_eq_true rfl) (Nat.le_of_ble_eq_true rfl) (Nat.zero_le _) (Nat.zero_le _) d_Cou_makeRoom_29 ?_
  refine wi_c (v := nI n) (hn) ?_
  refine wc_r (wr := [(ad 59, .inr (3, [.ref (ad 5), .int (σ.1 2), .int (σ.1 3), .int (σ.1 4), .int (σ.1 5), .int (σ.1 6), .int (σ.1 7), .int (σ.1 8), .int (σ.1 9), .long (σ.2.1 0), .ref (ad 0), .ref (ad 6), .ref (ad 7), .int (σ.1 10), .int (σ.1 11)]))]) hC hP hD hS [1] [0] rfl rfl (by decide) (by decide) (va_runS (As := [.ref (ad 7), .int (nI n)]) (rest := [.ref (ad 59)]) ⟨hx, hb, hml, hown, htw⟩ (c_aCopy l D τ B _ (ad 7) (σ.2.2.2.2 1) (σ.2.2.1 7) n (h1) (h2)) (va_cwS 2 htw gS_Cou_40 rfl rfl rfl (by decide +kernel) ⟨Nat.le_of_ble_eq_true rfl, Nat.le_of_ble_eq_true rfl⟩) (wC_pre hC hP hD hS [1] (by decide) rfl) rfl rfl hl.1 rfl (lv_room (Nat.le_of_ble_eq_true rfl)) d_Cou_makeRoom_32 ⟨Nat.le_of_ble_eq_true rfl, (show 0 + n ≤ n from by omega)⟩) (fun u389 H locs hw390 hP hD hS => ?_)
  obtain ⟨z391, rfl⟩ : ∃ z, z = u389 := ⟨_, rfl⟩
  have hP : va_P D classes [(ad 59, .inr (3, [.ref (ad 5), .int (σ.1 2), .int (σ.1 3), .int (σ.1 4), .int (σ.1 5), .int (σ.1 6), .int (σ.1 7), .int (σ.1 8), .int (σ.1 9), .long (σ.2.1 0), .ref (ad 0), .ref (ad 6), .ref (ad 7), .int (σ.1 10), .int (σ.1 11)])), (ad 7, .inl (τ.1, σ.2.2.2.2 1, .inl (σ.2.2.1 7))), (z391, .inl (τ.1, n, .inl (va_cpy (σ.2.2.1 7) (fun _ => 0) (0 : Int32).toNatClampNeg (0 : Int32).toNatClampNeg ((nI (σ.2.2.2.2 1)) : Int32).toNatClampNeg)))] H := hP
  have hD : va_D A [(ad 59, .inr (3, [.ref (ad 5), .int (σ.1 2), .int (σ.1 3), .int (σ.1 4), .int (σ.1 5), .int (σ.1 6), .int (σ.1 7), .int (σ.1 8), .int (σ.1 9), .long (σ.2.1 0), .ref (ad 0), .ref (ad 6), .ref (ad 7), .int (σ.1 10), .int (σ.1 11)])), (ad 7, .inl (τ.1, σ.2.2.2.2 1, .inl (σ.2.2.1 7))), (z391, .inl (τ.1, n, .inl (va_cpy (σ.2.2.1 7) (fun _ => 0) (0 : Int32).toNatClampNeg (0 : Int32).toNatClampNeg ((nI (σ.2.2.2.2 1)) : Int32).toNatClampNeg)))] := hD
  refine W.widen (k := 1) (n := n) (by omega) (by omega) ?_
  refine va_put (D := D) (ci := 3) (v := .ref z391) (ty := .array .int) (C := R_Cou) (T := F_Cou) (N := 15) hx hb htw i_Cou t_Cou t_Cou_ok n_Cou hown hC.1 hP hD hS 0 rfl rfl 12 (by decide) (htw _ k134) (fun _ h9 => h9) rfl (by decide +kernel) rfl rfl (Nat.le_of_ble_eq_true rfl) d_Cou_makeRoom_35 (fun H locs hP hD hS => ?_)
  have hP : va_P D classes [(ad 59, .inr (3, [.ref (ad 5), .int (σ.1 2), .int (σ.1 3), .int (σ.1 4), .int (σ.1 5), .int (σ.1 6), .int (σ.1 7), .int (σ.1 8), .int (σ.1 9), .long (σ.2.1 0), .ref (ad 0), .ref (ad 6), .ref z391, .int (σ.1 10), .int (σ.1 11)])), (ad 7, .inl (τ.1, σ.2.2.2.2 1, .inl (σ.2.2.1 7))), (z391, .inl (τ.1, n, .inl (va_cpy (σ.2.2.1 7) (fun _ => 0) (0 : Int32).toNatClampNeg (0 : Int32).toNatClampNeg ((nI (σ.2.2.2.2 1)) : Int32).toNatClampNeg)))] H := hP
  have hD : va_D A [(ad 59, .inr (3, [.ref (ad 5), .int (σ.1 2), .int (σ.1 3), .int (σ.1 4), .int (σ.1 5), .int (σ.1 6), .int (σ.1 7), .int (σ.1 8), .int (σ.1 9), .long (σ.2.1 0), .ref (ad 0), .ref (ad 6), .ref z391, .int (σ.1 10), .int (σ.1 11)])), (ad 7, .inl (τ.1, σ.2.2.2.2 1, .inl (σ.2.2.1 7))), (z391, .inl (τ.1, n, .inl (va_cpy (σ.2.2.1 7) (fun _ => 0) (0 : Int32).toNatClampNeg (0 : Int32).toNatClampNeg ((nI (σ.2.2.2.2 1)) : Int32).toNatClampNeg)))] := hD
  refine W.widen (k := 1) (n := n) (by omega) (by omega) ?_
  have hP9 := hP.sub (ws' := [(ad 59, .inr (3, [.ref (ad 5), .int (σ.1 2), .int (σ.1 3), .int (σ.1 4), .int (σ.1 5), .int (σ.1 6), .int (σ.1 7), .int (σ.1 8), .int (σ.1 9), .long (σ.2.1 0), .ref (ad 0), .ref (ad 6), .ref z391, .int (σ.1 10), .int (σ.1 11)])), (z391, .inl (τ.1, n, .inl (va_cpy (σ.2.2.1 7) (fun _ => 0) (0 : Int32).toNatClampNeg (0 : Int32).toNatClampNeg ((nI (σ.2.2.2.2 1)) : Int32).toNatClampNeg)))]) [0, 2] rfl
  have hD9 := hD.sub (ws' := [(ad 59, .inr (3, [.ref (ad 5), .int (σ.1 2), .int (σ.1 3), .int (σ.1 4), .int (σ.1 5), .int (σ.1 6), .int (σ.1 7), .int (σ.1 8), .int (σ.1 9), .long (σ.2.1 0), .ref (ad 0), .ref (ad 6), .ref z391, .int (σ.1 10), .int (σ.1 11)])), (z391, .inl (τ.1, n, .inl (va_cpy (σ.2.2.1 7) (fun _ => 0) (0 : Int32).toNatClampNeg (0 : Int32).toNatClampNeg ((nI (σ.2.2.2.2 1)) : Int32).toNatClampNeg)))]) [0, 2] (by decide) rfl
  exact W.vret hx hb hr (fun t ht hW => ⟨⟨z391, rfl, trivial, by rw [ht]; exact hP9, va_K.moved hW.alike hC.1, hD9⟩, hS.F ht⟩) hS.2.2 d_Cou_makeRoom_38
