theorem d_Arr_rangeCheck_0 : decode prog_39_method_30_code 0 = .ok (.iload_n 1, 1) := by decide +kernel
theorem d_Arr_rangeCheck_1 : decode prog_39_method_30_code 1 = .ok (.iload_n 2, 1) := by decide +kernel
theorem d_Arr_rangeCheck_2 : decode prog_39_method_30_code 2 = .ok (.if_icmp .le 44, 3) := by decide +kernel
theorem d_Arr_rangeCheck_46 : decode prog_39_method_30_code 46 = .ok (.iload_n 1, 1) := by decide +kernel
theorem d_Arr_rangeCheck_47 : decode prog_39_method_30_code 47 = .ok (.ifCond .ge 12, 3) := by decide +kernel
theorem d_Arr_rangeCheck_59 : decode prog_39_method_30_code 59 = .ok (.iload_n 2, 1) := by decide +kernel
theorem d_Arr_rangeCheck_60 : decode prog_39_method_30_code 60 = .ok (.iload_n 0, 1) := by decide +kernel
theorem d_Arr_rangeCheck_61 : decode prog_39_method_30_code 61 = .ok (.if_icmp .le 12, 3) := by decide +kernel
theorem d_Arr_rangeCheck_73 : decode prog_39_method_30_code 73 = .ok (.return_, 1) := by decide +kernel
set_option maxHeartbeats 4000000 in
set_option maxRecDepth 100000 in
theorem c_rangeCheck_1 (l : Launch) (D : va_G) (cI cL : ClassId) (B sz : Nat) : Met l y_Arr_rangeCheck ((Cond.code y_Arr_rangeCheck prog_39_method_30_code 3 none) :: tw) ({ frames := 20, cells := 0, slots := 0, locals := 2000 }) (va_Pc [.int 1, .int 0, .int 1] (wP D cI cL B sz [])) (va_Qv (S := Unit) (fun _ => True) (fun u => wB D cI cL (va_A [] sz) ((fun _ : Unit => []) u)) (va_A [] sz)) 0 0 (va_A [] sz) := by
  refine Met.ofW (cc := prog_39_method_30_code) (maxL := 3) (ret := none) (by decide) rfl ?_
  intro p e s m args below meth c s₁ B0 hml hv
  obtain ⟨rfl, hv⟩ := hv
  have hx := B0.exec
  have hb := B0.bytes
  have hr := B0.returns
  have hts := atoms_spec (ws := (Cond.code y_Arr_rangeCheck prog_39_method_30_code 3 none) :: tw) B0.pre
  have htw : ∀ w ∈ tw, w.before _ s = true := fun w hw => hts w (List.mem_cons_of_mem _ hw)
  have hown : s.vm.findClass "java/util/Arrays" = some m.cls := findClass_of_methodNamed B0.named
  have hlocks := B0.notSynchronized
  obtain ⟨hC, hP, hD, hsz⟩ := wC_init hv
  subst hsz
  generalize hAe : va_A [] s.heap.size = A at hC hD ⊢
  have hS : va_S A s.heap s.heap [] := va_S.rf
  have hl := lv_entry ([.int 1, .int 0, .int 1]) (n := 3) (Nat.le_of_ble_eq_true rfl)
  rw [lg_entry_eq]
  generalize (lg_sl ([.int 1, .int 0, .int 1]) ++ List.replicate (3 - (lg_sl ([.int 1, .int 0, .int 1])).length) Slot.unset).toArray = ls at hl ⊢
  have hl : lv_has ls 3 [(0, .int 1), (1, .int 0), (2, .int 1)] := hl
  refine lv_iload_n hx hb d_Arr_rangeCheck_0 rfl (lv_at hl 1 rfl) ?_
  refine lv_iload_n hx hb d_Arr_rangeCheck_1 rfl (lv_at hl 2 rfl) ?_
  refine lv_icmp_le (tgt := 46) hx hb d_Arr_rangeCheck_2 (by decide) (fun c_317 => ?_) (fun c_317 => absurd c_317 (by decide))
  refine lv_iload_n hx hb d_Arr_rangeCheck_46 rfl (lv_at hl 1 rfl) ?_
  refine lv_if_ge (tgt := 59) hx hb d_Arr_rangeCheck_47 (by decide) (fun c_318 => ?_) (fun c_318 => absurd c_318 (by decide))
  refine lv_iload_n hx hb d_Arr_rangeCheck_59 rfl (lv_at hl 2 rfl) ?_
  refine lv_iload_n hx hb d_Arr_rangeCheck_60 rfl (lv_at hl 0 rfl) ?_
  refine lv_icmp_le (tgt := 73) hx hb d_Arr_rangeCheck_61 (by decide) (fun c_319 => ?_) (fun c_319 => absurd c_319 (by decide))
  refine W.widen (k := 0) (n := 0) (Nat.le_of_ble_eq_true rfl) (Nat.le_of_ble_eq_true rfl) ?_
  have hP9 := hP.sub (ws' := []) [] rfl
  have hD9 := hD.sub (ws' := []) [] (by decide) rfl
  exact W.vret hx hb hr (fun t ht hW => ⟨⟨(), rfl, trivial, by rw [ht]; exact hP9, va_K.moved hW.alike hC.1, hD9⟩, hS.F ht⟩) hS.2.2 d_Arr_rangeCheck_73

theorem d_Arr_fill1_0 : decode prog_39_method_104_code 0 = .ok (.aload_n 0, 1) := by decide +kernel
theorem d_Arr_fill1_1 : decode prog_39_method_104_code 1 = .ok (.arraylength, 1) := by decide +kernel
theorem d_Arr_fill1_2 : decode prog_39_method_104_code 2 = .ok (.iload_n 1, 1) := by decide +kernel
theorem d_Arr_fill1_3 : decode prog_39_method_104_code 3 = .ok (.iload_n 2, 1) := by decide +kernel
theorem d_Arr_fill1_4 : decode prog_39_method_104_code 4 = .ok (.invokestatic 13, 3) := by decide +kernel
theorem d_Arr_fill1_7 : decode prog_39_method_104_code 7 = .ok (.iload_n 1, 1) := by decide +kernel
theorem d_Arr_fill1_8 : decode prog_39_method_104_code 8 = .ok (.istore 4, 2) := by decide +kernel
theorem d_Arr_fill1_10 : decode prog_39_method_104_code 10 = .ok (.iload 4, 2) := by decide +kernel
theorem d_Arr_fill1_12 : decode prog_39_method_104_code 12 = .ok (.iload_n 2, 1) := by decide +kernel
theorem d_Arr_fill1_13 : decode prog_39_method_104_code 13 = .ok (.if_icmp .ge 14, 3) := by decide +kernel
theorem d_Arr_fill1_16 : decode prog_39_method_104_code 16 = .ok (.aload_n 0, 1) := by decide +kernel
theorem d_Arr_fill1_17 : decode prog_39_method_104_code 17 = .ok (.iload 4, 2) := by decide +kernel
theorem d_Arr_fill1_19 : decode prog_39_method_104_code 19 = .ok (.iload_n 3, 1) := by decide +kernel
theorem d_Arr_fill1_20 : decode prog_39_method_104_code 20 = .ok (.iastore, 1) := by decide +kernel
theorem d_Arr_fill1_21 : decode prog_39_method_104_code 21 = .ok (.iinc 4 1, 3) := by decide +kernel
theorem d_Arr_fill1_24 : decode prog_39_method_104_code 24 = .ok (.goto (-14), 3) := by decide +kernel
theorem d_Arr_fill1_27 : decode prog_39_method_104_code 27 = .ok (.return_, 1) := by decide +kernel
theorem gS_Arr_13 : GoodIn tw (va_wsS "java/util/Arrays" 13 y_Arr_rangeCheck ((Cond.code y_Arr_rangeCheck prog_39_method_30_code 3 none) :: tw)) := tw_pre (fun _ h => h) (tw_good (fun _ h => h) k755) (List.forall_mem_cons.mpr ⟨k753, List.forall_mem_cons.mpr ⟨k754, List.forall_mem_cons.mpr ⟨k384, fun _ h => absurd h List.not_mem_nil⟩⟩⟩)
set_option maxHeartbeats 4000000 in
set_option maxRecDepth 100000 in
theorem c_fill4_1 (l : Launch) (D : va_G) (cI cL : ClassId) (B sz : Nat) (aa : Nat) (f : Nat → Int32) : Met l y_Arr_fill1 ((Cond.code y_Arr_fill1 prog_39_method_104_code 5 none) :: tw) ({ frames := 30, cells := 0, slots := 0, locals := 3000 }) (va_Pc [.ref aa, .int 0, .int 1, .int 0] (wP D cI cL B sz [(aa, .inl (cI, 1, .inl f))])) (va_Qv (S := Nat → Int32) (fun _ => True) (fun u => wB D cI cL (va_A [(aa, .inl (cI, 1, .inl f))] sz) ((fun f323 : Nat → Int32 => [(aa, .inl (cI, 1, .inl f323))]) u)) (va_A [(aa, .inl (cI, 1, .inl f))] sz)) 0 0 (va_A [(aa, .inl (cI, 1, .inl f))] sz) := by
  refine Met.ofW (cc := prog_39_method_104_code) (maxL := 5) (ret := none) (by decide) rfl ?_
  intro p e s m args below meth c s₁ B0 hml hv
  obtain ⟨rfl, hv⟩ := hv
  have hx := B0.exec
  have hb := B0.bytes
  have hr := B0.returns
  have hts := atoms_spec (ws := (Cond.code y_Arr_fill1 prog_39_method_104_code 5 none) :: tw) B0.pre
  have htw : ∀ w ∈ tw, w.before _ s = true := fun w hw => hts w (List.mem_cons_of_mem _ hw)
  have hown : s.vm.findClass "java/util/Arrays" = some m.cls := findClass_of_methodNamed B0.named
  have hlocks := B0.notSynchronized
  obtain ⟨hC, hP, hD, hsz⟩ := wC_init hv
  subst hsz
  generalize hAe : va_A [(aa, .inl (cI, 1, .inl f))] s.heap.size = A at hC hD ⊢
  have hS : va_S A s.heap s.heap [] := va_S.rf
  have hl := lv_entry ([.ref aa, .int 0, .int 1, .int 0]) (n := 5) (Nat.le_of_ble_eq_true rfl)
  rw [lg_entry_eq]
  generalize (lg_sl ([.ref aa, .int 0, .int 1, .int 0]) ++ List.replicate (5 - (lg_sl ([.ref aa, .int 0, .int 1, .int 0])).length) Slot.unset).toArray = ls at hl ⊢
  have hl : lv_has ls 5 [(0, .ref aa), (1, .int 0), (2, .int 1), (3, .int 0)] := hl
  refine lv_aload_n hx hb d_Arr_fill1_0 rfl (lv_at hl 0 rfl) ?_
  refine va_alen hx hb hC.1 hP 0 0 rfl (ty := .int) rfl (v := 1) (show Int32.ofNat 1 = 1 from by decide) d_Arr_fill1_1 ?_
  refine lv_iload_n hx hb d_Arr_fill1_2 rfl (lv_at hl 1 rfl) ?_
  refine lv_iload_n hx hb d_Arr_fill1_3 rfl (lv_at hl 2 rfl) ?_
  refine wc_v (wr := [(aa, .inl (cI, 1, .inl f))]) hC hP hD hS [] [0] rfl rfl (by decide) (by decide) (va_runS (As := [.int 1, .int 0, .int 1]) (rest := []) ⟨hx, hb, hml, hown, htw⟩ (c_rangeCheck_1 l D cI cL B _) (va_cwS 3 htw gS_Arr_13 rfl rfl rfl (by decide +kernel) ⟨Nat.le_of_ble_eq_true rfl, Nat.le_of_ble_eq_true rfl⟩) (wC_pre hC hP hD hS [] (by decide) rfl) rfl rfl hl.1 rfl (lv_room (Nat.le_of_ble_eq_true rfl)) d_Arr_fill1_4 ⟨Nat.le_of_ble_eq_true rfl, Nat.le_of_ble_eq_true rfl⟩) (fun u320 H locs hw321 hP hD hS => ?_)
  have hP : va_P D classes [(aa, .inl (cI, 1, .inl f))] H := hP
  have hD : va_D A [(aa, .inl (cI, 1, .inl f))] := hD
  refine W.widen (k := 0) (n := 0) (by omega) (by omega) ?_
  refine lv_iload_n hx hb d_Arr_fill1_7 rfl (lv_at hl 1 rfl) ?_
  refine lv_istore (lv' := [(4, .int 0), (0, .ref aa), (1, .int 0), (2, .int 1), (3, .int 0)]) hx hb d_Arr_fill1_8 hl (by decide) rfl (fun ls hl => ?_)
  refine lv_iload hx hb d_Arr_fill1_10 (lv_at hl 0 rfl) ?_
  refine lv_iload_n hx hb d_Arr_fill1_12 rfl (lv_at hl 3 rfl) ?_
  refine lv_icmp_ge (tgt := 27) hx hb d_Arr_fill1_13 (by decide) (fun c_322 => absurd c_322 (by decide)) (fun c_322 => ?_)
  refine lv_aload_n hx hb d_Arr_fill1_16 rfl (lv_at hl 1 rfl) ?_
  refine lv_iload hx hb d_Arr_fill1_17 (lv_at hl 0 rfl) ?_
  refine lv_iload_n hx hb d_Arr_fill1_19 rfl (lv_at hl 4 rfl) ?_
  refine va_iast hx hb hC.1 hP hD hS 0 0 rfl rfl (by unfold vp_in; decide) d_Arr_fill1_20 (fun H locs hP hD hS => ?_)
  have hP : va_P D classes [(aa, .inl (cI, 1, .inl (upd f (0 : Int32).toNatClampNeg 0)))] H := hP
  have hD : va_D A [(aa, .inl (cI, 1, .inl (upd f (0 : Int32).toNatClampNeg 0)))] := hD
  generalize upd f (0 : Int32).toNatClampNeg 0 = f323 at hP hD
  refine lv_iinc (v := 1) (lv' := [(4, .int 1), (0, .ref aa), (1, .int 0), (2, .int 1), (3, .int 0)]) hx hb d_Arr_fill1_21 hl (k := 0) rfl (by decide) (by decide) rfl (fun ls hl => ?_)
  refine lv_goto (tgt := 10) hx hb d_Arr_fill1_24 (by decide) ?_
  refine lv_iload hx hb d_Arr_fill1_10 (lv_at hl 0 rfl) ?_
  refine lv_iload_n hx hb d_Arr_fill1_12 rfl (lv_at hl 3 rfl) ?_
  refine lv_icmp_ge (tgt := 27) hx hb d_Arr_fill1_13 (by decide) (fun c_324 => ?_) (fun c_324 => absurd c_324 (by decide))
  refine W.widen (k := 0) (n := 0) (Nat.le_of_ble_eq_true rfl) (Nat.le_of_ble_eq_true rfl) ?_
  have hP9 := hP.sub (ws' := [(aa, .inl (cI, 1, .inl f323))]) [0] rfl
  have hD9 := hD.sub (ws' := [(aa, .inl (cI, 1, .inl f323))]) [0] (by decide) rfl
  exact W.vret hx hb hr (fun t ht hW => ⟨⟨f323, rfl, trivial, by rw [ht]; exact hP9, va_K.moved hW.alike hC.1, hD9⟩, hS.F ht⟩) hS.2.2 d_Arr_fill1_27

theorem d_Pic_makeNew_0 : decode prog_6_method_2_code 0 = .ok (.aload_n 0, 1) := by decide +kernel
theorem d_Pic_makeNew_1 : decode prog_6_method_2_code 1 = .ok (.iload_n 1, 1) := by decide +kernel
theorem d_Pic_makeNew_2 : decode prog_6_method_2_code 2 = .ok (.putfield 9, 3) := by decide +kernel
theorem d_Pic_makeNew_5 : decode prog_6_method_2_code 5 = .ok (.aload_n 0, 1) := by decide +kernel
theorem d_Pic_makeNew_6 : decode prog_6_method_2_code 6 = .ok (.iload_n 2, 1) := by decide +kernel
theorem d_Pic_makeNew_7 : decode prog_6_method_2_code 7 = .ok (.putfield 15, 3) := by decide +kernel
theorem d_Pic_makeNew_10 : decode prog_6_method_2_code 10 = .ok (.aload_n 0, 1) := by decide +kernel
theorem d_Pic_makeNew_11 : decode prog_6_method_2_code 11 = .ok (.getfield 9, 3) := by decide +kernel
theorem d_Pic_makeNew_14 : decode prog_6_method_2_code 14 = .ok (.aload_n 0, 1) := by decide +kernel
theorem d_Pic_makeNew_15 : decode prog_6_method_2_code 15 = .ok (.getfield 15, 3) := by decide +kernel
theorem d_Pic_makeNew_18 : decode prog_6_method_2_code 18 = .ok (.imul, 1) := by decide +kernel
theorem d_Pic_makeNew_19 : decode prog_6_method_2_code 19 = .ok (.aload_n 0, 1) := by decide +kernel
theorem d_Pic_makeNew_20 : decode prog_6_method_2_code 20 = .ok (.getfield 18, 3) := by decide +kernel
theorem d_Pic_makeNew_23 : decode prog_6_method_2_code 23 = .ok (.arraylength, 1) := by decide +kernel
theorem d_Pic_makeNew_24 : decode prog_6_method_2_code 24 = .ok (.if_icmp .le 51, 3) := by decide +kernel
theorem d_Pic_makeNew_75 : decode prog_6_method_2_code 75 = .ok (.aload_n 0, 1) := by decide +kernel
theorem d_Pic_makeNew_76 : decode prog_6_method_2_code 76 = .ok (.getfield 18, 3) := by decide +kernel
theorem d_Pic_makeNew_79 : decode prog_6_method_2_code 79 = .ok (.iconst 0, 1) := by decide +kernel
theorem d_Pic_makeNew_80 : decode prog_6_method_2_code 80 = .ok (.aload_n 0, 1) := by decide +kernel
theorem d_Pic_makeNew_81 : decode prog_6_method_2_code 81 = .ok (.getfield 9, 3) := by decide +kernel
theorem d_Pic_makeNew_84 : decode prog_6_method_2_code 84 = .ok (.aload_n 0, 1) := by decide +kernel
theorem d_Pic_makeNew_85 : decode prog_6_method_2_code 85 = .ok (.getfield 15, 3) := by decide +kernel
theorem d_Pic_makeNew_88 : decode prog_6_method_2_code 88 = .ok (.imul, 1) := by decide +kernel
theorem d_Pic_makeNew_89 : decode prog_6_method_2_code 89 = .ok (.iconst 0, 1) := by decide +kernel
theorem d_Pic_makeNew_90 : decode prog_6_method_2_code 90 = .ok (.invokestatic 47, 3) := by decide +kernel
theorem d_Pic_makeNew_93 : decode prog_6_method_2_code 93 = .ok (.aload_n 0, 1) := by decide +kernel
theorem d_Pic_makeNew_94 : decode prog_6_method_2_code 94 = .ok (.getfield 22, 3) := by decide +kernel
theorem d_Pic_makeNew_97 : decode prog_6_method_2_code 97 = .ok (.iconst 0, 1) := by decide +kernel
theorem d_Pic_makeNew_98 : decode prog_6_method_2_code 98 = .ok (.aload_n 0, 1) := by decide +kernel
theorem d_Pic_makeNew_99 : decode prog_6_method_2_code 99 = .ok (.getfield 9, 3) := by decide +kernel
theorem d_Pic_makeNew_102 : decode prog_6_method_2_code 102 = .ok (.aload_n 0, 1) := by decide +kernel
theorem d_Pic_makeNew_103 : decode prog_6_method_2_code 103 = .ok (.getfield 15, 3) := by decide +kernel
theorem d_Pic_makeNew_106 : decode prog_6_method_2_code 106 = .ok (.imul, 1) := by decide +kernel
theorem d_Pic_makeNew_107 : decode prog_6_method_2_code 107 = .ok (.iconst 0, 1) := by decide +kernel
theorem d_Pic_makeNew_108 : decode prog_6_method_2_code 108 = .ok (.invokestatic 47, 3) := by decide +kernel
theorem d_Pic_makeNew_111 : decode prog_6_method_2_code 111 = .ok (.aload_n 0, 1) := by decide +kernel
theorem d_Pic_makeNew_112 : decode prog_6_method_2_code 112 = .ok (.getfield 25, 3) := by decide +kernel
theorem d_Pic_makeNew_115 : decode prog_6_method_2_code 115 = .ok (.iconst 0, 1) := by decide +kernel
theorem d_Pic_makeNew_116 : decode prog_6_method_2_code 116 = .ok (.aload_n 0, 1) := by decide +kernel
theorem d_Pic_makeNew_117 : decode prog_6_method_2_code 117 = .ok (.getfield 9, 3) := by decide +kernel
theorem d_Pic_makeNew_120 : decode prog_6_method_2_code 120 = .ok (.aload_n 0, 1) := by decide +kernel
theorem d_Pic_makeNew_121 : decode prog_6_method_2_code 121 = .ok (.getfield 15, 3) := by decide +kernel
theorem d_Pic_makeNew_124 : decode prog_6_method_2_code 124 = .ok (.imul, 1) := by decide +kernel
theorem d_Pic_makeNew_125 : decode prog_6_method_2_code 125 = .ok (.iconst 0, 1) := by decide +kernel
theorem d_Pic_makeNew_126 : decode prog_6_method_2_code 126 = .ok (.invokestatic 47, 3) := by decide +kernel
theorem d_Pic_makeNew_129 : decode prog_6_method_2_code 129 = .ok (.return_, 1) := by decide +kernel
theorem gS_Pic_47 : GoodIn tw (va_wsS "DrawingMachine$Picture" 47 y_Arr_fill1 ((Cond.code y_Arr_fill1 prog_39_method_104_code 5 none) :: tw)) := tw_pre (fun _ h => h) (tw_good (fun _ h => h) k407) (List.forall_mem_cons.mpr ⟨k405, List.forall_mem_cons.mpr ⟨k406, List.forall_mem_cons.mpr ⟨k384, fun _ h => absurd h List.not_mem_nil⟩⟩⟩)
set_option maxHeartbeats 4000000 in
set_option maxRecDepth 100000 in
theorem c_makeNew_1 (l : Launch) (D : va_G) (cI cL : ClassId) (B sz : Nat) (q84 : Nat) (z87 : Nat) (q89 : Nat) (z92 : Nat) (z93 : Nat) (z94 : Nat) : Met l y_Pic_makeNew ((Cond.code y_Pic_makeNew prog_6_method_2_code 4 none) :: tw) ({ frames := 40, cells := 0, slots := 0, locals := 4000 }) (va_Pc [.ref q89, .int 1, .int 1] (wP D cI cL B sz [(q89, .inr (2, [.int 1, .int 1, .ref z92, .ref z93, .ref z94, .ref q84, .ref z87])), (z92, .inl (cI, 1, .inl (fun _ => 0))), (z93, .inl (cI, 1, .inl (fun _ => 0))), (z94, .inl (cI, 1, .inl (fun _ => 0)))])) (va_Qv (S := Unit) (fun _ => True) (fun u => wB D cI cL (va_A [(q89, .inr (2, [.int 1, .int 1, .ref z92, .ref z93, .ref z94, .ref q84, .ref z87])), (z92, .inl (cI, 1, .inl (fun _ => 0))), (z93, .inl (cI, 1, .inl (fun _ => 0))), (z94, .inl (cI, 1, .inl (fun _ => 0)))] sz) ((fun _ : Unit => []) u)) (va_A [(q89, .inr (2, [.int 1, .int 1, .ref z92, .ref z93, .ref z94, .ref q84, .ref z87])), (z92, .inl (cI, 1, .inl (fun _ => 0))), (z93, .inl (cI, 1, .inl (fun _ => 0))), (z94, .inl (cI, 1, .inl (fun _ => 0)))] sz)) 0 0 (va_A [(q89, .inr (2, [.int 1, .int 1, .ref z92, .ref z93, .ref z94, .ref q84, .ref z87])), (z92, .inl (cI, 1, .inl (fun _ => 0))), (z93, .inl (cI, 1, .inl (fun _ => 0))), (z94, .inl (cI, 1, .inl (fun _ => 0)))] sz) := by
  refine Met.ofW (cc := prog_6_method_2_code) (maxL := 4) (ret := none) (by decide) rfl ?_
  intro p e s m args below meth c s₁ B0 hml hv
  obtain ⟨rfl, hv⟩ := hv
  have hx := B0.exec
  have hb := B0.bytes
  have hr := B0.returns
  have hts := atoms_spec (ws := (Cond.code y_Pic_makeNew prog_6_method_2_code 4 none) :: tw) B0.pre
  have htw : ∀ w ∈ tw, w.before _ s = true := fun w hw => hts w (List.mem_cons_of_mem _ hw)
  have hown : s.vm.findClass "DrawingMachine$Picture" = some m.cls := findClass_of_methodNamed B0.named
  have hlocks := B0.notSynchronized
  obtain ⟨hC, hP, hD, hsz⟩ := wC_init hv
  subst hsz
  generalize hAe : va_A [(q89, .inr (2, [.int 1, .int 1, .ref z92, .ref z93, .ref z94, .ref q84, .ref z87])), (z92, .inl (cI, 1, .inl (fun _ => 0))), (z93, .inl (cI, 1, .inl (fun _ => 0))), (z94, .inl (cI, 1, .inl (fun _ => 0)))] s.heap.size = A at hC hD ⊢
  have hS : va_S A s.heap s.heap [] := va_S.rf
  have hl := lv_entry ([.ref q89, .int 1, .int 1]) (n := 4) (Nat.le_of_ble_eq_true rfl)
  rw [lg_entry_eq]
  generalize (lg_sl ([.ref q89, .int 1, .int 1]) ++ List.replicate (4 - (lg_sl ([.ref q89, .int 1, .int 1])).length) Slot.unset).toArray = ls at hl ⊢
  have hl : lv_has ls 4 [(0, .ref q89), (1, .int 1), (2, .int 1)] := hl
  refine lv_aload_n hx hb d_Pic_makeNew_0 rfl (lv_at hl 0 rfl) ?_
  refine lv_iload_n hx hb d_Pic_makeNew_1 rfl (lv_at hl 1 rfl) ?_
  refine va_put (D := D) (ci := 2) (v := .int 1) (ty := .int) (C := R_Pic) (T := F_Pic) (N := 7) hx hb htw i_Pic t_Pic t_Pic_ok n_Pic hown hC.1 hP hD hS 0 rfl rfl 0 (by decide) (htw _ k390) (fun _ h9 => h9) rfl (by decide +kernel) rfl rfl (Nat.le_of_ble_eq_true rfl) d_Pic_makeNew_2 (fun H locs hP hD hS => ?_)
  have hP : va_P D classes [(q89, .inr (2, [.int 1, .int 1, .ref z92, .ref z93, .ref z94, .ref q84, .ref z87])), (z92, .inl (cI, 1, .inl (fun _ => 0))), (z93, .inl (cI, 1, .inl (fun _ => 0))), (z94, .inl (cI, 1, .inl (fun _ => 0)))] H := hP
  have hD : va_D A [(q89, .inr (2, [.int 1, .int 1, .ref z92, .ref z93, .ref z94, .ref q84, .ref z87])), (z92, .inl (cI, 1, .inl (fun _ => 0))), (z93, .inl (cI, 1, .inl (fun _ => 0))), (z94, .inl (cI, 1, .inl (fun _ => 0)))] := hD
  refine lv_aload_n hx hb d_Pic_makeNew_5 rfl (lv_at hl 0 rfl) ?_
  refine lv_iload_n hx hb d_Pic_makeNew_6 rfl (lv_at hl 2 rfl) ?_
  refine va_put (D := D) (ci := 2) (v := .int 1) (ty := .int) (C := R_Pic) (T := F_Pic) (N := 7) hx hb htw i_Pic t_Pic t_Pic_ok n_Pic hown hC.1 hP hD hS 0 rfl rfl 1 (by decide) (htw _ k391) (fun _ h9 => h9) rfl (by decide +kernel) rfl rfl (Nat.le_of_ble_eq_true rfl) d_Pic_makeNew_7 (fun H locs hP hD hS => ?_)
  have hP : va_P D classes [(q89, .inr (2, [.int 1, .int 1, .ref z92, .ref z93, .ref z94, .ref q84, .ref z87])), (z92, .inl (cI, 1, .inl (fun _ => 0))), (z93, .inl (cI, 1, .inl (fun _ => 0))), (z94, .inl (cI, 1, .inl (fun _ => 0)))] H := hP
  have hD : va_D A [(q89, .inr (2, [.int 1, .int 1, .ref z92, .ref z93, .ref z94, .ref q84, .ref z87])), (z92, .inl (cI, 1, .inl (fun _ => 0))), (z93, .inl (cI, 1, .inl (fun _ => 0))), (z94, .inl (cI, 1, .inl (fun _ => 0)))] := hD
  refine lv_aload_n hx hb d_Pic_makeNew_10 rfl (lv_at hl 0 rfl) ?_
  refine va_get (D := D) (ci := 2) (v := .int 1) (C := R_Pic) (T := F_Pic) (N := 7) hx hb htw i_Pic hown hC.1 hP 0 rfl rfl 0 (by decide) (htw _ k390) (fun _ h9 => h9) rfl d_Pic_makeNew_11 ?_
  refine lv_aload_n hx hb d_Pic_makeNew_14 rfl (lv_at hl 0 rfl) ?_
  refine va_get (D := D) (ci := 2) (v := .int 1) (C := R_Pic) (T := F_Pic) (N := 7) hx hb htw i_Pic hown hC.1 hP 0 rfl rfl 1 (by decide) (htw _ k391) (fun _ h9 => h9) rfl d_Pic_makeNew_15 ?_
  refine lv_imul hx hb d_Pic_makeNew_18 ?_
  refine wi_c (v := 1) (by decide) ?_
  refine lv_aload_n hx hb d_Pic_makeNew_19 rfl (lv_at hl 0 rfl) ?_
  refine va_get (D := D) (ci := 2) (v := .ref z92) (C := R_Pic) (T := F_Pic) (N := 7) hx hb htw i_Pic hown hC.1 hP 0 rfl rfl 2 (by decide) (htw _ k392) (fun _ h9 => h9) rfl d_Pic_makeNew_20 ?_
  refine va_alen hx hb hC.1 hP 1 0 rfl (ty := .int) rfl (v := 1) (show Int32.ofNat 1 = 1 from by decide) d_Pic_makeNew_23 ?_
  refine lv_icmp_le (tgt := 75) hx hb d_Pic_makeNew_24 (by decide) (fun c_325 => ?_) (fun c_325 => absurd c_325 (by decide))
  refine lv_aload_n hx hb d_Pic_makeNew_75 rfl (lv_at hl 0 rfl) ?_
  refine va_get (D := D) (ci := 2) (v := .ref z92) (C := R_Pic) (T := F_Pic) (N := 7) hx hb htw i_Pic hown hC.1 hP 0 rfl rfl 2 (by decide) (htw _ k392) (fun _ h9 => h9) rfl d_Pic_makeNew_76 ?_
  refine lv_iconst (v := 0) hx hb d_Pic_makeNew_79 (by decide) ?_
  refine lv_aload_n hx hb d_Pic_makeNew_80 rfl (lv_at hl 0 rfl) ?_
  refine va_get (D := D) (ci := 2) (v := .int 1) (C := R_Pic) (T := F_Pic) (N := 7) hx hb htw i_Pic hown hC.1 hP 0 rfl rfl 0 (by decide) (htw _ k390) (fun _ h9 => h9) rfl d_Pic_makeNew_81 ?_
  refine lv_aload_n hx hb d_Pic_makeNew_84 rfl (lv_at hl 0 rfl) ?_
  refine va_get (D := D) (ci := 2) (v := .int 1) (C := R_Pic) (T := F_Pic) (N := 7) hx hb htw i_Pic hown hC.1 hP 0 rfl rfl 1 (by decide) (htw _ k391) (fun _ h9 => h9) rfl d_Pic_makeNew_85 ?_
  refine lv_imul hx hb d_Pic_makeNew_88 ?_
  refine wi_c (v := 1) (by decide) ?_
  refine lv_iconst (v := 0) hx hb d_Pic_makeNew_89 (by decide) ?_
  refine wc_v (wr := [(q89, .inr (2, [.int 1, .int 1, .ref z92, .ref z93, .ref z94, .ref q84, .ref z87])), (z93, .inl (cI, 1, .inl (fun _ => 0))), (z94, .inl (cI, 1, .inl (fun _ => 0)))]) hC hP hD hS [1] [0, 2, 3] rfl rfl (by decide) (by decide) (va_runS (As := [.ref z92, .int 0, .int 1, .int 0]) (rest := []) ⟨hx, hb, hml, hown, htw⟩ (c_fill4_1 l D cI cL B _ z92 (fun _ => 0)) (va_cwS 4 htw gS_Pic_47 rfl rfl rfl (by decide +kernel) ⟨Nat.le_of_ble_eq_true rfl, Nat.le_of_ble_eq_true rfl⟩) (wC_pre hC hP hD hS [1] (by decide) rfl) rfl rfl hl.1 rfl (lv_room (Nat.le_of_ble_eq_true rfl)) d_Pic_makeNew_90 ⟨Nat.le_of_ble_eq_true rfl, Nat.le_of_ble_eq_true rfl⟩) (fun u326 H locs hw327 hP hD hS => ?_)
  obtain ⟨z328, rfl⟩ : ∃ z, z = u326 := ⟨_, rfl⟩
  have hP : va_P D classes [(q89, .inr (2, [.int 1, .int 1, .ref z92, .ref z93, .ref z94, .ref q84, .ref z87])), (z93, .inl (cI, 1, .inl (fun _ => 0))), (z94, .inl (cI, 1, .inl (fun _ => 0))), (z92, .inl (cI, 1, .inl z328))] H := hP
  have hD : va_D A [(q89, .inr (2, [.int 1, .int 1, .ref z92, .ref z93, .ref z94, .ref q84, .ref z87])), (z93, .inl (cI, 1, .inl (fun _ => 0))), (z94, .inl (cI, 1, .inl (fun _ => 0))), (z92, .inl (cI, 1, .inl z328))] := hD
  refine W.widen (k := 0) (n := 0) (by omega) (by omega) ?_
  refine lv_aload_n hx hb d_Pic_makeNew_93 rfl (lv_at hl 0 rfl) ?_
  refine va_get (D := D) (ci := 2) (v := .ref z93) (C := R_Pic) (T := F_Pic) (N := 7) hx hb htw i_Pic hown hC.1 hP 0 rfl rfl 3 (by decide) (htw _ k393) (fun _ h9 => h9) rfl d_Pic_makeNew_94 ?_
  refine lv_iconst (v := 0) hx hb d_Pic_makeNew_97 (by decide) ?_
  refine lv_aload_n hx hb d_Pic_makeNew_98 rfl (lv_at hl 0 rfl) ?_
  refine va_get (D := D) (ci := 2) (v := .int 1) (C := R_Pic) (T := F_Pic) (N := 7) hx hb htw i_Pic hown hC.1 hP 0 rfl rfl 0 (by decide) (htw _ k390) (fun _ h9 => h9) rfl d_Pic_makeNew_99 ?_
  refine lv_aload_n hx hb d_Pic_makeNew_102 rfl (lv_at hl 0 rfl) ?_
  refine va_get (D := D) (ci := 2) (v := .int 1) (C := R_Pic) (T := F_Pic) (N := 7) hx hb htw i_Pic hown hC.1 hP 0 rfl rfl 1 (by decide) (htw _ k391) (fun _ h9 => h9) rfl d_Pic_makeNew_103 ?_
  refine lv_imul hx hb d_Pic_makeNew_106 ?_
  refine wi_c (v := 1) (by decide) ?_
  refine lv_iconst (v := 0) hx hb d_Pic_makeNew_107 (by decide) ?_
  refine wc_v (wr := [(q89, .inr (2, [.int 1, .int 1, .ref z92, .ref z93, .ref z94, .ref q84, .ref z87])), (z94, .inl (cI, 1, .inl (fun _ => 0))), (z92, .inl (cI, 1, .inl z328))]) hC hP hD hS [1] [0, 2, 3] rfl rfl (by decide) (by decide) (va_runS (As := [.ref z93, .int 0, .int 1, .int 0]) (rest := []) ⟨hx, hb, hml, hown, htw⟩ (c_fill4_1 l D cI cL B _ z93 (fun _ => 0)) (va_cwS 4 htw gS_Pic_47 rfl rfl rfl (by decide +kernel) ⟨Nat.le_of_ble_eq_true rfl, Nat.le_of_ble_eq_true rfl⟩) (wC_pre hC hP hD hS [1] (by decide) rfl) rfl rfl hl.1 rfl (lv_room (Nat.le_of_ble_eq_true rfl)) d_Pic_makeNew_108 ⟨Nat.le_of_ble_eq_true rfl, Nat.le_of_ble_eq_true rfl⟩) (fun u329 H locs hw330 hP hD hS => ?_)
  obtain ⟨z331, rfl⟩ : ∃ z, z = u329 := ⟨_, rfl⟩
  have hP : va_P D classes [(q89, .inr (2, [.int 1, .int 1, .ref z92, .ref z93, .ref z94, .ref q84, .ref z87])), (z94, .inl (cI, 1, .inl (fun _ => 0))), (z92, .inl (cI, 1, .inl z328)), (z93, .inl (cI, 1, .inl z331))] H := hP
  have hD : va_D A [(q89, .inr (2, [.int 1, .int 1, .ref z92, .ref z93, .ref z94, .ref q84, .ref z87])), (z94, .inl (cI, 1, .inl (fun _ => 0))), (z92, .inl (cI, 1, .inl z328)), (z93, .inl (cI, 1, .inl z331))] := hD
  refine W.widen (k := 0) (n := 0) (by omega) (by omega) ?_
  refine lv_aload_n hx hb d_Pic_makeNew_111 rfl (lv_at hl 0 rfl) ?_
  refine va_get (D := D) (ci := 2) (v := .ref z94) (C := R_Pic) (T := F_Pic) (N := 7) hx hb htw i_Pic hown hC.1 hP 0 rfl rfl 4 (by decide) (htw _ k394) (fun _ h9 => h9) rfl d_Pic_makeNew_112 ?_
  refine lv_iconst (v := 0) hx hb d_Pic_makeNew_115 (by decide) ?_
  refine lv_aload_n hx hb d_Pic_makeNew_116 rfl (lv_at hl 0 rfl) ?_
  refine va_get (D := D) (ci := 2) (v := .int 1) (C := R_Pic) (T := F_Pic) (N := 7) hx hb htw i_Pic hown hC.1 hP 0 rfl rfl 0 (by decide) (htw _ k390) (fun _ h9 => h9) rfl d_Pic_makeNew_117 ?_
  refine lv_aload_n hx hb d_Pic_makeNew_120 rfl (lv_at hl 0 rfl) ?_
  refine va_get (D := D) (ci := 2) (v := .int 1) (C := R_Pic) (T := F_Pic) (N := 7) hx hb htw i_Pic hown hC.1 hP 0 rfl rfl 1 (by decide) (htw _ k391) (fun _ h9 => h9) rfl d_Pic_makeNew_121 ?_
  refine lv_imul hx hb d_Pic_makeNew_124 ?_
  refine wi_c (v := 1) (by decide) ?_
  refine lv_iconst (v := 0) hx hb d_Pic_makeNew_125 (by decide) ?_
  refine wc_v (wr := [(q89, .inr (2, [.int 1, .int 1, .ref z92, .ref z93, .ref z94, .ref q84, .ref z87])), (z92, .inl (cI, 1, .inl z328)), (z93, .inl (cI, 1, .inl z331))]) hC hP hD hS [1] [0, 2, 3] rfl rfl (by decide) (by decide) (va_runS (As := [.ref z94, .int 0, .int 1, .int 0]) (rest := []) ⟨hx, hb, hml, hown, htw⟩ (c_fill4_1 l D cI cL B _ z94 (fun _ => 0)) (va_cwS 4 htw gS_Pic_47 rfl rfl rfl (by decide +kernel) ⟨Nat.le_of_ble_eq_true rfl, Nat.le_of_ble_eq_true rfl⟩) (wC_pre hC hP hD hS [1] (by decide) rfl) rfl rfl hl.1 rfl (lv_room (Nat.le_of_ble_eq_true rfl)) d_Pic_makeNew_126 ⟨Nat.le_of_ble_eq_true rfl, Nat.le_of_ble_eq_true rfl⟩) (fun u332 H locs hw333 hP hD hS => ?_)
  obtain ⟨z334, rfl⟩ : ∃ z, z = u332 := ⟨_, rfl⟩
  have hP : va_P D classes [(q89, .inr (2, [.int 1, .int 1, .ref z92, .ref z93, .ref z94, .ref q84, .ref z87])), (z92, .inl (cI, 1, .inl z328)), (z93, .inl (cI, 1, .inl z331)), (z94, .inl (cI, 1, .inl z334))] H := hP
  have hD : va_D A [(q89, .inr (2, [.int 1, .int 1, .ref z92, .ref z93, .ref z94, .ref q84, .ref z87])), (z92, .inl (cI, 1, .inl z328)), (z93, .inl (cI, 1, .inl z331)), (z94, .inl (cI, 1, .inl z334))] := hD
  refine W.widen (k := 0) (n := 0) (by omega) (by omega) ?_
  refine W.widen (k := 0) (n := 0) (Nat.le_of_ble_eq_true rfl) (Nat.le_of_ble_eq_true rfl) ?_
  have hP9 := hP.sub (ws' := []) [] rfl
  have hD9 := hD.sub (ws' := []) [] (by decide) rfl
  exact W.vret hx hb hr (fun t ht hW => ⟨⟨(), rfl, trivial, by rw [ht]; exact hP9, va_K.moved hW.alike hC.1, hD9⟩, hS.F ht⟩) hS.2.2 d_Pic_makeNew_129

theorem d_Pic_makeNew_27 : decode prog_6_method_2_code 27 = .ok (.aload_n 0, 1) := by decide +kernel
theorem d_Pic_makeNew_28 : decode prog_6_method_2_code 28 = .ok (.getfield 9, 3) := by decide +kernel
theorem d_Pic_makeNew_31 : decode prog_6_method_2_code 31 = .ok (.aload_n 0, 1) := by decide +kernel
theorem d_Pic_makeNew_32 : decode prog_6_method_2_code 32 = .ok (.getfield 15, 3) := by decide +kernel
theorem d_Pic_makeNew_35 : decode prog_6_method_2_code 35 = .ok (.imul, 1) := by decide +kernel
theorem d_Pic_makeNew_36 : decode prog_6_method_2_code 36 = .ok (.iconst 2, 1) := by decide +kernel
theorem d_Pic_makeNew_37 : decode prog_6_method_2_code 37 = .ok (.aload_n 0, 1) := by decide +kernel
theorem d_Pic_makeNew_38 : decode prog_6_method_2_code 38 = .ok (.getfield 18, 3) := by decide +kernel
theorem d_Pic_makeNew_41 : decode prog_6_method_2_code 41 = .ok (.arraylength, 1) := by decide +kernel
theorem d_Pic_makeNew_42 : decode prog_6_method_2_code 42 = .ok (.imul, 1) := by decide +kernel
theorem d_Pic_makeNew_43 : decode prog_6_method_2_code 43 = .ok (.invokestatic 38, 3) := by decide +kernel
theorem d_Pic_makeNew_46 : decode prog_6_method_2_code 46 = .ok (.sipush 16384, 3) := by decide +kernel
theorem d_Pic_makeNew_49 : decode prog_6_method_2_code 49 = .ok (.invokestatic 44, 3) := by decide +kernel
theorem d_Pic_makeNew_52 : decode prog_6_method_2_code 52 = .ok (.istore_n 3, 1) := by decide +kernel
theorem d_Pic_makeNew_53 : decode prog_6_method_2_code 53 = .ok (.aload_n 0, 1) := by decide +kernel
theorem d_Pic_makeNew_54 : decode prog_6_method_2_code 54 = .ok (.iload_n 3, 1) := by decide +kernel
theorem d_Pic_makeNew_55 : decode prog_6_method_2_code 55 = .ok (.newarray .int, 2) := by decide +kernel
theorem d_Pic_makeNew_57 : decode prog_6_method_2_code 57 = .ok (.putfield 18, 3) := by decide +kernel
theorem d_Pic_makeNew_60 : decode prog_6_method_2_code 60 = .ok (.aload_n 0, 1) := by decide +kernel
theorem d_Pic_makeNew_61 : decode prog_6_method_2_code 61 = .ok (.iload_n 3, 1) := by decide +kernel
theorem d_Pic_makeNew_62 : decode prog_6_method_2_code 62 = .ok (.newarray .int, 2) := by decide +kernel
theorem d_Pic_makeNew_64 : decode prog_6_method_2_code 64 = .ok (.putfield 22, 3) := by decide +kernel
theorem d_Pic_makeNew_67 : decode prog_6_method_2_code 67 = .ok (.aload_n 0, 1) := by decide +kernel
theorem d_Pic_makeNew_68 : decode prog_6_method_2_code 68 = .ok (.iload_n 3, 1) := by decide +kernel
theorem d_Pic_makeNew_69 : decode prog_6_method_2_code 69 = .ok (.newarray .int, 2) := by decide +kernel
theorem d_Pic_makeNew_71 : decode prog_6_method_2_code 71 = .ok (.putfield 25, 3) := by decide +kernel
theorem d_Pic_makeNew_74 : decode prog_6_method_2_code 74 = .ok (.return_, 1) := by decide +kernel
set_option maxHeartbeats 4000000 in
set_option maxRecDepth 100000 in
theorem c_makeNew_n (l : Launch) (D : va_G) (cI cL : ClassId) (B sz : Nat) (q84 : Nat) (z87 : Nat) (q89 : Nat) (z92 : Nat) (z93 : Nat) (z94 : Nat) (a : Nat) (b : Nat) (hab2 : 2 ≤ a * b) (hab : a * b ≤ 16384) : Met l y_Pic_makeNew ((Cond.code y_Pic_makeNew prog_6_method_2_code 4 none) :: tw) ({ frames := 40, cells := 3, slots := 49152, locals := 4000 }) (va_Pc [.ref q89, .int (nI a), .int (nI b)] (wP D cI cL B sz [(q89, .inr (2, [.int 1, .int 1, .ref z92, .ref z93, .ref z94, .ref q84, .ref z87])), (z92, .inl (cI, 1, .inl (fun _ => 0))), (z93, .inl (cI, 1, .inl (fun _ => 0))), (z94, .inl (cI, 1, .inl (fun _ => 0)))])) (va_Qv (S := Unit) (fun _ => True) (fun u => wB D cI cL (va_A [(q89, .inr (2, [.int 1, .int 1, .ref z92, .ref z93, .ref z94, .ref q84, .ref z87])), (z92, .inl (cI, 1, .inl (fun _ => 0))), (z93, .inl (cI, 1, .inl (fun _ => 0))), (z94, .inl (cI, 1, .inl (fun _ => 0)))] sz) ((fun _ : Unit => []) u)) (va_A [(q89, .inr (2, [.int 1, .int 1, .ref z92, .ref z93, .ref z94, .ref q84, .ref z87])), (z92, .inl (cI, 1, .inl (fun _ => 0))), (z93, .inl (cI, 1, .inl (fun _ => 0))), (z94, .inl (cI, 1, .inl (fun _ => 0)))] sz)) 3 49152 (va_A [(q89, .inr (2, [.int 1, .int 1, .ref z92, .ref z93, .ref z94, .ref q84, .ref z87])), (z92, .inl (cI, 1, .inl (fun _ => 0))), (z93, .inl (cI, 1, .inl (fun _ => 0))), (z94, .inl (cI, 1, .inl (fun _ => 0)))] sz) := by
  refine Met.ofW (cc := prog_6_method_2_code) (maxL := 4) (ret := none) (by decide) rfl ?_
  intro p e s m args below meth c s₁ B0 hml hv
  obtain ⟨rfl, hv⟩ := hv
  have hx := B0.exec
  have hb := B0.bytes
  have hr := B0.returns
  have hts := atoms_spec (ws := (Cond.code y_Pic_makeNew prog_6_method_2_code 4 none) :: tw) B0.pre
  have htw : ∀ w ∈ tw, w.before _ s = true := fun w hw => hts w (List.mem_cons_of_mem _ hw)
  have hown : s.vm.findClass "DrawingMachine$Picture" = some m.cls := findClass_of_methodNamed B0.named
  have hlocks := B0.notSynchronized
  obtain ⟨hC, hP, hD, hsz⟩ := wC_init hv
  subst hsz
  generalize hAe : va_A [(q89, .inr (2, [.int 1, .int 1, .ref z92, .ref z93, .ref z94, .ref q84, .ref z87])), (z92, .inl (cI, 1, .inl (fun _ => 0))), (z93, .inl (cI, 1, .inl (fun _ => 0))), (z94, .inl (cI, 1, .inl (fun _ => 0)))] s.heap.size = A at hC hD ⊢
  have hS : va_S A s.heap s.heap [] := va_S.rf
  have hl := lv_entry ([.ref q89, .int (nI a), .int (nI b)]) (n := 4) (Nat.le_of_ble_eq_true rfl)
  rw [lg_entry_eq]
  generalize (lg_sl ([.ref q89, .int (nI a), .int (nI b)]) ++ List.replicate (4 - (lg_sl ([.ref q89, .int (nI a), .int (nI b)])).length) Slot.unset).toArray = ls at hl ⊢
  have hl : lv_has ls 4 [(0, .ref q89), (1, .int (nI a)), (2, .int (nI b))] := hl
  refine lv_aload_n hx hb d_Pic_makeNew_0 rfl (lv_at hl 0 rfl) ?_
  refine lv_iload_n hx hb d_Pic_makeNew_1 rfl (lv_at hl 1 rfl) ?_
  refine va_put (D := D) (ci := 2) (v := .int (nI a)) (ty := .int) (C := R_Pic) (T := F_Pic) (N := 7) hx hb htw i_Pic t_Pic t_Pic_ok n_Pic hown hC.1 hP hD hS 0 rfl rfl 0 (by decide) (htw _ k390) (fun _ h9 => h9) rfl (by decide +kernel) rfl rfl (Nat.le_of_ble_eq_true rfl) d_Pic_makeNew_2 (fun H locs hP hD hS => ?_)
  have hP : va_P D classes [(q89, .inr (2, [.int (nI a), .int 1, .ref z92, .ref z93, .ref z94, .ref q84, .ref z87])), (z92, .inl (cI, 1, .inl (fun _ => 0))), (z93, .inl (cI, 1, .inl (fun _ => 0))), (z94, .inl (cI, 1, .inl (fun _ => 0)))] H := hP
  have hD : va_D A [(q89, .inr (2, [.int (nI a), .int 1, .ref z92, .ref z93, .ref z94, .ref q84, .ref z87])), (z92, .inl (cI, 1, .inl (fun _ => 0))), (z93, .inl (cI, 1, .inl (fun _ => 0))), (z94, .inl (cI, 1, .inl (fun _ => 0)))] := hD
  refine lv_aload_n hx hb d_Pic_makeNew_5 rfl (lv_at hl 0 rfl) ?_
  refine lv_iload_n hx hb d_Pic_makeNew_6 rfl (lv_at hl 2 rfl) ?_
  refine va_put (D := D) (ci := 2) (v := .int (nI b)) (ty := .int) (C := R_Pic) (T := F_Pic) (N := 7) hx hb htw i_Pic t_Pic t_Pic_ok n_Pic hown hC.1 hP hD hS 0 rfl rfl 1 (by decide) (htw _ k391) (fun _ h9 => h9) rfl (by decide +kernel) rfl rfl (Nat.le_of_ble_eq_true rfl) d_Pic_makeNew_7 (fun H locs hP hD hS => ?_)
  have hP : va_P D classes [(q89, .inr (2, [.int (nI a), .int (nI b), .ref z92, .ref z93, .ref z94, .ref q84, .ref z87])), (z92, .inl (cI, 1, .inl (fun _ => 0))), (z93, .inl (cI, 1, .inl (fun _ => 0))), (z94, .inl (cI, 1, .inl (fun _ => 0)))] H := hP
  have hD : va_D A [(q89, .inr (2, [.int (nI a), .int (nI b), .ref z92, .ref z93, .ref z94, .ref q84, .ref z87])), (z92, .inl (cI, 1, .inl (fun _ => 0))), (z93, .inl (cI, 1, .inl (fun _ => 0))), (z94, .inl (cI, 1, .inl (fun _ => 0)))] := hD
  refine lv_aload_n hx hb d_Pic_makeNew_10 rfl (lv_at hl 0 rfl) ?_
  refine va_get (D := D) (ci := 2) (v := .int (nI a)) (C := R_Pic) (T := F_Pic) (N := 7) hx hb htw i_Pic hown hC.1 hP 0 rfl rfl 0 (by decide) (htw _ k390) (fun _ h9 => h9) rfl d_Pic_makeNew_11 ?_
  refine lv_aload_n hx hb d_Pic_makeNew_14 rfl (lv_at hl 0 rfl) ?_
  refine va_get (D := D) (ci := 2) (v := .int (nI b)) (C := R_Pic) (T := F_Pic) (N := 7) hx hb htw i_Pic hown hC.1 hP 0 rfl rfl 1 (by decide) (htw _ k391) (fun _ h9 => h9) rfl d_Pic_makeNew_15 ?_
  refine lv_imul hx hb d_Pic_makeNew_18 ?_
  refine wi_c (v := nI (a * b)) (pk_mul a b) ?_
  refine lv_aload_n hx hb d_Pic_makeNew_19 rfl (lv_at hl 0 rfl) ?_
  refine va_get (D := D) (ci := 2) (v := .ref z92) (C := R_Pic) (T := F_Pic) (N := 7) hx hb htw i_Pic hown hC.1 hP 0 rfl rfl 2 (by decide) (htw _ k392) (fun _ h9 => h9) rfl d_Pic_makeNew_20 ?_
  refine va_alen hx hb hC.1 hP 1 0 rfl (ty := .int) rfl (v := 1) (show Int32.ofNat 1 = 1 from by decide) d_Pic_makeNew_23 ?_
  refine lv_icmp_le (tgt := 75) hx hb d_Pic_makeNew_24 (by decide) (fun c_335 => absurd c_335 (nI_ge (a := 1) (b := a * b) (by omega) (by omega))) (fun c_335 => ?_)
  refine lv_aload_n hx hb d_Pic_makeNew_27 rfl (lv_at hl 0 rfl) ?_
  refine va_get (D := D) (ci := 2) (v := .int (nI a)) (C := R_Pic) (T := F_Pic) (N := 7) hx hb htw i_Pic hown hC.1 hP 0 rfl rfl 0 (by decide) (htw _ k390) (fun _ h9 => h9) rfl d_Pic_makeNew_28 ?_
  refine lv_aload_n hx hb d_Pic_makeNew_31 rfl (lv_at hl 0 rfl) ?_
  refine va_get (D := D) (ci := 2) (v := .int (nI b)) (C := R_Pic) (T := F_Pic) (N := 7) hx hb htw i_Pic hown hC.1 hP 0 rfl rfl 1 (by decide) (htw _ k391) (fun _ h9 => h9) rfl d_Pic_makeNew_32 ?_
  refine lv_imul hx hb d_Pic_makeNew_35 ?_
  refine wi_c (v := nI (a * b)) (pk_mul a b) ?_
  refine lv_iconst (v := 2) hx hb d_Pic_makeNew_36 (by decide) ?_
  refine lv_aload_n hx hb d_Pic_makeNew_37 rfl (lv_at hl 0 rfl) ?_
  refine va_get (D := D) (ci := 2) (v := .ref z92) (C := R_Pic) (T := F_Pic) (N := 7) hx hb htw i_Pic hown hC.1 hP 0 rfl rfl 2 (by decide) (htw _ k392) (fun _ h9 => h9) rfl d_Pic_makeNew_38 ?_
  refine va_alen hx hb hC.1 hP 1 0 rfl (ty := .int) rfl (v := 1) (show Int32.ofNat 1 = 1 from by decide) d_Pic_makeNew_41 ?_
  refine lv_imul hx hb d_Pic_makeNew_42 ?_
  refine wi_c (v := 2) (by decide) ?_
  refine va_mmax hx hb (hml.trans hl.1.symm) hown (htw _ k398) (htw _ k400) (htw _ k399) (htw _ k401) (Nat.le_of_ble_eq_true rfl) (Nat.le_of_ble_eq_true rfl) (Nat.le_of_ble_eq_true rfl) (Nat.le_of_ble_eq_true rfl) d_Pic_makeNew_43 ?_
  refine wi_c (v := nI (a * b)) (if_neg (nI_nlt (a := a * b) (b := 2) hab2 (by omega))) ?_
  refine lv_sipush (v := 16384) hx hb d_Pic_makeNew_46 (by decide) ?_
  refine va_mmin hx hb (hml.trans hl.1.symm) hown (htw _ k402) (htw _ k403) (htw _ k399) (htw _ k404) (Nat.le_of_ble_eq_true rfl) (Nat.le_of_ble_eq_true rfl) (Nat.le_of_ble_eq_true rfl) (Nat.le_of_ble_eq_true rfl) d_Pic_makeNew_49 ?_
  refine wi_c (v := nI (a * b)) (mn_le hab) ?_
  refine lv_istore_n (lv' := [(3, .int (nI (a * b))), (0, .ref q89), (1, .int (nI a)), (2, .int (nI b))]) hx hb d_Pic_makeNew_52 rfl hl (by decide) rfl (fun ls hl => ?_)
  refine lv_aload_n hx hb d_Pic_makeNew_53 rfl (lv_at hl 1 rfl) ?_
  refine lv_iload_n hx hb d_Pic_makeNew_54 rfl (lv_at hl 0 rfl) ?_
  refine wna_i hx hb (htw _ k238) hC hP hD hS (N := a * b) (rfl) (by omega) (Nat.le_of_ble_eq_true rfl) (Nat.le_trans (Nat.add_le_add_left (hab) _) (Nat.le_of_ble_eq_true rfl)) d_Pic_makeNew_55 (fun q336 H hP hD hS => ?_)
  have hP : va_P D classes [(q89, .inr (2, [.int (nI a), .int (nI b), .ref z92, .ref z93, .ref z94, .ref q84, .ref z87])), (z92, .inl (cI, 1, .inl (fun _ => 0))), (z93, .inl (cI, 1, .inl (fun _ => 0))), (z94, .inl (cI, 1, .inl (fun _ => 0))), (q336, .inl (cI, a * b, .inl (fun _ => 0)))] H := hP
  have hD : va_D A [(q89, .inr (2, [.int (nI a), .int (nI b), .ref z92, .ref z93, .ref z94, .ref q84, .ref z87])), (z92, .inl (cI, 1, .inl (fun _ => 0))), (z93, .inl (cI, 1, .inl (fun _ => 0))), (z94, .inl (cI, 1, .inl (fun _ => 0))), (q336, .inl (cI, a * b, .inl (fun _ => 0)))] := hD
  refine W.widen (k := 1) (n := 16384) (by omega) (Nat.add_le_add_left (hab) _) ?_
  refine va_put (D := D) (ci := 2) (v := .ref q336) (ty := .array .int) (C := R_Pic) (T := F_Pic) (N := 7) hx hb htw i_Pic t_Pic t_Pic_ok n_Pic hown hC.1 hP hD hS 0 rfl rfl 2 (by decide) (htw _ k392) (fun _ h9 => h9) rfl (by decide +kernel) rfl rfl (Nat.le_of_ble_eq_true rfl) d_Pic_makeNew_57 (fun H locs hP hD hS => ?_)
  have hP : va_P D classes [(q89, .inr (2, [.int (nI a), .int (nI b), .ref q336, .ref z93, .ref z94, .ref q84, .ref z87])), (z92, .inl (cI, 1, .inl (fun _ => 0))), (z93, .inl (cI, 1, .inl (fun _ => 0))), (z94, .inl (cI, 1, .inl (fun _ => 0))), (q336, .inl (cI, a * b, .inl (fun _ => 0)))] H := hP
  have hD : va_D A [(q89, .inr (2, [.int (nI a), .int (nI b), .ref q336, .ref z93, .ref z94, .ref q84, .ref z87])), (z92, .inl (cI, 1, .inl (fun _ => 0))), (z93, .inl (cI, 1, .inl (fun _ => 0))), (z94, .inl (cI, 1, .inl (fun _ => 0))), (q336, .inl (cI, a * b, .inl (fun _ => 0)))] := hD
  refine lv_aload_n hx hb d_Pic_makeNew_60 rfl (lv_at hl 1 rfl) ?_
  refine lv_iload_n hx hb d_Pic_makeNew_61 rfl (lv_at hl 0 rfl) ?_
  refine wna_i hx hb (htw _ k238) hC hP hD hS (N := a * b) (rfl) (by omega) (Nat.le_of_ble_eq_true rfl) (Nat.le_trans (Nat.add_le_add_left (hab) _) (Nat.le_of_ble_eq_true rfl)) d_Pic_makeNew_62 (fun q337 H hP hD hS => ?_)
  have hP : va_P D classes [(q89, .inr (2, [.int (nI a), .int (nI b), .ref q336, .ref z93, .ref z94, .ref q84, .ref z87])), (z92, .inl (cI, 1, .inl (fun _ => 0))), (z93, .inl (cI, 1, .inl (fun _ => 0))), (z94, .inl (cI, 1, .inl (fun _ => 0))), (q336, .inl (cI, a * b, .inl (fun _ => 0))), (q337, .inl (cI, a * b, .inl (fun _ => 0)))] H := hP
  have hD : va_D A [(q89, .inr (2, [.int (nI a), .int (nI b), .ref q336, .ref z93, .ref z94, .ref q84, .ref z87])), (z92, .inl (cI, 1, .inl (fun _ => 0))), (z93, .inl (cI, 1, .inl (fun _ => 0))), (z94, .inl (cI, 1, .inl (fun _ => 0))), (q336, .inl (cI, a * b, .inl (fun _ => 0))), (q337, .inl (cI, a * b, .inl (fun _ => 0)))] := hD
  refine W.widen (k := 2) (n := 32768) (by omega) (Nat.add_le_add_left (hab) _) ?_
  refine va_put (D := D) (ci := 2) (v := .ref q337) (ty := .array .int) (C := R_Pic) (T := F_Pic) (N := 7) hx hb htw i_Pic t_Pic t_Pic_ok n_Pic hown hC.1 hP hD hS 0 rfl rfl 3 (by decide) (htw _ k393) (fun _ h9 => h9) rfl (by decide +kernel) rfl rfl (Nat.le_of_ble_eq_true rfl) d_Pic_makeNew_64 (fun H locs hP hD hS => ?_)
  have hP : va_P D classes [(q89, .inr (2, [.int (nI a), .int (nI b), .ref q336, .ref q337, .ref z94, .ref q84, .ref z87])), (z92, .inl (cI, 1, .inl (fun _ => 0))), (z93, .inl (cI, 1, .inl (fun _ => 0))), (z94, .inl (cI, 1, .inl (fun _ => 0))), (q336, .inl (cI, a * b, .inl (fun _ => 0))), (q337, .inl (cI, a * b, .inl (fun _ => 0)))] H := hP
  have hD : va_D A [(q89, .inr (2, [.int (nI a), .int (nI b), .ref q336, .ref q337, .ref z94, .ref q84, .ref z87])), (z92, .inl (cI, 1, .inl (fun _ => 0))), (z93, .inl (cI, 1, .inl (fun _ => 0))), (z94, .inl (cI, 1, .inl (fun _ => 0))), (q336, .inl (cI, a * b, .inl (fun _ => 0))), (q337, .inl (cI, a * b, .inl (fun _ => 0)))] := hD
  refine lv_aload_n hx hb d_Pic_makeNew_67 rfl (lv_at hl 1 rfl) ?_
  refine lv_iload_n hx hb d_Pic_makeNew_68 rfl (lv_at hl 0 rfl) ?_
  refine wna_i hx hb (htw _ k238) hC hP hD hS (N := a * b) (rfl) (by omega) (Nat.le_of_ble_eq_true rfl) (Nat.le_trans (Nat.add_le_add_left (hab) _) (Nat.le_of_ble_eq_true rfl)) d_Pic_makeNew_69 (fun q338 H hP hD hS => ?_)
  have hP : va_P D classes [(q89, .inr (2, [.int (nI a), .int (nI b), .ref q336, .ref q337, .ref z94, .ref q84, .ref z87])), (z92, .inl (cI, 1, .inl (fun _ => 0))), (z93, .inl (cI, 1, .inl (fun _ => 0))), (z94, .inl (cI, 1, .inl (fun _ => 0))), (q336, .inl (cI, a * b, .inl (fun _ => 0))), (q337, .inl (cI, a * b, .inl (fun _ => 0))), (q338, .inl (cI, a * b, .inl (fun _ => 0)))] H := hP
  have hD : va_D A [(q89, .inr (2, [.int (nI a), .int (nI b), .ref q336, .ref q337, .ref z94, .ref q84, .ref z87])), (z92, .inl (cI, 1, .inl (fun _ => 0))), (z93, .inl (cI, 1, .inl (fun _ => 0))), (z94, .inl (cI, 1, .inl (fun _ => 0))), (q336, .inl (cI, a * b, .inl (fun _ => 0))), (q337, .inl (cI, a * b, .inl (fun _ => 0))), (q338, .inl (cI, a * b, .inl (fun _ => 0)))] := hD
  refine W.widen (k := 3) (n := 49152) (by omega) (Nat.add_le_add_left (hab) _) ?_
  refine va_put (D := D) (ci := 2) (v := .ref q338) (ty := .array .int) (C := R_Pic) (T := F_Pic) (N := 7) hx hb htw i_Pic t_Pic t_Pic_ok n_Pic hown hC.1 hP hD hS 0 rfl rfl 4 (by decide) (htw _ k394) (fun _ h9 => h9) rfl (by decide +kernel) rfl rfl (Nat.le_of_ble_eq_true rfl) d_Pic_makeNew_71 (fun H locs hP hD hS => ?_)
  have hP : va_P D classes [(q89, .inr (2, [.int (nI a), .int (nI b), .ref q336, .ref q337, .ref q338, .ref q84, .ref z87])), (z92, .inl (cI, 1, .inl (fun _ => 0))), (z93, .inl (cI, 1, .inl (fun _ => 0))), (z94, .inl (cI, 1, .inl (fun _ => 0))), (q336, .inl (cI, a * b, .inl (fun _ => 0))), (q337, .inl (cI, a * b, .inl (fun _ => 0))), (q338, .inl (cI, a * b, .inl (fun _ => 0)))] H := hP
  have hD : va_D A [(q89, .inr (2, [.int (nI a), .int (nI b), .ref q336, .ref q337, .ref q338, .ref q84, .ref z87])), (z92, .inl (cI, 1, .inl (fun _ => 0))), (z93, .inl (cI, 1, .inl (fun _ => 0))), (z94, .inl (cI, 1, .inl (fun _ => 0))), (q336, .inl (cI, a * b, .inl (fun _ => 0))), (q337, .inl (cI, a * b, .inl (fun _ => 0))), (q338, .inl (cI, a * b, .inl (fun _ => 0)))] := hD
  refine W.widen (k := 3) (n := 49152) (Nat.le_of_ble_eq_true rfl) (Nat.le_of_ble_eq_true rfl) ?_
  have hP9 := hP.sub (ws' := []) [] rfl
  have hD9 := hD.sub (ws' := []) [] (by decide) rfl
  exact W.vret hx hb hr (fun t ht hW => ⟨⟨(), rfl, trivial, by rw [ht]; exact hP9, va_K.moved hW.alike hC.1, hD9⟩, hS.F ht⟩) hS.2.2 d_Pic_makeNew_74

theorem d_DM_frame_0 : decode prog_1_method_2_code 0 = .ok (.iload_n 1, 1) := by decide +kernel
theorem d_DM_frame_1 : decode prog_1_method_2_code 1 = .ok (.invokestatic 67, 3) := by decide +kernel
theorem d_DM_frame_4 : decode prog_1_method_2_code 4 = .ok (.ifCond .eq 17, 3) := by decide +kernel
theorem d_DM_frame_7 : decode prog_1_method_2_code 7 = .ok (.iload_n 2, 1) := by decide +kernel
theorem d_DM_frame_8 : decode prog_1_method_2_code 8 = .ok (.invokestatic 67, 3) := by decide +kernel
theorem d_DM_frame_11 : decode prog_1_method_2_code 11 = .ok (.ifCond .eq 10, 3) := by decide +kernel
theorem d_DM_frame_14 : decode prog_1_method_2_code 14 = .ok (.iload_n 3, 1) := by decide +kernel
theorem d_DM_frame_15 : decode prog_1_method_2_code 15 = .ok (.invokestatic 71, 3) := by decide +kernel
theorem d_DM_frame_18 : decode prog_1_method_2_code 18 = .ok (.ifCond .ne 13, 3) := by decide +kernel
theorem d_DM_frame_31 : decode prog_1_method_2_code 31 = .ok (.aload_n 0, 1) := by decide +kernel
theorem d_DM_frame_32 : decode prog_1_method_2_code 32 = .ok (.getfield 25, 3) := by decide +kernel
theorem d_DM_frame_35 : decode prog_1_method_2_code 35 = .ok (.iload_n 1, 1) := by decide +kernel
theorem d_DM_frame_36 : decode prog_1_method_2_code 36 = .ok (.iload_n 2, 1) := by decide +kernel
theorem d_DM_frame_37 : decode prog_1_method_2_code 37 = .ok (.invokevirtual 81, 3) := by decide +kernel
theorem d_DM_frame_40 : decode prog_1_method_2_code 40 = .ok (.iload_n 1, 1) := by decide +kernel
theorem d_DM_frame_41 : decode prog_1_method_2_code 41 = .ok (.iload_n 3, 1) := by decide +kernel
theorem d_DM_frame_42 : decode prog_1_method_2_code 42 = .ok (.iadd, 1) := by decide +kernel
theorem d_DM_frame_43 : decode prog_1_method_2_code 43 = .ok (.iconst 1, 1) := by decide +kernel
theorem d_DM_frame_44 : decode prog_1_method_2_code 44 = .ok (.isub, 1) := by decide +kernel
theorem d_DM_frame_45 : decode prog_1_method_2_code 45 = .ok (.iload_n 3, 1) := by decide +kernel
theorem d_DM_frame_46 : decode prog_1_method_2_code 46 = .ok (.idiv, 1) := by decide +kernel
theorem d_DM_frame_47 : decode prog_1_method_2_code 47 = .ok (.iload_n 2, 1) := by decide +kernel
theorem d_DM_frame_48 : decode prog_1_method_2_code 48 = .ok (.iload_n 3, 1) := by decide +kernel
theorem d_DM_frame_49 : decode prog_1_method_2_code 49 = .ok (.iadd, 1) := by decide +kernel
theorem d_DM_frame_50 : decode prog_1_method_2_code 50 = .ok (.iconst 1, 1) := by decide +kernel
theorem d_DM_frame_51 : decode prog_1_method_2_code 51 = .ok (.isub, 1) := by decide +kernel
theorem d_DM_frame_52 : decode prog_1_method_2_code 52 = .ok (.iload_n 3, 1) := by decide +kernel
theorem d_DM_frame_53 : decode prog_1_method_2_code 53 = .ok (.idiv, 1) := by decide +kernel
theorem d_DM_frame_54 : decode prog_1_method_2_code 54 = .ok (.imul, 1) := by decide +kernel
theorem d_DM_frame_55 : decode prog_1_method_2_code 55 = .ok (.ireturn, 1) := by decide +kernel
theorem gS_DM_67 : GoodIn tw (va_wsS "DrawingMachine" 67 y_DM_isSide ((Cond.code y_DM_isSide prog_1_method_22_code 1 (some .boolean)) :: tw)) := tw_pre (fun _ h => h) (tw_good (fun _ h => h) k278) (List.forall_mem_cons.mpr ⟨k276, List.forall_mem_cons.mpr ⟨k277, List.forall_mem_cons.mpr ⟨k0, fun _ h => absurd h List.not_mem_nil⟩⟩⟩)
theorem gS_DM_71 : GoodIn tw (va_wsS "DrawingMachine" 71 y_DM_isTileSide ((Cond.code y_DM_isTileSide prog_1_method_23_code 1 (some .boolean)) :: tw)) := tw_pre (fun _ h => h) (tw_good (fun _ h => h) k281) (List.forall_mem_cons.mpr ⟨k279, List.forall_mem_cons.mpr ⟨k280, List.forall_mem_cons.mpr ⟨k0, fun _ h => absurd h List.not_mem_nil⟩⟩⟩)
theorem gV_DM_81 : GoodIn tw (wsV "DrawingMachine" 81 "DrawingMachine$Picture" y_Pic_makeNew ((Cond.code y_Pic_makeNew prog_6_method_2_code 4 none) :: tw)) := tw_pre (fun _ h => h) (tw_good (fun _ h => h) k287) (List.forall_mem_cons.mpr ⟨k284, List.forall_mem_cons.mpr ⟨k285, List.forall_mem_cons.mpr ⟨k286, List.forall_mem_cons.mpr ⟨k14, fun _ h => absurd h List.not_mem_nil⟩⟩⟩⟩)
set_option maxHeartbeats 4000000 in
set_option maxRecDepth 100000 in
theorem c_frame_1 (l : Launch) (D : va_G) (cI cL : ClassId) (B sz : Nat) (h0 : Nat) (q83 : Nat) (q84 : Nat) (z87 : Nat) (q89 : Nat) (z92 : Nat) (z93 : Nat) (z94 : Nat) (q95 : Nat) (q101 : Nat) (q107 : Nat) (q116 : Nat) (q120 : Nat) (q124 : Nat) (sd : Int32) (hs : sd = 8 ∨ sd = 16 ∨ sd = 32 ∨ sd = 64) : Met l y_DM_frame ((Cond.code y_DM_frame prog_1_method_2_code 4 (some .int)) :: tw) ({ frames := 60, cells := 0, slots := 0, locals := 6000 }) (va_Pc [.ref h0, .int 1, .int 1, .int sd] (wP D cI cL B sz [(h0, .inr (0, [.ref q83, .ref q84, .ref q89, .ref q95, .ref q101, .ref q107, .ref q116, .ref q120, .ref q124])), (q89, .inr (2, [.int 1, .int 1, .ref z92, .ref z93, .ref z94, .ref q84, .ref z87])), (z92, .inl (cI, 1, .inl (fun _ => 0))), (z93, .inl (cI, 1, .inl (fun _ => 0))), (z94, .inl (cI, 1, .inl (fun _ => 0)))])) (va_Qi (S := Unit) (fun r u => r = ((((1 + sd) - 1) / sd) * (((1 + sd) - 1) / sd))) (fun u => wB D cI cL (va_A [(h0, .inr (0, [.ref q83, .ref q84, .ref q89, .ref q95, .ref q101, .ref q107, .ref q116, .ref q120, .ref q124])), (q89, .inr (2, [.int 1, .int 1, .ref z92, .ref z93, .ref z94, .ref q84, .ref z87])), (z92, .inl (cI, 1, .inl (fun _ => 0))), (z93, .inl (cI, 1, .inl (fun _ => 0))), (z94, .inl (cI, 1, .inl (fun _ => 0)))] sz) ((fun _ : Unit => []) u)) (va_A [(h0, .inr (0, [.ref q83, .ref q84, .ref q89, .ref q95, .ref q101, .ref q107, .ref q116, .ref q120, .ref q124])), (q89, .inr (2, [.int 1, .int 1, .ref z92, .ref z93, .ref z94, .ref q84, .ref z87])), (z92, .inl (cI, 1, .inl (fun _ => 0))), (z93, .inl (cI, 1, .inl (fun _ => 0))), (z94, .inl (cI, 1, .inl (fun _ => 0)))] sz)) 0 0 (va_A [(h0, .inr (0, [.ref q83, .ref q84, .ref q89, .ref q95, .ref q101, .ref q107, .ref q116, .ref q120, .ref q124])), (q89, .inr (2, [.int 1, .int 1, .ref z92, .ref z93, .ref z94, .ref q84, .ref z87])), (z92, .inl (cI, 1, .inl (fun _ => 0))), (z93, .inl (cI, 1, .inl (fun _ => 0))), (z94, .inl (cI, 1, .inl (fun _ => 0)))] sz) := by
  refine Met.ofW (cc := prog_1_method_2_code) (maxL := 4) (ret := (some .int)) (by decide) rfl ?_
  intro p e s m args below meth c s₁ B0 hml hv
  obtain ⟨rfl, hv⟩ := hv
  have hx := B0.exec
  have hb := B0.bytes
  have hr := B0.returns
  have hts := atoms_spec (ws := (Cond.code y_DM_frame prog_1_method_2_code 4 (some .int)) :: tw) B0.pre
  have htw : ∀ w ∈ tw, w.before _ s = true := fun w hw => hts w (List.mem_cons_of_mem _ hw)
  have hown : s.vm.findClass "DrawingMachine" = some m.cls := findClass_of_methodNamed B0.named
  have hlocks := B0.notSynchronized
  obtain ⟨hC, hP, hD, hsz⟩ := wC_init hv
  subst hsz
  generalize hAe : va_A [(h0, .inr (0, [.ref q83, .ref q84, .ref q89, .ref q95, .ref q101, .ref q107, .ref q116, .ref q120, .ref q124])), (q89, .inr (2, [.int 1, .int 1, .ref z92, .ref z93, .ref z94, .ref q84, .ref z87])), (z92, .inl (cI, 1, .inl (fun _ => 0))), (z93, .inl (cI, 1, .inl (fun _ => 0))), (z94, .inl (cI, 1, .inl (fun _ => 0)))] s.heap.size = A at hC hD ⊢
  have hS : va_S A s.heap s.heap [] := va_S.rf
  have hl := lv_entry ([.ref h0, .int 1, .int 1, .int sd]) (n := 4) (Nat.le_of_ble_eq_true rfl)
  rw [lg_entry_eq]
  generalize (lg_sl ([.ref h0, .int 1, .int 1, .int sd]) ++ List.replicate (4 - (lg_sl ([.ref h0, .int 1, .int 1, .int sd])).length) Slot.unset).toArray = ls at hl ⊢
  have hl : lv_has ls 4 [(0, .ref h0), (1, .int 1), (2, .int 1), (3, .int sd)] := hl
  refine lv_iload_n hx hb d_DM_frame_0 rfl (lv_at hl 1 rfl) ?_
  refine wc_i (wr := [(h0, .inr (0, [.ref q83, .ref q84, .ref q89, .ref q95, .ref q101, .ref q107, .ref q116, .ref q120, .ref q124])), (q89, .inr (2, [.int 1, .int 1, .ref z92, .ref z93, .ref z94, .ref q84, .ref z87])), (z92, .inl (cI, 1, .inl (fun _ => 0))), (z93, .inl (cI, 1, .inl (fun _ => 0))), (z94, .inl (cI, 1, .inl (fun _ => 0)))]) hC hP hD hS [] [0, 1, 2, 3, 4] rfl rfl (by decide) (by decide) (va_runS (As := [.int 1]) (rest := []) ⟨hx, hb, hml, hown, htw⟩ (c_isSide_t l D cI cL B _ 1 (by decide) (by decide)) (va_cwS 1 htw gS_DM_67 rfl rfl rfl (by decide +kernel) ⟨Nat.le_of_ble_eq_true rfl, Nat.le_of_ble_eq_true rfl⟩) (wC_pre hC hP hD hS [] (by decide) rfl) rfl rfl hl.1 rfl (lv_room (Nat.le_of_ble_eq_true rfl)) d_DM_frame_1 ⟨Nat.le_of_ble_eq_true rfl, Nat.le_of_ble_eq_true rfl⟩) (fun r341 u339 H locs hw340 hP hD hS => ?_)
  obtain rfl : r341 = 1 := hw340
  have hP : va_P D classes [(h0, .inr (0, [.ref q83, .ref q84, .ref q89, .ref q95, .ref q101, .ref q107, .ref q116, .ref q120, .ref q124])), (q89, .inr (2, [.int 1, .int 1, .ref z92, .ref z93, .ref z94, .ref q84, .ref z87])), (z92, .inl (cI, 1, .inl (fun _ => 0))), (z93, .inl (cI, 1, .inl (fun _ => 0))), (z94, .inl (cI, 1, .inl (fun _ => 0)))] H := hP
  have hD : va_D A [(h0, .inr (0, [.ref q83, .ref q84, .ref q89, .ref q95, .ref q101, .ref q107, .ref q116, .ref q120, .ref q124])), (q89, .inr (2, [.int 1, .int 1, .ref z92, .ref z93, .ref z94, .ref q84, .ref z87])), (z92, .inl (cI, 1, .inl (fun _ => 0))), (z93, .inl (cI, 1, .inl (fun _ => 0))), (z94, .inl (cI, 1, .inl (fun _ => 0)))] := hD
  refine W.widen (k := 0) (n := 0) (by omega) (by omega) ?_
  refine lv_if_eq (tgt := 21) hx hb d_DM_frame_4 (by decide) (fun c_342 => absurd c_342 (by decide)) (fun c_342 => ?_)
  refine lv_iload_n hx hb d_DM_frame_7 rfl (lv_at hl 2 rfl) ?_
  refine wc_i (wr := [(h0, .inr (0, [.ref q83, .ref q84, .ref q89, .ref q95, .ref q101, .ref q107, .ref q116, .ref q120, .ref q124])), (q89, .inr (2, [.int 1, .int 1, .ref z92, .ref z93, .ref z94, .ref q84, .ref z87])), (z92, .inl (cI, 1, .inl (fun _ => 0))), (z93, .inl (cI, 1, .inl (fun _ => 0))), (z94, .inl (cI, 1, .inl (fun _ => 0)))]) hC hP hD hS [] [0, 1, 2, 3, 4] rfl rfl (by decide) (by decide) (va_runS (As := [.int 1]) (rest := []) ⟨hx, hb, hml, hown, htw⟩ (c_isSide_t l D cI cL B _ 1 (by decide) (by decide)) (va_cwS 1 htw gS_DM_67 rfl rfl rfl (by decide +kernel) ⟨Nat.le_of_ble_eq_true rfl, Nat.le_of_ble_eq_true rfl⟩) (wC_pre hC hP hD hS [] (by decide) rfl) rfl rfl hl.1 rfl (lv_room (Nat.le_of_ble_eq_true rfl)) d_DM_frame_8 ⟨Nat.le_of_ble_eq_true rfl, Nat.le_of_ble_eq_true rfl⟩) (fun r345 u343 H locs hw344 hP hD hS => ?_)
  obtain rfl : r345 = 1 := hw344
  have hP : va_P D classes [(h0, .inr (0, [.ref q83, .ref q84, .ref q89, .ref q95, .ref q101, .ref q107, .ref q116, .ref q120, .ref q124])), (q89, .inr (2, [.int 1, .int 1, .ref z92, .ref z93, .ref z94, .ref q84, .ref z87])), (z92, .inl (cI, 1, .inl (fun _ => 0))), (z93, .inl (cI, 1, .inl (fun _ => 0))), (z94, .inl (cI, 1, .inl (fun _ => 0)))] H := hP
  have hD : va_D A [(h0, .inr (0, [.ref q83, .ref q84, .ref q89, .ref q95, .ref q101, .ref q107, .ref q116, .ref q120, .ref q124])), (q89, .inr (2, [.int 1, .int 1, .ref z92, .ref z93, .ref z94, .ref q84, .ref z87])), (z92, .inl (cI, 1, .inl (fun _ => 0))), (z93, .inl (cI, 1, .inl (fun _ => 0))), (z94, .inl (cI, 1, .inl (fun _ => 0)))] := hD
  refine W.widen (k := 0) (n := 0) (by omega) (by omega) ?_
  refine lv_if_eq (tgt := 21) hx hb d_DM_frame_11 (by decide) (fun c_346 => absurd c_346 (by decide)) (fun c_346 => ?_)
  refine lv_iload_n hx hb d_DM_frame_14 rfl (lv_at hl 3 rfl) ?_
  refine wc_i (wr := [(h0, .inr (0, [.ref q83, .ref q84, .ref q89, .ref q95, .ref q101, .ref q107, .ref q116, .ref q120, .ref q124])), (q89, .inr (2, [.int 1, .int 1, .ref z92, .ref z93, .ref z94, .ref q84, .ref z87])), (z92, .inl (cI, 1, .inl (fun _ => 0))), (z93, .inl (cI, 1, .inl (fun _ => 0))), (z94, .inl (cI, 1, .inl (fun _ => 0)))]) hC hP hD hS [] [0, 1, 2, 3, 4] rfl rfl (by decide) (by decide) (va_runS (As := [.int sd]) (rest := []) ⟨hx, hb, hml, hown, htw⟩ (c_isTile_t l D cI cL B _ sd (hs)) (va_cwS 1 htw gS_DM_71 rfl rfl rfl (by decide +kernel) ⟨Nat.le_of_ble_eq_true rfl, Nat.le_of_ble_eq_true rfl⟩) (wC_pre hC hP hD hS [] (by decide) rfl) rfl rfl hl.1 rfl (lv_room (Nat.le_of_ble_eq_true rfl)) d_DM_frame_15 ⟨Nat.le_of_ble_eq_true rfl, Nat.le_of_ble_eq_true rfl⟩) (fun r349 u347 H locs hw348 hP hD hS => ?_)
  obtain rfl : r349 = 1 := hw348
  have hP : va_P D classes [(h0, .inr (0, [.ref q83, .ref q84, .ref q89, .ref q95, .ref q101, .ref q107, .ref q116, .ref q120, .ref q124])), (q89, .inr (2, [.int 1, .int 1, .ref z92, .ref z93, .ref z94, .ref q84, .ref z87])), (z92, .inl (cI, 1, .inl (fun _ => 0))), (z93, .inl (cI, 1, .inl (fun _ => 0))), (z94, .inl (cI, 1, .inl (fun _ => 0)))] H := hP
  have hD : va_D A [(h0, .inr (0, [.ref q83, .ref q84, .ref q89, .ref q95, .ref q101, .ref q107, .ref q116, .ref q120, .ref q124])), (q89, .inr (2, [.int 1, .int 1, .ref z92, .ref z93, .ref z94, .ref q84, .ref z87])), (z92, .inl (cI, 1, .inl (fun _ => 0))), (z93, .inl (cI, 1, .inl (fun _ => 0))), (z94, .inl (cI, 1, .inl (fun _ => 0)))] := hD
  refine W.widen (k := 0) (n := 0) (by omega) (by omega) ?_
  refine lv_if_ne (tgt := 31) hx hb d_DM_frame_18 (by decide) (fun c_350 => ?_) (fun c_350 => absurd c_350 (by decide))
  refine lv_aload_n hx hb d_DM_frame_31 rfl (lv_at hl 0 rfl) ?_
  refine va_get (D := D) (ci := 0) (v := .ref q89) (C := R_DM) (T := F_DM) (N := 9) hx hb htw i_DM hown hC.1 hP 0 rfl rfl 2 (by decide) (htw _ k254) (fun _ h9 => h9) rfl d_DM_frame_32 ?_
  refine lv_iload_n hx hb d_DM_frame_35 rfl (lv_at hl 1 rfl) ?_
  refine lv_iload_n hx hb d_DM_frame_36 rfl (lv_at hl 2 rfl) ?_
  refine wc_v (wr := [(h0, .inr (0, [.ref q83, .ref q84, .ref q89, .ref q95, .ref q101, .ref q107, .ref q116, .ref q120, .ref q124]))]) hC hP hD hS [1, 2, 3, 4] [0] rfl rfl (by decide) (by decide) (va_runV (As := [.int 1, .int 1]) (rest := []) ⟨hx, hb, hml, hown, htw⟩ (c_makeNew_1 l D cI cL B _ q84 z87 q89 z92 z93 z94) (cwV 2 htw gV_DM_81 rfl rfl rfl (by decide +kernel) ⟨Nat.le_of_ble_eq_true rfl, Nat.le_of_ble_eq_true rfl⟩) (wC_preV (As := [.int 1, .int 1]) hC hP hD hS [1, 2, 3, 4] (by decide) rfl (q0 := 1) rfl rfl) rfl rfl hl.1 rfl (lv_room (Nat.le_of_ble_eq_true rfl)) d_DM_frame_37 ⟨Nat.le_of_ble_eq_true rfl, Nat.le_of_ble_eq_true rfl⟩) (fun u351 H locs hw352 hP hD hS => ?_)
  have hP : va_P D classes [(h0, .inr (0, [.ref q83, .ref q84, .ref q89, .ref q95, .ref q101, .ref q107, .ref q116, .ref q120, .ref q124]))] H := hP
  have hD : va_D A [(h0, .inr (0, [.ref q83, .ref q84, .ref q89, .ref q95, .ref q101, .ref q107, .ref q116, .ref q120, .ref q124]))] := hD
  refine W.widen (k := 0) (n := 0) (by omega) (by omega) ?_
  refine lv_iload_n hx hb d_DM_frame_40 rfl (lv_at hl 1 rfl) ?_
  refine lv_iload_n hx hb d_DM_frame_41 rfl (lv_at hl 3 rfl) ?_
  refine lv_iadd hx hb d_DM_frame_42 ?_
  refine lv_iconst (v := 1) hx hb d_DM_frame_43 (by decide) ?_
  refine lv_isub hx hb d_DM_frame_44 ?_
  refine lv_iload_n hx hb d_DM_frame_45 rfl (lv_at hl 3 rfl) ?_
  refine lv_idiv hx hb d_DM_frame_46 (sd_nz hs) ?_
  refine lv_iload_n hx hb d_DM_frame_47 rfl (lv_at hl 2 rfl) ?_
  refine lv_iload_n hx hb d_DM_frame_48 rfl (lv_at hl 3 rfl) ?_
  refine lv_iadd hx hb d_DM_frame_49 ?_
  refine lv_iconst (v := 1) hx hb d_DM_frame_50 (by decide) ?_
  refine lv_isub hx hb d_DM_frame_51 ?_
  refine lv_iload_n hx hb d_DM_frame_52 rfl (lv_at hl 3 rfl) ?_
  refine lv_idiv hx hb d_DM_frame_53 (sd_nz hs) ?_
  refine lv_imul hx hb d_DM_frame_54 ?_
  refine W.widen (k := 0) (n := 0) (Nat.le_of_ble_eq_true rfl) (Nat.le_of_ble_eq_true rfl) ?_
  have hP9 := hP.sub (ws' := []) [] rfl
  have hD9 := hD.sub (ws' := []) [] (by decide) rfl
  exact W.iret (v := ((((1 + sd) - 1) / sd) * (((1 + sd) - 1) / sd))) hx hb hr (fun t ht hW => ⟨⟨((((1 + sd) - 1) / sd) * (((1 + sd) - 1) / sd)), (), rfl, rfl, by rw [ht]; exact hP9, va_K.moved hW.alike hC.1, hD9⟩, hS.F ht⟩) hS.2.2 d_DM_frame_55

set_option maxHeartbeats 4000000 in
set_option maxRecDepth 100000 in
theorem c_frame_n (l : Launch) (D : va_G) (cI cL : ClassId) (B sz : Nat) (h0 : Nat) (q83 : Nat) (q84 : Nat) (z87 : Nat) (q89 : Nat) (z92 : Nat) (z93 : Nat) (z94 : Nat) (q95 : Nat) (q101 : Nat) (q107 : Nat) (q116 : Nat) (q120 : Nat) (q124 : Nat) (a : Nat) (b : Nat) (sd : Int32) (ha1 : 1 ≤ a) (ha2 : a ≤ 128) (hb1 : 1 ≤ b) (hb2 : b ≤ 128) (hab2 : 2 ≤ a * b) (hab : a * b ≤ 16384) (hs : sd = 8 ∨ sd = 16 ∨ sd = 32 ∨ sd = 64) : Met l y_DM_frame ((Cond.code y_DM_frame prog_1_method_2_code 4 (some .int)) :: tw) ({ frames := 60, cells := 3, slots := 49152, locals := 6000 }) (va_Pc [.ref h0, .int (nI a), .int (nI b), .int sd] (wP D cI cL B sz [(h0, .inr (0, [.ref q83, .ref q84, .ref q89, .ref q95, .ref q101, .ref q107, .ref q116, .ref q120, .ref q124])), (q89, .inr (2, [.int 1, .int 1, .ref z92, .ref z93, .ref z94, .ref q84, .ref z87])), (z92, .inl (cI, 1, .inl (fun _ => 0))), (z93, .inl (cI, 1, .inl (fun _ => 0))), (z94, .inl (cI, 1, .inl (fun _ => 0)))])) (va_Qi (S := Unit) (fun r u => r = (((((nI a) + sd) - 1) / sd) * ((((nI b) + sd) - 1) / sd))) (fun u => wB D cI cL (va_A [(h0, .inr (0, [.ref q83, .ref q84, .ref q89, .ref q95, .ref q101, .ref q107, .ref q116, .ref q120, .ref q124])), (q89, .inr (2, [.int 1, .int 1, .ref z92, .ref z93, .ref z94, .ref q84, .ref z87])), (z92, .inl (cI, 1, .inl (fun _ => 0))), (z93, .inl (cI, 1, .inl (fun _ => 0))), (z94, .inl (cI, 1, .inl (fun _ => 0)))] sz) ((fun _ : Unit => []) u)) (va_A [(h0, .inr (0, [.ref q83, .ref q84, .ref q89, .ref q95, .ref q101, .ref q107, .ref q116, .ref q120, .ref q124])), (q89, .inr (2, [.int 1, .int 1, .ref z92, .ref z93, .ref z94, .ref q84, .ref z87])), (z92, .inl (cI, 1, .inl (fun _ => 0))), (z93, .inl (cI, 1, .inl (fun _ => 0))), (z94, .inl (cI, 1, .inl (fun _ => 0)))] sz)) 3 49152 (va_A [(h0, .inr (0, [.ref q83, .ref q84, .ref q89, .ref q95, .ref q101, .ref q107, .ref q116, .ref q120, .ref q124])), (q89, .inr (2, [.int 1, .int 1, .ref z92, .ref z93, .ref z94, .ref q84, .ref z87])), (z92, .inl (cI, 1, .inl (fun _ => 0))), (z93, .inl (cI, 1, .inl (fun _ => 0))), (z94, .inl (cI, 1, .inl (fun _ => 0)))] sz) := by
  refine Met.ofW (cc := prog_1_method_2_code) (maxL := 4) (ret := (some .int)) (by decide) rfl ?_
  intro p e s m args below meth c s₁ B0 hml hv
  obtain ⟨rfl, hv⟩ := hv
  have hx := B0.exec
  have hb := B0.bytes
  have hr := B0.returns
  have hts := atoms_spec (ws := (Cond.code y_DM_frame prog_1_method_2_code 4 (some .int)) :: tw) B0.pre
  have htw : ∀ w ∈ tw, w.before _ s = true := fun w hw => hts w (List.mem_cons_of_mem _ hw)
  have hown : s.vm.findClass "DrawingMachine" = some m.cls := findClass_of_methodNamed B0.named
  have hlocks := B0.notSynchronized
  obtain ⟨hC, hP, hD, hsz⟩ := wC_init hv
  subst hsz
  generalize hAe : va_A [(h0, .inr (0, [.ref q83, .ref q84, .ref q89, .ref q95, .ref q101, .ref q107, .ref q116, .ref q120, .ref q124])), (q89, .inr (2, [.int 1, .int 1, .ref z92, .ref z93, .ref z94, .ref q84, .ref z87])), (z92, .inl (cI, 1, .inl (fun _ => 0))), (z93, .inl (cI, 1, .inl (fun _ => 0))), (z94, .inl (cI, 1, .inl (fun _ => 0)))] s.heap.size = A at hC hD ⊢
  have hS : va_S A s.heap s.heap [] := va_S.rf
  have hl := lv_entry ([.ref h0, .int (nI a), .int (nI b), .int sd]) (n := 4) (Nat.le_of_ble_eq_true rfl)
  rw [lg_entry_eq]
  generalize (lg_sl ([.ref h0, .int (nI a), .int (nI b), .int sd]) ++ List.replicate (4 - (lg_sl ([.ref h0, .int (nI a), .int (nI b), .int sd])).length) Slot.unset).toArray = ls at hl ⊢
  have hl : lv_has ls 4 [(0, .ref h0), (1, .int (nI a)), (2, .int (nI b)), (3, .int sd)] := hl
  refine lv_iload_n hx hb d_DM_frame_0 rfl (lv_at hl 1 rfl) ?_
  refine wc_i (wr := [(h0, .inr (0, [.ref q83, .ref q84, .ref q89, .ref q95, .ref q101, .ref q107, .ref q116, .ref q120, .ref q124])), (q89, .inr (2, [.int 1, .int 1, .ref z92, .ref z93, .ref z94, .ref q84, .ref z87])), (z92, .inl (cI, 1, .inl (fun _ => 0))), (z93, .inl (cI, 1, .inl (fun _ => 0))), (z94, .inl (cI, 1, .inl (fun _ => 0)))]) hC hP hD hS [] [0, 1, 2, 3, 4] rfl rfl (by decide) (by decide) (va_runS (As := [.int (nI a)]) (rest := []) ⟨hx, hb, hml, hown, htw⟩ (c_isSide_t l D cI cL B _ (nI a) (nI_nlt (a := a) (b := 1) (by omega) (by omega)) (nI_nlt (a := 128) (b := a) (by omega) (by omega))) (va_cwS 1 htw gS_DM_67 rfl rfl rfl (by decide +kernel) ⟨Nat.le_of_ble_eq_true rfl, Nat.le_of_ble_eq_true rfl⟩) (wC_pre hC hP hD hS [] (by decide) rfl) rfl rfl hl.1 rfl (lv_room (Nat.le_of_ble_eq_true rfl)) d_DM_frame_1 ⟨Nat.le_of_ble_eq_true rfl, Nat.le_of_ble_eq_true rfl⟩) (fun r355 u353 H locs hw354 hP hD hS => ?_)
  obtain rfl : r355 = 1 := hw354
  have hP : va_P D classes [(h0, .inr (0, [.ref q83, .ref q84, .ref q89, .ref q95, .ref q101, .ref q107, .ref q116, .ref q120, .ref q124])), (q89, .inr (2, [.int 1, .int 1, .ref z92, .ref z93, .ref z94, .ref q84, .ref z87])), (z92, .inl (cI, 1, .inl (fun _ => 0))), (z93, .inl (cI, 1, .inl (fun _ => 0))), (z94, .inl (cI, 1, .inl (fun _ => 0)))] H := hP
  have hD : va_D A [(h0, .inr (0, [.ref q83, .ref q84, .ref q89, .ref q95, .ref q101, .ref q107, .ref q116, .ref q120, .ref q124])), (q89, .inr (2, [.int 1, .int 1, .ref z92, .ref z93, .ref z94, .ref q84, .ref z87])), (z92, .inl (cI, 1, .inl (fun _ => 0))), (z93, .inl (cI, 1, .inl (fun _ => 0))), (z94, .inl (cI, 1, .inl (fun _ => 0)))] := hD
  refine W.widen (k := 0) (n := 0) (by omega) (by omega) ?_
  refine lv_if_eq (tgt := 21) hx hb d_DM_frame_4 (by decide) (fun c_356 => absurd c_356 (by decide)) (fun c_356 => ?_)
  refine lv_iload_n hx hb d_DM_frame_7 rfl (lv_at hl 2 rfl) ?_
  refine wc_i (wr := [(h0, .inr (0, [.ref q83, .ref q84, .ref q89, .ref q95, .ref q101, .ref q107, .ref q116, .ref q120, .ref q124])), (q89, .inr (2, [.int 1, .int 1, .ref z92, .ref z93, .ref z94, .ref q84, .ref z87])), (z92, .inl (cI, 1, .inl (fun _ => 0))), (z93, .inl (cI, 1, .inl (fun _ => 0))), (z94, .inl (cI, 1, .inl (fun _ => 0)))]) hC hP hD hS [] [0, 1, 2, 3, 4] rfl rfl (by decide) (by decide) (va_runS (As := [.int (nI b)]) (rest := []) ⟨hx, hb, hml, hown, htw⟩ (c_isSide_t l D cI cL B _ (nI b) (nI_nlt (a := b) (b := 1) (by omega) (by omega)) (nI_nlt (a := 128) (b := b) (by omega) (by omega))) (va_cwS 1 htw gS_DM_67 rfl rfl rfl (by decide +kernel) ⟨Nat.le_of_ble_eq_true rfl, Nat.le_of_ble_eq_true rfl⟩) (wC_pre hC hP hD hS [] (by decide) rfl) rfl rfl hl.1 rfl (lv_room (Nat.le_of_ble_eq_true rfl)) d_DM_frame_8 ⟨Nat.le_of_ble_eq_true rfl, Nat.le_of_ble_eq_true rfl⟩) (fun r359 u357 H locs hw358 hP hD hS => ?_)
  obtain rfl : r359 = 1 := hw358
  have hP : va_P D classes [(h0, .inr (0, [.ref q83, .ref q84, .ref q89, .ref q95, .ref q101, .ref q107, .ref q116, .ref q120, .ref q124])), (q89, .inr (2, [.int 1, .int 1, .ref z92, .ref z93, .ref z94, .ref q84, .ref z87])), (z92, .inl (cI, 1, .inl (fun _ => 0))), (z93, .inl (cI, 1, .inl (fun _ => 0))), (z94, .inl (cI, 1, .inl (fun _ => 0)))] H := hP
  have hD : va_D A [(h0, .inr (0, [.ref q83, .ref q84, .ref q89, .ref q95, .ref q101, .ref q107, .ref q116, .ref q120, .ref q124])), (q89, .inr (2, [.int 1, .int 1, .ref z92, .ref z93, .ref z94, .ref q84, .ref z87])), (z92, .inl (cI, 1, .inl (fun _ => 0))), (z93, .inl (cI, 1, .inl (fun _ => 0))), (z94, .inl (cI, 1, .inl (fun _ => 0)))] := hD
  refine W.widen (k := 0) (n := 0) (by omega) (by omega) ?_
  refine lv_if_eq (tgt := 21) hx hb d_DM_frame_11 (by decide) (fun c_360 => absurd c_360 (by decide)) (fun c_360 => ?_)
  refine lv_iload_n hx hb d_DM_frame_14 rfl (lv_at hl 3 rfl) ?_
  refine wc_i (wr := [(h0, .inr (0, [.ref q83, .ref q84, .ref q89, .ref q95, .ref q101, .ref q107, .ref q116, .ref q120, .ref q124])), (q89, .inr (2, [.int 1, .int 1, .ref z92, .ref z93, .ref z94, .ref q84, .ref z87])), (z92, .inl (cI, 1, .inl (fun _ => 0))), (z93, .inl (cI, 1, .inl (fun _ => 0))), (z94, .inl (cI, 1, .inl (fun _ => 0)))]) hC hP hD hS [] [0, 1, 2, 3, 4] rfl rfl (by decide) (by decide) (va_runS (As := [.int sd]) (rest := []) ⟨hx, hb, hml, hown, htw⟩ (c_isTile_t l D cI cL B _ sd (hs)) (va_cwS 1 htw gS_DM_71 rfl rfl rfl (by decide +kernel) ⟨Nat.le_of_ble_eq_true rfl, Nat.le_of_ble_eq_true rfl⟩) (wC_pre hC hP hD hS [] (by decide) rfl) rfl rfl hl.1 rfl (lv_room (Nat.le_of_ble_eq_true rfl)) d_DM_frame_15 ⟨Nat.le_of_ble_eq_true rfl, Nat.le_of_ble_eq_true rfl⟩) (fun r363 u361 H locs hw362 hP hD hS => ?_)
  obtain rfl : r363 = 1 := hw362
  have hP : va_P D classes [(h0, .inr (0, [.ref q83, .ref q84, .ref q89, .ref q95, .ref q101, .ref q107, .ref q116, .ref q120, .ref q124])), (q89, .inr (2, [.int 1, .int 1, .ref z92, .ref z93, .ref z94, .ref q84, .ref z87])), (z92, .inl (cI, 1, .inl (fun _ => 0))), (z93, .inl (cI, 1, .inl (fun _ => 0))), (z94, .inl (cI, 1, .inl (fun _ => 0)))] H := hP
  have hD : va_D A [(h0, .inr (0, [.ref q83, .ref q84, .ref q89, .ref q95, .ref q101, .ref q107, .ref q116, .ref q120, .ref q124])), (q89, .inr (2, [.int 1, .int 1, .ref z92, .ref z93, .ref z94, .ref q84, .ref z87])), (z92, .inl (cI, 1, .inl (fun _ => 0))), (z93, .inl (cI, 1, .inl (fun _ => 0))), (z94, .inl (cI, 1, .inl (fun _ => 0)))] := hD
  refine W.widen (k := 0) (n := 0) (by omega) (by omega) ?_
  refine lv_if_ne (tgt := 31) hx hb d_DM_frame_18 (by decide) (fun c_364 => ?_) (fun c_364 => absurd c_364 (by decide))
  refine lv_aload_n hx hb d_DM_frame_31 rfl (lv_at hl 0 rfl) ?_
  refine va_get (D := D) (ci := 0) (v := .ref q89) (C := R_DM) (T := F_DM) (N := 9) hx hb htw i_DM hown hC.1 hP 0 rfl rfl 2 (by decide) (htw _ k254) (fun _ h9 => h9) rfl d_DM_frame_32 ?_
  refine lv_iload_n hx hb d_DM_frame_35 rfl (lv_at hl 1 rfl) ?_
  refine lv_iload_n hx hb d_DM_frame_36 rfl (lv_at hl 2 rfl) ?_
  refine wc_v (wr := [(h0, .inr (0, [.ref q83, .ref q84, .ref q89, .ref q95, .ref q101, .ref q107, .ref q116, .ref q120, .ref q124]))]) hC hP hD hS [1, 2, 3, 4] [0] rfl rfl (by decide) (by decide) (va_runV (As := [.int (nI a), .int (nI b)]) (rest := []) ⟨hx, hb, hml, hown, htw⟩ (c_makeNew_n l D cI cL B _ q84 z87 q89 z92 z93 z94 a b (hab2) (hab)) (cwV 2 htw gV_DM_81 rfl rfl rfl (by decide +kernel) ⟨Nat.le_of_ble_eq_true rfl, Nat.le_of_ble_eq_true rfl⟩) (wC_preV (As := [.int (nI a), .int (nI b)]) hC hP hD hS [1, 2, 3, 4] (by decide) rfl (q0 := 1) rfl rfl) rfl rfl hl.1 rfl (lv_room (Nat.le_of_ble_eq_true rfl)) d_DM_frame_37 ⟨Nat.le_of_ble_eq_true rfl, Nat.le_of_ble_eq_true rfl⟩) (fun u365 H locs hw366 hP hD hS => ?_)
  have hP : va_P D classes [(h0, .inr (0, [.ref q83, .ref q84, .ref q89, .ref q95, .ref q101, .ref q107, .ref q116, .ref q120, .ref q124]))] H := hP
  have hD : va_D A [(h0, .inr (0, [.ref q83, .ref q84, .ref q89, .ref q95, .ref q101, .ref q107, .ref q116, .ref q120, .ref q124]))] := hD
  refine W.widen (k := 3) (n := 49152) (by omega) (by omega) ?_
  refine lv_iload_n hx hb d_DM_frame_40 rfl (lv_at hl 1 rfl) ?_
  refine lv_iload_n hx hb d_DM_frame_41 rfl (lv_at hl 3 rfl) ?_
  refine lv_iadd hx hb d_DM_frame_42 ?_
  refine lv_iconst (v := 1) hx hb d_DM_frame_43 (by decide) ?_
  refine lv_isub hx hb d_DM_frame_44 ?_
  refine lv_iload_n hx hb d_DM_frame_45 rfl (lv_at hl 3 rfl) ?_
  refine lv_idiv hx hb d_DM_frame_46 (sd_nz hs) ?_
  refine lv_iload_n hx hb d_DM_frame_47 rfl (lv_at hl 2 rfl) ?_
  refine lv_iload_n hx hb d_DM_frame_48 rfl (lv_at hl 3 rfl) ?_
  refine lv_iadd hx hb d_DM_frame_49 ?_
  refine lv_iconst (v := 1) hx hb d_DM_frame_50 (by decide) ?_
  refine lv_isub hx hb d_DM_frame_51 ?_
  refine lv_iload_n hx hb d_DM_frame_52 rfl (lv_at hl 3 rfl) ?_
  refine lv_idiv hx hb d_DM_frame_53 (sd_nz hs) ?_
  refine lv_imul hx hb d_DM_frame_54 ?_
  refine W.widen (k := 3) (n := 49152) (Nat.le_of_ble_eq_true rfl) (Nat.le_of_ble_eq_true rfl) ?_
  have hP9 := hP.sub (ws' := []) [] rfl
  have hD9 := hD.sub (ws' := []) [] (by decide) rfl
  exact W.iret (v := (((((nI a) + sd) - 1) / sd) * ((((nI b) + sd) - 1) / sd))) hx hb hr (fun t ht hW => ⟨⟨(((((nI a) + sd) - 1) / sd) * ((((nI b) + sd) - 1) / sd)), (), rfl, rfl, by rw [ht]; exact hP9, va_K.moved hW.alike hC.1, hD9⟩, hS.F ht⟩) hS.2.2 d_DM_frame_55

theorem d_DM_frame_21 : decode prog_1_method_2_code 21 = .ok (.new 74, 3) := by decide +kernel
theorem d_DM_frame_24 : decode prog_1_method_2_code 24 = .ok (.dup, 1) := by decide +kernel
theorem d_DM_frame_25 : decode prog_1_method_2_code 25 = .ok (.ldc 76, 2) := by decide +kernel
theorem d_DM_frame_27 : decode prog_1_method_2_code 27 = .ok (.invokespecial 78, 3) := by decide +kernel
theorem d_DM_frame_30 : decode prog_1_method_2_code 30 = .ok (.athrow, 1) := by decide +kernel
set_option maxHeartbeats 4000000 in
set_option maxRecDepth 100000 in
theorem c_frame_b1 (l : Launch) (hfl : l.stackTraces = false) (D : va_G) (cI cL : ClassId) (B sz : Nat) (h0 : Nat) (w : Int32) (h : Int32) (sd : Int32) (hbd : w < 1 ∨ 128 < w) : tq_Met l y_DM_frame ((Cond.code y_DM_frame prog_1_method_2_code 4 (some .int)) :: tw) ({ frames := 60, cells := 1, slots := 6, locals := 6000 }) (va_Pc [.ref h0, .int w, .int h, .int sd] (wP D cI cL B sz [])) (tq_Q "java/lang/IllegalArgumentException") 1 6 := by
  refine tq_ofW (cc := prog_1_method_2_code) (maxL := 4) (ret := (some .int)) (by decide) rfl ?_
  intro p e s m args below meth c s₁ B0 hml hv
  obtain ⟨rfl, hv⟩ := hv
  have hx := B0.exec
  have hb := B0.bytes
  have hr := B0.returns
  have hts := atoms_spec (ws := (Cond.code y_DM_frame prog_1_method_2_code 4 (some .int)) :: tw) B0.pre
  have htw : ∀ w ∈ tw, w.before _ s = true := fun w hw => hts w (List.mem_cons_of_mem _ hw)
  have hown : s.vm.findClass "DrawingMachine" = some m.cls := findClass_of_methodNamed B0.named
  have hlocks := B0.notSynchronized
  obtain ⟨hC, hP, hD, hsz⟩ := wC_init hv
  subst hsz
  generalize hAe : va_A [] s.heap.size = A at hC hD
  have hS : va_S A s.heap s.heap [] := va_S.rf
  have hl := lv_entry ([.ref h0, .int w, .int h, .int sd]) (n := 4) (Nat.le_of_ble_eq_true rfl)
  rw [lg_entry_eq]
  generalize (lg_sl ([.ref h0, .int w, .int h, .int sd]) ++ List.replicate (4 - (lg_sl ([.ref h0, .int w, .int h, .int sd])).length) Slot.unset).toArray = ls at hl ⊢
  have hl : lv_has ls 4 [(0, .ref h0), (1, .int w), (2, .int h), (3, .int sd)] := hl
  have htr : e.platform.stackTraces = false := by rw [(Stand.of_body B0).admits.platform]; exact hfl
  have hout : c.exceptionTable.isEmpty = true := BodyLoose.noHandlers B0 (hts _ List.mem_cons_self)
  have hA0 : ∀ q, A q → s.heap.size ≤ q := by
    intro q h
    rw [← hAe] at h
    rcases h with ⟨k, e, h⟩ | h
    · simp at h
    · exact h
  refine lv_iload_n hx hb d_DM_frame_0 rfl (lv_at hl 1 rfl) ?_
  refine wc_i (wr := []) hC hP hD hS [] [] rfl rfl (by decide) (by decide) (va_runS (As := [.int w]) (rest := []) ⟨hx, hb, hml, hown, htw⟩ (c_isSide_f l D cI cL B _ w (hbd)) (va_cwS 1 htw gS_DM_67 rfl rfl rfl (by decide +kernel) ⟨Nat.le_of_ble_eq_true rfl, Nat.le_of_ble_eq_true rfl⟩) (wC_pre hC hP hD hS [] (by decide) rfl) rfl rfl hl.1 rfl (lv_room (Nat.le_of_ble_eq_true rfl)) d_DM_frame_1 ⟨Nat.le_of_ble_eq_true rfl, Nat.le_of_ble_eq_true rfl⟩) (fun r369 u367 H locs hw368 hP hD hS => ?_)
  obtain rfl : r369 = 0 := hw368
  have hP : va_P D classes [] H := hP
  have hD : va_D A [] := hD
  refine W.widen (k := 0) (n := 0) (by omega) (by omega) ?_
  refine lv_if_eq (tgt := 21) hx hb d_DM_frame_4 (by decide) (fun c_370 => ?_) (fun c_370 => absurd c_370 (by decide))
  exact tq_throwH hx hb htr hown (by decide) (by decide) (own_use htw hC own_IA) (htw _ k282) (htw _ k885) (hC.2.2.1.2.2.2.1 (76, "no such frame") (by decide)) (hml.trans hl.1.symm) hout hlocks d_DM_frame_21 d_DM_frame_24 d_DM_frame_25 d_DM_frame_27 d_DM_frame_30 (Nat.le_of_ble_eq_true rfl) (Nat.le_of_ble_eq_true rfl) (Nat.le_of_ble_eq_true rfl) (Nat.le_of_ble_eq_true rfl) hS.1 (fun q hq => hA0 _ (hS.2.2 q hq))

set_option maxHeartbeats 4000000 in
set_option maxRecDepth 100000 in
theorem c_frame_b2 (l : Launch) (hfl : l.stackTraces = false) (D : va_G) (cI cL : ClassId) (B sz : Nat) (h0 : Nat) (w : Int32) (h : Int32) (sd : Int32) (h1 : ¬ w < 1) (h2 : ¬ 128 < w) (hbd : h < 1 ∨ 128 < h) : tq_Met l y_DM_frame ((Cond.code y_DM_frame prog_1_method_2_code 4 (some .int)) :: tw) ({ frames := 60, cells := 1, slots := 6, locals := 6000 }) (va_Pc [.ref h0, .int w, .int h, .int sd] (wP D cI cL B sz [])) (tq_Q "java/lang/IllegalArgumentException") 1 6 := by
  refine tq_ofW (cc := prog_1_method_2_code) (maxL := 4) (ret := (some .int)) (by decide) rfl ?_
  intro p e s m args below meth c s₁ B0 hml hv
  obtain ⟨rfl, hv⟩ := hv
  have hx := B0.exec
  have hb := B0.bytes
  have hr := B0.returns
  have hts := atoms_spec (ws := (Cond.code y_DM_frame prog_1_method_2_code 4 (some .int)) :: tw) B0.pre
  have htw : ∀ w ∈ tw, w.before _ s = true := fun w hw => hts w (List.mem_cons_of_mem _ hw)
  have hown : s.vm.findClass "DrawingMachine" = some m.cls := findClass_of_methodNamed B0.named
  have hlocks := B0.notSynchronized
  obtain ⟨hC, hP, hD, hsz⟩ := wC_init hv
  subst hsz
  generalize hAe : va_A [] s.heap.size = A at hC hD
  have hS : va_S A s.heap s.heap [] := va_S.rf
  have hl := lv_entry ([.ref h0, .int w, .int h, .int sd]) (n := 4) (Nat.le_of_ble_eq_true rfl)
  rw [lg_entry_eq]
  generalize (lg_sl ([.ref h0, .int w, .int h, .int sd]) ++ List.replicate (4 - (lg_sl ([.ref h0, .int w, .int h, .int sd])).length) Slot.unset).toArray = ls at hl ⊢
  have hl : lv_has ls 4 [(0, .ref h0), (1, .int w), (2, .int h), (3, .int sd)] := hl
  have htr : e.platform.stackTraces = false := by rw [(Stand.of_body B0).admits.platform]; exact hfl
  have hout : c.exceptionTable.isEmpty = true := BodyLoose.noHandlers B0 (hts _ List.mem_cons_self)
  have hA0 : ∀ q, A q → s.heap.size ≤ q := by
    intro q h
    rw [← hAe] at h
    rcases h with ⟨k, e, h⟩ | h
    · simp at h
    · exact h
  refine lv_iload_n hx hb d_DM_frame_0 rfl (lv_at hl 1 rfl) ?_
  refine wc_i (wr := []) hC hP hD hS [] [] rfl rfl (by decide) (by decide) (va_runS (As := [.int w]) (rest := []) ⟨hx, hb, hml, hown, htw⟩ (c_isSide_t l D cI cL B _ w (h1) (h2)) (va_cwS 1 htw gS_DM_67 rfl rfl rfl (by decide +kernel) ⟨Nat.le_of_ble_eq_true rfl, Nat.le_of_ble_eq_true rfl⟩) (wC_pre hC hP hD hS [] (by decide) rfl) rfl rfl hl.1 rfl (lv_room (Nat.le_of_ble_eq_true rfl)) d_DM_frame_1 ⟨Nat.le_of_ble_eq_true rfl, Nat.le_of_ble_eq_true rfl⟩) (fun r373 u371 H locs hw372 hP hD hS => ?_)
  obtain rfl : r373 = 1 := hw372
  have hP : va_P D classes [] H := hP
  have hD : va_D A [] := hD
  refine W.widen (k := 0) (n := 0) (by omega) (by omega) ?_
  refine lv_if_eq (tgt := 21) hx hb d_DM_frame_4 (by decide) (fun c_374 => absurd c_374 (by decide)) (fun c_374 => ?_)
  refine lv_iload_n hx hb d_DM_frame_7 rfl (lv_at hl 2 rfl) ?_
  refine wc_i (wr := []) hC hP hD hS [] [] rfl rfl (by decide) (by decide) (va_runS (As := [.int h]) (rest := []) ⟨hx, hb, hml, hown, htw⟩ (c_isSide_f l D cI cL B _ h (hbd)) (va_cwS 1 htw gS_DM_67 rfl rfl rfl (by decide +kernel) ⟨Nat.le_of_ble_eq_true rfl, Nat.le_of_ble_eq_true rfl⟩) (wC_pre hC hP hD hS [] (by decide) rfl) rfl rfl hl.1 rfl (lv_room (Nat.le_of_ble_eq_true rfl)) d_DM_frame_8 ⟨Nat.le_of_ble_eq_true rfl, Nat.le_of_ble_eq_true rfl⟩) (fun r377 u375 H locs hw376 hP hD hS => ?_)
  obtain rfl : r377 = 0 := hw376
  have hP : va_P D classes [] H := hP
  have hD : va_D A [] := hD
  refine W.widen (k := 0) (n := 0) (by omega) (by omega) ?_
  refine lv_if_eq (tgt := 21) hx hb d_DM_frame_11 (by decide) (fun c_378 => ?_) (fun c_378 => absurd c_378 (by decide))
  exact tq_throwH hx hb htr hown (by decide) (by decide) (own_use htw hC own_IA) (htw _ k282) (htw _ k885) (hC.2.2.1.2.2.2.1 (76, "no such frame") (by decide)) (hml.trans hl.1.symm) hout hlocks d_DM_frame_21 d_DM_frame_24 d_DM_frame_25 d_DM_frame_27 d_DM_frame_30 (Nat.le_of_ble_eq_true rfl) (Nat.le_of_ble_eq_true rfl) (Nat.le_of_ble_eq_true rfl) (Nat.le_of_ble_eq_true rfl) hS.1 (fun q hq => hA0 _ (hS.2.2 q hq))

set_option maxHeartbeats 4000000 in
set_option maxRecDepth 100000 in
theorem c_frame_b3 (l : Launch) (hfl : l.stackTraces = false) (D : va_G) (cI cL : ClassId) (B sz : Nat) (h0 : Nat) (w : Int32) (h : Int32) (sd : Int32) (h1 : ¬ w < 1) (h2 : ¬ 128 < w) (h3 : ¬ h < 1) (h4 : ¬ 128 < h) (hbd : ¬ (sd = 8 ∨ sd = 16 ∨ sd = 32 ∨ sd = 64)) : tq_Met l y_DM_frame ((Cond.code y_DM_frame prog_1_method_2_code 4 (some .int)) :: tw) ({ frames := 60, cells := 1, slots := 6, locals := 6000 }) (va_Pc [.ref h0, .int w, .int h, .int sd] (wP D cI cL B sz [])) (tq_Q "java/lang/IllegalArgumentException") 1 6 := by
  refine tq_ofW (cc := prog_1_method_2_code) (maxL := 4) (ret := (some .int)) (by decide) rfl ?_
  intro p e s m args below meth c s₁ B0 hml hv
  obtain ⟨rfl, hv⟩ := hv
  have hx := B0.exec
  have hb := B0.bytes
  have hr := B0.returns
  have hts := atoms_spec (ws := (Cond.code y_DM_frame prog_1_method_2_code 4 (some .int)) :: tw) B0.pre
  have htw : ∀ w ∈ tw, w.before _ s = true := fun w hw => hts w (List.mem_cons_of_mem _ hw)
  have hown : s.vm.findClass "DrawingMachine" = some m.cls := findClass_of_methodNamed B0.named
  have hlocks := B0.notSynchronized
  obtain ⟨hC, hP, hD, hsz⟩ := wC_init hv
  subst hsz
  generalize hAe : va_A [] s.heap.size = A at hC hD
  have hS : va_S A s.heap s.heap [] := va_S.rf
  have hl := lv_entry ([.ref h0, .int w, .int h, .int sd]) (n := 4) (Nat.le_of_ble_eq_true rfl)
  rw [lg_entry_eq]
  generalize (lg_sl ([.ref h0, .int w, .int h, .int sd]) ++ List.replicate (4 - (lg_sl ([.ref h0, .int w, .int h, .int sd])).length) Slot.unset).toArray = ls at hl ⊢
  have hl : lv_has ls 4 [(0, .ref h0), (1, .int w), (2, .int h), (3, .int sd)] := hl
  have htr : e.platform.stackTraces = false := by rw [(Stand.of_body B0).admits.platform]; exact hfl
  have hout : c.exceptionTable.isEmpty = true := BodyLoose.noHandlers B0 (hts _ List.mem_cons_self)
  have hA0 : ∀ q, A q → s.heap.size ≤ q := by
    intro q h
    rw [← hAe] at h
    rcases h with ⟨k, e, h⟩ | h
    · simp at h
    · exact h
  refine lv_iload_n hx hb d_DM_frame_0 rfl (lv_at hl 1 rfl) ?_
  refine wc_i (wr := []) hC hP hD hS [] [] rfl rfl (by decide) (by decide) (va_runS (As := [.int w]) (rest := []) ⟨hx, hb, hml, hown, htw⟩ (c_isSide_t l D cI cL B _ w (h1) (h2)) (va_cwS 1 htw gS_DM_67 rfl rfl rfl (by decide +kernel) ⟨Nat.le_of_ble_eq_true rfl, Nat.le_of_ble_eq_true rfl⟩) (wC_pre hC hP hD hS [] (by decide) rfl) rfl rfl hl.1 rfl (lv_room (Nat.le_of_ble_eq_true rfl)) d_DM_frame_1 ⟨Nat.le_of_ble_eq_true rfl, Nat.le_of_ble_eq_true rfl⟩) (fun r381 u379 H locs hw380 hP hD hS => ?_)
  obtain rfl : r381 = 1 := hw380
  have hP : va_P D classes [] H := hP
  have hD : va_D A [] := hD
  refine W.widen (k := 0) (n := 0) (by omega) (by omega) ?_
  refine lv_if_eq (tgt := 21) hx hb d_DM_frame_4 (by decide) (fun c_382 => absurd c_382 (by decide)) (fun c_382 => ?_)
  refine lv_iload_n hx hb d_DM_frame_7 rfl (lv_at hl 2 rfl) ?_
  refine wc_i (wr := []) hC hP hD hS [] [] rfl rfl (by decide) (by decide) (va_runS (As := [.int h]) (rest := []) ⟨hx, hb, hml, hown, htw⟩ (c_isSide_t l D cI cL B _ h (h3) (h4)) (va_cwS 1 htw gS_DM_67 rfl rfl rfl (by decide +kernel) ⟨Nat.le_of_ble_eq_true rfl, Nat.le_of_ble_eq_true rfl⟩) (wC_pre hC hP hD hS [] (by decide) rfl) rfl rfl hl.1 rfl (lv_room (Nat.le_of_ble_eq_true rfl)) d_DM_frame_8 ⟨Nat.le_of_ble_eq_true rfl, Nat.le_of_ble_eq_true rfl⟩) (fun r385 u383 H locs hw384 hP hD hS => ?_)
  obtain rfl : r385 = 1 := hw384
  have hP : va_P D classes [] H := hP
  have hD : va_D A [] := hD
  refine W.widen (k := 0) (n := 0) (by omega) (by omega) ?_
  refine lv_if_eq (tgt := 21) hx hb d_DM_frame_11 (by decide) (fun c_386 => absurd c_386 (by decide)) (fun c_386 => ?_)
  refine lv_iload_n hx hb d_DM_frame_14 rfl (lv_at hl 3 rfl) ?_
  refine wc_i (wr := []) hC hP hD hS [] [] rfl rfl (by decide) (by decide) (va_runS (As := [.int sd]) (rest := []) ⟨hx, hb, hml, hown, htw⟩ (c_isTile_f l D cI cL B _ sd (hbd)) (va_cwS 1 htw gS_DM_71 rfl rfl rfl (by decide +kernel) ⟨Nat.le_of_ble_eq_true rfl, Nat.le_of_ble_eq_true rfl⟩) (wC_pre hC hP hD hS [] (by decide) rfl) rfl rfl hl.1 rfl (lv_room (Nat.le_of_ble_eq_true rfl)) d_DM_frame_15 ⟨Nat.le_of_ble_eq_true rfl, Nat.le_of_ble_eq_true rfl⟩) (fun r389 u387 H locs hw388 hP hD hS => ?_)
  obtain rfl : r389 = 0 := hw388
  have hP : va_P D classes [] H := hP
  have hD : va_D A [] := hD
  refine W.widen (k := 0) (n := 0) (by omega) (by omega) ?_
  refine lv_if_ne (tgt := 31) hx hb d_DM_frame_18 (by decide) (fun c_390 => absurd c_390 (by decide)) (fun c_390 => ?_)
  exact tq_throwH hx hb htr hown (by decide) (by decide) (own_use htw hC own_IA) (htw _ k282) (htw _ k885) (hC.2.2.1.2.2.2.1 (76, "no such frame") (by decide)) (hml.trans hl.1.symm) hout hlocks d_DM_frame_21 d_DM_frame_24 d_DM_frame_25 d_DM_frame_27 d_DM_frame_30 (Nat.le_of_ble_eq_true rfl) (Nat.le_of_ble_eq_true rfl) (Nat.le_of_ble_eq_true rfl) (Nat.le_of_ble_eq_true rfl) hS.1 (fun q hq => hA0 _ (hS.2.2 q hq))
