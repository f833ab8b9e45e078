theorem out08 {x : Int32} (h : x < 0 ∨ 8 < x) : x.toInt < 0 ∨ 8 < x.toInt := h.elim (fun h => Or.inl (Int32.lt_iff_toInt_lt.mp h)) (fun h => Or.inr (Int32.lt_iff_toInt_lt.mp h))
theorem own_IA : ∀ a ∈ Bundle.ownAtoms "DrawingMachine" 78 "java/lang/IllegalArgumentException" exn, owc a := by
  unfold owc
  decide +kernel

theorem own_IO : ∀ a ∈ Bundle.ownAtoms "DrawingMachine" 89 "java/lang/IndexOutOfBoundsException" exn, owc a := by
  unfold owc
  decide +kernel

theorem own_US : ∀ a ∈ Bundle.ownAtoms "DrawingMachine" 98 "java/lang/UnsupportedOperationException" exn, owc a := by
  unfold owc
  decide +kernel

theorem own_IS : ∀ a ∈ Bundle.ownAtoms "DrawingMachine" 127 "java/lang/IllegalStateException" exn, owc a := by
  unfold owc
  decide +kernel

theorem d_DM_word_14 : decode prog_1_method_3_code 14 = .ok (.dup, 1) := by decide +kernel
theorem d_DM_word_15 : decode prog_1_method_3_code 15 = .ok (.ldc 87, 2) := by decide +kernel
theorem d_DM_word_17 : decode prog_1_method_3_code 17 = .ok (.invokespecial 89, 3) := by decide +kernel
theorem d_DM_word_20 : decode prog_1_method_3_code 20 = .ok (.athrow, 1) := by decide +kernel
set_option maxHeartbeats 4000000 in
set_option maxRecDepth 100000 in
theorem c_word_b (l : Launch) (hfl : l.stackTraces = false) (D : va_G) (τ : ClassId × ClassId × ClassId) (B sz : Nat) (σ : Sg) (ad : Nat → Nat) (x : Int32) (v : Int32) (hbd : x < 0 ∨ 4096 ≤ x) : tq_Met l y_DM_word ((Cond.code y_DM_word prog_1_method_3_code 4 (some .int)) :: tw) ({ frames := 50, cells := 1, slots := 6, locals := 5000 }) (va_Pc [.ref (ad 56), .int x, .int v] (wP D τ B sz [])) (tq_Q "java/lang/IndexOutOfBoundsException") 1 6 := by
  refine tq_ofW (cc := prog_1_method_3_code) (maxL := 4) (ret := (some .int)) (by decide) rfl ?_
  intro p e s m args below meth c s₁ B0 hml hv
  obtain ⟨rfl, hv⟩ := hv
  have hx := B0.exec
  have hb := B0.bytes
  have hr := B0.returns
  have hts := atoms_spec (ws := (Cond.code y_DM_word prog_1_method_3_code 4 (some .int)) :: tw) B0.pre
  have htw : ∀ w ∈ tw, w.before _ s = true := fun w hw => hts w (List.mem_cons_of_mem _ hw)
  have hown : s.vm.findClass "DrawingMachine" = some m.cls := findClass_of_methodNamed B0.named
  have hlocks := B0.notSynchronized
  obtain ⟨hC, hP, hD, hsz⟩ := wC_init hv
  subst hsz
  generalize hAe : va_A [] s.heap.size = A at hC hD
  have hS : va_S A s.heap s.heap [] := va_S.rf
  have hl := lv_entry ([.ref (ad 56), .int x, .int v]) (n := 4) (Nat.le_of_ble_eq_true rfl)
  rw [lg_entry_eq]
  generalize (lg_sl ([.ref (ad 56), .int x, .int v]) ++ List.replicate (4 - (lg_sl ([.ref (ad 56), .int x, .int v])).length) Slot.unset).toArray = ls at hl ⊢
  have hl : lv_has ls 4 [(0, .ref (ad 56)), (1, .int x), (2, .int v)] := hl
  have htr : e.platform.stackTraces = false := by rw [(Stand.of_body B0).admits.platform]; exact hfl
  have hout : c.exceptionTable.isEmpty = true := BodyLoose.noHandlers B0 (hts _ List.mem_cons_self)
  have hA0 : ∀ q, A q → s.heap.size ≤ q := by
    intro q h
    rw [← hAe] at h
    rcases h with ⟨k, e, h⟩ | h
    · simp at h
    · exact h
  refine lv_iload_n hx hb d_DM_word_0 rfl (lv_at hl 1 rfl) ?_
  refine lv_if_lt (tgt := 11) hx hb d_DM_word_1 (by decide) (fun c_305 => ?_) (fun c_305 => ?_)
  ·
    exact tq_throwH hx hb htr hown (by decide) (by decide) (own_use htw hC own_IO) (htw _ k839) (htw _ k35) (hC.2.2.1.2.2.2.1 (87, "no such word") (by decide)) (hml.trans hl.1.symm) hout hlocks d_DM_word_11 d_DM_word_14 d_DM_word_15 d_DM_word_17 d_DM_word_20 (Nat.le_of_ble_eq_true rfl) (Nat.le_of_ble_eq_true rfl) (Nat.le_of_ble_eq_true rfl) (Nat.le_of_ble_eq_true rfl) hS.1 (fun q hq => hA0 _ (hS.2.2 q hq))
  ·
    refine lv_iload_n hx hb d_DM_word_4 rfl (lv_at hl 1 rfl) ?_
    refine lv_sipush (v := 4096) hx hb d_DM_word_5 (by decide) ?_
    refine lv_icmp_lt (tgt := 21) hx hb d_DM_word_8 (by decide) (fun c_306 => absurd hbd (not_or.mpr ⟨c_305, Int32.not_le.mpr c_306⟩)) (fun c_306 => ?_)
    exact tq_throwH hx hb htr hown (by decide) (by decide) (own_use htw hC own_IO) (htw _ k839) (htw _ k35) (hC.2.2.1.2.2.2.1 (87, "no such word") (by decide)) (hml.trans hl.1.symm) hout hlocks d_DM_word_11 d_DM_word_14 d_DM_word_15 d_DM_word_17 d_DM_word_20 (Nat.le_of_ble_eq_true rfl) (Nat.le_of_ble_eq_true rfl) (Nat.le_of_ble_eq_true rfl) (Nat.le_of_ble_eq_true rfl) hS.1 (fun q hq => hA0 _ (hS.2.2 q hq))

theorem d_DM_look_14 : decode prog_1_method_4_code 14 = .ok (.dup, 1) := by decide +kernel
theorem d_DM_look_15 : decode prog_1_method_4_code 15 = .ok (.ldc 87, 2) := by decide +kernel
theorem d_DM_look_17 : decode prog_1_method_4_code 17 = .ok (.invokespecial 89, 3) := by decide +kernel
theorem d_DM_look_20 : decode prog_1_method_4_code 20 = .ok (.athrow, 1) := by decide +kernel
set_option maxHeartbeats 4000000 in
set_option maxRecDepth 100000 in
theorem c_look_b (l : Launch) (hfl : l.stackTraces = false) (D : va_G) (τ : ClassId × ClassId × ClassId) (B sz : Nat) (σ : Sg) (ad : Nat → Nat) (x : Int32) (hbd : x < 0 ∨ 4096 ≤ x) : tq_Met l y_DM_look ((Cond.code y_DM_look prog_1_method_4_code 2 (some .int)) :: tw) ({ frames := 50, cells := 1, slots := 6, locals := 5000 }) (va_Pc [.ref (ad 56), .int x] (wP D τ B sz [])) (tq_Q "java/lang/IndexOutOfBoundsException") 1 6 := by
  refine tq_ofW (cc := prog_1_method_4_code) (maxL := 2) (ret := (some .int)) (by decide) rfl ?_
  intro p e s m args below meth c s₁ B0 hml hv
  obtain ⟨rfl, hv⟩ := hv
  have hx := B0.exec
  have hb := B0.bytes
  have hr := B0.returns
  have hts := atoms_spec (ws := (Cond.code y_DM_look prog_1_method_4_code 2 (some .int)) :: tw) B0.pre
  have htw : ∀ w ∈ tw, w.before _ s = true := fun w hw => hts w (List.mem_cons_of_mem _ hw)
  have hown : s.vm.findClass "DrawingMachine" = some m.cls := findClass_of_methodNamed B0.named
  have hlocks := B0.notSynchronized
  obtain ⟨hC, hP, hD, hsz⟩ := wC_init hv
  subst hsz
  generalize hAe : va_A [] s.heap.size = A at hC hD
  have hS : va_S A s.heap s.heap [] := va_S.rf
  have hl := lv_entry ([.ref (ad 56), .int x]) (n := 2) (Nat.le_of_ble_eq_true rfl)
  rw [lg_entry_eq]
  generalize (lg_sl ([.ref (ad 56), .int x]) ++ List.replicate (2 - (lg_sl ([.ref (ad 56), .int x])).length) Slot.unset).toArray = ls at hl ⊢
  have hl : lv_has ls 2 [(0, .ref (ad 56)), (1, .int x)] := hl
  have htr : e.platform.stackTraces = false := by rw [(Stand.of_body B0).admits.platform]; exact hfl
  have hout : c.exceptionTable.isEmpty = true := BodyLoose.noHandlers B0 (hts _ List.mem_cons_self)
  have hA0 : ∀ q, A q → s.heap.size ≤ q := by
    intro q h
    rw [← hAe] at h
    rcases h with ⟨k, e, h⟩ | h
    · simp at h
    · exact h
  refine lv_iload_n hx hb d_DM_look_0 rfl (lv_at hl 1 rfl) ?_
  refine lv_if_lt (tgt := 11) hx hb d_DM_look_1 (by decide) (fun c_307 => ?_) (fun c_307 => ?_)
  ·
    exact tq_throwH hx hb htr hown (by decide) (by decide) (own_use htw hC own_IO) (htw _ k839) (htw _ k35) (hC.2.2.1.2.2.2.1 (87, "no such word") (by decide)) (hml.trans hl.1.symm) hout hlocks d_DM_look_11 d_DM_look_14 d_DM_look_15 d_DM_look_17 d_DM_look_20 (Nat.le_of_ble_eq_true rfl) (Nat.le_of_ble_eq_true rfl) (Nat.le_of_ble_eq_true rfl) (Nat.le_of_ble_eq_true rfl) hS.1 (fun q hq => hA0 _ (hS.2.2 q hq))
  ·
    refine lv_iload_n hx hb d_DM_look_4 rfl (lv_at hl 1 rfl) ?_
    refine lv_sipush (v := 4096) hx hb d_DM_look_5 (by decide) ?_
    refine lv_icmp_lt (tgt := 21) hx hb d_DM_look_8 (by decide) (fun c_308 => absurd hbd (not_or.mpr ⟨c_307, Int32.not_le.mpr c_308⟩)) (fun c_308 => ?_)
    exact tq_throwH hx hb htr hown (by decide) (by decide) (own_use htw hC own_IO) (htw _ k839) (htw _ k35) (hC.2.2.1.2.2.2.1 (87, "no such word") (by decide)) (hml.trans hl.1.symm) hout hlocks d_DM_look_11 d_DM_look_14 d_DM_look_15 d_DM_look_17 d_DM_look_20 (Nat.le_of_ble_eq_true rfl) (Nat.le_of_ble_eq_true rfl) (Nat.le_of_ble_eq_true rfl) (Nat.le_of_ble_eq_true rfl) hS.1 (fun q hq => hA0 _ (hS.2.2 q hq))

theorem d_DM_feed_18 : decode prog_1_method_5_code 18 = .ok (.dup, 1) := by decide +kernel
theorem d_DM_feed_19 : decode prog_1_method_5_code 19 = .ok (.ldc 96, 2) := by decide +kernel
theorem d_DM_feed_21 : decode prog_1_method_5_code 21 = .ok (.invokespecial 98, 3) := by decide +kernel
theorem d_DM_feed_24 : decode prog_1_method_5_code 24 = .ok (.athrow, 1) := by decide +kernel
set_option maxHeartbeats 4000000 in
set_option maxRecDepth 100000 in
theorem c_feed_b (l : Launch) (hfl : l.stackTraces = false) (D : va_G) (τ : ClassId × ClassId × ClassId) (B sz : Nat) (σ : Sg) (ad : Nat → Nat) (a1 : Int32) (a2 : Int32) (a3 : Int32) (a4 : Int32) (a5 : Int32) (hbd : ¬ (σ.1 2 + 5 ≤ 4096)) : tq_Met l y_DM_feed ((Cond.code y_DM_feed prog_1_method_5_code 6 (some .int)) :: tw) ({ frames := 50, cells := 1, slots := 6, locals := 5000 }) (va_Pc [.ref (ad 56), .int a1, .int a2, .int a3, .int a4, .int a5] (wP D τ B sz [(ad 56, .inr (0, [.ref (ad 0), .ref (ad 57), .ref (ad 58), .ref (ad 59), .ref (ad 60), .ref (ad 61), .ref (ad (67 + σ.2.2.2.2 2)), .ref (ad (67 + σ.2.2.2.2 3)), .ref (ad (67 + σ.2.2.2.2 4))])), (ad 59, .inr (3, [.ref (ad 5), .int (σ.1 2), .int (σ.1 3), .int (σ.1 4), .int (σ.1 5), .int (σ.1 6), .int (σ.1 7), .int (σ.1 8), .int (σ.1 9), .long (σ.2.1 0), .ref (ad 0), .ref (ad 6), .ref (ad 7), .int (σ.1 10), .int (σ.1 11)]))])) (tq_Q "java/lang/UnsupportedOperationException") 1 6 := by
  refine tq_ofW (cc := prog_1_method_5_code) (maxL := 6) (ret := (some .int)) (by decide) rfl ?_
  intro p e s m args below meth c s₁ B0 hml hv
  obtain ⟨rfl, hv⟩ := hv
  have hx := B0.exec
  have hb := B0.bytes
  have hr := B0.returns
  have hts := atoms_spec (ws := (Cond.code y_DM_feed prog_1_method_5_code 6 (some .int)) :: tw) B0.pre
  have htw : ∀ w ∈ tw, w.before _ s = true := fun w hw => hts w (List.mem_cons_of_mem _ hw)
  have hown : s.vm.findClass "DrawingMachine" = some m.cls := findClass_of_methodNamed B0.named
  have hlocks := B0.notSynchronized
  obtain ⟨hC, hP, hD, hsz⟩ := wC_init hv
  subst hsz
  generalize hAe : va_A [(ad 56, .inr (0, [.ref (ad 0), .ref (ad 57), .ref (ad 58), .ref (ad 59), .ref (ad 60), .ref (ad 61), .ref (ad (67 + σ.2.2.2.2 2)), .ref (ad (67 + σ.2.2.2.2 3)), .ref (ad (67 + σ.2.2.2.2 4))])), (ad 59, .inr (3, [.ref (ad 5), .int (σ.1 2), .int (σ.1 3), .int (σ.1 4), .int (σ.1 5), .int (σ.1 6), .int (σ.1 7), .int (σ.1 8), .int (σ.1 9), .long (σ.2.1 0), .ref (ad 0), .ref (ad 6), .ref (ad 7), .int (σ.1 10), .int (σ.1 11)]))] s.heap.size = A at hC hD
  have hS : va_S A s.heap s.heap [] := va_S.rf
  have hl := lv_entry ([.ref (ad 56), .int a1, .int a2, .int a3, .int a4, .int a5]) (n := 6) (Nat.le_of_ble_eq_true rfl)
  rw [lg_entry_eq]
  generalize (lg_sl ([.ref (ad 56), .int a1, .int a2, .int a3, .int a4, .int a5]) ++ List.replicate (6 - (lg_sl ([.ref (ad 56), .int a1, .int a2, .int a3, .int a4, .int a5])).length) Slot.unset).toArray = ls at hl ⊢
  have hl : lv_has ls 6 [(0, .ref (ad 56)), (1, .int a1), (2, .int a2), (3, .int a3), (4, .int a4), (5, .int a5)] := hl
  have htr : e.platform.stackTraces = false := by rw [(Stand.of_body B0).admits.platform]; exact hfl
  have hout : c.exceptionTable.isEmpty = true := BodyLoose.noHandlers B0 (hts _ List.mem_cons_self)
  refine lv_aload_n hx hb d_DM_feed_0 rfl (lv_at hl 0 rfl) ?_
  refine va_get (D := D) (ci := 0) (v := .ref (ad 59)) (C := R_DM) (T := F_DM) (N := 9) hx hb htw i_DM hown hC.1 hP 0 rfl rfl 3 (by decide) (htw _ k433) (fun _ h9 => h9) rfl d_DM_feed_1 ?_
  refine va_get (D := D) (ci := 3) (v := .int (σ.1 2)) (C := R_Cou) (T := F_Cou) (N := 15) hx hb htw i_Cou hown hC.1 hP 1 rfl rfl 1 (by decide) (htw _ k114) (fun _ h9 => h9) rfl d_DM_feed_4 ?_
  refine lv_iconst (v := 5) hx hb d_DM_feed_7 (by decide) ?_
  refine lv_iadd hx hb d_DM_feed_8 ?_
  refine lv_sipush (v := 4096) hx hb d_DM_feed_9 (by decide) ?_
  refine lv_icmp_le (tgt := 25) hx hb d_DM_feed_12 (by decide) (fun c_309 => absurd c_309 hbd) (fun c_309 => ?_)
  exact tq_throwH hx hb htr hown (by decide) (by decide) (own_use htw hC own_US) (htw _ k867) (htw _ k37) (hC.2.2.1.2.2.2.1 (96, "the stream is full") (by decide)) (hml.trans hl.1.symm) hout hlocks d_DM_feed_15 d_DM_feed_18 d_DM_feed_19 d_DM_feed_21 d_DM_feed_24 (Nat.le_of_ble_eq_true rfl) (Nat.le_of_ble_eq_true rfl) (Nat.le_of_ble_eq_true rfl) (Nat.le_of_ble_eq_true rfl) hS.1 (fun q hq => by cases hq)

theorem d_DM_end_18 : decode prog_1_method_6_code 18 = .ok (.dup, 1) := by decide +kernel
theorem d_DM_end_19 : decode prog_1_method_6_code 19 = .ok (.ldc 106, 2) := by decide +kernel
theorem d_DM_end_21 : decode prog_1_method_6_code 21 = .ok (.invokespecial 78, 3) := by decide +kernel
theorem d_DM_end_24 : decode prog_1_method_6_code 24 = .ok (.athrow, 1) := by decide +kernel
set_option maxHeartbeats 4000000 in
set_option maxRecDepth 100000 in
theorem c_end_b (l : Launch) (hfl : l.stackTraces = false) (D : va_G) (τ : ClassId × ClassId × ClassId) (B sz : Nat) (σ : Sg) (ad : Nat → Nat) (x : Int32) (hbd : x < 0 ∨ σ.1 2 < x) : tq_Met l y_DM_end ((Cond.code y_DM_end prog_1_method_6_code 2 none) :: tw) ({ frames := 50, cells := 1, slots := 6, locals := 5000 }) (va_Pc [.ref (ad 56), .int x] (wP D τ B sz [(ad 56, .inr (0, [.ref (ad 0), .ref (ad 57), .ref (ad 58), .ref (ad 59), .ref (ad 60), .ref (ad 61), .ref (ad (67 + σ.2.2.2.2 2)), .ref (ad (67 + σ.2.2.2.2 3)), .ref (ad (67 + σ.2.2.2.2 4))])), (ad 59, .inr (3, [.ref (ad 5), .int (σ.1 2), .int (σ.1 3), .int (σ.1 4), .int (σ.1 5), .int (σ.1 6), .int (σ.1 7), .int (σ.1 8), .int (σ.1 9), .long (σ.2.1 0), .ref (ad 0), .ref (ad 6), .ref (ad 7), .int (σ.1 10), .int (σ.1 11)]))])) (tq_Q "java/lang/IllegalArgumentException") 1 6 := by
  refine tq_ofW (cc := prog_1_method_6_code) (maxL := 2) (ret := none) (by decide) rfl ?_
  intro p e s m args below meth c s₁ B0 hml hv
  obtain ⟨rfl, hv⟩ := hv
  have hx := B0.exec
  have hb := B0.bytes
  have hr := B0.returns
  have hts := atoms_spec (ws := (Cond.code y_DM_end prog_1_method_6_code 2 none) :: tw) B0.pre
  have htw : ∀ w ∈ tw, w.before _ s = true := fun w hw => hts w (List.mem_cons_of_mem _ hw)
  have hown : s.vm.findClass "DrawingMachine" = some m.cls := findClass_of_methodNamed B0.named
  have hlocks := B0.notSynchronized
  obtain ⟨hC, hP, hD, hsz⟩ := wC_init hv
  subst hsz
  generalize hAe : va_A [(ad 56, .inr (0, [.ref (ad 0), .ref (ad 57), .ref (ad 58), .ref (ad 59), .ref (ad 60), .ref (ad 61), .ref (ad (67 + σ.2.2.2.2 2)), .ref (ad (67 + σ.2.2.2.2 3)), .ref (ad (67 + σ.2.2.2.2 4))])), (ad 59, .inr (3, [.ref (ad 5), .int (σ.1 2), .int (σ.1 3), .int (σ.1 4), .int (σ.1 5), .int (σ.1 6), .int (σ.1 7), .int (σ.1 8), .int (σ.1 9), .long (σ.2.1 0), .ref (ad 0), .ref (ad 6), .ref (ad 7), .int (σ.1 10), .int (σ.1 11)]))] s.heap.size = A at hC hD
  have hS : va_S A s.heap s.heap [] := va_S.rf
  have hl := lv_entry ([.ref (ad 56), .int x]) (n := 2) (Nat.le_of_ble_eq_true rfl)
  rw [lg_entry_eq]
  generalize (lg_sl ([.ref (ad 56), .int x]) ++ List.replicate (2 - (lg_sl ([.ref (ad 56), .int x])).length) Slot.unset).toArray = ls at hl ⊢
  have hl : lv_has ls 2 [(0, .ref (ad 56)), (1, .int x)] := hl
  have htr : e.platform.stackTraces = false := by rw [(Stand.of_body B0).admits.platform]; exact hfl
  have hout : c.exceptionTable.isEmpty = true := BodyLoose.noHandlers B0 (hts _ List.mem_cons_self)
  refine lv_iload_n hx hb d_DM_end_0 rfl (lv_at hl 1 rfl) ?_
  refine lv_if_lt (tgt := 15) hx hb d_DM_end_1 (by decide) (fun c_310 => ?_) (fun c_310 => ?_)
  ·
    exact tq_throwH hx hb htr hown (by decide) (by decide) (own_use htw hC own_IA) (htw _ k485) (htw _ k24) (hC.2.2.1.2.2.2.1 (106, "the stream has not so many words") (by decide)) (hml.trans hl.1.symm) hout hlocks d_DM_end_15 d_DM_end_18 d_DM_end_19 d_DM_end_21 d_DM_end_24 (Nat.le_of_ble_eq_true rfl) (Nat.le_of_ble_eq_true rfl) (Nat.le_of_ble_eq_true rfl) (Nat.le_of_ble_eq_true rfl) hS.1 (fun q hq => by cases hq)
  ·
    refine lv_iload_n hx hb d_DM_end_4 rfl (lv_at hl 1 rfl) ?_
    refine lv_aload_n hx hb d_DM_end_5 rfl (lv_at hl 0 rfl) ?_
    refine va_get (D := D) (ci := 0) (v := .ref (ad 59)) (C := R_DM) (T := F_DM) (N := 9) hx hb htw i_DM hown hC.1 hP 0 rfl rfl 3 (by decide) (htw _ k433) (fun _ h9 => h9) rfl d_DM_end_6 ?_
    refine va_get (D := D) (ci := 3) (v := .int (σ.1 2)) (C := R_Cou) (T := F_Cou) (N := 15) hx hb htw i_Cou hown hC.1 hP 1 rfl rfl 1 (by decide) (htw _ k114) (fun _ h9 => h9) rfl d_DM_end_9 ?_
    refine lv_icmp_le (tgt := 25) hx hb d_DM_end_12 (by decide) (fun c_311 => absurd hbd (not_or.mpr ⟨c_310, Int32.not_lt.mpr c_311⟩)) (fun c_311 => ?_)
    exact tq_throwH hx hb htr hown (by decide) (by decide) (own_use htw hC own_IA) (htw _ k485) (htw _ k24) (hC.2.2.1.2.2.2.1 (106, "the stream has not so many words") (by decide)) (hml.trans hl.1.symm) hout hlocks d_DM_end_15 d_DM_end_18 d_DM_end_19 d_DM_end_21 d_DM_end_24 (Nat.le_of_ble_eq_true rfl) (Nat.le_of_ble_eq_true rfl) (Nat.le_of_ble_eq_true rfl) (Nat.le_of_ble_eq_true rfl) hS.1 (fun q hq => by cases hq)

theorem d_DM_run_7 : decode prog_1_method_8_code 7 = .ok (.dup, 1) := by decide +kernel
theorem d_DM_run_8 : decode prog_1_method_8_code 8 = .ok (.ldc 117, 2) := by decide +kernel
theorem d_DM_run_10 : decode prog_1_method_8_code 10 = .ok (.invokespecial 78, 3) := by decide +kernel
theorem d_DM_run_13 : decode prog_1_method_8_code 13 = .ok (.athrow, 1) := by decide +kernel
set_option maxHeartbeats 4000000 in
set_option maxRecDepth 100000 in
theorem c_run_b (l : Launch) (hfl : l.stackTraces = false) (D : va_G) (τ : ClassId × ClassId × ClassId) (B sz : Nat) (σ : Sg) (ad : Nat → Nat) (x : Int32) (hn : x < 0) : tq_Met l y_DM_run ((Cond.code y_DM_run prog_1_method_8_code 5 (some .int)) :: tw) ({ frames := 50, cells := 1, slots := 6, locals := 5000 }) (va_Pc [.ref (ad 56), .int x] (wP D τ B sz [])) (tq_Q "java/lang/IllegalArgumentException") 1 6 := by
  refine tq_ofW (cc := prog_1_method_8_code) (maxL := 5) (ret := (some .int)) (by decide) rfl ?_
  intro p e s m args below meth c s₁ B0 hml hv
  obtain ⟨rfl, hv⟩ := hv
  have hx := B0.exec
  have hb := B0.bytes
  have hr := B0.returns
  have hts := atoms_spec (ws := (Cond.code y_DM_run prog_1_method_8_code 5 (some .int)) :: tw) B0.pre
  have htw : ∀ w ∈ tw, w.before _ s = true := fun w hw => hts w (List.mem_cons_of_mem _ hw)
  have hown : s.vm.findClass "DrawingMachine" = some m.cls := findClass_of_methodNamed B0.named
  have hlocks := B0.notSynchronized
  obtain ⟨hC, hP, hD, hsz⟩ := wC_init hv
  subst hsz
  generalize hAe : va_A [] s.heap.size = A at hC hD
  have hS : va_S A s.heap s.heap [] := va_S.rf
  have hl := lv_entry ([.ref (ad 56), .int x]) (n := 5) (Nat.le_of_ble_eq_true rfl)
  rw [lg_entry_eq]
  generalize (lg_sl ([.ref (ad 56), .int x]) ++ List.replicate (5 - (lg_sl ([.ref (ad 56), .int x])).length) Slot.unset).toArray = ls at hl ⊢
  have hl : lv_has ls 5 [(0, .ref (ad 56)), (1, .int x)] := hl
  have htr : e.platform.stackTraces = false := by rw [(Stand.of_body B0).admits.platform]; exact hfl
  have hout : c.exceptionTable.isEmpty = true := BodyLoose.noHandlers B0 (hts _ List.mem_cons_self)
  have hA0 : ∀ q, A q → s.heap.size ≤ q := by
    intro q h
    rw [← hAe] at h
    rcases h with ⟨k, e, h⟩ | h
    · simp at h
    · exact h
  refine lv_iload_n hx hb d_DM_run_0 rfl (lv_at hl 1 rfl) ?_
  refine lv_if_ge (tgt := 14) hx hb d_DM_run_1 (by decide) (fun c_312 => absurd c_312 (Int32.not_le.mpr hn)) (fun c_312 => ?_)
  exact tq_throwH hx hb htr hown (by decide) (by decide) (own_use htw hC own_IA) (htw _ k485) (htw _ k24) (hC.2.2.1.2.2.2.1 (117, "below 0") (by decide)) (hml.trans hl.1.symm) hout hlocks d_DM_run_4 d_DM_run_7 d_DM_run_8 d_DM_run_10 d_DM_run_13 (Nat.le_of_ble_eq_true rfl) (Nat.le_of_ble_eq_true rfl) (Nat.le_of_ble_eq_true rfl) (Nat.le_of_ble_eq_true rfl) hS.1 (fun q hq => hA0 _ (hS.2.2 q hq))

theorem d_DM_run_27 : decode prog_1_method_8_code 27 = .ok (.dup, 1) := by decide +kernel
theorem d_DM_run_28 : decode prog_1_method_8_code 28 = .ok (.ldc 125, 2) := by decide +kernel
theorem d_DM_run_30 : decode prog_1_method_8_code 30 = .ok (.invokespecial 127, 3) := by decide +kernel
theorem d_DM_run_33 : decode prog_1_method_8_code 33 = .ok (.athrow, 1) := by decide +kernel
set_option maxHeartbeats 4000000 in
set_option maxRecDepth 100000 in
theorem c_run_o (l : Launch) (hfl : l.stackTraces = false) (D : va_G) (τ : ClassId × ClassId × ClassId) (B sz : Nat) (σ : Sg) (ad : Nat → Nat) (x : Int32) (hn : 0 ≤ x) (ho : ¬ σ.1 9 = 0) : tq_Met l y_DM_run ((Cond.code y_DM_run prog_1_method_8_code 5 (some .int)) :: tw) ({ frames := 50, cells := 1, slots := 6, locals := 5000 }) (va_Pc [.ref (ad 56), .int x] (wP D τ B sz [(ad 56, .inr (0, [.ref (ad 0), .ref (ad 57), .ref (ad 58), .ref (ad 59), .ref (ad 60), .ref (ad 61), .ref (ad (67 + σ.2.2.2.2 2)), .ref (ad (67 + σ.2.2.2.2 3)), .ref (ad (67 + σ.2.2.2.2 4))])), (ad 59, .inr (3, [.ref (ad 5), .int (σ.1 2), .int (σ.1 3), .int (σ.1 4), .int (σ.1 5), .int (σ.1 6), .int (σ.1 7), .int (σ.1 8), .int (σ.1 9), .long (σ.2.1 0), .ref (ad 0), .ref (ad 6), .ref (ad 7), .int (σ.1 10), .int (σ.1 11)]))])) (tq_Q "java/lang/IllegalStateException") 1 6 := by
  refine tq_ofW (cc := prog_1_method_8_code) (maxL := 5) (ret := (some .int)) (by decide) rfl ?_
  intro p e s m args below meth c s₁ B0 hml hv
  obtain ⟨rfl, hv⟩ := hv
  have hx := B0.exec
  have hb := B0.bytes
  have hr := B0.returns
  have hts := atoms_spec (ws := (Cond.code y_DM_run prog_1_method_8_code 5 (some .int)) :: tw) B0.pre
  have htw : ∀ w ∈ tw, w.before _ s = true := fun w hw => hts w (List.mem_cons_of_mem _ hw)
  have hown : s.vm.findClass "DrawingMachine" = some m.cls := findClass_of_methodNamed B0.named
  have hlocks := B0.notSynchronized
  obtain ⟨hC, hP, hD, hsz⟩ := wC_init hv
  subst hsz
  generalize hAe : va_A [(ad 56, .inr (0, [.ref (ad 0), .ref (ad 57), .ref (ad 58), .ref (ad 59), .ref (ad 60), .ref (ad 61), .ref (ad (67 + σ.2.2.2.2 2)), .ref (ad (67 + σ.2.2.2.2 3)), .ref (ad (67 + σ.2.2.2.2 4))])), (ad 59, .inr (3, [.ref (ad 5), .int (σ.1 2), .int (σ.1 3), .int (σ.1 4), .int (σ.1 5), .int (σ.1 6), .int (σ.1 7), .int (σ.1 8), .int (σ.1 9), .long (σ.2.1 0), .ref (ad 0), .ref (ad 6), .ref (ad 7), .int (σ.1 10), .int (σ.1 11)]))] s.heap.size = A at hC hD
  have hS : va_S A s.heap s.heap [] := va_S.rf
  have hl := lv_entry ([.ref (ad 56), .int x]) (n := 5) (Nat.le_of_ble_eq_true rfl)
  rw [lg_entry_eq]
  generalize (lg_sl ([.ref (ad 56), .int x]) ++ List.replicate (5 - (lg_sl ([.ref (ad 56), .int x])).length) Slot.unset).toArray = ls at hl ⊢
  have hl : lv_has ls 5 [(0, .ref (ad 56)), (1, .int x)] := hl
  have htr : e.platform.stackTraces = false := by rw [(Stand.of_body B0).admits.platform]; exact hfl
  have hout : c.exceptionTable.isEmpty = true := BodyLoose.noHandlers B0 (hts _ List.mem_cons_self)
  refine lv_iload_n hx hb d_DM_run_0 rfl (lv_at hl 1 rfl) ?_
  refine lv_if_ge (tgt := 14) hx hb d_DM_run_1 (by decide) (fun c_313 => ?_) (fun c_313 => absurd hn c_313)
  refine lv_aload_n hx hb d_DM_run_14 rfl (lv_at hl 0 rfl) ?_
  refine va_get (D := D) (ci := 0) (v := .ref (ad 59)) (C := R_DM) (T := F_DM) (N := 9) hx hb htw i_DM hown hC.1 hP 0 rfl rfl 3 (by decide) (htw _ k433) (fun _ h9 => h9) rfl d_DM_run_15 ?_
  refine va_get (D := D) (ci := 3) (v := .int (σ.1 9)) (C := R_Cou) (T := F_Cou) (N := 15) hx hb htw i_Cou hown hC.1 hP 1 rfl rfl 8 (by decide) (htw _ k129) (fun _ h9 => h9) rfl d_DM_run_18 ?_
  refine lv_if_eq (tgt := 34) hx hb d_DM_run_21 (by decide) (fun c_314 => absurd c_314 ho) (fun c_314 => ?_)
  exact tq_throwH hx hb htr hown (by decide) (by decide) (own_use htw hC own_IS) (htw _ k917) (htw _ k38) (hC.2.2.1.2.2.2.1 (125, "the run is over") (by decide)) (hml.trans hl.1.symm) hout hlocks d_DM_run_24 d_DM_run_27 d_DM_run_28 d_DM_run_30 d_DM_run_33 (Nat.le_of_ble_eq_true rfl) (Nat.le_of_ble_eq_true rfl) (Nat.le_of_ble_eq_true rfl) (Nat.le_of_ble_eq_true rfl) hS.1 (fun q hq => by cases hq)

theorem d_DM_about_135 : decode prog_1_method_9_code 135 = .ok (.dup, 1) := by decide +kernel
theorem d_DM_about_136 : decode prog_1_method_9_code 136 = .ok (.ldc 167, 2) := by decide +kernel
theorem d_DM_about_138 : decode prog_1_method_9_code 138 = .ok (.invokespecial 78, 3) := by decide +kernel
theorem d_DM_about_141 : decode prog_1_method_9_code 141 = .ok (.athrow, 1) := by decide +kernel
set_option maxHeartbeats 4000000 in
set_option maxRecDepth 100000 in
theorem c_about_b (l : Launch) (hfl : l.stackTraces = false) (D : va_G) (τ : ClassId × ClassId × ClassId) (B sz : Nat) (σ : Sg) (ad : Nat → Nat) (x : Int32) (hbd : x < 0 ∨ 8 < x) : tq_Met l y_DM_about ((Cond.code y_DM_about prog_1_method_9_code 2 (some .int)) :: tw) ({ frames := 50, cells := 1, slots := 6, locals := 5000 }) (va_Pc [.ref (ad 56), .int x] (wP D τ B sz [])) (tq_Q "java/lang/IllegalArgumentException") 1 6 := by
  refine tq_ofW (cc := prog_1_method_9_code) (maxL := 2) (ret := (some .int)) (by decide) rfl ?_
  intro p e s m args below meth c s₁ B0 hml hv
  obtain ⟨rfl, hv⟩ := hv
  have hx := B0.exec
  have hb := B0.bytes
  have hr := B0.returns
  have hts := atoms_spec (ws := (Cond.code y_DM_about prog_1_method_9_code 2 (some .int)) :: tw) B0.pre
  have htw : ∀ w ∈ tw, w.before _ s = true := fun w hw => hts w (List.mem_cons_of_mem _ hw)
  have hown : s.vm.findClass "DrawingMachine" = some m.cls := findClass_of_methodNamed B0.named
  have hlocks := B0.notSynchronized
  obtain ⟨hC, hP, hD, hsz⟩ := wC_init hv
  subst hsz
  generalize hAe : va_A [] s.heap.size = A at hC hD
  have hS : va_S A s.heap s.heap [] := va_S.rf
  have hl := lv_entry ([.ref (ad 56), .int x]) (n := 2) (Nat.le_of_ble_eq_true rfl)
  rw [lg_entry_eq]
  generalize (lg_sl ([.ref (ad 56), .int x]) ++ List.replicate (2 - (lg_sl ([.ref (ad 56), .int x])).length) Slot.unset).toArray = ls at hl ⊢
  have hl : lv_has ls 2 [(0, .ref (ad 56)), (1, .int x)] := hl
  have htr : e.platform.stackTraces = false := by rw [(Stand.of_body B0).admits.platform]; exact hfl
  have hout : c.exceptionTable.isEmpty = true := BodyLoose.noHandlers B0 (hts _ List.mem_cons_self)
  have hA0 : ∀ q, A q → s.heap.size ≤ q := by
    intro q h
    rw [← hAe] at h
    rcases h with ⟨k, e, h⟩ | h
    · simp at h
    · exact h
  refine lv_iload_n hx hb d_DM_about_0 rfl (lv_at hl 1 rfl) ?_
  refine lv_tableOut (tgt := 132) hx hb d_DM_about_1 (out08 hbd) (by decide) ?_
  exact tq_throwH hx hb htr hown (by decide) (by decide) (own_use htw hC own_IA) (htw _ k485) (htw _ k24) (hC.2.2.1.2.2.2.1 (167, "nothing is told about that") (by decide)) (hml.trans hl.1.symm) hout hlocks d_DM_about_132 d_DM_about_135 d_DM_about_136 d_DM_about_138 d_DM_about_141 (Nat.le_of_ble_eq_true rfl) (Nat.le_of_ble_eq_true rfl) (Nat.le_of_ble_eq_true rfl) (Nat.le_of_ble_eq_true rfl) hS.1 (fun q hq => hA0 _ (hS.2.2 q hq))

theorem d_DM_at_12 : decode prog_1_method_10_code 12 = .ok (.dup, 1) := by decide +kernel
theorem d_DM_at_13 : decode prog_1_method_10_code 13 = .ok (.ldc 169, 2) := by decide +kernel
theorem d_DM_at_15 : decode prog_1_method_10_code 15 = .ok (.invokespecial 78, 3) := by decide +kernel
theorem d_DM_at_18 : decode prog_1_method_10_code 18 = .ok (.athrow, 1) := by decide +kernel
set_option maxHeartbeats 4000000 in
set_option maxRecDepth 100000 in
theorem c_at_bw (l : Launch) (hfl : l.stackTraces = false) (D : va_G) (τ : ClassId × ClassId × ClassId) (B sz : Nat) (σ : Sg) (ad : Nat → Nat) (px : Int32) (py : Int32) (x : Int32) (hbd : x < 0 ∨ 2 < x) : tq_Met l y_DM_at ((Cond.code y_DM_at prog_1_method_10_code 4 (some .int)) :: tw) ({ frames := 50, cells := 1, slots := 6, locals := 5000 }) (va_Pc [.ref (ad 56), .int px, .int py, .int x] (wP D τ B sz [])) (tq_Q "java/lang/IllegalArgumentException") 1 6 := by
  refine tq_ofW (cc := prog_1_method_10_code) (maxL := 4) (ret := (some .int)) (by decide) rfl ?_
  intro p e s m args below meth c s₁ B0 hml hv
  obtain ⟨rfl, hv⟩ := hv
  have hx := B0.exec
  have hb := B0.bytes
  have hr := B0.returns
  have hts := atoms_spec (ws := (Cond.code y_DM_at prog_1_method_10_code 4 (some .int)) :: tw) B0.pre
  have htw : ∀ w ∈ tw, w.before _ s = true := fun w hw => hts w (List.mem_cons_of_mem _ hw)
  have hown : s.vm.findClass "DrawingMachine" = some m.cls := findClass_of_methodNamed B0.named
  have hlocks := B0.notSynchronized
  obtain ⟨hC, hP, hD, hsz⟩ := wC_init hv
  subst hsz
  generalize hAe : va_A [] s.heap.size = A at hC hD
  have hS : va_S A s.heap s.heap [] := va_S.rf
  have hl := lv_entry ([.ref (ad 56), .int px, .int py, .int x]) (n := 4) (Nat.le_of_ble_eq_true rfl)
  rw [lg_entry_eq]
  generalize (lg_sl ([.ref (ad 56), .int px, .int py, .int x]) ++ List.replicate (4 - (lg_sl ([.ref (ad 56), .int px, .int py, .int x])).length) Slot.unset).toArray = ls at hl ⊢
  have hl : lv_has ls 4 [(0, .ref (ad 56)), (1, .int px), (2, .int py), (3, .int x)] := hl
  have htr : e.platform.stackTraces = false := by rw [(Stand.of_body B0).admits.platform]; exact hfl
  have hout : c.exceptionTable.isEmpty = true := BodyLoose.noHandlers B0 (hts _ List.mem_cons_self)
  have hA0 : ∀ q, A q → s.heap.size ≤ q := by
    intro q h
    rw [← hAe] at h
    rcases h with ⟨k, e, h⟩ | h
    · simp at h
    · exact h
  refine lv_iload_n hx hb d_DM_at_0 rfl (lv_at hl 3 rfl) ?_
  refine lv_if_lt (tgt := 9) hx hb d_DM_at_1 (by decide) (fun c_315 => ?_) (fun c_315 => ?_)
  ·
    exact tq_throwH hx hb htr hown (by decide) (by decide) (own_use htw hC own_IA) (htw _ k485) (htw _ k24) (hC.2.2.1.2.2.2.1 (169, "a place has no such thing") (by decide)) (hml.trans hl.1.symm) hout hlocks d_DM_at_9 d_DM_at_12 d_DM_at_13 d_DM_at_15 d_DM_at_18 (Nat.le_of_ble_eq_true rfl) (Nat.le_of_ble_eq_true rfl) (Nat.le_of_ble_eq_true rfl) (Nat.le_of_ble_eq_true rfl) hS.1 (fun q hq => hA0 _ (hS.2.2 q hq))
  ·
    refine lv_iload_n hx hb d_DM_at_4 rfl (lv_at hl 3 rfl) ?_
    refine lv_iconst (v := 2) hx hb d_DM_at_5 (by decide) ?_
    refine lv_icmp_le (tgt := 19) hx hb d_DM_at_6 (by decide) (fun c_316 => absurd hbd (not_or.mpr ⟨c_315, Int32.not_lt.mpr c_316⟩)) (fun c_316 => ?_)
    exact tq_throwH hx hb htr hown (by decide) (by decide) (own_use htw hC own_IA) (htw _ k485) (htw _ k24) (hC.2.2.1.2.2.2.1 (169, "a place has no such thing") (by decide)) (hml.trans hl.1.symm) hout hlocks d_DM_at_9 d_DM_at_12 d_DM_at_13 d_DM_at_15 d_DM_at_18 (Nat.le_of_ble_eq_true rfl) (Nat.le_of_ble_eq_true rfl) (Nat.le_of_ble_eq_true rfl) (Nat.le_of_ble_eq_true rfl) hS.1 (fun q hq => hA0 _ (hS.2.2 q hq))

theorem d_DM_at_52 : decode prog_1_method_10_code 52 = .ok (.dup, 1) := by decide +kernel
theorem d_DM_at_53 : decode prog_1_method_10_code 53 = .ok (.ldc 177, 2) := by decide +kernel
theorem d_DM_at_55 : decode prog_1_method_10_code 55 = .ok (.invokespecial 89, 3) := by decide +kernel
theorem d_DM_at_58 : decode prog_1_method_10_code 58 = .ok (.athrow, 1) := by decide +kernel
set_option maxHeartbeats 4000000 in
set_option maxRecDepth 100000 in
theorem c_at_bp (l : Launch) (hfl : l.stackTraces = false) (D : va_G) (τ : ClassId × ClassId × ClassId) (B sz : Nat) (σ : Sg) (ad : Nat → Nat) (px : Int32) (py : Int32) (x : Int32) (h1 : ¬ x < 0) (h2 : x ≤ 2) (hbd : ¬ ((0 ≤ px ∧ px < σ.1 0) ∧ (0 ≤ py ∧ py < σ.1 1))) : tq_Met l y_DM_at ((Cond.code y_DM_at prog_1_method_10_code 4 (some .int)) :: tw) ({ frames := 50, cells := 1, slots := 6, locals := 5000 }) (va_Pc [.ref (ad 56), .int px, .int py, .int x] (wP D τ B sz [(ad 56, .inr (0, [.ref (ad 0), .ref (ad 57), .ref (ad 58), .ref (ad 59), .ref (ad 60), .ref (ad 61), .ref (ad (67 + σ.2.2.2.2 2)), .ref (ad (67 + σ.2.2.2.2 3)), .ref (ad (67 + σ.2.2.2.2 4))])), (ad 58, .inr (2, [.int (σ.1 0), .int (σ.1 1), .ref (ad 2), .ref (ad 3), .ref (ad 4), .ref (ad 57), .ref (ad 1)]))])) (tq_Q "java/lang/IndexOutOfBoundsException") 1 6 := by
  refine tq_ofW (cc := prog_1_method_10_code) (maxL := 4) (ret := (some .int)) (by decide) rfl ?_
  intro p e s m args below meth c s₁ B0 hml hv
  obtain ⟨rfl, hv⟩ := hv
  have hx := B0.exec
  have hb := B0.bytes
  have hr := B0.returns
  have hts := atoms_spec (ws := (Cond.code y_DM_at prog_1_method_10_code 4 (some .int)) :: tw) B0.pre
  have htw : ∀ w ∈ tw, w.before _ s = true := fun w hw => hts w (List.mem_cons_of_mem _ hw)
  have hown : s.vm.findClass "DrawingMachine" = some m.cls := findClass_of_methodNamed B0.named
  have hlocks := B0.notSynchronized
  obtain ⟨hC, hP, hD, hsz⟩ := wC_init hv
  subst hsz
  generalize hAe : va_A [(ad 56, .inr (0, [.ref (ad 0), .ref (ad 57), .ref (ad 58), .ref (ad 59), .ref (ad 60), .ref (ad 61), .ref (ad (67 + σ.2.2.2.2 2)), .ref (ad (67 + σ.2.2.2.2 3)), .ref (ad (67 + σ.2.2.2.2 4))])), (ad 58, .inr (2, [.int (σ.1 0), .int (σ.1 1), .ref (ad 2), .ref (ad 3), .ref (ad 4), .ref (ad 57), .ref (ad 1)]))] s.heap.size = A at hC hD
  have hS : va_S A s.heap s.heap [] := va_S.rf
  have hl := lv_entry ([.ref (ad 56), .int px, .int py, .int x]) (n := 4) (Nat.le_of_ble_eq_true rfl)
  rw [lg_entry_eq]
  generalize (lg_sl ([.ref (ad 56), .int px, .int py, .int x]) ++ List.replicate (4 - (lg_sl ([.ref (ad 56), .int px, .int py, .int x])).length) Slot.unset).toArray = ls at hl ⊢
  have hl : lv_has ls 4 [(0, .ref (ad 56)), (1, .int px), (2, .int py), (3, .int x)] := hl
  have htr : e.platform.stackTraces = false := by rw [(Stand.of_body B0).admits.platform]; exact hfl
  have hout : c.exceptionTable.isEmpty = true := BodyLoose.noHandlers B0 (hts _ List.mem_cons_self)
  refine lv_iload_n hx hb d_DM_at_0 rfl (lv_at hl 3 rfl) ?_
  refine lv_if_lt (tgt := 9) hx hb d_DM_at_1 (by decide) (fun c_317 => absurd c_317 h1) (fun c_317 => ?_)
  refine lv_iload_n hx hb d_DM_at_4 rfl (lv_at hl 3 rfl) ?_
  refine lv_iconst (v := 2) hx hb d_DM_at_5 (by decide) ?_
  refine lv_icmp_le (tgt := 19) hx hb d_DM_at_6 (by decide) (fun c_318 => ?_) (fun c_318 => absurd h2 c_318)
  refine lv_iload_n hx hb d_DM_at_19 rfl (lv_at hl 1 rfl) ?_
  refine lv_if_lt (tgt := 49) hx hb d_DM_at_20 (by decide) (fun c_319 => ?_) (fun c_319 => ?_)
  ·
    exact tq_throwH hx hb htr hown (by decide) (by decide) (own_use htw hC own_IO) (htw _ k839) (htw _ k35) (hC.2.2.1.2.2.2.1 (177, "no such place") (by decide)) (hml.trans hl.1.symm) hout hlocks d_DM_at_49 d_DM_at_52 d_DM_at_53 d_DM_at_55 d_DM_at_58 (Nat.le_of_ble_eq_true rfl) (Nat.le_of_ble_eq_true rfl) (Nat.le_of_ble_eq_true rfl) (Nat.le_of_ble_eq_true rfl) hS.1 (fun q hq => by cases hq)
  ·
    refine lv_iload_n hx hb d_DM_at_23 rfl (lv_at hl 1 rfl) ?_
    refine lv_aload_n hx hb d_DM_at_24 rfl (lv_at hl 0 rfl) ?_
    refine va_get (D := D) (ci := 0) (v := .ref (ad 58)) (C := R_DM) (T := F_DM) (N := 9) hx hb htw i_DM hown hC.1 hP 0 rfl rfl 2 (by decide) (htw _ k432) (fun _ h9 => h9) rfl d_DM_at_25 ?_
    refine va_get (D := D) (ci := 2) (v := .int (σ.1 0)) (C := R_Pic) (T := F_Pic) (N := 7) hx hb htw i_Pic hown hC.1 hP 1 rfl rfl 0 (by decide) (htw _ k80) (fun _ h9 => h9) rfl d_DM_at_28 ?_
    refine lv_icmp_ge (tgt := 49) hx hb d_DM_at_31 (by decide) (fun c_320 => ?_) (fun c_320 => ?_)
    ·
      exact tq_throwH hx hb htr hown (by decide) (by decide) (own_use htw hC own_IO) (htw _ k839) (htw _ k35) (hC.2.2.1.2.2.2.1 (177, "no such place") (by decide)) (hml.trans hl.1.symm) hout hlocks d_DM_at_49 d_DM_at_52 d_DM_at_53 d_DM_at_55 d_DM_at_58 (Nat.le_of_ble_eq_true rfl) (Nat.le_of_ble_eq_true rfl) (Nat.le_of_ble_eq_true rfl) (Nat.le_of_ble_eq_true rfl) hS.1 (fun q hq => by cases hq)
    ·
      refine lv_iload_n hx hb d_DM_at_34 rfl (lv_at hl 2 rfl) ?_
      refine lv_if_lt (tgt := 49) hx hb d_DM_at_35 (by decide) (fun c_321 => ?_) (fun c_321 => ?_)
      ·
        exact tq_throwH hx hb htr hown (by decide) (by decide) (own_use htw hC own_IO) (htw _ k839) (htw _ k35) (hC.2.2.1.2.2.2.1 (177, "no such place") (by decide)) (hml.trans hl.1.symm) hout hlocks d_DM_at_49 d_DM_at_52 d_DM_at_53 d_DM_at_55 d_DM_at_58 (Nat.le_of_ble_eq_true rfl) (Nat.le_of_ble_eq_true rfl) (Nat.le_of_ble_eq_true rfl) (Nat.le_of_ble_eq_true rfl) hS.1 (fun q hq => by cases hq)
      ·
        refine lv_iload_n hx hb d_DM_at_38 rfl (lv_at hl 2 rfl) ?_
        refine lv_aload_n hx hb d_DM_at_39 rfl (lv_at hl 0 rfl) ?_
        refine va_get (D := D) (ci := 0) (v := .ref (ad 58)) (C := R_DM) (T := F_DM) (N := 9) hx hb htw i_DM hown hC.1 hP 0 rfl rfl 2 (by decide) (htw _ k432) (fun _ h9 => h9) rfl d_DM_at_40 ?_
        refine va_get (D := D) (ci := 2) (v := .int (σ.1 1)) (C := R_Pic) (T := F_Pic) (N := 7) hx hb htw i_Pic hown hC.1 hP 1 rfl rfl 1 (by decide) (htw _ k83) (fun _ h9 => h9) rfl d_DM_at_43 ?_
        refine lv_icmp_lt (tgt := 59) hx hb d_DM_at_46 (by decide) (fun c_322 => absurd ⟨⟨Int32.not_lt.mp c_319, Int32.not_le.mp c_320⟩, Int32.not_lt.mp c_321, c_322⟩ hbd) (fun c_322 => ?_)
        exact tq_throwH hx hb htr hown (by decide) (by decide) (own_use htw hC own_IO) (htw _ k839) (htw _ k35) (hC.2.2.1.2.2.2.1 (177, "no such place") (by decide)) (hml.trans hl.1.symm) hout hlocks d_DM_at_49 d_DM_at_52 d_DM_at_53 d_DM_at_55 d_DM_at_58 (Nat.le_of_ble_eq_true rfl) (Nat.le_of_ble_eq_true rfl) (Nat.le_of_ble_eq_true rfl) (Nat.le_of_ble_eq_true rfl) hS.1 (fun q hq => by cases hq)

theorem d_DM_sum_12 : decode prog_1_method_11_code 12 = .ok (.dup, 1) := by decide +kernel
theorem d_DM_sum_13 : decode prog_1_method_11_code 13 = .ok (.ldc 183, 2) := by decide +kernel
theorem d_DM_sum_15 : decode prog_1_method_11_code 15 = .ok (.invokespecial 78, 3) := by decide +kernel
theorem d_DM_sum_18 : decode prog_1_method_11_code 18 = .ok (.athrow, 1) := by decide +kernel
set_option maxHeartbeats 4000000 in
set_option maxRecDepth 100000 in
theorem c_sum_b (l : Launch) (hfl : l.stackTraces = false) (D : va_G) (τ : ClassId × ClassId × ClassId) (B sz : Nat) (σ : Sg) (ad : Nat → Nat) (x : Int32) (hbd : x < 0 ∨ 2 < x) : tq_Met l y_DM_sum ((Cond.code y_DM_sum prog_1_method_11_code 6 (some .int)) :: tw) ({ frames := 50, cells := 1, slots := 6, locals := 5000 }) (va_Pc [.ref (ad 56), .int x] (wP D τ B sz [])) (tq_Q "java/lang/IllegalArgumentException") 1 6 := by
  refine tq_ofW (cc := prog_1_method_11_code) (maxL := 6) (ret := (some .int)) (by decide) rfl ?_
  intro p e s m args below meth c s₁ B0 hml hv
  obtain ⟨rfl, hv⟩ := hv
  have hx := B0.exec
  have hb := B0.bytes
  have hr := B0.returns
  have hts := atoms_spec (ws := (Cond.code y_DM_sum prog_1_method_11_code 6 (some .int)) :: tw) B0.pre
  have htw : ∀ w ∈ tw, w.before _ s = true := fun w hw => hts w (List.mem_cons_of_mem _ hw)
  have hown : s.vm.findClass "DrawingMachine" = some m.cls := findClass_of_methodNamed B0.named
  have hlocks := B0.notSynchronized
  obtain ⟨hC, hP, hD, hsz⟩ := wC_init hv
  subst hsz
  generalize hAe : va_A [] s.heap.size = A at hC hD
  have hS : va_S A s.heap s.heap [] := va_S.rf
  have hl := lv_entry ([.ref (ad 56), .int x]) (n := 6) (Nat.le_of_ble_eq_true rfl)
  rw [lg_entry_eq]
  generalize (lg_sl ([.ref (ad 56), .int x]) ++ List.replicate (6 - (lg_sl ([.ref (ad 56), .int x])).length) Slot.unset).toArray = ls at hl ⊢
  have hl : lv_has ls 6 [(0, .ref (ad 56)), (1, .int x)] := hl
  have htr : e.platform.stackTraces = false := by rw [(Stand.of_body B0).admits.platform]; exact hfl
  have hout : c.exceptionTable.isEmpty = true := BodyLoose.noHandlers B0 (hts _ List.mem_cons_self)
  have hA0 : ∀ q, A q → s.heap.size ≤ q := by
    intro q h
    rw [← hAe] at h
    rcases h with ⟨k, e, h⟩ | h
    · simp at h
    · exact h
  refine lv_iload_n hx hb d_DM_sum_0 rfl (lv_at hl 1 rfl) ?_
  refine lv_if_lt (tgt := 9) hx hb d_DM_sum_1 (by decide) (fun c_323 => ?_) (fun c_323 => ?_)
  ·
    exact tq_throwH hx hb htr hown (by decide) (by decide) (own_use htw hC own_IA) (htw _ k485) (htw _ k24) (hC.2.2.1.2.2.2.1 (183, "places have no such thing") (by decide)) (hml.trans hl.1.symm) hout hlocks d_DM_sum_9 d_DM_sum_12 d_DM_sum_13 d_DM_sum_15 d_DM_sum_18 (Nat.le_of_ble_eq_true rfl) (Nat.le_of_ble_eq_true rfl) (Nat.le_of_ble_eq_true rfl) (Nat.le_of_ble_eq_true rfl) hS.1 (fun q hq => hA0 _ (hS.2.2 q hq))
  ·
    refine lv_iload_n hx hb d_DM_sum_4 rfl (lv_at hl 1 rfl) ?_
    refine lv_iconst (v := 2) hx hb d_DM_sum_5 (by decide) ?_
    refine lv_icmp_le (tgt := 19) hx hb d_DM_sum_6 (by decide) (fun c_324 => absurd hbd (not_or.mpr ⟨c_323, Int32.not_lt.mpr c_324⟩)) (fun c_324 => ?_)
    exact tq_throwH hx hb htr hown (by decide) (by decide) (own_use htw hC own_IA) (htw _ k485) (htw _ k24) (hC.2.2.1.2.2.2.1 (183, "places have no such thing") (by decide)) (hml.trans hl.1.symm) hout hlocks d_DM_sum_9 d_DM_sum_12 d_DM_sum_13 d_DM_sum_15 d_DM_sum_18 (Nat.le_of_ble_eq_true rfl) (Nat.le_of_ble_eq_true rfl) (Nat.le_of_ble_eq_true rfl) (Nat.le_of_ble_eq_true rfl) hS.1 (fun q hq => hA0 _ (hS.2.2 q hq))

theorem d_DM_query_13 : decode prog_1_method_12_code 13 = .ok (.dup, 1) := by decide +kernel
theorem d_DM_query_14 : decode prog_1_method_12_code 14 = .ok (.ldc 185, 2) := by decide +kernel
theorem d_DM_query_16 : decode prog_1_method_12_code 16 = .ok (.invokespecial 78, 3) := by decide +kernel
theorem d_DM_query_19 : decode prog_1_method_12_code 19 = .ok (.athrow, 1) := by decide +kernel
set_option maxHeartbeats 4000000 in
set_option maxRecDepth 100000 in
theorem c_query_b (l : Launch) (hfl : l.stackTraces = false) (D : va_G) (τ : ClassId × ClassId × ClassId) (B sz : Nat) (σ : Sg) (ad : Nat → Nat) (x : Int32) (hbd : x < 0 ∨ 8 ≤ x) : tq_Met l y_DM_query ((Cond.code y_DM_query prog_1_method_12_code 2 (some .int)) :: tw) ({ frames := 50, cells := 1, slots := 6, locals := 5000 }) (va_Pc [.ref (ad 56), .int x] (wP D τ B sz [])) (tq_Q "java/lang/IllegalArgumentException") 1 6 := by
  refine tq_ofW (cc := prog_1_method_12_code) (maxL := 2) (ret := (some .int)) (by decide) rfl ?_
  intro p e s m args below meth c s₁ B0 hml hv
  obtain ⟨rfl, hv⟩ := hv
  have hx := B0.exec
  have hb := B0.bytes
  have hr := B0.returns
  have hts := atoms_spec (ws := (Cond.code y_DM_query prog_1_method_12_code 2 (some .int)) :: tw) B0.pre
  have htw : ∀ w ∈ tw, w.before _ s = true := fun w hw => hts w (List.mem_cons_of_mem _ hw)
  have hown : s.vm.findClass "DrawingMachine" = some m.cls := findClass_of_methodNamed B0.named
  have hlocks := B0.notSynchronized
  obtain ⟨hC, hP, hD, hsz⟩ := wC_init hv
  subst hsz
  generalize hAe : va_A [] s.heap.size = A at hC hD
  have hS : va_S A s.heap s.heap [] := va_S.rf
  have hl := lv_entry ([.ref (ad 56), .int x]) (n := 2) (Nat.le_of_ble_eq_true rfl)
  rw [lg_entry_eq]
  generalize (lg_sl ([.ref (ad 56), .int x]) ++ List.replicate (2 - (lg_sl ([.ref (ad 56), .int x])).length) Slot.unset).toArray = ls at hl ⊢
  have hl : lv_has ls 2 [(0, .ref (ad 56)), (1, .int x)] := hl
  have htr : e.platform.stackTraces = false := by rw [(Stand.of_body B0).admits.platform]; exact hfl
  have hout : c.exceptionTable.isEmpty = true := BodyLoose.noHandlers B0 (hts _ List.mem_cons_self)
  have hA0 : ∀ q, A q → s.heap.size ≤ q := by
    intro q h
    rw [← hAe] at h
    rcases h with ⟨k, e, h⟩ | h
    · simp at h
    · exact h
  refine lv_iload_n hx hb d_DM_query_0 rfl (lv_at hl 1 rfl) ?_
  refine lv_if_lt (tgt := 10) hx hb d_DM_query_1 (by decide) (fun c_325 => ?_) (fun c_325 => ?_)
  ·
    exact tq_throwH hx hb htr hown (by decide) (by decide) (own_use htw hC own_IA) (htw _ k485) (htw _ k24) (hC.2.2.1.2.2.2.1 (185, "no such query") (by decide)) (hml.trans hl.1.symm) hout hlocks d_DM_query_10 d_DM_query_13 d_DM_query_14 d_DM_query_16 d_DM_query_19 (Nat.le_of_ble_eq_true rfl) (Nat.le_of_ble_eq_true rfl) (Nat.le_of_ble_eq_true rfl) (Nat.le_of_ble_eq_true rfl) hS.1 (fun q hq => hA0 _ (hS.2.2 q hq))
  ·
    refine lv_iload_n hx hb d_DM_query_4 rfl (lv_at hl 1 rfl) ?_
    refine lv_bipush (v := 8) hx hb d_DM_query_5 (by decide) ?_
    refine lv_icmp_lt (tgt := 20) hx hb d_DM_query_7 (by decide) (fun c_326 => absurd hbd (not_or.mpr ⟨c_325, Int32.not_le.mpr c_326⟩)) (fun c_326 => ?_)
    exact tq_throwH hx hb htr hown (by decide) (by decide) (own_use htw hC own_IA) (htw _ k485) (htw _ k24) (hC.2.2.1.2.2.2.1 (185, "no such query") (by decide)) (hml.trans hl.1.symm) hout hlocks d_DM_query_10 d_DM_query_13 d_DM_query_14 d_DM_query_16 d_DM_query_19 (Nat.le_of_ble_eq_true rfl) (Nat.le_of_ble_eq_true rfl) (Nat.le_of_ble_eq_true rfl) (Nat.le_of_ble_eq_true rfl) hS.1 (fun q hq => hA0 _ (hS.2.2 q hq))

theorem d_DM_count_13 : decode prog_1_method_13_code 13 = .ok (.dup, 1) := by decide +kernel
theorem d_DM_count_14 : decode prog_1_method_13_code 14 = .ok (.ldc 190, 2) := by decide +kernel
theorem d_DM_count_16 : decode prog_1_method_13_code 16 = .ok (.invokespecial 78, 3) := by decide +kernel
theorem d_DM_count_19 : decode prog_1_method_13_code 19 = .ok (.athrow, 1) := by decide +kernel
set_option maxHeartbeats 4000000 in
set_option maxRecDepth 100000 in
theorem c_count_b (l : Launch) (hfl : l.stackTraces = false) (D : va_G) (τ : ClassId × ClassId × ClassId) (B sz : Nat) (σ : Sg) (ad : Nat → Nat) (x : Int32) (hbd : x < 0 ∨ 9 ≤ x) : tq_Met l y_DM_count ((Cond.code y_DM_count prog_1_method_13_code 2 (some .int)) :: tw) ({ frames := 50, cells := 1, slots := 6, locals := 5000 }) (va_Pc [.ref (ad 56), .int x] (wP D τ B sz [])) (tq_Q "java/lang/IllegalArgumentException") 1 6 := by
  refine tq_ofW (cc := prog_1_method_13_code) (maxL := 2) (ret := (some .int)) (by decide) rfl ?_
  intro p e s m args below meth c s₁ B0 hml hv
  obtain ⟨rfl, hv⟩ := hv
  have hx := B0.exec
  have hb := B0.bytes
  have hr := B0.returns
  have hts := atoms_spec (ws := (Cond.code y_DM_count prog_1_method_13_code 2 (some .int)) :: tw) B0.pre
  have htw : ∀ w ∈ tw, w.before _ s = true := fun w hw => hts w (List.mem_cons_of_mem _ hw)
  have hown : s.vm.findClass "DrawingMachine" = some m.cls := findClass_of_methodNamed B0.named
  have hlocks := B0.notSynchronized
  obtain ⟨hC, hP, hD, hsz⟩ := wC_init hv
  subst hsz
  generalize hAe : va_A [] s.heap.size = A at hC hD
  have hS : va_S A s.heap s.heap [] := va_S.rf
  have hl := lv_entry ([.ref (ad 56), .int x]) (n := 2) (Nat.le_of_ble_eq_true rfl)
  rw [lg_entry_eq]
  generalize (lg_sl ([.ref (ad 56), .int x]) ++ List.replicate (2 - (lg_sl ([.ref (ad 56), .int x])).length) Slot.unset).toArray = ls at hl ⊢
  have hl : lv_has ls 2 [(0, .ref (ad 56)), (1, .int x)] := hl
  have htr : e.platform.stackTraces = false := by rw [(Stand.of_body B0).admits.platform]; exact hfl
  have hout : c.exceptionTable.isEmpty = true := BodyLoose.noHandlers B0 (hts _ List.mem_cons_self)
  have hA0 : ∀ q, A q → s.heap.size ≤ q := by
    intro q h
    rw [← hAe] at h
    rcases h with ⟨k, e, h⟩ | h
    · simp at h
    · exact h
  refine lv_iload_n hx hb d_DM_count_0 rfl (lv_at hl 1 rfl) ?_
  refine lv_if_lt (tgt := 10) hx hb d_DM_count_1 (by decide) (fun c_327 => ?_) (fun c_327 => ?_)
  ·
    exact tq_throwH hx hb htr hown (by decide) (by decide) (own_use htw hC own_IA) (htw _ k485) (htw _ k24) (hC.2.2.1.2.2.2.1 (190, "that is not counted") (by decide)) (hml.trans hl.1.symm) hout hlocks d_DM_count_10 d_DM_count_13 d_DM_count_14 d_DM_count_16 d_DM_count_19 (Nat.le_of_ble_eq_true rfl) (Nat.le_of_ble_eq_true rfl) (Nat.le_of_ble_eq_true rfl) (Nat.le_of_ble_eq_true rfl) hS.1 (fun q hq => hA0 _ (hS.2.2 q hq))
  ·
    refine lv_iload_n hx hb d_DM_count_4 rfl (lv_at hl 1 rfl) ?_
    refine lv_bipush (v := 9) hx hb d_DM_count_5 (by decide) ?_
    refine lv_icmp_lt (tgt := 20) hx hb d_DM_count_7 (by decide) (fun c_328 => absurd hbd (not_or.mpr ⟨c_327, Int32.not_le.mpr c_328⟩)) (fun c_328 => ?_)
    exact tq_throwH hx hb htr hown (by decide) (by decide) (own_use htw hC own_IA) (htw _ k485) (htw _ k24) (hC.2.2.1.2.2.2.1 (190, "that is not counted") (by decide)) (hml.trans hl.1.symm) hout hlocks d_DM_count_10 d_DM_count_13 d_DM_count_14 d_DM_count_16 d_DM_count_19 (Nat.le_of_ble_eq_true rfl) (Nat.le_of_ble_eq_true rfl) (Nat.le_of_ble_eq_true rfl) (Nat.le_of_ble_eq_true rfl) hS.1 (fun q hq => hA0 _ (hS.2.2 q hq))

set_option maxHeartbeats 4000000 in
set_option maxRecDepth 100000 in
theorem c_isSide_t (l : Launch) (D : va_G) (τ : ClassId × ClassId × ClassId) (B sz : Nat) (x : Int32) (h1 : ¬ x < 1) (h2 : ¬ 128 < x) : Met l y_DM_isSide ((Cond.code y_DM_isSide prog_1_method_22_code 1 (some .boolean)) :: tw) ({ frames := 20, cells := 0, slots := 0, locals := 2000 }) (va_Pc [.int x] (wP D τ B sz [])) (va_Qi (S := Unit) (fun r u => r = 1) (fun u => wB D τ (va_A [] sz) ((fun _ : Unit => []) u)) (va_A [] sz)) 0 0 (va_A [] sz) := by
  refine Met.ofW (cc := prog_1_method_22_code) (maxL := 1) (ret := (some .boolean)) (by decide) rfl ?_
  intro p e s m args below meth c s₁ B0 hml hv
  obtain ⟨rfl, hv⟩ := hv
  have hx := B0.exec
  have hb := B0.bytes
  have hr := B0.returns
  have hts := atoms_spec (ws := (Cond.code y_DM_isSide prog_1_method_22_code 1 (some .boolean)) :: tw) B0.pre
  have htw : ∀ w ∈ tw, w.before _ s = true := fun w hw => hts w (List.mem_cons_of_mem _ hw)
  have hown : s.vm.findClass "DrawingMachine" = some m.cls := findClass_of_methodNamed B0.named
  have hlocks := B0.notSynchronized
  obtain ⟨hC, hP, hD, hsz⟩ := wC_init hv
  subst hsz
  generalize hAe : va_A [] s.heap.size = A at hC hD ⊢
  have hS : va_S A s.heap s.heap [] := va_S.rf
  have hl := lv_entry ([.int x]) (n := 1) (Nat.le_of_ble_eq_true rfl)
  rw [lg_entry_eq]
  generalize (lg_sl ([.int x]) ++ List.replicate (1 - (lg_sl ([.int x])).length) Slot.unset).toArray = ls at hl ⊢
  have hl : lv_has ls 1 [(0, .int x)] := hl
  refine lv_iload_n hx hb d_DM_isSide_0 rfl (lv_at hl 0 rfl) ?_
  refine lv_iconst (v := 1) hx hb d_DM_isSide_1 (by decide) ?_
  refine lv_icmp_lt (tgt := 16) hx hb d_DM_isSide_2 (by decide) (fun c_329 => absurd c_329 h1) (fun c_329 => ?_)
  refine lv_iload_n hx hb d_DM_isSide_5 rfl (lv_at hl 0 rfl) ?_
  refine lv_sipush (v := 128) hx hb d_DM_isSide_6 (by decide) ?_
  refine lv_icmp_gt (tgt := 16) hx hb d_DM_isSide_9 (by decide) (fun c_330 => absurd c_330 h2) (fun c_330 => ?_)
  refine lv_iconst (v := 1) hx hb d_DM_isSide_12 (by decide) ?_
  refine lv_goto (tgt := 17) hx hb d_DM_isSide_13 (by decide) ?_
  refine W.widen (k := 0) (n := 0) (Nat.le_of_ble_eq_true rfl) (Nat.le_of_ble_eq_true rfl) ?_
  have hP9 := hP.sub (ws' := []) [] rfl
  have hD9 := hD.sub (ws' := []) [] (by decide) rfl
  exact W.zret (v := 1) hx hb hr (by decide) (fun t ht hW => ⟨⟨1, (), rfl, rfl, by rw [ht]; exact hP9, va_K.moved hW.alike hC.1, hD9⟩, hS.F ht⟩) hS.2.2 d_DM_isSide_17

set_option maxHeartbeats 4000000 in
set_option maxRecDepth 100000 in
theorem c_isSide_f (l : Launch) (D : va_G) (τ : ClassId × ClassId × ClassId) (B sz : Nat) (x : Int32) (hbd : x < 1 ∨ 128 < x) : Met l y_DM_isSide ((Cond.code y_DM_isSide prog_1_method_22_code 1 (some .boolean)) :: tw) ({ frames := 20, cells := 0, slots := 0, locals := 2000 }) (va_Pc [.int x] (wP D τ B sz [])) (va_Qi (S := Unit) (fun r u => r = 0) (fun u => wB D τ (va_A [] sz) ((fun _ : Unit => []) u)) (va_A [] sz)) 0 0 (va_A [] sz) := by
  refine Met.ofW (cc := prog_1_method_22_code) (maxL := 1) (ret := (some .boolean)) (by decide) rfl ?_
  intro p e s m args below meth c s₁ B0 hml hv
  obtain ⟨rfl, hv⟩ := hv
  have hx := B0.exec
  have hb := B0.bytes
  have hr := B0.returns
  have hts := atoms_spec (ws := (Cond.code y_DM_isSide prog_1_method_22_code 1 (some .boolean)) :: tw) B0.pre
  have htw : ∀ w ∈ tw, w.before _ s = true := fun w hw => hts w (List.mem_cons_of_mem _ hw)
  have hown : s.vm.findClass "DrawingMachine" = some m.cls := findClass_of_methodNamed B0.named
  have hlocks := B0.notSynchronized
  obtain ⟨hC, hP, hD, hsz⟩ := wC_init hv
  subst hsz
  generalize hAe : va_A [] s.heap.size = A at hC hD ⊢
  have hS : va_S A s.heap s.heap [] := va_S.rf
  have hl := lv_entry ([.int x]) (n := 1) (Nat.le_of_ble_eq_true rfl)
  rw [lg_entry_eq]
  generalize (lg_sl ([.int x]) ++ List.replicate (1 - (lg_sl ([.int x])).length) Slot.unset).toArray = ls at hl ⊢
  have hl : lv_has ls 1 [(0, .int x)] := hl
  refine lv_iload_n hx hb d_DM_isSide_0 rfl (lv_at hl 0 rfl) ?_
  refine lv_iconst (v := 1) hx hb d_DM_isSide_1 (by decide) ?_
  refine lv_icmp_lt (tgt := 16) hx hb d_DM_isSide_2 (by decide) (fun c_331 => ?_) (fun c_331 => ?_)
  ·
    refine lv_iconst (v := 0) hx hb d_DM_isSide_16 (by decide) ?_
    refine W.widen (k := 0) (n := 0) (Nat.le_of_ble_eq_true rfl) (Nat.le_of_ble_eq_true rfl) ?_
    have hP9 := hP.sub (ws' := []) [] rfl
    have hD9 := hD.sub (ws' := []) [] (by decide) rfl
    exact W.zret (v := 0) hx hb hr (by decide) (fun t ht hW => ⟨⟨0, (), rfl, rfl, by rw [ht]; exact hP9, va_K.moved hW.alike hC.1, hD9⟩, hS.F ht⟩) hS.2.2 d_DM_isSide_17
  ·
    refine lv_iload_n hx hb d_DM_isSide_5 rfl (lv_at hl 0 rfl) ?_
    refine lv_sipush (v := 128) hx hb d_DM_isSide_6 (by decide) ?_
    refine lv_icmp_gt (tgt := 16) hx hb d_DM_isSide_9 (by decide) (fun c_332 => ?_) (fun c_332 => absurd hbd (not_or.mpr ⟨c_331, c_332⟩))
    refine lv_iconst (v := 0) hx hb d_DM_isSide_16 (by decide) ?_
    refine W.widen (k := 0) (n := 0) (Nat.le_of_ble_eq_true rfl) (Nat.le_of_ble_eq_true rfl) ?_
    have hP9 := hP.sub (ws' := []) [] rfl
    have hD9 := hD.sub (ws' := []) [] (by decide) rfl
    exact W.zret (v := 0) hx hb hr (by decide) (fun t ht hW => ⟨⟨0, (), rfl, rfl, by rw [ht]; exact hP9, va_K.moved hW.alike hC.1, hD9⟩, hS.F ht⟩) hS.2.2 d_DM_isSide_17

set_option maxHeartbeats 4000000 in
set_option maxRecDepth 100000 in
theorem c_isTile_f (l : Launch) (D : va_G) (τ : ClassId × ClassId × ClassId) (B sz : Nat) (x : Int32) (hs : ¬ (x = 8 ∨ x = 16 ∨ x = 32 ∨ x = 64)) : Met l y_DM_isTileSide ((Cond.code y_DM_isTileSide prog_1_method_23_code 1 (some .boolean)) :: tw) ({ frames := 20, cells := 0, slots := 0, locals := 2000 }) (va_Pc [.int x] (wP D τ B sz [])) (va_Qi (S := Unit) (fun r u => r = 0) (fun u => wB D τ (va_A [] sz) ((fun _ : Unit => []) u)) (va_A [] sz)) 0 0 (va_A [] sz) := by
  refine Met.ofW (cc := prog_1_method_23_code) (maxL := 1) (ret := (some .boolean)) (by decide) rfl ?_
  intro p e s m args below meth c s₁ B0 hml hv
  obtain ⟨rfl, hv⟩ := hv
  have hx := B0.exec
  have hb := B0.bytes
  have hr := B0.returns
  have hts := atoms_spec (ws := (Cond.code y_DM_isTileSide prog_1_method_23_code 1 (some .boolean)) :: tw) B0.pre
  have htw : ∀ w ∈ tw, w.before _ s = true := fun w hw => hts w (List.mem_cons_of_mem _ hw)
  have hown : s.vm.findClass "DrawingMachine" = some m.cls := findClass_of_methodNamed B0.named
  have hlocks := B0.notSynchronized
  obtain ⟨hC, hP, hD, hsz⟩ := wC_init hv
  subst hsz
  generalize hAe : va_A [] s.heap.size = A at hC hD ⊢
  have hS : va_S A s.heap s.heap [] := va_S.rf
  have hl := lv_entry ([.int x]) (n := 1) (Nat.le_of_ble_eq_true rfl)
  rw [lg_entry_eq]
  generalize (lg_sl ([.int x]) ++ List.replicate (1 - (lg_sl ([.int x])).length) Slot.unset).toArray = ls at hl ⊢
  have hl : lv_has ls 1 [(0, .int x)] := hl
  refine lv_iload_n hx hb d_DM_isTileSide_0 rfl (lv_at hl 0 rfl) ?_
  refine lv_bipush (v := 8) hx hb d_DM_isTileSide_1 (by decide) ?_
  refine lv_icmp_eq (tgt := 24) hx hb d_DM_isTileSide_3 (by decide) (fun c_333 => absurd (Or.inl c_333) hs) (fun c_333 => ?_)
  refine lv_iload_n hx hb d_DM_isTileSide_6 rfl (lv_at hl 0 rfl) ?_
  refine lv_bipush (v := 16) hx hb d_DM_isTileSide_7 (by decide) ?_
  refine lv_icmp_eq (tgt := 24) hx hb d_DM_isTileSide_9 (by decide) (fun c_334 => absurd (Or.inr (Or.inl c_334)) hs) (fun c_334 => ?_)
  refine lv_iload_n hx hb d_DM_isTileSide_12 rfl (lv_at hl 0 rfl) ?_
  refine lv_bipush (v := 32) hx hb d_DM_isTileSide_13 (by decide) ?_
  refine lv_icmp_eq (tgt := 24) hx hb d_DM_isTileSide_15 (by decide) (fun c_335 => absurd (Or.inr (Or.inr (Or.inl c_335))) hs) (fun c_335 => ?_)
  refine lv_iload_n hx hb d_DM_isTileSide_18 rfl (lv_at hl 0 rfl) ?_
  refine lv_bipush (v := 64) hx hb d_DM_isTileSide_19 (by decide) ?_
  refine lv_icmp_ne (tgt := 28) hx hb d_DM_isTileSide_21 (by decide) (fun c_336 => ?_) (fun c_336 => absurd (Or.inr (Or.inr (Or.inr c_336))) hs)
  refine lv_iconst (v := 0) hx hb d_DM_isTileSide_28 (by decide) ?_
  refine W.widen (k := 0) (n := 0) (Nat.le_of_ble_eq_true rfl) (Nat.le_of_ble_eq_true rfl) ?_
  have hP9 := hP.sub (ws' := []) [] rfl
  have hD9 := hD.sub (ws' := []) [] (by decide) rfl
  exact W.zret (v := 0) hx hb hr (by decide) (fun t ht hW => ⟨⟨0, (), rfl, rfl, by rw [ht]; exact hP9, va_K.moved hW.alike hC.1, hD9⟩, hS.F ht⟩) hS.2.2 d_DM_isTileSide_29

theorem d_DM_frame_24 : decode prog_1_method_2_code 24 = .ok (.dup, 1) := by decide +kernel
theorem d_DM_frame_25 : decode prog_1_method_2_code 25 = .ok (.ldc 76, 2) := by decide +kernel
theorem d_DM_frame_27 : decode prog_1_method_2_code 27 = .ok (.invokespecial 78, 3) := by decide +kernel
theorem d_DM_frame_30 : decode prog_1_method_2_code 30 = .ok (.athrow, 1) := by decide +kernel
theorem gS_DM_67 : GoodIn tw (va_wsS "DrawingMachine" 67 y_DM_isSide ((Cond.code y_DM_isSide prog_1_method_22_code 1 (some .boolean)) :: tw)) := tw_pre (tw_good k481) (l := [_, _, _]) (List.forall_mem_cons.mpr ⟨k479, List.forall_mem_cons.mpr ⟨k480, List.forall_mem_cons.mpr ⟨k1, fun _ h => absurd h List.not_mem_nil⟩⟩⟩)
set_option maxHeartbeats 4000000 in
set_option maxRecDepth 100000 in
theorem c_frame_b1 (l : Launch) (hfl : l.stackTraces = false) (D : va_G) (τ : ClassId × ClassId × ClassId) (B sz : Nat) (σ : Sg) (ad : Nat → Nat) (w : Int32) (h : Int32) (sd : Int32) (hbd : w < 1 ∨ 128 < w) : tq_Met l y_DM_frame ((Cond.code y_DM_frame prog_1_method_2_code 4 (some .int)) :: tw) ({ frames := 60, cells := 1, slots := 6, locals := 6000 }) (va_Pc [.ref (ad 56), .int w, .int h, .int sd] (wP D τ B sz [])) (tq_Q "java/lang/IllegalArgumentException") 1 6 := by
  refine tq_ofW (cc := prog_1_method_2_code) (maxL := 4) (ret := (some .int)) (by decide) rfl ?_
  intro p e s m args below meth c s₁ B0 hml hv
  obtain ⟨rfl, hv⟩ := hv
  have hx := B0.exec
  have hb := B0.bytes
  have hr := B0.returns
  have hts := atoms_spec (ws := (Cond.code y_DM_frame prog_1_method_2_code 4 (some .int)) :: tw) B0.pre
  have htw : ∀ w ∈ tw, w.before _ s = true := fun w hw => hts w (List.mem_cons_of_mem _ hw)
  have hown : s.vm.findClass "DrawingMachine" = some m.cls := findClass_of_methodNamed B0.named
  have hlocks := B0.notSynchronized
  obtain ⟨hC, hP, hD, hsz⟩ := wC_init hv
  subst hsz
  generalize hAe : va_A [] s.heap.size = A at hC hD
  have hS : va_S A s.heap s.heap [] := va_S.rf
  have hl := lv_entry ([.ref (ad 56), .int w, .int h, .int sd]) (n := 4) (Nat.le_of_ble_eq_true rfl)
  rw [lg_entry_eq]
  generalize (lg_sl ([.ref (ad 56), .int w, .int h, .int sd]) ++ List.replicate (4 - (lg_sl ([.ref (ad 56), .int w, .int h, .int sd])).length) Slot.unset).toArray = ls at hl ⊢
  have hl : lv_has ls 4 [(0, .ref (ad 56)), (1, .int w), (2, .int h), (3, .int sd)] := hl
  have htr : e.platform.stackTraces = false := by rw [(Stand.of_body B0).admits.platform]; exact hfl
  have hout : c.exceptionTable.isEmpty = true := BodyLoose.noHandlers B0 (hts _ List.mem_cons_self)
  have hA0 : ∀ q, A q → s.heap.size ≤ q := by
    intro q h
    rw [← hAe] at h
    rcases h with ⟨k, e, h⟩ | h
    · simp at h
    · exact h
  refine lv_iload_n hx hb d_DM_frame_0 rfl (lv_at hl 1 rfl) ?_
  refine wc_i (wr := []) hC hP hD hS [] [] rfl rfl (by decide) (by decide) (va_runS (As := [.int w]) (rest := []) ⟨hx, hb, hml, hown, htw⟩ (c_isSide_f l D τ B _ w (hbd)) (va_cwS 1 htw gS_DM_67 rfl rfl rfl (by decide +kernel) ⟨Nat.le_of_ble_eq_true rfl, Nat.le_of_ble_eq_true rfl⟩) (wC_pre hC hP hD hS [] (by decide) rfl) rfl rfl hl.1 rfl (lv_room (Nat.le_of_ble_eq_true rfl)) d_DM_frame_1 ⟨Nat.le_of_ble_eq_true rfl, Nat.le_of_ble_eq_true rfl⟩) (fun r339 u337 H locs hw338 hP hD hS => ?_)
  obtain rfl : r339 = 0 := hw338
  have hP : va_P D classes [] H := hP
  have hD : va_D A [] := hD
  refine W.widen (k := 0) (n := 0) (by omega) (by omega) ?_
  refine lv_if_eq (tgt := 21) hx hb d_DM_frame_4 (by decide) (fun c_340 => ?_) (fun c_340 => absurd c_340 (by decide))
  exact tq_throwH hx hb htr hown (by decide) (by decide) (own_use htw hC own_IA) (htw _ k485) (htw _ k24) (hC.2.2.1.2.2.2.1 (76, "no such frame") (by decide)) (hml.trans hl.1.symm) hout hlocks d_DM_frame_21 d_DM_frame_24 d_DM_frame_25 d_DM_frame_27 d_DM_frame_30 (Nat.le_of_ble_eq_true rfl) (Nat.le_of_ble_eq_true rfl) (Nat.le_of_ble_eq_true rfl) (Nat.le_of_ble_eq_true rfl) hS.1 (fun q hq => hA0 _ (hS.2.2 q hq))

set_option maxHeartbeats 4000000 in
set_option maxRecDepth 100000 in
theorem c_frame_b2 (l : Launch) (hfl : l.stackTraces = false) (D : va_G) (τ : ClassId × ClassId × ClassId) (B sz : Nat) (σ : Sg) (ad : Nat → Nat) (w : Int32) (h : Int32) (sd : Int32) (h1 : ¬ w < 1) (h2 : ¬ 128 < w) (hbd : h < 1 ∨ 128 < h) : tq_Met l y_DM_frame ((Cond.code y_DM_frame prog_1_method_2_code 4 (some .int)) :: tw) ({ frames := 60, cells := 1, slots := 6, locals := 6000 }) (va_Pc [.ref (ad 56), .int w, .int h, .int sd] (wP D τ B sz [])) (tq_Q "java/lang/IllegalArgumentException") 1 6 := by
  refine tq_ofW (cc := prog_1_method_2_code) (maxL := 4) (ret := (some .int)) (by decide) rfl ?_
  intro p e s m args below meth c s₁ B0 hml hv
  obtain ⟨rfl, hv⟩ := hv
  have hx := B0.exec
  have hb := B0.bytes
  have hr := B0.returns
  have hts := atoms_spec (ws := (Cond.code y_DM_frame prog_1_method_2_code 4 (some .int)) :: tw) B0.pre
  have htw : ∀ w ∈ tw, w.before _ s = true := fun w hw => hts w (List.mem_cons_of_mem _ hw)
  have hown : s.vm.findClass "DrawingMachine" = some m.cls := findClass_of_methodNamed B0.named
  have hlocks := B0.notSynchronized
  obtain ⟨hC, hP, hD, hsz⟩ := wC_init hv
  subst hsz
  generalize hAe : va_A [] s.heap.size = A at hC hD
  have hS : va_S A s.heap s.heap [] := va_S.rf
  have hl := lv_entry ([.ref (ad 56), .int w, .int h, .int sd]) (n := 4) (Nat.le_of_ble_eq_true rfl)
  rw [lg_entry_eq]
  generalize (lg_sl ([.ref (ad 56), .int w, .int h, .int sd]) ++ List.replicate (4 - (lg_sl ([.ref (ad 56), .int w, .int h, .int sd])).length) Slot.unset).toArray = ls at hl ⊢
  have hl : lv_has ls 4 [(0, .ref (ad 56)), (1, .int w), (2, .int h), (3, .int sd)] := hl
  have htr : e.platform.stackTraces = false := by rw [(Stand.of_body B0).admits.platform]; exact hfl
  have hout : c.exceptionTable.isEmpty = true := BodyLoose.noHandlers B0 (hts _ List.mem_cons_self)
  have hA0 : ∀ q, A q → s.heap.size ≤ q := by
    intro q h
    rw [← hAe] at h
    rcases h with ⟨k, e, h⟩ | h
    · simp at h
    · exact h
  refine lv_iload_n hx hb d_DM_frame_0 rfl (lv_at hl 1 rfl) ?_
  refine wc_i (wr := []) hC hP hD hS [] [] rfl rfl (by decide) (by decide) (va_runS (As := [.int w]) (rest := []) ⟨hx, hb, hml, hown, htw⟩ (c_isSide_t l D τ B _ w (h1) (h2)) (va_cwS 1 htw gS_DM_67 rfl rfl rfl (by decide +kernel) ⟨Nat.le_of_ble_eq_true rfl, Nat.le_of_ble_eq_true rfl⟩) (wC_pre hC hP hD hS [] (by decide) rfl) rfl rfl hl.1 rfl (lv_room (Nat.le_of_ble_eq_true rfl)) d_DM_frame_1 ⟨Nat.le_of_ble_eq_true rfl, Nat.le_of_ble_eq_true rfl⟩) (fun r343 u341 H locs hw342 hP hD hS => ?_)
  obtain rfl : r343 = 1 := hw342
  have hP : va_P D classes [] H := hP
  have hD : va_D A [] := hD
  refine W.widen (k := 0) (n := 0) (by omega) (by omega) ?_
  refine lv_if_eq (tgt := 21) hx hb d_DM_frame_4 (by decide) (fun c_344 => absurd c_344 (by decide)) (fun c_344 => ?_)
  refine lv_iload_n hx hb d_DM_frame_7 rfl (lv_at hl 2 rfl) ?_
  refine wc_i (wr := []) hC hP hD hS [] [] rfl rfl (by decide) (by decide) (va_runS (As := [.int h]) (rest := []) ⟨hx, hb, hml, hown, htw⟩ (c_isSide_f l D τ B _ h (hbd)) (va_cwS 1 htw gS_DM_67 rfl rfl rfl (by decide +kernel) ⟨Nat.le_of_ble_eq_true rfl, Nat.le_of_ble_eq_true rfl⟩) (wC_pre hC hP hD hS [] (by decide) rfl) rfl rfl hl.1 rfl (lv_room (Nat.le_of_ble_eq_true rfl)) d_DM_frame_8 ⟨Nat.le_of_ble_eq_true rfl, Nat.le_of_ble_eq_true rfl⟩) (fun r347 u345 H locs hw346 hP hD hS => ?_)
  obtain rfl : r347 = 0 := hw346
  have hP : va_P D classes [] H := hP
  have hD : va_D A [] := hD
  refine W.widen (k := 0) (n := 0) (by omega) (by omega) ?_
  refine lv_if_eq (tgt := 21) hx hb d_DM_frame_11 (by decide) (fun c_348 => ?_) (fun c_348 => absurd c_348 (by decide))
  exact tq_throwH hx hb htr hown (by decide) (by decide) (own_use htw hC own_IA) (htw _ k485) (htw _ k24) (hC.2.2.1.2.2.2.1 (76, "no such frame") (by decide)) (hml.trans hl.1.symm) hout hlocks d_DM_frame_21 d_DM_frame_24 d_DM_frame_25 d_DM_frame_27 d_DM_frame_30 (Nat.le_of_ble_eq_true rfl) (Nat.le_of_ble_eq_true rfl) (Nat.le_of_ble_eq_true rfl) (Nat.le_of_ble_eq_true rfl) hS.1 (fun q hq => hA0 _ (hS.2.2 q hq))

theorem gS_DM_71 : GoodIn tw (va_wsS "DrawingMachine" 71 y_DM_isTileSide ((Cond.code y_DM_isTileSide prog_1_method_23_code 1 (some .boolean)) :: tw)) := tw_pre (tw_good k484) (l := [_, _, _]) (List.forall_mem_cons.mpr ⟨k482, List.forall_mem_cons.mpr ⟨k483, List.forall_mem_cons.mpr ⟨k1, fun _ h => absurd h List.not_mem_nil⟩⟩⟩)
set_option maxHeartbeats 4000000 in
set_option maxRecDepth 100000 in
theorem c_frame_b3 (l : Launch) (hfl : l.stackTraces = false) (D : va_G) (τ : ClassId × ClassId × ClassId) (B sz : Nat) (σ : Sg) (ad : Nat → Nat) (w : Int32) (h : Int32) (sd : Int32) (h1 : ¬ w < 1) (h2 : ¬ 128 < w) (h3 : ¬ h < 1) (h4 : ¬ 128 < h) (hbd : ¬ (sd = 8 ∨ sd = 16 ∨ sd = 32 ∨ sd = 64)) : tq_Met l y_DM_frame ((Cond.code y_DM_frame prog_1_method_2_code 4 (some .int)) :: tw) ({ frames := 60, cells := 1, slots := 6, locals := 6000 }) (va_Pc [.ref (ad 56), .int w, .int h, .int sd] (wP D τ B sz [])) (tq_Q "java/lang/IllegalArgumentException") 1 6 := by
  refine tq_ofW (cc := prog_1_method_2_code) (maxL := 4) (ret := (some .int)) (by decide) rfl ?_
  intro p e s m args below meth c s₁ B0 hml hv
  obtain ⟨rfl, hv⟩ := hv
  have hx := B0.exec
  have hb := B0.bytes
  have hr := B0.returns
  have hts := atoms_spec (ws := (Cond.code y_DM_frame prog_1_method_2_code 4 (some .int)) :: tw) B0.pre
  have htw : ∀ w ∈ tw, w.before _ s = true := fun w hw => hts w (List.mem_cons_of_mem _ hw)
  have hown : s.vm.findClass "DrawingMachine" = some m.cls := findClass_of_methodNamed B0.named
  have hlocks := B0.notSynchronized
  obtain ⟨hC, hP, hD, hsz⟩ := wC_init hv
  subst hsz
  generalize hAe : va_A [] s.heap.size = A at hC hD
  have hS : va_S A s.heap s.heap [] := va_S.rf
  have hl := lv_entry ([.ref (ad 56), .int w, .int h, .int sd]) (n := 4) (Nat.le_of_ble_eq_true rfl)
  rw [lg_entry_eq]
  generalize (lg_sl ([.ref (ad 56), .int w, .int h, .int sd]) ++ List.replicate (4 - (lg_sl ([.ref (ad 56), .int w, .int h, .int sd])).length) Slot.unset).toArray = ls at hl ⊢
  have hl : lv_has ls 4 [(0, .ref (ad 56)), (1, .int w), (2, .int h), (3, .int sd)] := hl
  have htr : e.platform.stackTraces = false := by rw [(Stand.of_body B0).admits.platform]; exact hfl
  have hout : c.exceptionTable.isEmpty = true := BodyLoose.noHandlers B0 (hts _ List.mem_cons_self)
  have hA0 : ∀ q, A q → s.heap.size ≤ q := by
    intro q h
    rw [← hAe] at h
    rcases h with ⟨k, e, h⟩ | h
    · simp at h
    · exact h
  refine lv_iload_n hx hb d_DM_frame_0 rfl (lv_at hl 1 rfl) ?_
  refine wc_i (wr := []) hC hP hD hS [] [] rfl rfl (by decide) (by decide) (va_runS (As := [.int w]) (rest := []) ⟨hx, hb, hml, hown, htw⟩ (c_isSide_t l D τ B _ w (h1) (h2)) (va_cwS 1 htw gS_DM_67 rfl rfl rfl (by decide +kernel) ⟨Nat.le_of_ble_eq_true rfl, Nat.le_of_ble_eq_true rfl⟩) (wC_pre hC hP hD hS [] (by decide) rfl) rfl rfl hl.1 rfl (lv_room (Nat.le_of_ble_eq_true rfl)) d_DM_frame_1 ⟨Nat.le_of_ble_eq_true rfl, Nat.le_of_ble_eq_true rfl⟩) (fun r351 u349 H locs hw350 hP hD hS => ?_)
  obtain rfl : r351 = 1 := hw350
  have hP : va_P D classes [] H := hP
  have hD : va_D A [] := hD
  refine W.widen (k := 0) (n := 0) (by omega) (by omega) ?_
  refine lv_if_eq (tgt := 21) hx hb d_DM_frame_4 (by decide) (fun c_352 => absurd c_352 (by decide)) (fun c_352 => ?_)
  refine lv_iload_n hx hb d_DM_frame_7 rfl (lv_at hl 2 rfl) ?_
  refine wc_i (wr := []) hC hP hD hS [] [] rfl rfl (by decide) (by decide) (va_runS (As := [.int h]) (rest := []) ⟨hx, hb, hml, hown, htw⟩ (c_isSide_t l D τ B _ h (h3) (h4)) (va_cwS 1 htw gS_DM_67 rfl rfl rfl (by decide +kernel) ⟨Nat.le_of_ble_eq_true rfl, Nat.le_of_ble_eq_true rfl⟩) (wC_pre hC hP hD hS [] (by decide) rfl) rfl rfl hl.1 rfl (lv_room (Nat.le_of_ble_eq_true rfl)) d_DM_frame_8 ⟨Nat.le_of_ble_eq_true rfl, Nat.le_of_ble_eq_true rfl⟩) (fun r355 u353 H locs hw354 hP hD hS => ?_)
  obtain rfl : r355 = 1 := hw354
  have hP : va_P D classes [] H := hP
  have hD : va_D A [] := hD
  refine W.widen (k := 0) (n := 0) (by omega) (by omega) ?_
  refine lv_if_eq (tgt := 21) hx hb d_DM_frame_11 (by decide) (fun c_356 => absurd c_356 (by decide)) (fun c_356 => ?_)
  refine lv_iload_n hx hb d_DM_frame_14 rfl (lv_at hl 3 rfl) ?_
  refine wc_i (wr := []) hC hP hD hS [] [] rfl rfl (by decide) (by decide) (va_runS (As := [.int sd]) (rest := []) ⟨hx, hb, hml, hown, htw⟩ (c_isTile_f l D τ B _ sd (hbd)) (va_cwS 1 htw gS_DM_71 rfl rfl rfl (by decide +kernel) ⟨Nat.le_of_ble_eq_true rfl, Nat.le_of_ble_eq_true rfl⟩) (wC_pre hC hP hD hS [] (by decide) rfl) rfl rfl hl.1 rfl (lv_room (Nat.le_of_ble_eq_true rfl)) d_DM_frame_15 ⟨Nat.le_of_ble_eq_true rfl, Nat.le_of_ble_eq_true rfl⟩) (fun r359 u357 H locs hw358 hP hD hS => ?_)
  obtain rfl : r359 = 0 := hw358
  have hP : va_P D classes [] H := hP
  have hD : va_D A [] := hD
  refine W.widen (k := 0) (n := 0) (by omega) (by omega) ?_
  refine lv_if_ne (tgt := 31) hx hb d_DM_frame_18 (by decide) (fun c_360 => absurd c_360 (by decide)) (fun c_360 => ?_)
  exact tq_throwH hx hb htr hown (by decide) (by decide) (own_use htw hC own_IA) (htw _ k485) (htw _ k24) (hC.2.2.1.2.2.2.1 (76, "no such frame") (by decide)) (hml.trans hl.1.symm) hout hlocks d_DM_frame_21 d_DM_frame_24 d_DM_frame_25 d_DM_frame_27 d_DM_frame_30 (Nat.le_of_ble_eq_true rfl) (Nat.le_of_ble_eq_true rfl) (Nat.le_of_ble_eq_true rfl) (Nat.le_of_ble_eq_true rfl) hS.1 (fun q hq => hA0 _ (hS.2.2 q hq))
