theorem d_law_frame_0 : decode method_3_code 0 = .ok (.aload 4, 2) := by decide +kernel
theorem d_law_frame_2 : decode method_3_code 2 = .ok (.iconst 0, 1) := by decide +kernel
theorem d_law_frame_3 : decode method_3_code 3 = .ok (.aload_n 0, 1) := by decide +kernel
theorem d_law_frame_4 : decode method_3_code 4 = .ok (.iload_n 1, 1) := by decide +kernel
theorem d_law_frame_5 : decode method_3_code 5 = .ok (.iload_n 2, 1) := by decide +kernel
theorem d_law_frame_6 : decode method_3_code 6 = .ok (.iload_n 3, 1) := by decide +kernel
theorem d_law_frame_7 : decode method_3_code 7 = .ok (.invokevirtual 7, 3) := by decide +kernel
theorem d_law_frame_10 : decode method_3_code 10 = .ok (.i2l, 1) := by decide +kernel
theorem d_law_frame_11 : decode method_3_code 11 = .ok (.lastore, 1) := by decide +kernel
theorem d_law_frame_12 : decode method_3_code 12 = .ok (.goto 7, 3) := by decide +kernel
theorem d_law_frame_19 : decode method_3_code 19 = .ok (.iconst 0, 1) := by decide +kernel
theorem d_law_frame_20 : decode method_3_code 20 = .ok (.ireturn, 1) := by decide +kernel
set_option maxRecDepth 100000 in
set_option maxHeartbeats 4000000 in
theorem h_frame_g (l : Launch) (D : va_G) (τ : ClassId × ClassId × ClassId) (B : Nat) (σ : Sg) (ad : Nat → Nat) (f : Nat → Int64) (ou : Nat) (fw : Int32) (fh : Int32) (sd : Int32) (o : Sg × Int32) (h : F_DM_frame σ fw fh sd = some o) : MIa l y_law_frame (Cond.codeWith y_law_frame method_3_code 6 (some .int) [(0, 12, 15, 13)]) 8 0 0 D τ B [.ref (ad 56), .int fw, .int fh, .int sd, .ref ou] ([oc τ ou f] ++ wdC τ σ ad) Unit (fun r _ => r = 0) (fun _ => [oc τ ou (vp_updL f (0 : Int32).toNatClampNeg o.2.toInt64)] ++ wdC τ o.1 ad) := by
  refine en_iw (by decide) (Nat.le_of_ble_eq_true rfl) ?_
  intro p e R s m args below meth c H locs ls A E hRc hRs hret hta w hl
  have E : Cx p R s m args meth c method_3_code 6 "DrawingMachineLaw" 8 D τ B A := E
  have hl : lv_has ls 6 [(0, .ref (ad 56)), (1, .int fw), (2, .int fh), (3, .int sd), (4, .ref ou)] := hl
  refine lv_aload E.x E.b d_law_frame_0 (lv_at hl 4 rfl) ?_
  refine lv_iconst (v := 0) E.x E.b d_law_frame_2 (by decide) ?_
  refine lv_aload_n E.x E.b d_law_frame_3 rfl (lv_at hl 0 rfl) ?_
  refine lv_iload_n E.x E.b d_law_frame_4 rfl (lv_at hl 1 rfl) ?_
  refine lv_iload_n E.x E.b d_law_frame_5 rfl (lv_at hl 2 rfl) ?_
  refine lv_iload_n E.x E.b d_law_frame_6 rfl (lv_at hl 3 rfl) ?_
  refine gr_i E.C w (va_runV (As := [.int fw, .int fh, .int sd]) (rest := [.int 0, .ref ou]) E.fix (c_DM_frame l D τ B σ ad fw fh sd o h _) (cwV 3 E.w (tw_pre (tw_good k478) (l := [_, _, _, _]) (List.forall_mem_cons.mpr ⟨k475, List.forall_mem_cons.mpr ⟨k476, List.forall_mem_cons.mpr ⟨k477, List.forall_mem_cons.mpr ⟨k1, fun _ h => absurd h List.not_mem_nil⟩⟩⟩⟩)) rfl rfl rfl (by decide +kernel) ⟨Nat.le_trans (Nat.le_of_ble_eq_true rfl) E.2.2.2.2.2.2.1, Nat.le_trans (Nat.le_of_ble_eq_true rfl) E.2.2.2.2.2.2.2.1⟩) (pvR E.C w [.int fw, .int fh, .int sd] (q0 := 56) rfl rfl) rfl rfl hl.1 rfl (lv_room (Nat.le_of_ble_eq_true rfl)) d_law_frame_7 ⟨Nat.zero_le _, Nat.zero_le _⟩) (fun r u H locs hr w => ?_)
  refine W.widen (k := 0) (n := 0) (by omega) (by omega) ?_
  have hr : r = o.2 := hr
  rw [hr]
  refine lv_i2l (v := o.2.toInt64) E.x E.b d_law_frame_10 rfl ?_
  refine rx_las (ws' := [oc τ ou (vp_updL f (0 : Int32).toNatClampNeg o.2.toInt64)] ++ wdC τ o.1 ad) E w (k := 0) rfl (by decide) rfl d_law_frame_11 (fun H locs w => ?_)
  refine lv_goto (tgt := 19) E.x E.b d_law_frame_12 (by decide) ?_
  refine lv_iconst (v := 0) E.x E.b d_law_frame_19 (by decide) ?_
  exact rt_ia E () rfl w hret d_law_frame_20
set_option maxRecDepth 100000 in
set_option maxHeartbeats 4000000 in
theorem h_frame_n (l : Launch) (D : va_G) (τ : ClassId × ClassId × ClassId) (B : Nat) (σ : Sg) (ad : Nat → Nat) (f : Nat → Int64) (ou : Nat) (a : Nat) (b : Nat) (r1 : Nat) (rm : Nat) (sd : Int32) (ha1 : 1 ≤ a) (ha2 : a ≤ 128) (hb1 : 1 ≤ b) (hb2 : b ≤ 128) (hgt : ¬ nI (a * b) ≤ nI (σ.2.2.2.2 0)) (hr1 : imax (nI (a * b)) (nI (2 * σ.2.2.2.2 0)) = nI r1) (hrm : imin (nI r1) 16384 = nI rm) (hrm2 : rm ≤ 16384) (hs : sd = 8 ∨ sd = 16 ∨ sd = 32 ∨ sd = 64) : MIa l y_law_frame (Cond.codeWith y_law_frame method_3_code 6 (some .int) [(0, 12, 15, 13)]) 8 3 (3 * rm) D τ B [.ref (ad 56), .int (nI a), .int (nI b), .int sd, .ref ou] ([oc τ ou f] ++ wdC τ σ ad) (Nat × Nat × Nat) (fun r _ => r = 0) (fun u => [oc τ ou (vp_updL f (0 : Int32).toNatClampNeg (tls (nI a) (nI b) sd).toInt64)] ++ wdC τ (sFrame σ a b rm) (adF ad u)) := by
  refine en_iw (by decide) (Nat.le_of_ble_eq_true rfl) ?_
  intro p e R s m args below meth c H locs ls A E hRc hRs hret hta w hl
  have E : Cx p R s m args meth c method_3_code 6 "DrawingMachineLaw" 8 D τ B A := E
  have hl : lv_has ls 6 [(0, .ref (ad 56)), (1, .int (nI a)), (2, .int (nI b)), (3, .int sd), (4, .ref ou)] := hl
  refine lv_aload E.x E.b d_law_frame_0 (lv_at hl 4 rfl) ?_
  refine lv_iconst (v := 0) E.x E.b d_law_frame_2 (by decide) ?_
  refine lv_aload_n E.x E.b d_law_frame_3 rfl (lv_at hl 0 rfl) ?_
  refine lv_iload_n E.x E.b d_law_frame_4 rfl (lv_at hl 1 rfl) ?_
  refine lv_iload_n E.x E.b d_law_frame_5 rfl (lv_at hl 2 rfl) ?_
  refine lv_iload_n E.x E.b d_law_frame_6 rfl (lv_at hl 3 rfl) ?_
  refine xFrame E w a b r1 rm sd ha1 ha2 hb1 hb2 hgt hr1 hrm hrm2 hs k475 (by decide) (by rw [hRc]; exact Nat.le_refl _) (by rw [hRs, Nat.zero_add]; exact Nat.le_refl _) hl.1 (Nat.le_of_ble_eq_true rfl) d_law_frame_7 (fun u H locs w => ?_)
  refine W.widen (k := 3) (n := (3 * rm)) (by omega) (by omega) ?_
  refine lv_i2l (v := (tls (nI a) (nI b) sd).toInt64) E.x E.b d_law_frame_10 rfl ?_
  refine rx_las (ws' := [oc τ ou (vp_updL f (0 : Int32).toNatClampNeg (tls (nI a) (nI b) sd).toInt64)] ++ wdC τ (sFrame σ a b rm) (adF ad u)) E w (k := 0) rfl (by decide) rfl d_law_frame_11 (fun H locs w => ?_)
  refine lv_goto (tgt := 19) E.x E.b d_law_frame_12 (by decide) ?_
  refine lv_iconst (v := 0) E.x E.b d_law_frame_19 (by decide) ?_
  exact rt_ia E u rfl w hret d_law_frame_20
theorem d_law_frame_15 : decode method_3_code 15 = .ok (.astore 5, 2) := by decide +kernel
theorem d_law_frame_17 : decode method_3_code 17 = .ok (.iconst 1, 1) := by decide +kernel
theorem d_law_frame_18 : decode method_3_code 18 = .ok (.ireturn, 1) := by decide +kernel
set_option maxRecDepth 100000 in
set_option maxHeartbeats 4000000 in
theorem h_frame_b1 (l : Launch) (hfl : l.stackTraces = false) (D : va_G) (τ : ClassId × ClassId × ClassId) (B : Nat) (σ : Sg) (ad : Nat → Nat) (f : Nat → Int64) (ou : Nat) (fw : Int32) (fh : Int32) (sd : Int32) (hbd : fw < 1 ∨ 128 < fw) : MIa l y_law_frame (Cond.codeWith y_law_frame method_3_code 6 (some .int) [(0, 12, 15, 13)]) 8 1 6 D τ B [.ref (ad 56), .int fw, .int fh, .int sd, .ref ou] ([oc τ ou f] ++ wdC τ σ ad) Unit (fun r _ => r = 1) (fun _ => [oc τ ou f] ++ wdC τ σ ad) := by
  refine en_iw (by decide) (Nat.le_of_ble_eq_true rfl) ?_
  intro p e R s m args below meth c H locs ls A E hRc hRs hret hta w hl
  have E : Cx p R s m args meth c method_3_code 6 "DrawingMachineLaw" 8 D τ B A := E
  have hl : lv_has ls 6 [(0, .ref (ad 56)), (1, .int fw), (2, .int fh), (3, .int sd), (4, .ref ou)] := hl
  refine lv_aload E.x E.b d_law_frame_0 (lv_at hl 4 rfl) ?_
  refine lv_iconst (v := 0) E.x E.b d_law_frame_2 (by decide) ?_
  refine lv_aload_n E.x E.b d_law_frame_3 rfl (lv_at hl 0 rfl) ?_
  refine lv_iload_n E.x E.b d_law_frame_4 rfl (lv_at hl 1 rfl) ?_
  refine lv_iload_n E.x E.b d_law_frame_5 rfl (lv_at hl 2 rfl) ?_
  refine lv_iload_n E.x E.b d_law_frame_6 rfl (lv_at hl 3 rfl) ?_
  refine tq_e1 (As := [.int fw, .int fh, .int sd]) (rest := [.int 0, .ref ou]) E.fix (c_frame_b1 l hfl D τ B _ σ ad fw fh sd hbd) (cwV 3 E.w (tw_pre (tw_good k478) (l := [_, _, _, _]) (List.forall_mem_cons.mpr ⟨k475, List.forall_mem_cons.mpr ⟨k476, List.forall_mem_cons.mpr ⟨k477, List.forall_mem_cons.mpr ⟨k1, fun _ h => absurd h List.not_mem_nil⟩⟩⟩⟩)) rfl rfl rfl (by decide +kernel) ⟨Nat.le_trans (Nat.le_of_ble_eq_true rfl) E.2.2.2.2.2.2.1, Nat.le_trans (Nat.le_of_ble_eq_true rfl) E.2.2.2.2.2.2.2.1⟩) (pvS E.C w [.int fw, .int fh, .int sd] [] (by decide) rfl (q0 := 57) rfl rfl) rfl hl.1 rfl (Nat.le_of_ble_eq_true rfl) d_law_frame_7 ⟨by rw [hRc]; exact Nat.le_refl _, by rw [hRs]; exact Nat.le_refl _⟩ hta (by decide) (by decide) (by decide) (E.w _ k474) w (fun a9 H w => ?_)
  refine W.widen (k := 1) (n := 6) (by omega) (by omega) ?_
  refine lv_astore (lv' := [(5, .ref a9), (0, .ref (ad 56)), (1, .int fw), (2, .int fh), (3, .int sd), (4, .ref ou)]) E.x E.b d_law_frame_15 hl (by decide) rfl (fun ls hl => ?_)
  refine lv_iconst (v := 1) E.x E.b d_law_frame_17 (by decide) ?_
  exact rt_ia E () rfl w hret d_law_frame_18
set_option maxRecDepth 100000 in
set_option maxHeartbeats 4000000 in
theorem h_frame_b2 (l : Launch) (hfl : l.stackTraces = false) (D : va_G) (τ : ClassId × ClassId × ClassId) (B : Nat) (σ : Sg) (ad : Nat → Nat) (f : Nat → Int64) (ou : Nat) (fw : Int32) (fh : Int32) (sd : Int32) (h1 : ¬ fw < 1) (h2 : ¬ 128 < fw) (hbd : fh < 1 ∨ 128 < fh) : MIa l y_law_frame (Cond.codeWith y_law_frame method_3_code 6 (some .int) [(0, 12, 15, 13)]) 8 1 6 D τ B [.ref (ad 56), .int fw, .int fh, .int sd, .ref ou] ([oc τ ou f] ++ wdC τ σ ad) Unit (fun r _ => r = 1) (fun _ => [oc τ ou f] ++ wdC τ σ ad) := by
  refine en_iw (by decide) (Nat.le_of_ble_eq_true rfl) ?_
  intro p e R s m args below meth c H locs ls A E hRc hRs hret hta w hl
  have E : Cx p R s m args meth c method_3_code 6 "DrawingMachineLaw" 8 D τ B A := E
  have hl : lv_has ls 6 [(0, .ref (ad 56)), (1, .int fw), (2, .int fh), (3, .int sd), (4, .ref ou)] := hl
  refine lv_aload E.x E.b d_law_frame_0 (lv_at hl 4 rfl) ?_
  refine lv_iconst (v := 0) E.x E.b d_law_frame_2 (by decide) ?_
  refine lv_aload_n E.x E.b d_law_frame_3 rfl (lv_at hl 0 rfl) ?_
  refine lv_iload_n E.x E.b d_law_frame_4 rfl (lv_at hl 1 rfl) ?_
  refine lv_iload_n E.x E.b d_law_frame_5 rfl (lv_at hl 2 rfl) ?_
  refine lv_iload_n E.x E.b d_law_frame_6 rfl (lv_at hl 3 rfl) ?_
  refine tq_e1 (As := [.int fw, .int fh, .int sd]) (rest := [.int 0, .ref ou]) E.fix (c_frame_b2 l hfl D τ B _ σ ad fw fh sd h1 h2 hbd) (cwV 3 E.w (tw_pre (tw_good k478) (l := [_, _, _, _]) (List.forall_mem_cons.mpr ⟨k475, List.forall_mem_cons.mpr ⟨k476, List.forall_mem_cons.mpr ⟨k477, List.forall_mem_cons.mpr ⟨k1, fun _ h => absurd h List.not_mem_nil⟩⟩⟩⟩)) rfl rfl rfl (by decide +kernel) ⟨Nat.le_trans (Nat.le_of_ble_eq_true rfl) E.2.2.2.2.2.2.1, Nat.le_trans (Nat.le_of_ble_eq_true rfl) E.2.2.2.2.2.2.2.1⟩) (pvS E.C w [.int fw, .int fh, .int sd] [] (by decide) rfl (q0 := 57) rfl rfl) rfl hl.1 rfl (Nat.le_of_ble_eq_true rfl) d_law_frame_7 ⟨by rw [hRc]; exact Nat.le_refl _, by rw [hRs]; exact Nat.le_refl _⟩ hta (by decide) (by decide) (by decide) (E.w _ k474) w (fun a9 H w => ?_)
  refine W.widen (k := 1) (n := 6) (by omega) (by omega) ?_
  refine lv_astore (lv' := [(5, .ref a9), (0, .ref (ad 56)), (1, .int fw), (2, .int fh), (3, .int sd), (4, .ref ou)]) E.x E.b d_law_frame_15 hl (by decide) rfl (fun ls hl => ?_)
  refine lv_iconst (v := 1) E.x E.b d_law_frame_17 (by decide) ?_
  exact rt_ia E () rfl w hret d_law_frame_18
set_option maxRecDepth 100000 in
set_option maxHeartbeats 4000000 in
theorem h_frame_b3 (l : Launch) (hfl : l.stackTraces = false) (D : va_G) (τ : ClassId × ClassId × ClassId) (B : Nat) (σ : Sg) (ad : Nat → Nat) (f : Nat → Int64) (ou : Nat) (fw : Int32) (fh : Int32) (sd : Int32) (h1 : ¬ fw < 1) (h2 : ¬ 128 < fw) (h3 : ¬ fh < 1) (h4 : ¬ 128 < fh) (hbd : ¬ (sd = 8 ∨ sd = 16 ∨ sd = 32 ∨ sd = 64)) : MIa l y_law_frame (Cond.codeWith y_law_frame method_3_code 6 (some .int) [(0, 12, 15, 13)]) 8 1 6 D τ B [.ref (ad 56), .int fw, .int fh, .int sd, .ref ou] ([oc τ ou f] ++ wdC τ σ ad) Unit (fun r _ => r = 1) (fun _ => [oc τ ou f] ++ wdC τ σ ad) := by
  refine en_iw (by decide) (Nat.le_of_ble_eq_true rfl) ?_
  intro p e R s m args below meth c H locs ls A E hRc hRs hret hta w hl
  have E : Cx p R s m args meth c method_3_code 6 "DrawingMachineLaw" 8 D τ B A := E
  have hl : lv_has ls 6 [(0, .ref (ad 56)), (1, .int fw), (2, .int fh), (3, .int sd), (4, .ref ou)] := hl
  refine lv_aload E.x E.b d_law_frame_0 (lv_at hl 4 rfl) ?_
  refine lv_iconst (v := 0) E.x E.b d_law_frame_2 (by decide) ?_
  refine lv_aload_n E.x E.b d_law_frame_3 rfl (lv_at hl 0 rfl) ?_
  refine lv_iload_n E.x E.b d_law_frame_4 rfl (lv_at hl 1 rfl) ?_
  refine lv_iload_n E.x E.b d_law_frame_5 rfl (lv_at hl 2 rfl) ?_
  refine lv_iload_n E.x E.b d_law_frame_6 rfl (lv_at hl 3 rfl) ?_
  refine tq_e1 (As := [.int fw, .int fh, .int sd]) (rest := [.int 0, .ref ou]) E.fix (c_frame_b3 l hfl D τ B _ σ ad fw fh sd h1 h2 h3 h4 hbd) (cwV 3 E.w (tw_pre (tw_good k478) (l := [_, _, _, _]) (List.forall_mem_cons.mpr ⟨k475, List.forall_mem_cons.mpr ⟨k476, List.forall_mem_cons.mpr ⟨k477, List.forall_mem_cons.mpr ⟨k1, fun _ h => absurd h List.not_mem_nil⟩⟩⟩⟩)) rfl rfl rfl (by decide +kernel) ⟨Nat.le_trans (Nat.le_of_ble_eq_true rfl) E.2.2.2.2.2.2.1, Nat.le_trans (Nat.le_of_ble_eq_true rfl) E.2.2.2.2.2.2.2.1⟩) (pvS E.C w [.int fw, .int fh, .int sd] [] (by decide) rfl (q0 := 57) rfl rfl) rfl hl.1 rfl (Nat.le_of_ble_eq_true rfl) d_law_frame_7 ⟨by rw [hRc]; exact Nat.le_refl _, by rw [hRs]; exact Nat.le_refl _⟩ hta (by decide) (by decide) (by decide) (E.w _ k474) w (fun a9 H w => ?_)
  refine W.widen (k := 1) (n := 6) (by omega) (by omega) ?_
  refine lv_astore (lv' := [(5, .ref a9), (0, .ref (ad 56)), (1, .int fw), (2, .int fh), (3, .int sd), (4, .ref ou)]) E.x E.b d_law_frame_15 hl (by decide) rfl (fun ls hl => ?_)
  refine lv_iconst (v := 1) E.x E.b d_law_frame_17 (by decide) ?_
  exact rt_ia E () rfl w hret d_law_frame_18
theorem d_law_word_0 : decode method_4_code 0 = .ok (.aload_n 3, 1) := by decide +kernel
theorem d_law_word_1 : decode method_4_code 1 = .ok (.iconst 0, 1) := by decide +kernel
theorem d_law_word_2 : decode method_4_code 2 = .ok (.aload_n 0, 1) := by decide +kernel
theorem d_law_word_3 : decode method_4_code 3 = .ok (.iload_n 1, 1) := by decide +kernel
theorem d_law_word_4 : decode method_4_code 4 = .ok (.iload_n 2, 1) := by decide +kernel
theorem d_law_word_5 : decode method_4_code 5 = .ok (.invokevirtual 15, 3) := by decide +kernel
theorem d_law_word_8 : decode method_4_code 8 = .ok (.i2l, 1) := by decide +kernel
theorem d_law_word_9 : decode method_4_code 9 = .ok (.lastore, 1) := by decide +kernel
theorem d_law_word_10 : decode method_4_code 10 = .ok (.goto 7, 3) := by decide +kernel
theorem d_law_word_17 : decode method_4_code 17 = .ok (.iconst 0, 1) := by decide +kernel
theorem d_law_word_18 : decode method_4_code 18 = .ok (.ireturn, 1) := by decide +kernel
set_option maxRecDepth 100000 in
set_option maxHeartbeats 4000000 in
theorem h_word_g (l : Launch) (D : va_G) (τ : ClassId × ClassId × ClassId) (B : Nat) (σ : Sg) (ad : Nat → Nat) (f : Nat → Int64) (ou : Nat) (x : Int32) (v : Int32) (o : Sg × Int32) (h : F_DM_word σ x v = some o) : MIa l y_law_word (Cond.codeWith y_law_word method_4_code 5 (some .int) [(0, 10, 13, 19)]) 8 0 0 D τ B [.ref (ad 56), .int x, .int v, .ref ou] ([oc τ ou f] ++ wdC τ σ ad) Unit (fun r _ => r = 0) (fun _ => [oc τ ou (vp_updL f (0 : Int32).toNatClampNeg o.2.toInt64)] ++ wdC τ o.1 ad) := by
  refine en_iw (by decide) (Nat.le_of_ble_eq_true rfl) ?_
  intro p e R s m args below meth c H locs ls A E hRc hRs hret hta w hl
  have E : Cx p R s m args meth c method_4_code 5 "DrawingMachineLaw" 8 D τ B A := E
  have hl : lv_has ls 5 [(0, .ref (ad 56)), (1, .int x), (2, .int v), (3, .ref ou)] := hl
  refine lv_aload_n E.x E.b d_law_word_0 rfl (lv_at hl 3 rfl) ?_
  refine lv_iconst (v := 0) E.x E.b d_law_word_1 (by decide) ?_
  refine lv_aload_n E.x E.b d_law_word_2 rfl (lv_at hl 0 rfl) ?_
  refine lv_iload_n E.x E.b d_law_word_3 rfl (lv_at hl 1 rfl) ?_
  refine lv_iload_n E.x E.b d_law_word_4 rfl (lv_at hl 2 rfl) ?_
  refine gr_i E.C w (va_runV (As := [.int x, .int v]) (rest := [.int 0, .ref ou]) E.fix (c_DM_word l D τ B σ ad x v o h _) (cwV 2 E.w (tw_pre (tw_good k838) (l := [_, _, _, _]) (List.forall_mem_cons.mpr ⟨k835, List.forall_mem_cons.mpr ⟨k836, List.forall_mem_cons.mpr ⟨k837, List.forall_mem_cons.mpr ⟨k1, fun _ h => absurd h List.not_mem_nil⟩⟩⟩⟩)) rfl rfl rfl (by decide +kernel) ⟨Nat.le_trans (Nat.le_of_ble_eq_true rfl) E.2.2.2.2.2.2.1, Nat.le_trans (Nat.le_of_ble_eq_true rfl) E.2.2.2.2.2.2.2.1⟩) (pvR E.C w [.int x, .int v] (q0 := 56) rfl rfl) rfl rfl hl.1 rfl (lv_room (Nat.le_of_ble_eq_true rfl)) d_law_word_5 ⟨Nat.zero_le _, Nat.zero_le _⟩) (fun r u H locs hr w => ?_)
  refine W.widen (k := 0) (n := 0) (by omega) (by omega) ?_
  have hr : r = o.2 := hr
  rw [hr]
  refine lv_i2l (v := o.2.toInt64) E.x E.b d_law_word_8 rfl ?_
  refine rx_las (ws' := [oc τ ou (vp_updL f (0 : Int32).toNatClampNeg o.2.toInt64)] ++ wdC τ o.1 ad) E w (k := 0) rfl (by decide) rfl d_law_word_9 (fun H locs w => ?_)
  refine lv_goto (tgt := 17) E.x E.b d_law_word_10 (by decide) ?_
  refine lv_iconst (v := 0) E.x E.b d_law_word_17 (by decide) ?_
  exact rt_ia E () rfl w hret d_law_word_18
theorem d_law_word_13 : decode method_4_code 13 = .ok (.astore 4, 2) := by decide +kernel
theorem d_law_word_15 : decode method_4_code 15 = .ok (.iconst 1, 1) := by decide +kernel
theorem d_law_word_16 : decode method_4_code 16 = .ok (.ireturn, 1) := by decide +kernel
set_option maxRecDepth 100000 in
set_option maxHeartbeats 4000000 in
theorem h_word_b (l : Launch) (hfl : l.stackTraces = false) (D : va_G) (τ : ClassId × ClassId × ClassId) (B : Nat) (σ : Sg) (ad : Nat → Nat) (f : Nat → Int64) (ou : Nat) (x : Int32) (v : Int32) (hbd : x < 0 ∨ 4096 ≤ x) : MIa l y_law_word (Cond.codeWith y_law_word method_4_code 5 (some .int) [(0, 10, 13, 19)]) 8 1 6 D τ B [.ref (ad 56), .int x, .int v, .ref ou] ([oc τ ou f] ++ wdC τ σ ad) Unit (fun r _ => r = 1) (fun _ => [oc τ ou f] ++ wdC τ σ ad) := by
  refine en_iw (by decide) (Nat.le_of_ble_eq_true rfl) ?_
  intro p e R s m args below meth c H locs ls A E hRc hRs hret hta w hl
  have E : Cx p R s m args meth c method_4_code 5 "DrawingMachineLaw" 8 D τ B A := E
  have hl : lv_has ls 5 [(0, .ref (ad 56)), (1, .int x), (2, .int v), (3, .ref ou)] := hl
  refine lv_aload_n E.x E.b d_law_word_0 rfl (lv_at hl 3 rfl) ?_
  refine lv_iconst (v := 0) E.x E.b d_law_word_1 (by decide) ?_
  refine lv_aload_n E.x E.b d_law_word_2 rfl (lv_at hl 0 rfl) ?_
  refine lv_iload_n E.x E.b d_law_word_3 rfl (lv_at hl 1 rfl) ?_
  refine lv_iload_n E.x E.b d_law_word_4 rfl (lv_at hl 2 rfl) ?_
  refine tq_e1 (As := [.int x, .int v]) (rest := [.int 0, .ref ou]) E.fix (c_word_b l hfl D τ B _ σ ad x v hbd) (cwV 2 E.w (tw_pre (tw_good k838) (l := [_, _, _, _]) (List.forall_mem_cons.mpr ⟨k835, List.forall_mem_cons.mpr ⟨k836, List.forall_mem_cons.mpr ⟨k837, List.forall_mem_cons.mpr ⟨k1, fun _ h => absurd h List.not_mem_nil⟩⟩⟩⟩)) rfl rfl rfl (by decide +kernel) ⟨Nat.le_trans (Nat.le_of_ble_eq_true rfl) E.2.2.2.2.2.2.1, Nat.le_trans (Nat.le_of_ble_eq_true rfl) E.2.2.2.2.2.2.2.1⟩) (pvS E.C w [.int x, .int v] [] (by decide) rfl (q0 := 57) rfl rfl) rfl hl.1 rfl (Nat.le_of_ble_eq_true rfl) d_law_word_5 ⟨by rw [hRc]; exact Nat.le_refl _, by rw [hRs]; exact Nat.le_refl _⟩ hta (by decide) (by decide) (by decide) (E.w _ k834) w (fun a9 H w => ?_)
  refine W.widen (k := 1) (n := 6) (by omega) (by omega) ?_
  refine lv_astore (lv' := [(4, .ref a9), (0, .ref (ad 56)), (1, .int x), (2, .int v), (3, .ref ou)]) E.x E.b d_law_word_13 hl (by decide) rfl (fun ls hl => ?_)
  refine lv_iconst (v := 1) E.x E.b d_law_word_15 (by decide) ?_
  exact rt_ia E () rfl w hret d_law_word_16
theorem d_law_look_0 : decode method_5_code 0 = .ok (.aload_n 2, 1) := by decide +kernel
theorem d_law_look_1 : decode method_5_code 1 = .ok (.iconst 0, 1) := by decide +kernel
theorem d_law_look_2 : decode method_5_code 2 = .ok (.aload_n 0, 1) := by decide +kernel
theorem d_law_look_3 : decode method_5_code 3 = .ok (.iload_n 1, 1) := by decide +kernel
theorem d_law_look_4 : decode method_5_code 4 = .ok (.invokevirtual 21, 3) := by decide +kernel
theorem d_law_look_7 : decode method_5_code 7 = .ok (.i2l, 1) := by decide +kernel
theorem d_law_look_8 : decode method_5_code 8 = .ok (.lastore, 1) := by decide +kernel
theorem d_law_look_9 : decode method_5_code 9 = .ok (.goto 6, 3) := by decide +kernel
theorem d_law_look_15 : decode method_5_code 15 = .ok (.iconst 0, 1) := by decide +kernel
theorem d_law_look_16 : decode method_5_code 16 = .ok (.ireturn, 1) := by decide +kernel
set_option maxRecDepth 100000 in
set_option maxHeartbeats 4000000 in
theorem h_look_g (l : Launch) (D : va_G) (τ : ClassId × ClassId × ClassId) (B : Nat) (σ : Sg) (ad : Nat → Nat) (f : Nat → Int64) (ou : Nat) (x : Int32) (o : Int32) (h : F_DM_look σ x = some o) : MIa l y_law_look (Cond.codeWith y_law_look method_5_code 4 (some .int) [(0, 9, 12, 19)]) 8 0 0 D τ B [.ref (ad 56), .int x, .ref ou] ([oc τ ou f] ++ wdC τ σ ad) Unit (fun r _ => r = 0) (fun _ => [oc τ ou (vp_updL f (0 : Int32).toNatClampNeg o.toInt64)] ++ wdC τ σ ad) := by
  refine en_iw (by decide) (Nat.le_of_ble_eq_true rfl) ?_
  intro p e R s m args below meth c H locs ls A E hRc hRs hret hta w hl
  have E : Cx p R s m args meth c method_5_code 4 "DrawingMachineLaw" 8 D τ B A := E
  have hl : lv_has ls 4 [(0, .ref (ad 56)), (1, .int x), (2, .ref ou)] := hl
  refine lv_aload_n E.x E.b d_law_look_0 rfl (lv_at hl 2 rfl) ?_
  refine lv_iconst (v := 0) E.x E.b d_law_look_1 (by decide) ?_
  refine lv_aload_n E.x E.b d_law_look_2 rfl (lv_at hl 0 rfl) ?_
  refine lv_iload_n E.x E.b d_law_look_3 rfl (lv_at hl 1 rfl) ?_
  refine gr_i E.C w (va_runV (As := [.int x]) (rest := [.int 0, .ref ou]) E.fix (c_DM_look l D τ B σ ad x o h _) (cwV 1 E.w (tw_pre (tw_good k858) (l := [_, _, _, _]) (List.forall_mem_cons.mpr ⟨k855, List.forall_mem_cons.mpr ⟨k856, List.forall_mem_cons.mpr ⟨k857, List.forall_mem_cons.mpr ⟨k1, fun _ h => absurd h List.not_mem_nil⟩⟩⟩⟩)) rfl rfl rfl (by decide +kernel) ⟨Nat.le_trans (Nat.le_of_ble_eq_true rfl) E.2.2.2.2.2.2.1, Nat.le_trans (Nat.le_of_ble_eq_true rfl) E.2.2.2.2.2.2.2.1⟩) (pvR E.C w [.int x] (q0 := 56) rfl rfl) rfl rfl hl.1 rfl (lv_room (Nat.le_of_ble_eq_true rfl)) d_law_look_4 ⟨Nat.zero_le _, Nat.zero_le _⟩) (fun r u H locs hr w => ?_)
  refine W.widen (k := 0) (n := 0) (by omega) (by omega) ?_
  have hr : r = o := hr
  rw [hr]
  refine lv_i2l (v := o.toInt64) E.x E.b d_law_look_7 rfl ?_
  refine rx_las (ws' := [oc τ ou (vp_updL f (0 : Int32).toNatClampNeg o.toInt64)] ++ wdC τ σ ad) E w (k := 0) rfl (by decide) rfl d_law_look_8 (fun H locs w => ?_)
  refine lv_goto (tgt := 15) E.x E.b d_law_look_9 (by decide) ?_
  refine lv_iconst (v := 0) E.x E.b d_law_look_15 (by decide) ?_
  exact rt_ia E () rfl w hret d_law_look_16
theorem d_law_look_12 : decode method_5_code 12 = .ok (.astore_n 3, 1) := by decide +kernel
theorem d_law_look_13 : decode method_5_code 13 = .ok (.iconst 1, 1) := by decide +kernel
theorem d_law_look_14 : decode method_5_code 14 = .ok (.ireturn, 1) := by decide +kernel
set_option maxRecDepth 100000 in
set_option maxHeartbeats 4000000 in
theorem h_look_b (l : Launch) (hfl : l.stackTraces = false) (D : va_G) (τ : ClassId × ClassId × ClassId) (B : Nat) (σ : Sg) (ad : Nat → Nat) (f : Nat → Int64) (ou : Nat) (x : Int32) (hbd : x < 0 ∨ 4096 ≤ x) : MIa l y_law_look (Cond.codeWith y_law_look method_5_code 4 (some .int) [(0, 9, 12, 19)]) 8 1 6 D τ B [.ref (ad 56), .int x, .ref ou] ([oc τ ou f] ++ wdC τ σ ad) Unit (fun r _ => r = 1) (fun _ => [oc τ ou f] ++ wdC τ σ ad) := by
  refine en_iw (by decide) (Nat.le_of_ble_eq_true rfl) ?_
  intro p e R s m args below meth c H locs ls A E hRc hRs hret hta w hl
  have E : Cx p R s m args meth c method_5_code 4 "DrawingMachineLaw" 8 D τ B A := E
  have hl : lv_has ls 4 [(0, .ref (ad 56)), (1, .int x), (2, .ref ou)] := hl
  refine lv_aload_n E.x E.b d_law_look_0 rfl (lv_at hl 2 rfl) ?_
  refine lv_iconst (v := 0) E.x E.b d_law_look_1 (by decide) ?_
  refine lv_aload_n E.x E.b d_law_look_2 rfl (lv_at hl 0 rfl) ?_
  refine lv_iload_n E.x E.b d_law_look_3 rfl (lv_at hl 1 rfl) ?_
  refine tq_e1 (As := [.int x]) (rest := [.int 0, .ref ou]) E.fix (c_look_b l hfl D τ B _ σ ad x hbd) (cwV 1 E.w (tw_pre (tw_good k858) (l := [_, _, _, _]) (List.forall_mem_cons.mpr ⟨k855, List.forall_mem_cons.mpr ⟨k856, List.forall_mem_cons.mpr ⟨k857, List.forall_mem_cons.mpr ⟨k1, fun _ h => absurd h List.not_mem_nil⟩⟩⟩⟩)) rfl rfl rfl (by decide +kernel) ⟨Nat.le_trans (Nat.le_of_ble_eq_true rfl) E.2.2.2.2.2.2.1, Nat.le_trans (Nat.le_of_ble_eq_true rfl) E.2.2.2.2.2.2.2.1⟩) (pvS E.C w [.int x] [] (by decide) rfl (q0 := 57) rfl rfl) rfl hl.1 rfl (Nat.le_of_ble_eq_true rfl) d_law_look_4 ⟨by rw [hRc]; exact Nat.le_refl _, by rw [hRs]; exact Nat.le_refl _⟩ hta (by decide) (by decide) (by decide) (E.w _ k834) w (fun a9 H w => ?_)
  refine W.widen (k := 1) (n := 6) (by omega) (by omega) ?_
  refine lv_astore_n (lv' := [(3, .ref a9), (0, .ref (ad 56)), (1, .int x), (2, .ref ou)]) E.x E.b d_law_look_12 rfl hl (by decide) rfl (fun ls hl => ?_)
  refine lv_iconst (v := 1) E.x E.b d_law_look_13 (by decide) ?_
  exact rt_ia E () rfl w hret d_law_look_14
theorem d_law_feed_0 : decode method_6_code 0 = .ok (.aload 6, 2) := by decide +kernel
theorem d_law_feed_2 : decode method_6_code 2 = .ok (.iconst 0, 1) := by decide +kernel
theorem d_law_feed_3 : decode method_6_code 3 = .ok (.aload_n 0, 1) := by decide +kernel
theorem d_law_feed_4 : decode method_6_code 4 = .ok (.iload_n 1, 1) := by decide +kernel
theorem d_law_feed_5 : decode method_6_code 5 = .ok (.iload_n 2, 1) := by decide +kernel
theorem d_law_feed_6 : decode method_6_code 6 = .ok (.iload_n 3, 1) := by decide +kernel
theorem d_law_feed_7 : decode method_6_code 7 = .ok (.iload 4, 2) := by decide +kernel
theorem d_law_feed_9 : decode method_6_code 9 = .ok (.iload 5, 2) := by decide +kernel
theorem d_law_feed_11 : decode method_6_code 11 = .ok (.invokevirtual 25, 3) := by decide +kernel
theorem d_law_feed_14 : decode method_6_code 14 = .ok (.i2l, 1) := by decide +kernel
theorem d_law_feed_15 : decode method_6_code 15 = .ok (.lastore, 1) := by decide +kernel
theorem d_law_feed_16 : decode method_6_code 16 = .ok (.goto 7, 3) := by decide +kernel
theorem d_law_feed_23 : decode method_6_code 23 = .ok (.iconst 0, 1) := by decide +kernel
theorem d_law_feed_24 : decode method_6_code 24 = .ok (.ireturn, 1) := by decide +kernel
set_option maxRecDepth 100000 in
set_option maxHeartbeats 4000000 in
theorem h_feed_g (l : Launch) (D : va_G) (τ : ClassId × ClassId × ClassId) (B : Nat) (σ : Sg) (ad : Nat → Nat) (f : Nat → Int64) (ou : Nat) (x0 : Int32) (x1 : Int32) (x2 : Int32) (x3 : Int32) (x4 : Int32) (o : Sg × Int32) (h : F_DM_feed σ x0 x1 x2 x3 x4 = some o) : MIa l y_law_feed (Cond.codeWith y_law_feed method_6_code 8 (some .int) [(0, 16, 19, 29)]) 8 0 0 D τ B [.ref (ad 56), .int x0, .int x1, .int x2, .int x3, .int x4, .ref ou] ([oc τ ou f] ++ wdC τ σ ad) Unit (fun r _ => r = 0) (fun _ => [oc τ ou (vp_updL f (0 : Int32).toNatClampNeg o.2.toInt64)] ++ wdC τ o.1 ad) := by
  refine en_iw (by decide) (Nat.le_of_ble_eq_true rfl) ?_
  intro p e R s m args below meth c H locs ls A E hRc hRs hret hta w hl
  have E : Cx p R s m args meth c method_6_code 8 "DrawingMachineLaw" 8 D τ B A := E
  have hl : lv_has ls 8 [(0, .ref (ad 56)), (1, .int x0), (2, .int x1), (3, .int x2), (4, .int x3), (5, .int x4), (6, .ref ou)] := hl
  refine lv_aload E.x E.b d_law_feed_0 (lv_at hl 6 rfl) ?_
  refine lv_iconst (v := 0) E.x E.b d_law_feed_2 (by decide) ?_
  refine lv_aload_n E.x E.b d_law_feed_3 rfl (lv_at hl 0 rfl) ?_
  refine lv_iload_n E.x E.b d_law_feed_4 rfl (lv_at hl 1 rfl) ?_
  refine lv_iload_n E.x E.b d_law_feed_5 rfl (lv_at hl 2 rfl) ?_
  refine lv_iload_n E.x E.b d_law_feed_6 rfl (lv_at hl 3 rfl) ?_
  refine lv_iload E.x E.b d_law_feed_7 (lv_at hl 4 rfl) ?_
  refine lv_iload E.x E.b d_law_feed_9 (lv_at hl 5 rfl) ?_
  refine gr_i E.C w (va_runV (As := [.int x0, .int x1, .int x2, .int x3, .int x4]) (rest := [.int 0, .ref ou]) E.fix (c_DM_feed l D τ B σ ad x0 x1 x2 x3 x4 o h _) (cwV 5 E.w (tw_pre (tw_good k866) (l := [_, _, _, _]) (List.forall_mem_cons.mpr ⟨k863, List.forall_mem_cons.mpr ⟨k864, List.forall_mem_cons.mpr ⟨k865, List.forall_mem_cons.mpr ⟨k1, fun _ h => absurd h List.not_mem_nil⟩⟩⟩⟩)) rfl rfl rfl (by decide +kernel) ⟨Nat.le_trans (Nat.le_of_ble_eq_true rfl) E.2.2.2.2.2.2.1, Nat.le_trans (Nat.le_of_ble_eq_true rfl) E.2.2.2.2.2.2.2.1⟩) (pvR E.C w [.int x0, .int x1, .int x2, .int x3, .int x4] (q0 := 56) rfl rfl) rfl rfl hl.1 rfl (lv_room (Nat.le_of_ble_eq_true rfl)) d_law_feed_11 ⟨Nat.zero_le _, Nat.zero_le _⟩) (fun r u H locs hr w => ?_)
  refine W.widen (k := 0) (n := 0) (by omega) (by omega) ?_
  have hr : r = o.2 := hr
  rw [hr]
  refine lv_i2l (v := o.2.toInt64) E.x E.b d_law_feed_14 rfl ?_
  refine rx_las (ws' := [oc τ ou (vp_updL f (0 : Int32).toNatClampNeg o.2.toInt64)] ++ wdC τ o.1 ad) E w (k := 0) rfl (by decide) rfl d_law_feed_15 (fun H locs w => ?_)
  refine lv_goto (tgt := 23) E.x E.b d_law_feed_16 (by decide) ?_
  refine lv_iconst (v := 0) E.x E.b d_law_feed_23 (by decide) ?_
  exact rt_ia E () rfl w hret d_law_feed_24
set_option maxRecDepth 100000 in
set_option maxHeartbeats 4000000 in
theorem h_feed_n (l : Launch) (D : va_G) (τ : ClassId × ClassId × ClassId) (B : Nat) (σ : Sg) (ad : Nat → Nat) (f : Nat → Int64) (ou : Nat) (x0 : Int32) (x1 : Int32) (x2 : Int32) (x3 : Int32) (x4 : Int32) (n : Nat) (hle : σ.1 2 + 5 ≤ 4096) (hgt : ¬ σ.1 2 + 5 ≤ nI (σ.2.2.2.2 1)) (hn : imin (nI (2 * σ.2.2.2.2 1)) 4096 = nI n) (h1 : σ.2.2.2.2 1 < n) (h2 : n ≤ 16384) (o : Sg × Int32) (h : FD_feed (sRoom σ n) x0 x1 x2 x3 x4 = some o) : MIa l y_law_feed (Cond.codeWith y_law_feed method_6_code 8 (some .int) [(0, 16, 19, 29)]) 8 1 n D τ B [.ref (ad 56), .int x0, .int x1, .int x2, .int x3, .int x4, .ref ou] ([oc τ ou f] ++ wdC τ σ ad) Nat (fun r _ => r = 0) (fun u => [oc τ ou (vp_updL f (0 : Int32).toNatClampNeg o.2.toInt64)] ++ wdC τ o.1 (adS ad u)) := by
  refine en_iw (by decide) (Nat.le_of_ble_eq_true rfl) ?_
  intro p e R s m args below meth c H locs ls A E hRc hRs hret hta w hl
  have E : Cx p R s m args meth c method_6_code 8 "DrawingMachineLaw" 8 D τ B A := E
  have hl : lv_has ls 8 [(0, .ref (ad 56)), (1, .int x0), (2, .int x1), (3, .int x2), (4, .int x3), (5, .int x4), (6, .ref ou)] := hl
  refine lv_aload E.x E.b d_law_feed_0 (lv_at hl 6 rfl) ?_
  refine lv_iconst (v := 0) E.x E.b d_law_feed_2 (by decide) ?_
  refine lv_aload_n E.x E.b d_law_feed_3 rfl (lv_at hl 0 rfl) ?_
  refine lv_iload_n E.x E.b d_law_feed_4 rfl (lv_at hl 1 rfl) ?_
  refine lv_iload_n E.x E.b d_law_feed_5 rfl (lv_at hl 2 rfl) ?_
  refine lv_iload_n E.x E.b d_law_feed_6 rfl (lv_at hl 3 rfl) ?_
  refine lv_iload E.x E.b d_law_feed_7 (lv_at hl 4 rfl) ?_
  refine lv_iload E.x E.b d_law_feed_9 (lv_at hl 5 rfl) ?_
  refine gr_i E.C w (va_runV (As := [.int x0, .int x1, .int x2, .int x3, .int x4]) (rest := [.int 0, .ref ou]) E.fix (c_aFeed l D τ B σ ad x0 x1 x2 x3 x4 n hle hgt hn h1 h2 o h _) (cwV 5 E.w (tw_pre (tw_good k866) (l := [_, _, _, _]) (List.forall_mem_cons.mpr ⟨k863, List.forall_mem_cons.mpr ⟨k864, List.forall_mem_cons.mpr ⟨k865, List.forall_mem_cons.mpr ⟨k1, fun _ h => absurd h List.not_mem_nil⟩⟩⟩⟩)) rfl rfl rfl (by decide +kernel) ⟨Nat.le_trans (Nat.le_of_ble_eq_true rfl) E.2.2.2.2.2.2.1, Nat.le_trans (Nat.le_of_ble_eq_true rfl) E.2.2.2.2.2.2.2.1⟩) (pvR E.C w [.int x0, .int x1, .int x2, .int x3, .int x4] (q0 := 56) rfl rfl) rfl rfl hl.1 rfl (lv_room (Nat.le_of_ble_eq_true rfl)) d_law_feed_11 ⟨by rw [hRc]; exact Nat.le_refl _, by rw [hRs, Nat.zero_add]; exact Nat.le_refl _⟩) (fun r u H locs hr w => ?_)
  refine W.widen (k := 1) (n := n) (by omega) (by omega) ?_
  obtain rfl := hr
  refine lv_i2l (v := o.2.toInt64) E.x E.b d_law_feed_14 rfl ?_
  refine rx_las (ws' := [oc τ ou (vp_updL f (0 : Int32).toNatClampNeg o.2.toInt64)] ++ wdC τ o.1 (adS ad u)) E w (k := 0) rfl (by decide) rfl d_law_feed_15 (fun H locs w => ?_)
  refine lv_goto (tgt := 23) E.x E.b d_law_feed_16 (by decide) ?_
  refine lv_iconst (v := 0) E.x E.b d_law_feed_23 (by decide) ?_
  exact rt_ia E u rfl w hret d_law_feed_24
theorem d_law_feed_19 : decode method_6_code 19 = .ok (.astore 7, 2) := by decide +kernel
theorem d_law_feed_21 : decode method_6_code 21 = .ok (.iconst 1, 1) := by decide +kernel
theorem d_law_feed_22 : decode method_6_code 22 = .ok (.ireturn, 1) := by decide +kernel
set_option maxRecDepth 100000 in
set_option maxHeartbeats 4000000 in
theorem h_feed_b (l : Launch) (hfl : l.stackTraces = false) (D : va_G) (τ : ClassId × ClassId × ClassId) (B : Nat) (σ : Sg) (ad : Nat → Nat) (f : Nat → Int64) (ou : Nat) (x0 : Int32) (x1 : Int32) (x2 : Int32) (x3 : Int32) (x4 : Int32) (hbd : ¬ (σ.1 2 + 5 ≤ 4096)) : MIa l y_law_feed (Cond.codeWith y_law_feed method_6_code 8 (some .int) [(0, 16, 19, 29)]) 8 1 6 D τ B [.ref (ad 56), .int x0, .int x1, .int x2, .int x3, .int x4, .ref ou] ([oc τ ou f] ++ wdC τ σ ad) Unit (fun r _ => r = 1) (fun _ => [oc τ ou f] ++ wdC τ σ ad) := by
  refine en_iw (by decide) (Nat.le_of_ble_eq_true rfl) ?_
  intro p e R s m args below meth c H locs ls A E hRc hRs hret hta w hl
  have E : Cx p R s m args meth c method_6_code 8 "DrawingMachineLaw" 8 D τ B A := E
  have hl : lv_has ls 8 [(0, .ref (ad 56)), (1, .int x0), (2, .int x1), (3, .int x2), (4, .int x3), (5, .int x4), (6, .ref ou)] := hl
  refine lv_aload E.x E.b d_law_feed_0 (lv_at hl 6 rfl) ?_
  refine lv_iconst (v := 0) E.x E.b d_law_feed_2 (by decide) ?_
  refine lv_aload_n E.x E.b d_law_feed_3 rfl (lv_at hl 0 rfl) ?_
  refine lv_iload_n E.x E.b d_law_feed_4 rfl (lv_at hl 1 rfl) ?_
  refine lv_iload_n E.x E.b d_law_feed_5 rfl (lv_at hl 2 rfl) ?_
  refine lv_iload_n E.x E.b d_law_feed_6 rfl (lv_at hl 3 rfl) ?_
  refine lv_iload E.x E.b d_law_feed_7 (lv_at hl 4 rfl) ?_
  refine lv_iload E.x E.b d_law_feed_9 (lv_at hl 5 rfl) ?_
  refine tq_e1 (As := [.int x0, .int x1, .int x2, .int x3, .int x4]) (rest := [.int 0, .ref ou]) E.fix (c_feed_b l hfl D τ B _ σ ad x0 x1 x2 x3 x4 hbd) (cwV 5 E.w (tw_pre (tw_good k866) (l := [_, _, _, _]) (List.forall_mem_cons.mpr ⟨k863, List.forall_mem_cons.mpr ⟨k864, List.forall_mem_cons.mpr ⟨k865, List.forall_mem_cons.mpr ⟨k1, fun _ h => absurd h List.not_mem_nil⟩⟩⟩⟩)) rfl rfl rfl (by decide +kernel) ⟨Nat.le_trans (Nat.le_of_ble_eq_true rfl) E.2.2.2.2.2.2.1, Nat.le_trans (Nat.le_of_ble_eq_true rfl) E.2.2.2.2.2.2.2.1⟩) (pvS E.C w [.int x0, .int x1, .int x2, .int x3, .int x4] [57, 60] (by decide) rfl (q0 := 57) rfl rfl) rfl hl.1 rfl (Nat.le_of_ble_eq_true rfl) d_law_feed_11 ⟨by rw [hRc]; exact Nat.le_refl _, by rw [hRs]; exact Nat.le_refl _⟩ hta (by decide) (by decide) (by decide) (E.w _ k862) w (fun a9 H w => ?_)
  refine W.widen (k := 1) (n := 6) (by omega) (by omega) ?_
  refine lv_astore (lv' := [(7, .ref a9), (0, .ref (ad 56)), (1, .int x0), (2, .int x1), (3, .int x2), (4, .int x3), (5, .int x4), (6, .ref ou)]) E.x E.b d_law_feed_19 hl (by decide) rfl (fun ls hl => ?_)
  refine lv_iconst (v := 1) E.x E.b d_law_feed_21 (by decide) ?_
  exact rt_ia E () rfl w hret d_law_feed_22
theorem d_law_end_0 : decode method_7_code 0 = .ok (.aload_n 0, 1) := by decide +kernel
theorem d_law_end_1 : decode method_7_code 1 = .ok (.iload_n 1, 1) := by decide +kernel
theorem d_law_end_2 : decode method_7_code 2 = .ok (.invokevirtual 31, 3) := by decide +kernel
theorem d_law_end_5 : decode method_7_code 5 = .ok (.goto 6, 3) := by decide +kernel
theorem d_law_end_11 : decode method_7_code 11 = .ok (.iconst 0, 1) := by decide +kernel
theorem d_law_end_12 : decode method_7_code 12 = .ok (.ireturn, 1) := by decide +kernel
set_option maxRecDepth 100000 in
set_option maxHeartbeats 4000000 in
theorem h_end_g (l : Launch) (D : va_G) (τ : ClassId × ClassId × ClassId) (B : Nat) (σ : Sg) (ad : Nat → Nat) (f : Nat → Int64) (ou : Nat) (x : Int32) (o : Sg) (h : F_DM_end σ x = some o) : MIa l y_law_end (Cond.codeWith y_law_end method_7_code 3 (some .int) [(0, 5, 8, 13)]) 8 0 0 D τ B [.ref (ad 56), .int x] ([oc τ ou f] ++ wdC τ σ ad) Unit (fun r _ => r = 0) (fun _ => [oc τ ou f] ++ wdC τ o ad) := by
  refine en_iw (by decide) (Nat.le_of_ble_eq_true rfl) ?_
  intro p e R s m args below meth c H locs ls A E hRc hRs hret hta w hl
  have E : Cx p R s m args meth c method_7_code 3 "DrawingMachineLaw" 8 D τ B A := E
  have hl : lv_has ls 3 [(0, .ref (ad 56)), (1, .int x)] := hl
  refine lv_aload_n E.x E.b d_law_end_0 rfl (lv_at hl 0 rfl) ?_
  refine lv_iload_n E.x E.b d_law_end_1 rfl (lv_at hl 1 rfl) ?_
  refine gr_v E.C w (va_runV (As := [.int x]) (rest := []) E.fix (c_DM_end l D τ B σ ad x o h _) (cwV 1 E.w (tw_pre (tw_good k906) (l := [_, _, _, _]) (List.forall_mem_cons.mpr ⟨k903, List.forall_mem_cons.mpr ⟨k904, List.forall_mem_cons.mpr ⟨k905, List.forall_mem_cons.mpr ⟨k1, fun _ h => absurd h List.not_mem_nil⟩⟩⟩⟩)) rfl rfl rfl (by decide +kernel) ⟨Nat.le_trans (Nat.le_of_ble_eq_true rfl) E.2.2.2.2.2.2.1, Nat.le_trans (Nat.le_of_ble_eq_true rfl) E.2.2.2.2.2.2.2.1⟩) (pvR E.C w [.int x] (q0 := 56) rfl rfl) rfl rfl hl.1 rfl (lv_room (Nat.le_of_ble_eq_true rfl)) d_law_end_2 ⟨Nat.zero_le _, Nat.zero_le _⟩) (fun u H locs hr w => ?_)
  refine W.widen (k := 0) (n := 0) (by omega) (by omega) ?_
  refine lv_goto (tgt := 11) E.x E.b d_law_end_5 (by decide) ?_
  refine lv_iconst (v := 0) E.x E.b d_law_end_11 (by decide) ?_
  exact rt_ia E () rfl w hret d_law_end_12
theorem d_law_end_8 : decode method_7_code 8 = .ok (.astore_n 2, 1) := by decide +kernel
theorem d_law_end_9 : decode method_7_code 9 = .ok (.iconst 1, 1) := by decide +kernel
theorem d_law_end_10 : decode method_7_code 10 = .ok (.ireturn, 1) := by decide +kernel
set_option maxRecDepth 100000 in
set_option maxHeartbeats 4000000 in
theorem h_end_b (l : Launch) (hfl : l.stackTraces = false) (D : va_G) (τ : ClassId × ClassId × ClassId) (B : Nat) (σ : Sg) (ad : Nat → Nat) (f : Nat → Int64) (ou : Nat) (x : Int32) (hbd : x < 0 ∨ σ.1 2 < x) : MIa l y_law_end (Cond.codeWith y_law_end method_7_code 3 (some .int) [(0, 5, 8, 13)]) 8 1 6 D τ B [.ref (ad 56), .int x] ([oc τ ou f] ++ wdC τ σ ad) Unit (fun r _ => r = 1) (fun _ => [oc τ ou f] ++ wdC τ σ ad) := by
  refine en_iw (by decide) (Nat.le_of_ble_eq_true rfl) ?_
  intro p e R s m args below meth c H locs ls A E hRc hRs hret hta w hl
  have E : Cx p R s m args meth c method_7_code 3 "DrawingMachineLaw" 8 D τ B A := E
  have hl : lv_has ls 3 [(0, .ref (ad 56)), (1, .int x)] := hl
  refine lv_aload_n E.x E.b d_law_end_0 rfl (lv_at hl 0 rfl) ?_
  refine lv_iload_n E.x E.b d_law_end_1 rfl (lv_at hl 1 rfl) ?_
  refine tq_e1 (As := [.int x]) (rest := []) E.fix (c_end_b l hfl D τ B _ σ ad x hbd) (cwV 1 E.w (tw_pre (tw_good k906) (l := [_, _, _, _]) (List.forall_mem_cons.mpr ⟨k903, List.forall_mem_cons.mpr ⟨k904, List.forall_mem_cons.mpr ⟨k905, List.forall_mem_cons.mpr ⟨k1, fun _ h => absurd h List.not_mem_nil⟩⟩⟩⟩)) rfl rfl rfl (by decide +kernel) ⟨Nat.le_trans (Nat.le_of_ble_eq_true rfl) E.2.2.2.2.2.2.1, Nat.le_trans (Nat.le_of_ble_eq_true rfl) E.2.2.2.2.2.2.2.1⟩) (pvS E.C w [.int x] [57, 60] (by decide) rfl (q0 := 57) rfl rfl) rfl hl.1 rfl (Nat.le_of_ble_eq_true rfl) d_law_end_2 ⟨by rw [hRc]; exact Nat.le_refl _, by rw [hRs]; exact Nat.le_refl _⟩ hta (by decide) (by decide) (by decide) (E.w _ k474) w (fun a9 H w => ?_)
  refine W.widen (k := 1) (n := 6) (by omega) (by omega) ?_
  refine lv_astore_n (lv' := [(2, .ref a9), (0, .ref (ad 56)), (1, .int x)]) E.x E.b d_law_end_8 rfl hl (by decide) rfl (fun ls hl => ?_)
  refine lv_iconst (v := 1) E.x E.b d_law_end_9 (by decide) ?_
  exact rt_ia E () rfl w hret d_law_end_10
theorem d_law_run_0 : decode method_8_code 0 = .ok (.aload_n 2, 1) := by decide +kernel
theorem d_law_run_1 : decode method_8_code 1 = .ok (.iconst 0, 1) := by decide +kernel
theorem d_law_run_2 : decode method_8_code 2 = .ok (.aload_n 0, 1) := by decide +kernel
theorem d_law_run_3 : decode method_8_code 3 = .ok (.iload_n 1, 1) := by decide +kernel
theorem d_law_run_4 : decode method_8_code 4 = .ok (.invokevirtual 35, 3) := by decide +kernel
theorem d_law_run_7 : decode method_8_code 7 = .ok (.i2l, 1) := by decide +kernel
theorem d_law_run_8 : decode method_8_code 8 = .ok (.lastore, 1) := by decide +kernel
theorem d_law_run_9 : decode method_8_code 9 = .ok (.goto 9, 3) := by decide +kernel
theorem d_law_run_18 : decode method_8_code 18 = .ok (.iconst 0, 1) := by decide +kernel
theorem d_law_run_19 : decode method_8_code 19 = .ok (.ireturn, 1) := by decide +kernel
set_option maxRecDepth 100000 in
set_option maxHeartbeats 4000000 in
theorem h_run_g (l : Launch) (D : va_G) (τ : ClassId × ClassId × ClassId) (B : Nat) (σ : Sg) (ad : Nat → Nat) (f : Nat → Int64) (ou : Nat) (x : Int32) (o : Sg × Int32) (h : F_DM_run σ x = some o) : MIa l y_law_run (Cond.codeWith y_law_run method_8_code 4 (some .int) [(0, 9, 12, 13), (0, 9, 15, 38)]) 8 0 0 D τ B [.ref (ad 56), .int x, .ref ou] ([oc τ ou f] ++ wdC τ σ ad) Unit (fun r _ => r = 0) (fun _ => [oc τ ou (vp_updL f (0 : Int32).toNatClampNeg o.2.toInt64)] ++ wdC τ o.1 ad) := by
  refine en_iw (by decide) (Nat.le_of_ble_eq_true rfl) ?_
  intro p e R s m args below meth c H locs ls A E hRc hRs hret hta w hl
  have E : Cx p R s m args meth c method_8_code 4 "DrawingMachineLaw" 8 D τ B A := E
  have hl : lv_has ls 4 [(0, .ref (ad 56)), (1, .int x), (2, .ref ou)] := hl
  refine lv_aload_n E.x E.b d_law_run_0 rfl (lv_at hl 2 rfl) ?_
  refine lv_iconst (v := 0) E.x E.b d_law_run_1 (by decide) ?_
  refine lv_aload_n E.x E.b d_law_run_2 rfl (lv_at hl 0 rfl) ?_
  refine lv_iload_n E.x E.b d_law_run_3 rfl (lv_at hl 1 rfl) ?_
  refine gr_i E.C w (va_runV (As := [.int x]) (rest := [.int 0, .ref ou]) E.fix (c_DM_run l D τ B σ ad x o h _) (cwV 1 E.w (tw_pre (tw_good k915) (l := [_, _, _, _]) (List.forall_mem_cons.mpr ⟨k912, List.forall_mem_cons.mpr ⟨k913, List.forall_mem_cons.mpr ⟨k914, List.forall_mem_cons.mpr ⟨k1, fun _ h => absurd h List.not_mem_nil⟩⟩⟩⟩)) rfl rfl rfl (by decide +kernel) ⟨Nat.le_trans (Nat.le_of_ble_eq_true rfl) E.2.2.2.2.2.2.1, Nat.le_trans (Nat.le_of_ble_eq_true rfl) E.2.2.2.2.2.2.2.1⟩) (pvR E.C w [.int x] (q0 := 56) rfl rfl) rfl rfl hl.1 rfl (lv_room (Nat.le_of_ble_eq_true rfl)) d_law_run_4 ⟨Nat.zero_le _, Nat.zero_le _⟩) (fun r u H locs hr w => ?_)
  refine W.widen (k := 0) (n := 0) (by omega) (by omega) ?_
  have hr : r = o.2 := hr
  rw [hr]
  refine lv_i2l (v := o.2.toInt64) E.x E.b d_law_run_7 rfl ?_
  refine rx_las (ws' := [oc τ ou (vp_updL f (0 : Int32).toNatClampNeg o.2.toInt64)] ++ wdC τ o.1 ad) E w (k := 0) rfl (by decide) rfl d_law_run_8 (fun H locs w => ?_)
  refine lv_goto (tgt := 18) E.x E.b d_law_run_9 (by decide) ?_
  refine lv_iconst (v := 0) E.x E.b d_law_run_18 (by decide) ?_
  exact rt_ia E () rfl w hret d_law_run_19
theorem d_law_run_12 : decode method_8_code 12 = .ok (.astore_n 3, 1) := by decide +kernel
theorem d_law_run_13 : decode method_8_code 13 = .ok (.iconst 1, 1) := by decide +kernel
theorem d_law_run_14 : decode method_8_code 14 = .ok (.ireturn, 1) := by decide +kernel
set_option maxRecDepth 100000 in
set_option maxHeartbeats 4000000 in
theorem h_run_b (l : Launch) (hfl : l.stackTraces = false) (D : va_G) (τ : ClassId × ClassId × ClassId) (B : Nat) (σ : Sg) (ad : Nat → Nat) (f : Nat → Int64) (ou : Nat) (x : Int32) (hn : x < 0) : MIa l y_law_run (Cond.codeWith y_law_run method_8_code 4 (some .int) [(0, 9, 12, 13), (0, 9, 15, 38)]) 8 1 6 D τ B [.ref (ad 56), .int x, .ref ou] ([oc τ ou f] ++ wdC τ σ ad) Unit (fun r _ => r = 1) (fun _ => [oc τ ou f] ++ wdC τ σ ad) := by
  refine en_iw (by decide) (Nat.le_of_ble_eq_true rfl) ?_
  intro p e R s m args below meth c H locs ls A E hRc hRs hret hta w hl
  have E : Cx p R s m args meth c method_8_code 4 "DrawingMachineLaw" 8 D τ B A := E
  have hl : lv_has ls 4 [(0, .ref (ad 56)), (1, .int x), (2, .ref ou)] := hl
  refine lv_aload_n E.x E.b d_law_run_0 rfl (lv_at hl 2 rfl) ?_
  refine lv_iconst (v := 0) E.x E.b d_law_run_1 (by decide) ?_
  refine lv_aload_n E.x E.b d_law_run_2 rfl (lv_at hl 0 rfl) ?_
  refine lv_iload_n E.x E.b d_law_run_3 rfl (lv_at hl 1 rfl) ?_
  refine tq_e1 (As := [.int x]) (rest := [.int 0, .ref ou]) E.fix (c_run_b l hfl D τ B _ σ ad x hn) (cwV 1 E.w (tw_pre (tw_good k915) (l := [_, _, _, _]) (List.forall_mem_cons.mpr ⟨k912, List.forall_mem_cons.mpr ⟨k913, List.forall_mem_cons.mpr ⟨k914, List.forall_mem_cons.mpr ⟨k1, fun _ h => absurd h List.not_mem_nil⟩⟩⟩⟩)) rfl rfl rfl (by decide +kernel) ⟨Nat.le_trans (Nat.le_of_ble_eq_true rfl) E.2.2.2.2.2.2.1, Nat.le_trans (Nat.le_of_ble_eq_true rfl) E.2.2.2.2.2.2.2.1⟩) (pvS E.C w [.int x] [] (by decide) rfl (q0 := 57) rfl rfl) rfl hl.1 rfl (Nat.le_of_ble_eq_true rfl) d_law_run_4 ⟨by rw [hRc]; exact Nat.le_refl _, by rw [hRs]; exact Nat.le_refl _⟩ hta (by decide) (by decide) (by decide) (E.w _ k474) w (fun a9 H w => ?_)
  refine W.widen (k := 1) (n := 6) (by omega) (by omega) ?_
  refine lv_astore_n (lv' := [(3, .ref a9), (0, .ref (ad 56)), (1, .int x), (2, .ref ou)]) E.x E.b d_law_run_12 rfl hl (by decide) rfl (fun ls hl => ?_)
  refine lv_iconst (v := 1) E.x E.b d_law_run_13 (by decide) ?_
  exact rt_ia E () rfl w hret d_law_run_14
theorem d_law_run_15 : decode method_8_code 15 = .ok (.astore_n 3, 1) := by decide +kernel
theorem d_law_run_16 : decode method_8_code 16 = .ok (.iconst 2, 1) := by decide +kernel
theorem d_law_run_17 : decode method_8_code 17 = .ok (.ireturn, 1) := by decide +kernel
set_option maxRecDepth 100000 in
set_option maxHeartbeats 4000000 in
theorem h_run_o (l : Launch) (hfl : l.stackTraces = false) (D : va_G) (τ : ClassId × ClassId × ClassId) (B : Nat) (σ : Sg) (ad : Nat → Nat) (f : Nat → Int64) (ou : Nat) (x : Int32) (hn : 0 ≤ x) (ho : ¬ σ.1 9 = 0) : MIa l y_law_run (Cond.codeWith y_law_run method_8_code 4 (some .int) [(0, 9, 12, 13), (0, 9, 15, 38)]) 8 1 6 D τ B [.ref (ad 56), .int x, .ref ou] ([oc τ ou f] ++ wdC τ σ ad) Unit (fun r _ => r = 2) (fun _ => [oc τ ou f] ++ wdC τ σ ad) := by
  refine en_iw (by decide) (Nat.le_of_ble_eq_true rfl) ?_
  intro p e R s m args below meth c H locs ls A E hRc hRs hret hta w hl
  have E : Cx p R s m args meth c method_8_code 4 "DrawingMachineLaw" 8 D τ B A := E
  have hl : lv_has ls 4 [(0, .ref (ad 56)), (1, .int x), (2, .ref ou)] := hl
  refine lv_aload_n E.x E.b d_law_run_0 rfl (lv_at hl 2 rfl) ?_
  refine lv_iconst (v := 0) E.x E.b d_law_run_1 (by decide) ?_
  refine lv_aload_n E.x E.b d_law_run_2 rfl (lv_at hl 0 rfl) ?_
  refine lv_iload_n E.x E.b d_law_run_3 rfl (lv_at hl 1 rfl) ?_
  refine tq_e2 (As := [.int x]) (rest := [.int 0, .ref ou]) E.fix (c_run_o l hfl D τ B _ σ ad x hn ho) (cwV 1 E.w (tw_pre (tw_good k915) (l := [_, _, _, _]) (List.forall_mem_cons.mpr ⟨k912, List.forall_mem_cons.mpr ⟨k913, List.forall_mem_cons.mpr ⟨k914, List.forall_mem_cons.mpr ⟨k1, fun _ h => absurd h List.not_mem_nil⟩⟩⟩⟩)) rfl rfl rfl (by decide +kernel) ⟨Nat.le_trans (Nat.le_of_ble_eq_true rfl) E.2.2.2.2.2.2.1, Nat.le_trans (Nat.le_of_ble_eq_true rfl) E.2.2.2.2.2.2.2.1⟩) (pvS E.C w [.int x] [57, 60] (by decide) rfl (q0 := 57) rfl rfl) rfl hl.1 rfl (Nat.le_of_ble_eq_true rfl) d_law_run_4 ⟨by rw [hRc]; exact Nat.le_refl _, by rw [hRs]; exact Nat.le_refl _⟩ hta (by decide) (by decide) (by decide) (by decide) (by decide) (by decide) (E.w _ k474) (E.w _ k911) (E.C.2.2.1.2.2.2.2.1 ("java/lang/IllegalStateException", "java/lang/IllegalArgumentException") (by decide)) w (fun a9 H w => ?_)
  refine W.widen (k := 1) (n := 6) (by omega) (by omega) ?_
  refine lv_astore_n (lv' := [(3, .ref a9), (0, .ref (ad 56)), (1, .int x), (2, .ref ou)]) E.x E.b d_law_run_15 rfl hl (by decide) rfl (fun ls hl => ?_)
  refine lv_iconst (v := 2) E.x E.b d_law_run_16 (by decide) ?_
  exact rt_ia E () rfl w hret d_law_run_17
theorem d_law_about_0 : decode method_9_code 0 = .ok (.aload_n 2, 1) := by decide +kernel
theorem d_law_about_1 : decode method_9_code 1 = .ok (.iconst 0, 1) := by decide +kernel
theorem d_law_about_2 : decode method_9_code 2 = .ok (.aload_n 0, 1) := by decide +kernel
theorem d_law_about_3 : decode method_9_code 3 = .ok (.iload_n 1, 1) := by decide +kernel
theorem d_law_about_4 : decode method_9_code 4 = .ok (.invokevirtual 40, 3) := by decide +kernel
theorem d_law_about_7 : decode method_9_code 7 = .ok (.i2l, 1) := by decide +kernel
theorem d_law_about_8 : decode method_9_code 8 = .ok (.lastore, 1) := by decide +kernel
theorem d_law_about_9 : decode method_9_code 9 = .ok (.goto 6, 3) := by decide +kernel
theorem d_law_about_15 : decode method_9_code 15 = .ok (.iconst 0, 1) := by decide +kernel
theorem d_law_about_16 : decode method_9_code 16 = .ok (.ireturn, 1) := by decide +kernel
set_option maxRecDepth 100000 in
set_option maxHeartbeats 4000000 in
theorem h_about_g (l : Launch) (D : va_G) (τ : ClassId × ClassId × ClassId) (B : Nat) (σ : Sg) (ad : Nat → Nat) (f : Nat → Int64) (ou : Nat) (x : Int32) (o : Int32) (h : F_DM_about σ x = some o) : MIa l y_law_about (Cond.codeWith y_law_about method_9_code 4 (some .int) [(0, 9, 12, 13)]) 8 0 0 D τ B [.ref (ad 56), .int x, .ref ou] ([oc τ ou f] ++ wdC τ σ ad) Unit (fun r _ => r = 0) (fun _ => [oc τ ou (vp_updL f (0 : Int32).toNatClampNeg o.toInt64)] ++ wdC τ σ ad) := by
  refine en_iw (by decide) (Nat.le_of_ble_eq_true rfl) ?_
  intro p e R s m args below meth c H locs ls A E hRc hRs hret hta w hl
  have E : Cx p R s m args meth c method_9_code 4 "DrawingMachineLaw" 8 D τ B A := E
  have hl : lv_has ls 4 [(0, .ref (ad 56)), (1, .int x), (2, .ref ou)] := hl
  refine lv_aload_n E.x E.b d_law_about_0 rfl (lv_at hl 2 rfl) ?_
  refine lv_iconst (v := 0) E.x E.b d_law_about_1 (by decide) ?_
  refine lv_aload_n E.x E.b d_law_about_2 rfl (lv_at hl 0 rfl) ?_
  refine lv_iload_n E.x E.b d_law_about_3 rfl (lv_at hl 1 rfl) ?_
  refine gr_i E.C w (va_runV (As := [.int x]) (rest := [.int 0, .ref ou]) E.fix (c_DM_about l D τ B σ ad x o h _) (cwV 1 E.w (tw_pre (tw_good k1382) (l := [_, _, _, _]) (List.forall_mem_cons.mpr ⟨k1379, List.forall_mem_cons.mpr ⟨k1380, List.forall_mem_cons.mpr ⟨k1381, List.forall_mem_cons.mpr ⟨k1, fun _ h => absurd h List.not_mem_nil⟩⟩⟩⟩)) rfl rfl rfl (by decide +kernel) ⟨Nat.le_trans (Nat.le_of_ble_eq_true rfl) E.2.2.2.2.2.2.1, Nat.le_trans (Nat.le_of_ble_eq_true rfl) E.2.2.2.2.2.2.2.1⟩) (pvR E.C w [.int x] (q0 := 56) rfl rfl) rfl rfl hl.1 rfl (lv_room (Nat.le_of_ble_eq_true rfl)) d_law_about_4 ⟨Nat.zero_le _, Nat.zero_le _⟩) (fun r u H locs hr w => ?_)
  refine W.widen (k := 0) (n := 0) (by omega) (by omega) ?_
  have hr : r = o := hr
  rw [hr]
  refine lv_i2l (v := o.toInt64) E.x E.b d_law_about_7 rfl ?_
  refine rx_las (ws' := [oc τ ou (vp_updL f (0 : Int32).toNatClampNeg o.toInt64)] ++ wdC τ σ ad) E w (k := 0) rfl (by decide) rfl d_law_about_8 (fun H locs w => ?_)
  refine lv_goto (tgt := 15) E.x E.b d_law_about_9 (by decide) ?_
  refine lv_iconst (v := 0) E.x E.b d_law_about_15 (by decide) ?_
  exact rt_ia E () rfl w hret d_law_about_16
theorem d_law_about_12 : decode method_9_code 12 = .ok (.astore_n 3, 1) := by decide +kernel
theorem d_law_about_13 : decode method_9_code 13 = .ok (.iconst 1, 1) := by decide +kernel
theorem d_law_about_14 : decode method_9_code 14 = .ok (.ireturn, 1) := by decide +kernel
set_option maxRecDepth 100000 in
set_option maxHeartbeats 4000000 in
theorem h_about_b (l : Launch) (hfl : l.stackTraces = false) (D : va_G) (τ : ClassId × ClassId × ClassId) (B : Nat) (σ : Sg) (ad : Nat → Nat) (f : Nat → Int64) (ou : Nat) (x : Int32) (hbd : x < 0 ∨ 8 < x) : MIa l y_law_about (Cond.codeWith y_law_about method_9_code 4 (some .int) [(0, 9, 12, 13)]) 8 1 6 D τ B [.ref (ad 56), .int x, .ref ou] ([oc τ ou f] ++ wdC τ σ ad) Unit (fun r _ => r = 1) (fun _ => [oc τ ou f] ++ wdC τ σ ad) := by
  refine en_iw (by decide) (Nat.le_of_ble_eq_true rfl) ?_
  intro p e R s m args below meth c H locs ls A E hRc hRs hret hta w hl
  have E : Cx p R s m args meth c method_9_code 4 "DrawingMachineLaw" 8 D τ B A := E
  have hl : lv_has ls 4 [(0, .ref (ad 56)), (1, .int x), (2, .ref ou)] := hl
  refine lv_aload_n E.x E.b d_law_about_0 rfl (lv_at hl 2 rfl) ?_
  refine lv_iconst (v := 0) E.x E.b d_law_about_1 (by decide) ?_
  refine lv_aload_n E.x E.b d_law_about_2 rfl (lv_at hl 0 rfl) ?_
  refine lv_iload_n E.x E.b d_law_about_3 rfl (lv_at hl 1 rfl) ?_
  refine tq_e1 (As := [.int x]) (rest := [.int 0, .ref ou]) E.fix (c_about_b l hfl D τ B _ σ ad x hbd) (cwV 1 E.w (tw_pre (tw_good k1382) (l := [_, _, _, _]) (List.forall_mem_cons.mpr ⟨k1379, List.forall_mem_cons.mpr ⟨k1380, List.forall_mem_cons.mpr ⟨k1381, List.forall_mem_cons.mpr ⟨k1, fun _ h => absurd h List.not_mem_nil⟩⟩⟩⟩)) rfl rfl rfl (by decide +kernel) ⟨Nat.le_trans (Nat.le_of_ble_eq_true rfl) E.2.2.2.2.2.2.1, Nat.le_trans (Nat.le_of_ble_eq_true rfl) E.2.2.2.2.2.2.2.1⟩) (pvS E.C w [.int x] [] (by decide) rfl (q0 := 57) rfl rfl) rfl hl.1 rfl (Nat.le_of_ble_eq_true rfl) d_law_about_4 ⟨by rw [hRc]; exact Nat.le_refl _, by rw [hRs]; exact Nat.le_refl _⟩ hta (by decide) (by decide) (by decide) (E.w _ k474) w (fun a9 H w => ?_)
  refine W.widen (k := 1) (n := 6) (by omega) (by omega) ?_
  refine lv_astore_n (lv' := [(3, .ref a9), (0, .ref (ad 56)), (1, .int x), (2, .ref ou)]) E.x E.b d_law_about_12 rfl hl (by decide) rfl (fun ls hl => ?_)
  refine lv_iconst (v := 1) E.x E.b d_law_about_13 (by decide) ?_
  exact rt_ia E () rfl w hret d_law_about_14
theorem d_law_at_0 : decode method_10_code 0 = .ok (.aload 4, 2) := by decide +kernel
theorem d_law_at_2 : decode method_10_code 2 = .ok (.iconst 0, 1) := by decide +kernel
theorem d_law_at_3 : decode method_10_code 3 = .ok (.aload_n 0, 1) := by decide +kernel
theorem d_law_at_4 : decode method_10_code 4 = .ok (.iload_n 1, 1) := by decide +kernel
theorem d_law_at_5 : decode method_10_code 5 = .ok (.iload_n 2, 1) := by decide +kernel
theorem d_law_at_6 : decode method_10_code 6 = .ok (.iload_n 3, 1) := by decide +kernel
theorem d_law_at_7 : decode method_10_code 7 = .ok (.invokevirtual 43, 3) := by decide +kernel
theorem d_law_at_10 : decode method_10_code 10 = .ok (.i2l, 1) := by decide +kernel
theorem d_law_at_11 : decode method_10_code 11 = .ok (.lastore, 1) := by decide +kernel
theorem d_law_at_12 : decode method_10_code 12 = .ok (.goto 11, 3) := by decide +kernel
theorem d_law_at_23 : decode method_10_code 23 = .ok (.iconst 0, 1) := by decide +kernel
theorem d_law_at_24 : decode method_10_code 24 = .ok (.ireturn, 1) := by decide +kernel
set_option maxRecDepth 100000 in
set_option maxHeartbeats 4000000 in
theorem h_at_g (l : Launch) (D : va_G) (τ : ClassId × ClassId × ClassId) (B : Nat) (σ : Sg) (ad : Nat → Nat) (f : Nat → Int64) (ou : Nat) (px : Int32) (py : Int32) (x : Int32) (o : Int32) (h : F_DM_at σ px py x = some o) : MIa l y_law_at (Cond.codeWith y_law_at method_10_code 6 (some .int) [(0, 12, 15, 13), (0, 12, 19, 19)]) 8 0 0 D τ B [.ref (ad 56), .int px, .int py, .int x, .ref ou] ([oc τ ou f] ++ wdC τ σ ad) Unit (fun r _ => r = 0) (fun _ => [oc τ ou (vp_updL f (0 : Int32).toNatClampNeg o.toInt64)] ++ wdC τ σ ad) := by
  refine en_iw (by decide) (Nat.le_of_ble_eq_true rfl) ?_
  intro p e R s m args below meth c H locs ls A E hRc hRs hret hta w hl
  have E : Cx p R s m args meth c method_10_code 6 "DrawingMachineLaw" 8 D τ B A := E
  have hl : lv_has ls 6 [(0, .ref (ad 56)), (1, .int px), (2, .int py), (3, .int x), (4, .ref ou)] := hl
  refine lv_aload E.x E.b d_law_at_0 (lv_at hl 4 rfl) ?_
  refine lv_iconst (v := 0) E.x E.b d_law_at_2 (by decide) ?_
  refine lv_aload_n E.x E.b d_law_at_3 rfl (lv_at hl 0 rfl) ?_
  refine lv_iload_n E.x E.b d_law_at_4 rfl (lv_at hl 1 rfl) ?_
  refine lv_iload_n E.x E.b d_law_at_5 rfl (lv_at hl 2 rfl) ?_
  refine lv_iload_n E.x E.b d_law_at_6 rfl (lv_at hl 3 rfl) ?_
  refine gr_i E.C w (va_runV (As := [.int px, .int py, .int x]) (rest := [.int 0, .ref ou]) E.fix (c_DM_at l D τ B σ ad px py x o h _) (cwV 3 E.w (tw_pre (tw_good k1390) (l := [_, _, _, _]) (List.forall_mem_cons.mpr ⟨k1387, List.forall_mem_cons.mpr ⟨k1388, List.forall_mem_cons.mpr ⟨k1389, List.forall_mem_cons.mpr ⟨k1, fun _ h => absurd h List.not_mem_nil⟩⟩⟩⟩)) rfl rfl rfl (by decide +kernel) ⟨Nat.le_trans (Nat.le_of_ble_eq_true rfl) E.2.2.2.2.2.2.1, Nat.le_trans (Nat.le_of_ble_eq_true rfl) E.2.2.2.2.2.2.2.1⟩) (pvR E.C w [.int px, .int py, .int x] (q0 := 56) rfl rfl) rfl rfl hl.1 rfl (lv_room (Nat.le_of_ble_eq_true rfl)) d_law_at_7 ⟨Nat.zero_le _, Nat.zero_le _⟩) (fun r u H locs hr w => ?_)
  refine W.widen (k := 0) (n := 0) (by omega) (by omega) ?_
  have hr : r = o := hr
  rw [hr]
  refine lv_i2l (v := o.toInt64) E.x E.b d_law_at_10 rfl ?_
  refine rx_las (ws' := [oc τ ou (vp_updL f (0 : Int32).toNatClampNeg o.toInt64)] ++ wdC τ σ ad) E w (k := 0) rfl (by decide) rfl d_law_at_11 (fun H locs w => ?_)
  refine lv_goto (tgt := 23) E.x E.b d_law_at_12 (by decide) ?_
  refine lv_iconst (v := 0) E.x E.b d_law_at_23 (by decide) ?_
  exact rt_ia E () rfl w hret d_law_at_24
theorem d_law_at_15 : decode method_10_code 15 = .ok (.astore 5, 2) := by decide +kernel
theorem d_law_at_17 : decode method_10_code 17 = .ok (.iconst 1, 1) := by decide +kernel
theorem d_law_at_18 : decode method_10_code 18 = .ok (.ireturn, 1) := by decide +kernel
set_option maxRecDepth 100000 in
set_option maxHeartbeats 4000000 in
theorem h_at_bw (l : Launch) (hfl : l.stackTraces = false) (D : va_G) (τ : ClassId × ClassId × ClassId) (B : Nat) (σ : Sg) (ad : Nat → Nat) (f : Nat → Int64) (ou : Nat) (px : Int32) (py : Int32) (x : Int32) (hbd : x < 0 ∨ 2 < x) : MIa l y_law_at (Cond.codeWith y_law_at method_10_code 6 (some .int) [(0, 12, 15, 13), (0, 12, 19, 19)]) 8 1 6 D τ B [.ref (ad 56), .int px, .int py, .int x, .ref ou] ([oc τ ou f] ++ wdC τ σ ad) Unit (fun r _ => r = 1) (fun _ => [oc τ ou f] ++ wdC τ σ ad) := by
  refine en_iw (by decide) (Nat.le_of_ble_eq_true rfl) ?_
  intro p e R s m args below meth c H locs ls A E hRc hRs hret hta w hl
  have E : Cx p R s m args meth c method_10_code 6 "DrawingMachineLaw" 8 D τ B A := E
  have hl : lv_has ls 6 [(0, .ref (ad 56)), (1, .int px), (2, .int py), (3, .int x), (4, .ref ou)] := hl
  refine lv_aload E.x E.b d_law_at_0 (lv_at hl 4 rfl) ?_
  refine lv_iconst (v := 0) E.x E.b d_law_at_2 (by decide) ?_
  refine lv_aload_n E.x E.b d_law_at_3 rfl (lv_at hl 0 rfl) ?_
  refine lv_iload_n E.x E.b d_law_at_4 rfl (lv_at hl 1 rfl) ?_
  refine lv_iload_n E.x E.b d_law_at_5 rfl (lv_at hl 2 rfl) ?_
  refine lv_iload_n E.x E.b d_law_at_6 rfl (lv_at hl 3 rfl) ?_
  refine tq_e1 (As := [.int px, .int py, .int x]) (rest := [.int 0, .ref ou]) E.fix (c_at_bw l hfl D τ B _ σ ad px py x hbd) (cwV 3 E.w (tw_pre (tw_good k1390) (l := [_, _, _, _]) (List.forall_mem_cons.mpr ⟨k1387, List.forall_mem_cons.mpr ⟨k1388, List.forall_mem_cons.mpr ⟨k1389, List.forall_mem_cons.mpr ⟨k1, fun _ h => absurd h List.not_mem_nil⟩⟩⟩⟩)) rfl rfl rfl (by decide +kernel) ⟨Nat.le_trans (Nat.le_of_ble_eq_true rfl) E.2.2.2.2.2.2.1, Nat.le_trans (Nat.le_of_ble_eq_true rfl) E.2.2.2.2.2.2.2.1⟩) (pvS E.C w [.int px, .int py, .int x] [] (by decide) rfl (q0 := 57) rfl rfl) rfl hl.1 rfl (Nat.le_of_ble_eq_true rfl) d_law_at_7 ⟨by rw [hRc]; exact Nat.le_refl _, by rw [hRs]; exact Nat.le_refl _⟩ hta (by decide) (by decide) (by decide) (E.w _ k474) w (fun a9 H w => ?_)
  refine W.widen (k := 1) (n := 6) (by omega) (by omega) ?_
  refine lv_astore (lv' := [(5, .ref a9), (0, .ref (ad 56)), (1, .int px), (2, .int py), (3, .int x), (4, .ref ou)]) E.x E.b d_law_at_15 hl (by decide) rfl (fun ls hl => ?_)
  refine lv_iconst (v := 1) E.x E.b d_law_at_17 (by decide) ?_
  exact rt_ia E () rfl w hret d_law_at_18
theorem d_law_at_19 : decode method_10_code 19 = .ok (.astore 5, 2) := by decide +kernel
theorem d_law_at_21 : decode method_10_code 21 = .ok (.iconst 2, 1) := by decide +kernel
theorem d_law_at_22 : decode method_10_code 22 = .ok (.ireturn, 1) := by decide +kernel
set_option maxRecDepth 100000 in
set_option maxHeartbeats 4000000 in
theorem h_at_bp (l : Launch) (hfl : l.stackTraces = false) (D : va_G) (τ : ClassId × ClassId × ClassId) (B : Nat) (σ : Sg) (ad : Nat → Nat) (f : Nat → Int64) (ou : Nat) (px : Int32) (py : Int32) (x : Int32) (h1 : ¬ x < 0) (h2 : x ≤ 2) (hbd : ¬ ((0 ≤ px ∧ px < σ.1 0) ∧ (0 ≤ py ∧ py < σ.1 1))) : MIa l y_law_at (Cond.codeWith y_law_at method_10_code 6 (some .int) [(0, 12, 15, 13), (0, 12, 19, 19)]) 8 1 6 D τ B [.ref (ad 56), .int px, .int py, .int x, .ref ou] ([oc τ ou f] ++ wdC τ σ ad) Unit (fun r _ => r = 2) (fun _ => [oc τ ou f] ++ wdC τ σ ad) := by
  refine en_iw (by decide) (Nat.le_of_ble_eq_true rfl) ?_
  intro p e R s m args below meth c H locs ls A E hRc hRs hret hta w hl
  have E : Cx p R s m args meth c method_10_code 6 "DrawingMachineLaw" 8 D τ B A := E
  have hl : lv_has ls 6 [(0, .ref (ad 56)), (1, .int px), (2, .int py), (3, .int x), (4, .ref ou)] := hl
  refine lv_aload E.x E.b d_law_at_0 (lv_at hl 4 rfl) ?_
  refine lv_iconst (v := 0) E.x E.b d_law_at_2 (by decide) ?_
  refine lv_aload_n E.x E.b d_law_at_3 rfl (lv_at hl 0 rfl) ?_
  refine lv_iload_n E.x E.b d_law_at_4 rfl (lv_at hl 1 rfl) ?_
  refine lv_iload_n E.x E.b d_law_at_5 rfl (lv_at hl 2 rfl) ?_
  refine lv_iload_n E.x E.b d_law_at_6 rfl (lv_at hl 3 rfl) ?_
  refine tq_e2 (As := [.int px, .int py, .int x]) (rest := [.int 0, .ref ou]) E.fix (c_at_bp l hfl D τ B _ σ ad px py x h1 h2 hbd) (cwV 3 E.w (tw_pre (tw_good k1390) (l := [_, _, _, _]) (List.forall_mem_cons.mpr ⟨k1387, List.forall_mem_cons.mpr ⟨k1388, List.forall_mem_cons.mpr ⟨k1389, List.forall_mem_cons.mpr ⟨k1, fun _ h => absurd h List.not_mem_nil⟩⟩⟩⟩)) rfl rfl rfl (by decide +kernel) ⟨Nat.le_trans (Nat.le_of_ble_eq_true rfl) E.2.2.2.2.2.2.1, Nat.le_trans (Nat.le_of_ble_eq_true rfl) E.2.2.2.2.2.2.2.1⟩) (pvS E.C w [.int px, .int py, .int x] [57, 59] (by decide) rfl (q0 := 57) rfl rfl) rfl hl.1 rfl (Nat.le_of_ble_eq_true rfl) d_law_at_7 ⟨by rw [hRc]; exact Nat.le_refl _, by rw [hRs]; exact Nat.le_refl _⟩ hta (by decide) (by decide) (by decide) (by decide) (by decide) (by decide) (E.w _ k474) (E.w _ k834) (E.C.2.2.1.2.2.2.2.1 ("java/lang/IndexOutOfBoundsException", "java/lang/IllegalArgumentException") (by decide)) w (fun a9 H w => ?_)
  refine W.widen (k := 1) (n := 6) (by omega) (by omega) ?_
  refine lv_astore (lv' := [(5, .ref a9), (0, .ref (ad 56)), (1, .int px), (2, .int py), (3, .int x), (4, .ref ou)]) E.x E.b d_law_at_19 hl (by decide) rfl (fun ls hl => ?_)
  refine lv_iconst (v := 2) E.x E.b d_law_at_21 (by decide) ?_
  exact rt_ia E () rfl w hret d_law_at_22
theorem d_law_sum_0 : decode method_11_code 0 = .ok (.aload_n 2, 1) := by decide +kernel
theorem d_law_sum_1 : decode method_11_code 1 = .ok (.iconst 0, 1) := by decide +kernel
theorem d_law_sum_2 : decode method_11_code 2 = .ok (.aload_n 0, 1) := by decide +kernel
theorem d_law_sum_3 : decode method_11_code 3 = .ok (.iload_n 1, 1) := by decide +kernel
theorem d_law_sum_4 : decode method_11_code 4 = .ok (.invokevirtual 46, 3) := by decide +kernel
theorem d_law_sum_7 : decode method_11_code 7 = .ok (.i2l, 1) := by decide +kernel
theorem d_law_sum_8 : decode method_11_code 8 = .ok (.lastore, 1) := by decide +kernel
theorem d_law_sum_9 : decode method_11_code 9 = .ok (.goto 6, 3) := by decide +kernel
theorem d_law_sum_15 : decode method_11_code 15 = .ok (.iconst 0, 1) := by decide +kernel
theorem d_law_sum_16 : decode method_11_code 16 = .ok (.ireturn, 1) := by decide +kernel
set_option maxRecDepth 100000 in
set_option maxHeartbeats 4000000 in
theorem h_sum_g (l : Launch) (D : va_G) (τ : ClassId × ClassId × ClassId) (B : Nat) (σ : Sg) (ad : Nat → Nat) (f : Nat → Int64) (ou : Nat) (x : Int32) (o : Int32) (h : F_DM_sum σ x = some o) : MIa l y_law_sum (Cond.codeWith y_law_sum method_11_code 4 (some .int) [(0, 9, 12, 13)]) 8 0 0 D τ B [.ref (ad 56), .int x, .ref ou] ([oc τ ou f] ++ wdC τ σ ad) Unit (fun r _ => r = 0) (fun _ => [oc τ ou (vp_updL f (0 : Int32).toNatClampNeg o.toInt64)] ++ wdC τ σ ad) := by
  refine en_iw (by decide) (Nat.le_of_ble_eq_true rfl) ?_
  intro p e R s m args below meth c H locs ls A E hRc hRs hret hta w hl
  have E : Cx p R s m args meth c method_11_code 4 "DrawingMachineLaw" 8 D τ B A := E
  have hl : lv_has ls 4 [(0, .ref (ad 56)), (1, .int x), (2, .ref ou)] := hl
  refine lv_aload_n E.x E.b d_law_sum_0 rfl (lv_at hl 2 rfl) ?_
  refine lv_iconst (v := 0) E.x E.b d_law_sum_1 (by decide) ?_
  refine lv_aload_n E.x E.b d_law_sum_2 rfl (lv_at hl 0 rfl) ?_
  refine lv_iload_n E.x E.b d_law_sum_3 rfl (lv_at hl 1 rfl) ?_
  refine gr_i E.C w (va_runV (As := [.int x]) (rest := [.int 0, .ref ou]) E.fix (c_DM_sum l D τ B σ ad x o h _) (cwV 1 E.w (tw_pre (tw_good k1399) (l := [_, _, _, _]) (List.forall_mem_cons.mpr ⟨k1396, List.forall_mem_cons.mpr ⟨k1397, List.forall_mem_cons.mpr ⟨k1398, List.forall_mem_cons.mpr ⟨k1, fun _ h => absurd h List.not_mem_nil⟩⟩⟩⟩)) rfl rfl rfl (by decide +kernel) ⟨Nat.le_trans (Nat.le_of_ble_eq_true rfl) E.2.2.2.2.2.2.1, Nat.le_trans (Nat.le_of_ble_eq_true rfl) E.2.2.2.2.2.2.2.1⟩) (pvR E.C w [.int x] (q0 := 56) rfl rfl) rfl rfl hl.1 rfl (lv_room (Nat.le_of_ble_eq_true rfl)) d_law_sum_4 ⟨Nat.zero_le _, Nat.zero_le _⟩) (fun r u H locs hr w => ?_)
  refine W.widen (k := 0) (n := 0) (by omega) (by omega) ?_
  have hr : r = o := hr
  rw [hr]
  refine lv_i2l (v := o.toInt64) E.x E.b d_law_sum_7 rfl ?_
  refine rx_las (ws' := [oc τ ou (vp_updL f (0 : Int32).toNatClampNeg o.toInt64)] ++ wdC τ σ ad) E w (k := 0) rfl (by decide) rfl d_law_sum_8 (fun H locs w => ?_)
  refine lv_goto (tgt := 15) E.x E.b d_law_sum_9 (by decide) ?_
  refine lv_iconst (v := 0) E.x E.b d_law_sum_15 (by decide) ?_
  exact rt_ia E () rfl w hret d_law_sum_16
theorem d_law_sum_12 : decode method_11_code 12 = .ok (.astore_n 3, 1) := by decide +kernel
theorem d_law_sum_13 : decode method_11_code 13 = .ok (.iconst 1, 1) := by decide +kernel
theorem d_law_sum_14 : decode method_11_code 14 = .ok (.ireturn, 1) := by decide +kernel
set_option maxRecDepth 100000 in
set_option maxHeartbeats 4000000 in
theorem h_sum_b (l : Launch) (hfl : l.stackTraces = false) (D : va_G) (τ : ClassId × ClassId × ClassId) (B : Nat) (σ : Sg) (ad : Nat → Nat) (f : Nat → Int64) (ou : Nat) (x : Int32) (hbd : x < 0 ∨ 2 < x) : MIa l y_law_sum (Cond.codeWith y_law_sum method_11_code 4 (some .int) [(0, 9, 12, 13)]) 8 1 6 D τ B [.ref (ad 56), .int x, .ref ou] ([oc τ ou f] ++ wdC τ σ ad) Unit (fun r _ => r = 1) (fun _ => [oc τ ou f] ++ wdC τ σ ad) := by
  refine en_iw (by decide) (Nat.le_of_ble_eq_true rfl) ?_
  intro p e R s m args below meth c H locs ls A E hRc hRs hret hta w hl
  have E : Cx p R s m args meth c method_11_code 4 "DrawingMachineLaw" 8 D τ B A := E
  have hl : lv_has ls 4 [(0, .ref (ad 56)), (1, .int x), (2, .ref ou)] := hl
  refine lv_aload_n E.x E.b d_law_sum_0 rfl (lv_at hl 2 rfl) ?_
  refine lv_iconst (v := 0) E.x E.b d_law_sum_1 (by decide) ?_
  refine lv_aload_n E.x E.b d_law_sum_2 rfl (lv_at hl 0 rfl) ?_
  refine lv_iload_n E.x E.b d_law_sum_3 rfl (lv_at hl 1 rfl) ?_
  refine tq_e1 (As := [.int x]) (rest := [.int 0, .ref ou]) E.fix (c_sum_b l hfl D τ B _ σ ad x hbd) (cwV 1 E.w (tw_pre (tw_good k1399) (l := [_, _, _, _]) (List.forall_mem_cons.mpr ⟨k1396, List.forall_mem_cons.mpr ⟨k1397, List.forall_mem_cons.mpr ⟨k1398, List.forall_mem_cons.mpr ⟨k1, fun _ h => absurd h List.not_mem_nil⟩⟩⟩⟩)) rfl rfl rfl (by decide +kernel) ⟨Nat.le_trans (Nat.le_of_ble_eq_true rfl) E.2.2.2.2.2.2.1, Nat.le_trans (Nat.le_of_ble_eq_true rfl) E.2.2.2.2.2.2.2.1⟩) (pvS E.C w [.int x] [] (by decide) rfl (q0 := 57) rfl rfl) rfl hl.1 rfl (Nat.le_of_ble_eq_true rfl) d_law_sum_4 ⟨by rw [hRc]; exact Nat.le_refl _, by rw [hRs]; exact Nat.le_refl _⟩ hta (by decide) (by decide) (by decide) (E.w _ k474) w (fun a9 H w => ?_)
  refine W.widen (k := 1) (n := 6) (by omega) (by omega) ?_
  refine lv_astore_n (lv' := [(3, .ref a9), (0, .ref (ad 56)), (1, .int x), (2, .ref ou)]) E.x E.b d_law_sum_12 rfl hl (by decide) rfl (fun ls hl => ?_)
  refine lv_iconst (v := 1) E.x E.b d_law_sum_13 (by decide) ?_
  exact rt_ia E () rfl w hret d_law_sum_14
theorem d_law_query_0 : decode method_12_code 0 = .ok (.aload_n 2, 1) := by decide +kernel
theorem d_law_query_1 : decode method_12_code 1 = .ok (.iconst 0, 1) := by decide +kernel
theorem d_law_query_2 : decode method_12_code 2 = .ok (.aload_n 0, 1) := by decide +kernel
theorem d_law_query_3 : decode method_12_code 3 = .ok (.iload_n 1, 1) := by decide +kernel
theorem d_law_query_4 : decode method_12_code 4 = .ok (.invokevirtual 49, 3) := by decide +kernel
theorem d_law_query_7 : decode method_12_code 7 = .ok (.i2l, 1) := by decide +kernel
theorem d_law_query_8 : decode method_12_code 8 = .ok (.lastore, 1) := by decide +kernel
theorem d_law_query_9 : decode method_12_code 9 = .ok (.goto 6, 3) := by decide +kernel
theorem d_law_query_15 : decode method_12_code 15 = .ok (.iconst 0, 1) := by decide +kernel
theorem d_law_query_16 : decode method_12_code 16 = .ok (.ireturn, 1) := by decide +kernel
set_option maxRecDepth 100000 in
set_option maxHeartbeats 4000000 in
theorem h_query_g (l : Launch) (D : va_G) (τ : ClassId × ClassId × ClassId) (B : Nat) (σ : Sg) (ad : Nat → Nat) (f : Nat → Int64) (ou : Nat) (x : Int32) (o : Int32) (h : F_DM_query σ x = some o) : MIa l y_law_query (Cond.codeWith y_law_query method_12_code 4 (some .int) [(0, 9, 12, 13)]) 8 0 0 D τ B [.ref (ad 56), .int x, .ref ou] ([oc τ ou f] ++ wdC τ σ ad) Unit (fun r _ => r = 0) (fun _ => [oc τ ou (vp_updL f (0 : Int32).toNatClampNeg o.toInt64)] ++ wdC τ σ ad) := by
  refine en_iw (by decide) (Nat.le_of_ble_eq_true rfl) ?_
  intro p e R s m args below meth c H locs ls A E hRc hRs hret hta w hl
  have E : Cx p R s m args meth c method_12_code 4 "DrawingMachineLaw" 8 D τ B A := E
  have hl : lv_has ls 4 [(0, .ref (ad 56)), (1, .int x), (2, .ref ou)] := hl
  refine lv_aload_n E.x E.b d_law_query_0 rfl (lv_at hl 2 rfl) ?_
  refine lv_iconst (v := 0) E.x E.b d_law_query_1 (by decide) ?_
  refine lv_aload_n E.x E.b d_law_query_2 rfl (lv_at hl 0 rfl) ?_
  refine lv_iload_n E.x E.b d_law_query_3 rfl (lv_at hl 1 rfl) ?_
  refine gr_i E.C w (va_runV (As := [.int x]) (rest := [.int 0, .ref ou]) E.fix (c_DM_query l D τ B σ ad x o h _) (cwV 1 E.w (tw_pre (tw_good k1407) (l := [_, _, _, _]) (List.forall_mem_cons.mpr ⟨k1404, List.forall_mem_cons.mpr ⟨k1405, List.forall_mem_cons.mpr ⟨k1406, List.forall_mem_cons.mpr ⟨k1, fun _ h => absurd h List.not_mem_nil⟩⟩⟩⟩)) rfl rfl rfl (by decide +kernel) ⟨Nat.le_trans (Nat.le_of_ble_eq_true rfl) E.2.2.2.2.2.2.1, Nat.le_trans (Nat.le_of_ble_eq_true rfl) E.2.2.2.2.2.2.2.1⟩) (pvR E.C w [.int x] (q0 := 56) rfl rfl) rfl rfl hl.1 rfl (lv_room (Nat.le_of_ble_eq_true rfl)) d_law_query_4 ⟨Nat.zero_le _, Nat.zero_le _⟩) (fun r u H locs hr w => ?_)
  refine W.widen (k := 0) (n := 0) (by omega) (by omega) ?_
  have hr : r = o := hr
  rw [hr]
  refine lv_i2l (v := o.toInt64) E.x E.b d_law_query_7 rfl ?_
  refine rx_las (ws' := [oc τ ou (vp_updL f (0 : Int32).toNatClampNeg o.toInt64)] ++ wdC τ σ ad) E w (k := 0) rfl (by decide) rfl d_law_query_8 (fun H locs w => ?_)
  refine lv_goto (tgt := 15) E.x E.b d_law_query_9 (by decide) ?_
  refine lv_iconst (v := 0) E.x E.b d_law_query_15 (by decide) ?_
  exact rt_ia E () rfl w hret d_law_query_16
theorem d_law_query_12 : decode method_12_code 12 = .ok (.astore_n 3, 1) := by decide +kernel
theorem d_law_query_13 : decode method_12_code 13 = .ok (.iconst 1, 1) := by decide +kernel
theorem d_law_query_14 : decode method_12_code 14 = .ok (.ireturn, 1) := by decide +kernel
set_option maxRecDepth 100000 in
set_option maxHeartbeats 4000000 in
theorem h_query_b (l : Launch) (hfl : l.stackTraces = false) (D : va_G) (τ : ClassId × ClassId × ClassId) (B : Nat) (σ : Sg) (ad : Nat → Nat) (f : Nat → Int64) (ou : Nat) (x : Int32) (hbd : x < 0 ∨ 8 ≤ x) : MIa l y_law_query (Cond.codeWith y_law_query method_12_code 4 (some .int) [(0, 9, 12, 13)]) 8 1 6 D τ B [.ref (ad 56), .int x, .ref ou] ([oc τ ou f] ++ wdC τ σ ad) Unit (fun r _ => r = 1) (fun _ => [oc τ ou f] ++ wdC τ σ ad) := by
  refine en_iw (by decide) (Nat.le_of_ble_eq_true rfl) ?_
  intro p e R s m args below meth c H locs ls A E hRc hRs hret hta w hl
  have E : Cx p R s m args meth c method_12_code 4 "DrawingMachineLaw" 8 D τ B A := E
  have hl : lv_has ls 4 [(0, .ref (ad 56)), (1, .int x), (2, .ref ou)] := hl
  refine lv_aload_n E.x E.b d_law_query_0 rfl (lv_at hl 2 rfl) ?_
  refine lv_iconst (v := 0) E.x E.b d_law_query_1 (by decide) ?_
  refine lv_aload_n E.x E.b d_law_query_2 rfl (lv_at hl 0 rfl) ?_
  refine lv_iload_n E.x E.b d_law_query_3 rfl (lv_at hl 1 rfl) ?_
  refine tq_e1 (As := [.int x]) (rest := [.int 0, .ref ou]) E.fix (c_query_b l hfl D τ B _ σ ad x hbd) (cwV 1 E.w (tw_pre (tw_good k1407) (l := [_, _, _, _]) (List.forall_mem_cons.mpr ⟨k1404, List.forall_mem_cons.mpr ⟨k1405, List.forall_mem_cons.mpr ⟨k1406, List.forall_mem_cons.mpr ⟨k1, fun _ h => absurd h List.not_mem_nil⟩⟩⟩⟩)) rfl rfl rfl (by decide +kernel) ⟨Nat.le_trans (Nat.le_of_ble_eq_true rfl) E.2.2.2.2.2.2.1, Nat.le_trans (Nat.le_of_ble_eq_true rfl) E.2.2.2.2.2.2.2.1⟩) (pvS E.C w [.int x] [] (by decide) rfl (q0 := 57) rfl rfl) rfl hl.1 rfl (Nat.le_of_ble_eq_true rfl) d_law_query_4 ⟨by rw [hRc]; exact Nat.le_refl _, by rw [hRs]; exact Nat.le_refl _⟩ hta (by decide) (by decide) (by decide) (E.w _ k474) w (fun a9 H w => ?_)
  refine W.widen (k := 1) (n := 6) (by omega) (by omega) ?_
  refine lv_astore_n (lv' := [(3, .ref a9), (0, .ref (ad 56)), (1, .int x), (2, .ref ou)]) E.x E.b d_law_query_12 rfl hl (by decide) rfl (fun ls hl => ?_)
  refine lv_iconst (v := 1) E.x E.b d_law_query_13 (by decide) ?_
  exact rt_ia E () rfl w hret d_law_query_14
theorem d_law_count_0 : decode method_13_code 0 = .ok (.aload_n 2, 1) := by decide +kernel
theorem d_law_count_1 : decode method_13_code 1 = .ok (.iconst 0, 1) := by decide +kernel
theorem d_law_count_2 : decode method_13_code 2 = .ok (.aload_n 0, 1) := by decide +kernel
theorem d_law_count_3 : decode method_13_code 3 = .ok (.iload_n 1, 1) := by decide +kernel
theorem d_law_count_4 : decode method_13_code 4 = .ok (.invokevirtual 52, 3) := by decide +kernel
theorem d_law_count_7 : decode method_13_code 7 = .ok (.i2l, 1) := by decide +kernel
theorem d_law_count_8 : decode method_13_code 8 = .ok (.lastore, 1) := by decide +kernel
theorem d_law_count_9 : decode method_13_code 9 = .ok (.goto 6, 3) := by decide +kernel
theorem d_law_count_15 : decode method_13_code 15 = .ok (.iconst 0, 1) := by decide +kernel
theorem d_law_count_16 : decode method_13_code 16 = .ok (.ireturn, 1) := by decide +kernel
set_option maxRecDepth 100000 in
set_option maxHeartbeats 4000000 in
theorem h_count_g (l : Launch) (D : va_G) (τ : ClassId × ClassId × ClassId) (B : Nat) (σ : Sg) (ad : Nat → Nat) (f : Nat → Int64) (ou : Nat) (x : Int32) (o : Int32) (h : F_DM_count σ x = some o) : MIa l y_law_count (Cond.codeWith y_law_count method_13_code 4 (some .int) [(0, 9, 12, 13)]) 8 0 0 D τ B [.ref (ad 56), .int x, .ref ou] ([oc τ ou f] ++ wdC τ σ ad) Unit (fun r _ => r = 0) (fun _ => [oc τ ou (vp_updL f (0 : Int32).toNatClampNeg o.toInt64)] ++ wdC τ σ ad) := by
  refine en_iw (by decide) (Nat.le_of_ble_eq_true rfl) ?_
  intro p e R s m args below meth c H locs ls A E hRc hRs hret hta w hl
  have E : Cx p R s m args meth c method_13_code 4 "DrawingMachineLaw" 8 D τ B A := E
  have hl : lv_has ls 4 [(0, .ref (ad 56)), (1, .int x), (2, .ref ou)] := hl
  refine lv_aload_n E.x E.b d_law_count_0 rfl (lv_at hl 2 rfl) ?_
  refine lv_iconst (v := 0) E.x E.b d_law_count_1 (by decide) ?_
  refine lv_aload_n E.x E.b d_law_count_2 rfl (lv_at hl 0 rfl) ?_
  refine lv_iload_n E.x E.b d_law_count_3 rfl (lv_at hl 1 rfl) ?_
  refine gr_i E.C w (va_runV (As := [.int x]) (rest := [.int 0, .ref ou]) E.fix (c_DM_count l D τ B σ ad x o h _) (cwV 1 E.w (tw_pre (tw_good k1415) (l := [_, _, _, _]) (List.forall_mem_cons.mpr ⟨k1412, List.forall_mem_cons.mpr ⟨k1413, List.forall_mem_cons.mpr ⟨k1414, List.forall_mem_cons.mpr ⟨k1, fun _ h => absurd h List.not_mem_nil⟩⟩⟩⟩)) rfl rfl rfl (by decide +kernel) ⟨Nat.le_trans (Nat.le_of_ble_eq_true rfl) E.2.2.2.2.2.2.1, Nat.le_trans (Nat.le_of_ble_eq_true rfl) E.2.2.2.2.2.2.2.1⟩) (pvR E.C w [.int x] (q0 := 56) rfl rfl) rfl rfl hl.1 rfl (lv_room (Nat.le_of_ble_eq_true rfl)) d_law_count_4 ⟨Nat.zero_le _, Nat.zero_le _⟩) (fun r u H locs hr w => ?_)
  refine W.widen (k := 0) (n := 0) (by omega) (by omega) ?_
  have hr : r = o := hr
  rw [hr]
  refine lv_i2l (v := o.toInt64) E.x E.b d_law_count_7 rfl ?_
  refine rx_las (ws' := [oc τ ou (vp_updL f (0 : Int32).toNatClampNeg o.toInt64)] ++ wdC τ σ ad) E w (k := 0) rfl (by decide) rfl d_law_count_8 (fun H locs w => ?_)
  refine lv_goto (tgt := 15) E.x E.b d_law_count_9 (by decide) ?_
  refine lv_iconst (v := 0) E.x E.b d_law_count_15 (by decide) ?_
  exact rt_ia E () rfl w hret d_law_count_16
theorem d_law_count_12 : decode method_13_code 12 = .ok (.astore_n 3, 1) := by decide +kernel
theorem d_law_count_13 : decode method_13_code 13 = .ok (.iconst 1, 1) := by decide +kernel
theorem d_law_count_14 : decode method_13_code 14 = .ok (.ireturn, 1) := by decide +kernel
set_option maxRecDepth 100000 in
set_option maxHeartbeats 4000000 in
theorem h_count_b (l : Launch) (hfl : l.stackTraces = false) (D : va_G) (τ : ClassId × ClassId × ClassId) (B : Nat) (σ : Sg) (ad : Nat → Nat) (f : Nat → Int64) (ou : Nat) (x : Int32) (hbd : x < 0 ∨ 9 ≤ x) : MIa l y_law_count (Cond.codeWith y_law_count method_13_code 4 (some .int) [(0, 9, 12, 13)]) 8 1 6 D τ B [.ref (ad 56), .int x, .ref ou] ([oc τ ou f] ++ wdC τ σ ad) Unit (fun r _ => r = 1) (fun _ => [oc τ ou f] ++ wdC τ σ ad) := by
  refine en_iw (by decide) (Nat.le_of_ble_eq_true rfl) ?_
  intro p e R s m args below meth c H locs ls A E hRc hRs hret hta w hl
  have E : Cx p R s m args meth c method_13_code 4 "DrawingMachineLaw" 8 D τ B A := E
  have hl : lv_has ls 4 [(0, .ref (ad 56)), (1, .int x), (2, .ref ou)] := hl
  refine lv_aload_n E.x E.b d_law_count_0 rfl (lv_at hl 2 rfl) ?_
  refine lv_iconst (v := 0) E.x E.b d_law_count_1 (by decide) ?_
  refine lv_aload_n E.x E.b d_law_count_2 rfl (lv_at hl 0 rfl) ?_
  refine lv_iload_n E.x E.b d_law_count_3 rfl (lv_at hl 1 rfl) ?_
  refine tq_e1 (As := [.int x]) (rest := [.int 0, .ref ou]) E.fix (c_count_b l hfl D τ B _ σ ad x hbd) (cwV 1 E.w (tw_pre (tw_good k1415) (l := [_, _, _, _]) (List.forall_mem_cons.mpr ⟨k1412, List.forall_mem_cons.mpr ⟨k1413, List.forall_mem_cons.mpr ⟨k1414, List.forall_mem_cons.mpr ⟨k1, fun _ h => absurd h List.not_mem_nil⟩⟩⟩⟩)) rfl rfl rfl (by decide +kernel) ⟨Nat.le_trans (Nat.le_of_ble_eq_true rfl) E.2.2.2.2.2.2.1, Nat.le_trans (Nat.le_of_ble_eq_true rfl) E.2.2.2.2.2.2.2.1⟩) (pvS E.C w [.int x] [] (by decide) rfl (q0 := 57) rfl rfl) rfl hl.1 rfl (Nat.le_of_ble_eq_true rfl) d_law_count_4 ⟨by rw [hRc]; exact Nat.le_refl _, by rw [hRs]; exact Nat.le_refl _⟩ hta (by decide) (by decide) (by decide) (E.w _ k474) w (fun a9 H w => ?_)
  refine W.widen (k := 1) (n := 6) (by omega) (by omega) ?_
  refine lv_astore_n (lv' := [(3, .ref a9), (0, .ref (ad 56)), (1, .int x), (2, .ref ou)]) E.x E.b d_law_count_12 rfl hl (by decide) rfl (fun ls hl => ?_)
  refine lv_iconst (v := 1) E.x E.b d_law_count_13 (by decide) ?_
  exact rt_ia E () rfl w hret d_law_count_14
