theorem d_Sha_cut_0 : decode prog_9_method_3_code 0 = .ok (.aload_n 0, 1) := by decide +kernel
theorem d_Sha_cut_1 : decode prog_9_method_3_code 1 = .ok (.iconst 3, 1) := by decide +kernel
theorem d_Sha_cut_2 : decode prog_9_method_3_code 2 = .ok (.putfield 44, 3) := by decide +kernel
theorem d_Sha_cut_5 : decode prog_9_method_3_code 5 = .ok (.aload_n 0, 1) := by decide +kernel
theorem d_Sha_cut_6 : decode prog_9_method_3_code 6 = .ok (.iconst 1, 1) := by decide +kernel
theorem d_Sha_cut_7 : decode prog_9_method_3_code 7 = .ok (.invokevirtual 48, 3) := by decide +kernel
theorem d_Sha_cut_10 : decode prog_9_method_3_code 10 = .ok (.aload_n 0, 1) := by decide +kernel
theorem d_Sha_cut_11 : decode prog_9_method_3_code 11 = .ok (.iconst 0, 1) := by decide +kernel
theorem d_Sha_cut_12 : decode prog_9_method_3_code 12 = .ok (.invokevirtual 48, 3) := by decide +kernel
theorem d_Sha_cut_15 : decode prog_9_method_3_code 15 = .ok (.return_, 1) := by decide +kernel
def F_Sha_cut (σ : Sg) : Option (Sg) := lt (sI σ 16 3) (fun σ4 => bd (F_Sha_cutBy σ4 1) (fun o5 => bd (F_Sha_cutBy o5 0) (fun o6 => some o6)))
set_option maxRecDepth 10000 in
set_option maxHeartbeats 4000000 in
theorem c_Sha_cut (l : Launch) (D : va_G) (τ : ClassId × ClassId × ClassId) (B : Nat) (σ : Sg) (ad : Nat → Nat) (o : Sg) (h : F_Sha_cut σ = some o) : MV l y_Sha_cut (Cond.code y_Sha_cut prog_9_method_3_code 1 none) 2 D τ B [.ref (ad 65)] (wdC τ σ ad) (wdC τ o ad) := by
  refine en_v (by decide) (Nat.le_of_ble_eq_true rfl) ?_
  intro p e R s m args below meth c H locs ls A E hret w hl
  have E : Cx p R s m args meth c prog_9_method_3_code 1 "DrawingMachine$Shape" 2 D τ B A := E
  have hl : lv_has ls 1 [(0, .ref (ad 65))] := hl
  refine lv_aload_n E.x E.b d_Sha_cut_0 rfl (lv_at hl 0 rfl) ?_
  refine lv_iconst (v := 3) E.x E.b d_Sha_cut_1 (by decide) ?_
  obtain ⟨σ4, e_σ4, h⟩ := lt_some h
  refine pC_Sha_many E w k286 e_σ4 d_Sha_cut_2 (fun H locs w => ?_)
  refine lv_aload_n E.x E.b d_Sha_cut_5 rfl (lv_at hl 0 rfl) ?_
  refine lv_iconst (v := 1) E.x E.b d_Sha_cut_6 (by decide) ?_
  obtain ⟨o5, h_o5, h⟩ := bd_some h
  refine clV_Sha_cutBy E w (x0 := 1) h_o5 k1140 (by decide) hl.1 (Nat.le_of_ble_eq_true rfl) d_Sha_cut_7 (fun H locs w => ?_)
  refine lv_aload_n E.x E.b d_Sha_cut_10 rfl (lv_at hl 0 rfl) ?_
  refine lv_iconst (v := 0) E.x E.b d_Sha_cut_11 (by decide) ?_
  obtain ⟨o6, h_o6, h⟩ := bd_some h
  refine clV_Sha_cutBy E w (x0 := 0) h_o6 k1140 (by decide) hl.1 (Nat.le_of_ble_eq_true rfl) d_Sha_cut_12 (fun H locs w => ?_)
  obtain rfl := Option.some.inj h
  exact rt_v E w hret d_Sha_cut_15
theorem clV_Sha_cut {p : Program} {l : Launch} {e : Env} {R : Room} {s : State} {m : MethodId} {args : Array Value} {below : List Frame} {meth : Method} {c : Code} {H : Heap} {locs : List Loc} {Q : State → Prop} {cc : ByteArray} {nL pc lev : Nat} {own : String} {D : va_G} {τ : ClassId × ClassId × ClassId} {B : Nat} {A : Nat → Prop} {σ : Sg} {ad : Nat → Nat} {ls : Array Slot} {rest : List Value} (E : Cx p R s m args meth c cc nL own lev D τ B A) (w : Wd s D A (wdC τ σ ad) H locs) {o : Sg} (h : F_Sha_cut σ = some o) {index : Nat} (hlk : Cond.methodLink own index y_Sha_cut ∈ tw) (hlev : 2 < lev) (hsz : ls.size = nL) (hr : (rest.map fun v => v.category).sum ≤ 8) (hd : decode cc pc = .ok (.invokevirtual index, 3)) (kk : ∀ (H1 : Heap) (locs1 : List Loc), Wd s D A (wdC τ o ad) H1 locs1 → W p l e R s m args below meth c H1 locs1 0 0 Q (F0 m (pc + 3) ls (rest))) : W p l e R s m args below meth c H locs 0 0 Q (F0 m pc ls (.ref (ad 65) :: rest)) :=
  cr_v w E.C (va_runV (As := []) (rest := rest) E.fix (c_Sha_cut l D τ B σ ad o h H.size) (cwV 0 E.w (tw_pre (tw_good k1139) (l := [_, _, _, _]) (List.forall_mem_cons.mpr ⟨hlk, List.forall_mem_cons.mpr ⟨k1137, List.forall_mem_cons.mpr ⟨k1138, List.forall_mem_cons.mpr ⟨k11, fun _ h => absurd h List.not_mem_nil⟩⟩⟩⟩)) rfl rfl rfl (by decide +kernel) (E.rm hlev (by decide))) (wd_preV w E.C [] rcC_Sha rfl) rfl rfl hsz rfl (lv_room hr) hd ⟨Nat.zero_le _, Nat.zero_le _⟩) kk

theorem d_Sha_laid_0 : decode prog_9_method_10_code 0 = .ok (.bipush 16, 2) := by decide +kernel
theorem d_Sha_laid_2 : decode prog_9_method_10_code 2 = .ok (.iload_n 2, 1) := by decide +kernel
theorem d_Sha_laid_3 : decode prog_9_method_10_code 3 = .ok (.imul, 1) := by decide +kernel
theorem d_Sha_laid_4 : decode prog_9_method_10_code 4 = .ok (.i2l, 1) := by decide +kernel
theorem d_Sha_laid_5 : decode prog_9_method_10_code 5 = .ok (.lload_n 0, 1) := by decide +kernel
theorem d_Sha_laid_6 : decode prog_9_method_10_code 6 = .ok (.iload_n 3, 1) := by decide +kernel
theorem d_Sha_laid_7 : decode prog_9_method_10_code 7 = .ok (.i2l, 1) := by decide +kernel
theorem d_Sha_laid_8 : decode prog_9_method_10_code 8 = .ok (.lmul, 1) := by decide +kernel
theorem d_Sha_laid_9 : decode prog_9_method_10_code 9 = .ok (.bipush 13, 2) := by decide +kernel
theorem d_Sha_laid_11 : decode prog_9_method_10_code 11 = .ok (.lshr, 1) := by decide +kernel
theorem d_Sha_laid_12 : decode prog_9_method_10_code 12 = .ok (.ladd, 1) := by decide +kernel
theorem d_Sha_laid_13 : decode prog_9_method_10_code 13 = .ok (.sipush (-16384), 3) := by decide +kernel
theorem d_Sha_laid_16 : decode prog_9_method_10_code 16 = .ok (.sipush 16383, 3) := by decide +kernel
theorem d_Sha_laid_19 : decode prog_9_method_10_code 19 = .ok (.invokestatic 87, 3) := by decide +kernel
theorem d_Sha_laid_22 : decode prog_9_method_10_code 22 = .ok (.ireturn, 1) := by decide +kernel
def F_Sha_laid  (x0 : Int64) (x1 : Int32) (x2 : Int32) : Option (Int32) := bd (F_DM_within (((16 * x1).toInt64) + (lshr (x0 * x2.toInt64) 13)) (-16384) 16383) (fun o2 => some o2)
set_option maxRecDepth 10000 in
set_option maxHeartbeats 4000000 in
theorem c_Sha_laid (l : Launch) (D : va_G) (τ : ClassId × ClassId × ClassId) (B : Nat) (σ0 : Sg) (ad : Nat → Nat) (x0 : Int64) (x1 : Int32) (x2 : Int32) (o : Int32) (h : F_Sha_laid x0 x1 x2 = some o) : MI l y_Sha_laid (Cond.code y_Sha_laid prog_9_method_10_code 4 (some .int)) 1 D τ B [.long x0, .int x1, .int x2] (wdC τ σ0 ad) (wdC τ σ0 ad) o := by
  refine en_i (by decide) (Nat.le_of_ble_eq_true rfl) ?_
  intro p e R s m args below meth c H locs ls A E hret w hl
  have E : Cx p R s m args meth c prog_9_method_10_code 4 "DrawingMachine$Shape" 1 D τ B A := E
  have hl : lv_has ls 4 [(0, .long x0), (2, .int x1), (3, .int x2)] := hl
  refine lv_bipush (v := 16) E.x E.b d_Sha_laid_0 (by decide) ?_
  refine lv_iload_n E.x E.b d_Sha_laid_2 rfl (lv_at hl 1 rfl) ?_
  refine lv_imul E.x E.b d_Sha_laid_3 ?_
  refine lv_i2l (v := (16 * x1).toInt64) E.x E.b d_Sha_laid_4 rfl ?_
  refine lv_lload_n E.x E.b d_Sha_laid_5 rfl (lv_at hl 0 rfl) ?_
  refine lv_iload_n E.x E.b d_Sha_laid_6 rfl (lv_at hl 2 rfl) ?_
  refine lv_i2l (v := x2.toInt64) E.x E.b d_Sha_laid_7 rfl ?_
  refine lv_lmul E.x E.b d_Sha_laid_8 ?_
  refine lv_bipush (v := 13) E.x E.b d_Sha_laid_9 (by decide) ?_
  refine lv_lshr (v := lshr (x0 * x2.toInt64) 13) E.x E.b d_Sha_laid_11 rfl ?_
  refine lv_ladd E.x E.b d_Sha_laid_12 ?_
  refine lv_sipush (v := (-16384)) E.x E.b d_Sha_laid_13 (by decide) ?_
  refine lv_sipush (v := 16383) E.x E.b d_Sha_laid_16 (by decide) ?_
  obtain ⟨o2, h_o2, h⟩ := bd_some h
  refine clSN_DM_within E w (x0 := (((16 * x1).toInt64) + (lshr (x0 * x2.toInt64) 13))) (x1 := (-16384)) (x2 := 16383) h_o2 n1167 (by decide) hl.1 (Nat.le_of_ble_eq_true rfl) d_Sha_laid_19 (fun H locs w => ?_)
  obtain rfl := Option.some.inj h
  exact rt_i E w hret d_Sha_laid_22
theorem clS_Sha_laid {p : Program} {l : Launch} {e : Env} {R : Room} {s : State} {m : MethodId} {args : Array Value} {below : List Frame} {meth : Method} {c : Code} {H : Heap} {locs : List Loc} {Q : State → Prop} {cc : ByteArray} {nL pc lev : Nat} {own : String} {D : va_G} {τ : ClassId × ClassId × ClassId} {B : Nat} {A : Nat → Prop} {σ : Sg} {ad : Nat → Nat} {ls : Array Slot} {rest : List Value} (E : Cx p R s m args meth c cc nL own lev D τ B A) (w : Wd s D A (wdC τ σ ad) H locs) {x0 : Int64} {x1 : Int32} {x2 : Int32} {o : Int32} (h : F_Sha_laid x0 x1 x2 = some o) {index : Nat} (hlk : Cond.methodLink own index y_Sha_laid ∈ tw) (hlev : 1 < lev) (hsz : ls.size = nL) (hr : (rest.map fun v => v.category).sum ≤ 8) (hd : decode cc pc = .ok (.invokestatic index, 3)) (kk : ∀ (H1 : Heap) (locs1 : List Loc), Wd s D A (wdC τ σ ad) H1 locs1 → W p l e R s m args below meth c H1 locs1 0 0 Q (F0 m (pc + 3) ls (.int o :: rest))) : W p l e R s m args below meth c H locs 0 0 Q (F0 m pc ls (.int x2 :: .int x1 :: .long x0 :: rest)) :=
  cr_i w E.C (va_runS (As := [.long x0, .int x1, .int x2]) (rest := rest) E.fix (c_Sha_laid l D τ B σ ad x0 x1 x2 o h H.size) (va_cwS 3 E.w (tw_pre (tw_good k1166) (l := [_, _, _]) (List.forall_mem_cons.mpr ⟨hlk, List.forall_mem_cons.mpr ⟨k1165, List.forall_mem_cons.mpr ⟨k11, fun _ h => absurd h List.not_mem_nil⟩⟩⟩)) rfl rfl rfl (by decide +kernel) (E.rm hlev (by decide))) (wd_pre w E.C [.long x0, .int x1, .int x2]) rfl rfl hsz rfl (lv_room hr) hd ⟨Nat.zero_le _, Nat.zero_le _⟩) kk

theorem d_Sha_scaled_0 : decode prog_9_method_11_code 0 = .ok (.lload_n 0, 1) := by decide +kernel
theorem d_Sha_scaled_1 : decode prog_9_method_11_code 1 = .ok (.bipush 17, 2) := by decide +kernel
theorem d_Sha_scaled_3 : decode prog_9_method_11_code 3 = .ok (.lshr, 1) := by decide +kernel
theorem d_Sha_scaled_4 : decode prog_9_method_11_code 4 = .ok (.iload_n 2, 1) := by decide +kernel
theorem d_Sha_scaled_5 : decode prog_9_method_11_code 5 = .ok (.i2l, 1) := by decide +kernel
theorem d_Sha_scaled_6 : decode prog_9_method_11_code 6 = .ok (.lmul, 1) := by decide +kernel
theorem d_Sha_scaled_7 : decode prog_9_method_11_code 7 = .ok (.lload_n 0, 1) := by decide +kernel
theorem d_Sha_scaled_8 : decode prog_9_method_11_code 8 = .ok (.ldc2_w 95, 3) := by decide +kernel
theorem d_Sha_scaled_11 : decode prog_9_method_11_code 11 = .ok (.land, 1) := by decide +kernel
theorem d_Sha_scaled_12 : decode prog_9_method_11_code 12 = .ok (.iload_n 2, 1) := by decide +kernel
theorem d_Sha_scaled_13 : decode prog_9_method_11_code 13 = .ok (.i2l, 1) := by decide +kernel
theorem d_Sha_scaled_14 : decode prog_9_method_11_code 14 = .ok (.lmul, 1) := by decide +kernel
theorem d_Sha_scaled_15 : decode prog_9_method_11_code 15 = .ok (.bipush 17, 2) := by decide +kernel
theorem d_Sha_scaled_17 : decode prog_9_method_11_code 17 = .ok (.lshr, 1) := by decide +kernel
theorem d_Sha_scaled_18 : decode prog_9_method_11_code 18 = .ok (.ladd, 1) := by decide +kernel
theorem d_Sha_scaled_19 : decode prog_9_method_11_code 19 = .ok (.lreturn, 1) := by decide +kernel
def F_Sha_scaled  (x0 : Int64) (x1 : Int32) : Option (Int64) := some (((lshr x0 17) * x1.toInt64) + (lshr ((x0 &&& 131071) * x1.toInt64) 17))
set_option maxRecDepth 10000 in
set_option maxHeartbeats 4000000 in
theorem c_Sha_scaled (l : Launch) (D : va_G) (τ : ClassId × ClassId × ClassId) (B : Nat) (σ0 : Sg) (ad : Nat → Nat) (x0 : Int64) (x1 : Int32) (o : Int64) (h : F_Sha_scaled x0 x1 = some o) : ML l y_Sha_scaled (Cond.code y_Sha_scaled prog_9_method_11_code 3 (some .long)) 0 D τ B [.long x0, .int x1] (wdC τ σ0 ad) (wdC τ σ0 ad) o := by
  refine en_l (by decide) (Nat.le_of_ble_eq_true rfl) ?_
  intro p e R s m args below meth c H locs ls A E hret w hl
  have E : Cx p R s m args meth c prog_9_method_11_code 3 "DrawingMachine$Shape" 0 D τ B A := E
  have hl : lv_has ls 3 [(0, .long x0), (2, .int x1)] := hl
  refine lv_lload_n E.x E.b d_Sha_scaled_0 rfl (lv_at hl 0 rfl) ?_
  refine lv_bipush (v := 17) E.x E.b d_Sha_scaled_1 (by decide) ?_
  refine lv_lshr (v := lshr x0 17) E.x E.b d_Sha_scaled_3 rfl ?_
  refine lv_iload_n E.x E.b d_Sha_scaled_4 rfl (lv_at hl 1 rfl) ?_
  refine lv_i2l (v := x1.toInt64) E.x E.b d_Sha_scaled_5 rfl ?_
  refine lv_lmul E.x E.b d_Sha_scaled_6 ?_
  refine lv_lload_n E.x E.b d_Sha_scaled_7 rfl (lv_at hl 0 rfl) ?_
  refine lv_ldc2 (v := 131071) E.x E.b E.o (E.w _ k1171) d_Sha_scaled_8 ?_
  refine lv_land E.x E.b d_Sha_scaled_11 ?_
  refine lv_iload_n E.x E.b d_Sha_scaled_12 rfl (lv_at hl 1 rfl) ?_
  refine lv_i2l (v := x1.toInt64) E.x E.b d_Sha_scaled_13 rfl ?_
  refine lv_lmul E.x E.b d_Sha_scaled_14 ?_
  refine lv_bipush (v := 17) E.x E.b d_Sha_scaled_15 (by decide) ?_
  refine lv_lshr (v := lshr ((x0 &&& 131071) * x1.toInt64) 17) E.x E.b d_Sha_scaled_17 rfl ?_
  refine lv_ladd E.x E.b d_Sha_scaled_18 ?_
  obtain rfl := Option.some.inj h
  exact rt_l E w hret d_Sha_scaled_19
theorem clS_Sha_scaled {p : Program} {l : Launch} {e : Env} {R : Room} {s : State} {m : MethodId} {args : Array Value} {below : List Frame} {meth : Method} {c : Code} {H : Heap} {locs : List Loc} {Q : State → Prop} {cc : ByteArray} {nL pc lev : Nat} {own : String} {D : va_G} {τ : ClassId × ClassId × ClassId} {B : Nat} {A : Nat → Prop} {σ : Sg} {ad : Nat → Nat} {ls : Array Slot} {rest : List Value} (E : Cx p R s m args meth c cc nL own lev D τ B A) (w : Wd s D A (wdC τ σ ad) H locs) {x0 : Int64} {x1 : Int32} {o : Int64} (h : F_Sha_scaled x0 x1 = some o) {index : Nat} (hlk : Cond.methodLink own index y_Sha_scaled ∈ tw) (hlev : 0 < lev) (hsz : ls.size = nL) (hr : (rest.map fun v => v.category).sum ≤ 8) (hd : decode cc pc = .ok (.invokestatic index, 3)) (kk : ∀ (H1 : Heap) (locs1 : List Loc), Wd s D A (wdC τ σ ad) H1 locs1 → W p l e R s m args below meth c H1 locs1 0 0 Q (F0 m (pc + 3) ls (.long o :: rest))) : W p l e R s m args below meth c H locs 0 0 Q (F0 m pc ls (.int x1 :: .long x0 :: rest)) :=
  cr_l w E.C (va_runS (As := [.long x0, .int x1]) (rest := rest) E.fix (c_Sha_scaled l D τ B σ ad x0 x1 o h H.size) (va_cwS 2 E.w (tw_pre (tw_good k1170) (l := [_, _, _]) (List.forall_mem_cons.mpr ⟨hlk, List.forall_mem_cons.mpr ⟨k1169, List.forall_mem_cons.mpr ⟨k11, fun _ h => absurd h List.not_mem_nil⟩⟩⟩)) rfl rfl rfl (by decide +kernel) (E.rm hlev (by decide))) (wd_pre w E.C [.long x0, .int x1]) rfl rfl hsz rfl (lv_room hr) hd ⟨Nat.zero_le _, Nat.zero_le _⟩) kk

theorem d_Sha_shifted_0 : decode prog_9_method_9_code 0 = .ok (.iload_n 0, 1) := by decide +kernel
theorem d_Sha_shifted_1 : decode prog_9_method_9_code 1 = .ok (.i2l, 1) := by decide +kernel
theorem d_Sha_shifted_2 : decode prog_9_method_9_code 2 = .ok (.ldc2_w 62, 3) := by decide +kernel
theorem d_Sha_shifted_5 : decode prog_9_method_9_code 5 = .ok (.lmul, 1) := by decide +kernel
theorem d_Sha_shifted_6 : decode prog_9_method_9_code 6 = .ok (.iload_n 1, 1) := by decide +kernel
theorem d_Sha_shifted_7 : decode prog_9_method_9_code 7 = .ok (.i2l, 1) := by decide +kernel
theorem d_Sha_shifted_8 : decode prog_9_method_9_code 8 = .ok (.invokestatic 64, 3) := by decide +kernel
theorem d_Sha_shifted_11 : decode prog_9_method_9_code 11 = .ok (.ldc2_w 62, 3) := by decide +kernel
theorem d_Sha_shifted_14 : decode prog_9_method_9_code 14 = .ok (.ladd, 1) := by decide +kernel
theorem d_Sha_shifted_15 : decode prog_9_method_9_code 15 = .ok (.lreturn, 1) := by decide +kernel
def F_Sha_shifted  (x0 : Int32) (x1 : Int32) : Option (Int64) := ck (¬ x1.toInt64 = 0) (some ((fdiv (x0.toInt64 * 65536) x1.toInt64) + 65536))
set_option maxRecDepth 10000 in
set_option maxHeartbeats 4000000 in
theorem c_Sha_shifted (l : Launch) (D : va_G) (τ : ClassId × ClassId × ClassId) (B : Nat) (σ0 : Sg) (ad : Nat → Nat) (x0 : Int32) (x1 : Int32) (o : Int64) (h : F_Sha_shifted x0 x1 = some o) : ML l y_Sha_shifted (Cond.code y_Sha_shifted prog_9_method_9_code 2 (some .long)) 0 D τ B [.int x0, .int x1] (wdC τ σ0 ad) (wdC τ σ0 ad) o := by
  refine en_l (by decide) (Nat.le_of_ble_eq_true rfl) ?_
  intro p e R s m args below meth c H locs ls A E hret w hl
  have E : Cx p R s m args meth c prog_9_method_9_code 2 "DrawingMachine$Shape" 0 D τ B A := E
  have hl : lv_has ls 2 [(0, .int x0), (1, .int x1)] := hl
  refine lv_iload_n E.x E.b d_Sha_shifted_0 rfl (lv_at hl 0 rfl) ?_
  refine lv_i2l (v := x0.toInt64) E.x E.b d_Sha_shifted_1 rfl ?_
  refine lv_ldc2 (v := 65536) E.x E.b E.o (E.w _ k1151) d_Sha_shifted_2 ?_
  refine lv_lmul E.x E.b d_Sha_shifted_5 ?_
  refine lv_iload_n E.x E.b d_Sha_shifted_6 rfl (lv_at hl 1 rfl) ?_
  refine lv_i2l (v := x1.toInt64) E.x E.b d_Sha_shifted_7 rfl ?_
  obtain ⟨c2, h⟩ := ck_some h
  refine r_law (As := [.long (x0.toInt64 * 65536), .long x1.toInt64]) (v0 := .long (fdiv (x0.toInt64 * 65536) x1.toInt64)) E (Jvm.Free.JP.Math_floorDiv_JJ.law l (x0.toInt64 * 65536) x1.toInt64) k1152 k1109 k25 k1110 (by decide) hl.1 rfl (fun _ => ⟨rfl, c2⟩) (Nat.le_of_ble_eq_true rfl) d_Sha_shifted_8 ?_
  refine lv_ldc2 (v := 65536) E.x E.b E.o (E.w _ k1151) d_Sha_shifted_11 ?_
  refine lv_ladd E.x E.b d_Sha_shifted_14 ?_
  obtain rfl := Option.some.inj h
  exact rt_l E w hret d_Sha_shifted_15
theorem clS_Sha_shifted {p : Program} {l : Launch} {e : Env} {R : Room} {s : State} {m : MethodId} {args : Array Value} {below : List Frame} {meth : Method} {c : Code} {H : Heap} {locs : List Loc} {Q : State → Prop} {cc : ByteArray} {nL pc lev : Nat} {own : String} {D : va_G} {τ : ClassId × ClassId × ClassId} {B : Nat} {A : Nat → Prop} {σ : Sg} {ad : Nat → Nat} {ls : Array Slot} {rest : List Value} (E : Cx p R s m args meth c cc nL own lev D τ B A) (w : Wd s D A (wdC τ σ ad) H locs) {x0 : Int32} {x1 : Int32} {o : Int64} (h : F_Sha_shifted x0 x1 = some o) {index : Nat} (hlk : Cond.methodLink own index y_Sha_shifted ∈ tw) (hlev : 0 < lev) (hsz : ls.size = nL) (hr : (rest.map fun v => v.category).sum ≤ 8) (hd : decode cc pc = .ok (.invokestatic index, 3)) (kk : ∀ (H1 : Heap) (locs1 : List Loc), Wd s D A (wdC τ σ ad) H1 locs1 → W p l e R s m args below meth c H1 locs1 0 0 Q (F0 m (pc + 3) ls (.long o :: rest))) : W p l e R s m args below meth c H locs 0 0 Q (F0 m pc ls (.int x1 :: .int x0 :: rest)) :=
  cr_l w E.C (va_runS (As := [.int x0, .int x1]) (rest := rest) E.fix (c_Sha_shifted l D τ B σ ad x0 x1 o h H.size) (va_cwS 2 E.w (tw_pre (tw_good k1163) (l := [_, _, _]) (List.forall_mem_cons.mpr ⟨hlk, List.forall_mem_cons.mpr ⟨k1162, List.forall_mem_cons.mpr ⟨k11, fun _ h => absurd h List.not_mem_nil⟩⟩⟩)) rfl rfl rfl (by decide +kernel) (E.rm hlev (by decide))) (wd_pre w E.C [.int x0, .int x1]) rfl rfl hsz rfl (lv_room hr) hd ⟨Nat.zero_le _, Nat.zero_le _⟩) kk

theorem d_Sha_lay_0 : decode prog_9_method_8_code 0 = .ok (.aload_n 0, 1) := by decide +kernel
theorem d_Sha_lay_1 : decode prog_9_method_8_code 1 = .ok (.getfield 13, 3) := by decide +kernel
theorem d_Sha_lay_4 : decode prog_9_method_8_code 4 = .ok (.iload_n 1, 1) := by decide +kernel
theorem d_Sha_lay_5 : decode prog_9_method_8_code 5 = .ok (.aaload, 1) := by decide +kernel
theorem d_Sha_lay_6 : decode prog_9_method_8_code 6 = .ok (.astore_n 2, 1) := by decide +kernel
theorem d_Sha_lay_7 : decode prog_9_method_8_code 7 = .ok (.aload_n 2, 1) := by decide +kernel
theorem d_Sha_lay_8 : decode prog_9_method_8_code 8 = .ok (.iconst 3, 1) := by decide +kernel
theorem d_Sha_lay_9 : decode prog_9_method_8_code 9 = .ok (.iaload, 1) := by decide +kernel
theorem d_Sha_lay_10 : decode prog_9_method_8_code 10 = .ok (.istore_n 3, 1) := by decide +kernel
theorem d_Sha_lay_11 : decode prog_9_method_8_code 11 = .ok (.iload_n 3, 1) := by decide +kernel
theorem d_Sha_lay_12 : decode prog_9_method_8_code 12 = .ok (.ifCond .gt 4, 3) := by decide +kernel
theorem d_Sha_lay_15 : decode prog_9_method_8_code 15 = .ok (.return_, 1) := by decide +kernel
theorem d_Sha_lay_16 : decode prog_9_method_8_code 16 = .ok (.aload_n 0, 1) := by decide +kernel
theorem d_Sha_lay_17 : decode prog_9_method_8_code 17 = .ok (.getfield 16, 3) := by decide +kernel
theorem d_Sha_lay_20 : decode prog_9_method_8_code 20 = .ok (.iload_n 1, 1) := by decide +kernel
theorem d_Sha_lay_21 : decode prog_9_method_8_code 21 = .ok (.aload_n 2, 1) := by decide +kernel
theorem d_Sha_lay_22 : decode prog_9_method_8_code 22 = .ok (.iconst 0, 1) := by decide +kernel
theorem d_Sha_lay_23 : decode prog_9_method_8_code 23 = .ok (.iaload, 1) := by decide +kernel
theorem d_Sha_lay_24 : decode prog_9_method_8_code 24 = .ok (.iload_n 3, 1) := by decide +kernel
theorem d_Sha_lay_25 : decode prog_9_method_8_code 25 = .ok (.invokestatic 74, 3) := by decide +kernel
theorem d_Sha_lay_28 : decode prog_9_method_8_code 28 = .ok (.aload_n 0, 1) := by decide +kernel
theorem d_Sha_lay_29 : decode prog_9_method_8_code 29 = .ok (.getfield 37, 3) := by decide +kernel
theorem d_Sha_lay_32 : decode prog_9_method_8_code 32 = .ok (.iconst 0, 1) := by decide +kernel
theorem d_Sha_lay_33 : decode prog_9_method_8_code 33 = .ok (.iaload, 1) := by decide +kernel
theorem d_Sha_lay_34 : decode prog_9_method_8_code 34 = .ok (.aload_n 0, 1) := by decide +kernel
theorem d_Sha_lay_35 : decode prog_9_method_8_code 35 = .ok (.getfield 37, 3) := by decide +kernel
theorem d_Sha_lay_38 : decode prog_9_method_8_code 38 = .ok (.iconst 2, 1) := by decide +kernel
theorem d_Sha_lay_39 : decode prog_9_method_8_code 39 = .ok (.iaload, 1) := by decide +kernel
theorem d_Sha_lay_40 : decode prog_9_method_8_code 40 = .ok (.invokestatic 78, 3) := by decide +kernel
theorem d_Sha_lay_43 : decode prog_9_method_8_code 43 = .ok (.iastore, 1) := by decide +kernel
theorem d_Sha_lay_44 : decode prog_9_method_8_code 44 = .ok (.aload_n 0, 1) := by decide +kernel
theorem d_Sha_lay_45 : decode prog_9_method_8_code 45 = .ok (.getfield 20, 3) := by decide +kernel
theorem d_Sha_lay_48 : decode prog_9_method_8_code 48 = .ok (.iload_n 1, 1) := by decide +kernel
theorem d_Sha_lay_49 : decode prog_9_method_8_code 49 = .ok (.aload_n 2, 1) := by decide +kernel
theorem d_Sha_lay_50 : decode prog_9_method_8_code 50 = .ok (.iconst 1, 1) := by decide +kernel
theorem d_Sha_lay_51 : decode prog_9_method_8_code 51 = .ok (.iaload, 1) := by decide +kernel
theorem d_Sha_lay_52 : decode prog_9_method_8_code 52 = .ok (.iload_n 3, 1) := by decide +kernel
theorem d_Sha_lay_53 : decode prog_9_method_8_code 53 = .ok (.invokestatic 74, 3) := by decide +kernel
theorem d_Sha_lay_56 : decode prog_9_method_8_code 56 = .ok (.aload_n 0, 1) := by decide +kernel
theorem d_Sha_lay_57 : decode prog_9_method_8_code 57 = .ok (.getfield 37, 3) := by decide +kernel
theorem d_Sha_lay_60 : decode prog_9_method_8_code 60 = .ok (.iconst 1, 1) := by decide +kernel
theorem d_Sha_lay_61 : decode prog_9_method_8_code 61 = .ok (.iaload, 1) := by decide +kernel
theorem d_Sha_lay_62 : decode prog_9_method_8_code 62 = .ok (.aload_n 0, 1) := by decide +kernel
theorem d_Sha_lay_63 : decode prog_9_method_8_code 63 = .ok (.getfield 37, 3) := by decide +kernel
theorem d_Sha_lay_66 : decode prog_9_method_8_code 66 = .ok (.iconst 3, 1) := by decide +kernel
theorem d_Sha_lay_67 : decode prog_9_method_8_code 67 = .ok (.iaload, 1) := by decide +kernel
theorem d_Sha_lay_68 : decode prog_9_method_8_code 68 = .ok (.invokestatic 78, 3) := by decide +kernel
theorem d_Sha_lay_71 : decode prog_9_method_8_code 71 = .ok (.iastore, 1) := by decide +kernel
theorem d_Sha_lay_72 : decode prog_9_method_8_code 72 = .ok (.aload_n 0, 1) := by decide +kernel
theorem d_Sha_lay_73 : decode prog_9_method_8_code 73 = .ok (.getfield 37, 3) := by decide +kernel
theorem d_Sha_lay_76 : decode prog_9_method_8_code 76 = .ok (.iconst 4, 1) := by decide +kernel
theorem d_Sha_lay_77 : decode prog_9_method_8_code 77 = .ok (.iaload, 1) := by decide +kernel
theorem d_Sha_lay_78 : decode prog_9_method_8_code 78 = .ok (.istore 4, 2) := by decide +kernel
theorem d_Sha_lay_80 : decode prog_9_method_8_code 80 = .ok (.aload_n 0, 1) := by decide +kernel
theorem d_Sha_lay_81 : decode prog_9_method_8_code 81 = .ok (.getfield 23, 3) := by decide +kernel
theorem d_Sha_lay_84 : decode prog_9_method_8_code 84 = .ok (.iload_n 1, 1) := by decide +kernel
theorem d_Sha_lay_85 : decode prog_9_method_8_code 85 = .ok (.iload 4, 2) := by decide +kernel
theorem d_Sha_lay_87 : decode prog_9_method_8_code 87 = .ok (.i2l, 1) := by decide +kernel
theorem d_Sha_lay_88 : decode prog_9_method_8_code 88 = .ok (.aload_n 2, 1) := by decide +kernel
theorem d_Sha_lay_89 : decode prog_9_method_8_code 89 = .ok (.iconst 2, 1) := by decide +kernel
theorem d_Sha_lay_90 : decode prog_9_method_8_code 90 = .ok (.iaload, 1) := by decide +kernel
theorem d_Sha_lay_91 : decode prog_9_method_8_code 91 = .ok (.iload_n 3, 1) := by decide +kernel
theorem d_Sha_lay_92 : decode prog_9_method_8_code 92 = .ok (.invokestatic 74, 3) := by decide +kernel
theorem d_Sha_lay_95 : decode prog_9_method_8_code 95 = .ok (.aload_n 0, 1) := by decide +kernel
theorem d_Sha_lay_96 : decode prog_9_method_8_code 96 = .ok (.getfield 37, 3) := by decide +kernel
theorem d_Sha_lay_99 : decode prog_9_method_8_code 99 = .ok (.iconst 5, 1) := by decide +kernel
theorem d_Sha_lay_100 : decode prog_9_method_8_code 100 = .ok (.iaload, 1) := by decide +kernel
theorem d_Sha_lay_101 : decode prog_9_method_8_code 101 = .ok (.iload 4, 2) := by decide +kernel
theorem d_Sha_lay_103 : decode prog_9_method_8_code 103 = .ok (.isub, 1) := by decide +kernel
theorem d_Sha_lay_104 : decode prog_9_method_8_code 104 = .ok (.invokestatic 82, 3) := by decide +kernel
theorem d_Sha_lay_107 : decode prog_9_method_8_code 107 = .ok (.ladd, 1) := by decide +kernel
theorem d_Sha_lay_108 : decode prog_9_method_8_code 108 = .ok (.iconst 0, 1) := by decide +kernel
theorem d_Sha_lay_109 : decode prog_9_method_8_code 109 = .ok (.ldc 86, 2) := by decide +kernel
theorem d_Sha_lay_111 : decode prog_9_method_8_code 111 = .ok (.invokestatic 87, 3) := by decide +kernel
theorem d_Sha_lay_114 : decode prog_9_method_8_code 114 = .ok (.iastore, 1) := by decide +kernel
theorem d_Sha_lay_115 : decode prog_9_method_8_code 115 = .ok (.aload_n 0, 1) := by decide +kernel
theorem d_Sha_lay_116 : decode prog_9_method_8_code 116 = .ok (.getfield 26, 3) := by decide +kernel
theorem d_Sha_lay_119 : decode prog_9_method_8_code 119 = .ok (.iload_n 1, 1) := by decide +kernel
theorem d_Sha_lay_120 : decode prog_9_method_8_code 120 = .ok (.ldc 90, 2) := by decide +kernel
theorem d_Sha_lay_122 : decode prog_9_method_8_code 122 = .ok (.iload_n 3, 1) := by decide +kernel
theorem d_Sha_lay_123 : decode prog_9_method_8_code 123 = .ok (.idiv, 1) := by decide +kernel
theorem d_Sha_lay_124 : decode prog_9_method_8_code 124 = .ok (.iconst 1, 1) := by decide +kernel
theorem d_Sha_lay_125 : decode prog_9_method_8_code 125 = .ok (.invokestatic 91, 3) := by decide +kernel
theorem d_Sha_lay_128 : decode prog_9_method_8_code 128 = .ok (.iastore, 1) := by decide +kernel
theorem d_Sha_lay_129 : decode prog_9_method_8_code 129 = .ok (.return_, 1) := by decide +kernel
def F_Sha_lay (σ : Sg) (x0 : Int32) : Option (Sg) := lt (σ.2.2.2.2 5) (fun nn28 => ck (nn28 < 2) (ck (inb x0 8) (lt (31 + 8 * nn28 + x0.toNatClampNeg) (fun ar_31 => ck (ar_31 < 47) (ck (inb 3 (lenC σ ar_31)) (lt (σ.2.2.1 ar_31 3) (fun y34 => if 0 < y34 then (ck (inb 0 (lenC σ ar_31)) (bd (F_Sha_shifted (σ.2.2.1 ar_31 0) y34) (fun o36 => bd (F_Sha_laid o36 (σ.2.2.1 1 0) (σ.2.2.1 1 2)) (fun o37 => ck (inb x0 8) (lt (sA σ 24 (upd (σ.2.2.1 24) x0.toNatClampNeg o37)) (fun σ39 => ck (inb 1 (lenC σ39 ar_31)) (bd (F_Sha_shifted (σ39.2.2.1 ar_31 1) y34) (fun o41 => bd (F_Sha_laid o41 (σ39.2.2.1 1 1) (σ39.2.2.1 1 3)) (fun o42 => ck (inb x0 8) (lt (sA σ39 25 (upd (σ39.2.2.1 25) x0.toNatClampNeg o42)) (fun σ44 => lt (σ44.2.2.1 1 4) (fun y45 => ck (inb 2 (lenC σ44 ar_31)) (bd (F_Sha_shifted (σ44.2.2.1 ar_31 2) y34) (fun o47 => bd (F_Sha_scaled o47 ((σ44.2.2.1 1 5) - y45)) (fun o48 => bd (F_DM_within (y45.toInt64 + o48) 0 16777215) (fun o49 => ck (inb x0 8) (lt (sA σ44 26 (upd (σ44.2.2.1 26) x0.toNatClampNeg o49)) (fun σ51 => ck (¬ y34 = 0) (ck (inb x0 8) (lt (sA σ51 27 (upd (σ51.2.2.1 27) x0.toNatClampNeg (imax (1073741824 / y34) 1))) (fun σ54 => some σ54))))))))))))))))))))) else (some σ))))))))
set_option maxRecDepth 10000 in
set_option maxHeartbeats 4000000 in
theorem c_Sha_lay (l : Launch) (D : va_G) (τ : ClassId × ClassId × ClassId) (B : Nat) (σ : Sg) (ad : Nat → Nat) (x0 : Int32) (o : Sg) (h : F_Sha_lay σ x0 = some o) : MV l y_Sha_lay (Cond.code y_Sha_lay prog_9_method_8_code 5 none) 2 D τ B [.ref (ad 65), .int x0] (wdC τ σ ad) (wdC τ o ad) := by
  refine en_v (by decide) (Nat.le_of_ble_eq_true rfl) ?_
  intro p e R s m args below meth c H locs ls A E hret w hl
  have E : Cx p R s m args meth c prog_9_method_8_code 5 "DrawingMachine$Shape" 2 D τ B A := E
  have hl : lv_has ls 5 [(0, .ref (ad 65)), (1, .int x0)] := hl
  refine lv_aload_n E.x E.b d_Sha_lay_0 rfl (lv_at hl 0 rfl) ?_
  refine gC_Sha_corners E w k288 d_Sha_lay_1 ?_
  obtain ⟨nn28, e_nn28, h⟩ := lt_some h
  refine wr_e (v := ad (54 + nn28)) (by rw [e_nn28]) ?_
  obtain ⟨c29, h⟩ := ck_some h
  refine lv_iload_n E.x E.b d_Sha_lay_4 rfl (lv_at hl 1 rfl) ?_
  obtain ⟨c30, h⟩ := ck_some h
  refine aalC E w (v := nn28) c29 c30 d_Sha_lay_5 ?_
  obtain ⟨ar_31, e_ar_31, h⟩ := lt_some h
  refine wr_e (v := ad ar_31) (by rw [e_ar_31]) ?_
  obtain ⟨c32, h⟩ := ck_some h
  refine lv_astore_n (lv' := [(2, .ref (ad ar_31)), (0, .ref (ad 65)), (1, .int x0)]) E.x E.b d_Sha_lay_6 rfl hl (by decide) rfl (fun ls hl => ?_)
  refine lv_aload_n E.x E.b d_Sha_lay_7 rfl (lv_at hl 0 rfl) ?_
  refine lv_iconst (v := 3) E.x E.b d_Sha_lay_8 (by decide) ?_
  obtain ⟨c33, h⟩ := ck_some h
  refine ialC E w (k := ar_31) c32 c33 d_Sha_lay_9 ?_
  refine wi_e (v := σ.2.2.1 ar_31 3) rfl ?_
  obtain ⟨y34, e_y34, h⟩ := lt_some h
  refine wi_e (v := y34) e_y34 ?_
  refine lv_istore_n (lv' := [(3, .int y34), (2, .ref (ad ar_31)), (0, .ref (ad 65)), (1, .int x0)]) E.x E.b d_Sha_lay_10 rfl hl (by decide) rfl (fun ls hl => ?_)
  refine lv_iload_n E.x E.b d_Sha_lay_11 rfl (lv_at hl 0 rfl) ?_
  refine lv_if_gt (tgt := 16) E.x E.b d_Sha_lay_12 (by decide) (fun c => ?_) (fun c => ?_)
  ·
    replace h := ifT c h
    refine lv_aload_n E.x E.b d_Sha_lay_16 rfl (lv_at hl 2 rfl) ?_
    refine gC_Sha_x E w k290 d_Sha_lay_17 ?_
    refine lv_iload_n E.x E.b d_Sha_lay_20 rfl (lv_at hl 3 rfl) ?_
    refine lv_aload_n E.x E.b d_Sha_lay_21 rfl (lv_at hl 1 rfl) ?_
    refine lv_iconst (v := 0) E.x E.b d_Sha_lay_22 (by decide) ?_
    obtain ⟨c35, h⟩ := ck_some h
    refine ialC E w (k := ar_31) c32 c35 d_Sha_lay_23 ?_
    refine wi_e (v := σ.2.2.1 ar_31 0) rfl ?_
    refine lv_iload_n E.x E.b d_Sha_lay_24 rfl (lv_at hl 0 rfl) ?_
    obtain ⟨o36, h_o36, h⟩ := bd_some h
    refine clS_Sha_shifted E w (x0 := (σ.2.2.1 ar_31 0)) (x1 := y34) h_o36 k1161 (by decide) hl.1 (Nat.le_of_ble_eq_true rfl) d_Sha_lay_25 (fun H locs w => ?_)
    refine lv_aload_n E.x E.b d_Sha_lay_28 rfl (lv_at hl 2 rfl) ?_
    refine gC_Sha_kept E w k299 d_Sha_lay_29 ?_
    refine lv_iconst (v := 0) E.x E.b d_Sha_lay_32 (by decide) ?_
    refine ialC E w (k := 1) (by decide) (show inb 0 245 by decide) d_Sha_lay_33 ?_
    refine wi_e (v := σ.2.2.1 1 0) rfl ?_
    refine lv_aload_n E.x E.b d_Sha_lay_34 rfl (lv_at hl 2 rfl) ?_
    refine gC_Sha_kept E w k299 d_Sha_lay_35 ?_
    refine lv_iconst (v := 2) E.x E.b d_Sha_lay_38 (by decide) ?_
    refine ialC E w (k := 1) (by decide) (show inb 2 245 by decide) d_Sha_lay_39 ?_
    refine wi_e (v := σ.2.2.1 1 2) rfl ?_
    obtain ⟨o37, h_o37, h⟩ := bd_some h
    refine clS_Sha_laid E w (x0 := o36) (x1 := (σ.2.2.1 1 0)) (x2 := (σ.2.2.1 1 2)) h_o37 k1164 (by decide) hl.1 (Nat.le_of_ble_eq_true rfl) d_Sha_lay_40 (fun H locs w => ?_)
    obtain ⟨c38, h⟩ := ck_some h
    obtain ⟨σ39, e_σ39, h⟩ := lt_some h
    refine iasC E w (k := 24) (by decide) c38 e_σ39 d_Sha_lay_43 (fun H locs w => ?_)
    refine lv_aload_n E.x E.b d_Sha_lay_44 rfl (lv_at hl 2 rfl) ?_
    refine gC_Sha_y E w k292 d_Sha_lay_45 ?_
    refine lv_iload_n E.x E.b d_Sha_lay_48 rfl (lv_at hl 3 rfl) ?_
    refine lv_aload_n E.x E.b d_Sha_lay_49 rfl (lv_at hl 1 rfl) ?_
    refine lv_iconst (v := 1) E.x E.b d_Sha_lay_50 (by decide) ?_
    obtain ⟨c40, h⟩ := ck_some h
    refine ialC E w (k := ar_31) c32 c40 d_Sha_lay_51 ?_
    refine wi_e (v := σ39.2.2.1 ar_31 1) rfl ?_
    refine lv_iload_n E.x E.b d_Sha_lay_52 rfl (lv_at hl 0 rfl) ?_
    obtain ⟨o41, h_o41, h⟩ := bd_some h
    refine clS_Sha_shifted E w (x0 := (σ39.2.2.1 ar_31 1)) (x1 := y34) h_o41 k1161 (by decide) hl.1 (Nat.le_of_ble_eq_true rfl) d_Sha_lay_53 (fun H locs w => ?_)
    refine lv_aload_n E.x E.b d_Sha_lay_56 rfl (lv_at hl 2 rfl) ?_
    refine gC_Sha_kept E w k299 d_Sha_lay_57 ?_
    refine lv_iconst (v := 1) E.x E.b d_Sha_lay_60 (by decide) ?_
    refine ialC E w (k := 1) (by decide) (show inb 1 245 by decide) d_Sha_lay_61 ?_
    refine wi_e (v := σ39.2.2.1 1 1) rfl ?_
    refine lv_aload_n E.x E.b d_Sha_lay_62 rfl (lv_at hl 2 rfl) ?_
    refine gC_Sha_kept E w k299 d_Sha_lay_63 ?_
    refine lv_iconst (v := 3) E.x E.b d_Sha_lay_66 (by decide) ?_
    refine ialC E w (k := 1) (by decide) (show inb 3 245 by decide) d_Sha_lay_67 ?_
    refine wi_e (v := σ39.2.2.1 1 3) rfl ?_
    obtain ⟨o42, h_o42, h⟩ := bd_some h
    refine clS_Sha_laid E w (x0 := o41) (x1 := (σ39.2.2.1 1 1)) (x2 := (σ39.2.2.1 1 3)) h_o42 k1164 (by decide) hl.1 (Nat.le_of_ble_eq_true rfl) d_Sha_lay_68 (fun H locs w => ?_)
    obtain ⟨c43, h⟩ := ck_some h
    obtain ⟨σ44, e_σ44, h⟩ := lt_some h
    refine iasC E w (k := 25) (by decide) c43 e_σ44 d_Sha_lay_71 (fun H locs w => ?_)
    refine lv_aload_n E.x E.b d_Sha_lay_72 rfl (lv_at hl 2 rfl) ?_
    refine gC_Sha_kept E w k299 d_Sha_lay_73 ?_
    refine lv_iconst (v := 4) E.x E.b d_Sha_lay_76 (by decide) ?_
    refine ialC E w (k := 1) (by decide) (show inb 4 245 by decide) d_Sha_lay_77 ?_
    refine wi_e (v := σ44.2.2.1 1 4) rfl ?_
    obtain ⟨y45, e_y45, h⟩ := lt_some h
    refine wi_e (v := y45) e_y45 ?_
    refine lv_istore (lv' := [(4, .int y45), (3, .int y34), (2, .ref (ad ar_31)), (0, .ref (ad 65)), (1, .int x0)]) E.x E.b d_Sha_lay_78 hl (by decide) rfl (fun ls hl => ?_)
    refine lv_aload_n E.x E.b d_Sha_lay_80 rfl (lv_at hl 3 rfl) ?_
    refine gC_Sha_depth E w k294 d_Sha_lay_81 ?_
    refine lv_iload_n E.x E.b d_Sha_lay_84 rfl (lv_at hl 4 rfl) ?_
    refine lv_iload E.x E.b d_Sha_lay_85 (lv_at hl 0 rfl) ?_
    refine lv_i2l (v := y45.toInt64) E.x E.b d_Sha_lay_87 rfl ?_
    refine lv_aload_n E.x E.b d_Sha_lay_88 rfl (lv_at hl 2 rfl) ?_
    refine lv_iconst (v := 2) E.x E.b d_Sha_lay_89 (by decide) ?_
    obtain ⟨c46, h⟩ := ck_some h
    refine ialC E w (k := ar_31) c32 c46 d_Sha_lay_90 ?_
    refine wi_e (v := σ44.2.2.1 ar_31 2) rfl ?_
    refine lv_iload_n E.x E.b d_Sha_lay_91 rfl (lv_at hl 1 rfl) ?_
    obtain ⟨o47, h_o47, h⟩ := bd_some h
    refine clS_Sha_shifted E w (x0 := (σ44.2.2.1 ar_31 2)) (x1 := y34) h_o47 k1161 (by decide) hl.1 (Nat.le_of_ble_eq_true rfl) d_Sha_lay_92 (fun H locs w => ?_)
    refine lv_aload_n E.x E.b d_Sha_lay_95 rfl (lv_at hl 3 rfl) ?_
    refine gC_Sha_kept E w k299 d_Sha_lay_96 ?_
    refine lv_iconst (v := 5) E.x E.b d_Sha_lay_99 (by decide) ?_
    refine ialC E w (k := 1) (by decide) (show inb 5 245 by decide) d_Sha_lay_100 ?_
    refine wi_e (v := σ44.2.2.1 1 5) rfl ?_
    refine lv_iload E.x E.b d_Sha_lay_101 (lv_at hl 0 rfl) ?_
    refine lv_isub E.x E.b d_Sha_lay_103 ?_
    obtain ⟨o48, h_o48, h⟩ := bd_some h
    refine clS_Sha_scaled E w (x0 := o47) (x1 := ((σ44.2.2.1 1 5) - y45)) h_o48 k1168 (by decide) hl.1 (Nat.le_of_ble_eq_true rfl) d_Sha_lay_104 (fun H locs w => ?_)
    refine lv_ladd E.x E.b d_Sha_lay_107 ?_
    refine lv_iconst (v := 0) E.x E.b d_Sha_lay_108 (by decide) ?_
    refine lv_ldc (v := 16777215) E.x E.b E.o (E.w _ k1172) d_Sha_lay_109 ?_
    obtain ⟨o49, h_o49, h⟩ := bd_some h
    refine clSN_DM_within E w (x0 := (y45.toInt64 + o48)) (x1 := 0) (x2 := 16777215) h_o49 n1167 (by decide) hl.1 (Nat.le_of_ble_eq_true rfl) d_Sha_lay_111 (fun H locs w => ?_)
    obtain ⟨c50, h⟩ := ck_some h
    obtain ⟨σ51, e_σ51, h⟩ := lt_some h
    refine iasC E w (k := 26) (by decide) c50 e_σ51 d_Sha_lay_114 (fun H locs w => ?_)
    refine lv_aload_n E.x E.b d_Sha_lay_115 rfl (lv_at hl 3 rfl) ?_
    refine gC_Sha_nearness E w k296 d_Sha_lay_116 ?_
    refine lv_iload_n E.x E.b d_Sha_lay_119 rfl (lv_at hl 4 rfl) ?_
    refine lv_ldc (v := 1073741824) E.x E.b E.o (E.w _ k1173) d_Sha_lay_120 ?_
    refine lv_iload_n E.x E.b d_Sha_lay_122 rfl (lv_at hl 1 rfl) ?_
    obtain ⟨c52, h⟩ := ck_some h
    refine lv_idiv E.x E.b d_Sha_lay_123 c52 ?_
    refine lv_iconst (v := 1) E.x E.b d_Sha_lay_124 (by decide) ?_
    refine va_mmax E.x E.b (E.2.2.1.trans hl.1.symm) E.o (E.w _ k1174) (E.w _ k560) (E.w _ k25) (E.w _ k561) (Nat.le_trans (by decide) E.2.2.2.2.2.2.1) (Nat.le_trans (Nat.le_of_ble_eq_true rfl) E.2.2.2.2.2.2.2.1) (Nat.zero_le _) (Nat.zero_le _) d_Sha_lay_125 ?_
    refine wi_e (v := imax (1073741824 / y34) 1) rfl ?_
    obtain ⟨c53, h⟩ := ck_some h
    obtain ⟨σ54, e_σ54, h⟩ := lt_some h
    refine iasC E w (k := 27) (by decide) c53 e_σ54 d_Sha_lay_128 (fun H locs w => ?_)
    obtain rfl := Option.some.inj h
    exact rt_v E w hret d_Sha_lay_129
  ·
    replace h := ifF c h
    obtain rfl := Option.some.inj h
    exact rt_v E w hret d_Sha_lay_15
theorem clV_Sha_lay {p : Program} {l : Launch} {e : Env} {R : Room} {s : State} {m : MethodId} {args : Array Value} {below : List Frame} {meth : Method} {c : Code} {H : Heap} {locs : List Loc} {Q : State → Prop} {cc : ByteArray} {nL pc lev : Nat} {own : String} {D : va_G} {τ : ClassId × ClassId × ClassId} {B : Nat} {A : Nat → Prop} {σ : Sg} {ad : Nat → Nat} {ls : Array Slot} {rest : List Value} (E : Cx p R s m args meth c cc nL own lev D τ B A) (w : Wd s D A (wdC τ σ ad) H locs) {x0 : Int32} {o : Sg} (h : F_Sha_lay σ x0 = some o) {index : Nat} (hlk : Cond.methodLink own index y_Sha_lay ∈ tw) (hlev : 2 < lev) (hsz : ls.size = nL) (hr : (rest.map fun v => v.category).sum ≤ 8) (hd : decode cc pc = .ok (.invokevirtual index, 3)) (kk : ∀ (H1 : Heap) (locs1 : List Loc), Wd s D A (wdC τ o ad) H1 locs1 → W p l e R s m args below meth c H1 locs1 0 0 Q (F0 m (pc + 3) ls (rest))) : W p l e R s m args below meth c H locs 0 0 Q (F0 m pc ls (.int x0 :: .ref (ad 65) :: rest)) :=
  cr_v w E.C (va_runV (As := [.int x0]) (rest := rest) E.fix (c_Sha_lay l D τ B σ ad x0 o h H.size) (cwV 1 E.w (tw_pre (tw_good k1160) (l := [_, _, _, _]) (List.forall_mem_cons.mpr ⟨hlk, List.forall_mem_cons.mpr ⟨k1159, List.forall_mem_cons.mpr ⟨ks23, List.forall_mem_cons.mpr ⟨k11, fun _ h => absurd h List.not_mem_nil⟩⟩⟩⟩)) rfl rfl rfl (by decide +kernel) (E.rm hlev (by decide))) (wd_preV w E.C [.int x0] rcC_Sha rfl) rfl rfl hsz rfl (lv_room hr) hd ⟨Nat.zero_le _, Nat.zero_le _⟩) kk

theorem d_Sha_layAll_0 : decode prog_9_method_7_code 0 = .ok (.iconst 0, 1) := by decide +kernel
theorem d_Sha_layAll_1 : decode prog_9_method_7_code 1 = .ok (.istore_n 1, 1) := by decide +kernel
theorem d_Sha_layAll_2 : decode prog_9_method_7_code 2 = .ok (.iload_n 1, 1) := by decide +kernel
theorem d_Sha_layAll_3 : decode prog_9_method_7_code 3 = .ok (.aload_n 0, 1) := by decide +kernel
theorem d_Sha_layAll_4 : decode prog_9_method_7_code 4 = .ok (.getfield 44, 3) := by decide +kernel
theorem d_Sha_layAll_7 : decode prog_9_method_7_code 7 = .ok (.if_icmp .ge 14, 3) := by decide +kernel
theorem d_Sha_layAll_10 : decode prog_9_method_7_code 10 = .ok (.aload_n 0, 1) := by decide +kernel
theorem d_Sha_layAll_11 : decode prog_9_method_7_code 11 = .ok (.iload_n 1, 1) := by decide +kernel
theorem d_Sha_layAll_12 : decode prog_9_method_7_code 12 = .ok (.invokevirtual 70, 3) := by decide +kernel
theorem d_Sha_layAll_15 : decode prog_9_method_7_code 15 = .ok (.iinc 1 1, 3) := by decide +kernel
theorem d_Sha_layAll_18 : decode prog_9_method_7_code 18 = .ok (.goto (-16), 3) := by decide +kernel
theorem d_Sha_layAll_21 : decode prog_9_method_7_code 21 = .ok (.return_, 1) := by decide +kernel
def L_Sha_layAll_2 : Nat → Sg → Int32 → Option (Sg)
  | 0, _, _ => none
  | n + 1, σ, v1 => if (σ.1 16) ≤ v1 then (some σ) else (bd (F_Sha_lay σ v1) (fun o3 => lt (v1 + 1) (fun y4 => L_Sha_layAll_2 n o3 y4)))
set_option maxRecDepth 10000 in
set_option maxHeartbeats 4000000 in
theorem lt_Sha_layAll_2 {p : Program} {l : Launch} {e : Env} {R : Room} {s : State} {m : MethodId} {args : Array Value} {below : List Frame} {meth : Method} {c : Code} {D : va_G} {τ : ClassId × ClassId × ClassId} {B : Nat} {A : Nat → Prop} {ad : Nat → Nat} (E : Cx p R s m args meth c prog_9_method_7_code 2 "DrawingMachine$Shape" 3 D τ B A) (hret : meth.sig.returnType = none) (o : Sg) : ∀ (n : Nat) (σ : Sg) (v1 : Int32) (H : Heap) (locs : List Loc) (ls : Array Slot), L_Sha_layAll_2 n σ v1 = some o → Wd s D A (wdC τ σ ad) H locs → lv_has ls 2 [(0, .ref (ad 65)), (1, .int v1)] → W p l e R s m args below meth c H locs 0 0 (QV below args s A D τ (wdC τ o ad)) (F0 m 2 ls []) := by
  intro n
  induction n with
  | zero =>
    intro σ v1 H locs ls h w hl
    cases h
  | succ n hr_2 =>
    intro σ v1 H locs ls h w hl
    refine lv_iload_n E.x E.b d_Sha_layAll_2 rfl (lv_at hl 1 rfl) ?_
    refine lv_aload_n E.x E.b d_Sha_layAll_3 rfl (lv_at hl 0 rfl) ?_
    refine gC_Sha_many E w k286 d_Sha_layAll_4 ?_
    refine lv_icmp_ge (tgt := 21) E.x E.b d_Sha_layAll_7 (by decide) (fun c => ?_) (fun c => ?_)
    ·
      replace h := ifT c h
      obtain rfl := Option.some.inj h
      exact rt_v E w hret d_Sha_layAll_21
    ·
      replace h := ifF c h
      refine lv_aload_n E.x E.b d_Sha_layAll_10 rfl (lv_at hl 0 rfl) ?_
      refine lv_iload_n E.x E.b d_Sha_layAll_11 rfl (lv_at hl 1 rfl) ?_
      obtain ⟨o3, h_o3, h⟩ := bd_some h
      refine clV_Sha_lay E w (x0 := v1) h_o3 k1157 (by decide) hl.1 (Nat.le_of_ble_eq_true rfl) d_Sha_layAll_12 (fun H locs w => ?_)
      obtain ⟨y4, e_y4, h⟩ := lt_some h
      refine lv_iinc (v := y4) (lv' := [(1, .int y4), (0, .ref (ad 65))]) E.x E.b d_Sha_layAll_15 hl (k := 1) rfl (e_y4) (by decide) rfl (fun ls hl => ?_)
      refine lv_goto (tgt := 2) E.x E.b d_Sha_layAll_18 (by decide) ?_
      exact hr_2 o3 y4 _ _ _ h w (lv_sub hl [1, 0] rfl)
def F_Sha_layAll (σ : Sg) : Option (Sg) := L_Sha_layAll_2 100000 σ 0
set_option maxRecDepth 10000 in
set_option maxHeartbeats 4000000 in
theorem c_Sha_layAll (l : Launch) (D : va_G) (τ : ClassId × ClassId × ClassId) (B : Nat) (σ : Sg) (ad : Nat → Nat) (o : Sg) (h : F_Sha_layAll σ = some o) : MV l y_Sha_layAll (Cond.code y_Sha_layAll prog_9_method_7_code 2 none) 3 D τ B [.ref (ad 65)] (wdC τ σ ad) (wdC τ o ad) := by
  refine en_v (by decide) (Nat.le_of_ble_eq_true rfl) ?_
  intro p e R s m args below meth c H locs ls A E hret w hl
  have E : Cx p R s m args meth c prog_9_method_7_code 2 "DrawingMachine$Shape" 3 D τ B A := E
  have hl : lv_has ls 2 [(0, .ref (ad 65))] := hl
  refine lv_iconst (v := 0) E.x E.b d_Sha_layAll_0 (by decide) ?_
  refine lv_istore_n (lv' := [(1, .int 0), (0, .ref (ad 65))]) E.x E.b d_Sha_layAll_1 rfl hl (by decide) rfl (fun ls hl => ?_)
  exact lt_Sha_layAll_2 E hret o 100000 σ 0 _ _ _ h w (lv_sub hl [1, 0] rfl)
theorem clV_Sha_layAll {p : Program} {l : Launch} {e : Env} {R : Room} {s : State} {m : MethodId} {args : Array Value} {below : List Frame} {meth : Method} {c : Code} {H : Heap} {locs : List Loc} {Q : State → Prop} {cc : ByteArray} {nL pc lev : Nat} {own : String} {D : va_G} {τ : ClassId × ClassId × ClassId} {B : Nat} {A : Nat → Prop} {σ : Sg} {ad : Nat → Nat} {ls : Array Slot} {rest : List Value} (E : Cx p R s m args meth c cc nL own lev D τ B A) (w : Wd s D A (wdC τ σ ad) H locs) {o : Sg} (h : F_Sha_layAll σ = some o) {index : Nat} (hlk : Cond.methodLink own index y_Sha_layAll ∈ tw) (hlev : 3 < lev) (hsz : ls.size = nL) (hr : (rest.map fun v => v.category).sum ≤ 8) (hd : decode cc pc = .ok (.invokevirtual index, 3)) (kk : ∀ (H1 : Heap) (locs1 : List Loc), Wd s D A (wdC τ o ad) H1 locs1 → W p l e R s m args below meth c H1 locs1 0 0 Q (F0 m (pc + 3) ls (rest))) : W p l e R s m args below meth c H locs 0 0 Q (F0 m pc ls (.ref (ad 65) :: rest)) :=
  cr_v w E.C (va_runV (As := []) (rest := rest) E.fix (c_Sha_layAll l D τ B σ ad o h H.size) (cwV 0 E.w (tw_pre (tw_good k1156) (l := [_, _, _, _]) (List.forall_mem_cons.mpr ⟨hlk, List.forall_mem_cons.mpr ⟨k1154, List.forall_mem_cons.mpr ⟨k1155, List.forall_mem_cons.mpr ⟨k11, fun _ h => absurd h List.not_mem_nil⟩⟩⟩⟩)) rfl rfl rfl (by decide +kernel) (E.rm hlev (by decide))) (wd_preV w E.C [] rcC_Sha rfl) rfl rfl hsz rfl (lv_room hr) hd ⟨Nat.zero_le _, Nat.zero_le _⟩) kk

theorem d_Sha_take_0 : decode prog_9_method_2_code 0 = .ok (.aload_n 2, 1) := by decide +kernel
theorem d_Sha_take_1 : decode prog_9_method_2_code 1 = .ok (.sipush 228, 3) := by decide +kernel
theorem d_Sha_take_4 : decode prog_9_method_2_code 4 = .ok (.aload_n 0, 1) := by decide +kernel
theorem d_Sha_take_5 : decode prog_9_method_2_code 5 = .ok (.getfield 13, 3) := by decide +kernel
theorem d_Sha_take_8 : decode prog_9_method_2_code 8 = .ok (.iload_n 1, 1) := by decide +kernel
theorem d_Sha_take_9 : decode prog_9_method_2_code 9 = .ok (.aaload, 1) := by decide +kernel
theorem d_Sha_take_10 : decode prog_9_method_2_code 10 = .ok (.iconst 0, 1) := by decide +kernel
theorem d_Sha_take_11 : decode prog_9_method_2_code 11 = .ok (.bipush 32, 2) := by decide +kernel
theorem d_Sha_take_13 : decode prog_9_method_2_code 13 = .ok (.invokestatic 38, 3) := by decide +kernel
theorem d_Sha_take_16 : decode prog_9_method_2_code 16 = .ok (.return_, 1) := by decide +kernel
def F_Sha_take (σ : Sg) (x0 : Int32) (ar1 : Nat) : Option (Sg) := ck (ar1 < 47) (lt (σ.2.2.2.2 5) (fun nn9 => ck (nn9 < 2) (ck (inb x0 8) (lt (31 + 8 * nn9 + x0.toNatClampNeg) (fun ar_12 => ck (ar_12 < 47) (ck (cpok 228 0 32 (lenC σ ar1) (lenC σ ar_12)) (lt (sA σ ar_12 (va_cpy (σ.2.2.1 ar1) (σ.2.2.1 ar_12) (228 : Int32).toNatClampNeg (0 : Int32).toNatClampNeg (32 : Int32).toNatClampNeg)) (fun σ15 => some σ15))))))))
set_option maxRecDepth 10000 in
set_option maxHeartbeats 4000000 in
theorem c_Sha_take (l : Launch) (D : va_G) (τ : ClassId × ClassId × ClassId) (B : Nat) (σ : Sg) (ad : Nat → Nat) (x0 : Int32) (ar1 : Nat) (o : Sg) (h : F_Sha_take σ x0 ar1 = some o) : MV l y_Sha_take (Cond.code y_Sha_take prog_9_method_2_code 3 none) 0 D τ B [.ref (ad 65), .int x0, .ref (ad ar1)] (wdC τ σ ad) (wdC τ o ad) := by
  refine en_v (by decide) (Nat.le_of_ble_eq_true rfl) ?_
  intro p e R s m args below meth c H locs ls A E hret w hl
  have E : Cx p R s m args meth c prog_9_method_2_code 3 "DrawingMachine$Shape" 0 D τ B A := E
  have hl : lv_has ls 3 [(0, .ref (ad 65)), (1, .int x0), (2, .ref (ad ar1))] := hl
  obtain ⟨c8, h⟩ := ck_some h
  refine lv_aload_n E.x E.b d_Sha_take_0 rfl (lv_at hl 2 rfl) ?_
  refine lv_sipush (v := 228) E.x E.b d_Sha_take_1 (by decide) ?_
  refine lv_aload_n E.x E.b d_Sha_take_4 rfl (lv_at hl 0 rfl) ?_
  refine gC_Sha_corners E w k288 d_Sha_take_5 ?_
  obtain ⟨nn9, e_nn9, h⟩ := lt_some h
  refine wr_e (v := ad (54 + nn9)) (by rw [e_nn9]) ?_
  obtain ⟨c10, h⟩ := ck_some h
  refine lv_iload_n E.x E.b d_Sha_take_8 rfl (lv_at hl 1 rfl) ?_
  obtain ⟨c11, h⟩ := ck_some h
  refine aalC E w (v := nn9) c10 c11 d_Sha_take_9 ?_
  obtain ⟨ar_12, e_ar_12, h⟩ := lt_some h
  refine wr_e (v := ad ar_12) (by rw [e_ar_12]) ?_
  obtain ⟨c13, h⟩ := ck_some h
  refine lv_iconst (v := 0) E.x E.b d_Sha_take_10 (by decide) ?_
  refine lv_bipush (v := 32) E.x E.b d_Sha_take_11 (by decide) ?_
  obtain ⟨c14, h⟩ := ck_some h
  obtain ⟨σ15, e_σ15, h⟩ := lt_some h
  refine cpyC E w hl.1 k1135 k645 k644 k31 (k0 := ar1) (k1 := ar_12) c8 c13 c14 e_σ15 (Nat.le_of_ble_eq_true rfl) d_Sha_take_13 (fun H locs w => ?_)
  obtain rfl := Option.some.inj h
  exact rt_v E w hret d_Sha_take_16
theorem clV_Sha_take {p : Program} {l : Launch} {e : Env} {R : Room} {s : State} {m : MethodId} {args : Array Value} {below : List Frame} {meth : Method} {c : Code} {H : Heap} {locs : List Loc} {Q : State → Prop} {cc : ByteArray} {nL pc lev : Nat} {own : String} {D : va_G} {τ : ClassId × ClassId × ClassId} {B : Nat} {A : Nat → Prop} {σ : Sg} {ad : Nat → Nat} {ls : Array Slot} {rest : List Value} (E : Cx p R s m args meth c cc nL own lev D τ B A) (w : Wd s D A (wdC τ σ ad) H locs) {x0 : Int32} {ar1 : Nat} {o : Sg} (h : F_Sha_take σ x0 ar1 = some o) {index : Nat} (hlk : Cond.methodLink own index y_Sha_take ∈ tw) (hlev : 0 < lev) (hsz : ls.size = nL) (hr : (rest.map fun v => v.category).sum ≤ 8) (hd : decode cc pc = .ok (.invokevirtual index, 3)) (kk : ∀ (H1 : Heap) (locs1 : List Loc), Wd s D A (wdC τ o ad) H1 locs1 → W p l e R s m args below meth c H1 locs1 0 0 Q (F0 m (pc + 3) ls (rest))) : W p l e R s m args below meth c H locs 0 0 Q (F0 m pc ls (.ref (ad ar1) :: .int x0 :: .ref (ad 65) :: rest)) :=
  cr_v w E.C (va_runV (As := [.int x0, .ref (ad ar1)]) (rest := rest) E.fix (c_Sha_take l D τ B σ ad x0 ar1 o h H.size) (cwV 2 E.w (tw_pre (tw_good k1134) (l := [_, _, _, _]) (List.forall_mem_cons.mpr ⟨hlk, List.forall_mem_cons.mpr ⟨k1132, List.forall_mem_cons.mpr ⟨k1133, List.forall_mem_cons.mpr ⟨k11, fun _ h => absurd h List.not_mem_nil⟩⟩⟩⟩)) rfl rfl rfl (by decide +kernel) (E.rm hlev (by decide))) (wd_preV w E.C [.int x0, .ref (ad ar1)] rcC_Sha rfl) rfl rfl hsz rfl (lv_room hr) hd ⟨Nat.zero_le _, Nat.zero_le _⟩) kk

theorem d_Ver_part_0 : decode prog_12_method_7_code 0 = .ok (.iload_n 1, 1) := by decide +kernel
theorem d_Ver_part_1 : decode prog_12_method_7_code 1 = .ok (.tableswitch 97 0 2 #[27, 40, 69], 27) := by decide +kernel
theorem d_Ver_part_28 : decode prog_12_method_7_code 28 = .ok (.aload_n 0, 1) := by decide +kernel
theorem d_Ver_part_29 : decode prog_12_method_7_code 29 = .ok (.getfield 9, 3) := by decide +kernel
theorem d_Ver_part_32 : decode prog_12_method_7_code 32 = .ok (.lload_n 2, 1) := by decide +kernel
theorem d_Ver_part_33 : decode prog_12_method_7_code 33 = .ok (.iload 4, 2) := by decide +kernel
theorem d_Ver_part_35 : decode prog_12_method_7_code 35 = .ok (.i2l, 1) := by decide +kernel
theorem d_Ver_part_36 : decode prog_12_method_7_code 36 = .ok (.ladd, 1) := by decide +kernel
theorem d_Ver_part_37 : decode prog_12_method_7_code 37 = .ok (.invokestatic 27, 3) := by decide +kernel
theorem d_Ver_part_40 : decode prog_12_method_7_code 40 = .ok (.ireturn, 1) := by decide +kernel
theorem d_Ver_part_41 : decode prog_12_method_7_code 41 = .ok (.ldc 42, 2) := by decide +kernel
theorem d_Ver_part_43 : decode prog_12_method_7_code 43 = .ok (.aload_n 0, 1) := by decide +kernel
theorem d_Ver_part_44 : decode prog_12_method_7_code 44 = .ok (.getfield 9, 3) := by decide +kernel
theorem d_Ver_part_47 : decode prog_12_method_7_code 47 = .ok (.lload_n 2, 1) := by decide +kernel
theorem d_Ver_part_48 : decode prog_12_method_7_code 48 = .ok (.invokestatic 27, 3) := by decide +kernel
theorem d_Ver_part_51 : decode prog_12_method_7_code 51 = .ok (.bipush 8, 2) := by decide +kernel
theorem d_Ver_part_53 : decode prog_12_method_7_code 53 = .ok (.iload 4, 2) := by decide +kernel
theorem d_Ver_part_55 : decode prog_12_method_7_code 55 = .ok (.imul, 1) := by decide +kernel
theorem d_Ver_part_56 : decode prog_12_method_7_code 56 = .ok (.iushr, 1) := by decide +kernel
theorem d_Ver_part_57 : decode prog_12_method_7_code 57 = .ok (.sipush 255, 3) := by decide +kernel
theorem d_Ver_part_60 : decode prog_12_method_7_code 60 = .ok (.iand, 1) := by decide +kernel
theorem d_Ver_part_61 : decode prog_12_method_7_code 61 = .ok (.imul, 1) := by decide +kernel
theorem d_Ver_part_62 : decode prog_12_method_7_code 62 = .ok (.bipush 127, 2) := by decide +kernel
theorem d_Ver_part_64 : decode prog_12_method_7_code 64 = .ok (.iadd, 1) := by decide +kernel
theorem d_Ver_part_65 : decode prog_12_method_7_code 65 = .ok (.sipush 255, 3) := by decide +kernel
theorem d_Ver_part_68 : decode prog_12_method_7_code 68 = .ok (.idiv, 1) := by decide +kernel
theorem d_Ver_part_69 : decode prog_12_method_7_code 69 = .ok (.ireturn, 1) := by decide +kernel
theorem d_Ver_part_70 : decode prog_12_method_7_code 70 = .ok (.aload_n 0, 1) := by decide +kernel
theorem d_Ver_part_71 : decode prog_12_method_7_code 71 = .ok (.getfield 9, 3) := by decide +kernel
theorem d_Ver_part_74 : decode prog_12_method_7_code 74 = .ok (.lload_n 2, 1) := by decide +kernel
theorem d_Ver_part_75 : decode prog_12_method_7_code 75 = .ok (.iload 4, 2) := by decide +kernel
theorem d_Ver_part_77 : decode prog_12_method_7_code 77 = .ok (.iconst 2, 1) := by decide +kernel
theorem d_Ver_part_78 : decode prog_12_method_7_code 78 = .ok (.idiv, 1) := by decide +kernel
theorem d_Ver_part_79 : decode prog_12_method_7_code 79 = .ok (.i2l, 1) := by decide +kernel
theorem d_Ver_part_80 : decode prog_12_method_7_code 80 = .ok (.ladd, 1) := by decide +kernel
theorem d_Ver_part_81 : decode prog_12_method_7_code 81 = .ok (.invokestatic 27, 3) := by decide +kernel
theorem d_Ver_part_84 : decode prog_12_method_7_code 84 = .ok (.bipush 16, 2) := by decide +kernel
theorem d_Ver_part_86 : decode prog_12_method_7_code 86 = .ok (.iload 4, 2) := by decide +kernel
theorem d_Ver_part_88 : decode prog_12_method_7_code 88 = .ok (.iconst 2, 1) := by decide +kernel
theorem d_Ver_part_89 : decode prog_12_method_7_code 89 = .ok (.irem, 1) := by decide +kernel
theorem d_Ver_part_90 : decode prog_12_method_7_code 90 = .ok (.imul, 1) := by decide +kernel
theorem d_Ver_part_91 : decode prog_12_method_7_code 91 = .ok (.iushr, 1) := by decide +kernel
theorem d_Ver_part_92 : decode prog_12_method_7_code 92 = .ok (.i2s, 1) := by decide +kernel
theorem d_Ver_part_93 : decode prog_12_method_7_code 93 = .ok (.sipush 256, 3) := by decide +kernel
theorem d_Ver_part_96 : decode prog_12_method_7_code 96 = .ok (.imul, 1) := by decide +kernel
theorem d_Ver_part_97 : decode prog_12_method_7_code 97 = .ok (.ireturn, 1) := by decide +kernel
theorem d_Ver_part_98 : decode prog_12_method_7_code 98 = .ok (.aload_n 0, 1) := by decide +kernel
theorem d_Ver_part_99 : decode prog_12_method_7_code 99 = .ok (.getfield 9, 3) := by decide +kernel
theorem d_Ver_part_102 : decode prog_12_method_7_code 102 = .ok (.lload_n 2, 1) := by decide +kernel
theorem d_Ver_part_103 : decode prog_12_method_7_code 103 = .ok (.invokestatic 27, 3) := by decide +kernel
theorem d_Ver_part_106 : decode prog_12_method_7_code 106 = .ok (.bipush 8, 2) := by decide +kernel
theorem d_Ver_part_108 : decode prog_12_method_7_code 108 = .ok (.iload 4, 2) := by decide +kernel
theorem d_Ver_part_110 : decode prog_12_method_7_code 110 = .ok (.imul, 1) := by decide +kernel
theorem d_Ver_part_111 : decode prog_12_method_7_code 111 = .ok (.iushr, 1) := by decide +kernel
theorem d_Ver_part_112 : decode prog_12_method_7_code 112 = .ok (.i2b, 1) := by decide +kernel
theorem d_Ver_part_113 : decode prog_12_method_7_code 113 = .ok (.ldc 42, 2) := by decide +kernel
theorem d_Ver_part_115 : decode prog_12_method_7_code 115 = .ok (.imul, 1) := by decide +kernel
theorem d_Ver_part_116 : decode prog_12_method_7_code 116 = .ok (.ireturn, 1) := by decide +kernel
def F_Ver_part (σ : Sg) (x0 : Int32) (x1 : Int64) (x2 : Int32) : Option (Int32) := if x0 = 0 then (bd (F_DM_wordOf σ 0 (x1 + x2.toInt64)) (fun o9 => some o9)) else (if x0 = 1 then (bd (F_DM_wordOf σ 0 x1) (fun o11 => some (((65536 * ((ushr o11 (8 * x2)) &&& 255)) + 127) / 255))) else (if x0 = 2 then (bd (F_DM_wordOf σ 0 (x1 + ((x2 / 2).toInt64))) (fun o13 => some (((ushr o13 (16 * (irem x2 2))).toInt16.toInt32) * 256))) else (bd (F_DM_wordOf σ 0 x1) (fun o14 => some (((ushr o14 (8 * x2)).toInt8.toInt32) * 65536)))))
set_option maxRecDepth 10000 in
set_option maxHeartbeats 4000000 in
theorem c_Ver_part (l : Launch) (D : va_G) (τ : ClassId × ClassId × ClassId) (B : Nat) (σ : Sg) (ad : Nat → Nat) (x0 : Int32) (x1 : Int64) (x2 : Int32) (o : Int32) (h : F_Ver_part σ x0 x1 x2 = some o) : MI l y_Ver_part (Cond.code y_Ver_part prog_12_method_7_code 5 (some .int)) 1 D τ B [.ref (ad 64), .int x0, .long x1, .int x2] (wdC τ σ ad) (wdC τ σ ad) o := by
  refine en_i (by decide) (Nat.le_of_ble_eq_true rfl) ?_
  intro p e R s m args below meth c H locs ls A E hret w hl
  have E : Cx p R s m args meth c prog_12_method_7_code 5 "DrawingMachine$Vertices" 1 D τ B A := E
  have hl : lv_has ls 5 [(0, .ref (ad 64)), (1, .int x0), (2, .long x1), (4, .int x2)] := hl
  refine lv_iload_n E.x E.b d_Ver_part_0 rfl (lv_at hl 1 rfl) ?_
  by_cases q8 : x0 = 0
  ·
    replace h := ifT q8 h
    refine wi_e (v := 0) q8 ?_
    refine lv_tableIn (off := 27) (tgt := 28) E.x E.b d_Ver_part_1 (by decide) (by decide) (by decide) (by decide) ?_
    refine lv_aload_n E.x E.b d_Ver_part_28 rfl (lv_at hl 0 rfl) ?_
    refine gC_Ver_memory E w k271 d_Ver_part_29 ?_
    refine lv_lload_n E.x E.b d_Ver_part_32 rfl (lv_at hl 2 rfl) ?_
    refine lv_iload E.x E.b d_Ver_part_33 (lv_at hl 3 rfl) ?_
    refine lv_i2l (v := x2.toInt64) E.x E.b d_Ver_part_35 rfl ?_
    refine lv_ladd E.x E.b d_Ver_part_36 ?_
    obtain ⟨o9, h_o9, h⟩ := bd_some h
    refine clSN_DM_wordOf E w (ar0 := 0) (x1 := (x1 + x2.toInt64)) h_o9 n1002 (by decide) hl.1 (Nat.le_of_ble_eq_true rfl) d_Ver_part_37 (fun H locs w => ?_)
    obtain rfl := Option.some.inj h
    exact rt_i E w hret d_Ver_part_40
  replace h := ifF q8 h
  replace q8 := ne_ti (k := 0) (by decide) q8
  by_cases q10 : x0 = 1
  ·
    replace h := ifT q10 h
    refine wi_e (v := 1) q10 ?_
    refine lv_tableIn (off := 40) (tgt := 41) E.x E.b d_Ver_part_1 (by decide) (by decide) (by decide) (by decide) ?_
    refine lv_ldc (v := 65536) E.x E.b E.o (E.w _ k1019) d_Ver_part_41 ?_
    refine lv_aload_n E.x E.b d_Ver_part_43 rfl (lv_at hl 0 rfl) ?_
    refine gC_Ver_memory E w k271 d_Ver_part_44 ?_
    refine lv_lload_n E.x E.b d_Ver_part_47 rfl (lv_at hl 2 rfl) ?_
    obtain ⟨o11, h_o11, h⟩ := bd_some h
    refine clSN_DM_wordOf E w (ar0 := 0) (x1 := x1) h_o11 n1002 (by decide) hl.1 (Nat.le_of_ble_eq_true rfl) d_Ver_part_48 (fun H locs w => ?_)
    refine lv_bipush (v := 8) E.x E.b d_Ver_part_51 (by decide) ?_
    refine lv_iload E.x E.b d_Ver_part_53 (lv_at hl 3 rfl) ?_
    refine lv_imul E.x E.b d_Ver_part_55 ?_
    refine lv_iushr (v := ushr o11 (8 * x2)) E.x E.b d_Ver_part_56 rfl ?_
    refine lv_sipush (v := 255) E.x E.b d_Ver_part_57 (by decide) ?_
    refine lv_iand E.x E.b d_Ver_part_60 ?_
    refine lv_imul E.x E.b d_Ver_part_61 ?_
    refine lv_bipush (v := 127) E.x E.b d_Ver_part_62 (by decide) ?_
    refine lv_iadd E.x E.b d_Ver_part_64 ?_
    refine lv_sipush (v := 255) E.x E.b d_Ver_part_65 (by decide) ?_
    refine lv_idiv E.x E.b d_Ver_part_68 (by decide) ?_
    obtain rfl := Option.some.inj h
    exact rt_i E w hret d_Ver_part_69
  replace h := ifF q10 h
  replace q10 := ne_ti (k := 1) (by decide) q10
  by_cases q12 : x0 = 2
  ·
    replace h := ifT q12 h
    refine wi_e (v := 2) q12 ?_
    refine lv_tableIn (off := 69) (tgt := 70) E.x E.b d_Ver_part_1 (by decide) (by decide) (by decide) (by decide) ?_
    refine lv_aload_n E.x E.b d_Ver_part_70 rfl (lv_at hl 0 rfl) ?_
    refine gC_Ver_memory E w k271 d_Ver_part_71 ?_
    refine lv_lload_n E.x E.b d_Ver_part_74 rfl (lv_at hl 2 rfl) ?_
    refine lv_iload E.x E.b d_Ver_part_75 (lv_at hl 3 rfl) ?_
    refine lv_iconst (v := 2) E.x E.b d_Ver_part_77 (by decide) ?_
    refine lv_idiv E.x E.b d_Ver_part_78 (by decide) ?_
    refine lv_i2l (v := (x2 / 2).toInt64) E.x E.b d_Ver_part_79 rfl ?_
    refine lv_ladd E.x E.b d_Ver_part_80 ?_
    obtain ⟨o13, h_o13, h⟩ := bd_some h
    refine clSN_DM_wordOf E w (ar0 := 0) (x1 := (x1 + ((x2 / 2).toInt64))) h_o13 n1002 (by decide) hl.1 (Nat.le_of_ble_eq_true rfl) d_Ver_part_81 (fun H locs w => ?_)
    refine lv_bipush (v := 16) E.x E.b d_Ver_part_84 (by decide) ?_
    refine lv_iload E.x E.b d_Ver_part_86 (lv_at hl 3 rfl) ?_
    refine lv_iconst (v := 2) E.x E.b d_Ver_part_88 (by decide) ?_
    refine lv_irem E.x E.b d_Ver_part_89 (by decide) ?_
    refine wi_e (v := irem x2 2) rfl ?_
    refine lv_imul E.x E.b d_Ver_part_90 ?_
    refine lv_iushr (v := ushr o13 (16 * (irem x2 2))) E.x E.b d_Ver_part_91 rfl ?_
    refine lv_i2s (v := (ushr o13 (16 * (irem x2 2))).toInt16.toInt32) E.x E.b d_Ver_part_92 rfl ?_
    refine lv_sipush (v := 256) E.x E.b d_Ver_part_93 (by decide) ?_
    refine lv_imul E.x E.b d_Ver_part_96 ?_
    obtain rfl := Option.some.inj h
    exact rt_i E w hret d_Ver_part_97
  replace h := ifF q12 h
  replace q12 := ne_ti (k := 2) (by decide) q12
  refine lv_tableOut (tgt := 98) E.x E.b d_Ver_part_1 (by omega) (by decide) ?_
  refine lv_aload_n E.x E.b d_Ver_part_98 rfl (lv_at hl 0 rfl) ?_
  refine gC_Ver_memory E w k271 d_Ver_part_99 ?_
  refine lv_lload_n E.x E.b d_Ver_part_102 rfl (lv_at hl 2 rfl) ?_
  obtain ⟨o14, h_o14, h⟩ := bd_some h
  refine clSN_DM_wordOf E w (ar0 := 0) (x1 := x1) h_o14 n1002 (by decide) hl.1 (Nat.le_of_ble_eq_true rfl) d_Ver_part_103 (fun H locs w => ?_)
  refine lv_bipush (v := 8) E.x E.b d_Ver_part_106 (by decide) ?_
  refine lv_iload E.x E.b d_Ver_part_108 (lv_at hl 3 rfl) ?_
  refine lv_imul E.x E.b d_Ver_part_110 ?_
  refine lv_iushr (v := ushr o14 (8 * x2)) E.x E.b d_Ver_part_111 rfl ?_
  refine lv_i2b (v := (ushr o14 (8 * x2)).toInt8.toInt32) E.x E.b d_Ver_part_112 rfl ?_
  refine lv_ldc (v := 65536) E.x E.b E.o (E.w _ k1019) d_Ver_part_113 ?_
  refine lv_imul E.x E.b d_Ver_part_115 ?_
  obtain rfl := Option.some.inj h
  exact rt_i E w hret d_Ver_part_116
theorem clV_Ver_part {p : Program} {l : Launch} {e : Env} {R : Room} {s : State} {m : MethodId} {args : Array Value} {below : List Frame} {meth : Method} {c : Code} {H : Heap} {locs : List Loc} {Q : State → Prop} {cc : ByteArray} {nL pc lev : Nat} {own : String} {D : va_G} {τ : ClassId × ClassId × ClassId} {B : Nat} {A : Nat → Prop} {σ : Sg} {ad : Nat → Nat} {ls : Array Slot} {rest : List Value} (E : Cx p R s m args meth c cc nL own lev D τ B A) (w : Wd s D A (wdC τ σ ad) H locs) {x0 : Int32} {x1 : Int64} {x2 : Int32} {o : Int32} (h : F_Ver_part σ x0 x1 x2 = some o) {index : Nat} (hlk : Cond.methodLink own index y_Ver_part ∈ tw) (hlev : 1 < lev) (hsz : ls.size = nL) (hr : (rest.map fun v => v.category).sum ≤ 8) (hd : decode cc pc = .ok (.invokevirtual index, 3)) (kk : ∀ (H1 : Heap) (locs1 : List Loc), Wd s D A (wdC τ σ ad) H1 locs1 → W p l e R s m args below meth c H1 locs1 0 0 Q (F0 m (pc + 3) ls (.int o :: rest))) : W p l e R s m args below meth c H locs 0 0 Q (F0 m pc ls (.int x2 :: .long x1 :: .int x0 :: .ref (ad 64) :: rest)) :=
  cr_i w E.C (va_runV (As := [.int x0, .long x1, .int x2]) (rest := rest) E.fix (c_Ver_part l D τ B σ ad x0 x1 x2 o h H.size) (cwV 3 E.w (tw_pre (tw_good k1023) (l := [_, _, _, _]) (List.forall_mem_cons.mpr ⟨hlk, List.forall_mem_cons.mpr ⟨k1022, List.forall_mem_cons.mpr ⟨ks11, List.forall_mem_cons.mpr ⟨k10, fun _ h => absurd h List.not_mem_nil⟩⟩⟩⟩)) rfl rfl rfl (by decide +kernel) (E.rm hlev (by decide))) (wd_preV w E.C [.int x0, .long x1, .int x2] rcC_Ver rfl) rfl rfl hsz rfl (lv_room hr) hd ⟨Nat.zero_le _, Nat.zero_le _⟩) kk

theorem d_Ver_loadAttribute_0 : decode prog_12_method_6_code 0 = .ok (.bipush 10, 2) := by decide +kernel
theorem d_Ver_loadAttribute_2 : decode prog_12_method_6_code 2 = .ok (.iconst 4, 1) := by decide +kernel
theorem d_Ver_loadAttribute_3 : decode prog_12_method_6_code 3 = .ok (.iload_n 2, 1) := by decide +kernel
theorem d_Ver_loadAttribute_4 : decode prog_12_method_6_code 4 = .ok (.imul, 1) := by decide +kernel
theorem d_Ver_loadAttribute_5 : decode prog_12_method_6_code 5 = .ok (.iadd, 1) := by decide +kernel
theorem d_Ver_loadAttribute_6 : decode prog_12_method_6_code 6 = .ok (.istore 4, 2) := by decide +kernel
theorem d_Ver_loadAttribute_8 : decode prog_12_method_6_code 8 = .ok (.aload_n 0, 1) := by decide +kernel
theorem d_Ver_loadAttribute_9 : decode prog_12_method_6_code 9 = .ok (.getfield 20, 3) := by decide +kernel
theorem d_Ver_loadAttribute_12 : decode prog_12_method_6_code 12 = .ok (.iload 4, 2) := by decide +kernel
theorem d_Ver_loadAttribute_14 : decode prog_12_method_6_code 14 = .ok (.iaload, 1) := by decide +kernel
theorem d_Ver_loadAttribute_15 : decode prog_12_method_6_code 15 = .ok (.i2l, 1) := by decide +kernel
theorem d_Ver_loadAttribute_16 : decode prog_12_method_6_code 16 = .ok (.iload_n 1, 1) := by decide +kernel
theorem d_Ver_loadAttribute_17 : decode prog_12_method_6_code 17 = .ok (.i2l, 1) := by decide +kernel
theorem d_Ver_loadAttribute_18 : decode prog_12_method_6_code 18 = .ok (.aload_n 0, 1) := by decide +kernel
theorem d_Ver_loadAttribute_19 : decode prog_12_method_6_code 19 = .ok (.getfield 20, 3) := by decide +kernel
theorem d_Ver_loadAttribute_22 : decode prog_12_method_6_code 22 = .ok (.iload 4, 2) := by decide +kernel
theorem d_Ver_loadAttribute_24 : decode prog_12_method_6_code 24 = .ok (.iconst 1, 1) := by decide +kernel
theorem d_Ver_loadAttribute_25 : decode prog_12_method_6_code 25 = .ok (.iadd, 1) := by decide +kernel
theorem d_Ver_loadAttribute_26 : decode prog_12_method_6_code 26 = .ok (.iaload, 1) := by decide +kernel
theorem d_Ver_loadAttribute_27 : decode prog_12_method_6_code 27 = .ok (.i2l, 1) := by decide +kernel
theorem d_Ver_loadAttribute_28 : decode prog_12_method_6_code 28 = .ok (.lmul, 1) := by decide +kernel
theorem d_Ver_loadAttribute_29 : decode prog_12_method_6_code 29 = .ok (.ladd, 1) := by decide +kernel
theorem d_Ver_loadAttribute_30 : decode prog_12_method_6_code 30 = .ok (.lstore 5, 2) := by decide +kernel
theorem d_Ver_loadAttribute_32 : decode prog_12_method_6_code 32 = .ok (.aload_n 0, 1) := by decide +kernel
theorem d_Ver_loadAttribute_33 : decode prog_12_method_6_code 33 = .ok (.getfield 20, 3) := by decide +kernel
theorem d_Ver_loadAttribute_36 : decode prog_12_method_6_code 36 = .ok (.iload 4, 2) := by decide +kernel
theorem d_Ver_loadAttribute_38 : decode prog_12_method_6_code 38 = .ok (.iconst 2, 1) := by decide +kernel
theorem d_Ver_loadAttribute_39 : decode prog_12_method_6_code 39 = .ok (.iadd, 1) := by decide +kernel
theorem d_Ver_loadAttribute_40 : decode prog_12_method_6_code 40 = .ok (.iaload, 1) := by decide +kernel
theorem d_Ver_loadAttribute_41 : decode prog_12_method_6_code 41 = .ok (.istore 7, 2) := by decide +kernel
theorem d_Ver_loadAttribute_43 : decode prog_12_method_6_code 43 = .ok (.iconst 0, 1) := by decide +kernel
theorem d_Ver_loadAttribute_44 : decode prog_12_method_6_code 44 = .ok (.istore 8, 2) := by decide +kernel
theorem d_Ver_loadAttribute_46 : decode prog_12_method_6_code 46 = .ok (.iload 8, 2) := by decide +kernel
theorem d_Ver_loadAttribute_48 : decode prog_12_method_6_code 48 = .ok (.iconst 4, 1) := by decide +kernel
theorem d_Ver_loadAttribute_49 : decode prog_12_method_6_code 49 = .ok (.if_icmp .ge 63, 3) := by decide +kernel
theorem d_Ver_loadAttribute_52 : decode prog_12_method_6_code 52 = .ok (.iload 8, 2) := by decide +kernel
theorem d_Ver_loadAttribute_54 : decode prog_12_method_6_code 54 = .ok (.iconst 3, 1) := by decide +kernel
theorem d_Ver_loadAttribute_55 : decode prog_12_method_6_code 55 = .ok (.if_icmp .ne 8, 3) := by decide +kernel
theorem d_Ver_loadAttribute_58 : decode prog_12_method_6_code 58 = .ok (.ldc 42, 2) := by decide +kernel
theorem d_Ver_loadAttribute_60 : decode prog_12_method_6_code 60 = .ok (.goto 4, 3) := by decide +kernel
theorem d_Ver_loadAttribute_63 : decode prog_12_method_6_code 63 = .ok (.iconst 0, 1) := by decide +kernel
theorem d_Ver_loadAttribute_64 : decode prog_12_method_6_code 64 = .ok (.istore 9, 2) := by decide +kernel
theorem d_Ver_loadAttribute_66 : decode prog_12_method_6_code 66 = .ok (.aload_n 3, 1) := by decide +kernel
theorem d_Ver_loadAttribute_67 : decode prog_12_method_6_code 67 = .ok (.bipush 64, 2) := by decide +kernel
theorem d_Ver_loadAttribute_69 : decode prog_12_method_6_code 69 = .ok (.iconst 4, 1) := by decide +kernel
theorem d_Ver_loadAttribute_70 : decode prog_12_method_6_code 70 = .ok (.iload_n 2, 1) := by decide +kernel
theorem d_Ver_loadAttribute_71 : decode prog_12_method_6_code 71 = .ok (.imul, 1) := by decide +kernel
theorem d_Ver_loadAttribute_72 : decode prog_12_method_6_code 72 = .ok (.iadd, 1) := by decide +kernel
theorem d_Ver_loadAttribute_73 : decode prog_12_method_6_code 73 = .ok (.iload 8, 2) := by decide +kernel
theorem d_Ver_loadAttribute_75 : decode prog_12_method_6_code 75 = .ok (.iadd, 1) := by decide +kernel
theorem d_Ver_loadAttribute_76 : decode prog_12_method_6_code 76 = .ok (.iload 8, 2) := by decide +kernel
theorem d_Ver_loadAttribute_78 : decode prog_12_method_6_code 78 = .ok (.iload 7, 2) := by decide +kernel
theorem d_Ver_loadAttribute_80 : decode prog_12_method_6_code 80 = .ok (.if_icmp .ge 23, 3) := by decide +kernel
theorem d_Ver_loadAttribute_83 : decode prog_12_method_6_code 83 = .ok (.aload_n 0, 1) := by decide +kernel
theorem d_Ver_loadAttribute_84 : decode prog_12_method_6_code 84 = .ok (.aload_n 0, 1) := by decide +kernel
theorem d_Ver_loadAttribute_85 : decode prog_12_method_6_code 85 = .ok (.getfield 20, 3) := by decide +kernel
theorem d_Ver_loadAttribute_88 : decode prog_12_method_6_code 88 = .ok (.iload 4, 2) := by decide +kernel
theorem d_Ver_loadAttribute_90 : decode prog_12_method_6_code 90 = .ok (.iconst 3, 1) := by decide +kernel
theorem d_Ver_loadAttribute_91 : decode prog_12_method_6_code 91 = .ok (.iadd, 1) := by decide +kernel
theorem d_Ver_loadAttribute_92 : decode prog_12_method_6_code 92 = .ok (.iaload, 1) := by decide +kernel
theorem d_Ver_loadAttribute_93 : decode prog_12_method_6_code 93 = .ok (.lload 5, 2) := by decide +kernel
theorem d_Ver_loadAttribute_95 : decode prog_12_method_6_code 95 = .ok (.iload 8, 2) := by decide +kernel
theorem d_Ver_loadAttribute_97 : decode prog_12_method_6_code 97 = .ok (.invokevirtual 43, 3) := by decide +kernel
theorem d_Ver_loadAttribute_100 : decode prog_12_method_6_code 100 = .ok (.goto 5, 3) := by decide +kernel
theorem d_Ver_loadAttribute_103 : decode prog_12_method_6_code 103 = .ok (.iload 9, 2) := by decide +kernel
theorem d_Ver_loadAttribute_105 : decode prog_12_method_6_code 105 = .ok (.iastore, 1) := by decide +kernel
theorem d_Ver_loadAttribute_106 : decode prog_12_method_6_code 106 = .ok (.iinc 8 1, 3) := by decide +kernel
theorem d_Ver_loadAttribute_109 : decode prog_12_method_6_code 109 = .ok (.goto (-63), 3) := by decide +kernel
theorem d_Ver_loadAttribute_112 : decode prog_12_method_6_code 112 = .ok (.return_, 1) := by decide +kernel
def F_Ver_loadAttribute_105 (rc_46 : Sg → Int32 → Nat → Int32 → Int64 → Int32 → Int32 → Option (Sg)) (σ : Sg) (v2 : Int32) (v3 : Nat) (v4 : Int32) (v5 : Int64) (v7 : Int32) (v8 : Int32) (s0 : Nat) (s1 : Int32) (s2 : Int32) : Option (Sg) := ck (v3 < 47) (ck (s0 < 47) (ck (inb s1 (lenC σ s0)) (lt (sA σ s0 (upd (σ.2.2.1 s0) s1.toNatClampNeg s2)) (fun σ15 => lt (v8 + 1) (fun y16 => rc_46 σ15 v2 v3 v4 v5 v7 y16)))))
set_option maxRecDepth 10000 in
set_option maxHeartbeats 4000000 in
theorem bt_Ver_loadAttribute_105 {p : Program} {l : Launch} {e : Env} {R : Room} {s : State} {m : MethodId} {args : Array Value} {below : List Frame} {meth : Method} {c : Code} {D : va_G} {τ : ClassId × ClassId × ClassId} {B : Nat} {A : Nat → Prop} {ad : Nat → Nat} (E : Cx p R s m args meth c prog_12_method_6_code 10 "DrawingMachine$Vertices" 2 D τ B A) (hret : meth.sig.returnType = none) (o : Sg) (rc_46 : Sg → Int32 → Nat → Int32 → Int64 → Int32 → Int32 → Option (Sg)) (hr_46 : ∀ (σ : Sg) (v2 : Int32) (v3 : Nat) (v4 : Int32) (v5 : Int64) (v7 : Int32) (v8 : Int32) (H : Heap) (locs : List Loc) (ls : Array Slot), rc_46 σ v2 v3 v4 v5 v7 v8 = some o → Wd s D A (wdC τ σ ad) H locs → lv_has ls 10 [(0, .ref (ad 64)), (2, .int v2), (3, .ref (ad v3)), (4, .int v4), (5, .long v5), (7, .int v7), (8, .int v8)] → W p l e R s m args below meth c H locs 0 0 (QV below args s A D τ (wdC τ o ad)) (F0 m 46 ls [])) (σ : Sg) (v2 : Int32) (v3 : Nat) (v4 : Int32) (v5 : Int64) (v7 : Int32) (v8 : Int32) (s0 : Nat) (s1 : Int32) (s2 : Int32) (h : F_Ver_loadAttribute_105 rc_46 σ v2 v3 v4 v5 v7 v8 s0 s1 s2 = some o) {H : Heap} {locs : List Loc} {ls : Array Slot} (w : Wd s D A (wdC τ σ ad) H locs) (hl : lv_has ls 10 [(0, .ref (ad 64)), (2, .int v2), (3, .ref (ad v3)), (4, .int v4), (5, .long v5), (7, .int v7), (8, .int v8)]) : W p l e R s m args below meth c H locs 0 0 (QV below args s A D τ (wdC τ o ad)) (F0 m 105 ls [.int s2, .int s1, .ref (ad s0)]) := by
  obtain ⟨c12, h⟩ := ck_some h
  obtain ⟨c13, h⟩ := ck_some h
  obtain ⟨c14, h⟩ := ck_some h
  obtain ⟨σ15, e_σ15, h⟩ := lt_some h
  refine iasC E w (k := s0) c13 c14 e_σ15 d_Ver_loadAttribute_105 (fun H locs w => ?_)
  obtain ⟨y16, e_y16, h⟩ := lt_some h
  refine lv_iinc (v := y16) (lv' := [(8, .int y16), (0, .ref (ad 64)), (2, .int v2), (3, .ref (ad v3)), (4, .int v4), (5, .long v5), (7, .int v7)]) E.x E.b d_Ver_loadAttribute_106 hl (k := 6) rfl (e_y16) (by decide) rfl (fun ls hl => ?_)
  refine lv_goto (tgt := 46) E.x E.b d_Ver_loadAttribute_109 (by decide) ?_
  exact hr_46 σ15 v2 v3 v4 v5 v7 y16 _ _ _ h w (lv_sub hl [1, 2, 3, 4, 5, 6, 0] rfl)
def F_Ver_loadAttribute_64 (rc_46 : Sg → Int32 → Nat → Int32 → Int64 → Int32 → Int32 → Option (Sg)) (σ : Sg) (v2 : Int32) (v3 : Nat) (v4 : Int32) (v5 : Int64) (v7 : Int32) (v8 : Int32) (s0 : Int32) : Option (Sg) := ck (v3 < 47) (if v7 ≤ v8 then (F_Ver_loadAttribute_105 rc_46 σ v2 v3 v4 v5 v7 v8 v3 ((64 + (4 * v2)) + v8) s0) else (ck (inb (v4 + 3) 245) (bd (F_Ver_part σ (σ.2.2.1 1 (v4 + 3).toNatClampNeg) v5 v8) (fun o19 => F_Ver_loadAttribute_105 rc_46 σ v2 v3 v4 v5 v7 v8 v3 ((64 + (4 * v2)) + v8) o19))))
set_option maxRecDepth 10000 in
set_option maxHeartbeats 4000000 in
theorem bt_Ver_loadAttribute_64 {p : Program} {l : Launch} {e : Env} {R : Room} {s : State} {m : MethodId} {args : Array Value} {below : List Frame} {meth : Method} {c : Code} {D : va_G} {τ : ClassId × ClassId × ClassId} {B : Nat} {A : Nat → Prop} {ad : Nat → Nat} (E : Cx p R s m args meth c prog_12_method_6_code 10 "DrawingMachine$Vertices" 2 D τ B A) (hret : meth.sig.returnType = none) (o : Sg) (rc_46 : Sg → Int32 → Nat → Int32 → Int64 → Int32 → Int32 → Option (Sg)) (hr_46 : ∀ (σ : Sg) (v2 : Int32) (v3 : Nat) (v4 : Int32) (v5 : Int64) (v7 : Int32) (v8 : Int32) (H : Heap) (locs : List Loc) (ls : Array Slot), rc_46 σ v2 v3 v4 v5 v7 v8 = some o → Wd s D A (wdC τ σ ad) H locs → lv_has ls 10 [(0, .ref (ad 64)), (2, .int v2), (3, .ref (ad v3)), (4, .int v4), (5, .long v5), (7, .int v7), (8, .int v8)] → W p l e R s m args below meth c H locs 0 0 (QV below args s A D τ (wdC τ o ad)) (F0 m 46 ls [])) (σ : Sg) (v2 : Int32) (v3 : Nat) (v4 : Int32) (v5 : Int64) (v7 : Int32) (v8 : Int32) (s0 : Int32) (h : F_Ver_loadAttribute_64 rc_46 σ v2 v3 v4 v5 v7 v8 s0 = some o) {H : Heap} {locs : List Loc} {ls : Array Slot} (w : Wd s D A (wdC τ σ ad) H locs) (hl : lv_has ls 10 [(0, .ref (ad 64)), (2, .int v2), (3, .ref (ad v3)), (4, .int v4), (5, .long v5), (7, .int v7), (8, .int v8)]) : W p l e R s m args below meth c H locs 0 0 (QV below args s A D τ (wdC τ o ad)) (F0 m 64 ls [.int s0]) := by
  obtain ⟨c17, h⟩ := ck_some h
  refine lv_istore (lv' := [(9, .int s0), (0, .ref (ad 64)), (2, .int v2), (3, .ref (ad v3)), (4, .int v4), (5, .long v5), (7, .int v7), (8, .int v8)]) E.x E.b d_Ver_loadAttribute_64 hl (by decide) rfl (fun ls hl => ?_)
  refine lv_aload_n E.x E.b d_Ver_loadAttribute_66 rfl (lv_at hl 3 rfl) ?_
  refine lv_bipush (v := 64) E.x E.b d_Ver_loadAttribute_67 (by decide) ?_
  refine lv_iconst (v := 4) E.x E.b d_Ver_loadAttribute_69 (by decide) ?_
  refine lv_iload_n E.x E.b d_Ver_loadAttribute_70 rfl (lv_at hl 2 rfl) ?_
  refine lv_imul E.x E.b d_Ver_loadAttribute_71 ?_
  refine lv_iadd E.x E.b d_Ver_loadAttribute_72 ?_
  refine lv_iload E.x E.b d_Ver_loadAttribute_73 (lv_at hl 7 rfl) ?_
  refine lv_iadd E.x E.b d_Ver_loadAttribute_75 ?_
  refine lv_iload E.x E.b d_Ver_loadAttribute_76 (lv_at hl 7 rfl) ?_
  refine lv_iload E.x E.b d_Ver_loadAttribute_78 (lv_at hl 6 rfl) ?_
  refine lv_icmp_ge (tgt := 103) E.x E.b d_Ver_loadAttribute_80 (by decide) (fun c => ?_) (fun c => ?_)
  ·
    replace h := ifT c h
    refine lv_iload E.x E.b d_Ver_loadAttribute_103 (lv_at hl 0 rfl) ?_
    exact bt_Ver_loadAttribute_105 E hret o rc_46 hr_46 σ v2 v3 v4 v5 v7 v8 v3 ((64 + (4 * v2)) + v8) s0 h w (lv_sub hl [1, 2, 3, 4, 5, 6, 7] rfl)
  ·
    replace h := ifF c h
    refine lv_aload_n E.x E.b d_Ver_loadAttribute_83 rfl (lv_at hl 1 rfl) ?_
    refine lv_aload_n E.x E.b d_Ver_loadAttribute_84 rfl (lv_at hl 1 rfl) ?_
    refine gC_Ver_kept E w k272 d_Ver_loadAttribute_85 ?_
    refine lv_iload E.x E.b d_Ver_loadAttribute_88 (lv_at hl 4 rfl) ?_
    refine lv_iconst (v := 3) E.x E.b d_Ver_loadAttribute_90 (by decide) ?_
    refine lv_iadd E.x E.b d_Ver_loadAttribute_91 ?_
    obtain ⟨c18, h⟩ := ck_some h
    refine ialC E w (k := 1) (by decide) c18 d_Ver_loadAttribute_92 ?_
    refine lv_lload E.x E.b d_Ver_loadAttribute_93 (lv_at hl 5 rfl) ?_
    refine lv_iload E.x E.b d_Ver_loadAttribute_95 (lv_at hl 7 rfl) ?_
    obtain ⟨o19, h_o19, h⟩ := bd_some h
    refine clV_Ver_part E w (x0 := (σ.2.2.1 1 (v4 + 3).toNatClampNeg)) (x1 := v5) (x2 := v8) h_o19 k1020 (by decide) hl.1 (Nat.le_of_ble_eq_true rfl) d_Ver_loadAttribute_97 (fun H locs w => ?_)
    refine lv_goto (tgt := 105) E.x E.b d_Ver_loadAttribute_100 (by decide) ?_
    exact bt_Ver_loadAttribute_105 E hret o rc_46 hr_46 σ v2 v3 v4 v5 v7 v8 v3 ((64 + (4 * v2)) + v8) o19 h w (lv_sub hl [1, 2, 3, 4, 5, 6, 7] rfl)
def L_Ver_loadAttribute_46 : Nat → Sg → Int32 → Nat → Int32 → Int64 → Int32 → Int32 → Option (Sg)
  | 0, _, _, _, _, _, _, _ => none
  | n + 1, σ, v2, v3, v4, v5, v7, v8 => ck (v3 < 47) (if 4 ≤ v8 then (some σ) else (if v8 = 3 then (F_Ver_loadAttribute_64 (L_Ver_loadAttribute_46 n) σ v2 v3 v4 v5 v7 v8 65536) else (F_Ver_loadAttribute_64 (L_Ver_loadAttribute_46 n) σ v2 v3 v4 v5 v7 v8 0)))
set_option maxRecDepth 10000 in
set_option maxHeartbeats 4000000 in
theorem lt_Ver_loadAttribute_46 {p : Program} {l : Launch} {e : Env} {R : Room} {s : State} {m : MethodId} {args : Array Value} {below : List Frame} {meth : Method} {c : Code} {D : va_G} {τ : ClassId × ClassId × ClassId} {B : Nat} {A : Nat → Prop} {ad : Nat → Nat} (E : Cx p R s m args meth c prog_12_method_6_code 10 "DrawingMachine$Vertices" 2 D τ B A) (hret : meth.sig.returnType = none) (o : Sg) : ∀ (n : Nat) (σ : Sg) (v2 : Int32) (v3 : Nat) (v4 : Int32) (v5 : Int64) (v7 : Int32) (v8 : Int32) (H : Heap) (locs : List Loc) (ls : Array Slot), L_Ver_loadAttribute_46 n σ v2 v3 v4 v5 v7 v8 = some o → Wd s D A (wdC τ σ ad) H locs → lv_has ls 10 [(0, .ref (ad 64)), (2, .int v2), (3, .ref (ad v3)), (4, .int v4), (5, .long v5), (7, .int v7), (8, .int v8)] → W p l e R s m args below meth c H locs 0 0 (QV below args s A D τ (wdC τ o ad)) (F0 m 46 ls []) := by
  intro n
  induction n with
  | zero =>
    intro σ v2 v3 v4 v5 v7 v8 H locs ls h w hl
    cases h
  | succ n hr_46 =>
    intro σ v2 v3 v4 v5 v7 v8 H locs ls h w hl
    obtain ⟨c20, h⟩ := ck_some h
    refine lv_iload E.x E.b d_Ver_loadAttribute_46 (lv_at hl 6 rfl) ?_
    refine lv_iconst (v := 4) E.x E.b d_Ver_loadAttribute_48 (by decide) ?_
    refine lv_icmp_ge (tgt := 112) E.x E.b d_Ver_loadAttribute_49 (by decide) (fun c => ?_) (fun c => ?_)
    ·
      replace h := ifT c h
      obtain rfl := Option.some.inj h
      exact rt_v E w hret d_Ver_loadAttribute_112
    ·
      replace h := ifF c h
      refine lv_iload E.x E.b d_Ver_loadAttribute_52 (lv_at hl 6 rfl) ?_
      refine lv_iconst (v := 3) E.x E.b d_Ver_loadAttribute_54 (by decide) ?_
      refine lv_icmp_ne (tgt := 63) E.x E.b d_Ver_loadAttribute_55 (by decide) (fun c => ?_) (fun c => ?_)
      ·
        replace h := ifF c h
        refine lv_iconst (v := 0) E.x E.b d_Ver_loadAttribute_63 (by decide) ?_
        exact bt_Ver_loadAttribute_64 E hret o (L_Ver_loadAttribute_46 n) hr_46 σ v2 v3 v4 v5 v7 v8 0 h w (lv_sub hl [0, 1, 2, 3, 4, 5, 6] rfl)
      ·
        replace h := ifT c h
        refine lv_ldc (v := 65536) E.x E.b E.o (E.w _ k1019) d_Ver_loadAttribute_58 ?_
        refine lv_goto (tgt := 64) E.x E.b d_Ver_loadAttribute_60 (by decide) ?_
        exact bt_Ver_loadAttribute_64 E hret o (L_Ver_loadAttribute_46 n) hr_46 σ v2 v3 v4 v5 v7 v8 65536 h w (lv_sub hl [0, 1, 2, 3, 4, 5, 6] rfl)
def F_Ver_loadAttribute (σ : Sg) (x0 : Int32) (x1 : Int32) (ar2 : Nat) : Option (Sg) := ck (ar2 < 47) (lt (10 + (4 * x1)) (fun y22 => ck (inb y22 245) (ck (inb (y22 + 1) 245) (lt (((σ.2.2.1 1 y22.toNatClampNeg).toInt64) + (x0.toInt64 * ((σ.2.2.1 1 (y22 + 1).toNatClampNeg).toInt64))) (fun y25 => ck (inb (y22 + 2) 245) (lt (σ.2.2.1 1 (y22 + 2).toNatClampNeg) (fun y27 => L_Ver_loadAttribute_46 100000 σ x1 ar2 y22 y25 y27 0)))))))
set_option maxRecDepth 10000 in
set_option maxHeartbeats 4000000 in
theorem c_Ver_loadAttribute (l : Launch) (D : va_G) (τ : ClassId × ClassId × ClassId) (B : Nat) (σ : Sg) (ad : Nat → Nat) (x0 : Int32) (x1 : Int32) (ar2 : Nat) (o : Sg) (h : F_Ver_loadAttribute σ x0 x1 ar2 = some o) : MV l y_Ver_loadAttribute (Cond.code y_Ver_loadAttribute prog_12_method_6_code 10 none) 2 D τ B [.ref (ad 64), .int x0, .int x1, .ref (ad ar2)] (wdC τ σ ad) (wdC τ o ad) := by
  refine en_v (by decide) (Nat.le_of_ble_eq_true rfl) ?_
  intro p e R s m args below meth c H locs ls A E hret w hl
  have E : Cx p R s m args meth c prog_12_method_6_code 10 "DrawingMachine$Vertices" 2 D τ B A := E
  have hl : lv_has ls 10 [(0, .ref (ad 64)), (1, .int x0), (2, .int x1), (3, .ref (ad ar2))] := hl
  obtain ⟨c21, h⟩ := ck_some h
  refine lv_bipush (v := 10) E.x E.b d_Ver_loadAttribute_0 (by decide) ?_
  refine lv_iconst (v := 4) E.x E.b d_Ver_loadAttribute_2 (by decide) ?_
  refine lv_iload_n E.x E.b d_Ver_loadAttribute_3 rfl (lv_at hl 2 rfl) ?_
  refine lv_imul E.x E.b d_Ver_loadAttribute_4 ?_
  refine lv_iadd E.x E.b d_Ver_loadAttribute_5 ?_
  obtain ⟨y22, e_y22, h⟩ := lt_some h
  refine wi_e (v := y22) e_y22 ?_
  refine lv_istore (lv' := [(4, .int y22), (0, .ref (ad 64)), (1, .int x0), (2, .int x1), (3, .ref (ad ar2))]) E.x E.b d_Ver_loadAttribute_6 hl (by decide) rfl (fun ls hl => ?_)
  refine lv_aload_n E.x E.b d_Ver_loadAttribute_8 rfl (lv_at hl 1 rfl) ?_
  refine gC_Ver_kept E w k272 d_Ver_loadAttribute_9 ?_
  refine lv_iload E.x E.b d_Ver_loadAttribute_12 (lv_at hl 0 rfl) ?_
  obtain ⟨c23, h⟩ := ck_some h
  refine ialC E w (k := 1) (by decide) c23 d_Ver_loadAttribute_14 ?_
  refine lv_i2l (v := (σ.2.2.1 1 y22.toNatClampNeg).toInt64) E.x E.b d_Ver_loadAttribute_15 rfl ?_
  refine lv_iload_n E.x E.b d_Ver_loadAttribute_16 rfl (lv_at hl 2 rfl) ?_
  refine lv_i2l (v := x0.toInt64) E.x E.b d_Ver_loadAttribute_17 rfl ?_
  refine lv_aload_n E.x E.b d_Ver_loadAttribute_18 rfl (lv_at hl 1 rfl) ?_
  refine gC_Ver_kept E w k272 d_Ver_loadAttribute_19 ?_
  refine lv_iload E.x E.b d_Ver_loadAttribute_22 (lv_at hl 0 rfl) ?_
  refine lv_iconst (v := 1) E.x E.b d_Ver_loadAttribute_24 (by decide) ?_
  refine lv_iadd E.x E.b d_Ver_loadAttribute_25 ?_
  obtain ⟨c24, h⟩ := ck_some h
  refine ialC E w (k := 1) (by decide) c24 d_Ver_loadAttribute_26 ?_
  refine lv_i2l (v := (σ.2.2.1 1 (y22 + 1).toNatClampNeg).toInt64) E.x E.b d_Ver_loadAttribute_27 rfl ?_
  refine lv_lmul E.x E.b d_Ver_loadAttribute_28 ?_
  refine lv_ladd E.x E.b d_Ver_loadAttribute_29 ?_
  obtain ⟨y25, e_y25, h⟩ := lt_some h
  refine wl_e (v := y25) e_y25 ?_
  refine lv_lstore (lv' := [(5, .long y25), (4, .int y22), (0, .ref (ad 64)), (1, .int x0), (2, .int x1), (3, .ref (ad ar2))]) E.x E.b d_Ver_loadAttribute_30 hl (by decide) rfl (fun ls hl => ?_)
  refine lv_aload_n E.x E.b d_Ver_loadAttribute_32 rfl (lv_at hl 2 rfl) ?_
  refine gC_Ver_kept E w k272 d_Ver_loadAttribute_33 ?_
  refine lv_iload E.x E.b d_Ver_loadAttribute_36 (lv_at hl 1 rfl) ?_
  refine lv_iconst (v := 2) E.x E.b d_Ver_loadAttribute_38 (by decide) ?_
  refine lv_iadd E.x E.b d_Ver_loadAttribute_39 ?_
  obtain ⟨c26, h⟩ := ck_some h
  refine ialC E w (k := 1) (by decide) c26 d_Ver_loadAttribute_40 ?_
  obtain ⟨y27, e_y27, h⟩ := lt_some h
  refine wi_e (v := y27) e_y27 ?_
  refine lv_istore (lv' := [(7, .int y27), (5, .long y25), (4, .int y22), (0, .ref (ad 64)), (1, .int x0), (2, .int x1), (3, .ref (ad ar2))]) E.x E.b d_Ver_loadAttribute_41 hl (by decide) rfl (fun ls hl => ?_)
  refine lv_iconst (v := 0) E.x E.b d_Ver_loadAttribute_43 (by decide) ?_
  refine lv_istore (lv' := [(8, .int 0), (7, .int y27), (5, .long y25), (4, .int y22), (0, .ref (ad 64)), (1, .int x0), (2, .int x1), (3, .ref (ad ar2))]) E.x E.b d_Ver_loadAttribute_44 hl (by decide) rfl (fun ls hl => ?_)
  exact lt_Ver_loadAttribute_46 E hret o 100000 σ x1 ar2 y22 y25 y27 0 _ _ _ h w (lv_sub hl [4, 6, 7, 3, 2, 1, 0] rfl)
theorem clV_Ver_loadAttribute {p : Program} {l : Launch} {e : Env} {R : Room} {s : State} {m : MethodId} {args : Array Value} {below : List Frame} {meth : Method} {c : Code} {H : Heap} {locs : List Loc} {Q : State → Prop} {cc : ByteArray} {nL pc lev : Nat} {own : String} {D : va_G} {τ : ClassId × ClassId × ClassId} {B : Nat} {A : Nat → Prop} {σ : Sg} {ad : Nat → Nat} {ls : Array Slot} {rest : List Value} (E : Cx p R s m args meth c cc nL own lev D τ B A) (w : Wd s D A (wdC τ σ ad) H locs) {x0 : Int32} {x1 : Int32} {ar2 : Nat} {o : Sg} (h : F_Ver_loadAttribute σ x0 x1 ar2 = some o) {index : Nat} (hlk : Cond.methodLink own index y_Ver_loadAttribute ∈ tw) (hlev : 2 < lev) (hsz : ls.size = nL) (hr : (rest.map fun v => v.category).sum ≤ 8) (hd : decode cc pc = .ok (.invokevirtual index, 3)) (kk : ∀ (H1 : Heap) (locs1 : List Loc), Wd s D A (wdC τ o ad) H1 locs1 → W p l e R s m args below meth c H1 locs1 0 0 Q (F0 m (pc + 3) ls (rest))) : W p l e R s m args below meth c H locs 0 0 Q (F0 m pc ls (.ref (ad ar2) :: .int x1 :: .int x0 :: .ref (ad 64) :: rest)) :=
  cr_v w E.C (va_runV (As := [.int x0, .int x1, .ref (ad ar2)]) (rest := rest) E.fix (c_Ver_loadAttribute l D τ B σ ad x0 x1 ar2 o h H.size) (cwV 3 E.w (tw_pre (tw_good k1018) (l := [_, _, _, _]) (List.forall_mem_cons.mpr ⟨hlk, List.forall_mem_cons.mpr ⟨k1017, List.forall_mem_cons.mpr ⟨ks10, List.forall_mem_cons.mpr ⟨k10, fun _ h => absurd h List.not_mem_nil⟩⟩⟩⟩)) rfl rfl rfl (by decide +kernel) (E.rm hlev (by decide))) (wd_preV w E.C [.int x0, .int x1, .ref (ad ar2)] rcC_Ver rfl) rfl rfl hsz rfl (lv_room hr) hd ⟨Nat.zero_le _, Nat.zero_le _⟩) kk

theorem d_Ver_load_0 : decode prog_12_method_5_code 0 = .ok (.iconst 0, 1) := by decide +kernel
theorem d_Ver_load_1 : decode prog_12_method_5_code 1 = .ok (.istore 4, 2) := by decide +kernel
theorem d_Ver_load_3 : decode prog_12_method_5_code 3 = .ok (.iload 4, 2) := by decide +kernel
theorem d_Ver_load_5 : decode prog_12_method_5_code 5 = .ok (.bipush 8, 2) := by decide +kernel
theorem d_Ver_load_7 : decode prog_12_method_5_code 7 = .ok (.if_icmp .ge 26, 3) := by decide +kernel
theorem d_Ver_load_10 : decode prog_12_method_5_code 10 = .ok (.aload_n 2, 1) := by decide +kernel
theorem d_Ver_load_11 : decode prog_12_method_5_code 11 = .ok (.iload 4, 2) := by decide +kernel
theorem d_Ver_load_13 : decode prog_12_method_5_code 13 = .ok (.invokevirtual 32, 3) := by decide +kernel
theorem d_Ver_load_16 : decode prog_12_method_5_code 16 = .ok (.ifCond .eq 11, 3) := by decide +kernel
theorem d_Ver_load_19 : decode prog_12_method_5_code 19 = .ok (.aload_n 0, 1) := by decide +kernel
theorem d_Ver_load_20 : decode prog_12_method_5_code 20 = .ok (.iload_n 1, 1) := by decide +kernel
theorem d_Ver_load_21 : decode prog_12_method_5_code 21 = .ok (.iload 4, 2) := by decide +kernel
theorem d_Ver_load_23 : decode prog_12_method_5_code 23 = .ok (.aload_n 3, 1) := by decide +kernel
theorem d_Ver_load_24 : decode prog_12_method_5_code 24 = .ok (.invokevirtual 38, 3) := by decide +kernel
theorem d_Ver_load_27 : decode prog_12_method_5_code 27 = .ok (.iinc 4 1, 3) := by decide +kernel
theorem d_Ver_load_30 : decode prog_12_method_5_code 30 = .ok (.goto (-27), 3) := by decide +kernel
theorem d_Ver_load_33 : decode prog_12_method_5_code 33 = .ok (.return_, 1) := by decide +kernel
def F_Ver_load_27 (rc_3 : Sg → Int32 → Nat → Nat → Int32 → Option (Sg)) (σ : Sg) (v1 : Int32) (v2 : Nat) (v3 : Nat) (v4 : Int32) : Option (Sg) := ck (v2 < 3) (ck (v3 < 47) (lt (v4 + 1) (fun y6 => rc_3 σ v1 v2 v3 y6)))
set_option maxRecDepth 10000 in
set_option maxHeartbeats 4000000 in
theorem bt_Ver_load_27 {p : Program} {l : Launch} {e : Env} {R : Room} {s : State} {m : MethodId} {args : Array Value} {below : List Frame} {meth : Method} {c : Code} {D : va_G} {τ : ClassId × ClassId × ClassId} {B : Nat} {A : Nat → Prop} {ad : Nat → Nat} (E : Cx p R s m args meth c prog_12_method_5_code 5 "DrawingMachine$Vertices" 3 D τ B A) (hret : meth.sig.returnType = none) (o : Sg) (rc_3 : Sg → Int32 → Nat → Nat → Int32 → Option (Sg)) (hr_3 : ∀ (σ : Sg) (v1 : Int32) (v2 : Nat) (v3 : Nat) (v4 : Int32) (H : Heap) (locs : List Loc) (ls : Array Slot), rc_3 σ v1 v2 v3 v4 = some o → Wd s D A (wdC τ σ ad) H locs → lv_has ls 5 [(0, .ref (ad 64)), (1, .int v1), (2, .ref (ad (67 + v2))), (3, .ref (ad v3)), (4, .int v4)] → W p l e R s m args below meth c H locs 0 0 (QV below args s A D τ (wdC τ o ad)) (F0 m 3 ls [])) (σ : Sg) (v1 : Int32) (v2 : Nat) (v3 : Nat) (v4 : Int32) (h : F_Ver_load_27 rc_3 σ v1 v2 v3 v4 = some o) {H : Heap} {locs : List Loc} {ls : Array Slot} (w : Wd s D A (wdC τ σ ad) H locs) (hl : lv_has ls 5 [(0, .ref (ad 64)), (1, .int v1), (2, .ref (ad (67 + v2))), (3, .ref (ad v3)), (4, .int v4)]) : W p l e R s m args below meth c H locs 0 0 (QV below args s A D τ (wdC τ o ad)) (F0 m 27 ls []) := by
  obtain ⟨c4, h⟩ := ck_some h
  obtain ⟨c5, h⟩ := ck_some h
  obtain ⟨y6, e_y6, h⟩ := lt_some h
  refine lv_iinc (v := y6) (lv' := [(4, .int y6), (0, .ref (ad 64)), (1, .int v1), (2, .ref (ad (67 + v2))), (3, .ref (ad v3))]) E.x E.b d_Ver_load_27 hl (k := 4) rfl (e_y6) (by decide) rfl (fun ls hl => ?_)
  refine lv_goto (tgt := 3) E.x E.b d_Ver_load_30 (by decide) ?_
  exact hr_3 σ v1 v2 v3 y6 _ _ _ h w (lv_sub hl [1, 2, 3, 4, 0] rfl)
def L_Ver_load_3 : Nat → Sg → Int32 → Nat → Nat → Int32 → Option (Sg)
  | 0, _, _, _, _, _ => none
  | n + 1, σ, v1, v2, v3, v4 => ck (v2 < 3) (ck (v3 < 47) (if 8 ≤ v4 then (some σ) else (bd (F_Prg_readsIn σ v2 v4) (fun o9 => if o9 = 0 then (F_Ver_load_27 (L_Ver_load_3 n) σ v1 v2 v3 v4) else (bd (F_Ver_loadAttribute σ v1 v4 v3) (fun o10 => F_Ver_load_27 (L_Ver_load_3 n) o10 v1 v2 v3 v4))))))
set_option maxRecDepth 10000 in
set_option maxHeartbeats 4000000 in
theorem lt_Ver_load_3 {p : Program} {l : Launch} {e : Env} {R : Room} {s : State} {m : MethodId} {args : Array Value} {below : List Frame} {meth : Method} {c : Code} {D : va_G} {τ : ClassId × ClassId × ClassId} {B : Nat} {A : Nat → Prop} {ad : Nat → Nat} (E : Cx p R s m args meth c prog_12_method_5_code 5 "DrawingMachine$Vertices" 3 D τ B A) (hret : meth.sig.returnType = none) (o : Sg) : ∀ (n : Nat) (σ : Sg) (v1 : Int32) (v2 : Nat) (v3 : Nat) (v4 : Int32) (H : Heap) (locs : List Loc) (ls : Array Slot), L_Ver_load_3 n σ v1 v2 v3 v4 = some o → Wd s D A (wdC τ σ ad) H locs → lv_has ls 5 [(0, .ref (ad 64)), (1, .int v1), (2, .ref (ad (67 + v2))), (3, .ref (ad v3)), (4, .int v4)] → W p l e R s m args below meth c H locs 0 0 (QV below args s A D τ (wdC τ o ad)) (F0 m 3 ls []) := by
  intro n
  induction n with
  | zero =>
    intro σ v1 v2 v3 v4 H locs ls h w hl
    cases h
  | succ n hr_3 =>
    intro σ v1 v2 v3 v4 H locs ls h w hl
    obtain ⟨c7, h⟩ := ck_some h
    obtain ⟨c8, h⟩ := ck_some h
    refine lv_iload E.x E.b d_Ver_load_3 (lv_at hl 4 rfl) ?_
    refine lv_bipush (v := 8) E.x E.b d_Ver_load_5 (by decide) ?_
    refine lv_icmp_ge (tgt := 33) E.x E.b d_Ver_load_7 (by decide) (fun c => ?_) (fun c => ?_)
    ·
      replace h := ifT c h
      obtain rfl := Option.some.inj h
      exact rt_v E w hret d_Ver_load_33
    ·
      replace h := ifF c h
      refine lv_aload_n E.x E.b d_Ver_load_10 rfl (lv_at hl 2 rfl) ?_
      refine lv_iload E.x E.b d_Ver_load_11 (lv_at hl 4 rfl) ?_
      obtain ⟨o9, h_o9, h⟩ := bd_some h
      refine clV_Prg_readsIn E w (p0 := v2) (x0 := v4) h_o9 k1011 (by decide) hl.1 (Nat.le_of_ble_eq_true rfl) d_Ver_load_13 (fun H locs w => ?_)
      refine lv_if_eq (tgt := 27) E.x E.b d_Ver_load_16 (by decide) (fun c => ?_) (fun c => ?_)
      ·
        replace h := ifT c h
        exact bt_Ver_load_27 E hret o (L_Ver_load_3 n) hr_3 σ v1 v2 v3 v4 h w (lv_sub hl [0, 1, 2, 3, 4] rfl)
      ·
        replace h := ifF c h
        refine lv_aload_n E.x E.b d_Ver_load_19 rfl (lv_at hl 0 rfl) ?_
        refine lv_iload_n E.x E.b d_Ver_load_20 rfl (lv_at hl 1 rfl) ?_
        refine lv_iload E.x E.b d_Ver_load_21 (lv_at hl 4 rfl) ?_
        refine lv_aload_n E.x E.b d_Ver_load_23 rfl (lv_at hl 3 rfl) ?_
        obtain ⟨o10, h_o10, h⟩ := bd_some h
        refine clV_Ver_loadAttribute E w (x0 := v1) (x1 := v4) (ar2 := v3) h_o10 k1015 (by decide) hl.1 (Nat.le_of_ble_eq_true rfl) d_Ver_load_24 (fun H locs w => ?_)
        exact bt_Ver_load_27 E hret o (L_Ver_load_3 n) hr_3 o10 v1 v2 v3 v4 h w (lv_sub hl [0, 1, 2, 3, 4] rfl)
def F_Ver_load (σ : Sg) (x0 : Int32) (p2 : Nat) (ar2 : Nat) : Option (Sg) := ck (p2 < 3) (ck (ar2 < 47) (L_Ver_load_3 100000 σ x0 p2 ar2 0))
set_option maxRecDepth 10000 in
set_option maxHeartbeats 4000000 in
theorem c_Ver_load (l : Launch) (D : va_G) (τ : ClassId × ClassId × ClassId) (B : Nat) (σ : Sg) (ad : Nat → Nat) (x0 : Int32) (p2 : Nat) (ar2 : Nat) (o : Sg) (h : F_Ver_load σ x0 p2 ar2 = some o) : MV l y_Ver_load (Cond.code y_Ver_load prog_12_method_5_code 5 none) 3 D τ B [.ref (ad 64), .int x0, .ref (ad (67 + p2)), .ref (ad ar2)] (wdC τ σ ad) (wdC τ o ad) := by
  refine en_v (by decide) (Nat.le_of_ble_eq_true rfl) ?_
  intro p e R s m args below meth c H locs ls A E hret w hl
  have E : Cx p R s m args meth c prog_12_method_5_code 5 "DrawingMachine$Vertices" 3 D τ B A := E
  have hl : lv_has ls 5 [(0, .ref (ad 64)), (1, .int x0), (2, .ref (ad (67 + p2))), (3, .ref (ad ar2))] := hl
  obtain ⟨c11, h⟩ := ck_some h
  obtain ⟨c12, h⟩ := ck_some h
  refine lv_iconst (v := 0) E.x E.b d_Ver_load_0 (by decide) ?_
  refine lv_istore (lv' := [(4, .int 0), (0, .ref (ad 64)), (1, .int x0), (2, .ref (ad (67 + p2))), (3, .ref (ad ar2))]) E.x E.b d_Ver_load_1 hl (by decide) rfl (fun ls hl => ?_)
  exact lt_Ver_load_3 E hret o 100000 σ x0 p2 ar2 0 _ _ _ h w (lv_sub hl [1, 2, 3, 4, 0] rfl)
theorem clV_Ver_load {p : Program} {l : Launch} {e : Env} {R : Room} {s : State} {m : MethodId} {args : Array Value} {below : List Frame} {meth : Method} {c : Code} {H : Heap} {locs : List Loc} {Q : State → Prop} {cc : ByteArray} {nL pc lev : Nat} {own : String} {D : va_G} {τ : ClassId × ClassId × ClassId} {B : Nat} {A : Nat → Prop} {σ : Sg} {ad : Nat → Nat} {ls : Array Slot} {rest : List Value} (E : Cx p R s m args meth c cc nL own lev D τ B A) (w : Wd s D A (wdC τ σ ad) H locs) {x0 : Int32} {p2 : Nat} {ar2 : Nat} {o : Sg} (h : F_Ver_load σ x0 p2 ar2 = some o) {index : Nat} (hlk : Cond.methodLink own index y_Ver_load ∈ tw) (hlev : 3 < lev) (hsz : ls.size = nL) (hr : (rest.map fun v => v.category).sum ≤ 8) (hd : decode cc pc = .ok (.invokevirtual index, 3)) (kk : ∀ (H1 : Heap) (locs1 : List Loc), Wd s D A (wdC τ o ad) H1 locs1 → W p l e R s m args below meth c H1 locs1 0 0 Q (F0 m (pc + 3) ls (rest))) : W p l e R s m args below meth c H locs 0 0 Q (F0 m pc ls (.ref (ad ar2) :: .ref (ad (67 + p2)) :: .int x0 :: .ref (ad 64) :: rest)) :=
  cr_v w E.C (va_runV (As := [.int x0, .ref (ad (67 + p2)), .ref (ad ar2)]) (rest := rest) E.fix (c_Ver_load l D τ B σ ad x0 p2 ar2 o h H.size) (cwV 3 E.w (tw_pre (tw_good k1010) (l := [_, _, _, _]) (List.forall_mem_cons.mpr ⟨hlk, List.forall_mem_cons.mpr ⟨k1008, List.forall_mem_cons.mpr ⟨k1009, List.forall_mem_cons.mpr ⟨k10, fun _ h => absurd h List.not_mem_nil⟩⟩⟩⟩)) rfl rfl rfl (by decide +kernel) (E.rm hlev (by decide))) (wd_preV w E.C [.int x0, .ref (ad (67 + p2)), .ref (ad ar2)] rcC_Ver rfl) rfl rfl hsz rfl (lv_room hr) hd ⟨Nat.zero_le _, Nat.zero_le _⟩) kk

theorem d_Ver_orderOf_0 : decode prog_12_method_3_code 0 = .ok (.iload_n 0, 1) := by decide +kernel
theorem d_Ver_orderOf_1 : decode prog_12_method_3_code 1 = .ok (.lookupswitch 57 #[(0, 27), (1, 33)], 27) := by decide +kernel
theorem d_Ver_orderOf_28 : decode prog_12_method_3_code 28 = .ok (.iconst 3, 1) := by decide +kernel
theorem d_Ver_orderOf_29 : decode prog_12_method_3_code 29 = .ok (.iload_n 1, 1) := by decide +kernel
theorem d_Ver_orderOf_30 : decode prog_12_method_3_code 30 = .ok (.imul, 1) := by decide +kernel
theorem d_Ver_orderOf_31 : decode prog_12_method_3_code 31 = .ok (.iload_n 2, 1) := by decide +kernel
theorem d_Ver_orderOf_32 : decode prog_12_method_3_code 32 = .ok (.iadd, 1) := by decide +kernel
theorem d_Ver_orderOf_33 : decode prog_12_method_3_code 33 = .ok (.ireturn, 1) := by decide +kernel
theorem d_Ver_orderOf_34 : decode prog_12_method_3_code 34 = .ok (.iload_n 1, 1) := by decide +kernel
theorem d_Ver_orderOf_35 : decode prog_12_method_3_code 35 = .ok (.iconst 2, 1) := by decide +kernel
theorem d_Ver_orderOf_36 : decode prog_12_method_3_code 36 = .ok (.irem, 1) := by decide +kernel
theorem d_Ver_orderOf_37 : decode prog_12_method_3_code 37 = .ok (.iconst 1, 1) := by decide +kernel
theorem d_Ver_orderOf_38 : decode prog_12_method_3_code 38 = .ok (.if_icmp .ne 16, 3) := by decide +kernel
theorem d_Ver_orderOf_41 : decode prog_12_method_3_code 41 = .ok (.iload_n 2, 1) := by decide +kernel
theorem d_Ver_orderOf_42 : decode prog_12_method_3_code 42 = .ok (.iconst 2, 1) := by decide +kernel
theorem d_Ver_orderOf_43 : decode prog_12_method_3_code 43 = .ok (.if_icmp .ge 11, 3) := by decide +kernel
theorem d_Ver_orderOf_46 : decode prog_12_method_3_code 46 = .ok (.iload_n 1, 1) := by decide +kernel
theorem d_Ver_orderOf_47 : decode prog_12_method_3_code 47 = .ok (.iconst 1, 1) := by decide +kernel
theorem d_Ver_orderOf_48 : decode prog_12_method_3_code 48 = .ok (.iadd, 1) := by decide +kernel
theorem d_Ver_orderOf_49 : decode prog_12_method_3_code 49 = .ok (.iload_n 2, 1) := by decide +kernel
theorem d_Ver_orderOf_50 : decode prog_12_method_3_code 50 = .ok (.isub, 1) := by decide +kernel
theorem d_Ver_orderOf_51 : decode prog_12_method_3_code 51 = .ok (.goto 6, 3) := by decide +kernel
theorem d_Ver_orderOf_54 : decode prog_12_method_3_code 54 = .ok (.iload_n 1, 1) := by decide +kernel
theorem d_Ver_orderOf_55 : decode prog_12_method_3_code 55 = .ok (.iload_n 2, 1) := by decide +kernel
theorem d_Ver_orderOf_56 : decode prog_12_method_3_code 56 = .ok (.iadd, 1) := by decide +kernel
theorem d_Ver_orderOf_57 : decode prog_12_method_3_code 57 = .ok (.ireturn, 1) := by decide +kernel
theorem d_Ver_orderOf_58 : decode prog_12_method_3_code 58 = .ok (.iload_n 2, 1) := by decide +kernel
theorem d_Ver_orderOf_59 : decode prog_12_method_3_code 59 = .ok (.ifCond .ne 7, 3) := by decide +kernel
theorem d_Ver_orderOf_62 : decode prog_12_method_3_code 62 = .ok (.iconst 0, 1) := by decide +kernel
theorem d_Ver_orderOf_63 : decode prog_12_method_3_code 63 = .ok (.goto 6, 3) := by decide +kernel
theorem d_Ver_orderOf_66 : decode prog_12_method_3_code 66 = .ok (.iload_n 1, 1) := by decide +kernel
theorem d_Ver_orderOf_67 : decode prog_12_method_3_code 67 = .ok (.iload_n 2, 1) := by decide +kernel
theorem d_Ver_orderOf_68 : decode prog_12_method_3_code 68 = .ok (.iadd, 1) := by decide +kernel
theorem d_Ver_orderOf_69 : decode prog_12_method_3_code 69 = .ok (.ireturn, 1) := by decide +kernel
def F_Ver_orderOf_69  (s0 : Int32) : Option (Int32) := some s0
set_option maxRecDepth 10000 in
set_option maxHeartbeats 4000000 in
theorem bt_Ver_orderOf_69 {p : Program} {l : Launch} {e : Env} {R : Room} {s : State} {m : MethodId} {args : Array Value} {below : List Frame} {meth : Method} {c : Code} {D : va_G} {τ : ClassId × ClassId × ClassId} {B : Nat} {A : Nat → Prop} {ad : Nat → Nat} {σ0 : Sg} (E : Cx p R s m args meth c prog_12_method_3_code 3 "DrawingMachine$Vertices" 0 D τ B A) (hret : meth.sig.returnType = (some .int)) (o : Int32) (s0 : Int32) (h : F_Ver_orderOf_69 s0 = some o) {H : Heap} {locs : List Loc} {ls : Array Slot} (w : Wd s D A (wdC τ σ0 ad) H locs) (hl : lv_has ls 3 []) : W p l e R s m args below meth c H locs 0 0 (QI below args s A D τ (wdC τ σ0 ad) o) (F0 m 69 ls [.int s0]) := by
  obtain rfl := Option.some.inj h
  exact rt_i E w hret d_Ver_orderOf_69
def F_Ver_orderOf_57  (s0 : Int32) : Option (Int32) := some s0
set_option maxRecDepth 10000 in
set_option maxHeartbeats 4000000 in
theorem bt_Ver_orderOf_57 {p : Program} {l : Launch} {e : Env} {R : Room} {s : State} {m : MethodId} {args : Array Value} {below : List Frame} {meth : Method} {c : Code} {D : va_G} {τ : ClassId × ClassId × ClassId} {B : Nat} {A : Nat → Prop} {ad : Nat → Nat} {σ0 : Sg} (E : Cx p R s m args meth c prog_12_method_3_code 3 "DrawingMachine$Vertices" 0 D τ B A) (hret : meth.sig.returnType = (some .int)) (o : Int32) (s0 : Int32) (h : F_Ver_orderOf_57 s0 = some o) {H : Heap} {locs : List Loc} {ls : Array Slot} (w : Wd s D A (wdC τ σ0 ad) H locs) (hl : lv_has ls 3 []) : W p l e R s m args below meth c H locs 0 0 (QI below args s A D τ (wdC τ σ0 ad) o) (F0 m 57 ls [.int s0]) := by
  obtain rfl := Option.some.inj h
  exact rt_i E w hret d_Ver_orderOf_57
def F_Ver_orderOf_54  (v1 : Int32) (v2 : Int32) : Option (Int32) := F_Ver_orderOf_57 (v1 + v2)
set_option maxRecDepth 10000 in
set_option maxHeartbeats 4000000 in
theorem bt_Ver_orderOf_54 {p : Program} {l : Launch} {e : Env} {R : Room} {s : State} {m : MethodId} {args : Array Value} {below : List Frame} {meth : Method} {c : Code} {D : va_G} {τ : ClassId × ClassId × ClassId} {B : Nat} {A : Nat → Prop} {ad : Nat → Nat} {σ0 : Sg} (E : Cx p R s m args meth c prog_12_method_3_code 3 "DrawingMachine$Vertices" 0 D τ B A) (hret : meth.sig.returnType = (some .int)) (o : Int32) (v1 : Int32) (v2 : Int32) (h : F_Ver_orderOf_54 v1 v2 = some o) {H : Heap} {locs : List Loc} {ls : Array Slot} (w : Wd s D A (wdC τ σ0 ad) H locs) (hl : lv_has ls 3 [(1, .int v1), (2, .int v2)]) : W p l e R s m args below meth c H locs 0 0 (QI below args s A D τ (wdC τ σ0 ad) o) (F0 m 54 ls []) := by
  refine lv_iload_n E.x E.b d_Ver_orderOf_54 rfl (lv_at hl 0 rfl) ?_
  refine lv_iload_n E.x E.b d_Ver_orderOf_55 rfl (lv_at hl 1 rfl) ?_
  refine lv_iadd E.x E.b d_Ver_orderOf_56 ?_
  exact bt_Ver_orderOf_57 E hret o (v1 + v2) h w (lv_sub hl [] rfl)
def F_Ver_orderOf  (x0 : Int32) (x1 : Int32) (x2 : Int32) : Option (Int32) := if x0 = 0 then (some ((3 * x1) + x2)) else (if x0 = 1 then (if (irem x1 2) = 1 then (if 2 ≤ x2 then (F_Ver_orderOf_54 x1 x2) else (F_Ver_orderOf_57 ((x1 + 1) - x2))) else (F_Ver_orderOf_54 x1 x2)) else (if x2 = 0 then (F_Ver_orderOf_69 0) else (F_Ver_orderOf_69 (x1 + x2))))
set_option maxRecDepth 10000 in
set_option maxHeartbeats 4000000 in
theorem c_Ver_orderOf (l : Launch) (D : va_G) (τ : ClassId × ClassId × ClassId) (B : Nat) (σ0 : Sg) (ad : Nat → Nat) (x0 : Int32) (x1 : Int32) (x2 : Int32) (o : Int32) (h : F_Ver_orderOf x0 x1 x2 = some o) : MI l y_Ver_orderOf (Cond.code y_Ver_orderOf prog_12_method_3_code 3 (some .int)) 0 D τ B [.int x0, .int x1, .int x2] (wdC τ σ0 ad) (wdC τ σ0 ad) o := by
  refine en_i (by decide) (Nat.le_of_ble_eq_true rfl) ?_
  intro p e R s m args below meth c H locs ls A E hret w hl
  have E : Cx p R s m args meth c prog_12_method_3_code 3 "DrawingMachine$Vertices" 0 D τ B A := E
  have hl : lv_has ls 3 [(0, .int x0), (1, .int x1), (2, .int x2)] := hl
  refine lv_iload_n E.x E.b d_Ver_orderOf_0 rfl (lv_at hl 0 rfl) ?_
  by_cases q3 : x0 = 0
  ·
    replace h := ifT q3 h
    refine wi_e (v := 0) q3 ?_
    refine lv_lookup (off := 27) (tgt := 28) E.x E.b d_Ver_orderOf_1 (by decide) (by decide) (by decide) ?_
    refine lv_iconst (v := 3) E.x E.b d_Ver_orderOf_28 (by decide) ?_
    refine lv_iload_n E.x E.b d_Ver_orderOf_29 rfl (lv_at hl 1 rfl) ?_
    refine lv_imul E.x E.b d_Ver_orderOf_30 ?_
    refine lv_iload_n E.x E.b d_Ver_orderOf_31 rfl (lv_at hl 2 rfl) ?_
    refine lv_iadd E.x E.b d_Ver_orderOf_32 ?_
    obtain rfl := Option.some.inj h
    exact rt_i E w hret d_Ver_orderOf_33
  replace h := ifF q3 h
  replace q3 := ne_ti (k := 0) (by decide) q3
  by_cases q4 : x0 = 1
  ·
    replace h := ifT q4 h
    refine wi_e (v := 1) q4 ?_
    refine lv_lookup (off := 33) (tgt := 34) E.x E.b d_Ver_orderOf_1 (by decide) (by decide) (by decide) ?_
    refine lv_iload_n E.x E.b d_Ver_orderOf_34 rfl (lv_at hl 1 rfl) ?_
    refine lv_iconst (v := 2) E.x E.b d_Ver_orderOf_35 (by decide) ?_
    refine lv_irem E.x E.b d_Ver_orderOf_36 (by decide) ?_
    refine wi_e (v := irem x1 2) rfl ?_
    refine lv_iconst (v := 1) E.x E.b d_Ver_orderOf_37 (by decide) ?_
    refine lv_icmp_ne (tgt := 54) E.x E.b d_Ver_orderOf_38 (by decide) (fun c => ?_) (fun c => ?_)
    ·
      replace h := ifF c h
      exact bt_Ver_orderOf_54 E hret o x1 x2 h w (lv_sub hl [1, 2] rfl)
    ·
      replace h := ifT c h
      refine lv_iload_n E.x E.b d_Ver_orderOf_41 rfl (lv_at hl 2 rfl) ?_
      refine lv_iconst (v := 2) E.x E.b d_Ver_orderOf_42 (by decide) ?_
      refine lv_icmp_ge (tgt := 54) E.x E.b d_Ver_orderOf_43 (by decide) (fun c => ?_) (fun c => ?_)
      ·
        replace h := ifT c h
        exact bt_Ver_orderOf_54 E hret o x1 x2 h w (lv_sub hl [1, 2] rfl)
      ·
        replace h := ifF c h
        refine lv_iload_n E.x E.b d_Ver_orderOf_46 rfl (lv_at hl 1 rfl) ?_
        refine lv_iconst (v := 1) E.x E.b d_Ver_orderOf_47 (by decide) ?_
        refine lv_iadd E.x E.b d_Ver_orderOf_48 ?_
        refine lv_iload_n E.x E.b d_Ver_orderOf_49 rfl (lv_at hl 2 rfl) ?_
        refine lv_isub E.x E.b d_Ver_orderOf_50 ?_
        refine lv_goto (tgt := 57) E.x E.b d_Ver_orderOf_51 (by decide) ?_
        exact bt_Ver_orderOf_57 E hret o ((x1 + 1) - x2) h w (lv_sub hl [] rfl)
  replace h := ifF q4 h
  replace q4 := ne_ti (k := 1) (by decide) q4
  refine lv_lookup (off := 57) (tgt := 58) E.x E.b d_Ver_orderOf_1 (by decide) (by simp [Op.lookupswitch.offset, Ne.symm q3, Ne.symm q4]) (by decide) ?_
  refine lv_iload_n E.x E.b d_Ver_orderOf_58 rfl (lv_at hl 2 rfl) ?_
  refine lv_if_ne (tgt := 66) E.x E.b d_Ver_orderOf_59 (by decide) (fun c => ?_) (fun c => ?_)
  ·
    replace h := ifF c h
    refine lv_iload_n E.x E.b d_Ver_orderOf_66 rfl (lv_at hl 1 rfl) ?_
    refine lv_iload_n E.x E.b d_Ver_orderOf_67 rfl (lv_at hl 2 rfl) ?_
    refine lv_iadd E.x E.b d_Ver_orderOf_68 ?_
    exact bt_Ver_orderOf_69 E hret o (x1 + x2) h w (lv_sub hl [] rfl)
  ·
    replace h := ifT c h
    refine lv_iconst (v := 0) E.x E.b d_Ver_orderOf_62 (by decide) ?_
    refine lv_goto (tgt := 69) E.x E.b d_Ver_orderOf_63 (by decide) ?_
    exact bt_Ver_orderOf_69 E hret o 0 h w (lv_sub hl [] rfl)
theorem clS_Ver_orderOf {p : Program} {l : Launch} {e : Env} {R : Room} {s : State} {m : MethodId} {args : Array Value} {below : List Frame} {meth : Method} {c : Code} {H : Heap} {locs : List Loc} {Q : State → Prop} {cc : ByteArray} {nL pc lev : Nat} {own : String} {D : va_G} {τ : ClassId × ClassId × ClassId} {B : Nat} {A : Nat → Prop} {σ : Sg} {ad : Nat → Nat} {ls : Array Slot} {rest : List Value} (E : Cx p R s m args meth c cc nL own lev D τ B A) (w : Wd s D A (wdC τ σ ad) H locs) {x0 : Int32} {x1 : Int32} {x2 : Int32} {o : Int32} (h : F_Ver_orderOf x0 x1 x2 = some o) {index : Nat} (hlk : Cond.methodLink own index y_Ver_orderOf ∈ tw) (hlev : 0 < lev) (hsz : ls.size = nL) (hr : (rest.map fun v => v.category).sum ≤ 8) (hd : decode cc pc = .ok (.invokestatic index, 3)) (kk : ∀ (H1 : Heap) (locs1 : List Loc), Wd s D A (wdC τ σ ad) H1 locs1 → W p l e R s m args below meth c H1 locs1 0 0 Q (F0 m (pc + 3) ls (.int o :: rest))) : W p l e R s m args below meth c H locs 0 0 Q (F0 m pc ls (.int x2 :: .int x1 :: .int x0 :: rest)) :=
  cr_i w E.C (va_runS (As := [.int x0, .int x1, .int x2]) (rest := rest) E.fix (c_Ver_orderOf l D τ B σ ad x0 x1 x2 o h H.size) (va_cwS 3 E.w (tw_pre (tw_good k993) (l := [_, _, _]) (List.forall_mem_cons.mpr ⟨hlk, List.forall_mem_cons.mpr ⟨k992, List.forall_mem_cons.mpr ⟨k10, fun _ h => absurd h List.not_mem_nil⟩⟩⟩)) rfl rfl rfl (by decide +kernel) (E.rm hlev (by decide))) (wd_pre w E.C [.int x0, .int x1, .int x2]) rfl rfl hsz rfl (lv_room hr) hd ⟨Nat.zero_le _, Nat.zero_le _⟩) kk

theorem d_Ver_triangles_0 : decode prog_12_method_2_code 0 = .ok (.iload_n 0, 1) := by decide +kernel
theorem d_Ver_triangles_1 : decode prog_12_method_2_code 1 = .ok (.ifCond .ne 9, 3) := by decide +kernel
theorem d_Ver_triangles_4 : decode prog_12_method_2_code 4 = .ok (.iload_n 1, 1) := by decide +kernel
theorem d_Ver_triangles_5 : decode prog_12_method_2_code 5 = .ok (.iconst 3, 1) := by decide +kernel
theorem d_Ver_triangles_6 : decode prog_12_method_2_code 6 = .ok (.idiv, 1) := by decide +kernel
theorem d_Ver_triangles_7 : decode prog_12_method_2_code 7 = .ok (.goto 10, 3) := by decide +kernel
theorem d_Ver_triangles_10 : decode prog_12_method_2_code 10 = .ok (.iload_n 1, 1) := by decide +kernel
theorem d_Ver_triangles_11 : decode prog_12_method_2_code 11 = .ok (.iconst 2, 1) := by decide +kernel
theorem d_Ver_triangles_12 : decode prog_12_method_2_code 12 = .ok (.isub, 1) := by decide +kernel
theorem d_Ver_triangles_13 : decode prog_12_method_2_code 13 = .ok (.iconst 0, 1) := by decide +kernel
theorem d_Ver_triangles_14 : decode prog_12_method_2_code 14 = .ok (.invokestatic 21, 3) := by decide +kernel
theorem d_Ver_triangles_17 : decode prog_12_method_2_code 17 = .ok (.ireturn, 1) := by decide +kernel
def F_Ver_triangles_17  (s0 : Int32) : Option (Int32) := some s0
set_option maxRecDepth 10000 in
set_option maxHeartbeats 4000000 in
theorem bt_Ver_triangles_17 {p : Program} {l : Launch} {e : Env} {R : Room} {s : State} {m : MethodId} {args : Array Value} {below : List Frame} {meth : Method} {c : Code} {D : va_G} {τ : ClassId × ClassId × ClassId} {B : Nat} {A : Nat → Prop} {ad : Nat → Nat} {σ0 : Sg} (E : Cx p R s m args meth c prog_12_method_2_code 2 "DrawingMachine$Vertices" 0 D τ B A) (hret : meth.sig.returnType = (some .int)) (o : Int32) (s0 : Int32) (h : F_Ver_triangles_17 s0 = some o) {H : Heap} {locs : List Loc} {ls : Array Slot} (w : Wd s D A (wdC τ σ0 ad) H locs) (hl : lv_has ls 2 []) : W p l e R s m args below meth c H locs 0 0 (QI below args s A D τ (wdC τ σ0 ad) o) (F0 m 17 ls [.int s0]) := by
  obtain rfl := Option.some.inj h
  exact rt_i E w hret d_Ver_triangles_17
def F_Ver_triangles  (x0 : Int32) (x1 : Int32) : Option (Int32) := if x0 = 0 then (F_Ver_triangles_17 (x1 / 3)) else (F_Ver_triangles_17 (imax (x1 - 2) 0))
set_option maxRecDepth 10000 in
set_option maxHeartbeats 4000000 in
theorem c_Ver_triangles (l : Launch) (D : va_G) (τ : ClassId × ClassId × ClassId) (B : Nat) (σ0 : Sg) (ad : Nat → Nat) (x0 : Int32) (x1 : Int32) (o : Int32) (h : F_Ver_triangles x0 x1 = some o) : MI l y_Ver_triangles (Cond.code y_Ver_triangles prog_12_method_2_code 2 (some .int)) 0 D τ B [.int x0, .int x1] (wdC τ σ0 ad) (wdC τ σ0 ad) o := by
  refine en_i (by decide) (Nat.le_of_ble_eq_true rfl) ?_
  intro p e R s m args below meth c H locs ls A E hret w hl
  have E : Cx p R s m args meth c prog_12_method_2_code 2 "DrawingMachine$Vertices" 0 D τ B A := E
  have hl : lv_has ls 2 [(0, .int x0), (1, .int x1)] := hl
  refine lv_iload_n E.x E.b d_Ver_triangles_0 rfl (lv_at hl 0 rfl) ?_
  refine lv_if_ne (tgt := 10) E.x E.b d_Ver_triangles_1 (by decide) (fun c => ?_) (fun c => ?_)
  ·
    replace h := ifF c h
    refine lv_iload_n E.x E.b d_Ver_triangles_10 rfl (lv_at hl 1 rfl) ?_
    refine lv_iconst (v := 2) E.x E.b d_Ver_triangles_11 (by decide) ?_
    refine lv_isub E.x E.b d_Ver_triangles_12 ?_
    refine lv_iconst (v := 0) E.x E.b d_Ver_triangles_13 (by decide) ?_
    refine va_mmax E.x E.b (E.2.2.1.trans hl.1.symm) E.o (E.w _ k987) (E.w _ k560) (E.w _ k25) (E.w _ k561) (Nat.le_trans (by decide) E.2.2.2.2.2.2.1) (Nat.le_trans (Nat.le_of_ble_eq_true rfl) E.2.2.2.2.2.2.2.1) (Nat.zero_le _) (Nat.zero_le _) d_Ver_triangles_14 ?_
    refine wi_e (v := imax (x1 - 2) 0) rfl ?_
    exact bt_Ver_triangles_17 E hret o (imax (x1 - 2) 0) h w (lv_sub hl [] rfl)
  ·
    replace h := ifT c h
    refine lv_iload_n E.x E.b d_Ver_triangles_4 rfl (lv_at hl 1 rfl) ?_
    refine lv_iconst (v := 3) E.x E.b d_Ver_triangles_5 (by decide) ?_
    refine lv_idiv E.x E.b d_Ver_triangles_6 (by decide) ?_
    refine lv_goto (tgt := 17) E.x E.b d_Ver_triangles_7 (by decide) ?_
    exact bt_Ver_triangles_17 E hret o (x1 / 3) h w (lv_sub hl [] rfl)
theorem clS_Ver_triangles {p : Program} {l : Launch} {e : Env} {R : Room} {s : State} {m : MethodId} {args : Array Value} {below : List Frame} {meth : Method} {c : Code} {H : Heap} {locs : List Loc} {Q : State → Prop} {cc : ByteArray} {nL pc lev : Nat} {own : String} {D : va_G} {τ : ClassId × ClassId × ClassId} {B : Nat} {A : Nat → Prop} {σ : Sg} {ad : Nat → Nat} {ls : Array Slot} {rest : List Value} (E : Cx p R s m args meth c cc nL own lev D τ B A) (w : Wd s D A (wdC τ σ ad) H locs) {x0 : Int32} {x1 : Int32} {o : Int32} (h : F_Ver_triangles x0 x1 = some o) {index : Nat} (hlk : Cond.methodLink own index y_Ver_triangles ∈ tw) (hlev : 0 < lev) (hsz : ls.size = nL) (hr : (rest.map fun v => v.category).sum ≤ 8) (hd : decode cc pc = .ok (.invokestatic index, 3)) (kk : ∀ (H1 : Heap) (locs1 : List Loc), Wd s D A (wdC τ σ ad) H1 locs1 → W p l e R s m args below meth c H1 locs1 0 0 Q (F0 m (pc + 3) ls (.int o :: rest))) : W p l e R s m args below meth c H locs 0 0 Q (F0 m pc ls (.int x1 :: .int x0 :: rest)) :=
  cr_i w E.C (va_runS (As := [.int x0, .int x1]) (rest := rest) E.fix (c_Ver_triangles l D τ B σ ad x0 x1 o h H.size) (va_cwS 2 E.w (tw_pre (tw_good k986) (l := [_, _, _]) (List.forall_mem_cons.mpr ⟨hlk, List.forall_mem_cons.mpr ⟨k985, List.forall_mem_cons.mpr ⟨k10, fun _ h => absurd h List.not_mem_nil⟩⟩⟩)) rfl rfl rfl (by decide +kernel) (E.rm hlev (by decide))) (wd_pre w E.C [.int x0, .int x1]) rfl rfl hsz rfl (lv_room hr) hd ⟨Nat.zero_le _, Nat.zero_le _⟩) kk

theorem d_Drw_draw_0 : decode prog_5_method_3_code 0 = .ok (.aload_n 1, 1) := by decide +kernel
theorem d_Drw_draw_1 : decode prog_5_method_3_code 1 = .ok (.getfield 66, 3) := by decide +kernel
theorem d_Drw_draw_4 : decode prog_5_method_3_code 4 = .ok (.iconst 0, 1) := by decide +kernel
theorem d_Drw_draw_5 : decode prog_5_method_3_code 5 = .ok (.iaload, 1) := by decide +kernel
theorem d_Drw_draw_6 : decode prog_5_method_3_code 6 = .ok (.istore 4, 2) := by decide +kernel
theorem d_Drw_draw_8 : decode prog_5_method_3_code 8 = .ok (.iload 4, 2) := by decide +kernel
theorem d_Drw_draw_10 : decode prog_5_method_3_code 10 = .ok (.aload_n 1, 1) := by decide +kernel
theorem d_Drw_draw_11 : decode prog_5_method_3_code 11 = .ok (.getfield 66, 3) := by decide +kernel
theorem d_Drw_draw_14 : decode prog_5_method_3_code 14 = .ok (.iconst 2, 1) := by decide +kernel
theorem d_Drw_draw_15 : decode prog_5_method_3_code 15 = .ok (.iaload, 1) := by decide +kernel
theorem d_Drw_draw_16 : decode prog_5_method_3_code 16 = .ok (.invokestatic 71, 3) := by decide +kernel
theorem d_Drw_draw_19 : decode prog_5_method_3_code 19 = .ok (.istore 5, 2) := by decide +kernel
theorem d_Drw_draw_21 : decode prog_5_method_3_code 21 = .ok (.ldc2_w 75, 3) := by decide +kernel
theorem d_Drw_draw_24 : decode prog_5_method_3_code 24 = .ok (.aload_n 2, 1) := by decide +kernel
theorem d_Drw_draw_25 : decode prog_5_method_3_code 25 = .ok (.getfield 77, 3) := by decide +kernel
theorem d_Drw_draw_28 : decode prog_5_method_3_code 28 = .ok (.i2l, 1) := by decide +kernel
theorem d_Drw_draw_29 : decode prog_5_method_3_code 29 = .ok (.lmul, 1) := by decide +kernel
theorem d_Drw_draw_30 : decode prog_5_method_3_code 30 = .ok (.aload_n 0, 1) := by decide +kernel
theorem d_Drw_draw_31 : decode prog_5_method_3_code 31 = .ok (.getfield 28, 3) := by decide +kernel
theorem d_Drw_draw_34 : decode prog_5_method_3_code 34 = .ok (.getfield 82, 3) := by decide +kernel
theorem d_Drw_draw_37 : decode prog_5_method_3_code 37 = .ok (.i2l, 1) := by decide +kernel
theorem d_Drw_draw_38 : decode prog_5_method_3_code 38 = .ok (.aload_n 0, 1) := by decide +kernel
theorem d_Drw_draw_39 : decode prog_5_method_3_code 39 = .ok (.getfield 28, 3) := by decide +kernel
theorem d_Drw_draw_42 : decode prog_5_method_3_code 42 = .ok (.getfield 87, 3) := by decide +kernel
theorem d_Drw_draw_45 : decode prog_5_method_3_code 45 = .ok (.i2l, 1) := by decide +kernel
theorem d_Drw_draw_46 : decode prog_5_method_3_code 46 = .ok (.lmul, 1) := by decide +kernel
theorem d_Drw_draw_47 : decode prog_5_method_3_code 47 = .ok (.aload_n 3, 1) := by decide +kernel
theorem d_Drw_draw_48 : decode prog_5_method_3_code 48 = .ok (.getfield 77, 3) := by decide +kernel
theorem d_Drw_draw_51 : decode prog_5_method_3_code 51 = .ok (.i2l, 1) := by decide +kernel
theorem d_Drw_draw_52 : decode prog_5_method_3_code 52 = .ok (.lmul, 1) := by decide +kernel
theorem d_Drw_draw_53 : decode prog_5_method_3_code 53 = .ok (.ladd, 1) := by decide +kernel
theorem d_Drw_draw_54 : decode prog_5_method_3_code 54 = .ok (.lstore 6, 2) := by decide +kernel
theorem d_Drw_draw_56 : decode prog_5_method_3_code 56 = .ok (.aload_n 1, 1) := by decide +kernel
theorem d_Drw_draw_57 : decode prog_5_method_3_code 57 = .ok (.getfield 90, 3) := by decide +kernel
theorem d_Drw_draw_60 : decode prog_5_method_3_code 60 = .ok (.iload 5, 2) := by decide +kernel
theorem d_Drw_draw_62 : decode prog_5_method_3_code 62 = .ok (.i2l, 1) := by decide +kernel
theorem d_Drw_draw_63 : decode prog_5_method_3_code 63 = .ok (.lload 6, 2) := by decide +kernel
theorem d_Drw_draw_65 : decode prog_5_method_3_code 65 = .ok (.lmul, 1) := by decide +kernel
theorem d_Drw_draw_66 : decode prog_5_method_3_code 66 = .ok (.ladd, 1) := by decide +kernel
theorem d_Drw_draw_67 : decode prog_5_method_3_code 67 = .ok (.lstore 8, 2) := by decide +kernel
theorem d_Drw_draw_69 : decode prog_5_method_3_code 69 = .ok (.lload 8, 2) := by decide +kernel
theorem d_Drw_draw_71 : decode prog_5_method_3_code 71 = .ok (.ldc2_w 94, 3) := by decide +kernel
theorem d_Drw_draw_74 : decode prog_5_method_3_code 74 = .ok (.lcmp, 1) := by decide +kernel
theorem d_Drw_draw_75 : decode prog_5_method_3_code 75 = .ok (.ifCond .le 6, 3) := by decide +kernel
theorem d_Drw_draw_78 : decode prog_5_method_3_code 78 = .ok (.bipush 8, 2) := by decide +kernel
theorem d_Drw_draw_80 : decode prog_5_method_3_code 80 = .ok (.ireturn, 1) := by decide +kernel
theorem d_Drw_draw_81 : decode prog_5_method_3_code 81 = .ok (.aload_n 1, 1) := by decide +kernel
theorem d_Drw_draw_82 : decode prog_5_method_3_code 82 = .ok (.lload 8, 2) := by decide +kernel
theorem d_Drw_draw_84 : decode prog_5_method_3_code 84 = .ok (.putfield 90, 3) := by decide +kernel
theorem d_Drw_draw_87 : decode prog_5_method_3_code 87 = .ok (.aload_n 0, 1) := by decide +kernel
theorem d_Drw_draw_88 : decode prog_5_method_3_code 88 = .ok (.getfield 27, 3) := by decide +kernel
theorem d_Drw_draw_91 : decode prog_5_method_3_code 91 = .ok (.bipush 42, 2) := by decide +kernel
theorem d_Drw_draw_93 : decode prog_5_method_3_code 93 = .ok (.aload_n 0, 1) := by decide +kernel
theorem d_Drw_draw_94 : decode prog_5_method_3_code 94 = .ok (.getfield 37, 3) := by decide +kernel
theorem d_Drw_draw_97 : decode prog_5_method_3_code 97 = .ok (.getfield 96, 3) := by decide +kernel
theorem d_Drw_draw_100 : decode prog_5_method_3_code 100 = .ok (.bipush 96, 2) := by decide +kernel
theorem d_Drw_draw_102 : decode prog_5_method_3_code 102 = .ok (.sipush 128, 3) := by decide +kernel
theorem d_Drw_draw_105 : decode prog_5_method_3_code 105 = .ok (.invokestatic 99, 3) := by decide +kernel
theorem d_Drw_draw_108 : decode prog_5_method_3_code 108 = .ok (.iconst 0, 1) := by decide +kernel
theorem d_Drw_draw_109 : decode prog_5_method_3_code 109 = .ok (.istore 10, 2) := by decide +kernel
theorem d_Drw_draw_111 : decode prog_5_method_3_code 111 = .ok (.iload 10, 2) := by decide +kernel
theorem d_Drw_draw_113 : decode prog_5_method_3_code 113 = .ok (.iload 5, 2) := by decide +kernel
theorem d_Drw_draw_115 : decode prog_5_method_3_code 115 = .ok (.if_icmp .ge 170, 3) := by decide +kernel
theorem d_Drw_draw_118 : decode prog_5_method_3_code 118 = .ok (.aload_n 0, 1) := by decide +kernel
theorem d_Drw_draw_119 : decode prog_5_method_3_code 119 = .ok (.getfield 9, 3) := by decide +kernel
theorem d_Drw_draw_122 : decode prog_5_method_3_code 122 = .ok (.iconst 0, 1) := by decide +kernel
theorem d_Drw_draw_123 : decode prog_5_method_3_code 123 = .ok (.dup2, 1) := by decide +kernel
theorem d_Drw_draw_124 : decode prog_5_method_3_code 124 = .ok (.iaload, 1) := by decide +kernel
theorem d_Drw_draw_125 : decode prog_5_method_3_code 125 = .ok (.iconst 1, 1) := by decide +kernel
theorem d_Drw_draw_126 : decode prog_5_method_3_code 126 = .ok (.iadd, 1) := by decide +kernel
theorem d_Drw_draw_127 : decode prog_5_method_3_code 127 = .ok (.iastore, 1) := by decide +kernel
theorem d_Drw_draw_128 : decode prog_5_method_3_code 128 = .ok (.iconst 0, 1) := by decide +kernel
theorem d_Drw_draw_129 : decode prog_5_method_3_code 129 = .ok (.istore 11, 2) := by decide +kernel
theorem d_Drw_draw_131 : decode prog_5_method_3_code 131 = .ok (.iload 11, 2) := by decide +kernel
theorem d_Drw_draw_133 : decode prog_5_method_3_code 133 = .ok (.iconst 3, 1) := by decide +kernel
theorem d_Drw_draw_134 : decode prog_5_method_3_code 134 = .ok (.if_icmp .ge 67, 3) := by decide +kernel
theorem d_Drw_draw_137 : decode prog_5_method_3_code 137 = .ok (.aload_n 0, 1) := by decide +kernel
theorem d_Drw_draw_138 : decode prog_5_method_3_code 138 = .ok (.aload_n 1, 1) := by decide +kernel
theorem d_Drw_draw_139 : decode prog_5_method_3_code 139 = .ok (.iload 4, 2) := by decide +kernel
theorem d_Drw_draw_141 : decode prog_5_method_3_code 141 = .ok (.iload 10, 2) := by decide +kernel
theorem d_Drw_draw_143 : decode prog_5_method_3_code 143 = .ok (.iload 11, 2) := by decide +kernel
theorem d_Drw_draw_145 : decode prog_5_method_3_code 145 = .ok (.invokestatic 105, 3) := by decide +kernel
theorem d_Drw_draw_148 : decode prog_5_method_3_code 148 = .ok (.invokevirtual 109, 3) := by decide +kernel
theorem d_Drw_draw_151 : decode prog_5_method_3_code 151 = .ok (.istore 12, 2) := by decide +kernel
theorem d_Drw_draw_153 : decode prog_5_method_3_code 153 = .ok (.aload_n 0, 1) := by decide +kernel
theorem d_Drw_draw_154 : decode prog_5_method_3_code 154 = .ok (.getfield 44, 3) := by decide +kernel
theorem d_Drw_draw_157 : decode prog_5_method_3_code 157 = .ok (.iload 12, 2) := by decide +kernel
theorem d_Drw_draw_159 : decode prog_5_method_3_code 159 = .ok (.aload_n 2, 1) := by decide +kernel
theorem d_Drw_draw_160 : decode prog_5_method_3_code 160 = .ok (.aload_n 0, 1) := by decide +kernel
theorem d_Drw_draw_161 : decode prog_5_method_3_code 161 = .ok (.getfield 37, 3) := by decide +kernel
theorem d_Drw_draw_164 : decode prog_5_method_3_code 164 = .ok (.getfield 96, 3) := by decide +kernel
theorem d_Drw_draw_167 : decode prog_5_method_3_code 167 = .ok (.invokevirtual 113, 3) := by decide +kernel
theorem d_Drw_draw_170 : decode prog_5_method_3_code 170 = .ok (.aload_n 0, 1) := by decide +kernel
theorem d_Drw_draw_171 : decode prog_5_method_3_code 171 = .ok (.getfield 37, 3) := by decide +kernel
theorem d_Drw_draw_174 : decode prog_5_method_3_code 174 = .ok (.aload_n 2, 1) := by decide +kernel
theorem d_Drw_draw_175 : decode prog_5_method_3_code 175 = .ok (.invokevirtual 117, 3) := by decide +kernel
theorem d_Drw_draw_178 : decode prog_5_method_3_code 178 = .ok (.pop, 1) := by decide +kernel
theorem d_Drw_draw_179 : decode prog_5_method_3_code 179 = .ok (.aload_n 0, 1) := by decide +kernel
theorem d_Drw_draw_180 : decode prog_5_method_3_code 180 = .ok (.getfield 53, 3) := by decide +kernel
theorem d_Drw_draw_183 : decode prog_5_method_3_code 183 = .ok (.iload 11, 2) := by decide +kernel
theorem d_Drw_draw_185 : decode prog_5_method_3_code 185 = .ok (.aload_n 0, 1) := by decide +kernel
theorem d_Drw_draw_186 : decode prog_5_method_3_code 186 = .ok (.getfield 37, 3) := by decide +kernel
theorem d_Drw_draw_189 : decode prog_5_method_3_code 189 = .ok (.getfield 96, 3) := by decide +kernel
theorem d_Drw_draw_192 : decode prog_5_method_3_code 192 = .ok (.invokevirtual 121, 3) := by decide +kernel
theorem d_Drw_draw_195 : decode prog_5_method_3_code 195 = .ok (.iinc 11 1, 3) := by decide +kernel
theorem d_Drw_draw_198 : decode prog_5_method_3_code 198 = .ok (.goto (-67), 3) := by decide +kernel
theorem d_Drw_draw_201 : decode prog_5_method_3_code 201 = .ok (.aload_n 0, 1) := by decide +kernel
theorem d_Drw_draw_202 : decode prog_5_method_3_code 202 = .ok (.getfield 53, 3) := by decide +kernel
theorem d_Drw_draw_205 : decode prog_5_method_3_code 205 = .ok (.invokevirtual 125, 3) := by decide +kernel
theorem d_Drw_draw_208 : decode prog_5_method_3_code 208 = .ok (.aload_n 0, 1) := by decide +kernel
theorem d_Drw_draw_209 : decode prog_5_method_3_code 209 = .ok (.getfield 53, 3) := by decide +kernel
theorem d_Drw_draw_212 : decode prog_5_method_3_code 212 = .ok (.invokevirtual 128, 3) := by decide +kernel
theorem d_Drw_draw_215 : decode prog_5_method_3_code 215 = .ok (.iconst 1, 1) := by decide +kernel
theorem d_Drw_draw_216 : decode prog_5_method_3_code 216 = .ok (.istore 11, 2) := by decide +kernel
theorem d_Drw_draw_218 : decode prog_5_method_3_code 218 = .ok (.iload 11, 2) := by decide +kernel
theorem d_Drw_draw_220 : decode prog_5_method_3_code 220 = .ok (.iconst 1, 1) := by decide +kernel
theorem d_Drw_draw_221 : decode prog_5_method_3_code 221 = .ok (.iadd, 1) := by decide +kernel
theorem d_Drw_draw_222 : decode prog_5_method_3_code 222 = .ok (.aload_n 0, 1) := by decide +kernel
theorem d_Drw_draw_223 : decode prog_5_method_3_code 223 = .ok (.getfield 53, 3) := by decide +kernel
theorem d_Drw_draw_226 : decode prog_5_method_3_code 226 = .ok (.getfield 131, 3) := by decide +kernel
theorem d_Drw_draw_229 : decode prog_5_method_3_code 229 = .ok (.if_icmp .ge 50, 3) := by decide +kernel
theorem d_Drw_draw_232 : decode prog_5_method_3_code 232 = .ok (.aload_n 0, 1) := by decide +kernel
theorem d_Drw_draw_233 : decode prog_5_method_3_code 233 = .ok (.getfield 9, 3) := by decide +kernel
theorem d_Drw_draw_236 : decode prog_5_method_3_code 236 = .ok (.iconst 1, 1) := by decide +kernel
theorem d_Drw_draw_237 : decode prog_5_method_3_code 237 = .ok (.dup2, 1) := by decide +kernel
theorem d_Drw_draw_238 : decode prog_5_method_3_code 238 = .ok (.iaload, 1) := by decide +kernel
theorem d_Drw_draw_239 : decode prog_5_method_3_code 239 = .ok (.iconst 1, 1) := by decide +kernel
theorem d_Drw_draw_240 : decode prog_5_method_3_code 240 = .ok (.iadd, 1) := by decide +kernel
theorem d_Drw_draw_241 : decode prog_5_method_3_code 241 = .ok (.iastore, 1) := by decide +kernel
theorem d_Drw_draw_242 : decode prog_5_method_3_code 242 = .ok (.aload_n 0, 1) := by decide +kernel
theorem d_Drw_draw_243 : decode prog_5_method_3_code 243 = .ok (.aload_n 0, 1) := by decide +kernel
theorem d_Drw_draw_244 : decode prog_5_method_3_code 244 = .ok (.getfield 62, 3) := by decide +kernel
theorem d_Drw_draw_247 : decode prog_5_method_3_code 247 = .ok (.iload 11, 2) := by decide +kernel
theorem d_Drw_draw_249 : decode prog_5_method_3_code 249 = .ok (.invokevirtual 134, 3) := by decide +kernel
theorem d_Drw_draw_252 : decode prog_5_method_3_code 252 = .ok (.invokevirtual 137, 3) := by decide +kernel
theorem d_Drw_draw_255 : decode prog_5_method_3_code 255 = .ok (.ifCond .eq 18, 3) := by decide +kernel
theorem d_Drw_draw_258 : decode prog_5_method_3_code 258 = .ok (.aload_n 0, 1) := by decide +kernel
theorem d_Drw_draw_259 : decode prog_5_method_3_code 259 = .ok (.getfield 9, 3) := by decide +kernel
theorem d_Drw_draw_262 : decode prog_5_method_3_code 262 = .ok (.iconst 2, 1) := by decide +kernel
theorem d_Drw_draw_263 : decode prog_5_method_3_code 263 = .ok (.dup2, 1) := by decide +kernel
theorem d_Drw_draw_264 : decode prog_5_method_3_code 264 = .ok (.iaload, 1) := by decide +kernel
theorem d_Drw_draw_265 : decode prog_5_method_3_code 265 = .ok (.iconst 1, 1) := by decide +kernel
theorem d_Drw_draw_266 : decode prog_5_method_3_code 266 = .ok (.iadd, 1) := by decide +kernel
theorem d_Drw_draw_267 : decode prog_5_method_3_code 267 = .ok (.iastore, 1) := by decide +kernel
theorem d_Drw_draw_268 : decode prog_5_method_3_code 268 = .ok (.aload_n 0, 1) := by decide +kernel
theorem d_Drw_draw_269 : decode prog_5_method_3_code 269 = .ok (.aload_n 3, 1) := by decide +kernel
theorem d_Drw_draw_270 : decode prog_5_method_3_code 270 = .ok (.invokevirtual 141, 3) := by decide +kernel
theorem d_Drw_draw_273 : decode prog_5_method_3_code 273 = .ok (.iinc 11 1, 3) := by decide +kernel
theorem d_Drw_draw_276 : decode prog_5_method_3_code 276 = .ok (.goto (-58), 3) := by decide +kernel
theorem d_Drw_draw_279 : decode prog_5_method_3_code 279 = .ok (.iinc 10 1, 3) := by decide +kernel
theorem d_Drw_draw_282 : decode prog_5_method_3_code 282 = .ok (.goto (-171), 3) := by decide +kernel
theorem d_Drw_draw_285 : decode prog_5_method_3_code 285 = .ok (.iconst 0, 1) := by decide +kernel
theorem d_Drw_draw_286 : decode prog_5_method_3_code 286 = .ok (.ireturn, 1) := by decide +kernel
def F_Drw_draw_273 (rc_111 : Sg → Nat → Nat → Int32 → Int32 → Int32 → Option (Sg × Int32)) (rc_218 : Sg → Nat → Nat → Int32 → Int32 → Int32 → Int32 → Option (Sg × Int32)) (σ : Sg) (v2 : Nat) (v3 : Nat) (v4 : Int32) (v5 : Int32) (v10 : Int32) (v11 : Int32) : Option (Sg × Int32) := ck (v2 < 3) (ck (v3 < 3) (lt (v11 + 1) (fun y26 => rc_218 σ v2 v3 v4 v5 v10 y26)))
set_option maxRecDepth 10000 in
set_option maxHeartbeats 4000000 in
theorem bt_Drw_draw_273 {p : Program} {l : Launch} {e : Env} {R : Room} {s : State} {m : MethodId} {args : Array Value} {below : List Frame} {meth : Method} {c : Code} {D : va_G} {τ : ClassId × ClassId × ClassId} {B : Nat} {A : Nat → Prop} {ad : Nat → Nat} (E : Cx p R s m args meth c prog_5_method_3_code 13 "DrawingMachine$Drawing" 6 D τ B A) (hret : meth.sig.returnType = (some .int)) (o : Sg × Int32) (rc_111 : Sg → Nat → Nat → Int32 → Int32 → Int32 → Option (Sg × Int32)) (rc_218 : Sg → Nat → Nat → Int32 → Int32 → Int32 → Int32 → Option (Sg × Int32)) (hr_111 : ∀ (σ : Sg) (v2 : Nat) (v3 : Nat) (v4 : Int32) (v5 : Int32) (v10 : Int32) (H : Heap) (locs : List Loc) (ls : Array Slot), rc_111 σ v2 v3 v4 v5 v10 = some o → Wd s D A (wdC τ σ ad) H locs → lv_has ls 13 [(0, .ref (ad 61)), (1, .ref (ad 59)), (2, .ref (ad (67 + v2))), (3, .ref (ad (67 + v3))), (4, .int v4), (5, .int v5), (10, .int v10)] → W p l e R s m args below meth c H locs 0 0 (QI below args s A D τ (wdC τ o.1 ad) o.2) (F0 m 111 ls [])) (hr_218 : ∀ (σ : Sg) (v2 : Nat) (v3 : Nat) (v4 : Int32) (v5 : Int32) (v10 : Int32) (v11 : Int32) (H : Heap) (locs : List Loc) (ls : Array Slot), rc_218 σ v2 v3 v4 v5 v10 v11 = some o → Wd s D A (wdC τ σ ad) H locs → lv_has ls 13 [(0, .ref (ad 61)), (1, .ref (ad 59)), (2, .ref (ad (67 + v2))), (3, .ref (ad (67 + v3))), (4, .int v4), (5, .int v5), (10, .int v10), (11, .int v11)] → W p l e R s m args below meth c H locs 0 0 (QI below args s A D τ (wdC τ o.1 ad) o.2) (F0 m 218 ls [])) (σ : Sg) (v2 : Nat) (v3 : Nat) (v4 : Int32) (v5 : Int32) (v10 : Int32) (v11 : Int32) (h : F_Drw_draw_273 rc_111 rc_218 σ v2 v3 v4 v5 v10 v11 = some o) {H : Heap} {locs : List Loc} {ls : Array Slot} (w : Wd s D A (wdC τ σ ad) H locs) (hl : lv_has ls 13 [(0, .ref (ad 61)), (1, .ref (ad 59)), (2, .ref (ad (67 + v2))), (3, .ref (ad (67 + v3))), (4, .int v4), (5, .int v5), (10, .int v10), (11, .int v11)]) : W p l e R s m args below meth c H locs 0 0 (QI below args s A D τ (wdC τ o.1 ad) o.2) (F0 m 273 ls []) := by
  obtain ⟨c24, h⟩ := ck_some h
  obtain ⟨c25, h⟩ := ck_some h
  obtain ⟨y26, e_y26, h⟩ := lt_some h
  refine lv_iinc (v := y26) (lv' := [(11, .int y26), (0, .ref (ad 61)), (1, .ref (ad 59)), (2, .ref (ad (67 + v2))), (3, .ref (ad (67 + v3))), (4, .int v4), (5, .int v5), (10, .int v10)]) E.x E.b d_Drw_draw_273 hl (k := 7) rfl (e_y26) (by decide) rfl (fun ls hl => ?_)
  refine lv_goto (tgt := 218) E.x E.b d_Drw_draw_276 (by decide) ?_
  exact hr_218 σ v2 v3 v4 v5 v10 y26 _ _ _ h w (lv_sub hl [1, 2, 3, 4, 5, 6, 7, 0] rfl)
def L_Drw_draw_218 (rc_111 : Sg → Nat → Nat → Int32 → Int32 → Int32 → Option (Sg × Int32)) : Nat → Sg → Nat → Nat → Int32 → Int32 → Int32 → Int32 → Option (Sg × Int32)
  | 0, _, _, _, _, _, _, _ => none
  | n + 1, σ, v2, v3, v4, v5, v10, v11 => ck (v2 < 3) (ck (v3 < 3) (if (σ.1 16) ≤ (v11 + 1) then (lt (v10 + 1) (fun y29 => rc_111 σ v2 v3 v4 v5 y29)) else (lt (sA σ 29 (upd (σ.2.2.1 29) 1 ((σ.2.2.1 29 1) + 1))) (fun σ30 => bd (F_Cov_take σ30 v11) (fun o31 => bd (F_Drw_shows o31.1 o31.2) (fun o32 => if o32.2 = 0 then (F_Drw_draw_273 rc_111 (L_Drw_draw_218 rc_111 n) o32.1 v2 v3 v4 v5 v10 v11) else (lt (sA o32.1 29 (upd (o32.1.2.2.1 29) 2 ((o32.1.2.2.1 29 2) + 1))) (fun σ33 => bd (F_Drw_fill σ33 v3) (fun o34 => F_Drw_draw_273 rc_111 (L_Drw_draw_218 rc_111 n) o34 v2 v3 v4 v5 v10 v11)))))))))
set_option maxRecDepth 10000 in
set_option maxHeartbeats 4000000 in
theorem lt_Drw_draw_218 {p : Program} {l : Launch} {e : Env} {R : Room} {s : State} {m : MethodId} {args : Array Value} {below : List Frame} {meth : Method} {c : Code} {D : va_G} {τ : ClassId × ClassId × ClassId} {B : Nat} {A : Nat → Prop} {ad : Nat → Nat} (E : Cx p R s m args meth c prog_5_method_3_code 13 "DrawingMachine$Drawing" 6 D τ B A) (hret : meth.sig.returnType = (some .int)) (o : Sg × Int32) (rc_111 : Sg → Nat → Nat → Int32 → Int32 → Int32 → Option (Sg × Int32)) (hr_111 : ∀ (σ : Sg) (v2 : Nat) (v3 : Nat) (v4 : Int32) (v5 : Int32) (v10 : Int32) (H : Heap) (locs : List Loc) (ls : Array Slot), rc_111 σ v2 v3 v4 v5 v10 = some o → Wd s D A (wdC τ σ ad) H locs → lv_has ls 13 [(0, .ref (ad 61)), (1, .ref (ad 59)), (2, .ref (ad (67 + v2))), (3, .ref (ad (67 + v3))), (4, .int v4), (5, .int v5), (10, .int v10)] → W p l e R s m args below meth c H locs 0 0 (QI below args s A D τ (wdC τ o.1 ad) o.2) (F0 m 111 ls [])) : ∀ (n : Nat) (σ : Sg) (v2 : Nat) (v3 : Nat) (v4 : Int32) (v5 : Int32) (v10 : Int32) (v11 : Int32) (H : Heap) (locs : List Loc) (ls : Array Slot), L_Drw_draw_218 rc_111 n σ v2 v3 v4 v5 v10 v11 = some o → Wd s D A (wdC τ σ ad) H locs → lv_has ls 13 [(0, .ref (ad 61)), (1, .ref (ad 59)), (2, .ref (ad (67 + v2))), (3, .ref (ad (67 + v3))), (4, .int v4), (5, .int v5), (10, .int v10), (11, .int v11)] → W p l e R s m args below meth c H locs 0 0 (QI below args s A D τ (wdC τ o.1 ad) o.2) (F0 m 218 ls []) := by
  intro n
  induction n with
  | zero =>
    intro σ v2 v3 v4 v5 v10 v11 H locs ls h w hl
    cases h
  | succ n hr_218 =>
    intro σ v2 v3 v4 v5 v10 v11 H locs ls h w hl
    obtain ⟨c27, h⟩ := ck_some h
    obtain ⟨c28, h⟩ := ck_some h
    refine lv_iload E.x E.b d_Drw_draw_218 (lv_at hl 7 rfl) ?_
    refine lv_iconst (v := 1) E.x E.b d_Drw_draw_220 (by decide) ?_
    refine lv_iadd E.x E.b d_Drw_draw_221 ?_
    refine lv_aload_n E.x E.b d_Drw_draw_222 rfl (lv_at hl 0 rfl) ?_
    refine gC_Drw_shape E w k383 d_Drw_draw_223 ?_
    refine gC_Sha_many E w k287 d_Drw_draw_226 ?_
    refine lv_icmp_ge (tgt := 279) E.x E.b d_Drw_draw_229 (by decide) (fun c => ?_) (fun c => ?_)
    ·
      replace h := ifT c h
      obtain ⟨y29, e_y29, h⟩ := lt_some h
      refine lv_iinc (v := y29) (lv' := [(10, .int y29), (0, .ref (ad 61)), (1, .ref (ad 59)), (2, .ref (ad (67 + v2))), (3, .ref (ad (67 + v3))), (4, .int v4), (5, .int v5), (11, .int v11)]) E.x E.b d_Drw_draw_279 hl (k := 6) rfl (e_y29) (by decide) rfl (fun ls hl => ?_)
      refine lv_goto (tgt := 111) E.x E.b d_Drw_draw_282 (by decide) ?_
      exact hr_111 σ v2 v3 v4 v5 y29 _ _ _ h w (lv_sub hl [1, 2, 3, 4, 5, 6, 0] rfl)
    ·
      replace h := ifF c h
      refine lv_aload_n E.x E.b d_Drw_draw_232 rfl (lv_at hl 0 rfl) ?_
      refine gC_Drw_counts E w k373 d_Drw_draw_233 ?_
      refine lv_iconst (v := 1) E.x E.b d_Drw_draw_236 (by decide) ?_
      refine lv_dup2_11 E.x E.b d_Drw_draw_237 rfl rfl ?_
      refine ialC E w (k := 29) (by decide) (show inb 1 9 by decide) d_Drw_draw_238 ?_
      refine wi_e (v := σ.2.2.1 29 1) rfl ?_
      refine lv_iconst (v := 1) E.x E.b d_Drw_draw_239 (by decide) ?_
      refine lv_iadd E.x E.b d_Drw_draw_240 ?_
      obtain ⟨σ30, e_σ30, h⟩ := lt_some h
      refine iasC E w (k := 29) (by decide) (show inb 1 9 by decide) e_σ30 d_Drw_draw_241 (fun H locs w => ?_)
      refine lv_aload_n E.x E.b d_Drw_draw_242 rfl (lv_at hl 0 rfl) ?_
      refine lv_aload_n E.x E.b d_Drw_draw_243 rfl (lv_at hl 0 rfl) ?_
      refine gC_Drw_covering E w k384 d_Drw_draw_244 ?_
      refine lv_iload E.x E.b d_Drw_draw_247 (lv_at hl 7 rfl) ?_
      obtain ⟨o31, h_o31, h⟩ := bd_some h
      refine clV_Cov_take E w (x0 := v11) h_o31 k1175 (by decide) hl.1 (Nat.le_of_ble_eq_true rfl) d_Drw_draw_249 (fun H locs w => ?_)
      obtain ⟨o32, h_o32, h⟩ := bd_some h
      refine clV_Drw_shows E w (x0 := o31.2) h_o32 k1179 (by decide) hl.1 (Nat.le_of_ble_eq_true rfl) d_Drw_draw_252 (fun H locs w => ?_)
      refine lv_if_eq (tgt := 273) E.x E.b d_Drw_draw_255 (by decide) (fun c => ?_) (fun c => ?_)
      ·
        replace h := ifT c h
        exact bt_Drw_draw_273 E hret o rc_111 (L_Drw_draw_218 rc_111 n) hr_111 hr_218 o32.1 v2 v3 v4 v5 v10 v11 h w (lv_sub hl [0, 1, 2, 3, 4, 5, 6, 7] rfl)
      ·
        replace h := ifF c h
        refine lv_aload_n E.x E.b d_Drw_draw_258 rfl (lv_at hl 0 rfl) ?_
        refine gC_Drw_counts E w k373 d_Drw_draw_259 ?_
        refine lv_iconst (v := 2) E.x E.b d_Drw_draw_262 (by decide) ?_
        refine lv_dup2_11 E.x E.b d_Drw_draw_263 rfl rfl ?_
        refine ialC E w (k := 29) (by decide) (show inb 2 9 by decide) d_Drw_draw_264 ?_
        refine wi_e (v := o32.1.2.2.1 29 2) rfl ?_
        refine lv_iconst (v := 1) E.x E.b d_Drw_draw_265 (by decide) ?_
        refine lv_iadd E.x E.b d_Drw_draw_266 ?_
        obtain ⟨σ33, e_σ33, h⟩ := lt_some h
        refine iasC E w (k := 29) (by decide) (show inb 2 9 by decide) e_σ33 d_Drw_draw_267 (fun H locs w => ?_)
        refine lv_aload_n E.x E.b d_Drw_draw_268 rfl (lv_at hl 0 rfl) ?_
        refine lv_aload_n E.x E.b d_Drw_draw_269 rfl (lv_at hl 3 rfl) ?_
        obtain ⟨o34, h_o34, h⟩ := bd_some h
        refine clV_Drw_fill E w (p1 := v3) h_o34 k1183 (by decide) hl.1 (Nat.le_of_ble_eq_true rfl) d_Drw_draw_270 (fun H locs w => ?_)
        exact bt_Drw_draw_273 E hret o rc_111 (L_Drw_draw_218 rc_111 n) hr_111 hr_218 o34 v2 v3 v4 v5 v10 v11 h w (lv_sub hl [0, 1, 2, 3, 4, 5, 6, 7] rfl)
def L_Drw_draw_131 (rc_111 : Sg → Nat → Nat → Int32 → Int32 → Int32 → Option (Sg × Int32)) : Nat → Sg → Nat → Nat → Int32 → Int32 → Int32 → Int32 → Option (Sg × Int32)
  | 0, _, _, _, _, _, _, _ => none
  | n + 1, σ, v2, v3, v4, v5, v10, v11 => ck (v2 < 3) (ck (v3 < 3) (if 3 ≤ v11 then (bd (F_Sha_cut σ) (fun o37 => bd (F_Sha_layAll o37) (fun o38 => L_Drw_draw_218 rc_111 100000 o38 v2 v3 v4 v5 v10 1))) else (bd (F_Ver_orderOf v4 v10 v11) (fun o39 => bd (F_Drw_vertexOf σ o39) (fun o40 => bd (F_Ver_load σ o40 v2 10) (fun o41 => bd (F_Pro_follow o41 v2) (fun o42 => bd (F_Sha_take o42.1 v11 10) (fun o43 => lt (v11 + 1) (fun y44 => L_Drw_draw_131 rc_111 n o43 v2 v3 v4 v5 v10 y44)))))))))
set_option maxRecDepth 10000 in
set_option maxHeartbeats 4000000 in
theorem lt_Drw_draw_131 {p : Program} {l : Launch} {e : Env} {R : Room} {s : State} {m : MethodId} {args : Array Value} {below : List Frame} {meth : Method} {c : Code} {D : va_G} {τ : ClassId × ClassId × ClassId} {B : Nat} {A : Nat → Prop} {ad : Nat → Nat} (E : Cx p R s m args meth c prog_5_method_3_code 13 "DrawingMachine$Drawing" 6 D τ B A) (hret : meth.sig.returnType = (some .int)) (o : Sg × Int32) (rc_111 : Sg → Nat → Nat → Int32 → Int32 → Int32 → Option (Sg × Int32)) (hr_111 : ∀ (σ : Sg) (v2 : Nat) (v3 : Nat) (v4 : Int32) (v5 : Int32) (v10 : Int32) (H : Heap) (locs : List Loc) (ls : Array Slot), rc_111 σ v2 v3 v4 v5 v10 = some o → Wd s D A (wdC τ σ ad) H locs → lv_has ls 13 [(0, .ref (ad 61)), (1, .ref (ad 59)), (2, .ref (ad (67 + v2))), (3, .ref (ad (67 + v3))), (4, .int v4), (5, .int v5), (10, .int v10)] → W p l e R s m args below meth c H locs 0 0 (QI below args s A D τ (wdC τ o.1 ad) o.2) (F0 m 111 ls [])) : ∀ (n : Nat) (σ : Sg) (v2 : Nat) (v3 : Nat) (v4 : Int32) (v5 : Int32) (v10 : Int32) (v11 : Int32) (H : Heap) (locs : List Loc) (ls : Array Slot), L_Drw_draw_131 rc_111 n σ v2 v3 v4 v5 v10 v11 = some o → Wd s D A (wdC τ σ ad) H locs → lv_has ls 13 [(0, .ref (ad 61)), (1, .ref (ad 59)), (2, .ref (ad (67 + v2))), (3, .ref (ad (67 + v3))), (4, .int v4), (5, .int v5), (10, .int v10), (11, .int v11)] → W p l e R s m args below meth c H locs 0 0 (QI below args s A D τ (wdC τ o.1 ad) o.2) (F0 m 131 ls []) := by
  intro n
  induction n with
  | zero =>
    intro σ v2 v3 v4 v5 v10 v11 H locs ls h w hl
    cases h
  | succ n hr_131 =>
    intro σ v2 v3 v4 v5 v10 v11 H locs ls h w hl
    obtain ⟨c35, h⟩ := ck_some h
    obtain ⟨c36, h⟩ := ck_some h
    refine lv_iload E.x E.b d_Drw_draw_131 (lv_at hl 7 rfl) ?_
    refine lv_iconst (v := 3) E.x E.b d_Drw_draw_133 (by decide) ?_
    refine lv_icmp_ge (tgt := 201) E.x E.b d_Drw_draw_134 (by decide) (fun c => ?_) (fun c => ?_)
    ·
      replace h := ifT c h
      refine lv_aload_n E.x E.b d_Drw_draw_201 rfl (lv_at hl 0 rfl) ?_
      refine gC_Drw_shape E w k383 d_Drw_draw_202 ?_
      obtain ⟨o37, h_o37, h⟩ := bd_some h
      refine clV_Sha_cut E w h_o37 k1136 (by decide) hl.1 (Nat.le_of_ble_eq_true rfl) d_Drw_draw_205 (fun H locs w => ?_)
      refine lv_aload_n E.x E.b d_Drw_draw_208 rfl (lv_at hl 0 rfl) ?_
      refine gC_Drw_shape E w k383 d_Drw_draw_209 ?_
      obtain ⟨o38, h_o38, h⟩ := bd_some h
      refine clV_Sha_layAll E w h_o38 k1153 (by decide) hl.1 (Nat.le_of_ble_eq_true rfl) d_Drw_draw_212 (fun H locs w => ?_)
      refine lv_iconst (v := 1) E.x E.b d_Drw_draw_215 (by decide) ?_
      refine lv_istore (lv' := [(11, .int 1), (0, .ref (ad 61)), (1, .ref (ad 59)), (2, .ref (ad (67 + v2))), (3, .ref (ad (67 + v3))), (4, .int v4), (5, .int v5), (10, .int v10)]) E.x E.b d_Drw_draw_216 hl (by decide) rfl (fun ls hl => ?_)
      exact lt_Drw_draw_218 E hret o rc_111 hr_111 100000 o38 v2 v3 v4 v5 v10 1 _ _ _ h w (lv_sub hl [1, 2, 3, 4, 5, 6, 7, 0] rfl)
    ·
      replace h := ifF c h
      refine lv_aload_n E.x E.b d_Drw_draw_137 rfl (lv_at hl 0 rfl) ?_
      refine lv_aload_n E.x E.b d_Drw_draw_138 rfl (lv_at hl 1 rfl) ?_
      refine lv_iload E.x E.b d_Drw_draw_139 (lv_at hl 4 rfl) ?_
      refine lv_iload E.x E.b d_Drw_draw_141 (lv_at hl 6 rfl) ?_
      refine lv_iload E.x E.b d_Drw_draw_143 (lv_at hl 7 rfl) ?_
      obtain ⟨o39, h_o39, h⟩ := bd_some h
      refine clS_Ver_orderOf E w (x0 := v4) (x1 := v10) (x2 := v11) h_o39 k991 (by decide) hl.1 (Nat.le_of_ble_eq_true rfl) d_Drw_draw_145 (fun H locs w => ?_)
      obtain ⟨o40, h_o40, h⟩ := bd_some h
      refine clV_Drw_vertexOf E w (x1 := o39) h_o40 k994 (by decide) hl.1 (Nat.le_of_ble_eq_true rfl) d_Drw_draw_148 (fun H locs w => ?_)
      refine lv_istore (lv' := [(12, .int o40), (0, .ref (ad 61)), (1, .ref (ad 59)), (2, .ref (ad (67 + v2))), (3, .ref (ad (67 + v3))), (4, .int v4), (5, .int v5), (10, .int v10), (11, .int v11)]) E.x E.b d_Drw_draw_151 hl (by decide) rfl (fun ls hl => ?_)
      refine lv_aload_n E.x E.b d_Drw_draw_153 rfl (lv_at hl 1 rfl) ?_
      refine gC_Drw_vertices E w k382 d_Drw_draw_154 ?_
      refine lv_iload E.x E.b d_Drw_draw_157 (lv_at hl 0 rfl) ?_
      refine lv_aload_n E.x E.b d_Drw_draw_159 rfl (lv_at hl 3 rfl) ?_
      refine lv_aload_n E.x E.b d_Drw_draw_160 rfl (lv_at hl 1 rfl) ?_
      refine gC_Drw_processor E w k381 d_Drw_draw_161 ?_
      refine gC_Pro_bank E w k237 d_Drw_draw_164 ?_
      obtain ⟨o41, h_o41, h⟩ := bd_some h
      refine clV_Ver_load E w (x0 := o40) (p2 := v2) (ar2 := 10) h_o41 k1007 (by decide) hl.1 (Nat.le_of_ble_eq_true rfl) d_Drw_draw_167 (fun H locs w => ?_)
      refine lv_aload_n E.x E.b d_Drw_draw_170 rfl (lv_at hl 1 rfl) ?_
      refine gC_Drw_processor E w k381 d_Drw_draw_171 ?_
      refine lv_aload_n E.x E.b d_Drw_draw_174 rfl (lv_at hl 3 rfl) ?_
      obtain ⟨o42, h_o42, h⟩ := bd_some h
      refine clV_Pro_follow E w (p1 := v2) h_o42 k1024 (by decide) hl.1 (Nat.le_of_ble_eq_true rfl) d_Drw_draw_175 (fun H locs w => ?_)
      refine lv_pop E.x E.b d_Drw_draw_178 rfl ?_
      refine lv_aload_n E.x E.b d_Drw_draw_179 rfl (lv_at hl 1 rfl) ?_
      refine gC_Drw_shape E w k383 d_Drw_draw_180 ?_
      refine lv_iload E.x E.b d_Drw_draw_183 (lv_at hl 8 rfl) ?_
      refine lv_aload_n E.x E.b d_Drw_draw_185 rfl (lv_at hl 1 rfl) ?_
      refine gC_Drw_processor E w k381 d_Drw_draw_186 ?_
      refine gC_Pro_bank E w k237 d_Drw_draw_189 ?_
      obtain ⟨o43, h_o43, h⟩ := bd_some h
      refine clV_Sha_take E w (x0 := v11) (ar1 := 10) h_o43 k1131 (by decide) hl.1 (Nat.le_of_ble_eq_true rfl) d_Drw_draw_192 (fun H locs w => ?_)
      obtain ⟨y44, e_y44, h⟩ := lt_some h
      refine lv_iinc (v := y44) (lv' := [(11, .int y44), (12, .int o40), (0, .ref (ad 61)), (1, .ref (ad 59)), (2, .ref (ad (67 + v2))), (3, .ref (ad (67 + v3))), (4, .int v4), (5, .int v5), (10, .int v10)]) E.x E.b d_Drw_draw_195 hl (k := 8) rfl (e_y44) (by decide) rfl (fun ls hl => ?_)
      refine lv_goto (tgt := 131) E.x E.b d_Drw_draw_198 (by decide) ?_
      exact hr_131 o43 v2 v3 v4 v5 v10 y44 _ _ _ h w (lv_sub hl [2, 3, 4, 5, 6, 7, 8, 0] rfl)
def L_Drw_draw_111 : Nat → Sg → Nat → Nat → Int32 → Int32 → Int32 → Option (Sg × Int32)
  | 0, _, _, _, _, _, _ => none
  | n + 1, σ, v2, v3, v4, v5, v10 => ck (v2 < 3) (ck (v3 < 3) (if v5 ≤ v10 then (some (σ, 0)) else (lt (sA σ 29 (upd (σ.2.2.1 29) 0 ((σ.2.2.1 29 0) + 1))) (fun σ47 => L_Drw_draw_131 (L_Drw_draw_111 n) 100000 σ47 v2 v3 v4 v5 v10 0))))
set_option maxRecDepth 10000 in
set_option maxHeartbeats 4000000 in
theorem lt_Drw_draw_111 {p : Program} {l : Launch} {e : Env} {R : Room} {s : State} {m : MethodId} {args : Array Value} {below : List Frame} {meth : Method} {c : Code} {D : va_G} {τ : ClassId × ClassId × ClassId} {B : Nat} {A : Nat → Prop} {ad : Nat → Nat} (E : Cx p R s m args meth c prog_5_method_3_code 13 "DrawingMachine$Drawing" 6 D τ B A) (hret : meth.sig.returnType = (some .int)) (o : Sg × Int32) : ∀ (n : Nat) (σ : Sg) (v2 : Nat) (v3 : Nat) (v4 : Int32) (v5 : Int32) (v10 : Int32) (H : Heap) (locs : List Loc) (ls : Array Slot), L_Drw_draw_111 n σ v2 v3 v4 v5 v10 = some o → Wd s D A (wdC τ σ ad) H locs → lv_has ls 13 [(0, .ref (ad 61)), (1, .ref (ad 59)), (2, .ref (ad (67 + v2))), (3, .ref (ad (67 + v3))), (4, .int v4), (5, .int v5), (10, .int v10)] → W p l e R s m args below meth c H locs 0 0 (QI below args s A D τ (wdC τ o.1 ad) o.2) (F0 m 111 ls []) := by
  intro n
  induction n with
  | zero =>
    intro σ v2 v3 v4 v5 v10 H locs ls h w hl
    cases h
  | succ n hr_111 =>
    intro σ v2 v3 v4 v5 v10 H locs ls h w hl
    obtain ⟨c45, h⟩ := ck_some h
    obtain ⟨c46, h⟩ := ck_some h
    refine lv_iload E.x E.b d_Drw_draw_111 (lv_at hl 6 rfl) ?_
    refine lv_iload E.x E.b d_Drw_draw_113 (lv_at hl 5 rfl) ?_
    refine lv_icmp_ge (tgt := 285) E.x E.b d_Drw_draw_115 (by decide) (fun c => ?_) (fun c => ?_)
    ·
      replace h := ifT c h
      refine lv_iconst (v := 0) E.x E.b d_Drw_draw_285 (by decide) ?_
      obtain rfl := Option.some.inj h
      exact rt_i E w hret d_Drw_draw_286
    ·
      replace h := ifF c h
      refine lv_aload_n E.x E.b d_Drw_draw_118 rfl (lv_at hl 0 rfl) ?_
      refine gC_Drw_counts E w k373 d_Drw_draw_119 ?_
      refine lv_iconst (v := 0) E.x E.b d_Drw_draw_122 (by decide) ?_
      refine lv_dup2_11 E.x E.b d_Drw_draw_123 rfl rfl ?_
      refine ialC E w (k := 29) (by decide) (show inb 0 9 by decide) d_Drw_draw_124 ?_
      refine wi_e (v := σ.2.2.1 29 0) rfl ?_
      refine lv_iconst (v := 1) E.x E.b d_Drw_draw_125 (by decide) ?_
      refine lv_iadd E.x E.b d_Drw_draw_126 ?_
      obtain ⟨σ47, e_σ47, h⟩ := lt_some h
      refine iasC E w (k := 29) (by decide) (show inb 0 9 by decide) e_σ47 d_Drw_draw_127 (fun H locs w => ?_)
      refine lv_iconst (v := 0) E.x E.b d_Drw_draw_128 (by decide) ?_
      refine lv_istore (lv' := [(11, .int 0), (0, .ref (ad 61)), (1, .ref (ad 59)), (2, .ref (ad (67 + v2))), (3, .ref (ad (67 + v3))), (4, .int v4), (5, .int v5), (10, .int v10)]) E.x E.b d_Drw_draw_129 hl (by decide) rfl (fun ls hl => ?_)
      exact lt_Drw_draw_131 E hret o (L_Drw_draw_111 n) hr_111 100000 σ47 v2 v3 v4 v5 v10 0 _ _ _ h w (lv_sub hl [1, 2, 3, 4, 5, 6, 7, 0] rfl)
def F_Drw_draw (σ : Sg) (p2 : Nat) (p3 : Nat) : Option (Sg × Int32) := ck (p2 < 3) (ck (p3 < 3) (lt (σ.2.2.1 5 0) (fun y50 => bd (F_Ver_triangles y50 (σ.2.2.1 5 2)) (fun o51 => lt ((3 * ((σ.1 (23 + 3 * p2)).toInt64)) + ((((σ.1 0).toInt64) * ((σ.1 1).toInt64)) * ((σ.1 (23 + 3 * p3)).toInt64))) (fun y52 => lt ((σ.2.1 0) + (o51.toInt64 * y52)) (fun y53 => if y53 ≤ 8388608 then (lt (sJ σ 0 y53) (fun σ54 => ck (cpok 42 96 128 245 260) (lt (sA σ54 10 (va_cpy (σ54.2.2.1 1) (σ54.2.2.1 10) (42 : Int32).toNatClampNeg (96 : Int32).toNatClampNeg (128 : Int32).toNatClampNeg)) (fun σ56 => L_Drw_draw_111 100000 σ56 p2 p3 y50 o51 0)))) else (some (σ, 8))))))))
set_option maxRecDepth 10000 in
set_option maxHeartbeats 4000000 in
theorem c_Drw_draw (l : Launch) (D : va_G) (τ : ClassId × ClassId × ClassId) (B : Nat) (σ : Sg) (ad : Nat → Nat) (p2 : Nat) (p3 : Nat) (o : Sg × Int32) (h : F_Drw_draw σ p2 p3 = some o) : MI l y_Drw_draw (Cond.code y_Drw_draw prog_5_method_3_code 13 (some .int)) 6 D τ B [.ref (ad 61), .ref (ad 59), .ref (ad (67 + p2)), .ref (ad (67 + p3))] (wdC τ σ ad) (wdC τ o.1 ad) o.2 := by
  refine en_i (by decide) (Nat.le_of_ble_eq_true rfl) ?_
  intro p e R s m args below meth c H locs ls A E hret w hl
  have E : Cx p R s m args meth c prog_5_method_3_code 13 "DrawingMachine$Drawing" 6 D τ B A := E
  have hl : lv_has ls 13 [(0, .ref (ad 61)), (1, .ref (ad 59)), (2, .ref (ad (67 + p2))), (3, .ref (ad (67 + p3)))] := hl
  obtain ⟨c48, h⟩ := ck_some h
  obtain ⟨c49, h⟩ := ck_some h
  refine lv_aload_n E.x E.b d_Drw_draw_0 rfl (lv_at hl 1 rfl) ?_
  refine gC_Cou_given E w k111 d_Drw_draw_1 ?_
  refine lv_iconst (v := 0) E.x E.b d_Drw_draw_4 (by decide) ?_
  refine ialC E w (k := 5) (by decide) (show inb 0 8 by decide) d_Drw_draw_5 ?_
  refine wi_e (v := σ.2.2.1 5 0) rfl ?_
  obtain ⟨y50, e_y50, h⟩ := lt_some h
  refine wi_e (v := y50) e_y50 ?_
  refine lv_istore (lv' := [(4, .int y50), (0, .ref (ad 61)), (1, .ref (ad 59)), (2, .ref (ad (67 + p2))), (3, .ref (ad (67 + p3)))]) E.x E.b d_Drw_draw_6 hl (by decide) rfl (fun ls hl => ?_)
  refine lv_iload E.x E.b d_Drw_draw_8 (lv_at hl 0 rfl) ?_
  refine lv_aload_n E.x E.b d_Drw_draw_10 rfl (lv_at hl 2 rfl) ?_
  refine gC_Cou_given E w k111 d_Drw_draw_11 ?_
  refine lv_iconst (v := 2) E.x E.b d_Drw_draw_14 (by decide) ?_
  refine ialC E w (k := 5) (by decide) (show inb 2 8 by decide) d_Drw_draw_15 ?_
  refine wi_e (v := σ.2.2.1 5 2) rfl ?_
  obtain ⟨o51, h_o51, h⟩ := bd_some h
  refine clS_Ver_triangles E w (x0 := y50) (x1 := (σ.2.2.1 5 2)) h_o51 k984 (by decide) hl.1 (Nat.le_of_ble_eq_true rfl) d_Drw_draw_16 (fun H locs w => ?_)
  refine lv_istore (lv' := [(5, .int o51), (4, .int y50), (0, .ref (ad 61)), (1, .ref (ad 59)), (2, .ref (ad (67 + p2))), (3, .ref (ad (67 + p3)))]) E.x E.b d_Drw_draw_19 hl (by decide) rfl (fun ls hl => ?_)
  refine lv_ldc2 (v := 3) E.x E.b E.o (E.w _ k988) d_Drw_draw_21 ?_
  refine lv_aload_n E.x E.b d_Drw_draw_24 rfl (lv_at hl 4 rfl) ?_
  refine gC_Prg_steps E w (pid := p2) c48 k418 d_Drw_draw_25 ?_
  refine lv_i2l (v := (σ.1 (23 + 3 * p2)).toInt64) E.x E.b d_Drw_draw_28 rfl ?_
  refine lv_lmul E.x E.b d_Drw_draw_29 ?_
  refine lv_aload_n E.x E.b d_Drw_draw_30 rfl (lv_at hl 2 rfl) ?_
  refine gC_Drw_picture E w k380 d_Drw_draw_31 ?_
  refine gC_Pic_wide E w k79 d_Drw_draw_34 ?_
  refine lv_i2l (v := (σ.1 0).toInt64) E.x E.b d_Drw_draw_37 rfl ?_
  refine lv_aload_n E.x E.b d_Drw_draw_38 rfl (lv_at hl 2 rfl) ?_
  refine gC_Drw_picture E w k380 d_Drw_draw_39 ?_
  refine gC_Pic_high E w k82 d_Drw_draw_42 ?_
  refine lv_i2l (v := (σ.1 1).toInt64) E.x E.b d_Drw_draw_45 rfl ?_
  refine lv_lmul E.x E.b d_Drw_draw_46 ?_
  refine lv_aload_n E.x E.b d_Drw_draw_47 rfl (lv_at hl 5 rfl) ?_
  refine gC_Prg_steps E w (pid := p3) c49 k418 d_Drw_draw_48 ?_
  refine lv_i2l (v := (σ.1 (23 + 3 * p3)).toInt64) E.x E.b d_Drw_draw_51 rfl ?_
  refine lv_lmul E.x E.b d_Drw_draw_52 ?_
  refine lv_ladd E.x E.b d_Drw_draw_53 ?_
  obtain ⟨y52, e_y52, h⟩ := lt_some h
  refine wl_e (v := y52) e_y52 ?_
  refine lv_lstore (lv' := [(6, .long y52), (5, .int o51), (4, .int y50), (0, .ref (ad 61)), (1, .ref (ad 59)), (2, .ref (ad (67 + p2))), (3, .ref (ad (67 + p3)))]) E.x E.b d_Drw_draw_54 hl (by decide) rfl (fun ls hl => ?_)
  refine lv_aload_n E.x E.b d_Drw_draw_56 rfl (lv_at hl 4 rfl) ?_
  refine gC_Cou_work E w k130 d_Drw_draw_57 ?_
  refine lv_iload E.x E.b d_Drw_draw_60 (lv_at hl 1 rfl) ?_
  refine lv_i2l (v := o51.toInt64) E.x E.b d_Drw_draw_62 rfl ?_
  refine lv_lload E.x E.b d_Drw_draw_63 (lv_at hl 0 rfl) ?_
  refine lv_lmul E.x E.b d_Drw_draw_65 ?_
  refine lv_ladd E.x E.b d_Drw_draw_66 ?_
  obtain ⟨y53, e_y53, h⟩ := lt_some h
  refine wl_e (v := y53) e_y53 ?_
  refine lv_lstore (lv' := [(8, .long y53), (6, .long y52), (5, .int o51), (4, .int y50), (0, .ref (ad 61)), (1, .ref (ad 59)), (2, .ref (ad (67 + p2))), (3, .ref (ad (67 + p3)))]) E.x E.b d_Drw_draw_67 hl (by decide) rfl (fun ls hl => ?_)
  refine lv_lload E.x E.b d_Drw_draw_69 (lv_at hl 0 rfl) ?_
  refine lv_ldc2 (v := 8388608) E.x E.b E.o (E.w _ k989) d_Drw_draw_71 ?_
  refine W.lcmp E.x E.b d_Drw_draw_74 ?_
  refine lv_if_le (tgt := 81) E.x E.b d_Drw_draw_75 (by decide) (fun c => ?_) (fun c => ?_)
  ·
    replace h := ifT (lgc_le.mp c) h
    refine lv_aload_n E.x E.b d_Drw_draw_81 rfl (lv_at hl 5 rfl) ?_
    refine lv_lload E.x E.b d_Drw_draw_82 (lv_at hl 0 rfl) ?_
    obtain ⟨σ54, e_σ54, h⟩ := lt_some h
    refine pC_Cou_work E w k130 e_σ54 d_Drw_draw_84 (fun H locs w => ?_)
    refine lv_aload_n E.x E.b d_Drw_draw_87 rfl (lv_at hl 4 rfl) ?_
    refine gC_Drw_kept E w k379 d_Drw_draw_88 ?_
    refine lv_bipush (v := 42) E.x E.b d_Drw_draw_91 (by decide) ?_
    refine lv_aload_n E.x E.b d_Drw_draw_93 rfl (lv_at hl 4 rfl) ?_
    refine gC_Drw_processor E w k381 d_Drw_draw_94 ?_
    refine gC_Pro_bank E w k237 d_Drw_draw_97 ?_
    refine lv_bipush (v := 96) E.x E.b d_Drw_draw_100 (by decide) ?_
    refine lv_sipush (v := 128) E.x E.b d_Drw_draw_102 (by decide) ?_
    obtain ⟨c55, h⟩ := ck_some h
    obtain ⟨σ56, e_σ56, h⟩ := lt_some h
    refine cpyC E w hl.1 k990 k645 k644 k31 (k0 := 1) (k1 := 10) (by decide) (by decide) c55 e_σ56 (Nat.le_of_ble_eq_true rfl) d_Drw_draw_105 (fun H locs w => ?_)
    refine lv_iconst (v := 0) E.x E.b d_Drw_draw_108 (by decide) ?_
    refine lv_istore (lv' := [(10, .int 0), (8, .long y53), (6, .long y52), (5, .int o51), (4, .int y50), (0, .ref (ad 61)), (1, .ref (ad 59)), (2, .ref (ad (67 + p2))), (3, .ref (ad (67 + p3)))]) E.x E.b d_Drw_draw_109 hl (by decide) rfl (fun ls hl => ?_)
    exact lt_Drw_draw_111 E hret o 100000 σ56 p2 p3 y50 o51 0 _ _ _ h w (lv_sub hl [5, 6, 7, 8, 4, 3, 0] rfl)
  ·
    replace h := ifF (fun h9 => c (lgc_le.mpr h9)) h
    refine lv_bipush (v := 8) E.x E.b d_Drw_draw_78 (by decide) ?_
    obtain rfl := Option.some.inj h
    exact rt_i E w hret d_Drw_draw_80
theorem clV_Drw_draw {p : Program} {l : Launch} {e : Env} {R : Room} {s : State} {m : MethodId} {args : Array Value} {below : List Frame} {meth : Method} {c : Code} {H : Heap} {locs : List Loc} {Q : State → Prop} {cc : ByteArray} {nL pc lev : Nat} {own : String} {D : va_G} {τ : ClassId × ClassId × ClassId} {B : Nat} {A : Nat → Prop} {σ : Sg} {ad : Nat → Nat} {ls : Array Slot} {rest : List Value} (E : Cx p R s m args meth c cc nL own lev D τ B A) (w : Wd s D A (wdC τ σ ad) H locs) {p2 : Nat} {p3 : Nat} {o : Sg × Int32} (h : F_Drw_draw σ p2 p3 = some o) {index : Nat} (hlk : Cond.methodLink own index y_Drw_draw ∈ tw) (hlev : 6 < lev) (hsz : ls.size = nL) (hr : (rest.map fun v => v.category).sum ≤ 8) (hd : decode cc pc = .ok (.invokevirtual index, 3)) (kk : ∀ (H1 : Heap) (locs1 : List Loc), Wd s D A (wdC τ o.1 ad) H1 locs1 → W p l e R s m args below meth c H1 locs1 0 0 Q (F0 m (pc + 3) ls (.int o.2 :: rest))) : W p l e R s m args below meth c H locs 0 0 Q (F0 m pc ls (.ref (ad (67 + p3)) :: .ref (ad (67 + p2)) :: .ref (ad 59) :: .ref (ad 61) :: rest)) :=
  cr_i w E.C (va_runV (As := [.ref (ad 59), .ref (ad (67 + p2)), .ref (ad (67 + p3))]) (rest := rest) E.fix (c_Drw_draw l D τ B σ ad p2 p3 o h H.size) (cwV 3 E.w (tw_pre (tw_good k983) (l := [_, _, _, _]) (List.forall_mem_cons.mpr ⟨hlk, List.forall_mem_cons.mpr ⟨k981, List.forall_mem_cons.mpr ⟨k982, List.forall_mem_cons.mpr ⟨k7, fun _ h => absurd h List.not_mem_nil⟩⟩⟩⟩)) rfl rfl rfl (by decide +kernel) (E.rm hlev (by decide))) (wd_preV w E.C [.ref (ad 59), .ref (ad (67 + p2)), .ref (ad (67 + p3))] rcC_Drw rfl) rfl rfl hsz rfl (lv_room hr) hd ⟨Nat.zero_le _, Nat.zero_le _⟩) kk
