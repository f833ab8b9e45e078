theorem clV_Cou_add {p : Program} {l : Launch} {e : Env} {R : Room} {s : State} {m : MethodId} {args : Array Value} {below : List Frame} {meth : Method} {c : Code} {H : Heap} {locs : List Loc} {Q : State → Prop} {cc : ByteArray} {nL pc lev : Nat} {own : String} {D : va_G} {τ : ClassId × ClassId × ClassId} {B : Nat} {A : Nat → Prop} {σ : Sg} {ad : Nat → Nat} {ls : Array Slot} {rest : List Value} (E : Cx p R s m args meth c cc nL own lev D τ B A) (w : Wd s D A (wdC τ σ ad) H locs) {x0 : Int32} {o : Sg} (h : F_Cou_add σ x0 = some o) {index : Nat} (hlk : Cond.methodLink own index y_Cou_add ∈ tw) (hlev : 0 < lev) (hsz : ls.size = nL) (hr : (rest.map fun v => v.category).sum ≤ 8) (hd : decode cc pc = .ok (.invokevirtual index, 3)) (kk : ∀ (H1 : Heap) (locs1 : List Loc), Wd s D A (wdC τ o ad) H1 locs1 → W p l e R s m args below meth c H1 locs1 0 0 Q (F0 m (pc + 3) ls (rest))) : W p l e R s m args below meth c H locs 0 0 Q (F0 m pc ls (.int x0 :: .ref (ad 59) :: rest)) :=
  cr_v w E.C (va_runV (As := [.int x0]) (rest := rest) E.fix (c_Cou_add l D τ B σ ad x0 o h H.size) (cwV 1 E.w (tw_pre (tw_good k899) (l := [_, _, _, _]) (List.forall_mem_cons.mpr ⟨hlk, List.forall_mem_cons.mpr ⟨k897, List.forall_mem_cons.mpr ⟨k898, List.forall_mem_cons.mpr ⟨k5, fun _ h => absurd h List.not_mem_nil⟩⟩⟩⟩)) rfl rfl rfl (by decide +kernel) (E.rm hlev (by decide))) (wd_preV w E.C [.int x0] rcC_Cou rfl) rfl rfl hsz rfl (lv_room hr) hd ⟨Nat.zero_le _, Nat.zero_le _⟩) kk


theorem clS_DM_isSide {p : Program} {l : Launch} {e : Env} {R : Room} {s : State} {m : MethodId} {args : Array Value} {below : List Frame} {meth : Method} {c : Code} {H : Heap} {locs : List Loc} {Q : State → Prop} {cc : ByteArray} {nL pc lev : Nat} {own : String} {D : va_G} {τ : ClassId × ClassId × ClassId} {B : Nat} {A : Nat → Prop} {σ : Sg} {ad : Nat → Nat} {ls : Array Slot} {rest : List Value} (E : Cx p R s m args meth c cc nL own lev D τ B A) (w : Wd s D A (wdC τ σ ad) H locs) {x0 : Int32} {o : Int32} (h : F_DM_isSide x0 = some o) {index : Nat} (hlk : Cond.methodLink own index y_DM_isSide ∈ tw) (hlev : 0 < lev) (hsz : ls.size = nL) (hr : (rest.map fun v => v.category).sum ≤ 8) (hd : decode cc pc = .ok (.invokestatic index, 3)) (kk : ∀ (H1 : Heap) (locs1 : List Loc), Wd s D A (wdC τ σ ad) H1 locs1 → W p l e R s m args below meth c H1 locs1 0 0 Q (F0 m (pc + 3) ls (.int o :: rest))) : W p l e R s m args below meth c H locs 0 0 Q (F0 m pc ls (.int x0 :: rest)) :=
  cr_i w E.C (va_runS (As := [.int x0]) (rest := rest) E.fix (c_DM_isSide l D τ B σ ad x0 o h H.size) (va_cwS 1 E.w (tw_pre (tw_good k481) (l := [_, _, _]) (List.forall_mem_cons.mpr ⟨hlk, List.forall_mem_cons.mpr ⟨k480, List.forall_mem_cons.mpr ⟨k1, fun _ h => absurd h List.not_mem_nil⟩⟩⟩)) rfl rfl rfl (by decide +kernel) (E.rm hlev (by decide))) (wd_pre w E.C [.int x0]) rfl rfl hsz rfl (lv_room hr) hd ⟨Nat.zero_le _, Nat.zero_le _⟩) kk


theorem clS_DM_isTileSide {p : Program} {l : Launch} {e : Env} {R : Room} {s : State} {m : MethodId} {args : Array Value} {below : List Frame} {meth : Method} {c : Code} {H : Heap} {locs : List Loc} {Q : State → Prop} {cc : ByteArray} {nL pc lev : Nat} {own : String} {D : va_G} {τ : ClassId × ClassId × ClassId} {B : Nat} {A : Nat → Prop} {σ : Sg} {ad : Nat → Nat} {ls : Array Slot} {rest : List Value} (E : Cx p R s m args meth c cc nL own lev D τ B A) (w : Wd s D A (wdC τ σ ad) H locs) {x0 : Int32} {o : Int32} (h : F_DM_isTileSide x0 = some o) {index : Nat} (hlk : Cond.methodLink own index y_DM_isTileSide ∈ tw) (hlev : 0 < lev) (hsz : ls.size = nL) (hr : (rest.map fun v => v.category).sum ≤ 8) (hd : decode cc pc = .ok (.invokestatic index, 3)) (kk : ∀ (H1 : Heap) (locs1 : List Loc), Wd s D A (wdC τ σ ad) H1 locs1 → W p l e R s m args below meth c H1 locs1 0 0 Q (F0 m (pc + 3) ls (.int o :: rest))) : W p l e R s m args below meth c H locs 0 0 Q (F0 m pc ls (.int x0 :: rest)) :=
  cr_i w E.C (va_runS (As := [.int x0]) (rest := rest) E.fix (c_DM_isTileSide l D τ B σ ad x0 o h H.size) (va_cwS 1 E.w (tw_pre (tw_good k484) (l := [_, _, _]) (List.forall_mem_cons.mpr ⟨hlk, List.forall_mem_cons.mpr ⟨k483, List.forall_mem_cons.mpr ⟨k1, fun _ h => absurd h List.not_mem_nil⟩⟩⟩)) rfl rfl rfl (by decide +kernel) (E.rm hlev (by decide))) (wd_pre w E.C [.int x0]) rfl rfl hsz rfl (lv_room hr) hd ⟨Nat.zero_le _, Nat.zero_le _⟩) kk

theorem d_Pic_makeNew_0 : decode prog_6_method_2_code 0 = .ok (.aload_n 0, 1) := by decide +kernel
theorem d_Pic_makeNew_1 : decode prog_6_method_2_code 1 = .ok (.iload_n 1, 1) := by decide +kernel
theorem d_Pic_makeNew_2 : decode prog_6_method_2_code 2 = .ok (.putfield 9, 3) := by decide +kernel
theorem d_Pic_makeNew_5 : decode prog_6_method_2_code 5 = .ok (.aload_n 0, 1) := by decide +kernel
theorem d_Pic_makeNew_6 : decode prog_6_method_2_code 6 = .ok (.iload_n 2, 1) := by decide +kernel
theorem d_Pic_makeNew_7 : decode prog_6_method_2_code 7 = .ok (.putfield 15, 3) := by decide +kernel
theorem d_Pic_makeNew_10 : decode prog_6_method_2_code 10 = .ok (.aload_n 0, 1) := by decide +kernel
theorem d_Pic_makeNew_11 : decode prog_6_method_2_code 11 = .ok (.getfield 9, 3) := by decide +kernel
theorem d_Pic_makeNew_14 : decode prog_6_method_2_code 14 = .ok (.aload_n 0, 1) := by decide +kernel
theorem d_Pic_makeNew_15 : decode prog_6_method_2_code 15 = .ok (.getfield 15, 3) := by decide +kernel
theorem d_Pic_makeNew_18 : decode prog_6_method_2_code 18 = .ok (.imul, 1) := by decide +kernel
theorem d_Pic_makeNew_19 : decode prog_6_method_2_code 19 = .ok (.aload_n 0, 1) := by decide +kernel
theorem d_Pic_makeNew_20 : decode prog_6_method_2_code 20 = .ok (.getfield 18, 3) := by decide +kernel
theorem d_Pic_makeNew_23 : decode prog_6_method_2_code 23 = .ok (.arraylength, 1) := by decide +kernel
theorem d_Pic_makeNew_24 : decode prog_6_method_2_code 24 = .ok (.if_icmp .le 51, 3) := by decide +kernel
theorem d_Pic_makeNew_75 : decode prog_6_method_2_code 75 = .ok (.aload_n 0, 1) := by decide +kernel
theorem d_Pic_makeNew_76 : decode prog_6_method_2_code 76 = .ok (.getfield 18, 3) := by decide +kernel
theorem d_Pic_makeNew_79 : decode prog_6_method_2_code 79 = .ok (.iconst 0, 1) := by decide +kernel
theorem d_Pic_makeNew_80 : decode prog_6_method_2_code 80 = .ok (.aload_n 0, 1) := by decide +kernel
theorem d_Pic_makeNew_81 : decode prog_6_method_2_code 81 = .ok (.getfield 9, 3) := by decide +kernel
theorem d_Pic_makeNew_84 : decode prog_6_method_2_code 84 = .ok (.aload_n 0, 1) := by decide +kernel
theorem d_Pic_makeNew_85 : decode prog_6_method_2_code 85 = .ok (.getfield 15, 3) := by decide +kernel
theorem d_Pic_makeNew_88 : decode prog_6_method_2_code 88 = .ok (.imul, 1) := by decide +kernel
theorem d_Pic_makeNew_89 : decode prog_6_method_2_code 89 = .ok (.iconst 0, 1) := by decide +kernel
theorem d_Pic_makeNew_90 : decode prog_6_method_2_code 90 = .ok (.invokestatic 47, 3) := by decide +kernel
theorem d_Pic_makeNew_93 : decode prog_6_method_2_code 93 = .ok (.aload_n 0, 1) := by decide +kernel
theorem d_Pic_makeNew_94 : decode prog_6_method_2_code 94 = .ok (.getfield 22, 3) := by decide +kernel
theorem d_Pic_makeNew_97 : decode prog_6_method_2_code 97 = .ok (.iconst 0, 1) := by decide +kernel
theorem d_Pic_makeNew_98 : decode prog_6_method_2_code 98 = .ok (.aload_n 0, 1) := by decide +kernel
theorem d_Pic_makeNew_99 : decode prog_6_method_2_code 99 = .ok (.getfield 9, 3) := by decide +kernel
theorem d_Pic_makeNew_102 : decode prog_6_method_2_code 102 = .ok (.aload_n 0, 1) := by decide +kernel
theorem d_Pic_makeNew_103 : decode prog_6_method_2_code 103 = .ok (.getfield 15, 3) := by decide +kernel
theorem d_Pic_makeNew_106 : decode prog_6_method_2_code 106 = .ok (.imul, 1) := by decide +kernel
theorem d_Pic_makeNew_107 : decode prog_6_method_2_code 107 = .ok (.iconst 0, 1) := by decide +kernel
theorem d_Pic_makeNew_108 : decode prog_6_method_2_code 108 = .ok (.invokestatic 47, 3) := by decide +kernel
theorem d_Pic_makeNew_111 : decode prog_6_method_2_code 111 = .ok (.aload_n 0, 1) := by decide +kernel
theorem d_Pic_makeNew_112 : decode prog_6_method_2_code 112 = .ok (.getfield 25, 3) := by decide +kernel
theorem d_Pic_makeNew_115 : decode prog_6_method_2_code 115 = .ok (.iconst 0, 1) := by decide +kernel
theorem d_Pic_makeNew_116 : decode prog_6_method_2_code 116 = .ok (.aload_n 0, 1) := by decide +kernel
theorem d_Pic_makeNew_117 : decode prog_6_method_2_code 117 = .ok (.getfield 9, 3) := by decide +kernel
theorem d_Pic_makeNew_120 : decode prog_6_method_2_code 120 = .ok (.aload_n 0, 1) := by decide +kernel
theorem d_Pic_makeNew_121 : decode prog_6_method_2_code 121 = .ok (.getfield 15, 3) := by decide +kernel
theorem d_Pic_makeNew_124 : decode prog_6_method_2_code 124 = .ok (.imul, 1) := by decide +kernel
theorem d_Pic_makeNew_125 : decode prog_6_method_2_code 125 = .ok (.iconst 0, 1) := by decide +kernel
theorem d_Pic_makeNew_126 : decode prog_6_method_2_code 126 = .ok (.invokestatic 47, 3) := by decide +kernel
theorem d_Pic_makeNew_129 : decode prog_6_method_2_code 129 = .ok (.return_, 1) := by decide +kernel
def F_Pic_makeNew (σ : Sg) (x0 : Int32) (x1 : Int32) : Option (Sg) := lt (sI σ 0 x0) (fun σ6 => lt (sI σ6 1 x1) (fun σ7 => if ((σ7.1 0) * (σ7.1 1)) ≤ (Int32.ofNat (lenC σ7 2)) then (bd (F_Arr_fill1 σ7 2 0 ((σ7.1 0) * (σ7.1 1)) 0) (fun o8 => bd (F_Arr_fill1 o8 3 0 ((o8.1 0) * (o8.1 1)) 0) (fun o9 => bd (F_Arr_fill1 o9 4 0 ((o9.1 0) * (o9.1 1)) 0) (fun o10 => some o10)))) else (none)))
set_option maxRecDepth 10000 in
set_option maxHeartbeats 4000000 in
theorem c_Pic_makeNew (l : Launch) (D : va_G) (τ : ClassId × ClassId × ClassId) (B : Nat) (σ : Sg) (ad : Nat → Nat) (x0 : Int32) (x1 : Int32) (o : Sg) (h : F_Pic_makeNew σ x0 x1 = some o) : MV l y_Pic_makeNew (Cond.code y_Pic_makeNew prog_6_method_2_code 4 none) 2 D τ B [.ref (ad 58), .int x0, .int x1] (wdC τ σ ad) (wdC τ o ad) := by
  refine en_v (by decide) (Nat.le_of_ble_eq_true rfl) ?_
  intro p e R s m args below meth c H locs ls A E hret w hl
  have E : Cx p R s m args meth c prog_6_method_2_code 4 "DrawingMachine$Picture" 2 D τ B A := E
  have hl : lv_has ls 4 [(0, .ref (ad 58)), (1, .int x0), (2, .int x1)] := hl
  refine lv_aload_n E.x E.b d_Pic_makeNew_0 rfl (lv_at hl 0 rfl) ?_
  refine lv_iload_n E.x E.b d_Pic_makeNew_1 rfl (lv_at hl 1 rfl) ?_
  obtain ⟨σ6, e_σ6, h⟩ := lt_some h
  refine pC_Pic_wide E w k78 e_σ6 d_Pic_makeNew_2 (fun H locs w => ?_)
  refine lv_aload_n E.x E.b d_Pic_makeNew_5 rfl (lv_at hl 0 rfl) ?_
  refine lv_iload_n E.x E.b d_Pic_makeNew_6 rfl (lv_at hl 2 rfl) ?_
  obtain ⟨σ7, e_σ7, h⟩ := lt_some h
  refine pC_Pic_high E w k81 e_σ7 d_Pic_makeNew_7 (fun H locs w => ?_)
  refine lv_aload_n E.x E.b d_Pic_makeNew_10 rfl (lv_at hl 0 rfl) ?_
  refine gC_Pic_wide E w k78 d_Pic_makeNew_11 ?_
  refine lv_aload_n E.x E.b d_Pic_makeNew_14 rfl (lv_at hl 0 rfl) ?_
  refine gC_Pic_high E w k81 d_Pic_makeNew_15 ?_
  refine lv_imul E.x E.b d_Pic_makeNew_18 ?_
  refine lv_aload_n E.x E.b d_Pic_makeNew_19 rfl (lv_at hl 0 rfl) ?_
  refine gC_Pic_colours E w k84 d_Pic_makeNew_20 ?_
  refine alenC E w (k := 2) (by decide) d_Pic_makeNew_23 ?_
  refine lv_icmp_le (tgt := 75) E.x E.b d_Pic_makeNew_24 (by decide) (fun c => ?_) (fun c => ?_)
  ·
    replace h := ifT c h
    refine lv_aload_n E.x E.b d_Pic_makeNew_75 rfl (lv_at hl 0 rfl) ?_
    refine gC_Pic_colours E w k84 d_Pic_makeNew_76 ?_
    refine lv_iconst (v := 0) E.x E.b d_Pic_makeNew_79 (by decide) ?_
    refine lv_aload_n E.x E.b d_Pic_makeNew_80 rfl (lv_at hl 0 rfl) ?_
    refine gC_Pic_wide E w k78 d_Pic_makeNew_81 ?_
    refine lv_aload_n E.x E.b d_Pic_makeNew_84 rfl (lv_at hl 0 rfl) ?_
    refine gC_Pic_high E w k81 d_Pic_makeNew_85 ?_
    refine lv_imul E.x E.b d_Pic_makeNew_88 ?_
    refine lv_iconst (v := 0) E.x E.b d_Pic_makeNew_89 (by decide) ?_
    obtain ⟨o8, h_o8, h⟩ := bd_some h
    refine clS_Arr_fill1 E w (ar0 := 2) (x1 := 0) (x2 := ((σ7.1 0) * (σ7.1 1))) (x3 := 0) h_o8 k565 (by decide) hl.1 (Nat.le_of_ble_eq_true rfl) d_Pic_makeNew_90 (fun H locs w => ?_)
    refine lv_aload_n E.x E.b d_Pic_makeNew_93 rfl (lv_at hl 0 rfl) ?_
    refine gC_Pic_depths E w k85 d_Pic_makeNew_94 ?_
    refine lv_iconst (v := 0) E.x E.b d_Pic_makeNew_97 (by decide) ?_
    refine lv_aload_n E.x E.b d_Pic_makeNew_98 rfl (lv_at hl 0 rfl) ?_
    refine gC_Pic_wide E w k78 d_Pic_makeNew_99 ?_
    refine lv_aload_n E.x E.b d_Pic_makeNew_102 rfl (lv_at hl 0 rfl) ?_
    refine gC_Pic_high E w k81 d_Pic_makeNew_103 ?_
    refine lv_imul E.x E.b d_Pic_makeNew_106 ?_
    refine lv_iconst (v := 0) E.x E.b d_Pic_makeNew_107 (by decide) ?_
    obtain ⟨o9, h_o9, h⟩ := bd_some h
    refine clS_Arr_fill1 E w (ar0 := 3) (x1 := 0) (x2 := ((o8.1 0) * (o8.1 1))) (x3 := 0) h_o9 k565 (by decide) hl.1 (Nat.le_of_ble_eq_true rfl) d_Pic_makeNew_108 (fun H locs w => ?_)
    refine lv_aload_n E.x E.b d_Pic_makeNew_111 rfl (lv_at hl 0 rfl) ?_
    refine gC_Pic_stencils E w k86 d_Pic_makeNew_112 ?_
    refine lv_iconst (v := 0) E.x E.b d_Pic_makeNew_115 (by decide) ?_
    refine lv_aload_n E.x E.b d_Pic_makeNew_116 rfl (lv_at hl 0 rfl) ?_
    refine gC_Pic_wide E w k78 d_Pic_makeNew_117 ?_
    refine lv_aload_n E.x E.b d_Pic_makeNew_120 rfl (lv_at hl 0 rfl) ?_
    refine gC_Pic_high E w k81 d_Pic_makeNew_121 ?_
    refine lv_imul E.x E.b d_Pic_makeNew_124 ?_
    refine lv_iconst (v := 0) E.x E.b d_Pic_makeNew_125 (by decide) ?_
    obtain ⟨o10, h_o10, h⟩ := bd_some h
    refine clS_Arr_fill1 E w (ar0 := 4) (x1 := 0) (x2 := ((o9.1 0) * (o9.1 1))) (x3 := 0) h_o10 k565 (by decide) hl.1 (Nat.le_of_ble_eq_true rfl) d_Pic_makeNew_126 (fun H locs w => ?_)
    obtain rfl := Option.some.inj h
    exact rt_v E w hret d_Pic_makeNew_129
  ·
    replace h := ifF c h
    cases h

theorem clV_Pic_makeNew {p : Program} {l : Launch} {e : Env} {R : Room} {s : State} {m : MethodId} {args : Array Value} {below : List Frame} {meth : Method} {c : Code} {H : Heap} {locs : List Loc} {Q : State → Prop} {cc : ByteArray} {nL pc lev : Nat} {own : String} {D : va_G} {τ : ClassId × ClassId × ClassId} {B : Nat} {A : Nat → Prop} {σ : Sg} {ad : Nat → Nat} {ls : Array Slot} {rest : List Value} (E : Cx p R s m args meth c cc nL own lev D τ B A) (w : Wd s D A (wdC τ σ ad) H locs) {x0 : Int32} {x1 : Int32} {o : Sg} (h : F_Pic_makeNew σ x0 x1 = some o) {index : Nat} (hlk : Cond.methodLink own index y_Pic_makeNew ∈ tw) (hlev : 2 < lev) (hsz : ls.size = nL) (hr : (rest.map fun v => v.category).sum ≤ 8) (hd : decode cc pc = .ok (.invokevirtual index, 3)) (kk : ∀ (H1 : Heap) (locs1 : List Loc), Wd s D A (wdC τ o ad) H1 locs1 → W p l e R s m args below meth c H1 locs1 0 0 Q (F0 m (pc + 3) ls (rest))) : W p l e R s m args below meth c H locs 0 0 Q (F0 m pc ls (.int x1 :: .int x0 :: .ref (ad 58) :: rest)) :=
  cr_v w E.C (va_runV (As := [.int x0, .int x1]) (rest := rest) E.fix (c_Pic_makeNew l D τ B σ ad x0 x1 o h H.size) (cwV 2 E.w (tw_pre (tw_good k558) (l := [_, _, _, _]) (List.forall_mem_cons.mpr ⟨hlk, List.forall_mem_cons.mpr ⟨k556, List.forall_mem_cons.mpr ⟨k557, List.forall_mem_cons.mpr ⟨k4, fun _ h => absurd h List.not_mem_nil⟩⟩⟩⟩)) rfl rfl rfl (by decide +kernel) (E.rm hlev (by decide))) (wd_preV w E.C [.int x0, .int x1] rcC_Pic rfl) rfl rfl hsz rfl (lv_room hr) hd ⟨Nat.zero_le _, Nat.zero_le _⟩) kk

theorem d_DM_frame_0 : decode prog_1_method_2_code 0 = .ok (.iload_n 1, 1) := by decide +kernel
theorem d_DM_frame_1 : decode prog_1_method_2_code 1 = .ok (.invokestatic 67, 3) := by decide +kernel
theorem d_DM_frame_4 : decode prog_1_method_2_code 4 = .ok (.ifCond .eq 17, 3) := by decide +kernel
theorem d_DM_frame_7 : decode prog_1_method_2_code 7 = .ok (.iload_n 2, 1) := by decide +kernel
theorem d_DM_frame_8 : decode prog_1_method_2_code 8 = .ok (.invokestatic 67, 3) := by decide +kernel
theorem d_DM_frame_11 : decode prog_1_method_2_code 11 = .ok (.ifCond .eq 10, 3) := by decide +kernel
theorem d_DM_frame_14 : decode prog_1_method_2_code 14 = .ok (.iload_n 3, 1) := by decide +kernel
theorem d_DM_frame_15 : decode prog_1_method_2_code 15 = .ok (.invokestatic 71, 3) := by decide +kernel
theorem d_DM_frame_18 : decode prog_1_method_2_code 18 = .ok (.ifCond .ne 13, 3) := by decide +kernel
theorem d_DM_frame_21 : decode prog_1_method_2_code 21 = .ok (.new 74, 3) := by decide +kernel
theorem d_DM_frame_31 : decode prog_1_method_2_code 31 = .ok (.aload_n 0, 1) := by decide +kernel
theorem d_DM_frame_32 : decode prog_1_method_2_code 32 = .ok (.getfield 25, 3) := by decide +kernel
theorem d_DM_frame_35 : decode prog_1_method_2_code 35 = .ok (.iload_n 1, 1) := by decide +kernel
theorem d_DM_frame_36 : decode prog_1_method_2_code 36 = .ok (.iload_n 2, 1) := by decide +kernel
theorem d_DM_frame_37 : decode prog_1_method_2_code 37 = .ok (.invokevirtual 81, 3) := by decide +kernel
theorem d_DM_frame_40 : decode prog_1_method_2_code 40 = .ok (.iload_n 1, 1) := by decide +kernel
theorem d_DM_frame_41 : decode prog_1_method_2_code 41 = .ok (.iload_n 3, 1) := by decide +kernel
theorem d_DM_frame_42 : decode prog_1_method_2_code 42 = .ok (.iadd, 1) := by decide +kernel
theorem d_DM_frame_43 : decode prog_1_method_2_code 43 = .ok (.iconst 1, 1) := by decide +kernel
theorem d_DM_frame_44 : decode prog_1_method_2_code 44 = .ok (.isub, 1) := by decide +kernel
theorem d_DM_frame_45 : decode prog_1_method_2_code 45 = .ok (.iload_n 3, 1) := by decide +kernel
theorem d_DM_frame_46 : decode prog_1_method_2_code 46 = .ok (.idiv, 1) := by decide +kernel
theorem d_DM_frame_47 : decode prog_1_method_2_code 47 = .ok (.iload_n 2, 1) := by decide +kernel
theorem d_DM_frame_48 : decode prog_1_method_2_code 48 = .ok (.iload_n 3, 1) := by decide +kernel
theorem d_DM_frame_49 : decode prog_1_method_2_code 49 = .ok (.iadd, 1) := by decide +kernel
theorem d_DM_frame_50 : decode prog_1_method_2_code 50 = .ok (.iconst 1, 1) := by decide +kernel
theorem d_DM_frame_51 : decode prog_1_method_2_code 51 = .ok (.isub, 1) := by decide +kernel
theorem d_DM_frame_52 : decode prog_1_method_2_code 52 = .ok (.iload_n 3, 1) := by decide +kernel
theorem d_DM_frame_53 : decode prog_1_method_2_code 53 = .ok (.idiv, 1) := by decide +kernel
theorem d_DM_frame_54 : decode prog_1_method_2_code 54 = .ok (.imul, 1) := by decide +kernel
theorem d_DM_frame_55 : decode prog_1_method_2_code 55 = .ok (.ireturn, 1) := by decide +kernel
def F_DM_frame_21 (σ : Sg) : Option (Sg × Int32) := none
set_option maxRecDepth 10000 in
set_option maxHeartbeats 4000000 in
theorem bt_DM_frame_21 {p : Program} {l : Launch} {e : Env} {R : Room} {s : State} {m : MethodId} {args : Array Value} {below : List Frame} {meth : Method} {c : Code} {D : va_G} {τ : ClassId × ClassId × ClassId} {B : Nat} {A : Nat → Prop} {ad : Nat → Nat} (E : Cx p R s m args meth c prog_1_method_2_code 4 "DrawingMachine" 3 D τ B A) (hret : meth.sig.returnType = (some .int)) (o : Sg × Int32) (σ : Sg) (h : F_DM_frame_21 σ = some o) {H : Heap} {locs : List Loc} {ls : Array Slot} (w : Wd s D A (wdC τ σ ad) H locs) (hl : lv_has ls 4 []) : W p l e R s m args below meth c H locs 0 0 (QI below args s A D τ (wdC τ o.1 ad) o.2) (F0 m 21 ls []) := by
  cases h
def F_DM_frame (σ : Sg) (x0 : Int32) (x1 : Int32) (x2 : Int32) : Option (Sg × Int32) := bd (F_DM_isSide x0) (fun o7 => if o7 = 0 then (F_DM_frame_21 σ) else (bd (F_DM_isSide x1) (fun o8 => if o8 = 0 then (F_DM_frame_21 σ) else (bd (F_DM_isTileSide x2) (fun o9 => if o9 = 0 then (F_DM_frame_21 σ) else (bd (F_Pic_makeNew σ x0 x1) (fun o10 => ck (¬ x2 = 0) (ck (¬ x2 = 0) (some (o10, (((x0 + x2) - 1) / x2) * (((x1 + x2) - 1) / x2)))))))))))
set_option maxRecDepth 10000 in
set_option maxHeartbeats 4000000 in
theorem c_DM_frame (l : Launch) (D : va_G) (τ : ClassId × ClassId × ClassId) (B : Nat) (σ : Sg) (ad : Nat → Nat) (x0 : Int32) (x1 : Int32) (x2 : Int32) (o : Sg × Int32) (h : F_DM_frame σ x0 x1 x2 = some o) : MI l y_DM_frame (Cond.code y_DM_frame prog_1_method_2_code 4 (some .int)) 3 D τ B [.ref (ad 56), .int x0, .int x1, .int x2] (wdC τ σ ad) (wdC τ o.1 ad) o.2 := by
  refine en_i (by decide) (Nat.le_of_ble_eq_true rfl) ?_
  intro p e R s m args below meth c H locs ls A E hret w hl
  have E : Cx p R s m args meth c prog_1_method_2_code 4 "DrawingMachine" 3 D τ B A := E
  have hl : lv_has ls 4 [(0, .ref (ad 56)), (1, .int x0), (2, .int x1), (3, .int x2)] := hl
  refine lv_iload_n E.x E.b d_DM_frame_0 rfl (lv_at hl 1 rfl) ?_
  obtain ⟨o7, h_o7, h⟩ := bd_some h
  refine clS_DM_isSide E w (x0 := x0) h_o7 k479 (by decide) hl.1 (Nat.le_of_ble_eq_true rfl) d_DM_frame_1 (fun H locs w => ?_)
  refine lv_if_eq (tgt := 21) E.x E.b d_DM_frame_4 (by decide) (fun c => ?_) (fun c => ?_)
  ·
    replace h := ifT c h
    exact bt_DM_frame_21 E hret o σ h w (lv_sub hl [] rfl)
  ·
    replace h := ifF c h
    refine lv_iload_n E.x E.b d_DM_frame_7 rfl (lv_at hl 2 rfl) ?_
    obtain ⟨o8, h_o8, h⟩ := bd_some h
    refine clS_DM_isSide E w (x0 := x1) h_o8 k479 (by decide) hl.1 (Nat.le_of_ble_eq_true rfl) d_DM_frame_8 (fun H locs w => ?_)
    refine lv_if_eq (tgt := 21) E.x E.b d_DM_frame_11 (by decide) (fun c => ?_) (fun c => ?_)
    ·
      replace h := ifT c h
      exact bt_DM_frame_21 E hret o σ h w (lv_sub hl [] rfl)
    ·
      replace h := ifF c h
      refine lv_iload_n E.x E.b d_DM_frame_14 rfl (lv_at hl 3 rfl) ?_
      obtain ⟨o9, h_o9, h⟩ := bd_some h
      refine clS_DM_isTileSide E w (x0 := x2) h_o9 k482 (by decide) hl.1 (Nat.le_of_ble_eq_true rfl) d_DM_frame_15 (fun H locs w => ?_)
      refine lv_if_ne (tgt := 31) E.x E.b d_DM_frame_18 (by decide) (fun c => ?_) (fun c => ?_)
      ·
        replace h := ifF c h
        refine lv_aload_n E.x E.b d_DM_frame_31 rfl (lv_at hl 0 rfl) ?_
        refine gC_DM_picture E w k432 d_DM_frame_32 ?_
        refine lv_iload_n E.x E.b d_DM_frame_35 rfl (lv_at hl 1 rfl) ?_
        refine lv_iload_n E.x E.b d_DM_frame_36 rfl (lv_at hl 2 rfl) ?_
        obtain ⟨o10, h_o10, h⟩ := bd_some h
        refine clV_Pic_makeNew E w (x0 := x0) (x1 := x1) h_o10 k555 (by decide) hl.1 (Nat.le_of_ble_eq_true rfl) d_DM_frame_37 (fun H locs w => ?_)
        refine lv_iload_n E.x E.b d_DM_frame_40 rfl (lv_at hl 1 rfl) ?_
        refine lv_iload_n E.x E.b d_DM_frame_41 rfl (lv_at hl 3 rfl) ?_
        refine lv_iadd E.x E.b d_DM_frame_42 ?_
        refine lv_iconst (v := 1) E.x E.b d_DM_frame_43 (by decide) ?_
        refine lv_isub E.x E.b d_DM_frame_44 ?_
        refine lv_iload_n E.x E.b d_DM_frame_45 rfl (lv_at hl 3 rfl) ?_
        obtain ⟨c11, h⟩ := ck_some h
        refine lv_idiv E.x E.b d_DM_frame_46 c11 ?_
        refine lv_iload_n E.x E.b d_DM_frame_47 rfl (lv_at hl 2 rfl) ?_
        refine lv_iload_n E.x E.b d_DM_frame_48 rfl (lv_at hl 3 rfl) ?_
        refine lv_iadd E.x E.b d_DM_frame_49 ?_
        refine lv_iconst (v := 1) E.x E.b d_DM_frame_50 (by decide) ?_
        refine lv_isub E.x E.b d_DM_frame_51 ?_
        refine lv_iload_n E.x E.b d_DM_frame_52 rfl (lv_at hl 3 rfl) ?_
        obtain ⟨c12, h⟩ := ck_some h
        refine lv_idiv E.x E.b d_DM_frame_53 c12 ?_
        refine lv_imul E.x E.b d_DM_frame_54 ?_
        obtain rfl := Option.some.inj h
        exact rt_i E w hret d_DM_frame_55
      ·
        replace h := ifT c h
        exact bt_DM_frame_21 E hret o σ h w (lv_sub hl [] rfl)


theorem d_Cou_makeRoom_0 : decode prog_3_method_2_code 0 = .ok (.aload_n 0, 1) := by decide +kernel
theorem d_Cou_makeRoom_1 : decode prog_3_method_2_code 1 = .ok (.getfield 31, 3) := by decide +kernel
theorem d_Cou_makeRoom_4 : decode prog_3_method_2_code 4 = .ok (.iload_n 1, 1) := by decide +kernel
theorem d_Cou_makeRoom_5 : decode prog_3_method_2_code 5 = .ok (.iadd, 1) := by decide +kernel
theorem d_Cou_makeRoom_6 : decode prog_3_method_2_code 6 = .ok (.aload_n 0, 1) := by decide +kernel
theorem d_Cou_makeRoom_7 : decode prog_3_method_2_code 7 = .ok (.getfield 25, 3) := by decide +kernel
theorem d_Cou_makeRoom_10 : decode prog_3_method_2_code 10 = .ok (.arraylength, 1) := by decide +kernel
theorem d_Cou_makeRoom_11 : decode prog_3_method_2_code 11 = .ok (.if_icmp .le 27, 3) := by decide +kernel
theorem d_Cou_makeRoom_38 : decode prog_3_method_2_code 38 = .ok (.return_, 1) := by decide +kernel
def F_Cou_makeRoom (σ : Sg) (x0 : Int32) : Option (Unit) := if ((σ.1 2) + x0) ≤ (Int32.ofNat (lenC σ 7)) then (some ()) else (none)
set_option maxRecDepth 10000 in
set_option maxHeartbeats 4000000 in
theorem c_Cou_makeRoom (l : Launch) (D : va_G) (τ : ClassId × ClassId × ClassId) (B : Nat) (σ : Sg) (ad : Nat → Nat) (x0 : Int32) (o : Unit) (h : F_Cou_makeRoom σ x0 = some o) : MV l y_Cou_makeRoom (Cond.code y_Cou_makeRoom prog_3_method_2_code 2 none) 0 D τ B [.ref (ad 59), .int x0] (wdC τ σ ad) (wdC τ σ ad) := by
  refine en_v (by decide) (Nat.le_of_ble_eq_true rfl) ?_
  intro p e R s m args below meth c H locs ls A E hret w hl
  have E : Cx p R s m args meth c prog_3_method_2_code 2 "DrawingMachine$Course" 0 D τ B A := E
  have hl : lv_has ls 2 [(0, .ref (ad 59)), (1, .int x0)] := hl
  refine lv_aload_n E.x E.b d_Cou_makeRoom_0 rfl (lv_at hl 0 rfl) ?_
  refine gC_Cou_words E w k113 d_Cou_makeRoom_1 ?_
  refine lv_iload_n E.x E.b d_Cou_makeRoom_4 rfl (lv_at hl 1 rfl) ?_
  refine lv_iadd E.x E.b d_Cou_makeRoom_5 ?_
  refine lv_aload_n E.x E.b d_Cou_makeRoom_6 rfl (lv_at hl 0 rfl) ?_
  refine gC_Cou_stream E w k134 d_Cou_makeRoom_7 ?_
  refine alenC E w (k := 7) (by decide) d_Cou_makeRoom_10 ?_
  refine lv_icmp_le (tgt := 38) E.x E.b d_Cou_makeRoom_11 (by decide) (fun c => ?_) (fun c => ?_)
  ·
    replace h := ifT c h
    obtain rfl := Option.some.inj h
    exact rt_v E w hret d_Cou_makeRoom_38
  ·
    replace h := ifF c h
    cases h

theorem clV_Cou_makeRoom {p : Program} {l : Launch} {e : Env} {R : Room} {s : State} {m : MethodId} {args : Array Value} {below : List Frame} {meth : Method} {c : Code} {H : Heap} {locs : List Loc} {Q : State → Prop} {cc : ByteArray} {nL pc lev : Nat} {own : String} {D : va_G} {τ : ClassId × ClassId × ClassId} {B : Nat} {A : Nat → Prop} {σ : Sg} {ad : Nat → Nat} {ls : Array Slot} {rest : List Value} (E : Cx p R s m args meth c cc nL own lev D τ B A) (w : Wd s D A (wdC τ σ ad) H locs) {x0 : Int32} {o : Unit} (h : F_Cou_makeRoom σ x0 = some o) {index : Nat} (hlk : Cond.methodLink own index y_Cou_makeRoom ∈ tw) (hlev : 0 < lev) (hsz : ls.size = nL) (hr : (rest.map fun v => v.category).sum ≤ 8) (hd : decode cc pc = .ok (.invokevirtual index, 3)) (kk : ∀ (H1 : Heap) (locs1 : List Loc), Wd s D A (wdC τ σ ad) H1 locs1 → W p l e R s m args below meth c H1 locs1 0 0 Q (F0 m (pc + 3) ls (rest))) : W p l e R s m args below meth c H locs 0 0 Q (F0 m pc ls (.int x0 :: .ref (ad 59) :: rest)) :=
  cr_v w E.C (va_runV (As := [.int x0]) (rest := rest) E.fix (c_Cou_makeRoom l D τ B σ ad x0 o h H.size) (cwV 1 E.w (tw_pre (tw_good k886) (l := [_, _, _, _]) (List.forall_mem_cons.mpr ⟨hlk, List.forall_mem_cons.mpr ⟨k884, List.forall_mem_cons.mpr ⟨k885, List.forall_mem_cons.mpr ⟨k5, fun _ h => absurd h List.not_mem_nil⟩⟩⟩⟩)) rfl rfl rfl (by decide +kernel) (E.rm hlev (by decide))) (wd_preV w E.C [.int x0] rcC_Cou rfl) rfl rfl hsz rfl (lv_room hr) hd ⟨Nat.zero_le _, Nat.zero_le _⟩) kk

theorem d_DM_feed_0 : decode prog_1_method_5_code 0 = .ok (.aload_n 0, 1) := by decide +kernel
theorem d_DM_feed_1 : decode prog_1_method_5_code 1 = .ok (.getfield 34, 3) := by decide +kernel
theorem d_DM_feed_4 : decode prog_1_method_5_code 4 = .ok (.getfield 90, 3) := by decide +kernel
theorem d_DM_feed_7 : decode prog_1_method_5_code 7 = .ok (.iconst 5, 1) := by decide +kernel
theorem d_DM_feed_8 : decode prog_1_method_5_code 8 = .ok (.iadd, 1) := by decide +kernel
theorem d_DM_feed_9 : decode prog_1_method_5_code 9 = .ok (.sipush 4096, 3) := by decide +kernel
theorem d_DM_feed_12 : decode prog_1_method_5_code 12 = .ok (.if_icmp .le 13, 3) := by decide +kernel
theorem d_DM_feed_15 : decode prog_1_method_5_code 15 = .ok (.new 94, 3) := by decide +kernel
theorem d_DM_feed_25 : decode prog_1_method_5_code 25 = .ok (.aload_n 0, 1) := by decide +kernel
theorem d_DM_feed_26 : decode prog_1_method_5_code 26 = .ok (.getfield 34, 3) := by decide +kernel
theorem d_DM_feed_29 : decode prog_1_method_5_code 29 = .ok (.iconst 5, 1) := by decide +kernel
theorem d_DM_feed_30 : decode prog_1_method_5_code 30 = .ok (.invokevirtual 99, 3) := by decide +kernel
theorem d_DM_feed_33 : decode prog_1_method_5_code 33 = .ok (.aload_n 0, 1) := by decide +kernel
theorem d_DM_feed_34 : decode prog_1_method_5_code 34 = .ok (.getfield 34, 3) := by decide +kernel
theorem d_DM_feed_37 : decode prog_1_method_5_code 37 = .ok (.iload_n 1, 1) := by decide +kernel
theorem d_DM_feed_38 : decode prog_1_method_5_code 38 = .ok (.invokevirtual 103, 3) := by decide +kernel
theorem d_DM_feed_41 : decode prog_1_method_5_code 41 = .ok (.aload_n 0, 1) := by decide +kernel
theorem d_DM_feed_42 : decode prog_1_method_5_code 42 = .ok (.getfield 34, 3) := by decide +kernel
theorem d_DM_feed_45 : decode prog_1_method_5_code 45 = .ok (.iload_n 2, 1) := by decide +kernel
theorem d_DM_feed_46 : decode prog_1_method_5_code 46 = .ok (.invokevirtual 103, 3) := by decide +kernel
theorem d_DM_feed_49 : decode prog_1_method_5_code 49 = .ok (.aload_n 0, 1) := by decide +kernel
theorem d_DM_feed_50 : decode prog_1_method_5_code 50 = .ok (.getfield 34, 3) := by decide +kernel
theorem d_DM_feed_53 : decode prog_1_method_5_code 53 = .ok (.iload_n 3, 1) := by decide +kernel
theorem d_DM_feed_54 : decode prog_1_method_5_code 54 = .ok (.invokevirtual 103, 3) := by decide +kernel
theorem d_DM_feed_57 : decode prog_1_method_5_code 57 = .ok (.aload_n 0, 1) := by decide +kernel
theorem d_DM_feed_58 : decode prog_1_method_5_code 58 = .ok (.getfield 34, 3) := by decide +kernel
theorem d_DM_feed_61 : decode prog_1_method_5_code 61 = .ok (.iload 4, 2) := by decide +kernel
theorem d_DM_feed_63 : decode prog_1_method_5_code 63 = .ok (.invokevirtual 103, 3) := by decide +kernel
theorem d_DM_feed_66 : decode prog_1_method_5_code 66 = .ok (.aload_n 0, 1) := by decide +kernel
theorem d_DM_feed_67 : decode prog_1_method_5_code 67 = .ok (.getfield 34, 3) := by decide +kernel
theorem d_DM_feed_70 : decode prog_1_method_5_code 70 = .ok (.iload 5, 2) := by decide +kernel
theorem d_DM_feed_72 : decode prog_1_method_5_code 72 = .ok (.invokevirtual 103, 3) := by decide +kernel
theorem d_DM_feed_75 : decode prog_1_method_5_code 75 = .ok (.aload_n 0, 1) := by decide +kernel
theorem d_DM_feed_76 : decode prog_1_method_5_code 76 = .ok (.getfield 34, 3) := by decide +kernel
theorem d_DM_feed_79 : decode prog_1_method_5_code 79 = .ok (.getfield 90, 3) := by decide +kernel
theorem d_DM_feed_82 : decode prog_1_method_5_code 82 = .ok (.ireturn, 1) := by decide +kernel
def F_DM_feed (σ : Sg) (x0 : Int32) (x1 : Int32) (x2 : Int32) (x3 : Int32) (x4 : Int32) : Option (Sg × Int32) := if ((σ.1 2) + 5) ≤ 4096 then (bd (F_Cou_makeRoom σ 5) (fun o7 => bd (F_Cou_add σ x0) (fun o8 => bd (F_Cou_add o8 x1) (fun o9 => bd (F_Cou_add o9 x2) (fun o10 => bd (F_Cou_add o10 x3) (fun o11 => bd (F_Cou_add o11 x4) (fun o12 => some (o12, o12.1 2)))))))) else (none)
set_option maxRecDepth 10000 in
set_option maxHeartbeats 4000000 in
theorem c_DM_feed (l : Launch) (D : va_G) (τ : ClassId × ClassId × ClassId) (B : Nat) (σ : Sg) (ad : Nat → Nat) (x0 : Int32) (x1 : Int32) (x2 : Int32) (x3 : Int32) (x4 : Int32) (o : Sg × Int32) (h : F_DM_feed σ x0 x1 x2 x3 x4 = some o) : MI l y_DM_feed (Cond.code y_DM_feed prog_1_method_5_code 6 (some .int)) 1 D τ B [.ref (ad 56), .int x0, .int x1, .int x2, .int x3, .int x4] (wdC τ σ ad) (wdC τ o.1 ad) o.2 := by
  refine en_i (by decide) (Nat.le_of_ble_eq_true rfl) ?_
  intro p e R s m args below meth c H locs ls A E hret w hl
  have E : Cx p R s m args meth c prog_1_method_5_code 6 "DrawingMachine" 1 D τ B A := E
  have hl : lv_has ls 6 [(0, .ref (ad 56)), (1, .int x0), (2, .int x1), (3, .int x2), (4, .int x3), (5, .int x4)] := hl
  refine lv_aload_n E.x E.b d_DM_feed_0 rfl (lv_at hl 0 rfl) ?_
  refine gC_DM_course E w k433 d_DM_feed_1 ?_
  refine gC_Cou_words E w k114 d_DM_feed_4 ?_
  refine lv_iconst (v := 5) E.x E.b d_DM_feed_7 (by decide) ?_
  refine lv_iadd E.x E.b d_DM_feed_8 ?_
  refine lv_sipush (v := 4096) E.x E.b d_DM_feed_9 (by decide) ?_
  refine lv_icmp_le (tgt := 25) E.x E.b d_DM_feed_12 (by decide) (fun c => ?_) (fun c => ?_)
  ·
    replace h := ifT c h
    refine lv_aload_n E.x E.b d_DM_feed_25 rfl (lv_at hl 0 rfl) ?_
    refine gC_DM_course E w k433 d_DM_feed_26 ?_
    refine lv_iconst (v := 5) E.x E.b d_DM_feed_29 (by decide) ?_
    obtain ⟨o7, h_o7, h⟩ := bd_some h
    refine clV_Cou_makeRoom E w (x0 := 5) h_o7 k883 (by decide) hl.1 (Nat.le_of_ble_eq_true rfl) d_DM_feed_30 (fun H locs w => ?_)
    refine lv_aload_n E.x E.b d_DM_feed_33 rfl (lv_at hl 0 rfl) ?_
    refine gC_DM_course E w k433 d_DM_feed_34 ?_
    refine lv_iload_n E.x E.b d_DM_feed_37 rfl (lv_at hl 1 rfl) ?_
    obtain ⟨o8, h_o8, h⟩ := bd_some h
    refine clV_Cou_add E w (x0 := x0) h_o8 k896 (by decide) hl.1 (Nat.le_of_ble_eq_true rfl) d_DM_feed_38 (fun H locs w => ?_)
    refine lv_aload_n E.x E.b d_DM_feed_41 rfl (lv_at hl 0 rfl) ?_
    refine gC_DM_course E w k433 d_DM_feed_42 ?_
    refine lv_iload_n E.x E.b d_DM_feed_45 rfl (lv_at hl 2 rfl) ?_
    obtain ⟨o9, h_o9, h⟩ := bd_some h
    refine clV_Cou_add E w (x0 := x1) h_o9 k896 (by decide) hl.1 (Nat.le_of_ble_eq_true rfl) d_DM_feed_46 (fun H locs w => ?_)
    refine lv_aload_n E.x E.b d_DM_feed_49 rfl (lv_at hl 0 rfl) ?_
    refine gC_DM_course E w k433 d_DM_feed_50 ?_
    refine lv_iload_n E.x E.b d_DM_feed_53 rfl (lv_at hl 3 rfl) ?_
    obtain ⟨o10, h_o10, h⟩ := bd_some h
    refine clV_Cou_add E w (x0 := x2) h_o10 k896 (by decide) hl.1 (Nat.le_of_ble_eq_true rfl) d_DM_feed_54 (fun H locs w => ?_)
    refine lv_aload_n E.x E.b d_DM_feed_57 rfl (lv_at hl 0 rfl) ?_
    refine gC_DM_course E w k433 d_DM_feed_58 ?_
    refine lv_iload E.x E.b d_DM_feed_61 (lv_at hl 4 rfl) ?_
    obtain ⟨o11, h_o11, h⟩ := bd_some h
    refine clV_Cou_add E w (x0 := x3) h_o11 k896 (by decide) hl.1 (Nat.le_of_ble_eq_true rfl) d_DM_feed_63 (fun H locs w => ?_)
    refine lv_aload_n E.x E.b d_DM_feed_66 rfl (lv_at hl 0 rfl) ?_
    refine gC_DM_course E w k433 d_DM_feed_67 ?_
    refine lv_iload E.x E.b d_DM_feed_70 (lv_at hl 5 rfl) ?_
    obtain ⟨o12, h_o12, h⟩ := bd_some h
    refine clV_Cou_add E w (x0 := x4) h_o12 k896 (by decide) hl.1 (Nat.le_of_ble_eq_true rfl) d_DM_feed_72 (fun H locs w => ?_)
    refine lv_aload_n E.x E.b d_DM_feed_75 rfl (lv_at hl 0 rfl) ?_
    refine gC_DM_course E w k433 d_DM_feed_76 ?_
    refine gC_Cou_words E w k114 d_DM_feed_79 ?_
    obtain rfl := Option.some.inj h
    exact rt_i E w hret d_DM_feed_82
  ·
    replace h := ifF c h
    cases h

