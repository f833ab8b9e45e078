theorem d_Cou_putWords_0 : decode prog_3_method_9_code 0 = .ok (.iload_n 2, 1) := by decide +kernel
theorem d_Cou_putWords_1 : decode prog_3_method_9_code 1 = .ok (.ifCond .le 22, 3) := by decide +kernel
theorem d_Cou_putWords_4 : decode prog_3_method_9_code 4 = .ok (.aload_n 0, 1) := by decide +kernel
theorem d_Cou_putWords_5 : decode prog_3_method_9_code 5 = .ok (.invokevirtual 66, 3) := by decide +kernel
theorem d_Cou_putWords_8 : decode prog_3_method_9_code 8 = .ok (.aload_n 0, 1) := by decide +kernel
theorem d_Cou_putWords_9 : decode prog_3_method_9_code 9 = .ok (.getfield 46, 3) := by decide +kernel
theorem d_Cou_putWords_12 : decode prog_3_method_9_code 12 = .ok (.iconst 3, 1) := by decide +kernel
theorem d_Cou_putWords_13 : decode prog_3_method_9_code 13 = .ok (.iadd, 1) := by decide +kernel
theorem d_Cou_putWords_14 : decode prog_3_method_9_code 14 = .ok (.aload_n 0, 1) := by decide +kernel
theorem d_Cou_putWords_15 : decode prog_3_method_9_code 15 = .ok (.getfield 28, 3) := by decide +kernel
theorem d_Cou_putWords_18 : decode prog_3_method_9_code 18 = .ok (.iload_n 1, 1) := by decide +kernel
theorem d_Cou_putWords_19 : decode prog_3_method_9_code 19 = .ok (.iload_n 2, 1) := by decide +kernel
theorem d_Cou_putWords_20 : decode prog_3_method_9_code 20 = .ok (.invokestatic 87, 3) := by decide +kernel
theorem d_Cou_putWords_23 : decode prog_3_method_9_code 23 = .ok (.return_, 1) := by decide +kernel
def F_Cou_putWords_23 (σ : Sg) : Option (Sg) := some σ
set_option maxRecDepth 10000 in
set_option maxHeartbeats 4000000 in
theorem bt_Cou_putWords_23 {p : Program} {l : Launch} {e : Env} {R : Room} {s : State} {m : MethodId} {args : Array Value} {below : List Frame} {meth : Method} {c : Code} {D : va_G} {τ : ClassId × ClassId × ClassId} {B : Nat} {A : Nat → Prop} {ad : Nat → Nat} (E : Cx p R s m args meth c prog_3_method_9_code 3 "DrawingMachine$Course" 1 D τ B A) (hret : meth.sig.returnType = none) (o : Sg) (σ : Sg) (h : F_Cou_putWords_23 σ = some o) {H : Heap} {locs : List Loc} {ls : Array Slot} (w : Wd s D A (wdC τ σ ad) H locs) (hl : lv_has ls 3 []) : W p l e R s m args below meth c H locs 0 0 (QV below args s A D τ (wdC τ o ad)) (F0 m 23 ls []) := by
  obtain rfl := Option.some.inj h
  exact rt_v E w hret d_Cou_putWords_23
def F_Cou_putWords (σ : Sg) (x0 : Int32) (x1 : Int32) : Option (Sg) := if x1 ≤ 0 then (F_Cou_putWords_23 σ) else (bd (F_Cou_source σ) (fun o6 => lt (o6) (fun ar_7 => ck (ar_7 < 47) (ck (cpok ((σ.1 10) + 3) x0 x1 (lenC σ ar_7) 4096) (lt (sA σ 0 (va_cpy (σ.2.2.1 ar_7) (σ.2.2.1 0) ((σ.1 10) + 3).toNatClampNeg x0.toNatClampNeg x1.toNatClampNeg)) (fun σ10 => F_Cou_putWords_23 σ10))))))
set_option maxRecDepth 10000 in
set_option maxHeartbeats 4000000 in
theorem c_Cou_putWords (l : Launch) (D : va_G) (τ : ClassId × ClassId × ClassId) (B : Nat) (σ : Sg) (ad : Nat → Nat) (x0 : Int32) (x1 : Int32) (o : Sg) (h : F_Cou_putWords σ x0 x1 = some o) : MV l y_Cou_putWords (Cond.code y_Cou_putWords prog_3_method_9_code 3 none) 1 D τ B [.ref (ad 59), .int x0, .int x1] (wdC τ σ ad) (wdC τ o ad) := by
  refine en_v (by decide) (Nat.le_of_ble_eq_true rfl) ?_
  intro p e R s m args below meth c H locs ls A E hret w hl
  have E : Cx p R s m args meth c prog_3_method_9_code 3 "DrawingMachine$Course" 1 D τ B A := E
  have hl : lv_has ls 3 [(0, .ref (ad 59)), (1, .int x0), (2, .int x1)] := hl
  refine lv_iload_n E.x E.b d_Cou_putWords_0 rfl (lv_at hl 2 rfl) ?_
  refine lv_if_le (tgt := 23) E.x E.b d_Cou_putWords_1 (by decide) (fun c => ?_) (fun c => ?_)
  ·
    replace h := ifT c h
    exact bt_Cou_putWords_23 E hret o σ h w (lv_sub hl [] rfl)
  ·
    replace h := ifF c h
    refine lv_aload_n E.x E.b d_Cou_putWords_4 rfl (lv_at hl 0 rfl) ?_
    obtain ⟨o6, h_o6, h⟩ := bd_some h
    refine clV_Cou_source E w h_o6 k941 (by decide) hl.1 (Nat.le_of_ble_eq_true rfl) d_Cou_putWords_5 (fun H locs w => ?_)
    obtain ⟨ar_7, e_ar_7, h⟩ := lt_some h
    refine wr_e (v := ad ar_7) (by rw [e_ar_7]) ?_
    obtain ⟨c8, h⟩ := ck_some h
    refine lv_aload_n E.x E.b d_Cou_putWords_8 rfl (lv_at hl 0 rfl) ?_
    refine gC_Cou_position E w k135 d_Cou_putWords_9 ?_
    refine lv_iconst (v := 3) E.x E.b d_Cou_putWords_12 (by decide) ?_
    refine lv_iadd E.x E.b d_Cou_putWords_13 ?_
    refine lv_aload_n E.x E.b d_Cou_putWords_14 rfl (lv_at hl 0 rfl) ?_
    refine gC_Cou_memory E w k132 d_Cou_putWords_15 ?_
    refine lv_iload_n E.x E.b d_Cou_putWords_18 rfl (lv_at hl 1 rfl) ?_
    refine lv_iload_n E.x E.b d_Cou_putWords_19 rfl (lv_at hl 2 rfl) ?_
    obtain ⟨c9, h⟩ := ck_some h
    obtain ⟨σ10, e_σ10, h⟩ := lt_some h
    refine cpyC E w hl.1 k954 k645 k644 k31 (k0 := ar_7) (k1 := 0) c8 (by decide) c9 e_σ10 (Nat.le_of_ble_eq_true rfl) d_Cou_putWords_20 (fun H locs w => ?_)
    exact bt_Cou_putWords_23 E hret o σ10 h w (lv_sub hl [] rfl)
theorem clV_Cou_putWords {p : Program} {l : Launch} {e : Env} {R : Room} {s : State} {m : MethodId} {args : Array Value} {below : List Frame} {meth : Method} {c : Code} {H : Heap} {locs : List Loc} {Q : State → Prop} {cc : ByteArray} {nL pc lev : Nat} {own : String} {D : va_G} {τ : ClassId × ClassId × ClassId} {B : Nat} {A : Nat → Prop} {σ : Sg} {ad : Nat → Nat} {ls : Array Slot} {rest : List Value} (E : Cx p R s m args meth c cc nL own lev D τ B A) (w : Wd s D A (wdC τ σ ad) H locs) {x0 : Int32} {x1 : Int32} {o : Sg} (h : F_Cou_putWords σ x0 x1 = some o) {index : Nat} (hlk : Cond.methodLink own index y_Cou_putWords ∈ tw) (hlev : 1 < lev) (hsz : ls.size = nL) (hr : (rest.map fun v => v.category).sum ≤ 8) (hd : decode cc pc = .ok (.invokevirtual index, 3)) (kk : ∀ (H1 : Heap) (locs1 : List Loc), Wd s D A (wdC τ o ad) H1 locs1 → W p l e R s m args below meth c H1 locs1 0 0 Q (F0 m (pc + 3) ls (rest))) : W p l e R s m args below meth c H locs 0 0 Q (F0 m pc ls (.int x1 :: .int x0 :: .ref (ad 59) :: rest)) :=
  cr_v w E.C (va_runV (As := [.int x0, .int x1]) (rest := rest) E.fix (c_Cou_putWords l D τ B σ ad x0 x1 o h H.size) (cwV 2 E.w (tw_pre (tw_good k1362) (l := [_, _, _, _]) (List.forall_mem_cons.mpr ⟨hlk, List.forall_mem_cons.mpr ⟨k1360, List.forall_mem_cons.mpr ⟨k1361, List.forall_mem_cons.mpr ⟨k5, fun _ h => absurd h List.not_mem_nil⟩⟩⟩⟩)) rfl rfl rfl (by decide +kernel) (E.rm hlev (by decide))) (wd_preV w E.C [.int x0, .int x1] rcC_Cou rfl) rfl rfl hsz rfl (lv_room hr) hd ⟨Nat.zero_le _, Nat.zero_le _⟩) kk

theorem d_Drw_turnQuery_0 : decode prog_5_method_2_code 0 = .ok (.iload_n 2, 1) := by decide +kernel
theorem d_Drw_turnQuery_1 : decode prog_5_method_2_code 1 = .ok (.ifCond .eq 10, 3) := by decide +kernel
theorem d_Drw_turnQuery_4 : decode prog_5_method_2_code 4 = .ok (.aload_n 0, 1) := by decide +kernel
theorem d_Drw_turnQuery_5 : decode prog_5_method_2_code 5 = .ok (.getfield 15, 3) := by decide +kernel
theorem d_Drw_turnQuery_8 : decode prog_5_method_2_code 8 = .ok (.iload_n 1, 1) := by decide +kernel
theorem d_Drw_turnQuery_9 : decode prog_5_method_2_code 9 = .ok (.iconst 0, 1) := by decide +kernel
theorem d_Drw_turnQuery_10 : decode prog_5_method_2_code 10 = .ok (.iastore, 1) := by decide +kernel
theorem d_Drw_turnQuery_11 : decode prog_5_method_2_code 11 = .ok (.aload_n 0, 1) := by decide +kernel
theorem d_Drw_turnQuery_12 : decode prog_5_method_2_code 12 = .ok (.iload_n 2, 1) := by decide +kernel
theorem d_Drw_turnQuery_13 : decode prog_5_method_2_code 13 = .ok (.ifCond .eq 7, 3) := by decide +kernel
theorem d_Drw_turnQuery_16 : decode prog_5_method_2_code 16 = .ok (.iload_n 1, 1) := by decide +kernel
theorem d_Drw_turnQuery_17 : decode prog_5_method_2_code 17 = .ok (.goto 4, 3) := by decide +kernel
theorem d_Drw_turnQuery_20 : decode prog_5_method_2_code 20 = .ok (.iconst (-1), 1) := by decide +kernel
theorem d_Drw_turnQuery_21 : decode prog_5_method_2_code 21 = .ok (.putfield 18, 3) := by decide +kernel
theorem d_Drw_turnQuery_24 : decode prog_5_method_2_code 24 = .ok (.return_, 1) := by decide +kernel
def F_Drw_turnQuery_21 (σ : Sg) (s1 : Int32) : Option (Sg) := lt (sI σ 15 s1) (fun σ4 => some σ4)
set_option maxRecDepth 10000 in
set_option maxHeartbeats 4000000 in
theorem bt_Drw_turnQuery_21 {p : Program} {l : Launch} {e : Env} {R : Room} {s : State} {m : MethodId} {args : Array Value} {below : List Frame} {meth : Method} {c : Code} {D : va_G} {τ : ClassId × ClassId × ClassId} {B : Nat} {A : Nat → Prop} {ad : Nat → Nat} (E : Cx p R s m args meth c prog_5_method_2_code 3 "DrawingMachine$Drawing" 0 D τ B A) (hret : meth.sig.returnType = none) (o : Sg) (σ : Sg) (s1 : Int32) (h : F_Drw_turnQuery_21 σ s1 = some o) {H : Heap} {locs : List Loc} {ls : Array Slot} (w : Wd s D A (wdC τ σ ad) H locs) (hl : lv_has ls 3 []) : W p l e R s m args below meth c H locs 0 0 (QV below args s A D τ (wdC τ o ad)) (F0 m 21 ls [.int s1, .ref (ad 61)]) := by
  obtain ⟨σ4, e_σ4, h⟩ := lt_some h
  refine pC_Drw_openQuery E w k377 e_σ4 d_Drw_turnQuery_21 (fun H locs w => ?_)
  obtain rfl := Option.some.inj h
  exact rt_v E w hret d_Drw_turnQuery_24
def F_Drw_turnQuery_11 (σ : Sg) (v1 : Int32) (v2 : Int32) : Option (Sg) := if v2 = 0 then (F_Drw_turnQuery_21 σ (-1)) else (F_Drw_turnQuery_21 σ v1)
set_option maxRecDepth 10000 in
set_option maxHeartbeats 4000000 in
theorem bt_Drw_turnQuery_11 {p : Program} {l : Launch} {e : Env} {R : Room} {s : State} {m : MethodId} {args : Array Value} {below : List Frame} {meth : Method} {c : Code} {D : va_G} {τ : ClassId × ClassId × ClassId} {B : Nat} {A : Nat → Prop} {ad : Nat → Nat} (E : Cx p R s m args meth c prog_5_method_2_code 3 "DrawingMachine$Drawing" 0 D τ B A) (hret : meth.sig.returnType = none) (o : Sg) (σ : Sg) (v1 : Int32) (v2 : Int32) (h : F_Drw_turnQuery_11 σ v1 v2 = some o) {H : Heap} {locs : List Loc} {ls : Array Slot} (w : Wd s D A (wdC τ σ ad) H locs) (hl : lv_has ls 3 [(0, .ref (ad 61)), (1, .int v1), (2, .int v2)]) : W p l e R s m args below meth c H locs 0 0 (QV below args s A D τ (wdC τ o ad)) (F0 m 11 ls []) := by
  refine lv_aload_n E.x E.b d_Drw_turnQuery_11 rfl (lv_at hl 0 rfl) ?_
  refine lv_iload_n E.x E.b d_Drw_turnQuery_12 rfl (lv_at hl 2 rfl) ?_
  refine lv_if_eq (tgt := 20) E.x E.b d_Drw_turnQuery_13 (by decide) (fun c => ?_) (fun c => ?_)
  ·
    replace h := ifT c h
    refine lv_iconst (v := (-1)) E.x E.b d_Drw_turnQuery_20 (by decide) ?_
    exact bt_Drw_turnQuery_21 E hret o σ (-1) h w (lv_sub hl [] rfl)
  ·
    replace h := ifF c h
    refine lv_iload_n E.x E.b d_Drw_turnQuery_16 rfl (lv_at hl 1 rfl) ?_
    refine lv_goto (tgt := 21) E.x E.b d_Drw_turnQuery_17 (by decide) ?_
    exact bt_Drw_turnQuery_21 E hret o σ v1 h w (lv_sub hl [] rfl)
def F_Drw_turnQuery (σ : Sg) (x0 : Int32) (x1 : Int32) : Option (Sg) := if x1 = 0 then (F_Drw_turnQuery_11 σ x0 x1) else (ck (inb x0 8) (lt (sA σ 30 (upd (σ.2.2.1 30) x0.toNatClampNeg 0)) (fun σ6 => F_Drw_turnQuery_11 σ6 x0 x1)))
set_option maxRecDepth 10000 in
set_option maxHeartbeats 4000000 in
theorem c_Drw_turnQuery (l : Launch) (D : va_G) (τ : ClassId × ClassId × ClassId) (B : Nat) (σ : Sg) (ad : Nat → Nat) (x0 : Int32) (x1 : Int32) (o : Sg) (h : F_Drw_turnQuery σ x0 x1 = some o) : MV l y_Drw_turnQuery (Cond.code y_Drw_turnQuery prog_5_method_2_code 3 none) 0 D τ B [.ref (ad 61), .int x0, .int x1] (wdC τ σ ad) (wdC τ o ad) := by
  refine en_v (by decide) (Nat.le_of_ble_eq_true rfl) ?_
  intro p e R s m args below meth c H locs ls A E hret w hl
  have E : Cx p R s m args meth c prog_5_method_2_code 3 "DrawingMachine$Drawing" 0 D τ B A := E
  have hl : lv_has ls 3 [(0, .ref (ad 61)), (1, .int x0), (2, .int x1)] := hl
  refine lv_iload_n E.x E.b d_Drw_turnQuery_0 rfl (lv_at hl 2 rfl) ?_
  refine lv_if_eq (tgt := 11) E.x E.b d_Drw_turnQuery_1 (by decide) (fun c => ?_) (fun c => ?_)
  ·
    replace h := ifT c h
    exact bt_Drw_turnQuery_11 E hret o σ x0 x1 h w (lv_sub hl [0, 1, 2] rfl)
  ·
    replace h := ifF c h
    refine lv_aload_n E.x E.b d_Drw_turnQuery_4 rfl (lv_at hl 0 rfl) ?_
    refine gC_Drw_queries E w k375 d_Drw_turnQuery_5 ?_
    refine lv_iload_n E.x E.b d_Drw_turnQuery_8 rfl (lv_at hl 1 rfl) ?_
    refine lv_iconst (v := 0) E.x E.b d_Drw_turnQuery_9 (by decide) ?_
    obtain ⟨c5, h⟩ := ck_some h
    obtain ⟨σ6, e_σ6, h⟩ := lt_some h
    refine iasC E w (k := 30) (by decide) c5 e_σ6 d_Drw_turnQuery_10 (fun H locs w => ?_)
    exact bt_Drw_turnQuery_11 E hret o σ6 x0 x1 h w (lv_sub hl [0, 1, 2] rfl)
theorem clV_Drw_turnQuery {p : Program} {l : Launch} {e : Env} {R : Room} {s : State} {m : MethodId} {args : Array Value} {below : List Frame} {meth : Method} {c : Code} {H : Heap} {locs : List Loc} {Q : State → Prop} {cc : ByteArray} {nL pc lev : Nat} {own : String} {D : va_G} {τ : ClassId × ClassId × ClassId} {B : Nat} {A : Nat → Prop} {σ : Sg} {ad : Nat → Nat} {ls : Array Slot} {rest : List Value} (E : Cx p R s m args meth c cc nL own lev D τ B A) (w : Wd s D A (wdC τ σ ad) H locs) {x0 : Int32} {x1 : Int32} {o : Sg} (h : F_Drw_turnQuery σ x0 x1 = some o) {index : Nat} (hlk : Cond.methodLink own index y_Drw_turnQuery ∈ tw) (hlev : 0 < lev) (hsz : ls.size = nL) (hr : (rest.map fun v => v.category).sum ≤ 8) (hd : decode cc pc = .ok (.invokevirtual index, 3)) (kk : ∀ (H1 : Heap) (locs1 : List Loc), Wd s D A (wdC τ o ad) H1 locs1 → W p l e R s m args below meth c H1 locs1 0 0 Q (F0 m (pc + 3) ls (rest))) : W p l e R s m args below meth c H locs 0 0 Q (F0 m pc ls (.int x1 :: .int x0 :: .ref (ad 61) :: rest)) :=
  cr_v w E.C (va_runV (As := [.int x0, .int x1]) (rest := rest) E.fix (c_Drw_turnQuery l D τ B σ ad x0 x1 o h H.size) (cwV 2 E.w (tw_pre (tw_good k1350) (l := [_, _, _, _]) (List.forall_mem_cons.mpr ⟨hlk, List.forall_mem_cons.mpr ⟨k1348, List.forall_mem_cons.mpr ⟨k1349, List.forall_mem_cons.mpr ⟨k7, fun _ h => absurd h List.not_mem_nil⟩⟩⟩⟩)) rfl rfl rfl (by decide +kernel) (E.rm hlev (by decide))) (wd_preV w E.C [.int x0, .int x1] rcC_Drw rfl) rfl rfl hsz rfl (lv_room hr) hd ⟨Nat.zero_le _, Nat.zero_le _⟩) kk

theorem d_Pic_channelBits_0 : decode prog_6_method_6_code 0 = .ok (.iconst 0, 1) := by decide +kernel
theorem d_Pic_channelBits_1 : decode prog_6_method_6_code 1 = .ok (.istore_n 1, 1) := by decide +kernel
theorem d_Pic_channelBits_2 : decode prog_6_method_6_code 2 = .ok (.iconst 0, 1) := by decide +kernel
theorem d_Pic_channelBits_3 : decode prog_6_method_6_code 3 = .ok (.istore_n 2, 1) := by decide +kernel
theorem d_Pic_channelBits_4 : decode prog_6_method_6_code 4 = .ok (.iload_n 2, 1) := by decide +kernel
theorem d_Pic_channelBits_5 : decode prog_6_method_6_code 5 = .ok (.iconst 4, 1) := by decide +kernel
theorem d_Pic_channelBits_6 : decode prog_6_method_6_code 6 = .ok (.if_icmp .ge 26, 3) := by decide +kernel
theorem d_Pic_channelBits_9 : decode prog_6_method_6_code 9 = .ok (.iload_n 1, 1) := by decide +kernel
theorem d_Pic_channelBits_10 : decode prog_6_method_6_code 10 = .ok (.iload_n 0, 1) := by decide +kernel
theorem d_Pic_channelBits_11 : decode prog_6_method_6_code 11 = .ok (.iload_n 2, 1) := by decide +kernel
theorem d_Pic_channelBits_12 : decode prog_6_method_6_code 12 = .ok (.ishr, 1) := by decide +kernel
theorem d_Pic_channelBits_13 : decode prog_6_method_6_code 13 = .ok (.iconst 1, 1) := by decide +kernel
theorem d_Pic_channelBits_14 : decode prog_6_method_6_code 14 = .ok (.iand, 1) := by decide +kernel
theorem d_Pic_channelBits_15 : decode prog_6_method_6_code 15 = .ok (.sipush 255, 3) := by decide +kernel
theorem d_Pic_channelBits_18 : decode prog_6_method_6_code 18 = .ok (.imul, 1) := by decide +kernel
theorem d_Pic_channelBits_19 : decode prog_6_method_6_code 19 = .ok (.bipush 8, 2) := by decide +kernel
theorem d_Pic_channelBits_21 : decode prog_6_method_6_code 21 = .ok (.iload_n 2, 1) := by decide +kernel
theorem d_Pic_channelBits_22 : decode prog_6_method_6_code 22 = .ok (.imul, 1) := by decide +kernel
theorem d_Pic_channelBits_23 : decode prog_6_method_6_code 23 = .ok (.ishl, 1) := by decide +kernel
theorem d_Pic_channelBits_24 : decode prog_6_method_6_code 24 = .ok (.ior, 1) := by decide +kernel
theorem d_Pic_channelBits_25 : decode prog_6_method_6_code 25 = .ok (.istore_n 1, 1) := by decide +kernel
theorem d_Pic_channelBits_26 : decode prog_6_method_6_code 26 = .ok (.iinc 2 1, 3) := by decide +kernel
theorem d_Pic_channelBits_29 : decode prog_6_method_6_code 29 = .ok (.goto (-25), 3) := by decide +kernel
theorem d_Pic_channelBits_32 : decode prog_6_method_6_code 32 = .ok (.iload_n 1, 1) := by decide +kernel
theorem d_Pic_channelBits_33 : decode prog_6_method_6_code 33 = .ok (.ireturn, 1) := by decide +kernel
def L_Pic_channelBits_4 : Nat → Int32 → Int32 → Int32 → Option (Int32)
  | 0, _, _, _ => none
  | n + 1, v0, v1, v2 => if 4 ≤ v2 then (some v1) else (lt (v1 ||| ((((v0 >>> (v2 &&& 31)) &&& 1) * 255) <<< ((8 * v2) &&& 31))) (fun y3 => lt (v2 + 1) (fun y4 => L_Pic_channelBits_4 n v0 y3 y4)))
set_option maxRecDepth 10000 in
set_option maxHeartbeats 4000000 in
theorem lt_Pic_channelBits_4 {p : Program} {l : Launch} {e : Env} {R : Room} {s : State} {m : MethodId} {args : Array Value} {below : List Frame} {meth : Method} {c : Code} {D : va_G} {τ : ClassId × ClassId × ClassId} {B : Nat} {A : Nat → Prop} {ad : Nat → Nat} {σ0 : Sg} (E : Cx p R s m args meth c prog_6_method_6_code 3 "DrawingMachine$Picture" 0 D τ B A) (hret : meth.sig.returnType = (some .int)) (o : Int32) : ∀ (n : Nat) (v0 : Int32) (v1 : Int32) (v2 : Int32) (H : Heap) (locs : List Loc) (ls : Array Slot), L_Pic_channelBits_4 n v0 v1 v2 = some o → Wd s D A (wdC τ σ0 ad) H locs → lv_has ls 3 [(0, .int v0), (1, .int v1), (2, .int v2)] → W p l e R s m args below meth c H locs 0 0 (QI below args s A D τ (wdC τ σ0 ad) o) (F0 m 4 ls []) := by
  intro n
  induction n with
  | zero =>
    intro v0 v1 v2 H locs ls h w hl
    cases h
  | succ n hr_4 =>
    intro v0 v1 v2 H locs ls h w hl
    refine lv_iload_n E.x E.b d_Pic_channelBits_4 rfl (lv_at hl 2 rfl) ?_
    refine lv_iconst (v := 4) E.x E.b d_Pic_channelBits_5 (by decide) ?_
    refine lv_icmp_ge (tgt := 32) E.x E.b d_Pic_channelBits_6 (by decide) (fun c => ?_) (fun c => ?_)
    ·
      replace h := ifT c h
      refine lv_iload_n E.x E.b d_Pic_channelBits_32 rfl (lv_at hl 1 rfl) ?_
      obtain rfl := Option.some.inj h
      exact rt_i E w hret d_Pic_channelBits_33
    ·
      replace h := ifF c h
      refine lv_iload_n E.x E.b d_Pic_channelBits_9 rfl (lv_at hl 1 rfl) ?_
      refine lv_iload_n E.x E.b d_Pic_channelBits_10 rfl (lv_at hl 0 rfl) ?_
      refine lv_iload_n E.x E.b d_Pic_channelBits_11 rfl (lv_at hl 2 rfl) ?_
      refine lv_ishr E.x E.b d_Pic_channelBits_12 ?_
      refine lv_iconst (v := 1) E.x E.b d_Pic_channelBits_13 (by decide) ?_
      refine lv_iand E.x E.b d_Pic_channelBits_14 ?_
      refine lv_sipush (v := 255) E.x E.b d_Pic_channelBits_15 (by decide) ?_
      refine lv_imul E.x E.b d_Pic_channelBits_18 ?_
      refine lv_bipush (v := 8) E.x E.b d_Pic_channelBits_19 (by decide) ?_
      refine lv_iload_n E.x E.b d_Pic_channelBits_21 rfl (lv_at hl 2 rfl) ?_
      refine lv_imul E.x E.b d_Pic_channelBits_22 ?_
      refine lv_ishl E.x E.b d_Pic_channelBits_23 ?_
      refine lv_ior E.x E.b d_Pic_channelBits_24 ?_
      obtain ⟨y3, e_y3, h⟩ := lt_some h
      refine wi_e (v := y3) e_y3 ?_
      refine lv_istore_n (lv' := [(1, .int y3), (0, .int v0), (2, .int v2)]) E.x E.b d_Pic_channelBits_25 rfl hl (by decide) rfl (fun ls hl => ?_)
      obtain ⟨y4, e_y4, h⟩ := lt_some h
      refine lv_iinc (v := y4) (lv' := [(2, .int y4), (1, .int y3), (0, .int v0)]) E.x E.b d_Pic_channelBits_26 hl (k := 2) rfl (e_y4) (by decide) rfl (fun ls hl => ?_)
      refine lv_goto (tgt := 4) E.x E.b d_Pic_channelBits_29 (by decide) ?_
      exact hr_4 v0 y3 y4 _ _ _ h w (lv_sub hl [2, 1, 0] rfl)
def F_Pic_channelBits  (x0 : Int32) : Option (Int32) := L_Pic_channelBits_4 100000 x0 0 0
set_option maxRecDepth 10000 in
set_option maxHeartbeats 4000000 in
theorem c_Pic_channelBits (l : Launch) (D : va_G) (τ : ClassId × ClassId × ClassId) (B : Nat) (σ0 : Sg) (ad : Nat → Nat) (x0 : Int32) (o : Int32) (h : F_Pic_channelBits x0 = some o) : MI l y_Pic_channelBits (Cond.code y_Pic_channelBits prog_6_method_6_code 3 (some .int)) 0 D τ B [.int x0] (wdC τ σ0 ad) (wdC τ σ0 ad) o := by
  refine en_i (by decide) (Nat.le_of_ble_eq_true rfl) ?_
  intro p e R s m args below meth c H locs ls A E hret w hl
  have E : Cx p R s m args meth c prog_6_method_6_code 3 "DrawingMachine$Picture" 0 D τ B A := E
  have hl : lv_has ls 3 [(0, .int x0)] := hl
  refine lv_iconst (v := 0) E.x E.b d_Pic_channelBits_0 (by decide) ?_
  refine lv_istore_n (lv' := [(1, .int 0), (0, .int x0)]) E.x E.b d_Pic_channelBits_1 rfl hl (by decide) rfl (fun ls hl => ?_)
  refine lv_iconst (v := 0) E.x E.b d_Pic_channelBits_2 (by decide) ?_
  refine lv_istore_n (lv' := [(2, .int 0), (1, .int 0), (0, .int x0)]) E.x E.b d_Pic_channelBits_3 rfl hl (by decide) rfl (fun ls hl => ?_)
  exact lt_Pic_channelBits_4 E hret o 100000 x0 0 0 _ _ _ h w (lv_sub hl [2, 1, 0] rfl)
theorem clS_Pic_channelBits {p : Program} {l : Launch} {e : Env} {R : Room} {s : State} {m : MethodId} {args : Array Value} {below : List Frame} {meth : Method} {c : Code} {H : Heap} {locs : List Loc} {Q : State → Prop} {cc : ByteArray} {nL pc lev : Nat} {own : String} {D : va_G} {τ : ClassId × ClassId × ClassId} {B : Nat} {A : Nat → Prop} {σ : Sg} {ad : Nat → Nat} {ls : Array Slot} {rest : List Value} (E : Cx p R s m args meth c cc nL own lev D τ B A) (w : Wd s D A (wdC τ σ ad) H locs) {x0 : Int32} {o : Int32} (h : F_Pic_channelBits x0 = some o) {index : Nat} (hlk : Cond.methodLink own index y_Pic_channelBits ∈ tw) (hlev : 0 < lev) (hsz : ls.size = nL) (hr : (rest.map fun v => v.category).sum ≤ 8) (hd : decode cc pc = .ok (.invokestatic index, 3)) (kk : ∀ (H1 : Heap) (locs1 : List Loc), Wd s D A (wdC τ σ ad) H1 locs1 → W p l e R s m args below meth c H1 locs1 0 0 Q (F0 m (pc + 3) ls (.int o :: rest))) : W p l e R s m args below meth c H locs 0 0 Q (F0 m pc ls (.int x0 :: rest)) :=
  cr_i w E.C (va_runS (As := [.int x0]) (rest := rest) E.fix (c_Pic_channelBits l D τ B σ ad x0 o h H.size) (va_cwS 1 E.w (tw_pre (tw_good k1265) (l := [_, _, _]) (List.forall_mem_cons.mpr ⟨hlk, List.forall_mem_cons.mpr ⟨k1264, List.forall_mem_cons.mpr ⟨k4, fun _ h => absurd h List.not_mem_nil⟩⟩⟩)) rfl rfl rfl (by decide +kernel) (E.rm hlev (by decide))) (wd_pre w E.C [.int x0]) rfl rfl hsz rfl (lv_room hr) hd ⟨Nat.zero_le _, Nat.zero_le _⟩) kk

theorem d_Told_isOpen_0 : decode prog_11_method_5_code 0 = .ok (.aload_n 0, 1) := by decide +kernel
theorem d_Told_isOpen_1 : decode prog_11_method_5_code 1 = .ok (.getfield 9, 3) := by decide +kernel
theorem d_Told_isOpen_4 : decode prog_11_method_5_code 4 = .ok (.bipush 6, 2) := by decide +kernel
theorem d_Told_isOpen_6 : decode prog_11_method_5_code 6 = .ok (.iaload, 1) := by decide +kernel
theorem d_Told_isOpen_7 : decode prog_11_method_5_code 7 = .ok (.istore_n 3, 1) := by decide +kernel
theorem d_Told_isOpen_8 : decode prog_11_method_5_code 8 = .ok (.aload_n 0, 1) := by decide +kernel
theorem d_Told_isOpen_9 : decode prog_11_method_5_code 9 = .ok (.getfield 9, 3) := by decide +kernel
theorem d_Told_isOpen_12 : decode prog_11_method_5_code 12 = .ok (.bipush 8, 2) := by decide +kernel
theorem d_Told_isOpen_14 : decode prog_11_method_5_code 14 = .ok (.iaload, 1) := by decide +kernel
theorem d_Told_isOpen_15 : decode prog_11_method_5_code 15 = .ok (.istore 4, 2) := by decide +kernel
theorem d_Told_isOpen_17 : decode prog_11_method_5_code 17 = .ok (.iload 4, 2) := by decide +kernel
theorem d_Told_isOpen_19 : decode prog_11_method_5_code 19 = .ok (.iload_n 3, 1) := by decide +kernel
theorem d_Told_isOpen_20 : decode prog_11_method_5_code 20 = .ok (.if_icmp .lt 36, 3) := by decide +kernel
theorem d_Told_isOpen_23 : decode prog_11_method_5_code 23 = .ok (.iload_n 1, 1) := by decide +kernel
theorem d_Told_isOpen_24 : decode prog_11_method_5_code 24 = .ok (.iload_n 3, 1) := by decide +kernel
theorem d_Told_isOpen_25 : decode prog_11_method_5_code 25 = .ok (.if_icmp .lt 35, 3) := by decide +kernel
theorem d_Told_isOpen_28 : decode prog_11_method_5_code 28 = .ok (.iload_n 1, 1) := by decide +kernel
theorem d_Told_isOpen_29 : decode prog_11_method_5_code 29 = .ok (.iload 4, 2) := by decide +kernel
theorem d_Told_isOpen_31 : decode prog_11_method_5_code 31 = .ok (.if_icmp .ge 29, 3) := by decide +kernel
theorem d_Told_isOpen_34 : decode prog_11_method_5_code 34 = .ok (.iload_n 2, 1) := by decide +kernel
theorem d_Told_isOpen_35 : decode prog_11_method_5_code 35 = .ok (.aload_n 0, 1) := by decide +kernel
theorem d_Told_isOpen_36 : decode prog_11_method_5_code 36 = .ok (.getfield 9, 3) := by decide +kernel
theorem d_Told_isOpen_39 : decode prog_11_method_5_code 39 = .ok (.bipush 7, 2) := by decide +kernel
theorem d_Told_isOpen_41 : decode prog_11_method_5_code 41 = .ok (.iaload, 1) := by decide +kernel
theorem d_Told_isOpen_42 : decode prog_11_method_5_code 42 = .ok (.if_icmp .lt 18, 3) := by decide +kernel
theorem d_Told_isOpen_45 : decode prog_11_method_5_code 45 = .ok (.iload_n 2, 1) := by decide +kernel
theorem d_Told_isOpen_46 : decode prog_11_method_5_code 46 = .ok (.aload_n 0, 1) := by decide +kernel
theorem d_Told_isOpen_47 : decode prog_11_method_5_code 47 = .ok (.getfield 9, 3) := by decide +kernel
theorem d_Told_isOpen_50 : decode prog_11_method_5_code 50 = .ok (.bipush 9, 2) := by decide +kernel
theorem d_Told_isOpen_52 : decode prog_11_method_5_code 52 = .ok (.iaload, 1) := by decide +kernel
theorem d_Told_isOpen_53 : decode prog_11_method_5_code 53 = .ok (.if_icmp .ge 7, 3) := by decide +kernel
theorem d_Told_isOpen_56 : decode prog_11_method_5_code 56 = .ok (.iconst 1, 1) := by decide +kernel
theorem d_Told_isOpen_57 : decode prog_11_method_5_code 57 = .ok (.goto 4, 3) := by decide +kernel
theorem d_Told_isOpen_60 : decode prog_11_method_5_code 60 = .ok (.iconst 0, 1) := by decide +kernel
theorem d_Told_isOpen_61 : decode prog_11_method_5_code 61 = .ok (.ireturn, 1) := by decide +kernel
def F_Told_isOpen_61 (σ : Sg) (s0 : Int32) : Option (Int32) := ck (s0 = 0 ∨ s0 = 1) (some s0)
set_option maxRecDepth 10000 in
set_option maxHeartbeats 4000000 in
theorem bt_Told_isOpen_61 {p : Program} {l : Launch} {e : Env} {R : Room} {s : State} {m : MethodId} {args : Array Value} {below : List Frame} {meth : Method} {c : Code} {D : va_G} {τ : ClassId × ClassId × ClassId} {B : Nat} {A : Nat → Prop} {ad : Nat → Nat} (E : Cx p R s m args meth c prog_11_method_5_code 5 "DrawingMachine$Told" 0 D τ B A) (hret : meth.sig.returnType = (some .boolean)) (o : Int32) (σ : Sg) (s0 : Int32) (h : F_Told_isOpen_61 σ s0 = some o) {H : Heap} {locs : List Loc} {ls : Array Slot} (w : Wd s D A (wdC τ σ ad) H locs) (hl : lv_has ls 5 []) : W p l e R s m args below meth c H locs 0 0 (QI below args s A D τ (wdC τ σ ad) o) (F0 m 61 ls [.int s0]) := by
  obtain ⟨c4, h⟩ := ck_some h
  obtain rfl := Option.some.inj h
  exact rt_z E w hret c4 d_Told_isOpen_61
def F_Told_isOpen_60 (σ : Sg) : Option (Int32) := F_Told_isOpen_61 σ 0
set_option maxRecDepth 10000 in
set_option maxHeartbeats 4000000 in
theorem bt_Told_isOpen_60 {p : Program} {l : Launch} {e : Env} {R : Room} {s : State} {m : MethodId} {args : Array Value} {below : List Frame} {meth : Method} {c : Code} {D : va_G} {τ : ClassId × ClassId × ClassId} {B : Nat} {A : Nat → Prop} {ad : Nat → Nat} (E : Cx p R s m args meth c prog_11_method_5_code 5 "DrawingMachine$Told" 0 D τ B A) (hret : meth.sig.returnType = (some .boolean)) (o : Int32) (σ : Sg) (h : F_Told_isOpen_60 σ = some o) {H : Heap} {locs : List Loc} {ls : Array Slot} (w : Wd s D A (wdC τ σ ad) H locs) (hl : lv_has ls 5 []) : W p l e R s m args below meth c H locs 0 0 (QI below args s A D τ (wdC τ σ ad) o) (F0 m 60 ls []) := by
  refine lv_iconst (v := 0) E.x E.b d_Told_isOpen_60 (by decide) ?_
  exact bt_Told_isOpen_61 E hret o σ 0 h w (lv_sub hl [] rfl)
def F_Told_isOpen_56 (σ : Sg) : Option (Int32) := F_Told_isOpen_61 σ 1
set_option maxRecDepth 10000 in
set_option maxHeartbeats 4000000 in
theorem bt_Told_isOpen_56 {p : Program} {l : Launch} {e : Env} {R : Room} {s : State} {m : MethodId} {args : Array Value} {below : List Frame} {meth : Method} {c : Code} {D : va_G} {τ : ClassId × ClassId × ClassId} {B : Nat} {A : Nat → Prop} {ad : Nat → Nat} (E : Cx p R s m args meth c prog_11_method_5_code 5 "DrawingMachine$Told" 0 D τ B A) (hret : meth.sig.returnType = (some .boolean)) (o : Int32) (σ : Sg) (h : F_Told_isOpen_56 σ = some o) {H : Heap} {locs : List Loc} {ls : Array Slot} (w : Wd s D A (wdC τ σ ad) H locs) (hl : lv_has ls 5 []) : W p l e R s m args below meth c H locs 0 0 (QI below args s A D τ (wdC τ σ ad) o) (F0 m 56 ls []) := by
  refine lv_iconst (v := 1) E.x E.b d_Told_isOpen_56 (by decide) ?_
  refine lv_goto (tgt := 61) E.x E.b d_Told_isOpen_57 (by decide) ?_
  exact bt_Told_isOpen_61 E hret o σ 1 h w (lv_sub hl [] rfl)
def F_Told_isOpen (σ : Sg) (x0 : Int32) (x1 : Int32) : Option (Int32) := lt (σ.2.2.1 1 6) (fun y5 => lt (σ.2.2.1 1 8) (fun y6 => if y6 < y5 then (F_Told_isOpen_56 σ) else (if x0 < y5 then (F_Told_isOpen_60 σ) else (if y6 ≤ x0 then (F_Told_isOpen_60 σ) else (if x1 < (σ.2.2.1 1 7) then (F_Told_isOpen_60 σ) else (if (σ.2.2.1 1 9) ≤ x1 then (F_Told_isOpen_60 σ) else (F_Told_isOpen_56 σ)))))))
set_option maxRecDepth 10000 in
set_option maxHeartbeats 4000000 in
theorem c_Told_isOpen (l : Launch) (D : va_G) (τ : ClassId × ClassId × ClassId) (B : Nat) (σ : Sg) (ad : Nat → Nat) (x0 : Int32) (x1 : Int32) (o : Int32) (h : F_Told_isOpen σ x0 x1 = some o) : MI l y_Told_isOpen (Cond.code y_Told_isOpen prog_11_method_5_code 5 (some .boolean)) 0 D τ B [.ref (ad 57), .int x0, .int x1] (wdC τ σ ad) (wdC τ σ ad) o := by
  refine en_i (by decide) (Nat.le_of_ble_eq_true rfl) ?_
  intro p e R s m args below meth c H locs ls A E hret w hl
  have E : Cx p R s m args meth c prog_11_method_5_code 5 "DrawingMachine$Told" 0 D τ B A := E
  have hl : lv_has ls 5 [(0, .ref (ad 57)), (1, .int x0), (2, .int x1)] := hl
  refine lv_aload_n E.x E.b d_Told_isOpen_0 rfl (lv_at hl 0 rfl) ?_
  refine gC_Told_kept E w k62 d_Told_isOpen_1 ?_
  refine lv_bipush (v := 6) E.x E.b d_Told_isOpen_4 (by decide) ?_
  refine ialC E w (k := 1) (by decide) (show inb 6 245 by decide) d_Told_isOpen_6 ?_
  refine wi_e (v := σ.2.2.1 1 6) rfl ?_
  obtain ⟨y5, e_y5, h⟩ := lt_some h
  refine wi_e (v := y5) e_y5 ?_
  refine lv_istore_n (lv' := [(3, .int y5), (0, .ref (ad 57)), (1, .int x0), (2, .int x1)]) E.x E.b d_Told_isOpen_7 rfl hl (by decide) rfl (fun ls hl => ?_)
  refine lv_aload_n E.x E.b d_Told_isOpen_8 rfl (lv_at hl 1 rfl) ?_
  refine gC_Told_kept E w k62 d_Told_isOpen_9 ?_
  refine lv_bipush (v := 8) E.x E.b d_Told_isOpen_12 (by decide) ?_
  refine ialC E w (k := 1) (by decide) (show inb 8 245 by decide) d_Told_isOpen_14 ?_
  refine wi_e (v := σ.2.2.1 1 8) rfl ?_
  obtain ⟨y6, e_y6, h⟩ := lt_some h
  refine wi_e (v := y6) e_y6 ?_
  refine lv_istore (lv' := [(4, .int y6), (3, .int y5), (0, .ref (ad 57)), (1, .int x0), (2, .int x1)]) E.x E.b d_Told_isOpen_15 hl (by decide) rfl (fun ls hl => ?_)
  refine lv_iload E.x E.b d_Told_isOpen_17 (lv_at hl 0 rfl) ?_
  refine lv_iload_n E.x E.b d_Told_isOpen_19 rfl (lv_at hl 1 rfl) ?_
  refine lv_icmp_lt (tgt := 56) E.x E.b d_Told_isOpen_20 (by decide) (fun c => ?_) (fun c => ?_)
  ·
    replace h := ifT c h
    exact bt_Told_isOpen_56 E hret o σ h w (lv_sub hl [] rfl)
  ·
    replace h := ifF c h
    refine lv_iload_n E.x E.b d_Told_isOpen_23 rfl (lv_at hl 3 rfl) ?_
    refine lv_iload_n E.x E.b d_Told_isOpen_24 rfl (lv_at hl 1 rfl) ?_
    refine lv_icmp_lt (tgt := 60) E.x E.b d_Told_isOpen_25 (by decide) (fun c => ?_) (fun c => ?_)
    ·
      replace h := ifT c h
      exact bt_Told_isOpen_60 E hret o σ h w (lv_sub hl [] rfl)
    ·
      replace h := ifF c h
      refine lv_iload_n E.x E.b d_Told_isOpen_28 rfl (lv_at hl 3 rfl) ?_
      refine lv_iload E.x E.b d_Told_isOpen_29 (lv_at hl 0 rfl) ?_
      refine lv_icmp_ge (tgt := 60) E.x E.b d_Told_isOpen_31 (by decide) (fun c => ?_) (fun c => ?_)
      ·
        replace h := ifT c h
        exact bt_Told_isOpen_60 E hret o σ h w (lv_sub hl [] rfl)
      ·
        replace h := ifF c h
        refine lv_iload_n E.x E.b d_Told_isOpen_34 rfl (lv_at hl 4 rfl) ?_
        refine lv_aload_n E.x E.b d_Told_isOpen_35 rfl (lv_at hl 2 rfl) ?_
        refine gC_Told_kept E w k62 d_Told_isOpen_36 ?_
        refine lv_bipush (v := 7) E.x E.b d_Told_isOpen_39 (by decide) ?_
        refine ialC E w (k := 1) (by decide) (show inb 7 245 by decide) d_Told_isOpen_41 ?_
        refine wi_e (v := σ.2.2.1 1 7) rfl ?_
        refine lv_icmp_lt (tgt := 60) E.x E.b d_Told_isOpen_42 (by decide) (fun c => ?_) (fun c => ?_)
        ·
          replace h := ifT c h
          exact bt_Told_isOpen_60 E hret o σ h w (lv_sub hl [] rfl)
        ·
          replace h := ifF c h
          refine lv_iload_n E.x E.b d_Told_isOpen_45 rfl (lv_at hl 4 rfl) ?_
          refine lv_aload_n E.x E.b d_Told_isOpen_46 rfl (lv_at hl 2 rfl) ?_
          refine gC_Told_kept E w k62 d_Told_isOpen_47 ?_
          refine lv_bipush (v := 9) E.x E.b d_Told_isOpen_50 (by decide) ?_
          refine ialC E w (k := 1) (by decide) (show inb 9 245 by decide) d_Told_isOpen_52 ?_
          refine wi_e (v := σ.2.2.1 1 9) rfl ?_
          refine lv_icmp_ge (tgt := 60) E.x E.b d_Told_isOpen_53 (by decide) (fun c => ?_) (fun c => ?_)
          ·
            replace h := ifT c h
            exact bt_Told_isOpen_60 E hret o σ h w (lv_sub hl [] rfl)
          ·
            replace h := ifF c h
            exact bt_Told_isOpen_56 E hret o σ h w (lv_sub hl [] rfl)
theorem clV_Told_isOpen {p : Program} {l : Launch} {e : Env} {R : Room} {s : State} {m : MethodId} {args : Array Value} {below : List Frame} {meth : Method} {c : Code} {H : Heap} {locs : List Loc} {Q : State → Prop} {cc : ByteArray} {nL pc lev : Nat} {own : String} {D : va_G} {τ : ClassId × ClassId × ClassId} {B : Nat} {A : Nat → Prop} {σ : Sg} {ad : Nat → Nat} {ls : Array Slot} {rest : List Value} (E : Cx p R s m args meth c cc nL own lev D τ B A) (w : Wd s D A (wdC τ σ ad) H locs) {x0 : Int32} {x1 : Int32} {o : Int32} (h : F_Told_isOpen σ x0 x1 = some o) {index : Nat} (hlk : Cond.methodLink own index y_Told_isOpen ∈ tw) (hlev : 0 < lev) (hsz : ls.size = nL) (hr : (rest.map fun v => v.category).sum ≤ 8) (hd : decode cc pc = .ok (.invokevirtual index, 3)) (kk : ∀ (H1 : Heap) (locs1 : List Loc), Wd s D A (wdC τ σ ad) H1 locs1 → W p l e R s m args below meth c H1 locs1 0 0 Q (F0 m (pc + 3) ls (.int o :: rest))) : W p l e R s m args below meth c H locs 0 0 Q (F0 m pc ls (.int x1 :: .int x0 :: .ref (ad 57) :: rest)) :=
  cr_i w E.C (va_runV (As := [.int x0, .int x1]) (rest := rest) E.fix (c_Told_isOpen l D τ B σ ad x0 x1 o h H.size) (cwV 2 E.w (tw_pre (tw_good k1252) (l := [_, _, _, _]) (List.forall_mem_cons.mpr ⟨hlk, List.forall_mem_cons.mpr ⟨k1250, List.forall_mem_cons.mpr ⟨k1251, List.forall_mem_cons.mpr ⟨k2, fun _ h => absurd h List.not_mem_nil⟩⟩⟩⟩)) rfl rfl rfl (by decide +kernel) (E.rm hlev (by decide))) (wd_preV w E.C [.int x0, .int x1] rcC_Told rfl) rfl rfl hsz rfl (lv_room hr) hd ⟨Nat.zero_le _, Nat.zero_le _⟩) kk

theorem d_Pic_clear_0 : decode prog_6_method_4_code 0 = .ok (.aload_n 0, 1) := by decide +kernel
theorem d_Pic_clear_1 : decode prog_6_method_4_code 1 = .ok (.getfield 37, 3) := by decide +kernel
theorem d_Pic_clear_4 : decode prog_6_method_4_code 4 = .ok (.sipush 214, 3) := by decide +kernel
theorem d_Pic_clear_7 : decode prog_6_method_4_code 7 = .ok (.iaload, 1) := by decide +kernel
theorem d_Pic_clear_8 : decode prog_6_method_4_code 8 = .ok (.invokestatic 53, 3) := by decide +kernel
theorem d_Pic_clear_11 : decode prog_6_method_4_code 11 = .ok (.istore 5, 2) := by decide +kernel
theorem d_Pic_clear_13 : decode prog_6_method_4_code 13 = .ok (.iload_n 1, 1) := by decide +kernel
theorem d_Pic_clear_14 : decode prog_6_method_4_code 14 = .ok (.iconst 2, 1) := by decide +kernel
theorem d_Pic_clear_15 : decode prog_6_method_4_code 15 = .ok (.iand, 1) := by decide +kernel
theorem d_Pic_clear_16 : decode prog_6_method_4_code 16 = .ok (.ifCond .eq 30, 3) := by decide +kernel
theorem d_Pic_clear_19 : decode prog_6_method_4_code 19 = .ok (.aload_n 0, 1) := by decide +kernel
theorem d_Pic_clear_20 : decode prog_6_method_4_code 20 = .ok (.getfield 37, 3) := by decide +kernel
theorem d_Pic_clear_23 : decode prog_6_method_4_code 23 = .ok (.sipush 190, 3) := by decide +kernel
theorem d_Pic_clear_26 : decode prog_6_method_4_code 26 = .ok (.iaload, 1) := by decide +kernel
theorem d_Pic_clear_27 : decode prog_6_method_4_code 27 = .ok (.ifCond .lt 15, 3) := by decide +kernel
theorem d_Pic_clear_30 : decode prog_6_method_4_code 30 = .ok (.aload_n 0, 1) := by decide +kernel
theorem d_Pic_clear_31 : decode prog_6_method_4_code 31 = .ok (.getfield 37, 3) := by decide +kernel
theorem d_Pic_clear_34 : decode prog_6_method_4_code 34 = .ok (.sipush 191, 3) := by decide +kernel
theorem d_Pic_clear_37 : decode prog_6_method_4_code 37 = .ok (.iaload, 1) := by decide +kernel
theorem d_Pic_clear_38 : decode prog_6_method_4_code 38 = .ok (.iconst 1, 1) := by decide +kernel
theorem d_Pic_clear_39 : decode prog_6_method_4_code 39 = .ok (.if_icmp .ne 7, 3) := by decide +kernel
theorem d_Pic_clear_42 : decode prog_6_method_4_code 42 = .ok (.iconst 1, 1) := by decide +kernel
theorem d_Pic_clear_43 : decode prog_6_method_4_code 43 = .ok (.goto 4, 3) := by decide +kernel
theorem d_Pic_clear_46 : decode prog_6_method_4_code 46 = .ok (.iconst 0, 1) := by decide +kernel
theorem d_Pic_clear_47 : decode prog_6_method_4_code 47 = .ok (.istore 6, 2) := by decide +kernel
theorem d_Pic_clear_49 : decode prog_6_method_4_code 49 = .ok (.aload_n 0, 1) := by decide +kernel
theorem d_Pic_clear_50 : decode prog_6_method_4_code 50 = .ok (.getfield 37, 3) := by decide +kernel
theorem d_Pic_clear_53 : decode prog_6_method_4_code 53 = .ok (.sipush 192, 3) := by decide +kernel
theorem d_Pic_clear_56 : decode prog_6_method_4_code 56 = .ok (.iaload, 1) := by decide +kernel
theorem d_Pic_clear_57 : decode prog_6_method_4_code 57 = .ok (.ifCond .ge 9, 3) := by decide +kernel
theorem d_Pic_clear_60 : decode prog_6_method_4_code 60 = .ok (.sipush 255, 3) := by decide +kernel
theorem d_Pic_clear_63 : decode prog_6_method_4_code 63 = .ok (.goto 11, 3) := by decide +kernel
theorem d_Pic_clear_66 : decode prog_6_method_4_code 66 = .ok (.aload_n 0, 1) := by decide +kernel
theorem d_Pic_clear_67 : decode prog_6_method_4_code 67 = .ok (.getfield 37, 3) := by decide +kernel
theorem d_Pic_clear_70 : decode prog_6_method_4_code 70 = .ok (.sipush 195, 3) := by decide +kernel
theorem d_Pic_clear_73 : decode prog_6_method_4_code 73 = .ok (.iaload, 1) := by decide +kernel
theorem d_Pic_clear_74 : decode prog_6_method_4_code 74 = .ok (.istore 7, 2) := by decide +kernel
theorem d_Pic_clear_76 : decode prog_6_method_4_code 76 = .ok (.iconst 0, 1) := by decide +kernel
theorem d_Pic_clear_77 : decode prog_6_method_4_code 77 = .ok (.istore 8, 2) := by decide +kernel
theorem d_Pic_clear_79 : decode prog_6_method_4_code 79 = .ok (.iload 8, 2) := by decide +kernel
theorem d_Pic_clear_81 : decode prog_6_method_4_code 81 = .ok (.aload_n 0, 1) := by decide +kernel
theorem d_Pic_clear_82 : decode prog_6_method_4_code 82 = .ok (.getfield 15, 3) := by decide +kernel
theorem d_Pic_clear_85 : decode prog_6_method_4_code 85 = .ok (.if_icmp .ge 130, 3) := by decide +kernel
theorem d_Pic_clear_88 : decode prog_6_method_4_code 88 = .ok (.iconst 0, 1) := by decide +kernel
theorem d_Pic_clear_89 : decode prog_6_method_4_code 89 = .ok (.istore 9, 2) := by decide +kernel
theorem d_Pic_clear_91 : decode prog_6_method_4_code 91 = .ok (.iload 9, 2) := by decide +kernel
theorem d_Pic_clear_93 : decode prog_6_method_4_code 93 = .ok (.aload_n 0, 1) := by decide +kernel
theorem d_Pic_clear_94 : decode prog_6_method_4_code 94 = .ok (.getfield 9, 3) := by decide +kernel
theorem d_Pic_clear_97 : decode prog_6_method_4_code 97 = .ok (.if_icmp .ge 112, 3) := by decide +kernel
theorem d_Pic_clear_100 : decode prog_6_method_4_code 100 = .ok (.iload 8, 2) := by decide +kernel
theorem d_Pic_clear_102 : decode prog_6_method_4_code 102 = .ok (.aload_n 0, 1) := by decide +kernel
theorem d_Pic_clear_103 : decode prog_6_method_4_code 103 = .ok (.getfield 9, 3) := by decide +kernel
theorem d_Pic_clear_106 : decode prog_6_method_4_code 106 = .ok (.imul, 1) := by decide +kernel
theorem d_Pic_clear_107 : decode prog_6_method_4_code 107 = .ok (.iload 9, 2) := by decide +kernel
theorem d_Pic_clear_109 : decode prog_6_method_4_code 109 = .ok (.iadd, 1) := by decide +kernel
theorem d_Pic_clear_110 : decode prog_6_method_4_code 110 = .ok (.istore 10, 2) := by decide +kernel
theorem d_Pic_clear_112 : decode prog_6_method_4_code 112 = .ok (.aload_n 0, 1) := by decide +kernel
theorem d_Pic_clear_113 : decode prog_6_method_4_code 113 = .ok (.getfield 28, 3) := by decide +kernel
theorem d_Pic_clear_116 : decode prog_6_method_4_code 116 = .ok (.iload 9, 2) := by decide +kernel
theorem d_Pic_clear_118 : decode prog_6_method_4_code 118 = .ok (.iload 8, 2) := by decide +kernel
theorem d_Pic_clear_120 : decode prog_6_method_4_code 120 = .ok (.invokevirtual 57, 3) := by decide +kernel
theorem d_Pic_clear_123 : decode prog_6_method_4_code 123 = .ok (.ifCond .ne 6, 3) := by decide +kernel
theorem d_Pic_clear_126 : decode prog_6_method_4_code 126 = .ok (.goto 77, 3) := by decide +kernel
theorem d_Pic_clear_129 : decode prog_6_method_4_code 129 = .ok (.iload_n 1, 1) := by decide +kernel
theorem d_Pic_clear_130 : decode prog_6_method_4_code 130 = .ok (.iconst 1, 1) := by decide +kernel
theorem d_Pic_clear_131 : decode prog_6_method_4_code 131 = .ok (.iand, 1) := by decide +kernel
theorem d_Pic_clear_132 : decode prog_6_method_4_code 132 = .ok (.ifCond .eq 27, 3) := by decide +kernel
theorem d_Pic_clear_135 : decode prog_6_method_4_code 135 = .ok (.aload_n 0, 1) := by decide +kernel
theorem d_Pic_clear_136 : decode prog_6_method_4_code 136 = .ok (.getfield 18, 3) := by decide +kernel
theorem d_Pic_clear_139 : decode prog_6_method_4_code 139 = .ok (.iload 10, 2) := by decide +kernel
theorem d_Pic_clear_141 : decode prog_6_method_4_code 141 = .ok (.aload_n 0, 1) := by decide +kernel
theorem d_Pic_clear_142 : decode prog_6_method_4_code 142 = .ok (.getfield 18, 3) := by decide +kernel
theorem d_Pic_clear_145 : decode prog_6_method_4_code 145 = .ok (.iload 10, 2) := by decide +kernel
theorem d_Pic_clear_147 : decode prog_6_method_4_code 147 = .ok (.iaload, 1) := by decide +kernel
theorem d_Pic_clear_148 : decode prog_6_method_4_code 148 = .ok (.iload 5, 2) := by decide +kernel
theorem d_Pic_clear_150 : decode prog_6_method_4_code 150 = .ok (.iconst (-1), 1) := by decide +kernel
theorem d_Pic_clear_151 : decode prog_6_method_4_code 151 = .ok (.ixor, 1) := by decide +kernel
theorem d_Pic_clear_152 : decode prog_6_method_4_code 152 = .ok (.iand, 1) := by decide +kernel
theorem d_Pic_clear_153 : decode prog_6_method_4_code 153 = .ok (.iload_n 2, 1) := by decide +kernel
theorem d_Pic_clear_154 : decode prog_6_method_4_code 154 = .ok (.iload 5, 2) := by decide +kernel
theorem d_Pic_clear_156 : decode prog_6_method_4_code 156 = .ok (.iand, 1) := by decide +kernel
theorem d_Pic_clear_157 : decode prog_6_method_4_code 157 = .ok (.ior, 1) := by decide +kernel
theorem d_Pic_clear_158 : decode prog_6_method_4_code 158 = .ok (.iastore, 1) := by decide +kernel
theorem d_Pic_clear_159 : decode prog_6_method_4_code 159 = .ok (.iload 6, 2) := by decide +kernel
theorem d_Pic_clear_161 : decode prog_6_method_4_code 161 = .ok (.ifCond .eq 11, 3) := by decide +kernel
theorem d_Pic_clear_164 : decode prog_6_method_4_code 164 = .ok (.aload_n 0, 1) := by decide +kernel
theorem d_Pic_clear_165 : decode prog_6_method_4_code 165 = .ok (.getfield 22, 3) := by decide +kernel
theorem d_Pic_clear_168 : decode prog_6_method_4_code 168 = .ok (.iload 10, 2) := by decide +kernel
theorem d_Pic_clear_170 : decode prog_6_method_4_code 170 = .ok (.iload_n 3, 1) := by decide +kernel
theorem d_Pic_clear_171 : decode prog_6_method_4_code 171 = .ok (.iastore, 1) := by decide +kernel
theorem d_Pic_clear_172 : decode prog_6_method_4_code 172 = .ok (.iload_n 1, 1) := by decide +kernel
theorem d_Pic_clear_173 : decode prog_6_method_4_code 173 = .ok (.iconst 4, 1) := by decide +kernel
theorem d_Pic_clear_174 : decode prog_6_method_4_code 174 = .ok (.iand, 1) := by decide +kernel
theorem d_Pic_clear_175 : decode prog_6_method_4_code 175 = .ok (.ifCond .eq 28, 3) := by decide +kernel
theorem d_Pic_clear_178 : decode prog_6_method_4_code 178 = .ok (.aload_n 0, 1) := by decide +kernel
theorem d_Pic_clear_179 : decode prog_6_method_4_code 179 = .ok (.getfield 25, 3) := by decide +kernel
theorem d_Pic_clear_182 : decode prog_6_method_4_code 182 = .ok (.iload 10, 2) := by decide +kernel
theorem d_Pic_clear_184 : decode prog_6_method_4_code 184 = .ok (.aload_n 0, 1) := by decide +kernel
theorem d_Pic_clear_185 : decode prog_6_method_4_code 185 = .ok (.getfield 25, 3) := by decide +kernel
theorem d_Pic_clear_188 : decode prog_6_method_4_code 188 = .ok (.iload 10, 2) := by decide +kernel
theorem d_Pic_clear_190 : decode prog_6_method_4_code 190 = .ok (.iaload, 1) := by decide +kernel
theorem d_Pic_clear_191 : decode prog_6_method_4_code 191 = .ok (.iload 7, 2) := by decide +kernel
theorem d_Pic_clear_193 : decode prog_6_method_4_code 193 = .ok (.iconst (-1), 1) := by decide +kernel
theorem d_Pic_clear_194 : decode prog_6_method_4_code 194 = .ok (.ixor, 1) := by decide +kernel
theorem d_Pic_clear_195 : decode prog_6_method_4_code 195 = .ok (.iand, 1) := by decide +kernel
theorem d_Pic_clear_196 : decode prog_6_method_4_code 196 = .ok (.iload 4, 2) := by decide +kernel
theorem d_Pic_clear_198 : decode prog_6_method_4_code 198 = .ok (.iload 7, 2) := by decide +kernel
theorem d_Pic_clear_200 : decode prog_6_method_4_code 200 = .ok (.iand, 1) := by decide +kernel
theorem d_Pic_clear_201 : decode prog_6_method_4_code 201 = .ok (.ior, 1) := by decide +kernel
theorem d_Pic_clear_202 : decode prog_6_method_4_code 202 = .ok (.iastore, 1) := by decide +kernel
theorem d_Pic_clear_203 : decode prog_6_method_4_code 203 = .ok (.iinc 9 1, 3) := by decide +kernel
theorem d_Pic_clear_206 : decode prog_6_method_4_code 206 = .ok (.goto (-115), 3) := by decide +kernel
theorem d_Pic_clear_209 : decode prog_6_method_4_code 209 = .ok (.iinc 8 1, 3) := by decide +kernel
theorem d_Pic_clear_212 : decode prog_6_method_4_code 212 = .ok (.goto (-133), 3) := by decide +kernel
theorem d_Pic_clear_215 : decode prog_6_method_4_code 215 = .ok (.return_, 1) := by decide +kernel
def F_Pic_clear_203 (rc_79 : Sg → Int32 → Int32 → Int32 → Int32 → Int32 → Int32 → Int32 → Int32 → Option (Sg)) (rc_91 : Sg → Int32 → Int32 → Int32 → Int32 → Int32 → Int32 → Int32 → Int32 → Int32 → Option (Sg)) (σ : Sg) (v1 : Int32) (v2 : Int32) (v3 : Int32) (v4 : Int32) (v5 : Int32) (v6 : Int32) (v7 : Int32) (v8 : Int32) (v9 : Int32) : Option (Sg) := lt (v9 + 1) (fun y14 => rc_91 σ v1 v2 v3 v4 v5 v6 v7 v8 y14)
set_option maxRecDepth 10000 in
set_option maxHeartbeats 4000000 in
theorem bt_Pic_clear_203 {p : Program} {l : Launch} {e : Env} {R : Room} {s : State} {m : MethodId} {args : Array Value} {below : List Frame} {meth : Method} {c : Code} {D : va_G} {τ : ClassId × ClassId × ClassId} {B : Nat} {A : Nat → Prop} {ad : Nat → Nat} (E : Cx p R s m args meth c prog_6_method_4_code 11 "DrawingMachine$Picture" 1 D τ B A) (hret : meth.sig.returnType = none) (o : Sg) (rc_79 : Sg → Int32 → Int32 → Int32 → Int32 → Int32 → Int32 → Int32 → Int32 → Option (Sg)) (rc_91 : Sg → Int32 → Int32 → Int32 → Int32 → Int32 → Int32 → Int32 → Int32 → Int32 → Option (Sg)) (hr_79 : ∀ (σ : Sg) (v1 : Int32) (v2 : Int32) (v3 : Int32) (v4 : Int32) (v5 : Int32) (v6 : Int32) (v7 : Int32) (v8 : Int32) (H : Heap) (locs : List Loc) (ls : Array Slot), rc_79 σ v1 v2 v3 v4 v5 v6 v7 v8 = some o → Wd s D A (wdC τ σ ad) H locs → lv_has ls 11 [(0, .ref (ad 58)), (1, .int v1), (2, .int v2), (3, .int v3), (4, .int v4), (5, .int v5), (6, .int v6), (7, .int v7), (8, .int v8)] → W p l e R s m args below meth c H locs 0 0 (QV below args s A D τ (wdC τ o ad)) (F0 m 79 ls [])) (hr_91 : ∀ (σ : Sg) (v1 : Int32) (v2 : Int32) (v3 : Int32) (v4 : Int32) (v5 : Int32) (v6 : Int32) (v7 : Int32) (v8 : Int32) (v9 : Int32) (H : Heap) (locs : List Loc) (ls : Array Slot), rc_91 σ v1 v2 v3 v4 v5 v6 v7 v8 v9 = some o → Wd s D A (wdC τ σ ad) H locs → lv_has ls 11 [(0, .ref (ad 58)), (1, .int v1), (2, .int v2), (3, .int v3), (4, .int v4), (5, .int v5), (6, .int v6), (7, .int v7), (8, .int v8), (9, .int v9)] → W p l e R s m args below meth c H locs 0 0 (QV below args s A D τ (wdC τ o ad)) (F0 m 91 ls [])) (σ : Sg) (v1 : Int32) (v2 : Int32) (v3 : Int32) (v4 : Int32) (v5 : Int32) (v6 : Int32) (v7 : Int32) (v8 : Int32) (v9 : Int32) (h : F_Pic_clear_203 rc_79 rc_91 σ v1 v2 v3 v4 v5 v6 v7 v8 v9 = some o) {H : Heap} {locs : List Loc} {ls : Array Slot} (w : Wd s D A (wdC τ σ ad) H locs) (hl : lv_has ls 11 [(0, .ref (ad 58)), (1, .int v1), (2, .int v2), (3, .int v3), (4, .int v4), (5, .int v5), (6, .int v6), (7, .int v7), (8, .int v8), (9, .int v9)]) : W p l e R s m args below meth c H locs 0 0 (QV below args s A D τ (wdC τ o ad)) (F0 m 203 ls []) := by
  obtain ⟨y14, e_y14, h⟩ := lt_some h
  refine lv_iinc (v := y14) (lv' := [(9, .int y14), (0, .ref (ad 58)), (1, .int v1), (2, .int v2), (3, .int v3), (4, .int v4), (5, .int v5), (6, .int v6), (7, .int v7), (8, .int v8)]) E.x E.b d_Pic_clear_203 hl (k := 9) rfl (e_y14) (by decide) rfl (fun ls hl => ?_)
  refine lv_goto (tgt := 91) E.x E.b d_Pic_clear_206 (by decide) ?_
  exact hr_91 σ v1 v2 v3 v4 v5 v6 v7 v8 y14 _ _ _ h w (lv_sub hl [1, 2, 3, 4, 5, 6, 7, 8, 9, 0] rfl)
def F_Pic_clear_172 (rc_79 : Sg → Int32 → Int32 → Int32 → Int32 → Int32 → Int32 → Int32 → Int32 → Option (Sg)) (rc_91 : Sg → Int32 → Int32 → Int32 → Int32 → Int32 → Int32 → Int32 → Int32 → Int32 → Option (Sg)) (σ : Sg) (v1 : Int32) (v2 : Int32) (v3 : Int32) (v4 : Int32) (v5 : Int32) (v6 : Int32) (v7 : Int32) (v8 : Int32) (v9 : Int32) (v10 : Int32) : Option (Sg) := if (v1 &&& 4) = 0 then (F_Pic_clear_203 rc_79 rc_91 σ v1 v2 v3 v4 v5 v6 v7 v8 v9) else (ck (inb v10 (lenC σ 4)) (ck (inb v10 (lenC σ 4)) (lt (sA σ 4 (upd (σ.2.2.1 4) v10.toNatClampNeg (((σ.2.2.1 4 v10.toNatClampNeg) &&& (v7 ^^^ (-1))) ||| (v4 &&& v7)))) (fun σ17 => F_Pic_clear_203 rc_79 rc_91 σ17 v1 v2 v3 v4 v5 v6 v7 v8 v9))))
set_option maxRecDepth 10000 in
set_option maxHeartbeats 4000000 in
theorem bt_Pic_clear_172 {p : Program} {l : Launch} {e : Env} {R : Room} {s : State} {m : MethodId} {args : Array Value} {below : List Frame} {meth : Method} {c : Code} {D : va_G} {τ : ClassId × ClassId × ClassId} {B : Nat} {A : Nat → Prop} {ad : Nat → Nat} (E : Cx p R s m args meth c prog_6_method_4_code 11 "DrawingMachine$Picture" 1 D τ B A) (hret : meth.sig.returnType = none) (o : Sg) (rc_79 : Sg → Int32 → Int32 → Int32 → Int32 → Int32 → Int32 → Int32 → Int32 → Option (Sg)) (rc_91 : Sg → Int32 → Int32 → Int32 → Int32 → Int32 → Int32 → Int32 → Int32 → Int32 → Option (Sg)) (hr_79 : ∀ (σ : Sg) (v1 : Int32) (v2 : Int32) (v3 : Int32) (v4 : Int32) (v5 : Int32) (v6 : Int32) (v7 : Int32) (v8 : Int32) (H : Heap) (locs : List Loc) (ls : Array Slot), rc_79 σ v1 v2 v3 v4 v5 v6 v7 v8 = some o → Wd s D A (wdC τ σ ad) H locs → lv_has ls 11 [(0, .ref (ad 58)), (1, .int v1), (2, .int v2), (3, .int v3), (4, .int v4), (5, .int v5), (6, .int v6), (7, .int v7), (8, .int v8)] → W p l e R s m args below meth c H locs 0 0 (QV below args s A D τ (wdC τ o ad)) (F0 m 79 ls [])) (hr_91 : ∀ (σ : Sg) (v1 : Int32) (v2 : Int32) (v3 : Int32) (v4 : Int32) (v5 : Int32) (v6 : Int32) (v7 : Int32) (v8 : Int32) (v9 : Int32) (H : Heap) (locs : List Loc) (ls : Array Slot), rc_91 σ v1 v2 v3 v4 v5 v6 v7 v8 v9 = some o → Wd s D A (wdC τ σ ad) H locs → lv_has ls 11 [(0, .ref (ad 58)), (1, .int v1), (2, .int v2), (3, .int v3), (4, .int v4), (5, .int v5), (6, .int v6), (7, .int v7), (8, .int v8), (9, .int v9)] → W p l e R s m args below meth c H locs 0 0 (QV below args s A D τ (wdC τ o ad)) (F0 m 91 ls [])) (σ : Sg) (v1 : Int32) (v2 : Int32) (v3 : Int32) (v4 : Int32) (v5 : Int32) (v6 : Int32) (v7 : Int32) (v8 : Int32) (v9 : Int32) (v10 : Int32) (h : F_Pic_clear_172 rc_79 rc_91 σ v1 v2 v3 v4 v5 v6 v7 v8 v9 v10 = some o) {H : Heap} {locs : List Loc} {ls : Array Slot} (w : Wd s D A (wdC τ σ ad) H locs) (hl : lv_has ls 11 [(0, .ref (ad 58)), (1, .int v1), (2, .int v2), (3, .int v3), (4, .int v4), (5, .int v5), (6, .int v6), (7, .int v7), (8, .int v8), (9, .int v9), (10, .int v10)]) : W p l e R s m args below meth c H locs 0 0 (QV below args s A D τ (wdC τ o ad)) (F0 m 172 ls []) := by
  refine lv_iload_n E.x E.b d_Pic_clear_172 rfl (lv_at hl 1 rfl) ?_
  refine lv_iconst (v := 4) E.x E.b d_Pic_clear_173 (by decide) ?_
  refine lv_iand E.x E.b d_Pic_clear_174 ?_
  refine lv_if_eq (tgt := 203) E.x E.b d_Pic_clear_175 (by decide) (fun c => ?_) (fun c => ?_)
  ·
    replace h := ifT c h
    exact bt_Pic_clear_203 E hret o rc_79 rc_91 hr_79 hr_91 σ v1 v2 v3 v4 v5 v6 v7 v8 v9 h w (lv_sub hl [0, 1, 2, 3, 4, 5, 6, 7, 8, 9] rfl)
  ·
    replace h := ifF c h
    refine lv_aload_n E.x E.b d_Pic_clear_178 rfl (lv_at hl 0 rfl) ?_
    refine gC_Pic_stencils E w k86 d_Pic_clear_179 ?_
    refine lv_iload E.x E.b d_Pic_clear_182 (lv_at hl 10 rfl) ?_
    refine lv_aload_n E.x E.b d_Pic_clear_184 rfl (lv_at hl 0 rfl) ?_
    refine gC_Pic_stencils E w k86 d_Pic_clear_185 ?_
    refine lv_iload E.x E.b d_Pic_clear_188 (lv_at hl 10 rfl) ?_
    obtain ⟨c15, h⟩ := ck_some h
    refine ialC E w (k := 4) (by decide) c15 d_Pic_clear_190 ?_
    refine lv_iload E.x E.b d_Pic_clear_191 (lv_at hl 7 rfl) ?_
    refine lv_iconst (v := (-1)) E.x E.b d_Pic_clear_193 (by decide) ?_
    refine lv_ixor E.x E.b d_Pic_clear_194 ?_
    refine lv_iand E.x E.b d_Pic_clear_195 ?_
    refine lv_iload E.x E.b d_Pic_clear_196 (lv_at hl 4 rfl) ?_
    refine lv_iload E.x E.b d_Pic_clear_198 (lv_at hl 7 rfl) ?_
    refine lv_iand E.x E.b d_Pic_clear_200 ?_
    refine lv_ior E.x E.b d_Pic_clear_201 ?_
    obtain ⟨c16, h⟩ := ck_some h
    obtain ⟨σ17, e_σ17, h⟩ := lt_some h
    refine iasC E w (k := 4) (by decide) c16 e_σ17 d_Pic_clear_202 (fun H locs w => ?_)
    exact bt_Pic_clear_203 E hret o rc_79 rc_91 hr_79 hr_91 σ17 v1 v2 v3 v4 v5 v6 v7 v8 v9 h w (lv_sub hl [0, 1, 2, 3, 4, 5, 6, 7, 8, 9] rfl)
def F_Pic_clear_159 (rc_79 : Sg → Int32 → Int32 → Int32 → Int32 → Int32 → Int32 → Int32 → Int32 → Option (Sg)) (rc_91 : Sg → Int32 → Int32 → Int32 → Int32 → Int32 → Int32 → Int32 → Int32 → Int32 → Option (Sg)) (σ : Sg) (v1 : Int32) (v2 : Int32) (v3 : Int32) (v4 : Int32) (v5 : Int32) (v6 : Int32) (v7 : Int32) (v8 : Int32) (v9 : Int32) (v10 : Int32) : Option (Sg) := if v6 = 0 then (F_Pic_clear_172 rc_79 rc_91 σ v1 v2 v3 v4 v5 v6 v7 v8 v9 v10) else (ck (inb v10 (lenC σ 3)) (lt (sA σ 3 (upd (σ.2.2.1 3) v10.toNatClampNeg v3)) (fun σ19 => F_Pic_clear_172 rc_79 rc_91 σ19 v1 v2 v3 v4 v5 v6 v7 v8 v9 v10)))
set_option maxRecDepth 10000 in
set_option maxHeartbeats 4000000 in
theorem bt_Pic_clear_159 {p : Program} {l : Launch} {e : Env} {R : Room} {s : State} {m : MethodId} {args : Array Value} {below : List Frame} {meth : Method} {c : Code} {D : va_G} {τ : ClassId × ClassId × ClassId} {B : Nat} {A : Nat → Prop} {ad : Nat → Nat} (E : Cx p R s m args meth c prog_6_method_4_code 11 "DrawingMachine$Picture" 1 D τ B A) (hret : meth.sig.returnType = none) (o : Sg) (rc_79 : Sg → Int32 → Int32 → Int32 → Int32 → Int32 → Int32 → Int32 → Int32 → Option (Sg)) (rc_91 : Sg → Int32 → Int32 → Int32 → Int32 → Int32 → Int32 → Int32 → Int32 → Int32 → Option (Sg)) (hr_79 : ∀ (σ : Sg) (v1 : Int32) (v2 : Int32) (v3 : Int32) (v4 : Int32) (v5 : Int32) (v6 : Int32) (v7 : Int32) (v8 : Int32) (H : Heap) (locs : List Loc) (ls : Array Slot), rc_79 σ v1 v2 v3 v4 v5 v6 v7 v8 = some o → Wd s D A (wdC τ σ ad) H locs → lv_has ls 11 [(0, .ref (ad 58)), (1, .int v1), (2, .int v2), (3, .int v3), (4, .int v4), (5, .int v5), (6, .int v6), (7, .int v7), (8, .int v8)] → W p l e R s m args below meth c H locs 0 0 (QV below args s A D τ (wdC τ o ad)) (F0 m 79 ls [])) (hr_91 : ∀ (σ : Sg) (v1 : Int32) (v2 : Int32) (v3 : Int32) (v4 : Int32) (v5 : Int32) (v6 : Int32) (v7 : Int32) (v8 : Int32) (v9 : Int32) (H : Heap) (locs : List Loc) (ls : Array Slot), rc_91 σ v1 v2 v3 v4 v5 v6 v7 v8 v9 = some o → Wd s D A (wdC τ σ ad) H locs → lv_has ls 11 [(0, .ref (ad 58)), (1, .int v1), (2, .int v2), (3, .int v3), (4, .int v4), (5, .int v5), (6, .int v6), (7, .int v7), (8, .int v8), (9, .int v9)] → W p l e R s m args below meth c H locs 0 0 (QV below args s A D τ (wdC τ o ad)) (F0 m 91 ls [])) (σ : Sg) (v1 : Int32) (v2 : Int32) (v3 : Int32) (v4 : Int32) (v5 : Int32) (v6 : Int32) (v7 : Int32) (v8 : Int32) (v9 : Int32) (v10 : Int32) (h : F_Pic_clear_159 rc_79 rc_91 σ v1 v2 v3 v4 v5 v6 v7 v8 v9 v10 = some o) {H : Heap} {locs : List Loc} {ls : Array Slot} (w : Wd s D A (wdC τ σ ad) H locs) (hl : lv_has ls 11 [(0, .ref (ad 58)), (1, .int v1), (2, .int v2), (3, .int v3), (4, .int v4), (5, .int v5), (6, .int v6), (7, .int v7), (8, .int v8), (9, .int v9), (10, .int v10)]) : W p l e R s m args below meth c H locs 0 0 (QV below args s A D τ (wdC τ o ad)) (F0 m 159 ls []) := by
  refine lv_iload E.x E.b d_Pic_clear_159 (lv_at hl 6 rfl) ?_
  refine lv_if_eq (tgt := 172) E.x E.b d_Pic_clear_161 (by decide) (fun c => ?_) (fun c => ?_)
  ·
    replace h := ifT c h
    exact bt_Pic_clear_172 E hret o rc_79 rc_91 hr_79 hr_91 σ v1 v2 v3 v4 v5 v6 v7 v8 v9 v10 h w (lv_sub hl [0, 1, 2, 3, 4, 5, 6, 7, 8, 9, 10] rfl)
  ·
    replace h := ifF c h
    refine lv_aload_n E.x E.b d_Pic_clear_164 rfl (lv_at hl 0 rfl) ?_
    refine gC_Pic_depths E w k85 d_Pic_clear_165 ?_
    refine lv_iload E.x E.b d_Pic_clear_168 (lv_at hl 10 rfl) ?_
    refine lv_iload_n E.x E.b d_Pic_clear_170 rfl (lv_at hl 3 rfl) ?_
    obtain ⟨c18, h⟩ := ck_some h
    obtain ⟨σ19, e_σ19, h⟩ := lt_some h
    refine iasC E w (k := 3) (by decide) c18 e_σ19 d_Pic_clear_171 (fun H locs w => ?_)
    exact bt_Pic_clear_172 E hret o rc_79 rc_91 hr_79 hr_91 σ19 v1 v2 v3 v4 v5 v6 v7 v8 v9 v10 h w (lv_sub hl [0, 1, 2, 3, 4, 5, 6, 7, 8, 9, 10] rfl)
def L_Pic_clear_91 (rc_79 : Sg → Int32 → Int32 → Int32 → Int32 → Int32 → Int32 → Int32 → Int32 → Option (Sg)) : Nat → Sg → Int32 → Int32 → Int32 → Int32 → Int32 → Int32 → Int32 → Int32 → Int32 → Option (Sg)
  | 0, _, _, _, _, _, _, _, _, _, _ => none
  | n + 1, σ, v1, v2, v3, v4, v5, v6, v7, v8, v9 => if (σ.1 0) ≤ v9 then (lt (v8 + 1) (fun y20 => rc_79 σ v1 v2 v3 v4 v5 v6 v7 y20)) else (lt ((v8 * (σ.1 0)) + v9) (fun y21 => bd (F_Told_isOpen σ v9 v8) (fun o22 => if o22 = 0 then (F_Pic_clear_203 rc_79 (L_Pic_clear_91 rc_79 n) σ v1 v2 v3 v4 v5 v6 v7 v8 v9) else (if (v1 &&& 1) = 0 then (F_Pic_clear_159 rc_79 (L_Pic_clear_91 rc_79 n) σ v1 v2 v3 v4 v5 v6 v7 v8 v9 y21) else (ck (inb y21 (lenC σ 2)) (ck (inb y21 (lenC σ 2)) (lt (sA σ 2 (upd (σ.2.2.1 2) y21.toNatClampNeg (((σ.2.2.1 2 y21.toNatClampNeg) &&& (v5 ^^^ (-1))) ||| (v2 &&& v5)))) (fun σ25 => F_Pic_clear_159 rc_79 (L_Pic_clear_91 rc_79 n) σ25 v1 v2 v3 v4 v5 v6 v7 v8 v9 y21))))))))
set_option maxRecDepth 10000 in
set_option maxHeartbeats 4000000 in
theorem lt_Pic_clear_91 {p : Program} {l : Launch} {e : Env} {R : Room} {s : State} {m : MethodId} {args : Array Value} {below : List Frame} {meth : Method} {c : Code} {D : va_G} {τ : ClassId × ClassId × ClassId} {B : Nat} {A : Nat → Prop} {ad : Nat → Nat} (E : Cx p R s m args meth c prog_6_method_4_code 11 "DrawingMachine$Picture" 1 D τ B A) (hret : meth.sig.returnType = none) (o : Sg) (rc_79 : Sg → Int32 → Int32 → Int32 → Int32 → Int32 → Int32 → Int32 → Int32 → Option (Sg)) (hr_79 : ∀ (σ : Sg) (v1 : Int32) (v2 : Int32) (v3 : Int32) (v4 : Int32) (v5 : Int32) (v6 : Int32) (v7 : Int32) (v8 : Int32) (H : Heap) (locs : List Loc) (ls : Array Slot), rc_79 σ v1 v2 v3 v4 v5 v6 v7 v8 = some o → Wd s D A (wdC τ σ ad) H locs → lv_has ls 11 [(0, .ref (ad 58)), (1, .int v1), (2, .int v2), (3, .int v3), (4, .int v4), (5, .int v5), (6, .int v6), (7, .int v7), (8, .int v8)] → W p l e R s m args below meth c H locs 0 0 (QV below args s A D τ (wdC τ o ad)) (F0 m 79 ls [])) : ∀ (n : Nat) (σ : Sg) (v1 : Int32) (v2 : Int32) (v3 : Int32) (v4 : Int32) (v5 : Int32) (v6 : Int32) (v7 : Int32) (v8 : Int32) (v9 : Int32) (H : Heap) (locs : List Loc) (ls : Array Slot), L_Pic_clear_91 rc_79 n σ v1 v2 v3 v4 v5 v6 v7 v8 v9 = some o → Wd s D A (wdC τ σ ad) H locs → lv_has ls 11 [(0, .ref (ad 58)), (1, .int v1), (2, .int v2), (3, .int v3), (4, .int v4), (5, .int v5), (6, .int v6), (7, .int v7), (8, .int v8), (9, .int v9)] → W p l e R s m args below meth c H locs 0 0 (QV below args s A D τ (wdC τ o ad)) (F0 m 91 ls []) := by
  intro n
  induction n with
  | zero =>
    intro σ v1 v2 v3 v4 v5 v6 v7 v8 v9 H locs ls h w hl
    cases h
  | succ n hr_91 =>
    intro σ v1 v2 v3 v4 v5 v6 v7 v8 v9 H locs ls h w hl
    refine lv_iload E.x E.b d_Pic_clear_91 (lv_at hl 9 rfl) ?_
    refine lv_aload_n E.x E.b d_Pic_clear_93 rfl (lv_at hl 0 rfl) ?_
    refine gC_Pic_wide E w k78 d_Pic_clear_94 ?_
    refine lv_icmp_ge (tgt := 209) E.x E.b d_Pic_clear_97 (by decide) (fun c => ?_) (fun c => ?_)
    ·
      replace h := ifT c h
      obtain ⟨y20, e_y20, h⟩ := lt_some h
      refine lv_iinc (v := y20) (lv' := [(8, .int y20), (0, .ref (ad 58)), (1, .int v1), (2, .int v2), (3, .int v3), (4, .int v4), (5, .int v5), (6, .int v6), (7, .int v7), (9, .int v9)]) E.x E.b d_Pic_clear_209 hl (k := 8) rfl (e_y20) (by decide) rfl (fun ls hl => ?_)
      refine lv_goto (tgt := 79) E.x E.b d_Pic_clear_212 (by decide) ?_
      exact hr_79 σ v1 v2 v3 v4 v5 v6 v7 y20 _ _ _ h w (lv_sub hl [1, 2, 3, 4, 5, 6, 7, 8, 0] rfl)
    ·
      replace h := ifF c h
      refine lv_iload E.x E.b d_Pic_clear_100 (lv_at hl 8 rfl) ?_
      refine lv_aload_n E.x E.b d_Pic_clear_102 rfl (lv_at hl 0 rfl) ?_
      refine gC_Pic_wide E w k78 d_Pic_clear_103 ?_
      refine lv_imul E.x E.b d_Pic_clear_106 ?_
      refine lv_iload E.x E.b d_Pic_clear_107 (lv_at hl 9 rfl) ?_
      refine lv_iadd E.x E.b d_Pic_clear_109 ?_
      obtain ⟨y21, e_y21, h⟩ := lt_some h
      refine wi_e (v := y21) e_y21 ?_
      refine lv_istore (lv' := [(10, .int y21), (0, .ref (ad 58)), (1, .int v1), (2, .int v2), (3, .int v3), (4, .int v4), (5, .int v5), (6, .int v6), (7, .int v7), (8, .int v8), (9, .int v9)]) E.x E.b d_Pic_clear_110 hl (by decide) rfl (fun ls hl => ?_)
      refine lv_aload_n E.x E.b d_Pic_clear_112 rfl (lv_at hl 1 rfl) ?_
      refine gC_Pic_told E w k87 d_Pic_clear_113 ?_
      refine lv_iload E.x E.b d_Pic_clear_116 (lv_at hl 10 rfl) ?_
      refine lv_iload E.x E.b d_Pic_clear_118 (lv_at hl 9 rfl) ?_
      obtain ⟨o22, h_o22, h⟩ := bd_some h
      refine clV_Told_isOpen E w (x0 := v9) (x1 := v8) h_o22 k1249 (by decide) hl.1 (Nat.le_of_ble_eq_true rfl) d_Pic_clear_120 (fun H locs w => ?_)
      refine lv_if_ne (tgt := 129) E.x E.b d_Pic_clear_123 (by decide) (fun c => ?_) (fun c => ?_)
      ·
        replace h := ifF c h
        refine lv_iload_n E.x E.b d_Pic_clear_129 rfl (lv_at hl 2 rfl) ?_
        refine lv_iconst (v := 1) E.x E.b d_Pic_clear_130 (by decide) ?_
        refine lv_iand E.x E.b d_Pic_clear_131 ?_
        refine lv_if_eq (tgt := 159) E.x E.b d_Pic_clear_132 (by decide) (fun c => ?_) (fun c => ?_)
        ·
          replace h := ifT c h
          exact bt_Pic_clear_159 E hret o rc_79 (L_Pic_clear_91 rc_79 n) hr_79 hr_91 σ v1 v2 v3 v4 v5 v6 v7 v8 v9 y21 h w (lv_sub hl [1, 2, 3, 4, 5, 6, 7, 8, 9, 10, 0] rfl)
        ·
          replace h := ifF c h
          refine lv_aload_n E.x E.b d_Pic_clear_135 rfl (lv_at hl 1 rfl) ?_
          refine gC_Pic_colours E w k84 d_Pic_clear_136 ?_
          refine lv_iload E.x E.b d_Pic_clear_139 (lv_at hl 0 rfl) ?_
          refine lv_aload_n E.x E.b d_Pic_clear_141 rfl (lv_at hl 1 rfl) ?_
          refine gC_Pic_colours E w k84 d_Pic_clear_142 ?_
          refine lv_iload E.x E.b d_Pic_clear_145 (lv_at hl 0 rfl) ?_
          obtain ⟨c23, h⟩ := ck_some h
          refine ialC E w (k := 2) (by decide) c23 d_Pic_clear_147 ?_
          refine lv_iload E.x E.b d_Pic_clear_148 (lv_at hl 6 rfl) ?_
          refine lv_iconst (v := (-1)) E.x E.b d_Pic_clear_150 (by decide) ?_
          refine lv_ixor E.x E.b d_Pic_clear_151 ?_
          refine lv_iand E.x E.b d_Pic_clear_152 ?_
          refine lv_iload_n E.x E.b d_Pic_clear_153 rfl (lv_at hl 3 rfl) ?_
          refine lv_iload E.x E.b d_Pic_clear_154 (lv_at hl 6 rfl) ?_
          refine lv_iand E.x E.b d_Pic_clear_156 ?_
          refine lv_ior E.x E.b d_Pic_clear_157 ?_
          obtain ⟨c24, h⟩ := ck_some h
          obtain ⟨σ25, e_σ25, h⟩ := lt_some h
          refine iasC E w (k := 2) (by decide) c24 e_σ25 d_Pic_clear_158 (fun H locs w => ?_)
          exact bt_Pic_clear_159 E hret o rc_79 (L_Pic_clear_91 rc_79 n) hr_79 hr_91 σ25 v1 v2 v3 v4 v5 v6 v7 v8 v9 y21 h w (lv_sub hl [1, 2, 3, 4, 5, 6, 7, 8, 9, 10, 0] rfl)
      ·
        replace h := ifT c h
        refine lv_goto (tgt := 203) E.x E.b d_Pic_clear_126 (by decide) ?_
        exact bt_Pic_clear_203 E hret o rc_79 (L_Pic_clear_91 rc_79 n) hr_79 hr_91 σ v1 v2 v3 v4 v5 v6 v7 v8 v9 h w (lv_sub hl [1, 2, 3, 4, 5, 6, 7, 8, 9, 10] rfl)
def L_Pic_clear_79 : Nat → Sg → Int32 → Int32 → Int32 → Int32 → Int32 → Int32 → Int32 → Int32 → Option (Sg)
  | 0, _, _, _, _, _, _, _, _, _ => none
  | n + 1, σ, v1, v2, v3, v4, v5, v6, v7, v8 => if (σ.1 1) ≤ v8 then (some σ) else (L_Pic_clear_91 (L_Pic_clear_79 n) 100000 σ v1 v2 v3 v4 v5 v6 v7 v8 0)
set_option maxRecDepth 10000 in
set_option maxHeartbeats 4000000 in
theorem lt_Pic_clear_79 {p : Program} {l : Launch} {e : Env} {R : Room} {s : State} {m : MethodId} {args : Array Value} {below : List Frame} {meth : Method} {c : Code} {D : va_G} {τ : ClassId × ClassId × ClassId} {B : Nat} {A : Nat → Prop} {ad : Nat → Nat} (E : Cx p R s m args meth c prog_6_method_4_code 11 "DrawingMachine$Picture" 1 D τ B A) (hret : meth.sig.returnType = none) (o : Sg) : ∀ (n : Nat) (σ : Sg) (v1 : Int32) (v2 : Int32) (v3 : Int32) (v4 : Int32) (v5 : Int32) (v6 : Int32) (v7 : Int32) (v8 : Int32) (H : Heap) (locs : List Loc) (ls : Array Slot), L_Pic_clear_79 n σ v1 v2 v3 v4 v5 v6 v7 v8 = some o → Wd s D A (wdC τ σ ad) H locs → lv_has ls 11 [(0, .ref (ad 58)), (1, .int v1), (2, .int v2), (3, .int v3), (4, .int v4), (5, .int v5), (6, .int v6), (7, .int v7), (8, .int v8)] → W p l e R s m args below meth c H locs 0 0 (QV below args s A D τ (wdC τ o ad)) (F0 m 79 ls []) := by
  intro n
  induction n with
  | zero =>
    intro σ v1 v2 v3 v4 v5 v6 v7 v8 H locs ls h w hl
    cases h
  | succ n hr_79 =>
    intro σ v1 v2 v3 v4 v5 v6 v7 v8 H locs ls h w hl
    refine lv_iload E.x E.b d_Pic_clear_79 (lv_at hl 8 rfl) ?_
    refine lv_aload_n E.x E.b d_Pic_clear_81 rfl (lv_at hl 0 rfl) ?_
    refine gC_Pic_high E w k81 d_Pic_clear_82 ?_
    refine lv_icmp_ge (tgt := 215) E.x E.b d_Pic_clear_85 (by decide) (fun c => ?_) (fun c => ?_)
    ·
      replace h := ifT c h
      obtain rfl := Option.some.inj h
      exact rt_v E w hret d_Pic_clear_215
    ·
      replace h := ifF c h
      refine lv_iconst (v := 0) E.x E.b d_Pic_clear_88 (by decide) ?_
      refine lv_istore (lv' := [(9, .int 0), (0, .ref (ad 58)), (1, .int v1), (2, .int v2), (3, .int v3), (4, .int v4), (5, .int v5), (6, .int v6), (7, .int v7), (8, .int v8)]) E.x E.b d_Pic_clear_89 hl (by decide) rfl (fun ls hl => ?_)
      exact lt_Pic_clear_91 E hret o (L_Pic_clear_79 n) hr_79 100000 σ v1 v2 v3 v4 v5 v6 v7 v8 0 _ _ _ h w (lv_sub hl [1, 2, 3, 4, 5, 6, 7, 8, 9, 0] rfl)
def F_Pic_clear_74 (σ : Sg) (v1 : Int32) (v2 : Int32) (v3 : Int32) (v4 : Int32) (v5 : Int32) (v6 : Int32) (s0 : Int32) : Option (Sg) := L_Pic_clear_79 100000 σ v1 v2 v3 v4 v5 v6 s0 0
set_option maxRecDepth 10000 in
set_option maxHeartbeats 4000000 in
theorem bt_Pic_clear_74 {p : Program} {l : Launch} {e : Env} {R : Room} {s : State} {m : MethodId} {args : Array Value} {below : List Frame} {meth : Method} {c : Code} {D : va_G} {τ : ClassId × ClassId × ClassId} {B : Nat} {A : Nat → Prop} {ad : Nat → Nat} (E : Cx p R s m args meth c prog_6_method_4_code 11 "DrawingMachine$Picture" 1 D τ B A) (hret : meth.sig.returnType = none) (o : Sg) (σ : Sg) (v1 : Int32) (v2 : Int32) (v3 : Int32) (v4 : Int32) (v5 : Int32) (v6 : Int32) (s0 : Int32) (h : F_Pic_clear_74 σ v1 v2 v3 v4 v5 v6 s0 = some o) {H : Heap} {locs : List Loc} {ls : Array Slot} (w : Wd s D A (wdC τ σ ad) H locs) (hl : lv_has ls 11 [(0, .ref (ad 58)), (1, .int v1), (2, .int v2), (3, .int v3), (4, .int v4), (5, .int v5), (6, .int v6)]) : W p l e R s m args below meth c H locs 0 0 (QV below args s A D τ (wdC τ o ad)) (F0 m 74 ls [.int s0]) := by
  refine lv_istore (lv' := [(7, .int s0), (0, .ref (ad 58)), (1, .int v1), (2, .int v2), (3, .int v3), (4, .int v4), (5, .int v5), (6, .int v6)]) E.x E.b d_Pic_clear_74 hl (by decide) rfl (fun ls hl => ?_)
  refine lv_iconst (v := 0) E.x E.b d_Pic_clear_76 (by decide) ?_
  refine lv_istore (lv' := [(8, .int 0), (7, .int s0), (0, .ref (ad 58)), (1, .int v1), (2, .int v2), (3, .int v3), (4, .int v4), (5, .int v5), (6, .int v6)]) E.x E.b d_Pic_clear_77 hl (by decide) rfl (fun ls hl => ?_)
  exact lt_Pic_clear_79 E hret o 100000 σ v1 v2 v3 v4 v5 v6 s0 0 _ _ _ h w (lv_sub hl [2, 3, 4, 5, 6, 7, 8, 1, 0] rfl)
def F_Pic_clear_47 (σ : Sg) (v1 : Int32) (v2 : Int32) (v3 : Int32) (v4 : Int32) (v5 : Int32) (s0 : Int32) : Option (Sg) := if 0 ≤ (σ.2.2.1 1 192) then (F_Pic_clear_74 σ v1 v2 v3 v4 v5 s0 (σ.2.2.1 1 195)) else (F_Pic_clear_74 σ v1 v2 v3 v4 v5 s0 255)
set_option maxRecDepth 10000 in
set_option maxHeartbeats 4000000 in
theorem bt_Pic_clear_47 {p : Program} {l : Launch} {e : Env} {R : Room} {s : State} {m : MethodId} {args : Array Value} {below : List Frame} {meth : Method} {c : Code} {D : va_G} {τ : ClassId × ClassId × ClassId} {B : Nat} {A : Nat → Prop} {ad : Nat → Nat} (E : Cx p R s m args meth c prog_6_method_4_code 11 "DrawingMachine$Picture" 1 D τ B A) (hret : meth.sig.returnType = none) (o : Sg) (σ : Sg) (v1 : Int32) (v2 : Int32) (v3 : Int32) (v4 : Int32) (v5 : Int32) (s0 : Int32) (h : F_Pic_clear_47 σ v1 v2 v3 v4 v5 s0 = some o) {H : Heap} {locs : List Loc} {ls : Array Slot} (w : Wd s D A (wdC τ σ ad) H locs) (hl : lv_has ls 11 [(0, .ref (ad 58)), (1, .int v1), (2, .int v2), (3, .int v3), (4, .int v4), (5, .int v5)]) : W p l e R s m args below meth c H locs 0 0 (QV below args s A D τ (wdC τ o ad)) (F0 m 47 ls [.int s0]) := by
  refine lv_istore (lv' := [(6, .int s0), (0, .ref (ad 58)), (1, .int v1), (2, .int v2), (3, .int v3), (4, .int v4), (5, .int v5)]) E.x E.b d_Pic_clear_47 hl (by decide) rfl (fun ls hl => ?_)
  refine lv_aload_n E.x E.b d_Pic_clear_49 rfl (lv_at hl 1 rfl) ?_
  refine gC_Pic_kept E w k88 d_Pic_clear_50 ?_
  refine lv_sipush (v := 192) E.x E.b d_Pic_clear_53 (by decide) ?_
  refine ialC E w (k := 1) (by decide) (show inb 192 245 by decide) d_Pic_clear_56 ?_
  refine wi_e (v := σ.2.2.1 1 192) rfl ?_
  refine lv_if_ge (tgt := 66) E.x E.b d_Pic_clear_57 (by decide) (fun c => ?_) (fun c => ?_)
  ·
    replace h := ifT c h
    refine lv_aload_n E.x E.b d_Pic_clear_66 rfl (lv_at hl 1 rfl) ?_
    refine gC_Pic_kept E w k88 d_Pic_clear_67 ?_
    refine lv_sipush (v := 195) E.x E.b d_Pic_clear_70 (by decide) ?_
    refine ialC E w (k := 1) (by decide) (show inb 195 245 by decide) d_Pic_clear_73 ?_
    refine wi_e (v := σ.2.2.1 1 195) rfl ?_
    exact bt_Pic_clear_74 E hret o σ v1 v2 v3 v4 v5 s0 (σ.2.2.1 1 195) h w (lv_sub hl [1, 2, 3, 4, 5, 6, 0] rfl)
  ·
    replace h := ifF c h
    refine lv_sipush (v := 255) E.x E.b d_Pic_clear_60 (by decide) ?_
    refine lv_goto (tgt := 74) E.x E.b d_Pic_clear_63 (by decide) ?_
    exact bt_Pic_clear_74 E hret o σ v1 v2 v3 v4 v5 s0 255 h w (lv_sub hl [1, 2, 3, 4, 5, 6, 0] rfl)
def F_Pic_clear_46 (σ : Sg) (v1 : Int32) (v2 : Int32) (v3 : Int32) (v4 : Int32) (v5 : Int32) : Option (Sg) := F_Pic_clear_47 σ v1 v2 v3 v4 v5 0
set_option maxRecDepth 10000 in
set_option maxHeartbeats 4000000 in
theorem bt_Pic_clear_46 {p : Program} {l : Launch} {e : Env} {R : Room} {s : State} {m : MethodId} {args : Array Value} {below : List Frame} {meth : Method} {c : Code} {D : va_G} {τ : ClassId × ClassId × ClassId} {B : Nat} {A : Nat → Prop} {ad : Nat → Nat} (E : Cx p R s m args meth c prog_6_method_4_code 11 "DrawingMachine$Picture" 1 D τ B A) (hret : meth.sig.returnType = none) (o : Sg) (σ : Sg) (v1 : Int32) (v2 : Int32) (v3 : Int32) (v4 : Int32) (v5 : Int32) (h : F_Pic_clear_46 σ v1 v2 v3 v4 v5 = some o) {H : Heap} {locs : List Loc} {ls : Array Slot} (w : Wd s D A (wdC τ σ ad) H locs) (hl : lv_has ls 11 [(0, .ref (ad 58)), (1, .int v1), (2, .int v2), (3, .int v3), (4, .int v4), (5, .int v5)]) : W p l e R s m args below meth c H locs 0 0 (QV below args s A D τ (wdC τ o ad)) (F0 m 46 ls []) := by
  refine lv_iconst (v := 0) E.x E.b d_Pic_clear_46 (by decide) ?_
  exact bt_Pic_clear_47 E hret o σ v1 v2 v3 v4 v5 0 h w (lv_sub hl [0, 1, 2, 3, 4, 5] rfl)
def F_Pic_clear_42 (σ : Sg) (v1 : Int32) (v2 : Int32) (v3 : Int32) (v4 : Int32) (v5 : Int32) : Option (Sg) := F_Pic_clear_47 σ v1 v2 v3 v4 v5 1
set_option maxRecDepth 10000 in
set_option maxHeartbeats 4000000 in
theorem bt_Pic_clear_42 {p : Program} {l : Launch} {e : Env} {R : Room} {s : State} {m : MethodId} {args : Array Value} {below : List Frame} {meth : Method} {c : Code} {D : va_G} {τ : ClassId × ClassId × ClassId} {B : Nat} {A : Nat → Prop} {ad : Nat → Nat} (E : Cx p R s m args meth c prog_6_method_4_code 11 "DrawingMachine$Picture" 1 D τ B A) (hret : meth.sig.returnType = none) (o : Sg) (σ : Sg) (v1 : Int32) (v2 : Int32) (v3 : Int32) (v4 : Int32) (v5 : Int32) (h : F_Pic_clear_42 σ v1 v2 v3 v4 v5 = some o) {H : Heap} {locs : List Loc} {ls : Array Slot} (w : Wd s D A (wdC τ σ ad) H locs) (hl : lv_has ls 11 [(0, .ref (ad 58)), (1, .int v1), (2, .int v2), (3, .int v3), (4, .int v4), (5, .int v5)]) : W p l e R s m args below meth c H locs 0 0 (QV below args s A D τ (wdC τ o ad)) (F0 m 42 ls []) := by
  refine lv_iconst (v := 1) E.x E.b d_Pic_clear_42 (by decide) ?_
  refine lv_goto (tgt := 47) E.x E.b d_Pic_clear_43 (by decide) ?_
  exact bt_Pic_clear_47 E hret o σ v1 v2 v3 v4 v5 1 h w (lv_sub hl [0, 1, 2, 3, 4, 5] rfl)
def F_Pic_clear (σ : Sg) (x0 : Int32) (x1 : Int32) (x2 : Int32) (x3 : Int32) : Option (Sg) := bd (F_Pic_channelBits (σ.2.2.1 1 214)) (fun o26 => if (x0 &&& 2) = 0 then (F_Pic_clear_46 σ x0 x1 x2 x3 o26) else (if (σ.2.2.1 1 190) < 0 then (F_Pic_clear_42 σ x0 x1 x2 x3 o26) else (if (σ.2.2.1 1 191) = 1 then (F_Pic_clear_42 σ x0 x1 x2 x3 o26) else (F_Pic_clear_46 σ x0 x1 x2 x3 o26))))
set_option maxRecDepth 10000 in
set_option maxHeartbeats 4000000 in
theorem c_Pic_clear (l : Launch) (D : va_G) (τ : ClassId × ClassId × ClassId) (B : Nat) (σ : Sg) (ad : Nat → Nat) (x0 : Int32) (x1 : Int32) (x2 : Int32) (x3 : Int32) (o : Sg) (h : F_Pic_clear σ x0 x1 x2 x3 = some o) : MV l y_Pic_clear (Cond.code y_Pic_clear prog_6_method_4_code 11 none) 1 D τ B [.ref (ad 58), .int x0, .int x1, .int x2, .int x3] (wdC τ σ ad) (wdC τ o ad) := by
  refine en_v (by decide) (Nat.le_of_ble_eq_true rfl) ?_
  intro p e R s m args below meth c H locs ls A E hret w hl
  have E : Cx p R s m args meth c prog_6_method_4_code 11 "DrawingMachine$Picture" 1 D τ B A := E
  have hl : lv_has ls 11 [(0, .ref (ad 58)), (1, .int x0), (2, .int x1), (3, .int x2), (4, .int x3)] := hl
  refine lv_aload_n E.x E.b d_Pic_clear_0 rfl (lv_at hl 0 rfl) ?_
  refine gC_Pic_kept E w k88 d_Pic_clear_1 ?_
  refine lv_sipush (v := 214) E.x E.b d_Pic_clear_4 (by decide) ?_
  refine ialC E w (k := 1) (by decide) (show inb 214 245 by decide) d_Pic_clear_7 ?_
  refine wi_e (v := σ.2.2.1 1 214) rfl ?_
  obtain ⟨o26, h_o26, h⟩ := bd_some h
  refine clS_Pic_channelBits E w (x0 := (σ.2.2.1 1 214)) h_o26 k1263 (by decide) hl.1 (Nat.le_of_ble_eq_true rfl) d_Pic_clear_8 (fun H locs w => ?_)
  refine lv_istore (lv' := [(5, .int o26), (0, .ref (ad 58)), (1, .int x0), (2, .int x1), (3, .int x2), (4, .int x3)]) E.x E.b d_Pic_clear_11 hl (by decide) rfl (fun ls hl => ?_)
  refine lv_iload_n E.x E.b d_Pic_clear_13 rfl (lv_at hl 2 rfl) ?_
  refine lv_iconst (v := 2) E.x E.b d_Pic_clear_14 (by decide) ?_
  refine lv_iand E.x E.b d_Pic_clear_15 ?_
  refine lv_if_eq (tgt := 46) E.x E.b d_Pic_clear_16 (by decide) (fun c => ?_) (fun c => ?_)
  ·
    replace h := ifT c h
    exact bt_Pic_clear_46 E hret o σ x0 x1 x2 x3 o26 h w (lv_sub hl [1, 2, 3, 4, 5, 0] rfl)
  ·
    replace h := ifF c h
    refine lv_aload_n E.x E.b d_Pic_clear_19 rfl (lv_at hl 1 rfl) ?_
    refine gC_Pic_kept E w k88 d_Pic_clear_20 ?_
    refine lv_sipush (v := 190) E.x E.b d_Pic_clear_23 (by decide) ?_
    refine ialC E w (k := 1) (by decide) (show inb 190 245 by decide) d_Pic_clear_26 ?_
    refine wi_e (v := σ.2.2.1 1 190) rfl ?_
    refine lv_if_lt (tgt := 42) E.x E.b d_Pic_clear_27 (by decide) (fun c => ?_) (fun c => ?_)
    ·
      replace h := ifT c h
      exact bt_Pic_clear_42 E hret o σ x0 x1 x2 x3 o26 h w (lv_sub hl [1, 2, 3, 4, 5, 0] rfl)
    ·
      replace h := ifF c h
      refine lv_aload_n E.x E.b d_Pic_clear_30 rfl (lv_at hl 1 rfl) ?_
      refine gC_Pic_kept E w k88 d_Pic_clear_31 ?_
      refine lv_sipush (v := 191) E.x E.b d_Pic_clear_34 (by decide) ?_
      refine ialC E w (k := 1) (by decide) (show inb 191 245 by decide) d_Pic_clear_37 ?_
      refine wi_e (v := σ.2.2.1 1 191) rfl ?_
      refine lv_iconst (v := 1) E.x E.b d_Pic_clear_38 (by decide) ?_
      refine lv_icmp_ne (tgt := 46) E.x E.b d_Pic_clear_39 (by decide) (fun c => ?_) (fun c => ?_)
      ·
        replace h := ifF c h
        exact bt_Pic_clear_46 E hret o σ x0 x1 x2 x3 o26 h w (lv_sub hl [1, 2, 3, 4, 5, 0] rfl)
      ·
        replace h := ifT c h
        exact bt_Pic_clear_42 E hret o σ x0 x1 x2 x3 o26 h w (lv_sub hl [1, 2, 3, 4, 5, 0] rfl)
theorem clV_Pic_clear {p : Program} {l : Launch} {e : Env} {R : Room} {s : State} {m : MethodId} {args : Array Value} {below : List Frame} {meth : Method} {c : Code} {H : Heap} {locs : List Loc} {Q : State → Prop} {cc : ByteArray} {nL pc lev : Nat} {own : String} {D : va_G} {τ : ClassId × ClassId × ClassId} {B : Nat} {A : Nat → Prop} {σ : Sg} {ad : Nat → Nat} {ls : Array Slot} {rest : List Value} (E : Cx p R s m args meth c cc nL own lev D τ B A) (w : Wd s D A (wdC τ σ ad) H locs) {x0 : Int32} {x1 : Int32} {x2 : Int32} {x3 : Int32} {o : Sg} (h : F_Pic_clear σ x0 x1 x2 x3 = some o) {index : Nat} (hlk : Cond.methodLink own index y_Pic_clear ∈ tw) (hlev : 1 < lev) (hsz : ls.size = nL) (hr : (rest.map fun v => v.category).sum ≤ 8) (hd : decode cc pc = .ok (.invokevirtual index, 3)) (kk : ∀ (H1 : Heap) (locs1 : List Loc), Wd s D A (wdC τ o ad) H1 locs1 → W p l e R s m args below meth c H1 locs1 0 0 Q (F0 m (pc + 3) ls (rest))) : W p l e R s m args below meth c H locs 0 0 Q (F0 m pc ls (.int x3 :: .int x2 :: .int x1 :: .int x0 :: .ref (ad 58) :: rest)) :=
  cr_v w E.C (va_runV (As := [.int x0, .int x1, .int x2, .int x3]) (rest := rest) E.fix (c_Pic_clear l D τ B σ ad x0 x1 x2 x3 o h H.size) (cwV 4 E.w (tw_pre (tw_good k1295) (l := [_, _, _, _]) (List.forall_mem_cons.mpr ⟨hlk, List.forall_mem_cons.mpr ⟨k1293, List.forall_mem_cons.mpr ⟨k1294, List.forall_mem_cons.mpr ⟨k4, fun _ h => absurd h List.not_mem_nil⟩⟩⟩⟩)) rfl rfl rfl (by decide +kernel) (E.rm hlev (by decide))) (wd_preV w E.C [.int x0, .int x1, .int x2, .int x3] rcC_Pic rfl) rfl rfl hsz rfl (lv_room hr) hd ⟨Nat.zero_le _, Nat.zero_le _⟩) kk

theorem d_Told_keep_0 : decode prog_11_method_3_code 0 = .ok (.getstatic 25, 3) := by decide +kernel
theorem d_Told_keep_3 : decode prog_11_method_3_code 3 = .ok (.iload_n 1, 1) := by decide +kernel
theorem d_Told_keep_4 : decode prog_11_method_3_code 4 = .ok (.iaload, 1) := by decide +kernel
theorem d_Told_keep_5 : decode prog_11_method_3_code 5 = .ok (.istore_n 3, 1) := by decide +kernel
theorem d_Told_keep_6 : decode prog_11_method_3_code 6 = .ok (.iload_n 3, 1) := by decide +kernel
theorem d_Told_keep_7 : decode prog_11_method_3_code 7 = .ok (.iconst (-1), 1) := by decide +kernel
theorem d_Told_keep_8 : decode prog_11_method_3_code 8 = .ok (.if_icmp .ne 4, 3) := by decide +kernel
theorem d_Told_keep_11 : decode prog_11_method_3_code 11 = .ok (.return_, 1) := by decide +kernel
theorem d_Told_keep_12 : decode prog_11_method_3_code 12 = .ok (.getstatic 28, 3) := by decide +kernel
theorem d_Told_keep_15 : decode prog_11_method_3_code 15 = .ok (.iload_n 1, 1) := by decide +kernel
theorem d_Told_keep_16 : decode prog_11_method_3_code 16 = .ok (.iaload, 1) := by decide +kernel
theorem d_Told_keep_17 : decode prog_11_method_3_code 17 = .ok (.istore 4, 2) := by decide +kernel
theorem d_Told_keep_19 : decode prog_11_method_3_code 19 = .ok (.getstatic 31, 3) := by decide +kernel
theorem d_Told_keep_22 : decode prog_11_method_3_code 22 = .ok (.iload_n 1, 1) := by decide +kernel
theorem d_Told_keep_23 : decode prog_11_method_3_code 23 = .ok (.iaload, 1) := by decide +kernel
theorem d_Told_keep_24 : decode prog_11_method_3_code 24 = .ok (.iload 4, 2) := by decide +kernel
theorem d_Told_keep_26 : decode prog_11_method_3_code 26 = .ok (.isub, 1) := by decide +kernel
theorem d_Told_keep_27 : decode prog_11_method_3_code 27 = .ok (.istore 5, 2) := by decide +kernel
theorem d_Told_keep_29 : decode prog_11_method_3_code 29 = .ok (.aload_n 2, 1) := by decide +kernel
theorem d_Told_keep_30 : decode prog_11_method_3_code 30 = .ok (.iload 4, 2) := by decide +kernel
theorem d_Told_keep_32 : decode prog_11_method_3_code 32 = .ok (.aload_n 0, 1) := by decide +kernel
theorem d_Told_keep_33 : decode prog_11_method_3_code 33 = .ok (.getfield 9, 3) := by decide +kernel
theorem d_Told_keep_36 : decode prog_11_method_3_code 36 = .ok (.iload_n 3, 1) := by decide +kernel
theorem d_Told_keep_37 : decode prog_11_method_3_code 37 = .ok (.iload 4, 2) := by decide +kernel
theorem d_Told_keep_39 : decode prog_11_method_3_code 39 = .ok (.aload_n 2, 1) := by decide +kernel
theorem d_Told_keep_40 : decode prog_11_method_3_code 40 = .ok (.iconst 0, 1) := by decide +kernel
theorem d_Told_keep_41 : decode prog_11_method_3_code 41 = .ok (.iaload, 1) := by decide +kernel
theorem d_Told_keep_42 : decode prog_11_method_3_code 42 = .ok (.imul, 1) := by decide +kernel
theorem d_Told_keep_43 : decode prog_11_method_3_code 43 = .ok (.iload 5, 2) := by decide +kernel
theorem d_Told_keep_45 : decode prog_11_method_3_code 45 = .ok (.imul, 1) := by decide +kernel
theorem d_Told_keep_46 : decode prog_11_method_3_code 46 = .ok (.iadd, 1) := by decide +kernel
theorem d_Told_keep_47 : decode prog_11_method_3_code 47 = .ok (.iload 5, 2) := by decide +kernel
theorem d_Told_keep_49 : decode prog_11_method_3_code 49 = .ok (.invokestatic 34, 3) := by decide +kernel
theorem d_Told_keep_52 : decode prog_11_method_3_code 52 = .ok (.return_, 1) := by decide +kernel
def F_Told_keep (σ : Sg) (x0 : Int32) (ar1 : Nat) : Option (Sg) := ck (ar1 < 47) (ck (inb x0 26) (lt (tb_KEPT_AT x0.toNatClampNeg) (fun y16 => if y16 = (-1) then (some σ) else (ck (inb x0 26) (lt (tb_KEPT_BY_FIRST x0.toNatClampNeg) (fun y19 => ck (inb x0 26) (lt ((tb_ARGUMENTS x0.toNatClampNeg) - y19) (fun y22 => ck (inb 0 (lenC σ ar1)) (ck (cpok y19 (y16 + ((y19 * (σ.2.2.1 ar1 0)) * y22)) y22 (lenC σ ar1) 245) (lt (sA σ 1 (va_cpy (σ.2.2.1 ar1) (σ.2.2.1 1) y19.toNatClampNeg (y16 + ((y19 * (σ.2.2.1 ar1 0)) * y22)).toNatClampNeg y22.toNatClampNeg)) (fun σ25 => some σ25)))))))))))
set_option maxRecDepth 10000 in
set_option maxHeartbeats 4000000 in
theorem c_Told_keep (l : Launch) (D : va_G) (τ : ClassId × ClassId × ClassId) (B : Nat) (σ : Sg) (ad : Nat → Nat) (x0 : Int32) (ar1 : Nat) (o : Sg) (h : F_Told_keep σ x0 ar1 = some o) : MV l y_Told_keep (Cond.code y_Told_keep prog_11_method_3_code 6 none) 0 D τ B [.ref (ad 57), .int x0, .ref (ad ar1)] (wdC τ σ ad) (wdC τ o ad) := by
  refine en_v (by decide) (Nat.le_of_ble_eq_true rfl) ?_
  intro p e R s m args below meth c H locs ls A E hret w hl
  have E : Cx p R s m args meth c prog_11_method_3_code 6 "DrawingMachine$Told" 0 D τ B A := E
  have hl : lv_has ls 6 [(0, .ref (ad 57)), (1, .int x0), (2, .ref (ad ar1))] := hl
  obtain ⟨c13, h⟩ := ck_some h
  refine r_tab (n := "KEPT_AT") E w (by decide) n1367 d_Told_keep_0 (fun t14 h_t14 => ?_)
  refine lv_iload_n E.x E.b d_Told_keep_3 rfl (lv_at hl 1 rfl) ?_
  obtain ⟨c15, h⟩ := ck_some h
  refine r_tld (f := fun j => tb_KEPT_AT j) E w h_t14 c15 d_Told_keep_4 ?_
  obtain ⟨y16, e_y16, h⟩ := lt_some h
  refine wi_e (v := y16) e_y16 ?_
  refine lv_istore_n (lv' := [(3, .int y16), (0, .ref (ad 57)), (1, .int x0), (2, .ref (ad ar1))]) E.x E.b d_Told_keep_5 rfl hl (by decide) rfl (fun ls hl => ?_)
  refine lv_iload_n E.x E.b d_Told_keep_6 rfl (lv_at hl 0 rfl) ?_
  refine lv_iconst (v := (-1)) E.x E.b d_Told_keep_7 (by decide) ?_
  refine lv_icmp_ne (tgt := 12) E.x E.b d_Told_keep_8 (by decide) (fun c => ?_) (fun c => ?_)
  ·
    replace h := ifF c h
    refine r_tab (n := "KEPT_BY_FIRST") E w (by decide) n1369 d_Told_keep_12 (fun t17 h_t17 => ?_)
    refine lv_iload_n E.x E.b d_Told_keep_15 rfl (lv_at hl 2 rfl) ?_
    obtain ⟨c18, h⟩ := ck_some h
    refine r_tld (f := fun j => tb_KEPT_BY_FIRST j) E w h_t17 c18 d_Told_keep_16 ?_
    obtain ⟨y19, e_y19, h⟩ := lt_some h
    refine wi_e (v := y19) e_y19 ?_
    refine lv_istore (lv' := [(4, .int y19), (3, .int y16), (0, .ref (ad 57)), (1, .int x0), (2, .ref (ad ar1))]) E.x E.b d_Told_keep_17 hl (by decide) rfl (fun ls hl => ?_)
    refine r_tab (n := "ARGUMENTS") E w (by decide) n1371 d_Told_keep_19 (fun t20 h_t20 => ?_)
    refine lv_iload_n E.x E.b d_Told_keep_22 rfl (lv_at hl 3 rfl) ?_
    obtain ⟨c21, h⟩ := ck_some h
    refine r_tld (f := fun j => tb_ARGUMENTS j) E w h_t20 c21 d_Told_keep_23 ?_
    refine lv_iload E.x E.b d_Told_keep_24 (lv_at hl 0 rfl) ?_
    refine lv_isub E.x E.b d_Told_keep_26 ?_
    obtain ⟨y22, e_y22, h⟩ := lt_some h
    refine wi_e (v := y22) e_y22 ?_
    refine lv_istore (lv' := [(5, .int y22), (4, .int y19), (3, .int y16), (0, .ref (ad 57)), (1, .int x0), (2, .ref (ad ar1))]) E.x E.b d_Told_keep_27 hl (by decide) rfl (fun ls hl => ?_)
    refine lv_aload_n E.x E.b d_Told_keep_29 rfl (lv_at hl 5 rfl) ?_
    refine lv_iload E.x E.b d_Told_keep_30 (lv_at hl 1 rfl) ?_
    refine lv_aload_n E.x E.b d_Told_keep_32 rfl (lv_at hl 3 rfl) ?_
    refine gC_Told_kept E w k62 d_Told_keep_33 ?_
    refine lv_iload_n E.x E.b d_Told_keep_36 rfl (lv_at hl 2 rfl) ?_
    refine lv_iload E.x E.b d_Told_keep_37 (lv_at hl 1 rfl) ?_
    refine lv_aload_n E.x E.b d_Told_keep_39 rfl (lv_at hl 5 rfl) ?_
    refine lv_iconst (v := 0) E.x E.b d_Told_keep_40 (by decide) ?_
    obtain ⟨c23, h⟩ := ck_some h
    refine ialC E w (k := ar1) c13 c23 d_Told_keep_41 ?_
    refine wi_e (v := σ.2.2.1 ar1 0) rfl ?_
    refine lv_imul E.x E.b d_Told_keep_42 ?_
    refine lv_iload E.x E.b d_Told_keep_43 (lv_at hl 0 rfl) ?_
    refine lv_imul E.x E.b d_Told_keep_45 ?_
    refine lv_iadd E.x E.b d_Told_keep_46 ?_
    refine lv_iload E.x E.b d_Told_keep_47 (lv_at hl 0 rfl) ?_
    obtain ⟨c24, h⟩ := ck_some h
    obtain ⟨σ25, e_σ25, h⟩ := lt_some h
    refine cpyC E w hl.1 k1300 k645 k644 k31 (k0 := ar1) (k1 := 1) c13 (by decide) c24 e_σ25 (Nat.le_of_ble_eq_true rfl) d_Told_keep_49 (fun H locs w => ?_)
    obtain rfl := Option.some.inj h
    exact rt_v E w hret d_Told_keep_52
  ·
    replace h := ifT c h
    obtain rfl := Option.some.inj h
    exact rt_v E w hret d_Told_keep_11
theorem clV_Told_keep {p : Program} {l : Launch} {e : Env} {R : Room} {s : State} {m : MethodId} {args : Array Value} {below : List Frame} {meth : Method} {c : Code} {H : Heap} {locs : List Loc} {Q : State → Prop} {cc : ByteArray} {nL pc lev : Nat} {own : String} {D : va_G} {τ : ClassId × ClassId × ClassId} {B : Nat} {A : Nat → Prop} {σ : Sg} {ad : Nat → Nat} {ls : Array Slot} {rest : List Value} (E : Cx p R s m args meth c cc nL own lev D τ B A) (w : Wd s D A (wdC τ σ ad) H locs) {x0 : Int32} {ar1 : Nat} {o : Sg} (h : F_Told_keep σ x0 ar1 = some o) {index : Nat} (hlk : Cond.methodLink own index y_Told_keep ∈ tw) (hlev : 0 < lev) (hsz : ls.size = nL) (hr : (rest.map fun v => v.category).sum ≤ 8) (hd : decode cc pc = .ok (.invokevirtual index, 3)) (kk : ∀ (H1 : Heap) (locs1 : List Loc), Wd s D A (wdC τ o ad) H1 locs1 → W p l e R s m args below meth c H1 locs1 0 0 Q (F0 m (pc + 3) ls (rest))) : W p l e R s m args below meth c H locs 0 0 Q (F0 m pc ls (.ref (ad ar1) :: .int x0 :: .ref (ad 57) :: rest)) :=
  cr_v w E.C (va_runV (As := [.int x0, .ref (ad ar1)]) (rest := rest) E.fix (c_Told_keep l D τ B σ ad x0 ar1 o h H.size) (cwV 2 E.w (tw_pre (tw_good k1366) (l := [_, _, _, _]) (List.forall_mem_cons.mpr ⟨hlk, List.forall_mem_cons.mpr ⟨k1364, List.forall_mem_cons.mpr ⟨k1365, List.forall_mem_cons.mpr ⟨k2, fun _ h => absurd h List.not_mem_nil⟩⟩⟩⟩)) rfl rfl rfl (by decide +kernel) (E.rm hlev (by decide))) (wd_preV w E.C [.int x0, .ref (ad ar1)] rcC_Told rfl) rfl rfl hsz rfl (lv_room hr) hd ⟨Nat.zero_le _, Nat.zero_le _⟩) kk

theorem d_Told_keepUniforms_0 : decode prog_11_method_4_code 0 = .ok (.iload_n 2, 1) := by decide +kernel
theorem d_Told_keepUniforms_1 : decode prog_11_method_4_code 1 = .ok (.ifCond .le 22, 3) := by decide +kernel
theorem d_Told_keepUniforms_4 : decode prog_11_method_4_code 4 = .ok (.aload_n 3, 1) := by decide +kernel
theorem d_Told_keepUniforms_5 : decode prog_11_method_4_code 5 = .ok (.iload 4, 2) := by decide +kernel
theorem d_Told_keepUniforms_7 : decode prog_11_method_4_code 7 = .ok (.aload_n 0, 1) := by decide +kernel
theorem d_Told_keepUniforms_8 : decode prog_11_method_4_code 8 = .ok (.getfield 9, 3) := by decide +kernel
theorem d_Told_keepUniforms_11 : decode prog_11_method_4_code 11 = .ok (.bipush 42, 2) := by decide +kernel
theorem d_Told_keepUniforms_13 : decode prog_11_method_4_code 13 = .ok (.iconst 4, 1) := by decide +kernel
theorem d_Told_keepUniforms_14 : decode prog_11_method_4_code 14 = .ok (.iload_n 1, 1) := by decide +kernel
theorem d_Told_keepUniforms_15 : decode prog_11_method_4_code 15 = .ok (.imul, 1) := by decide +kernel
theorem d_Told_keepUniforms_16 : decode prog_11_method_4_code 16 = .ok (.iadd, 1) := by decide +kernel
theorem d_Told_keepUniforms_17 : decode prog_11_method_4_code 17 = .ok (.iconst 4, 1) := by decide +kernel
theorem d_Told_keepUniforms_18 : decode prog_11_method_4_code 18 = .ok (.iload_n 2, 1) := by decide +kernel
theorem d_Told_keepUniforms_19 : decode prog_11_method_4_code 19 = .ok (.imul, 1) := by decide +kernel
theorem d_Told_keepUniforms_20 : decode prog_11_method_4_code 20 = .ok (.invokestatic 34, 3) := by decide +kernel
theorem d_Told_keepUniforms_23 : decode prog_11_method_4_code 23 = .ok (.return_, 1) := by decide +kernel
def F_Told_keepUniforms_23 (σ : Sg) : Option (Sg) := some σ
set_option maxRecDepth 10000 in
set_option maxHeartbeats 4000000 in
theorem bt_Told_keepUniforms_23 {p : Program} {l : Launch} {e : Env} {R : Room} {s : State} {m : MethodId} {args : Array Value} {below : List Frame} {meth : Method} {c : Code} {D : va_G} {τ : ClassId × ClassId × ClassId} {B : Nat} {A : Nat → Prop} {ad : Nat → Nat} (E : Cx p R s m args meth c prog_11_method_4_code 5 "DrawingMachine$Told" 0 D τ B A) (hret : meth.sig.returnType = none) (o : Sg) (σ : Sg) (h : F_Told_keepUniforms_23 σ = some o) {H : Heap} {locs : List Loc} {ls : Array Slot} (w : Wd s D A (wdC τ σ ad) H locs) (hl : lv_has ls 5 []) : W p l e R s m args below meth c H locs 0 0 (QV below args s A D τ (wdC τ o ad)) (F0 m 23 ls []) := by
  obtain rfl := Option.some.inj h
  exact rt_v E w hret d_Told_keepUniforms_23
def F_Told_keepUniforms (σ : Sg) (x0 : Int32) (x1 : Int32) (ar2 : Nat) (x3 : Int32) : Option (Sg) := ck (ar2 < 47) (if x1 ≤ 0 then (F_Told_keepUniforms_23 σ) else (ck (cpok x3 (42 + (4 * x0)) (4 * x1) (lenC σ ar2) 245) (lt (sA σ 1 (va_cpy (σ.2.2.1 ar2) (σ.2.2.1 1) x3.toNatClampNeg (42 + (4 * x0)).toNatClampNeg (4 * x1).toNatClampNeg)) (fun σ5 => F_Told_keepUniforms_23 σ5))))
set_option maxRecDepth 10000 in
set_option maxHeartbeats 4000000 in
theorem c_Told_keepUniforms (l : Launch) (D : va_G) (τ : ClassId × ClassId × ClassId) (B : Nat) (σ : Sg) (ad : Nat → Nat) (x0 : Int32) (x1 : Int32) (ar2 : Nat) (x3 : Int32) (o : Sg) (h : F_Told_keepUniforms σ x0 x1 ar2 x3 = some o) : MV l y_Told_keepUniforms (Cond.code y_Told_keepUniforms prog_11_method_4_code 5 none) 0 D τ B [.ref (ad 57), .int x0, .int x1, .ref (ad ar2), .int x3] (wdC τ σ ad) (wdC τ o ad) := by
  refine en_v (by decide) (Nat.le_of_ble_eq_true rfl) ?_
  intro p e R s m args below meth c H locs ls A E hret w hl
  have E : Cx p R s m args meth c prog_11_method_4_code 5 "DrawingMachine$Told" 0 D τ B A := E
  have hl : lv_has ls 5 [(0, .ref (ad 57)), (1, .int x0), (2, .int x1), (3, .ref (ad ar2)), (4, .int x3)] := hl
  obtain ⟨c3, h⟩ := ck_some h
  refine lv_iload_n E.x E.b d_Told_keepUniforms_0 rfl (lv_at hl 2 rfl) ?_
  refine lv_if_le (tgt := 23) E.x E.b d_Told_keepUniforms_1 (by decide) (fun c => ?_) (fun c => ?_)
  ·
    replace h := ifT c h
    exact bt_Told_keepUniforms_23 E hret o σ h w (lv_sub hl [] rfl)
  ·
    replace h := ifF c h
    refine lv_aload_n E.x E.b d_Told_keepUniforms_4 rfl (lv_at hl 3 rfl) ?_
    refine lv_iload E.x E.b d_Told_keepUniforms_5 (lv_at hl 4 rfl) ?_
    refine lv_aload_n E.x E.b d_Told_keepUniforms_7 rfl (lv_at hl 0 rfl) ?_
    refine gC_Told_kept E w k62 d_Told_keepUniforms_8 ?_
    refine lv_bipush (v := 42) E.x E.b d_Told_keepUniforms_11 (by decide) ?_
    refine lv_iconst (v := 4) E.x E.b d_Told_keepUniforms_13 (by decide) ?_
    refine lv_iload_n E.x E.b d_Told_keepUniforms_14 rfl (lv_at hl 1 rfl) ?_
    refine lv_imul E.x E.b d_Told_keepUniforms_15 ?_
    refine lv_iadd E.x E.b d_Told_keepUniforms_16 ?_
    refine lv_iconst (v := 4) E.x E.b d_Told_keepUniforms_17 (by decide) ?_
    refine lv_iload_n E.x E.b d_Told_keepUniforms_18 rfl (lv_at hl 2 rfl) ?_
    refine lv_imul E.x E.b d_Told_keepUniforms_19 ?_
    obtain ⟨c4, h⟩ := ck_some h
    obtain ⟨σ5, e_σ5, h⟩ := lt_some h
    refine cpyC E w hl.1 k1300 k645 k644 k31 (k0 := ar2) (k1 := 1) c3 (by decide) c4 e_σ5 (Nat.le_of_ble_eq_true rfl) d_Told_keepUniforms_20 (fun H locs w => ?_)
    exact bt_Told_keepUniforms_23 E hret o σ5 h w (lv_sub hl [] rfl)
theorem clV_Told_keepUniforms {p : Program} {l : Launch} {e : Env} {R : Room} {s : State} {m : MethodId} {args : Array Value} {below : List Frame} {meth : Method} {c : Code} {H : Heap} {locs : List Loc} {Q : State → Prop} {cc : ByteArray} {nL pc lev : Nat} {own : String} {D : va_G} {τ : ClassId × ClassId × ClassId} {B : Nat} {A : Nat → Prop} {σ : Sg} {ad : Nat → Nat} {ls : Array Slot} {rest : List Value} (E : Cx p R s m args meth c cc nL own lev D τ B A) (w : Wd s D A (wdC τ σ ad) H locs) {x0 : Int32} {x1 : Int32} {ar2 : Nat} {x3 : Int32} {o : Sg} (h : F_Told_keepUniforms σ x0 x1 ar2 x3 = some o) {index : Nat} (hlk : Cond.methodLink own index y_Told_keepUniforms ∈ tw) (hlev : 0 < lev) (hsz : ls.size = nL) (hr : (rest.map fun v => v.category).sum ≤ 8) (hd : decode cc pc = .ok (.invokevirtual index, 3)) (kk : ∀ (H1 : Heap) (locs1 : List Loc), Wd s D A (wdC τ o ad) H1 locs1 → W p l e R s m args below meth c H1 locs1 0 0 Q (F0 m (pc + 3) ls (rest))) : W p l e R s m args below meth c H locs 0 0 Q (F0 m pc ls (.int x3 :: .ref (ad ar2) :: .int x1 :: .int x0 :: .ref (ad 57) :: rest)) :=
  cr_v w E.C (va_runV (As := [.int x0, .int x1, .ref (ad ar2), .int x3]) (rest := rest) E.fix (c_Told_keepUniforms l D τ B σ ad x0 x1 ar2 x3 o h H.size) (cwV 4 E.w (tw_pre (tw_good k1299) (l := [_, _, _, _]) (List.forall_mem_cons.mpr ⟨hlk, List.forall_mem_cons.mpr ⟨k1297, List.forall_mem_cons.mpr ⟨k1298, List.forall_mem_cons.mpr ⟨k2, fun _ h => absurd h List.not_mem_nil⟩⟩⟩⟩)) rfl rfl rfl (by decide +kernel) (E.rm hlev (by decide))) (wd_preV w E.C [.int x0, .int x1, .ref (ad ar2), .int x3] rcC_Told rfl) rfl rfl hsz rfl (lv_room hr) hd ⟨Nat.zero_le _, Nat.zero_le _⟩) kk

theorem d_DM_carryOut_0 : decode prog_1_method_19_code 0 = .ok (.aload_n 0, 1) := by decide +kernel
theorem d_DM_carryOut_1 : decode prog_1_method_19_code 1 = .ok (.getfield 34, 3) := by decide +kernel
theorem d_DM_carryOut_4 : decode prog_1_method_19_code 4 = .ok (.getfield 208, 3) := by decide +kernel
theorem d_DM_carryOut_7 : decode prog_1_method_19_code 7 = .ok (.astore_n 1, 1) := by decide +kernel
theorem d_DM_carryOut_8 : decode prog_1_method_19_code 8 = .ok (.aload_n 0, 1) := by decide +kernel
theorem d_DM_carryOut_9 : decode prog_1_method_19_code 9 = .ok (.getfield 34, 3) := by decide +kernel
theorem d_DM_carryOut_12 : decode prog_1_method_19_code 12 = .ok (.getfield 196, 3) := by decide +kernel
theorem d_DM_carryOut_15 : decode prog_1_method_19_code 15 = .ok (.tableswitch 196 1 21 #[97, 196, 196, 196, 196, 118, 140, 140, 196, 196, 196, 196, 196, 196, 196, 196, 196, 196, 151, 175, 181], 97) := by decide +kernel
theorem d_DM_carryOut_112 : decode prog_1_method_19_code 112 = .ok (.aload_n 0, 1) := by decide +kernel
theorem d_DM_carryOut_113 : decode prog_1_method_19_code 113 = .ok (.getfield 25, 3) := by decide +kernel
theorem d_DM_carryOut_116 : decode prog_1_method_19_code 116 = .ok (.aload_n 1, 1) := by decide +kernel
theorem d_DM_carryOut_117 : decode prog_1_method_19_code 117 = .ok (.iconst 0, 1) := by decide +kernel
theorem d_DM_carryOut_118 : decode prog_1_method_19_code 118 = .ok (.iaload, 1) := by decide +kernel
theorem d_DM_carryOut_119 : decode prog_1_method_19_code 119 = .ok (.aload_n 1, 1) := by decide +kernel
theorem d_DM_carryOut_120 : decode prog_1_method_19_code 120 = .ok (.iconst 1, 1) := by decide +kernel
theorem d_DM_carryOut_121 : decode prog_1_method_19_code 121 = .ok (.iaload, 1) := by decide +kernel
theorem d_DM_carryOut_122 : decode prog_1_method_19_code 122 = .ok (.aload_n 1, 1) := by decide +kernel
theorem d_DM_carryOut_123 : decode prog_1_method_19_code 123 = .ok (.iconst 2, 1) := by decide +kernel
theorem d_DM_carryOut_124 : decode prog_1_method_19_code 124 = .ok (.iaload, 1) := by decide +kernel
theorem d_DM_carryOut_125 : decode prog_1_method_19_code 125 = .ok (.aload_n 1, 1) := by decide +kernel
theorem d_DM_carryOut_126 : decode prog_1_method_19_code 126 = .ok (.iconst 3, 1) := by decide +kernel
theorem d_DM_carryOut_127 : decode prog_1_method_19_code 127 = .ok (.iaload, 1) := by decide +kernel
theorem d_DM_carryOut_128 : decode prog_1_method_19_code 128 = .ok (.invokevirtual 218, 3) := by decide +kernel
theorem d_DM_carryOut_131 : decode prog_1_method_19_code 131 = .ok (.iconst 0, 1) := by decide +kernel
theorem d_DM_carryOut_132 : decode prog_1_method_19_code 132 = .ok (.ireturn, 1) := by decide +kernel
theorem d_DM_carryOut_133 : decode prog_1_method_19_code 133 = .ok (.aload_n 0, 1) := by decide +kernel
theorem d_DM_carryOut_134 : decode prog_1_method_19_code 134 = .ok (.getfield 16, 3) := by decide +kernel
theorem d_DM_carryOut_137 : decode prog_1_method_19_code 137 = .ok (.aload_n 1, 1) := by decide +kernel
theorem d_DM_carryOut_138 : decode prog_1_method_19_code 138 = .ok (.iconst 0, 1) := by decide +kernel
theorem d_DM_carryOut_139 : decode prog_1_method_19_code 139 = .ok (.iaload, 1) := by decide +kernel
theorem d_DM_carryOut_140 : decode prog_1_method_19_code 140 = .ok (.aload_n 1, 1) := by decide +kernel
theorem d_DM_carryOut_141 : decode prog_1_method_19_code 141 = .ok (.iconst 1, 1) := by decide +kernel
theorem d_DM_carryOut_142 : decode prog_1_method_19_code 142 = .ok (.iaload, 1) := by decide +kernel
theorem d_DM_carryOut_143 : decode prog_1_method_19_code 143 = .ok (.aload_n 0, 1) := by decide +kernel
theorem d_DM_carryOut_144 : decode prog_1_method_19_code 144 = .ok (.getfield 9, 3) := by decide +kernel
theorem d_DM_carryOut_147 : decode prog_1_method_19_code 147 = .ok (.aload_n 1, 1) := by decide +kernel
theorem d_DM_carryOut_148 : decode prog_1_method_19_code 148 = .ok (.iconst 2, 1) := by decide +kernel
theorem d_DM_carryOut_149 : decode prog_1_method_19_code 149 = .ok (.iaload, 1) := by decide +kernel
theorem d_DM_carryOut_150 : decode prog_1_method_19_code 150 = .ok (.invokevirtual 222, 3) := by decide +kernel
theorem d_DM_carryOut_153 : decode prog_1_method_19_code 153 = .ok (.iconst 0, 1) := by decide +kernel
theorem d_DM_carryOut_154 : decode prog_1_method_19_code 154 = .ok (.ireturn, 1) := by decide +kernel
theorem d_DM_carryOut_155 : decode prog_1_method_19_code 155 = .ok (.aload_n 0, 1) := by decide +kernel
theorem d_DM_carryOut_156 : decode prog_1_method_19_code 156 = .ok (.aload_n 1, 1) := by decide +kernel
theorem d_DM_carryOut_157 : decode prog_1_method_19_code 157 = .ok (.iconst 0, 1) := by decide +kernel
theorem d_DM_carryOut_158 : decode prog_1_method_19_code 158 = .ok (.iaload, 1) := by decide +kernel
theorem d_DM_carryOut_159 : decode prog_1_method_19_code 159 = .ok (.aload_n 1, 1) := by decide +kernel
theorem d_DM_carryOut_160 : decode prog_1_method_19_code 160 = .ok (.iconst 1, 1) := by decide +kernel
theorem d_DM_carryOut_161 : decode prog_1_method_19_code 161 = .ok (.iaload, 1) := by decide +kernel
theorem d_DM_carryOut_162 : decode prog_1_method_19_code 162 = .ok (.invokevirtual 226, 3) := by decide +kernel
theorem d_DM_carryOut_165 : decode prog_1_method_19_code 165 = .ok (.ireturn, 1) := by decide +kernel
theorem d_DM_carryOut_166 : decode prog_1_method_19_code 166 = .ok (.aload_n 0, 1) := by decide +kernel
theorem d_DM_carryOut_167 : decode prog_1_method_19_code 167 = .ok (.getfield 50, 3) := by decide +kernel
theorem d_DM_carryOut_170 : decode prog_1_method_19_code 170 = .ok (.aload_n 1, 1) := by decide +kernel
theorem d_DM_carryOut_171 : decode prog_1_method_19_code 171 = .ok (.iconst 0, 1) := by decide +kernel
theorem d_DM_carryOut_172 : decode prog_1_method_19_code 172 = .ok (.iaload, 1) := by decide +kernel
theorem d_DM_carryOut_173 : decode prog_1_method_19_code 173 = .ok (.aload_n 1, 1) := by decide +kernel
theorem d_DM_carryOut_174 : decode prog_1_method_19_code 174 = .ok (.iconst 1, 1) := by decide +kernel
theorem d_DM_carryOut_175 : decode prog_1_method_19_code 175 = .ok (.iaload, 1) := by decide +kernel
theorem d_DM_carryOut_176 : decode prog_1_method_19_code 176 = .ok (.iconst 1, 1) := by decide +kernel
theorem d_DM_carryOut_177 : decode prog_1_method_19_code 177 = .ok (.if_icmp .ne 7, 3) := by decide +kernel
theorem d_DM_carryOut_180 : decode prog_1_method_19_code 180 = .ok (.iconst 1, 1) := by decide +kernel
theorem d_DM_carryOut_181 : decode prog_1_method_19_code 181 = .ok (.goto 4, 3) := by decide +kernel
theorem d_DM_carryOut_184 : decode prog_1_method_19_code 184 = .ok (.iconst 0, 1) := by decide +kernel
theorem d_DM_carryOut_185 : decode prog_1_method_19_code 185 = .ok (.invokevirtual 230, 3) := by decide +kernel
theorem d_DM_carryOut_188 : decode prog_1_method_19_code 188 = .ok (.iconst 0, 1) := by decide +kernel
theorem d_DM_carryOut_189 : decode prog_1_method_19_code 189 = .ok (.ireturn, 1) := by decide +kernel
theorem d_DM_carryOut_190 : decode prog_1_method_19_code 190 = .ok (.aload_n 0, 1) := by decide +kernel
theorem d_DM_carryOut_191 : decode prog_1_method_19_code 191 = .ok (.invokevirtual 234, 3) := by decide +kernel
theorem d_DM_carryOut_194 : decode prog_1_method_19_code 194 = .ok (.iconst 0, 1) := by decide +kernel
theorem d_DM_carryOut_195 : decode prog_1_method_19_code 195 = .ok (.ireturn, 1) := by decide +kernel
theorem d_DM_carryOut_196 : decode prog_1_method_19_code 196 = .ok (.aload_n 0, 1) := by decide +kernel
theorem d_DM_carryOut_197 : decode prog_1_method_19_code 197 = .ok (.getfield 34, 3) := by decide +kernel
theorem d_DM_carryOut_200 : decode prog_1_method_19_code 200 = .ok (.aload_n 1, 1) := by decide +kernel
theorem d_DM_carryOut_201 : decode prog_1_method_19_code 201 = .ok (.iconst 0, 1) := by decide +kernel
theorem d_DM_carryOut_202 : decode prog_1_method_19_code 202 = .ok (.iaload, 1) := by decide +kernel
theorem d_DM_carryOut_203 : decode prog_1_method_19_code 203 = .ok (.aload_n 1, 1) := by decide +kernel
theorem d_DM_carryOut_204 : decode prog_1_method_19_code 204 = .ok (.iconst 1, 1) := by decide +kernel
theorem d_DM_carryOut_205 : decode prog_1_method_19_code 205 = .ok (.iaload, 1) := by decide +kernel
theorem d_DM_carryOut_206 : decode prog_1_method_19_code 206 = .ok (.invokevirtual 237, 3) := by decide +kernel
theorem d_DM_carryOut_209 : decode prog_1_method_19_code 209 = .ok (.iconst 0, 1) := by decide +kernel
theorem d_DM_carryOut_210 : decode prog_1_method_19_code 210 = .ok (.ireturn, 1) := by decide +kernel
theorem d_DM_carryOut_211 : decode prog_1_method_19_code 211 = .ok (.aload_n 0, 1) := by decide +kernel
theorem d_DM_carryOut_212 : decode prog_1_method_19_code 212 = .ok (.getfield 16, 3) := by decide +kernel
theorem d_DM_carryOut_215 : decode prog_1_method_19_code 215 = .ok (.aload_n 0, 1) := by decide +kernel
theorem d_DM_carryOut_216 : decode prog_1_method_19_code 216 = .ok (.getfield 34, 3) := by decide +kernel
theorem d_DM_carryOut_219 : decode prog_1_method_19_code 219 = .ok (.getfield 196, 3) := by decide +kernel
theorem d_DM_carryOut_222 : decode prog_1_method_19_code 222 = .ok (.aload_n 1, 1) := by decide +kernel
theorem d_DM_carryOut_223 : decode prog_1_method_19_code 223 = .ok (.invokevirtual 240, 3) := by decide +kernel
theorem d_DM_carryOut_226 : decode prog_1_method_19_code 226 = .ok (.iconst 0, 1) := by decide +kernel
theorem d_DM_carryOut_227 : decode prog_1_method_19_code 227 = .ok (.ireturn, 1) := by decide +kernel
def F_DM_carryOut_211 (σ : Sg) : Option (Sg × Int32) := bd (F_Told_keep σ (σ.1 3) 5) (fun o30 => some (o30, 0))
set_option maxRecDepth 10000 in
set_option maxHeartbeats 4000000 in
theorem bt_DM_carryOut_211 {p : Program} {l : Launch} {e : Env} {R : Room} {s : State} {m : MethodId} {args : Array Value} {below : List Frame} {meth : Method} {c : Code} {D : va_G} {τ : ClassId × ClassId × ClassId} {B : Nat} {A : Nat → Prop} {ad : Nat → Nat} (E : Cx p R s m args meth c prog_1_method_19_code 2 "DrawingMachine" 5 D τ B A) (hret : meth.sig.returnType = (some .int)) (o : Sg × Int32) (σ : Sg) (h : F_DM_carryOut_211 σ = some o) {H : Heap} {locs : List Loc} {ls : Array Slot} (w : Wd s D A (wdC τ σ ad) H locs) (hl : lv_has ls 2 [(0, .ref (ad 56)), (1, .ref (ad 5))]) : W p l e R s m args below meth c H locs 0 0 (QI below args s A D τ (wdC τ o.1 ad) o.2) (F0 m 211 ls []) := by
  refine lv_aload_n E.x E.b d_DM_carryOut_211 rfl (lv_at hl 0 rfl) ?_
  refine gC_DM_told E w k431 d_DM_carryOut_212 ?_
  refine lv_aload_n E.x E.b d_DM_carryOut_215 rfl (lv_at hl 0 rfl) ?_
  refine gC_DM_course E w k433 d_DM_carryOut_216 ?_
  refine gC_Cou_kind E w k117 d_DM_carryOut_219 ?_
  refine lv_aload_n E.x E.b d_DM_carryOut_222 rfl (lv_at hl 1 rfl) ?_
  obtain ⟨o30, h_o30, h⟩ := bd_some h
  refine clV_Told_keep E w (x0 := (σ.1 3)) (ar1 := 5) h_o30 k1363 (by decide) hl.1 (Nat.le_of_ble_eq_true rfl) d_DM_carryOut_223 (fun H locs w => ?_)
  refine lv_iconst (v := 0) E.x E.b d_DM_carryOut_226 (by decide) ?_
  obtain rfl := Option.some.inj h
  exact rt_i E w hret d_DM_carryOut_227
def F_DM_carryOut_185 (σ : Sg) (s1 : Int32) (s2 : Int32) : Option (Sg × Int32) := bd (F_Drw_turnQuery σ s1 s2) (fun o31 => some (o31, 0))
set_option maxRecDepth 10000 in
set_option maxHeartbeats 4000000 in
theorem bt_DM_carryOut_185 {p : Program} {l : Launch} {e : Env} {R : Room} {s : State} {m : MethodId} {args : Array Value} {below : List Frame} {meth : Method} {c : Code} {D : va_G} {τ : ClassId × ClassId × ClassId} {B : Nat} {A : Nat → Prop} {ad : Nat → Nat} (E : Cx p R s m args meth c prog_1_method_19_code 2 "DrawingMachine" 5 D τ B A) (hret : meth.sig.returnType = (some .int)) (o : Sg × Int32) (σ : Sg) (s1 : Int32) (s2 : Int32) (h : F_DM_carryOut_185 σ s1 s2 = some o) {H : Heap} {locs : List Loc} {ls : Array Slot} (w : Wd s D A (wdC τ σ ad) H locs) (hl : lv_has ls 2 []) : W p l e R s m args below meth c H locs 0 0 (QI below args s A D τ (wdC τ o.1 ad) o.2) (F0 m 185 ls [.int s2, .int s1, .ref (ad 61)]) := by
  obtain ⟨o31, h_o31, h⟩ := bd_some h
  refine clV_Drw_turnQuery E w (x0 := s1) (x1 := s2) h_o31 k1347 (by decide) hl.1 (Nat.le_of_ble_eq_true rfl) d_DM_carryOut_185 (fun H locs w => ?_)
  refine lv_iconst (v := 0) E.x E.b d_DM_carryOut_188 (by decide) ?_
  obtain rfl := Option.some.inj h
  exact rt_i E w hret d_DM_carryOut_189
def F_DM_carryOut_155 (σ : Sg) : Option (Sg × Int32) := bd (F_DM_readProgram σ (σ.2.2.1 5 0) (σ.2.2.1 5 1)) (fun o32 => some (o32.1, o32.2))
set_option maxRecDepth 10000 in
set_option maxHeartbeats 4000000 in
theorem bt_DM_carryOut_155 {p : Program} {l : Launch} {e : Env} {R : Room} {s : State} {m : MethodId} {args : Array Value} {below : List Frame} {meth : Method} {c : Code} {D : va_G} {τ : ClassId × ClassId × ClassId} {B : Nat} {A : Nat → Prop} {ad : Nat → Nat} (E : Cx p R s m args meth c prog_1_method_19_code 2 "DrawingMachine" 5 D τ B A) (hret : meth.sig.returnType = (some .int)) (o : Sg × Int32) (σ : Sg) (h : F_DM_carryOut_155 σ = some o) {H : Heap} {locs : List Loc} {ls : Array Slot} (w : Wd s D A (wdC τ σ ad) H locs) (hl : lv_has ls 2 [(0, .ref (ad 56)), (1, .ref (ad 5))]) : W p l e R s m args below meth c H locs 0 0 (QI below args s A D τ (wdC τ o.1 ad) o.2) (F0 m 155 ls []) := by
  refine lv_aload_n E.x E.b d_DM_carryOut_155 rfl (lv_at hl 0 rfl) ?_
  refine lv_aload_n E.x E.b d_DM_carryOut_156 rfl (lv_at hl 1 rfl) ?_
  refine lv_iconst (v := 0) E.x E.b d_DM_carryOut_157 (by decide) ?_
  refine ialC E w (k := 5) (by decide) (show inb 0 8 by decide) d_DM_carryOut_158 ?_
  refine wi_e (v := σ.2.2.1 5 0) rfl ?_
  refine lv_aload_n E.x E.b d_DM_carryOut_159 rfl (lv_at hl 1 rfl) ?_
  refine lv_iconst (v := 1) E.x E.b d_DM_carryOut_160 (by decide) ?_
  refine ialC E w (k := 5) (by decide) (show inb 1 8 by decide) d_DM_carryOut_161 ?_
  refine wi_e (v := σ.2.2.1 5 1) rfl ?_
  obtain ⟨o32, h_o32, h⟩ := bd_some h
  refine clV_DM_readProgram E w (x0 := (σ.2.2.1 5 0)) (x1 := (σ.2.2.1 5 1)) h_o32 k1301 (by decide) hl.1 (Nat.le_of_ble_eq_true rfl) d_DM_carryOut_162 (fun H locs w => ?_)
  obtain rfl := Option.some.inj h
  exact rt_i E w hret d_DM_carryOut_165
def F_DM_carryOut (σ : Sg) : Option (Sg × Int32) := lt (σ.1 3) (fun y33 => if y33 = 1 then (bd (F_Pic_clear σ (σ.2.2.1 5 0) (σ.2.2.1 5 1) (σ.2.2.1 5 2) (σ.2.2.1 5 3)) (fun o35 => some (o35, 0))) else (if y33 = 2 then (F_DM_carryOut_211 σ) else (if y33 = 3 then (F_DM_carryOut_211 σ) else (if y33 = 4 then (F_DM_carryOut_211 σ) else (if y33 = 5 then (F_DM_carryOut_211 σ) else (if y33 = 6 then (bd (F_Told_keepUniforms σ (σ.2.2.1 5 0) (σ.2.2.1 5 1) 0 (σ.2.2.1 5 2)) (fun o41 => some (o41, 0))) else (if y33 = 7 then (F_DM_carryOut_155 σ) else (if y33 = 8 then (F_DM_carryOut_155 σ) else (if y33 = 9 then (F_DM_carryOut_211 σ) else (if y33 = 10 then (F_DM_carryOut_211 σ) else (if y33 = 11 then (F_DM_carryOut_211 σ) else (if y33 = 12 then (F_DM_carryOut_211 σ) else (if y33 = 13 then (F_DM_carryOut_211 σ) else (if y33 = 14 then (F_DM_carryOut_211 σ) else (if y33 = 15 then (F_DM_carryOut_211 σ) else (if y33 = 16 then (F_DM_carryOut_211 σ) else (if y33 = 17 then (F_DM_carryOut_211 σ) else (if y33 = 18 then (F_DM_carryOut_211 σ) else (if y33 = 19 then (if (σ.2.2.1 5 1) = 1 then (F_DM_carryOut_185 σ (σ.2.2.1 5 0) 1) else (F_DM_carryOut_185 σ (σ.2.2.1 5 0) 0)) else (if y33 = 20 then (bd (F_DM_copyBack σ) (fun o56 => some (o56, 0))) else (if y33 = 21 then (bd (F_Cou_putWords σ (σ.2.2.1 5 0) (σ.2.2.1 5 1)) (fun o58 => some (o58, 0))) else (F_DM_carryOut_211 σ))))))))))))))))))))))
set_option maxRecDepth 10000 in
set_option maxHeartbeats 4000000 in
theorem c_DM_carryOut (l : Launch) (D : va_G) (τ : ClassId × ClassId × ClassId) (B : Nat) (σ : Sg) (ad : Nat → Nat) (o : Sg × Int32) (h : F_DM_carryOut σ = some o) : MI l y_DM_carryOut (Cond.code y_DM_carryOut prog_1_method_19_code 2 (some .int)) 5 D τ B [.ref (ad 56)] (wdC τ σ ad) (wdC τ o.1 ad) o.2 := by
  refine en_i (by decide) (Nat.le_of_ble_eq_true rfl) ?_
  intro p e R s m args below meth c H locs ls A E hret w hl
  have E : Cx p R s m args meth c prog_1_method_19_code 2 "DrawingMachine" 5 D τ B A := E
  have hl : lv_has ls 2 [(0, .ref (ad 56))] := hl
  refine lv_aload_n E.x E.b d_DM_carryOut_0 rfl (lv_at hl 0 rfl) ?_
  refine gC_DM_course E w k433 d_DM_carryOut_1 ?_
  refine gC_Cou_given E w k112 d_DM_carryOut_4 ?_
  refine lv_astore_n (lv' := [(1, .ref (ad 5)), (0, .ref (ad 56))]) E.x E.b d_DM_carryOut_7 rfl hl (by decide) rfl (fun ls hl => ?_)
  refine lv_aload_n E.x E.b d_DM_carryOut_8 rfl (lv_at hl 1 rfl) ?_
  refine gC_DM_course E w k433 d_DM_carryOut_9 ?_
  refine gC_Cou_kind E w k117 d_DM_carryOut_12 ?_
  obtain ⟨y33, e_y33, h⟩ := lt_some h
  refine wi_e (v := y33) e_y33 ?_
  by_cases q34 : y33 = 1
  ·
    replace h := ifT q34 h
    refine wi_e (v := 1) q34 ?_
    refine lv_tableIn (off := 97) (tgt := 112) E.x E.b d_DM_carryOut_15 (by decide) (by decide) (by decide) (by decide) ?_
    refine lv_aload_n E.x E.b d_DM_carryOut_112 rfl (lv_at hl 1 rfl) ?_
    refine gC_DM_picture E w k432 d_DM_carryOut_113 ?_
    refine lv_aload_n E.x E.b d_DM_carryOut_116 rfl (lv_at hl 0 rfl) ?_
    refine lv_iconst (v := 0) E.x E.b d_DM_carryOut_117 (by decide) ?_
    refine ialC E w (k := 5) (by decide) (show inb 0 8 by decide) d_DM_carryOut_118 ?_
    refine wi_e (v := σ.2.2.1 5 0) rfl ?_
    refine lv_aload_n E.x E.b d_DM_carryOut_119 rfl (lv_at hl 0 rfl) ?_
    refine lv_iconst (v := 1) E.x E.b d_DM_carryOut_120 (by decide) ?_
    refine ialC E w (k := 5) (by decide) (show inb 1 8 by decide) d_DM_carryOut_121 ?_
    refine wi_e (v := σ.2.2.1 5 1) rfl ?_
    refine lv_aload_n E.x E.b d_DM_carryOut_122 rfl (lv_at hl 0 rfl) ?_
    refine lv_iconst (v := 2) E.x E.b d_DM_carryOut_123 (by decide) ?_
    refine ialC E w (k := 5) (by decide) (show inb 2 8 by decide) d_DM_carryOut_124 ?_
    refine wi_e (v := σ.2.2.1 5 2) rfl ?_
    refine lv_aload_n E.x E.b d_DM_carryOut_125 rfl (lv_at hl 0 rfl) ?_
    refine lv_iconst (v := 3) E.x E.b d_DM_carryOut_126 (by decide) ?_
    refine ialC E w (k := 5) (by decide) (show inb 3 8 by decide) d_DM_carryOut_127 ?_
    refine wi_e (v := σ.2.2.1 5 3) rfl ?_
    obtain ⟨o35, h_o35, h⟩ := bd_some h
    refine clV_Pic_clear E w (x0 := (σ.2.2.1 5 0)) (x1 := (σ.2.2.1 5 1)) (x2 := (σ.2.2.1 5 2)) (x3 := (σ.2.2.1 5 3)) h_o35 k1292 (by decide) hl.1 (Nat.le_of_ble_eq_true rfl) d_DM_carryOut_128 (fun H locs w => ?_)
    refine lv_iconst (v := 0) E.x E.b d_DM_carryOut_131 (by decide) ?_
    obtain rfl := Option.some.inj h
    exact rt_i E w hret d_DM_carryOut_132
  replace h := ifF q34 h
  replace q34 := ne_ti (k := 1) (by decide) q34
  by_cases q36 : y33 = 2
  ·
    replace h := ifT q36 h
    refine wi_e (v := 2) q36 ?_
    refine lv_tableIn (off := 196) (tgt := 211) E.x E.b d_DM_carryOut_15 (by decide) (by decide) (by decide) (by decide) ?_
    exact bt_DM_carryOut_211 E hret o σ h w (lv_sub hl [1, 0] rfl)
  replace h := ifF q36 h
  replace q36 := ne_ti (k := 2) (by decide) q36
  by_cases q37 : y33 = 3
  ·
    replace h := ifT q37 h
    refine wi_e (v := 3) q37 ?_
    refine lv_tableIn (off := 196) (tgt := 211) E.x E.b d_DM_carryOut_15 (by decide) (by decide) (by decide) (by decide) ?_
    exact bt_DM_carryOut_211 E hret o σ h w (lv_sub hl [1, 0] rfl)
  replace h := ifF q37 h
  replace q37 := ne_ti (k := 3) (by decide) q37
  by_cases q38 : y33 = 4
  ·
    replace h := ifT q38 h
    refine wi_e (v := 4) q38 ?_
    refine lv_tableIn (off := 196) (tgt := 211) E.x E.b d_DM_carryOut_15 (by decide) (by decide) (by decide) (by decide) ?_
    exact bt_DM_carryOut_211 E hret o σ h w (lv_sub hl [1, 0] rfl)
  replace h := ifF q38 h
  replace q38 := ne_ti (k := 4) (by decide) q38
  by_cases q39 : y33 = 5
  ·
    replace h := ifT q39 h
    refine wi_e (v := 5) q39 ?_
    refine lv_tableIn (off := 196) (tgt := 211) E.x E.b d_DM_carryOut_15 (by decide) (by decide) (by decide) (by decide) ?_
    exact bt_DM_carryOut_211 E hret o σ h w (lv_sub hl [1, 0] rfl)
  replace h := ifF q39 h
  replace q39 := ne_ti (k := 5) (by decide) q39
  by_cases q40 : y33 = 6
  ·
    replace h := ifT q40 h
    refine wi_e (v := 6) q40 ?_
    refine lv_tableIn (off := 118) (tgt := 133) E.x E.b d_DM_carryOut_15 (by decide) (by decide) (by decide) (by decide) ?_
    refine lv_aload_n E.x E.b d_DM_carryOut_133 rfl (lv_at hl 1 rfl) ?_
    refine gC_DM_told E w k431 d_DM_carryOut_134 ?_
    refine lv_aload_n E.x E.b d_DM_carryOut_137 rfl (lv_at hl 0 rfl) ?_
    refine lv_iconst (v := 0) E.x E.b d_DM_carryOut_138 (by decide) ?_
    refine ialC E w (k := 5) (by decide) (show inb 0 8 by decide) d_DM_carryOut_139 ?_
    refine wi_e (v := σ.2.2.1 5 0) rfl ?_
    refine lv_aload_n E.x E.b d_DM_carryOut_140 rfl (lv_at hl 0 rfl) ?_
    refine lv_iconst (v := 1) E.x E.b d_DM_carryOut_141 (by decide) ?_
    refine ialC E w (k := 5) (by decide) (show inb 1 8 by decide) d_DM_carryOut_142 ?_
    refine wi_e (v := σ.2.2.1 5 1) rfl ?_
    refine lv_aload_n E.x E.b d_DM_carryOut_143 rfl (lv_at hl 1 rfl) ?_
    refine gC_DM_memory E w k430 d_DM_carryOut_144 ?_
    refine lv_aload_n E.x E.b d_DM_carryOut_147 rfl (lv_at hl 0 rfl) ?_
    refine lv_iconst (v := 2) E.x E.b d_DM_carryOut_148 (by decide) ?_
    refine ialC E w (k := 5) (by decide) (show inb 2 8 by decide) d_DM_carryOut_149 ?_
    refine wi_e (v := σ.2.2.1 5 2) rfl ?_
    obtain ⟨o41, h_o41, h⟩ := bd_some h
    refine clV_Told_keepUniforms E w (x0 := (σ.2.2.1 5 0)) (x1 := (σ.2.2.1 5 1)) (ar2 := 0) (x3 := (σ.2.2.1 5 2)) h_o41 k1296 (by decide) hl.1 (Nat.le_of_ble_eq_true rfl) d_DM_carryOut_150 (fun H locs w => ?_)
    refine lv_iconst (v := 0) E.x E.b d_DM_carryOut_153 (by decide) ?_
    obtain rfl := Option.some.inj h
    exact rt_i E w hret d_DM_carryOut_154
  replace h := ifF q40 h
  replace q40 := ne_ti (k := 6) (by decide) q40
  by_cases q42 : y33 = 7
  ·
    replace h := ifT q42 h
    refine wi_e (v := 7) q42 ?_
    refine lv_tableIn (off := 140) (tgt := 155) E.x E.b d_DM_carryOut_15 (by decide) (by decide) (by decide) (by decide) ?_
    exact bt_DM_carryOut_155 E hret o σ h w (lv_sub hl [1, 0] rfl)
  replace h := ifF q42 h
  replace q42 := ne_ti (k := 7) (by decide) q42
  by_cases q43 : y33 = 8
  ·
    replace h := ifT q43 h
    refine wi_e (v := 8) q43 ?_
    refine lv_tableIn (off := 140) (tgt := 155) E.x E.b d_DM_carryOut_15 (by decide) (by decide) (by decide) (by decide) ?_
    exact bt_DM_carryOut_155 E hret o σ h w (lv_sub hl [1, 0] rfl)
  replace h := ifF q43 h
  replace q43 := ne_ti (k := 8) (by decide) q43
  by_cases q44 : y33 = 9
  ·
    replace h := ifT q44 h
    refine wi_e (v := 9) q44 ?_
    refine lv_tableIn (off := 196) (tgt := 211) E.x E.b d_DM_carryOut_15 (by decide) (by decide) (by decide) (by decide) ?_
    exact bt_DM_carryOut_211 E hret o σ h w (lv_sub hl [1, 0] rfl)
  replace h := ifF q44 h
  replace q44 := ne_ti (k := 9) (by decide) q44
  by_cases q45 : y33 = 10
  ·
    replace h := ifT q45 h
    refine wi_e (v := 10) q45 ?_
    refine lv_tableIn (off := 196) (tgt := 211) E.x E.b d_DM_carryOut_15 (by decide) (by decide) (by decide) (by decide) ?_
    exact bt_DM_carryOut_211 E hret o σ h w (lv_sub hl [1, 0] rfl)
  replace h := ifF q45 h
  replace q45 := ne_ti (k := 10) (by decide) q45
  by_cases q46 : y33 = 11
  ·
    replace h := ifT q46 h
    refine wi_e (v := 11) q46 ?_
    refine lv_tableIn (off := 196) (tgt := 211) E.x E.b d_DM_carryOut_15 (by decide) (by decide) (by decide) (by decide) ?_
    exact bt_DM_carryOut_211 E hret o σ h w (lv_sub hl [1, 0] rfl)
  replace h := ifF q46 h
  replace q46 := ne_ti (k := 11) (by decide) q46
  by_cases q47 : y33 = 12
  ·
    replace h := ifT q47 h
    refine wi_e (v := 12) q47 ?_
    refine lv_tableIn (off := 196) (tgt := 211) E.x E.b d_DM_carryOut_15 (by decide) (by decide) (by decide) (by decide) ?_
    exact bt_DM_carryOut_211 E hret o σ h w (lv_sub hl [1, 0] rfl)
  replace h := ifF q47 h
  replace q47 := ne_ti (k := 12) (by decide) q47
  by_cases q48 : y33 = 13
  ·
    replace h := ifT q48 h
    refine wi_e (v := 13) q48 ?_
    refine lv_tableIn (off := 196) (tgt := 211) E.x E.b d_DM_carryOut_15 (by decide) (by decide) (by decide) (by decide) ?_
    exact bt_DM_carryOut_211 E hret o σ h w (lv_sub hl [1, 0] rfl)
  replace h := ifF q48 h
  replace q48 := ne_ti (k := 13) (by decide) q48
  by_cases q49 : y33 = 14
  ·
    replace h := ifT q49 h
    refine wi_e (v := 14) q49 ?_
    refine lv_tableIn (off := 196) (tgt := 211) E.x E.b d_DM_carryOut_15 (by decide) (by decide) (by decide) (by decide) ?_
    exact bt_DM_carryOut_211 E hret o σ h w (lv_sub hl [1, 0] rfl)
  replace h := ifF q49 h
  replace q49 := ne_ti (k := 14) (by decide) q49
  by_cases q50 : y33 = 15
  ·
    replace h := ifT q50 h
    refine wi_e (v := 15) q50 ?_
    refine lv_tableIn (off := 196) (tgt := 211) E.x E.b d_DM_carryOut_15 (by decide) (by decide) (by decide) (by decide) ?_
    exact bt_DM_carryOut_211 E hret o σ h w (lv_sub hl [1, 0] rfl)
  replace h := ifF q50 h
  replace q50 := ne_ti (k := 15) (by decide) q50
  by_cases q51 : y33 = 16
  ·
    replace h := ifT q51 h
    refine wi_e (v := 16) q51 ?_
    refine lv_tableIn (off := 196) (tgt := 211) E.x E.b d_DM_carryOut_15 (by decide) (by decide) (by decide) (by decide) ?_
    exact bt_DM_carryOut_211 E hret o σ h w (lv_sub hl [1, 0] rfl)
  replace h := ifF q51 h
  replace q51 := ne_ti (k := 16) (by decide) q51
  by_cases q52 : y33 = 17
  ·
    replace h := ifT q52 h
    refine wi_e (v := 17) q52 ?_
    refine lv_tableIn (off := 196) (tgt := 211) E.x E.b d_DM_carryOut_15 (by decide) (by decide) (by decide) (by decide) ?_
    exact bt_DM_carryOut_211 E hret o σ h w (lv_sub hl [1, 0] rfl)
  replace h := ifF q52 h
  replace q52 := ne_ti (k := 17) (by decide) q52
  by_cases q53 : y33 = 18
  ·
    replace h := ifT q53 h
    refine wi_e (v := 18) q53 ?_
    refine lv_tableIn (off := 196) (tgt := 211) E.x E.b d_DM_carryOut_15 (by decide) (by decide) (by decide) (by decide) ?_
    exact bt_DM_carryOut_211 E hret o σ h w (lv_sub hl [1, 0] rfl)
  replace h := ifF q53 h
  replace q53 := ne_ti (k := 18) (by decide) q53
  by_cases q54 : y33 = 19
  ·
    replace h := ifT q54 h
    refine wi_e (v := 19) q54 ?_
    refine lv_tableIn (off := 151) (tgt := 166) E.x E.b d_DM_carryOut_15 (by decide) (by decide) (by decide) (by decide) ?_
    refine lv_aload_n E.x E.b d_DM_carryOut_166 rfl (lv_at hl 1 rfl) ?_
    refine gC_DM_drawing E w k435 d_DM_carryOut_167 ?_
    refine lv_aload_n E.x E.b d_DM_carryOut_170 rfl (lv_at hl 0 rfl) ?_
    refine lv_iconst (v := 0) E.x E.b d_DM_carryOut_171 (by decide) ?_
    refine ialC E w (k := 5) (by decide) (show inb 0 8 by decide) d_DM_carryOut_172 ?_
    refine wi_e (v := σ.2.2.1 5 0) rfl ?_
    refine lv_aload_n E.x E.b d_DM_carryOut_173 rfl (lv_at hl 0 rfl) ?_
    refine lv_iconst (v := 1) E.x E.b d_DM_carryOut_174 (by decide) ?_
    refine ialC E w (k := 5) (by decide) (show inb 1 8 by decide) d_DM_carryOut_175 ?_
    refine wi_e (v := σ.2.2.1 5 1) rfl ?_
    refine lv_iconst (v := 1) E.x E.b d_DM_carryOut_176 (by decide) ?_
    refine lv_icmp_ne (tgt := 184) E.x E.b d_DM_carryOut_177 (by decide) (fun c => ?_) (fun c => ?_)
    ·
      replace h := ifF c h
      refine lv_iconst (v := 0) E.x E.b d_DM_carryOut_184 (by decide) ?_
      exact bt_DM_carryOut_185 E hret o σ (σ.2.2.1 5 0) 0 h w (lv_sub hl [] rfl)
    ·
      replace h := ifT c h
      refine lv_iconst (v := 1) E.x E.b d_DM_carryOut_180 (by decide) ?_
      refine lv_goto (tgt := 185) E.x E.b d_DM_carryOut_181 (by decide) ?_
      exact bt_DM_carryOut_185 E hret o σ (σ.2.2.1 5 0) 1 h w (lv_sub hl [] rfl)
  replace h := ifF q54 h
  replace q54 := ne_ti (k := 19) (by decide) q54
  by_cases q55 : y33 = 20
  ·
    replace h := ifT q55 h
    refine wi_e (v := 20) q55 ?_
    refine lv_tableIn (off := 175) (tgt := 190) E.x E.b d_DM_carryOut_15 (by decide) (by decide) (by decide) (by decide) ?_
    refine lv_aload_n E.x E.b d_DM_carryOut_190 rfl (lv_at hl 1 rfl) ?_
    obtain ⟨o56, h_o56, h⟩ := bd_some h
    refine clV_DM_copyBack E w h_o56 k1351 (by decide) hl.1 (Nat.le_of_ble_eq_true rfl) d_DM_carryOut_191 (fun H locs w => ?_)
    refine lv_iconst (v := 0) E.x E.b d_DM_carryOut_194 (by decide) ?_
    obtain rfl := Option.some.inj h
    exact rt_i E w hret d_DM_carryOut_195
  replace h := ifF q55 h
  replace q55 := ne_ti (k := 20) (by decide) q55
  by_cases q57 : y33 = 21
  ·
    replace h := ifT q57 h
    refine wi_e (v := 21) q57 ?_
    refine lv_tableIn (off := 181) (tgt := 196) E.x E.b d_DM_carryOut_15 (by decide) (by decide) (by decide) (by decide) ?_
    refine lv_aload_n E.x E.b d_DM_carryOut_196 rfl (lv_at hl 1 rfl) ?_
    refine gC_DM_course E w k433 d_DM_carryOut_197 ?_
    refine lv_aload_n E.x E.b d_DM_carryOut_200 rfl (lv_at hl 0 rfl) ?_
    refine lv_iconst (v := 0) E.x E.b d_DM_carryOut_201 (by decide) ?_
    refine ialC E w (k := 5) (by decide) (show inb 0 8 by decide) d_DM_carryOut_202 ?_
    refine wi_e (v := σ.2.2.1 5 0) rfl ?_
    refine lv_aload_n E.x E.b d_DM_carryOut_203 rfl (lv_at hl 0 rfl) ?_
    refine lv_iconst (v := 1) E.x E.b d_DM_carryOut_204 (by decide) ?_
    refine ialC E w (k := 5) (by decide) (show inb 1 8 by decide) d_DM_carryOut_205 ?_
    refine wi_e (v := σ.2.2.1 5 1) rfl ?_
    obtain ⟨o58, h_o58, h⟩ := bd_some h
    refine clV_Cou_putWords E w (x0 := (σ.2.2.1 5 0)) (x1 := (σ.2.2.1 5 1)) h_o58 k1359 (by decide) hl.1 (Nat.le_of_ble_eq_true rfl) d_DM_carryOut_206 (fun H locs w => ?_)
    refine lv_iconst (v := 0) E.x E.b d_DM_carryOut_209 (by decide) ?_
    obtain rfl := Option.some.inj h
    exact rt_i E w hret d_DM_carryOut_210
  replace h := ifF q57 h
  replace q57 := ne_ti (k := 21) (by decide) q57
  refine lv_tableOut (tgt := 211) E.x E.b d_DM_carryOut_15 (by omega) (by decide) ?_
  exact bt_DM_carryOut_211 E hret o σ h w (lv_sub hl [1, 0] rfl)
theorem clV_DM_carryOut {p : Program} {l : Launch} {e : Env} {R : Room} {s : State} {m : MethodId} {args : Array Value} {below : List Frame} {meth : Method} {c : Code} {H : Heap} {locs : List Loc} {Q : State → Prop} {cc : ByteArray} {nL pc lev : Nat} {own : String} {D : va_G} {τ : ClassId × ClassId × ClassId} {B : Nat} {A : Nat → Prop} {σ : Sg} {ad : Nat → Nat} {ls : Array Slot} {rest : List Value} (E : Cx p R s m args meth c cc nL own lev D τ B A) (w : Wd s D A (wdC τ σ ad) H locs) {o : Sg × Int32} (h : F_DM_carryOut σ = some o) {index : Nat} (hlk : Cond.methodLink own index y_DM_carryOut ∈ tw) (hlev : 5 < lev) (hsz : ls.size = nL) (hr : (rest.map fun v => v.category).sum ≤ 8) (hd : decode cc pc = .ok (.invokevirtual index, 3)) (kk : ∀ (H1 : Heap) (locs1 : List Loc), Wd s D A (wdC τ o.1 ad) H1 locs1 → W p l e R s m args below meth c H1 locs1 0 0 Q (F0 m (pc + 3) ls (.int o.2 :: rest))) : W p l e R s m args below meth c H locs 0 0 Q (F0 m pc ls (.ref (ad 56) :: rest)) :=
  cr_i w E.C (va_runV (As := []) (rest := rest) E.fix (c_DM_carryOut l D τ B σ ad o h H.size) (cwV 0 E.w (tw_pre (tw_good k1291) (l := [_, _, _, _]) (List.forall_mem_cons.mpr ⟨hlk, List.forall_mem_cons.mpr ⟨k1290, List.forall_mem_cons.mpr ⟨ks36, List.forall_mem_cons.mpr ⟨k1, fun _ h => absurd h List.not_mem_nil⟩⟩⟩⟩)) rfl rfl rfl (by decide +kernel) (E.rm hlev (by decide))) (wd_preV w E.C [] rcC_DM rfl) rfl rfl hsz rfl (lv_room hr) hd ⟨Nat.zero_le _, Nat.zero_le _⟩) kk

theorem d_DM_isDraw_0 : decode prog_1_method_15_code 0 = .ok (.aload_n 0, 1) := by decide +kernel
theorem d_DM_isDraw_1 : decode prog_1_method_15_code 1 = .ok (.getfield 34, 3) := by decide +kernel
theorem d_DM_isDraw_4 : decode prog_1_method_15_code 4 = .ok (.getfield 196, 3) := by decide +kernel
theorem d_DM_isDraw_7 : decode prog_1_method_15_code 7 = .ok (.bipush 17, 2) := by decide +kernel
theorem d_DM_isDraw_9 : decode prog_1_method_15_code 9 = .ok (.if_icmp .eq 15, 3) := by decide +kernel
theorem d_DM_isDraw_12 : decode prog_1_method_15_code 12 = .ok (.aload_n 0, 1) := by decide +kernel
theorem d_DM_isDraw_13 : decode prog_1_method_15_code 13 = .ok (.getfield 34, 3) := by decide +kernel
theorem d_DM_isDraw_16 : decode prog_1_method_15_code 16 = .ok (.getfield 196, 3) := by decide +kernel
theorem d_DM_isDraw_19 : decode prog_1_method_15_code 19 = .ok (.bipush 18, 2) := by decide +kernel
theorem d_DM_isDraw_21 : decode prog_1_method_15_code 21 = .ok (.if_icmp .ne 7, 3) := by decide +kernel
theorem d_DM_isDraw_24 : decode prog_1_method_15_code 24 = .ok (.iconst 1, 1) := by decide +kernel
theorem d_DM_isDraw_25 : decode prog_1_method_15_code 25 = .ok (.goto 4, 3) := by decide +kernel
theorem d_DM_isDraw_28 : decode prog_1_method_15_code 28 = .ok (.iconst 0, 1) := by decide +kernel
theorem d_DM_isDraw_29 : decode prog_1_method_15_code 29 = .ok (.ireturn, 1) := by decide +kernel
def F_DM_isDraw_29 (σ : Sg) (s0 : Int32) : Option (Int32) := ck (s0 = 0 ∨ s0 = 1) (some s0)
set_option maxRecDepth 10000 in
set_option maxHeartbeats 4000000 in
theorem bt_DM_isDraw_29 {p : Program} {l : Launch} {e : Env} {R : Room} {s : State} {m : MethodId} {args : Array Value} {below : List Frame} {meth : Method} {c : Code} {D : va_G} {τ : ClassId × ClassId × ClassId} {B : Nat} {A : Nat → Prop} {ad : Nat → Nat} (E : Cx p R s m args meth c prog_1_method_15_code 1 "DrawingMachine" 0 D τ B A) (hret : meth.sig.returnType = (some .boolean)) (o : Int32) (σ : Sg) (s0 : Int32) (h : F_DM_isDraw_29 σ s0 = some o) {H : Heap} {locs : List Loc} {ls : Array Slot} (w : Wd s D A (wdC τ σ ad) H locs) (hl : lv_has ls 1 []) : W p l e R s m args below meth c H locs 0 0 (QI below args s A D τ (wdC τ σ ad) o) (F0 m 29 ls [.int s0]) := by
  obtain ⟨c2, h⟩ := ck_some h
  obtain rfl := Option.some.inj h
  exact rt_z E w hret c2 d_DM_isDraw_29
def F_DM_isDraw_24 (σ : Sg) : Option (Int32) := F_DM_isDraw_29 σ 1
set_option maxRecDepth 10000 in
set_option maxHeartbeats 4000000 in
theorem bt_DM_isDraw_24 {p : Program} {l : Launch} {e : Env} {R : Room} {s : State} {m : MethodId} {args : Array Value} {below : List Frame} {meth : Method} {c : Code} {D : va_G} {τ : ClassId × ClassId × ClassId} {B : Nat} {A : Nat → Prop} {ad : Nat → Nat} (E : Cx p R s m args meth c prog_1_method_15_code 1 "DrawingMachine" 0 D τ B A) (hret : meth.sig.returnType = (some .boolean)) (o : Int32) (σ : Sg) (h : F_DM_isDraw_24 σ = some o) {H : Heap} {locs : List Loc} {ls : Array Slot} (w : Wd s D A (wdC τ σ ad) H locs) (hl : lv_has ls 1 []) : W p l e R s m args below meth c H locs 0 0 (QI below args s A D τ (wdC τ σ ad) o) (F0 m 24 ls []) := by
  refine lv_iconst (v := 1) E.x E.b d_DM_isDraw_24 (by decide) ?_
  refine lv_goto (tgt := 29) E.x E.b d_DM_isDraw_25 (by decide) ?_
  exact bt_DM_isDraw_29 E hret o σ 1 h w (lv_sub hl [] rfl)
def F_DM_isDraw (σ : Sg) : Option (Int32) := if (σ.1 3) = 17 then (F_DM_isDraw_24 σ) else (if (σ.1 3) = 18 then (F_DM_isDraw_24 σ) else (F_DM_isDraw_29 σ 0))
set_option maxRecDepth 10000 in
set_option maxHeartbeats 4000000 in
theorem c_DM_isDraw (l : Launch) (D : va_G) (τ : ClassId × ClassId × ClassId) (B : Nat) (σ : Sg) (ad : Nat → Nat) (o : Int32) (h : F_DM_isDraw σ = some o) : MI l y_DM_isDraw (Cond.code y_DM_isDraw prog_1_method_15_code 1 (some .boolean)) 0 D τ B [.ref (ad 56)] (wdC τ σ ad) (wdC τ σ ad) o := by
  refine en_i (by decide) (Nat.le_of_ble_eq_true rfl) ?_
  intro p e R s m args below meth c H locs ls A E hret w hl
  have E : Cx p R s m args meth c prog_1_method_15_code 1 "DrawingMachine" 0 D τ B A := E
  have hl : lv_has ls 1 [(0, .ref (ad 56))] := hl
  refine lv_aload_n E.x E.b d_DM_isDraw_0 rfl (lv_at hl 0 rfl) ?_
  refine gC_DM_course E w k433 d_DM_isDraw_1 ?_
  refine gC_Cou_kind E w k117 d_DM_isDraw_4 ?_
  refine lv_bipush (v := 17) E.x E.b d_DM_isDraw_7 (by decide) ?_
  refine lv_icmp_eq (tgt := 24) E.x E.b d_DM_isDraw_9 (by decide) (fun c => ?_) (fun c => ?_)
  ·
    replace h := ifT c h
    exact bt_DM_isDraw_24 E hret o σ h w (lv_sub hl [] rfl)
  ·
    replace h := ifF c h
    refine lv_aload_n E.x E.b d_DM_isDraw_12 rfl (lv_at hl 0 rfl) ?_
    refine gC_DM_course E w k433 d_DM_isDraw_13 ?_
    refine gC_Cou_kind E w k117 d_DM_isDraw_16 ?_
    refine lv_bipush (v := 18) E.x E.b d_DM_isDraw_19 (by decide) ?_
    refine lv_icmp_ne (tgt := 28) E.x E.b d_DM_isDraw_21 (by decide) (fun c => ?_) (fun c => ?_)
    ·
      replace h := ifF c h
      refine lv_iconst (v := 0) E.x E.b d_DM_isDraw_28 (by decide) ?_
      exact bt_DM_isDraw_29 E hret o σ 0 h w (lv_sub hl [] rfl)
    ·
      replace h := ifT c h
      exact bt_DM_isDraw_24 E hret o σ h w (lv_sub hl [] rfl)
theorem clV_DM_isDraw {p : Program} {l : Launch} {e : Env} {R : Room} {s : State} {m : MethodId} {args : Array Value} {below : List Frame} {meth : Method} {c : Code} {H : Heap} {locs : List Loc} {Q : State → Prop} {cc : ByteArray} {nL pc lev : Nat} {own : String} {D : va_G} {τ : ClassId × ClassId × ClassId} {B : Nat} {A : Nat → Prop} {σ : Sg} {ad : Nat → Nat} {ls : Array Slot} {rest : List Value} (E : Cx p R s m args meth c cc nL own lev D τ B A) (w : Wd s D A (wdC τ σ ad) H locs) {o : Int32} (h : F_DM_isDraw σ = some o) {index : Nat} (hlk : Cond.methodLink own index y_DM_isDraw ∈ tw) (hlev : 0 < lev) (hsz : ls.size = nL) (hr : (rest.map fun v => v.category).sum ≤ 8) (hd : decode cc pc = .ok (.invokevirtual index, 3)) (kk : ∀ (H1 : Heap) (locs1 : List Loc), Wd s D A (wdC τ σ ad) H1 locs1 → W p l e R s m args below meth c H1 locs1 0 0 Q (F0 m (pc + 3) ls (.int o :: rest))) : W p l e R s m args below meth c H locs 0 0 Q (F0 m pc ls (.ref (ad 56) :: rest)) :=
  cr_i w E.C (va_runV (As := []) (rest := rest) E.fix (c_DM_isDraw l D τ B σ ad o h H.size) (cwV 0 E.w (tw_pre (tw_good k979) (l := [_, _, _, _]) (List.forall_mem_cons.mpr ⟨hlk, List.forall_mem_cons.mpr ⟨k978, List.forall_mem_cons.mpr ⟨ks8, List.forall_mem_cons.mpr ⟨k1, fun _ h => absurd h List.not_mem_nil⟩⟩⟩⟩)) rfl rfl rfl (by decide +kernel) (E.rm hlev (by decide))) (wd_preV w E.C [] rcC_DM rfl) rfl rfl hsz rfl (lv_room hr) hd ⟨Nat.zero_le _, Nat.zero_le _⟩) kk

theorem d_DM_inMemory_0 : decode prog_1_method_24_code 0 = .ok (.iload_n 1, 1) := by decide +kernel
theorem d_DM_inMemory_1 : decode prog_1_method_24_code 1 = .ok (.ifCond .eq 12, 3) := by decide +kernel
theorem d_DM_inMemory_4 : decode prog_1_method_24_code 4 = .ok (.iload_n 0, 1) := by decide +kernel
theorem d_DM_inMemory_5 : decode prog_1_method_24_code 5 = .ok (.iload_n 1, 1) := by decide +kernel
theorem d_DM_inMemory_6 : decode prog_1_method_24_code 6 = .ok (.iadd, 1) := by decide +kernel
theorem d_DM_inMemory_7 : decode prog_1_method_24_code 7 = .ok (.sipush 4096, 3) := by decide +kernel
theorem d_DM_inMemory_10 : decode prog_1_method_24_code 10 = .ok (.if_icmp .gt 7, 3) := by decide +kernel
theorem d_DM_inMemory_13 : decode prog_1_method_24_code 13 = .ok (.iconst 1, 1) := by decide +kernel
theorem d_DM_inMemory_14 : decode prog_1_method_24_code 14 = .ok (.goto 4, 3) := by decide +kernel
theorem d_DM_inMemory_17 : decode prog_1_method_24_code 17 = .ok (.iconst 0, 1) := by decide +kernel
theorem d_DM_inMemory_18 : decode prog_1_method_24_code 18 = .ok (.ireturn, 1) := by decide +kernel
def F_DM_inMemory_18  (s0 : Int32) : Option (Int32) := ck (s0 = 0 ∨ s0 = 1) (some s0)
set_option maxRecDepth 10000 in
set_option maxHeartbeats 4000000 in
theorem bt_DM_inMemory_18 {p : Program} {l : Launch} {e : Env} {R : Room} {s : State} {m : MethodId} {args : Array Value} {below : List Frame} {meth : Method} {c : Code} {D : va_G} {τ : ClassId × ClassId × ClassId} {B : Nat} {A : Nat → Prop} {ad : Nat → Nat} {σ0 : Sg} (E : Cx p R s m args meth c prog_1_method_24_code 2 "DrawingMachine" 0 D τ B A) (hret : meth.sig.returnType = (some .boolean)) (o : Int32) (s0 : Int32) (h : F_DM_inMemory_18 s0 = some o) {H : Heap} {locs : List Loc} {ls : Array Slot} (w : Wd s D A (wdC τ σ0 ad) H locs) (hl : lv_has ls 2 []) : W p l e R s m args below meth c H locs 0 0 (QI below args s A D τ (wdC τ σ0 ad) o) (F0 m 18 ls [.int s0]) := by
  obtain ⟨c2, h⟩ := ck_some h
  obtain rfl := Option.some.inj h
  exact rt_z E w hret c2 d_DM_inMemory_18
def F_DM_inMemory_13  : Option (Int32) := F_DM_inMemory_18 1
set_option maxRecDepth 10000 in
set_option maxHeartbeats 4000000 in
theorem bt_DM_inMemory_13 {p : Program} {l : Launch} {e : Env} {R : Room} {s : State} {m : MethodId} {args : Array Value} {below : List Frame} {meth : Method} {c : Code} {D : va_G} {τ : ClassId × ClassId × ClassId} {B : Nat} {A : Nat → Prop} {ad : Nat → Nat} {σ0 : Sg} (E : Cx p R s m args meth c prog_1_method_24_code 2 "DrawingMachine" 0 D τ B A) (hret : meth.sig.returnType = (some .boolean)) (o : Int32) (h : F_DM_inMemory_13 = some o) {H : Heap} {locs : List Loc} {ls : Array Slot} (w : Wd s D A (wdC τ σ0 ad) H locs) (hl : lv_has ls 2 []) : W p l e R s m args below meth c H locs 0 0 (QI below args s A D τ (wdC τ σ0 ad) o) (F0 m 13 ls []) := by
  refine lv_iconst (v := 1) E.x E.b d_DM_inMemory_13 (by decide) ?_
  refine lv_goto (tgt := 18) E.x E.b d_DM_inMemory_14 (by decide) ?_
  exact bt_DM_inMemory_18 E hret o 1 h w (lv_sub hl [] rfl)
def F_DM_inMemory  (x0 : Int32) (x1 : Int32) : Option (Int32) := if x1 = 0 then (F_DM_inMemory_13) else (if 4096 < (x0 + x1) then (F_DM_inMemory_18 0) else (F_DM_inMemory_13))
set_option maxRecDepth 10000 in
set_option maxHeartbeats 4000000 in
theorem c_DM_inMemory (l : Launch) (D : va_G) (τ : ClassId × ClassId × ClassId) (B : Nat) (σ0 : Sg) (ad : Nat → Nat) (x0 : Int32) (x1 : Int32) (o : Int32) (h : F_DM_inMemory x0 x1 = some o) : MI l y_DM_inMemory (Cond.code y_DM_inMemory prog_1_method_24_code 2 (some .boolean)) 0 D τ B [.int x0, .int x1] (wdC τ σ0 ad) (wdC τ σ0 ad) o := by
  refine en_i (by decide) (Nat.le_of_ble_eq_true rfl) ?_
  intro p e R s m args below meth c H locs ls A E hret w hl
  have E : Cx p R s m args meth c prog_1_method_24_code 2 "DrawingMachine" 0 D τ B A := E
  have hl : lv_has ls 2 [(0, .int x0), (1, .int x1)] := hl
  refine lv_iload_n E.x E.b d_DM_inMemory_0 rfl (lv_at hl 1 rfl) ?_
  refine lv_if_eq (tgt := 13) E.x E.b d_DM_inMemory_1 (by decide) (fun c => ?_) (fun c => ?_)
  ·
    replace h := ifT c h
    exact bt_DM_inMemory_13 E hret o h w (lv_sub hl [] rfl)
  ·
    replace h := ifF c h
    refine lv_iload_n E.x E.b d_DM_inMemory_4 rfl (lv_at hl 0 rfl) ?_
    refine lv_iload_n E.x E.b d_DM_inMemory_5 rfl (lv_at hl 1 rfl) ?_
    refine lv_iadd E.x E.b d_DM_inMemory_6 ?_
    refine lv_sipush (v := 4096) E.x E.b d_DM_inMemory_7 (by decide) ?_
    refine lv_icmp_gt (tgt := 17) E.x E.b d_DM_inMemory_10 (by decide) (fun c => ?_) (fun c => ?_)
    ·
      replace h := ifT c h
      refine lv_iconst (v := 0) E.x E.b d_DM_inMemory_17 (by decide) ?_
      exact bt_DM_inMemory_18 E hret o 0 h w (lv_sub hl [] rfl)
    ·
      replace h := ifF c h
      exact bt_DM_inMemory_13 E hret o h w (lv_sub hl [] rfl)
theorem clS_DM_inMemory {p : Program} {l : Launch} {e : Env} {R : Room} {s : State} {m : MethodId} {args : Array Value} {below : List Frame} {meth : Method} {c : Code} {H : Heap} {locs : List Loc} {Q : State → Prop} {cc : ByteArray} {nL pc lev : Nat} {own : String} {D : va_G} {τ : ClassId × ClassId × ClassId} {B : Nat} {A : Nat → Prop} {σ : Sg} {ad : Nat → Nat} {ls : Array Slot} {rest : List Value} (E : Cx p R s m args meth c cc nL own lev D τ B A) (w : Wd s D A (wdC τ σ ad) H locs) {x0 : Int32} {x1 : Int32} {o : Int32} (h : F_DM_inMemory x0 x1 = some o) {index : Nat} (hlk : Cond.methodLink own index y_DM_inMemory ∈ tw) (hlev : 0 < lev) (hsz : ls.size = nL) (hr : (rest.map fun v => v.category).sum ≤ 8) (hd : decode cc pc = .ok (.invokestatic index, 3)) (kk : ∀ (H1 : Heap) (locs1 : List Loc), Wd s D A (wdC τ σ ad) H1 locs1 → W p l e R s m args below meth c H1 locs1 0 0 Q (F0 m (pc + 3) ls (.int o :: rest))) : W p l e R s m args below meth c H locs 0 0 Q (F0 m pc ls (.int x1 :: .int x0 :: rest)) :=
  cr_i w E.C (va_runS (As := [.int x0, .int x1]) (rest := rest) E.fix (c_DM_inMemory l D τ B σ ad x0 x1 o h H.size) (va_cwS 2 E.w (tw_pre (tw_good k971) (l := [_, _, _]) (List.forall_mem_cons.mpr ⟨hlk, List.forall_mem_cons.mpr ⟨k970, List.forall_mem_cons.mpr ⟨k1, fun _ h => absurd h List.not_mem_nil⟩⟩⟩)) rfl rfl rfl (by decide +kernel) (E.rm hlev (by decide))) (wd_pre w E.C [.int x0, .int x1]) rfl rfl hsz rfl (lv_room hr) hd ⟨Nat.zero_le _, Nat.zero_le _⟩) kk

theorem d_DM_placesAreThere_0 : decode prog_1_method_17_code 0 = .ok (.aload_n 0, 1) := by decide +kernel
theorem d_DM_placesAreThere_1 : decode prog_1_method_17_code 1 = .ok (.getfield 34, 3) := by decide +kernel
theorem d_DM_placesAreThere_4 : decode prog_1_method_17_code 4 = .ok (.getfield 208, 3) := by decide +kernel
theorem d_DM_placesAreThere_7 : decode prog_1_method_17_code 7 = .ok (.astore_n 1, 1) := by decide +kernel
theorem d_DM_placesAreThere_8 : decode prog_1_method_17_code 8 = .ok (.aload_n 0, 1) := by decide +kernel
theorem d_DM_placesAreThere_9 : decode prog_1_method_17_code 9 = .ok (.getfield 34, 3) := by decide +kernel
theorem d_DM_placesAreThere_12 : decode prog_1_method_17_code 12 = .ok (.getfield 196, 3) := by decide +kernel
theorem d_DM_placesAreThere_15 : decode prog_1_method_17_code 15 = .ok (.tableswitch 203 6 23 #[85, 117, 117, 203, 203, 203, 203, 203, 203, 203, 203, 203, 203, 203, 129, 185, 203, 195], 85) := by decide +kernel
theorem d_DM_placesAreThere_100 : decode prog_1_method_17_code 100 = .ok (.aload_n 1, 1) := by decide +kernel
theorem d_DM_placesAreThere_101 : decode prog_1_method_17_code 101 = .ok (.iconst 0, 1) := by decide +kernel
theorem d_DM_placesAreThere_102 : decode prog_1_method_17_code 102 = .ok (.iaload, 1) := by decide +kernel
theorem d_DM_placesAreThere_103 : decode prog_1_method_17_code 103 = .ok (.aload_n 1, 1) := by decide +kernel
theorem d_DM_placesAreThere_104 : decode prog_1_method_17_code 104 = .ok (.iconst 1, 1) := by decide +kernel
theorem d_DM_placesAreThere_105 : decode prog_1_method_17_code 105 = .ok (.iaload, 1) := by decide +kernel
theorem d_DM_placesAreThere_106 : decode prog_1_method_17_code 106 = .ok (.iadd, 1) := by decide +kernel
theorem d_DM_placesAreThere_107 : decode prog_1_method_17_code 107 = .ok (.bipush 32, 2) := by decide +kernel
theorem d_DM_placesAreThere_109 : decode prog_1_method_17_code 109 = .ok (.if_icmp .gt 21, 3) := by decide +kernel
theorem d_DM_placesAreThere_112 : decode prog_1_method_17_code 112 = .ok (.aload_n 1, 1) := by decide +kernel
theorem d_DM_placesAreThere_113 : decode prog_1_method_17_code 113 = .ok (.iconst 2, 1) := by decide +kernel
theorem d_DM_placesAreThere_114 : decode prog_1_method_17_code 114 = .ok (.iaload, 1) := by decide +kernel
theorem d_DM_placesAreThere_115 : decode prog_1_method_17_code 115 = .ok (.iconst 4, 1) := by decide +kernel
theorem d_DM_placesAreThere_116 : decode prog_1_method_17_code 116 = .ok (.aload_n 1, 1) := by decide +kernel
theorem d_DM_placesAreThere_117 : decode prog_1_method_17_code 117 = .ok (.iconst 1, 1) := by decide +kernel
theorem d_DM_placesAreThere_118 : decode prog_1_method_17_code 118 = .ok (.iaload, 1) := by decide +kernel
theorem d_DM_placesAreThere_119 : decode prog_1_method_17_code 119 = .ok (.imul, 1) := by decide +kernel
theorem d_DM_placesAreThere_120 : decode prog_1_method_17_code 120 = .ok (.invokestatic 211, 3) := by decide +kernel
theorem d_DM_placesAreThere_123 : decode prog_1_method_17_code 123 = .ok (.ifCond .eq 7, 3) := by decide +kernel
theorem d_DM_placesAreThere_126 : decode prog_1_method_17_code 126 = .ok (.iconst 1, 1) := by decide +kernel
theorem d_DM_placesAreThere_127 : decode prog_1_method_17_code 127 = .ok (.goto 4, 3) := by decide +kernel
theorem d_DM_placesAreThere_130 : decode prog_1_method_17_code 130 = .ok (.iconst 0, 1) := by decide +kernel
theorem d_DM_placesAreThere_131 : decode prog_1_method_17_code 131 = .ok (.ireturn, 1) := by decide +kernel
theorem d_DM_placesAreThere_132 : decode prog_1_method_17_code 132 = .ok (.aload_n 1, 1) := by decide +kernel
theorem d_DM_placesAreThere_133 : decode prog_1_method_17_code 133 = .ok (.iconst 0, 1) := by decide +kernel
theorem d_DM_placesAreThere_134 : decode prog_1_method_17_code 134 = .ok (.iaload, 1) := by decide +kernel
theorem d_DM_placesAreThere_135 : decode prog_1_method_17_code 135 = .ok (.iconst 3, 1) := by decide +kernel
theorem d_DM_placesAreThere_136 : decode prog_1_method_17_code 136 = .ok (.aload_n 1, 1) := by decide +kernel
theorem d_DM_placesAreThere_137 : decode prog_1_method_17_code 137 = .ok (.iconst 1, 1) := by decide +kernel
theorem d_DM_placesAreThere_138 : decode prog_1_method_17_code 138 = .ok (.iaload, 1) := by decide +kernel
theorem d_DM_placesAreThere_139 : decode prog_1_method_17_code 139 = .ok (.imul, 1) := by decide +kernel
theorem d_DM_placesAreThere_140 : decode prog_1_method_17_code 140 = .ok (.invokestatic 211, 3) := by decide +kernel
theorem d_DM_placesAreThere_143 : decode prog_1_method_17_code 143 = .ok (.ireturn, 1) := by decide +kernel
theorem d_DM_placesAreThere_144 : decode prog_1_method_17_code 144 = .ok (.aload_n 1, 1) := by decide +kernel
theorem d_DM_placesAreThere_145 : decode prog_1_method_17_code 145 = .ok (.iconst 0, 1) := by decide +kernel
theorem d_DM_placesAreThere_146 : decode prog_1_method_17_code 146 = .ok (.iaload, 1) := by decide +kernel
theorem d_DM_placesAreThere_147 : decode prog_1_method_17_code 147 = .ok (.aload_n 1, 1) := by decide +kernel
theorem d_DM_placesAreThere_148 : decode prog_1_method_17_code 148 = .ok (.iconst 2, 1) := by decide +kernel
theorem d_DM_placesAreThere_149 : decode prog_1_method_17_code 149 = .ok (.iaload, 1) := by decide +kernel
theorem d_DM_placesAreThere_150 : decode prog_1_method_17_code 150 = .ok (.iadd, 1) := by decide +kernel
theorem d_DM_placesAreThere_151 : decode prog_1_method_17_code 151 = .ok (.aload_n 0, 1) := by decide +kernel
theorem d_DM_placesAreThere_152 : decode prog_1_method_17_code 152 = .ok (.getfield 25, 3) := by decide +kernel
theorem d_DM_placesAreThere_155 : decode prog_1_method_17_code 155 = .ok (.getfield 171, 3) := by decide +kernel
theorem d_DM_placesAreThere_158 : decode prog_1_method_17_code 158 = .ok (.if_icmp .gt 40, 3) := by decide +kernel
theorem d_DM_placesAreThere_161 : decode prog_1_method_17_code 161 = .ok (.aload_n 1, 1) := by decide +kernel
theorem d_DM_placesAreThere_162 : decode prog_1_method_17_code 162 = .ok (.iconst 1, 1) := by decide +kernel
theorem d_DM_placesAreThere_163 : decode prog_1_method_17_code 163 = .ok (.iaload, 1) := by decide +kernel
theorem d_DM_placesAreThere_164 : decode prog_1_method_17_code 164 = .ok (.aload_n 1, 1) := by decide +kernel
theorem d_DM_placesAreThere_165 : decode prog_1_method_17_code 165 = .ok (.iconst 3, 1) := by decide +kernel
theorem d_DM_placesAreThere_166 : decode prog_1_method_17_code 166 = .ok (.iaload, 1) := by decide +kernel
theorem d_DM_placesAreThere_167 : decode prog_1_method_17_code 167 = .ok (.iadd, 1) := by decide +kernel
theorem d_DM_placesAreThere_168 : decode prog_1_method_17_code 168 = .ok (.aload_n 0, 1) := by decide +kernel
theorem d_DM_placesAreThere_169 : decode prog_1_method_17_code 169 = .ok (.getfield 25, 3) := by decide +kernel
theorem d_DM_placesAreThere_172 : decode prog_1_method_17_code 172 = .ok (.getfield 174, 3) := by decide +kernel
theorem d_DM_placesAreThere_175 : decode prog_1_method_17_code 175 = .ok (.if_icmp .gt 23, 3) := by decide +kernel
theorem d_DM_placesAreThere_178 : decode prog_1_method_17_code 178 = .ok (.aload_n 1, 1) := by decide +kernel
theorem d_DM_placesAreThere_179 : decode prog_1_method_17_code 179 = .ok (.iconst 4, 1) := by decide +kernel
theorem d_DM_placesAreThere_180 : decode prog_1_method_17_code 180 = .ok (.iaload, 1) := by decide +kernel
theorem d_DM_placesAreThere_181 : decode prog_1_method_17_code 181 = .ok (.aload_n 1, 1) := by decide +kernel
theorem d_DM_placesAreThere_182 : decode prog_1_method_17_code 182 = .ok (.iconst 2, 1) := by decide +kernel
theorem d_DM_placesAreThere_183 : decode prog_1_method_17_code 183 = .ok (.iaload, 1) := by decide +kernel
theorem d_DM_placesAreThere_184 : decode prog_1_method_17_code 184 = .ok (.aload_n 1, 1) := by decide +kernel
theorem d_DM_placesAreThere_185 : decode prog_1_method_17_code 185 = .ok (.iconst 3, 1) := by decide +kernel
theorem d_DM_placesAreThere_186 : decode prog_1_method_17_code 186 = .ok (.iaload, 1) := by decide +kernel
theorem d_DM_placesAreThere_187 : decode prog_1_method_17_code 187 = .ok (.imul, 1) := by decide +kernel
theorem d_DM_placesAreThere_188 : decode prog_1_method_17_code 188 = .ok (.invokestatic 211, 3) := by decide +kernel
theorem d_DM_placesAreThere_191 : decode prog_1_method_17_code 191 = .ok (.ifCond .eq 7, 3) := by decide +kernel
theorem d_DM_placesAreThere_194 : decode prog_1_method_17_code 194 = .ok (.iconst 1, 1) := by decide +kernel
theorem d_DM_placesAreThere_195 : decode prog_1_method_17_code 195 = .ok (.goto 4, 3) := by decide +kernel
theorem d_DM_placesAreThere_198 : decode prog_1_method_17_code 198 = .ok (.iconst 0, 1) := by decide +kernel
theorem d_DM_placesAreThere_199 : decode prog_1_method_17_code 199 = .ok (.ireturn, 1) := by decide +kernel
theorem d_DM_placesAreThere_200 : decode prog_1_method_17_code 200 = .ok (.aload_n 1, 1) := by decide +kernel
theorem d_DM_placesAreThere_201 : decode prog_1_method_17_code 201 = .ok (.iconst 0, 1) := by decide +kernel
theorem d_DM_placesAreThere_202 : decode prog_1_method_17_code 202 = .ok (.iaload, 1) := by decide +kernel
theorem d_DM_placesAreThere_203 : decode prog_1_method_17_code 203 = .ok (.aload_n 1, 1) := by decide +kernel
theorem d_DM_placesAreThere_204 : decode prog_1_method_17_code 204 = .ok (.iconst 1, 1) := by decide +kernel
theorem d_DM_placesAreThere_205 : decode prog_1_method_17_code 205 = .ok (.iaload, 1) := by decide +kernel
theorem d_DM_placesAreThere_206 : decode prog_1_method_17_code 206 = .ok (.invokestatic 211, 3) := by decide +kernel
theorem d_DM_placesAreThere_209 : decode prog_1_method_17_code 209 = .ok (.ireturn, 1) := by decide +kernel
theorem d_DM_placesAreThere_210 : decode prog_1_method_17_code 210 = .ok (.aload_n 1, 1) := by decide +kernel
theorem d_DM_placesAreThere_211 : decode prog_1_method_17_code 211 = .ok (.iconst 0, 1) := by decide +kernel
theorem d_DM_placesAreThere_212 : decode prog_1_method_17_code 212 = .ok (.iaload, 1) := by decide +kernel
theorem d_DM_placesAreThere_213 : decode prog_1_method_17_code 213 = .ok (.iconst 1, 1) := by decide +kernel
theorem d_DM_placesAreThere_214 : decode prog_1_method_17_code 214 = .ok (.invokestatic 211, 3) := by decide +kernel
theorem d_DM_placesAreThere_217 : decode prog_1_method_17_code 217 = .ok (.ireturn, 1) := by decide +kernel
theorem d_DM_placesAreThere_218 : decode prog_1_method_17_code 218 = .ok (.iconst 1, 1) := by decide +kernel
theorem d_DM_placesAreThere_219 : decode prog_1_method_17_code 219 = .ok (.ireturn, 1) := by decide +kernel
def F_DM_placesAreThere_218 (σ : Sg) : Option (Int32) := some 1
set_option maxRecDepth 10000 in
set_option maxHeartbeats 4000000 in
theorem bt_DM_placesAreThere_218 {p : Program} {l : Launch} {e : Env} {R : Room} {s : State} {m : MethodId} {args : Array Value} {below : List Frame} {meth : Method} {c : Code} {D : va_G} {τ : ClassId × ClassId × ClassId} {B : Nat} {A : Nat → Prop} {ad : Nat → Nat} (E : Cx p R s m args meth c prog_1_method_17_code 2 "DrawingMachine" 1 D τ B A) (hret : meth.sig.returnType = (some .boolean)) (o : Int32) (σ : Sg) (h : F_DM_placesAreThere_218 σ = some o) {H : Heap} {locs : List Loc} {ls : Array Slot} (w : Wd s D A (wdC τ σ ad) H locs) (hl : lv_has ls 2 []) : W p l e R s m args below meth c H locs 0 0 (QI below args s A D τ (wdC τ σ ad) o) (F0 m 218 ls []) := by
  refine lv_iconst (v := 1) E.x E.b d_DM_placesAreThere_218 (by decide) ?_
  obtain rfl := Option.some.inj h
  exact rt_z E w hret (show (1 : Int32) = 0 ∨ (1 : Int32) = 1 by decide) d_DM_placesAreThere_219
def F_DM_placesAreThere_199 (σ : Sg) (s0 : Int32) : Option (Int32) := ck (s0 = 0 ∨ s0 = 1) (some s0)
set_option maxRecDepth 10000 in
set_option maxHeartbeats 4000000 in
theorem bt_DM_placesAreThere_199 {p : Program} {l : Launch} {e : Env} {R : Room} {s : State} {m : MethodId} {args : Array Value} {below : List Frame} {meth : Method} {c : Code} {D : va_G} {τ : ClassId × ClassId × ClassId} {B : Nat} {A : Nat → Prop} {ad : Nat → Nat} (E : Cx p R s m args meth c prog_1_method_17_code 2 "DrawingMachine" 1 D τ B A) (hret : meth.sig.returnType = (some .boolean)) (o : Int32) (σ : Sg) (s0 : Int32) (h : F_DM_placesAreThere_199 σ s0 = some o) {H : Heap} {locs : List Loc} {ls : Array Slot} (w : Wd s D A (wdC τ σ ad) H locs) (hl : lv_has ls 2 []) : W p l e R s m args below meth c H locs 0 0 (QI below args s A D τ (wdC τ σ ad) o) (F0 m 199 ls [.int s0]) := by
  obtain ⟨c30, h⟩ := ck_some h
  obtain rfl := Option.some.inj h
  exact rt_z E w hret c30 d_DM_placesAreThere_199
def F_DM_placesAreThere_198 (σ : Sg) : Option (Int32) := F_DM_placesAreThere_199 σ 0
set_option maxRecDepth 10000 in
set_option maxHeartbeats 4000000 in
theorem bt_DM_placesAreThere_198 {p : Program} {l : Launch} {e : Env} {R : Room} {s : State} {m : MethodId} {args : Array Value} {below : List Frame} {meth : Method} {c : Code} {D : va_G} {τ : ClassId × ClassId × ClassId} {B : Nat} {A : Nat → Prop} {ad : Nat → Nat} (E : Cx p R s m args meth c prog_1_method_17_code 2 "DrawingMachine" 1 D τ B A) (hret : meth.sig.returnType = (some .boolean)) (o : Int32) (σ : Sg) (h : F_DM_placesAreThere_198 σ = some o) {H : Heap} {locs : List Loc} {ls : Array Slot} (w : Wd s D A (wdC τ σ ad) H locs) (hl : lv_has ls 2 []) : W p l e R s m args below meth c H locs 0 0 (QI below args s A D τ (wdC τ σ ad) o) (F0 m 198 ls []) := by
  refine lv_iconst (v := 0) E.x E.b d_DM_placesAreThere_198 (by decide) ?_
  exact bt_DM_placesAreThere_199 E hret o σ 0 h w (lv_sub hl [] rfl)
def F_DM_placesAreThere_132 (σ : Sg) : Option (Int32) := bd (F_DM_inMemory (σ.2.2.1 5 0) (3 * (σ.2.2.1 5 1))) (fun o31 => ck (o31 = 0 ∨ o31 = 1) (some o31))
set_option maxRecDepth 10000 in
set_option maxHeartbeats 4000000 in
theorem bt_DM_placesAreThere_132 {p : Program} {l : Launch} {e : Env} {R : Room} {s : State} {m : MethodId} {args : Array Value} {below : List Frame} {meth : Method} {c : Code} {D : va_G} {τ : ClassId × ClassId × ClassId} {B : Nat} {A : Nat → Prop} {ad : Nat → Nat} (E : Cx p R s m args meth c prog_1_method_17_code 2 "DrawingMachine" 1 D τ B A) (hret : meth.sig.returnType = (some .boolean)) (o : Int32) (σ : Sg) (h : F_DM_placesAreThere_132 σ = some o) {H : Heap} {locs : List Loc} {ls : Array Slot} (w : Wd s D A (wdC τ σ ad) H locs) (hl : lv_has ls 2 [(1, .ref (ad 5))]) : W p l e R s m args below meth c H locs 0 0 (QI below args s A D τ (wdC τ σ ad) o) (F0 m 132 ls []) := by
  refine lv_aload_n E.x E.b d_DM_placesAreThere_132 rfl (lv_at hl 0 rfl) ?_
  refine lv_iconst (v := 0) E.x E.b d_DM_placesAreThere_133 (by decide) ?_
  refine ialC E w (k := 5) (by decide) (show inb 0 8 by decide) d_DM_placesAreThere_134 ?_
  refine wi_e (v := σ.2.2.1 5 0) rfl ?_
  refine lv_iconst (v := 3) E.x E.b d_DM_placesAreThere_135 (by decide) ?_
  refine lv_aload_n E.x E.b d_DM_placesAreThere_136 rfl (lv_at hl 0 rfl) ?_
  refine lv_iconst (v := 1) E.x E.b d_DM_placesAreThere_137 (by decide) ?_
  refine ialC E w (k := 5) (by decide) (show inb 1 8 by decide) d_DM_placesAreThere_138 ?_
  refine wi_e (v := σ.2.2.1 5 1) rfl ?_
  refine lv_imul E.x E.b d_DM_placesAreThere_139 ?_
  obtain ⟨o31, h_o31, h⟩ := bd_some h
  refine clS_DM_inMemory E w (x0 := (σ.2.2.1 5 0)) (x1 := (3 * (σ.2.2.1 5 1))) h_o31 k969 (by decide) hl.1 (Nat.le_of_ble_eq_true rfl) d_DM_placesAreThere_140 (fun H locs w => ?_)
  obtain ⟨c32, h⟩ := ck_some h
  obtain rfl := Option.some.inj h
  exact rt_z E w hret c32 d_DM_placesAreThere_143
def F_DM_placesAreThere_131 (σ : Sg) (s0 : Int32) : Option (Int32) := ck (s0 = 0 ∨ s0 = 1) (some s0)
set_option maxRecDepth 10000 in
set_option maxHeartbeats 4000000 in
theorem bt_DM_placesAreThere_131 {p : Program} {l : Launch} {e : Env} {R : Room} {s : State} {m : MethodId} {args : Array Value} {below : List Frame} {meth : Method} {c : Code} {D : va_G} {τ : ClassId × ClassId × ClassId} {B : Nat} {A : Nat → Prop} {ad : Nat → Nat} (E : Cx p R s m args meth c prog_1_method_17_code 2 "DrawingMachine" 1 D τ B A) (hret : meth.sig.returnType = (some .boolean)) (o : Int32) (σ : Sg) (s0 : Int32) (h : F_DM_placesAreThere_131 σ s0 = some o) {H : Heap} {locs : List Loc} {ls : Array Slot} (w : Wd s D A (wdC τ σ ad) H locs) (hl : lv_has ls 2 []) : W p l e R s m args below meth c H locs 0 0 (QI below args s A D τ (wdC τ σ ad) o) (F0 m 131 ls [.int s0]) := by
  obtain ⟨c33, h⟩ := ck_some h
  obtain rfl := Option.some.inj h
  exact rt_z E w hret c33 d_DM_placesAreThere_131
def F_DM_placesAreThere_130 (σ : Sg) : Option (Int32) := F_DM_placesAreThere_131 σ 0
set_option maxRecDepth 10000 in
set_option maxHeartbeats 4000000 in
theorem bt_DM_placesAreThere_130 {p : Program} {l : Launch} {e : Env} {R : Room} {s : State} {m : MethodId} {args : Array Value} {below : List Frame} {meth : Method} {c : Code} {D : va_G} {τ : ClassId × ClassId × ClassId} {B : Nat} {A : Nat → Prop} {ad : Nat → Nat} (E : Cx p R s m args meth c prog_1_method_17_code 2 "DrawingMachine" 1 D τ B A) (hret : meth.sig.returnType = (some .boolean)) (o : Int32) (σ : Sg) (h : F_DM_placesAreThere_130 σ = some o) {H : Heap} {locs : List Loc} {ls : Array Slot} (w : Wd s D A (wdC τ σ ad) H locs) (hl : lv_has ls 2 []) : W p l e R s m args below meth c H locs 0 0 (QI below args s A D τ (wdC τ σ ad) o) (F0 m 130 ls []) := by
  refine lv_iconst (v := 0) E.x E.b d_DM_placesAreThere_130 (by decide) ?_
  exact bt_DM_placesAreThere_131 E hret o σ 0 h w (lv_sub hl [] rfl)
def F_DM_placesAreThere (σ : Sg) : Option (Int32) := lt (σ.1 3) (fun y34 => if y34 = 6 then (if 32 < ((σ.2.2.1 5 0) + (σ.2.2.1 5 1)) then (F_DM_placesAreThere_130 σ) else (bd (F_DM_inMemory (σ.2.2.1 5 2) (4 * (σ.2.2.1 5 1))) (fun o36 => if o36 = 0 then (F_DM_placesAreThere_130 σ) else (F_DM_placesAreThere_131 σ 1)))) else (if y34 = 7 then (F_DM_placesAreThere_132 σ) else (if y34 = 8 then (F_DM_placesAreThere_132 σ) else (if y34 = 9 then (F_DM_placesAreThere_218 σ) else (if y34 = 10 then (F_DM_placesAreThere_218 σ) else (if y34 = 11 then (F_DM_placesAreThere_218 σ) else (if y34 = 12 then (F_DM_placesAreThere_218 σ) else (if y34 = 13 then (F_DM_placesAreThere_218 σ) else (if y34 = 14 then (F_DM_placesAreThere_218 σ) else (if y34 = 15 then (F_DM_placesAreThere_218 σ) else (if y34 = 16 then (F_DM_placesAreThere_218 σ) else (if y34 = 17 then (F_DM_placesAreThere_218 σ) else (if y34 = 18 then (F_DM_placesAreThere_218 σ) else (if y34 = 19 then (F_DM_placesAreThere_218 σ) else (if y34 = 20 then (if (σ.1 0) < ((σ.2.2.1 5 0) + (σ.2.2.1 5 2)) then (F_DM_placesAreThere_198 σ) else (if (σ.1 1) < ((σ.2.2.1 5 1) + (σ.2.2.1 5 3)) then (F_DM_placesAreThere_198 σ) else (bd (F_DM_inMemory (σ.2.2.1 5 4) ((σ.2.2.1 5 2) * (σ.2.2.1 5 3))) (fun o51 => if o51 = 0 then (F_DM_placesAreThere_198 σ) else (F_DM_placesAreThere_199 σ 1))))) else (if y34 = 21 then (bd (F_DM_inMemory (σ.2.2.1 5 0) (σ.2.2.1 5 1)) (fun o53 => ck (o53 = 0 ∨ o53 = 1) (some o53))) else (if y34 = 22 then (F_DM_placesAreThere_218 σ) else (if y34 = 23 then (bd (F_DM_inMemory (σ.2.2.1 5 0) 1) (fun o57 => ck (o57 = 0 ∨ o57 = 1) (some o57))) else (F_DM_placesAreThere_218 σ)))))))))))))))))))
set_option maxRecDepth 10000 in
set_option maxHeartbeats 4000000 in
theorem c_DM_placesAreThere (l : Launch) (D : va_G) (τ : ClassId × ClassId × ClassId) (B : Nat) (σ : Sg) (ad : Nat → Nat) (o : Int32) (h : F_DM_placesAreThere σ = some o) : MI l y_DM_placesAreThere (Cond.code y_DM_placesAreThere prog_1_method_17_code 2 (some .boolean)) 1 D τ B [.ref (ad 56)] (wdC τ σ ad) (wdC τ σ ad) o := by
  refine en_i (by decide) (Nat.le_of_ble_eq_true rfl) ?_
  intro p e R s m args below meth c H locs ls A E hret w hl
  have E : Cx p R s m args meth c prog_1_method_17_code 2 "DrawingMachine" 1 D τ B A := E
  have hl : lv_has ls 2 [(0, .ref (ad 56))] := hl
  refine lv_aload_n E.x E.b d_DM_placesAreThere_0 rfl (lv_at hl 0 rfl) ?_
  refine gC_DM_course E w k433 d_DM_placesAreThere_1 ?_
  refine gC_Cou_given E w k112 d_DM_placesAreThere_4 ?_
  refine lv_astore_n (lv' := [(1, .ref (ad 5)), (0, .ref (ad 56))]) E.x E.b d_DM_placesAreThere_7 rfl hl (by decide) rfl (fun ls hl => ?_)
  refine lv_aload_n E.x E.b d_DM_placesAreThere_8 rfl (lv_at hl 1 rfl) ?_
  refine gC_DM_course E w k433 d_DM_placesAreThere_9 ?_
  refine gC_Cou_kind E w k117 d_DM_placesAreThere_12 ?_
  obtain ⟨y34, e_y34, h⟩ := lt_some h
  refine wi_e (v := y34) e_y34 ?_
  by_cases q35 : y34 = 6
  ·
    replace h := ifT q35 h
    refine wi_e (v := 6) q35 ?_
    refine lv_tableIn (off := 85) (tgt := 100) E.x E.b d_DM_placesAreThere_15 (by decide) (by decide) (by decide) (by decide) ?_
    refine lv_aload_n E.x E.b d_DM_placesAreThere_100 rfl (lv_at hl 0 rfl) ?_
    refine lv_iconst (v := 0) E.x E.b d_DM_placesAreThere_101 (by decide) ?_
    refine ialC E w (k := 5) (by decide) (show inb 0 8 by decide) d_DM_placesAreThere_102 ?_
    refine wi_e (v := σ.2.2.1 5 0) rfl ?_
    refine lv_aload_n E.x E.b d_DM_placesAreThere_103 rfl (lv_at hl 0 rfl) ?_
    refine lv_iconst (v := 1) E.x E.b d_DM_placesAreThere_104 (by decide) ?_
    refine ialC E w (k := 5) (by decide) (show inb 1 8 by decide) d_DM_placesAreThere_105 ?_
    refine wi_e (v := σ.2.2.1 5 1) rfl ?_
    refine lv_iadd E.x E.b d_DM_placesAreThere_106 ?_
    refine lv_bipush (v := 32) E.x E.b d_DM_placesAreThere_107 (by decide) ?_
    refine lv_icmp_gt (tgt := 130) E.x E.b d_DM_placesAreThere_109 (by decide) (fun c => ?_) (fun c => ?_)
    ·
      replace h := ifT c h
      exact bt_DM_placesAreThere_130 E hret o σ h w (lv_sub hl [] rfl)
    ·
      replace h := ifF c h
      refine lv_aload_n E.x E.b d_DM_placesAreThere_112 rfl (lv_at hl 0 rfl) ?_
      refine lv_iconst (v := 2) E.x E.b d_DM_placesAreThere_113 (by decide) ?_
      refine ialC E w (k := 5) (by decide) (show inb 2 8 by decide) d_DM_placesAreThere_114 ?_
      refine wi_e (v := σ.2.2.1 5 2) rfl ?_
      refine lv_iconst (v := 4) E.x E.b d_DM_placesAreThere_115 (by decide) ?_
      refine lv_aload_n E.x E.b d_DM_placesAreThere_116 rfl (lv_at hl 0 rfl) ?_
      refine lv_iconst (v := 1) E.x E.b d_DM_placesAreThere_117 (by decide) ?_
      refine ialC E w (k := 5) (by decide) (show inb 1 8 by decide) d_DM_placesAreThere_118 ?_
      refine wi_e (v := σ.2.2.1 5 1) rfl ?_
      refine lv_imul E.x E.b d_DM_placesAreThere_119 ?_
      obtain ⟨o36, h_o36, h⟩ := bd_some h
      refine clS_DM_inMemory E w (x0 := (σ.2.2.1 5 2)) (x1 := (4 * (σ.2.2.1 5 1))) h_o36 k969 (by decide) hl.1 (Nat.le_of_ble_eq_true rfl) d_DM_placesAreThere_120 (fun H locs w => ?_)
      refine lv_if_eq (tgt := 130) E.x E.b d_DM_placesAreThere_123 (by decide) (fun c => ?_) (fun c => ?_)
      ·
        replace h := ifT c h
        exact bt_DM_placesAreThere_130 E hret o σ h w (lv_sub hl [] rfl)
      ·
        replace h := ifF c h
        refine lv_iconst (v := 1) E.x E.b d_DM_placesAreThere_126 (by decide) ?_
        refine lv_goto (tgt := 131) E.x E.b d_DM_placesAreThere_127 (by decide) ?_
        exact bt_DM_placesAreThere_131 E hret o σ 1 h w (lv_sub hl [] rfl)
  replace h := ifF q35 h
  replace q35 := ne_ti (k := 6) (by decide) q35
  by_cases q37 : y34 = 7
  ·
    replace h := ifT q37 h
    refine wi_e (v := 7) q37 ?_
    refine lv_tableIn (off := 117) (tgt := 132) E.x E.b d_DM_placesAreThere_15 (by decide) (by decide) (by decide) (by decide) ?_
    exact bt_DM_placesAreThere_132 E hret o σ h w (lv_sub hl [0] rfl)
  replace h := ifF q37 h
  replace q37 := ne_ti (k := 7) (by decide) q37
  by_cases q38 : y34 = 8
  ·
    replace h := ifT q38 h
    refine wi_e (v := 8) q38 ?_
    refine lv_tableIn (off := 117) (tgt := 132) E.x E.b d_DM_placesAreThere_15 (by decide) (by decide) (by decide) (by decide) ?_
    exact bt_DM_placesAreThere_132 E hret o σ h w (lv_sub hl [0] rfl)
  replace h := ifF q38 h
  replace q38 := ne_ti (k := 8) (by decide) q38
  by_cases q39 : y34 = 9
  ·
    replace h := ifT q39 h
    refine wi_e (v := 9) q39 ?_
    refine lv_tableIn (off := 203) (tgt := 218) E.x E.b d_DM_placesAreThere_15 (by decide) (by decide) (by decide) (by decide) ?_
    exact bt_DM_placesAreThere_218 E hret o σ h w (lv_sub hl [] rfl)
  replace h := ifF q39 h
  replace q39 := ne_ti (k := 9) (by decide) q39
  by_cases q40 : y34 = 10
  ·
    replace h := ifT q40 h
    refine wi_e (v := 10) q40 ?_
    refine lv_tableIn (off := 203) (tgt := 218) E.x E.b d_DM_placesAreThere_15 (by decide) (by decide) (by decide) (by decide) ?_
    exact bt_DM_placesAreThere_218 E hret o σ h w (lv_sub hl [] rfl)
  replace h := ifF q40 h
  replace q40 := ne_ti (k := 10) (by decide) q40
  by_cases q41 : y34 = 11
  ·
    replace h := ifT q41 h
    refine wi_e (v := 11) q41 ?_
    refine lv_tableIn (off := 203) (tgt := 218) E.x E.b d_DM_placesAreThere_15 (by decide) (by decide) (by decide) (by decide) ?_
    exact bt_DM_placesAreThere_218 E hret o σ h w (lv_sub hl [] rfl)
  replace h := ifF q41 h
  replace q41 := ne_ti (k := 11) (by decide) q41
  by_cases q42 : y34 = 12
  ·
    replace h := ifT q42 h
    refine wi_e (v := 12) q42 ?_
    refine lv_tableIn (off := 203) (tgt := 218) E.x E.b d_DM_placesAreThere_15 (by decide) (by decide) (by decide) (by decide) ?_
    exact bt_DM_placesAreThere_218 E hret o σ h w (lv_sub hl [] rfl)
  replace h := ifF q42 h
  replace q42 := ne_ti (k := 12) (by decide) q42
  by_cases q43 : y34 = 13
  ·
    replace h := ifT q43 h
    refine wi_e (v := 13) q43 ?_
    refine lv_tableIn (off := 203) (tgt := 218) E.x E.b d_DM_placesAreThere_15 (by decide) (by decide) (by decide) (by decide) ?_
    exact bt_DM_placesAreThere_218 E hret o σ h w (lv_sub hl [] rfl)
  replace h := ifF q43 h
  replace q43 := ne_ti (k := 13) (by decide) q43
  by_cases q44 : y34 = 14
  ·
    replace h := ifT q44 h
    refine wi_e (v := 14) q44 ?_
    refine lv_tableIn (off := 203) (tgt := 218) E.x E.b d_DM_placesAreThere_15 (by decide) (by decide) (by decide) (by decide) ?_
    exact bt_DM_placesAreThere_218 E hret o σ h w (lv_sub hl [] rfl)
  replace h := ifF q44 h
  replace q44 := ne_ti (k := 14) (by decide) q44
  by_cases q45 : y34 = 15
  ·
    replace h := ifT q45 h
    refine wi_e (v := 15) q45 ?_
    refine lv_tableIn (off := 203) (tgt := 218) E.x E.b d_DM_placesAreThere_15 (by decide) (by decide) (by decide) (by decide) ?_
    exact bt_DM_placesAreThere_218 E hret o σ h w (lv_sub hl [] rfl)
  replace h := ifF q45 h
  replace q45 := ne_ti (k := 15) (by decide) q45
  by_cases q46 : y34 = 16
  ·
    replace h := ifT q46 h
    refine wi_e (v := 16) q46 ?_
    refine lv_tableIn (off := 203) (tgt := 218) E.x E.b d_DM_placesAreThere_15 (by decide) (by decide) (by decide) (by decide) ?_
    exact bt_DM_placesAreThere_218 E hret o σ h w (lv_sub hl [] rfl)
  replace h := ifF q46 h
  replace q46 := ne_ti (k := 16) (by decide) q46
  by_cases q47 : y34 = 17
  ·
    replace h := ifT q47 h
    refine wi_e (v := 17) q47 ?_
    refine lv_tableIn (off := 203) (tgt := 218) E.x E.b d_DM_placesAreThere_15 (by decide) (by decide) (by decide) (by decide) ?_
    exact bt_DM_placesAreThere_218 E hret o σ h w (lv_sub hl [] rfl)
  replace h := ifF q47 h
  replace q47 := ne_ti (k := 17) (by decide) q47
  by_cases q48 : y34 = 18
  ·
    replace h := ifT q48 h
    refine wi_e (v := 18) q48 ?_
    refine lv_tableIn (off := 203) (tgt := 218) E.x E.b d_DM_placesAreThere_15 (by decide) (by decide) (by decide) (by decide) ?_
    exact bt_DM_placesAreThere_218 E hret o σ h w (lv_sub hl [] rfl)
  replace h := ifF q48 h
  replace q48 := ne_ti (k := 18) (by decide) q48
  by_cases q49 : y34 = 19
  ·
    replace h := ifT q49 h
    refine wi_e (v := 19) q49 ?_
    refine lv_tableIn (off := 203) (tgt := 218) E.x E.b d_DM_placesAreThere_15 (by decide) (by decide) (by decide) (by decide) ?_
    exact bt_DM_placesAreThere_218 E hret o σ h w (lv_sub hl [] rfl)
  replace h := ifF q49 h
  replace q49 := ne_ti (k := 19) (by decide) q49
  by_cases q50 : y34 = 20
  ·
    replace h := ifT q50 h
    refine wi_e (v := 20) q50 ?_
    refine lv_tableIn (off := 129) (tgt := 144) E.x E.b d_DM_placesAreThere_15 (by decide) (by decide) (by decide) (by decide) ?_
    refine lv_aload_n E.x E.b d_DM_placesAreThere_144 rfl (lv_at hl 0 rfl) ?_
    refine lv_iconst (v := 0) E.x E.b d_DM_placesAreThere_145 (by decide) ?_
    refine ialC E w (k := 5) (by decide) (show inb 0 8 by decide) d_DM_placesAreThere_146 ?_
    refine wi_e (v := σ.2.2.1 5 0) rfl ?_
    refine lv_aload_n E.x E.b d_DM_placesAreThere_147 rfl (lv_at hl 0 rfl) ?_
    refine lv_iconst (v := 2) E.x E.b d_DM_placesAreThere_148 (by decide) ?_
    refine ialC E w (k := 5) (by decide) (show inb 2 8 by decide) d_DM_placesAreThere_149 ?_
    refine wi_e (v := σ.2.2.1 5 2) rfl ?_
    refine lv_iadd E.x E.b d_DM_placesAreThere_150 ?_
    refine lv_aload_n E.x E.b d_DM_placesAreThere_151 rfl (lv_at hl 1 rfl) ?_
    refine gC_DM_picture E w k432 d_DM_placesAreThere_152 ?_
    refine gC_Pic_wide E w k80 d_DM_placesAreThere_155 ?_
    refine lv_icmp_gt (tgt := 198) E.x E.b d_DM_placesAreThere_158 (by decide) (fun c => ?_) (fun c => ?_)
    ·
      replace h := ifT c h
      exact bt_DM_placesAreThere_198 E hret o σ h w (lv_sub hl [] rfl)
    ·
      replace h := ifF c h
      refine lv_aload_n E.x E.b d_DM_placesAreThere_161 rfl (lv_at hl 0 rfl) ?_
      refine lv_iconst (v := 1) E.x E.b d_DM_placesAreThere_162 (by decide) ?_
      refine ialC E w (k := 5) (by decide) (show inb 1 8 by decide) d_DM_placesAreThere_163 ?_
      refine wi_e (v := σ.2.2.1 5 1) rfl ?_
      refine lv_aload_n E.x E.b d_DM_placesAreThere_164 rfl (lv_at hl 0 rfl) ?_
      refine lv_iconst (v := 3) E.x E.b d_DM_placesAreThere_165 (by decide) ?_
      refine ialC E w (k := 5) (by decide) (show inb 3 8 by decide) d_DM_placesAreThere_166 ?_
      refine wi_e (v := σ.2.2.1 5 3) rfl ?_
      refine lv_iadd E.x E.b d_DM_placesAreThere_167 ?_
      refine lv_aload_n E.x E.b d_DM_placesAreThere_168 rfl (lv_at hl 1 rfl) ?_
      refine gC_DM_picture E w k432 d_DM_placesAreThere_169 ?_
      refine gC_Pic_high E w k83 d_DM_placesAreThere_172 ?_
      refine lv_icmp_gt (tgt := 198) E.x E.b d_DM_placesAreThere_175 (by decide) (fun c => ?_) (fun c => ?_)
      ·
        replace h := ifT c h
        exact bt_DM_placesAreThere_198 E hret o σ h w (lv_sub hl [] rfl)
      ·
        replace h := ifF c h
        refine lv_aload_n E.x E.b d_DM_placesAreThere_178 rfl (lv_at hl 0 rfl) ?_
        refine lv_iconst (v := 4) E.x E.b d_DM_placesAreThere_179 (by decide) ?_
        refine ialC E w (k := 5) (by decide) (show inb 4 8 by decide) d_DM_placesAreThere_180 ?_
        refine wi_e (v := σ.2.2.1 5 4) rfl ?_
        refine lv_aload_n E.x E.b d_DM_placesAreThere_181 rfl (lv_at hl 0 rfl) ?_
        refine lv_iconst (v := 2) E.x E.b d_DM_placesAreThere_182 (by decide) ?_
        refine ialC E w (k := 5) (by decide) (show inb 2 8 by decide) d_DM_placesAreThere_183 ?_
        refine wi_e (v := σ.2.2.1 5 2) rfl ?_
        refine lv_aload_n E.x E.b d_DM_placesAreThere_184 rfl (lv_at hl 0 rfl) ?_
        refine lv_iconst (v := 3) E.x E.b d_DM_placesAreThere_185 (by decide) ?_
        refine ialC E w (k := 5) (by decide) (show inb 3 8 by decide) d_DM_placesAreThere_186 ?_
        refine wi_e (v := σ.2.2.1 5 3) rfl ?_
        refine lv_imul E.x E.b d_DM_placesAreThere_187 ?_
        obtain ⟨o51, h_o51, h⟩ := bd_some h
        refine clS_DM_inMemory E w (x0 := (σ.2.2.1 5 4)) (x1 := ((σ.2.2.1 5 2) * (σ.2.2.1 5 3))) h_o51 k969 (by decide) hl.1 (Nat.le_of_ble_eq_true rfl) d_DM_placesAreThere_188 (fun H locs w => ?_)
        refine lv_if_eq (tgt := 198) E.x E.b d_DM_placesAreThere_191 (by decide) (fun c => ?_) (fun c => ?_)
        ·
          replace h := ifT c h
          exact bt_DM_placesAreThere_198 E hret o σ h w (lv_sub hl [] rfl)
        ·
          replace h := ifF c h
          refine lv_iconst (v := 1) E.x E.b d_DM_placesAreThere_194 (by decide) ?_
          refine lv_goto (tgt := 199) E.x E.b d_DM_placesAreThere_195 (by decide) ?_
          exact bt_DM_placesAreThere_199 E hret o σ 1 h w (lv_sub hl [] rfl)
  replace h := ifF q50 h
  replace q50 := ne_ti (k := 20) (by decide) q50
  by_cases q52 : y34 = 21
  ·
    replace h := ifT q52 h
    refine wi_e (v := 21) q52 ?_
    refine lv_tableIn (off := 185) (tgt := 200) E.x E.b d_DM_placesAreThere_15 (by decide) (by decide) (by decide) (by decide) ?_
    refine lv_aload_n E.x E.b d_DM_placesAreThere_200 rfl (lv_at hl 0 rfl) ?_
    refine lv_iconst (v := 0) E.x E.b d_DM_placesAreThere_201 (by decide) ?_
    refine ialC E w (k := 5) (by decide) (show inb 0 8 by decide) d_DM_placesAreThere_202 ?_
    refine wi_e (v := σ.2.2.1 5 0) rfl ?_
    refine lv_aload_n E.x E.b d_DM_placesAreThere_203 rfl (lv_at hl 0 rfl) ?_
    refine lv_iconst (v := 1) E.x E.b d_DM_placesAreThere_204 (by decide) ?_
    refine ialC E w (k := 5) (by decide) (show inb 1 8 by decide) d_DM_placesAreThere_205 ?_
    refine wi_e (v := σ.2.2.1 5 1) rfl ?_
    obtain ⟨o53, h_o53, h⟩ := bd_some h
    refine clS_DM_inMemory E w (x0 := (σ.2.2.1 5 0)) (x1 := (σ.2.2.1 5 1)) h_o53 k969 (by decide) hl.1 (Nat.le_of_ble_eq_true rfl) d_DM_placesAreThere_206 (fun H locs w => ?_)
    obtain ⟨c54, h⟩ := ck_some h
    obtain rfl := Option.some.inj h
    exact rt_z E w hret c54 d_DM_placesAreThere_209
  replace h := ifF q52 h
  replace q52 := ne_ti (k := 21) (by decide) q52
  by_cases q55 : y34 = 22
  ·
    replace h := ifT q55 h
    refine wi_e (v := 22) q55 ?_
    refine lv_tableIn (off := 203) (tgt := 218) E.x E.b d_DM_placesAreThere_15 (by decide) (by decide) (by decide) (by decide) ?_
    exact bt_DM_placesAreThere_218 E hret o σ h w (lv_sub hl [] rfl)
  replace h := ifF q55 h
  replace q55 := ne_ti (k := 22) (by decide) q55
  by_cases q56 : y34 = 23
  ·
    replace h := ifT q56 h
    refine wi_e (v := 23) q56 ?_
    refine lv_tableIn (off := 195) (tgt := 210) E.x E.b d_DM_placesAreThere_15 (by decide) (by decide) (by decide) (by decide) ?_
    refine lv_aload_n E.x E.b d_DM_placesAreThere_210 rfl (lv_at hl 0 rfl) ?_
    refine lv_iconst (v := 0) E.x E.b d_DM_placesAreThere_211 (by decide) ?_
    refine ialC E w (k := 5) (by decide) (show inb 0 8 by decide) d_DM_placesAreThere_212 ?_
    refine wi_e (v := σ.2.2.1 5 0) rfl ?_
    refine lv_iconst (v := 1) E.x E.b d_DM_placesAreThere_213 (by decide) ?_
    obtain ⟨o57, h_o57, h⟩ := bd_some h
    refine clS_DM_inMemory E w (x0 := (σ.2.2.1 5 0)) (x1 := 1) h_o57 k969 (by decide) hl.1 (Nat.le_of_ble_eq_true rfl) d_DM_placesAreThere_214 (fun H locs w => ?_)
    obtain ⟨c58, h⟩ := ck_some h
    obtain rfl := Option.some.inj h
    exact rt_z E w hret c58 d_DM_placesAreThere_217
  replace h := ifF q56 h
  replace q56 := ne_ti (k := 23) (by decide) q56
  refine lv_tableOut (tgt := 218) E.x E.b d_DM_placesAreThere_15 (by omega) (by decide) ?_
  exact bt_DM_placesAreThere_218 E hret o σ h w (lv_sub hl [] rfl)
theorem clV_DM_placesAreThere {p : Program} {l : Launch} {e : Env} {R : Room} {s : State} {m : MethodId} {args : Array Value} {below : List Frame} {meth : Method} {c : Code} {H : Heap} {locs : List Loc} {Q : State → Prop} {cc : ByteArray} {nL pc lev : Nat} {own : String} {D : va_G} {τ : ClassId × ClassId × ClassId} {B : Nat} {A : Nat → Prop} {σ : Sg} {ad : Nat → Nat} {ls : Array Slot} {rest : List Value} (E : Cx p R s m args meth c cc nL own lev D τ B A) (w : Wd s D A (wdC τ σ ad) H locs) {o : Int32} (h : F_DM_placesAreThere σ = some o) {index : Nat} (hlk : Cond.methodLink own index y_DM_placesAreThere ∈ tw) (hlev : 1 < lev) (hsz : ls.size = nL) (hr : (rest.map fun v => v.category).sum ≤ 8) (hd : decode cc pc = .ok (.invokevirtual index, 3)) (kk : ∀ (H1 : Heap) (locs1 : List Loc), Wd s D A (wdC τ σ ad) H1 locs1 → W p l e R s m args below meth c H1 locs1 0 0 Q (F0 m (pc + 3) ls (.int o :: rest))) : W p l e R s m args below meth c H locs 0 0 Q (F0 m pc ls (.ref (ad 56) :: rest)) :=
  cr_i w E.C (va_runV (As := []) (rest := rest) E.fix (c_DM_placesAreThere l D τ B σ ad o h H.size) (cwV 0 E.w (tw_pre (tw_good k968) (l := [_, _, _, _]) (List.forall_mem_cons.mpr ⟨hlk, List.forall_mem_cons.mpr ⟨k967, List.forall_mem_cons.mpr ⟨ks6, List.forall_mem_cons.mpr ⟨k1, fun _ h => absurd h List.not_mem_nil⟩⟩⟩⟩)) rfl rfl rfl (by decide +kernel) (E.rm hlev (by decide))) (wd_preV w E.C [] rcC_DM rfl) rfl rfl hsz rfl (lv_room hr) hd ⟨Nat.zero_le _, Nat.zero_le _⟩) kk
