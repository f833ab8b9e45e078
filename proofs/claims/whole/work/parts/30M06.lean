theorem d_Ptm_logic_0 : decode prog_17_method_10_code 0 = .ok (.aload_n 0, 1) := by decide +kernel
theorem d_Ptm_logic_1 : decode prog_17_method_10_code 1 = .ok (.iload_n 1, 1) := by decide +kernel
theorem d_Ptm_logic_2 : decode prog_17_method_10_code 2 = .ok (.iconst (-1), 1) := by decide +kernel
theorem d_Ptm_logic_3 : decode prog_17_method_10_code 3 = .ok (.bipush 15, 2) := by decide +kernel
theorem d_Ptm_logic_5 : decode prog_17_method_10_code 5 = .ok (.invokestatic 63, 3) := by decide +kernel
theorem d_Ptm_logic_8 : decode prog_17_method_10_code 8 = .ok (.ifCond .ne 7, 3) := by decide +kernel
theorem d_Ptm_logic_11 : decode prog_17_method_10_code 11 = .ok (.iconst 1, 1) := by decide +kernel
theorem d_Ptm_logic_12 : decode prog_17_method_10_code 12 = .ok (.goto 4, 3) := by decide +kernel
theorem d_Ptm_logic_15 : decode prog_17_method_10_code 15 = .ok (.iconst 0, 1) := by decide +kernel
theorem d_Ptm_logic_16 : decode prog_17_method_10_code 16 = .ok (.iconst 0, 1) := by decide +kernel
theorem d_Ptm_logic_17 : decode prog_17_method_10_code 17 = .ok (.invokevirtual 67, 3) := by decide +kernel
theorem d_Ptm_logic_20 : decode prog_17_method_10_code 20 = .ok (.ifCond .ne 8, 3) := by decide +kernel
theorem d_Ptm_logic_23 : decode prog_17_method_10_code 23 = .ok (.aload_n 0, 1) := by decide +kernel
theorem d_Ptm_logic_24 : decode prog_17_method_10_code 24 = .ok (.iload_n 1, 1) := by decide +kernel
theorem d_Ptm_logic_25 : decode prog_17_method_10_code 25 = .ok (.putfield 45, 3) := by decide +kernel
theorem d_Ptm_logic_28 : decode prog_17_method_10_code 28 = .ok (.return_, 1) := by decide +kernel
def F_Ptm_logic_28 (σ : Sg) : Option (Sg) := some σ
set_option maxRecDepth 10000 in
set_option maxHeartbeats 4000000 in
theorem bt_Ptm_logic_28 {p : Program} {l : Launch} {e : Env} {R : Room} {s : State} {m : MethodId} {args : Array Value} {below : List Frame} {meth : Method} {c : Code} {D : va_G} {τ : ClassId × ClassId × ClassId} {B : Nat} {A : Nat → Prop} {ad : Nat → Nat} (E : Cx p R s m args meth c prog_17_method_10_code 2 "DrawingMachineModel$PlaceTestsModel" 1 D τ B A) (hret : meth.sig.returnType = none) (o : Sg) (σ : Sg) (h : F_Ptm_logic_28 σ = some o) {H : Heap} {locs : List Loc} {ls : Array Slot} (w : Wd s D A (wdM τ σ ad) H locs) (hl : lv_has ls 2 []) : W p l e R s m args below meth c H locs 0 0 (QV below args s A D τ (wdM τ o ad)) (F0 m 28 ls []) := by
  obtain rfl := Option.some.inj h
  exact rt_v E w hret d_Ptm_logic_28
def F_Ptm_logic_16 (σ : Sg) (v1 : Int32) (s1 : Int32) : Option (Sg) := bd (F_Ptm_refuse σ s1 0) (fun o4 => if o4.2 = 0 then (lt (sI o4.1 38 v1) (fun σ5 => F_Ptm_logic_28 σ5)) else (F_Ptm_logic_28 o4.1))
set_option maxRecDepth 10000 in
set_option maxHeartbeats 4000000 in
theorem bt_Ptm_logic_16 {p : Program} {l : Launch} {e : Env} {R : Room} {s : State} {m : MethodId} {args : Array Value} {below : List Frame} {meth : Method} {c : Code} {D : va_G} {τ : ClassId × ClassId × ClassId} {B : Nat} {A : Nat → Prop} {ad : Nat → Nat} (E : Cx p R s m args meth c prog_17_method_10_code 2 "DrawingMachineModel$PlaceTestsModel" 1 D τ B A) (hret : meth.sig.returnType = none) (o : Sg) (σ : Sg) (v1 : Int32) (s1 : Int32) (h : F_Ptm_logic_16 σ v1 s1 = some o) {H : Heap} {locs : List Loc} {ls : Array Slot} (w : Wd s D A (wdM τ σ ad) H locs) (hl : lv_has ls 2 [(0, .ref (ad 64)), (1, .int v1)]) : W p l e R s m args below meth c H locs 0 0 (QV below args s A D τ (wdM τ o ad)) (F0 m 16 ls [.int s1, .ref (ad 64)]) := by
  refine lv_iconst (v := 0) E.x E.b d_Ptm_logic_16 (by decide) ?_
  obtain ⟨o4, h_o4, h⟩ := bd_some h
  refine clV_Ptm_refuse E w (x0 := s1) (x1 := 0) h_o4 k1858 (by decide) hl.1 (Nat.le_of_ble_eq_true rfl) d_Ptm_logic_17 (fun H locs w => ?_)
  refine lv_if_ne (tgt := 28) E.x E.b d_Ptm_logic_20 (by decide) (fun c => ?_) (fun c => ?_)
  ·
    replace h := ifF c h
    exact bt_Ptm_logic_28 E hret o o4.1 h w (lv_sub hl [] rfl)
  ·
    replace h := ifT c h
    refine lv_aload_n E.x E.b d_Ptm_logic_23 rfl (lv_at hl 0 rfl) ?_
    refine lv_iload_n E.x E.b d_Ptm_logic_24 rfl (lv_at hl 1 rfl) ?_
    obtain ⟨σ5, e_σ5, h⟩ := lt_some h
    refine pM_Ptm_logic E w k1715 e_σ5 d_Ptm_logic_25 (fun H locs w => ?_)
    exact bt_Ptm_logic_28 E hret o σ5 h w (lv_sub hl [] rfl)
def F_Ptm_logic (σ : Sg) (x0 : Int32) : Option (Sg) := bd (F_Ptm_in x0 (-1) 15) (fun o6 => if o6 = 0 then (F_Ptm_logic_16 σ x0 1) else (F_Ptm_logic_16 σ x0 0))
set_option maxRecDepth 10000 in
set_option maxHeartbeats 4000000 in
theorem c_Ptm_logic (l : Launch) (D : va_G) (τ : ClassId × ClassId × ClassId) (B : Nat) (σ : Sg) (ad : Nat → Nat) (x0 : Int32) (o : Sg) (h : F_Ptm_logic σ x0 = some o) : MV l y_Ptm_logic (Cond.code y_Ptm_logic prog_17_method_10_code 2 none) 1 D τ B [.ref (ad 64), .int x0] (wdM τ σ ad) (wdM τ o ad) := by
  refine en_v (by decide) (Nat.le_of_ble_eq_true rfl) ?_
  intro p e R s m args below meth c H locs ls A E hret w hl
  have E : Cx p R s m args meth c prog_17_method_10_code 2 "DrawingMachineModel$PlaceTestsModel" 1 D τ B A := E
  have hl : lv_has ls 2 [(0, .ref (ad 64)), (1, .int x0)] := hl
  refine lv_aload_n E.x E.b d_Ptm_logic_0 rfl (lv_at hl 0 rfl) ?_
  refine lv_iload_n E.x E.b d_Ptm_logic_1 rfl (lv_at hl 1 rfl) ?_
  refine lv_iconst (v := (-1)) E.x E.b d_Ptm_logic_2 (by decide) ?_
  refine lv_bipush (v := 15) E.x E.b d_Ptm_logic_3 (by decide) ?_
  obtain ⟨o6, h_o6, h⟩ := bd_some h
  refine clS_Ptm_in E w (x0 := x0) (x1 := (-1)) (x2 := 15) h_o6 k1855 (by decide) hl.1 (Nat.le_of_ble_eq_true rfl) d_Ptm_logic_5 (fun H locs w => ?_)
  refine lv_if_ne (tgt := 15) E.x E.b d_Ptm_logic_8 (by decide) (fun c => ?_) (fun c => ?_)
  ·
    replace h := ifF c h
    refine lv_iconst (v := 0) E.x E.b d_Ptm_logic_15 (by decide) ?_
    exact bt_Ptm_logic_16 E hret o σ x0 0 h w (lv_sub hl [0, 1] rfl)
  ·
    replace h := ifT c h
    refine lv_iconst (v := 1) E.x E.b d_Ptm_logic_11 (by decide) ?_
    refine lv_goto (tgt := 16) E.x E.b d_Ptm_logic_12 (by decide) ?_
    exact bt_Ptm_logic_16 E hret o σ x0 1 h w (lv_sub hl [0, 1] rfl)
theorem clV_Ptm_logic {p : Program} {l : Launch} {e : Env} {R : Room} {s : State} {m : MethodId} {args : Array Value} {below : List Frame} {meth : Method} {c : Code} {H : Heap} {locs : List Loc} {Q : State → Prop} {cc : ByteArray} {nL pc lev : Nat} {own : String} {D : va_G} {τ : ClassId × ClassId × ClassId} {B : Nat} {A : Nat → Prop} {σ : Sg} {ad : Nat → Nat} {ls : Array Slot} {rest : List Value} (E : Cx p R s m args meth c cc nL own lev D τ B A) (w : Wd s D A (wdM τ σ ad) H locs) {x0 : Int32} {o : Sg} (h : F_Ptm_logic σ x0 = some o) {index : Nat} (hlk : Cond.methodLink own index y_Ptm_logic ∈ tw) (hlev : 1 < lev) (hsz : ls.size = nL) (hr : (rest.map fun v => v.category).sum ≤ 8) (hd : decode cc pc = .ok (.invokevirtual index, 3)) (kk : ∀ (H1 : Heap) (locs1 : List Loc), Wd s D A (wdM τ o ad) H1 locs1 → W p l e R s m args below meth c H1 locs1 0 0 Q (F0 m (pc + 3) ls (rest))) : W p l e R s m args below meth c H locs 0 0 Q (F0 m pc ls (.int x0 :: .ref (ad 64) :: rest)) :=
  cr_v w E.C (va_runV (As := [.int x0]) (rest := rest) E.fix (c_Ptm_logic l D τ B σ ad x0 o h H.size) (cwV 1 E.w (tw_pre (tw_good k2016) (l := [_, _, _, _]) (List.forall_mem_cons.mpr ⟨hlk, List.forall_mem_cons.mpr ⟨k2014, List.forall_mem_cons.mpr ⟨k2015, List.forall_mem_cons.mpr ⟨k20, fun _ h => absurd h List.not_mem_nil⟩⟩⟩⟩)) rfl rfl rfl (by decide +kernel) (E.rm hlev (by decide))) (wd_preV w E.C [.int x0] rcM_Ptm rfl) rfl rfl hsz rfl (lv_room hr) hd ⟨Nat.zero_le _, Nat.zero_le _⟩) kk

theorem d_Ptm_mask_0 : decode prog_17_method_11_code 0 = .ok (.aload_n 0, 1) := by decide +kernel
theorem d_Ptm_mask_1 : decode prog_17_method_11_code 1 = .ok (.iload_n 1, 1) := by decide +kernel
theorem d_Ptm_mask_2 : decode prog_17_method_11_code 2 = .ok (.iconst 0, 1) := by decide +kernel
theorem d_Ptm_mask_3 : decode prog_17_method_11_code 3 = .ok (.bipush 15, 2) := by decide +kernel
theorem d_Ptm_mask_5 : decode prog_17_method_11_code 5 = .ok (.invokestatic 63, 3) := by decide +kernel
theorem d_Ptm_mask_8 : decode prog_17_method_11_code 8 = .ok (.ifCond .ne 7, 3) := by decide +kernel
theorem d_Ptm_mask_11 : decode prog_17_method_11_code 11 = .ok (.iconst 1, 1) := by decide +kernel
theorem d_Ptm_mask_12 : decode prog_17_method_11_code 12 = .ok (.goto 4, 3) := by decide +kernel
theorem d_Ptm_mask_15 : decode prog_17_method_11_code 15 = .ok (.iconst 0, 1) := by decide +kernel
theorem d_Ptm_mask_16 : decode prog_17_method_11_code 16 = .ok (.iconst 0, 1) := by decide +kernel
theorem d_Ptm_mask_17 : decode prog_17_method_11_code 17 = .ok (.invokevirtual 67, 3) := by decide +kernel
theorem d_Ptm_mask_20 : decode prog_17_method_11_code 20 = .ok (.ifCond .ne 8, 3) := by decide +kernel
theorem d_Ptm_mask_23 : decode prog_17_method_11_code 23 = .ok (.aload_n 0, 1) := by decide +kernel
theorem d_Ptm_mask_24 : decode prog_17_method_11_code 24 = .ok (.iload_n 1, 1) := by decide +kernel
theorem d_Ptm_mask_25 : decode prog_17_method_11_code 25 = .ok (.putfield 48, 3) := by decide +kernel
theorem d_Ptm_mask_28 : decode prog_17_method_11_code 28 = .ok (.return_, 1) := by decide +kernel
def F_Ptm_mask_28 (σ : Sg) : Option (Sg) := some σ
set_option maxRecDepth 10000 in
set_option maxHeartbeats 4000000 in
theorem bt_Ptm_mask_28 {p : Program} {l : Launch} {e : Env} {R : Room} {s : State} {m : MethodId} {args : Array Value} {below : List Frame} {meth : Method} {c : Code} {D : va_G} {τ : ClassId × ClassId × ClassId} {B : Nat} {A : Nat → Prop} {ad : Nat → Nat} (E : Cx p R s m args meth c prog_17_method_11_code 2 "DrawingMachineModel$PlaceTestsModel" 1 D τ B A) (hret : meth.sig.returnType = none) (o : Sg) (σ : Sg) (h : F_Ptm_mask_28 σ = some o) {H : Heap} {locs : List Loc} {ls : Array Slot} (w : Wd s D A (wdM τ σ ad) H locs) (hl : lv_has ls 2 []) : W p l e R s m args below meth c H locs 0 0 (QV below args s A D τ (wdM τ o ad)) (F0 m 28 ls []) := by
  obtain rfl := Option.some.inj h
  exact rt_v E w hret d_Ptm_mask_28
def F_Ptm_mask_16 (σ : Sg) (v1 : Int32) (s1 : Int32) : Option (Sg) := bd (F_Ptm_refuse σ s1 0) (fun o4 => if o4.2 = 0 then (lt (sI o4.1 39 v1) (fun σ5 => F_Ptm_mask_28 σ5)) else (F_Ptm_mask_28 o4.1))
set_option maxRecDepth 10000 in
set_option maxHeartbeats 4000000 in
theorem bt_Ptm_mask_16 {p : Program} {l : Launch} {e : Env} {R : Room} {s : State} {m : MethodId} {args : Array Value} {below : List Frame} {meth : Method} {c : Code} {D : va_G} {τ : ClassId × ClassId × ClassId} {B : Nat} {A : Nat → Prop} {ad : Nat → Nat} (E : Cx p R s m args meth c prog_17_method_11_code 2 "DrawingMachineModel$PlaceTestsModel" 1 D τ B A) (hret : meth.sig.returnType = none) (o : Sg) (σ : Sg) (v1 : Int32) (s1 : Int32) (h : F_Ptm_mask_16 σ v1 s1 = some o) {H : Heap} {locs : List Loc} {ls : Array Slot} (w : Wd s D A (wdM τ σ ad) H locs) (hl : lv_has ls 2 [(0, .ref (ad 64)), (1, .int v1)]) : W p l e R s m args below meth c H locs 0 0 (QV below args s A D τ (wdM τ o ad)) (F0 m 16 ls [.int s1, .ref (ad 64)]) := by
  refine lv_iconst (v := 0) E.x E.b d_Ptm_mask_16 (by decide) ?_
  obtain ⟨o4, h_o4, h⟩ := bd_some h
  refine clV_Ptm_refuse E w (x0 := s1) (x1 := 0) h_o4 k1858 (by decide) hl.1 (Nat.le_of_ble_eq_true rfl) d_Ptm_mask_17 (fun H locs w => ?_)
  refine lv_if_ne (tgt := 28) E.x E.b d_Ptm_mask_20 (by decide) (fun c => ?_) (fun c => ?_)
  ·
    replace h := ifF c h
    exact bt_Ptm_mask_28 E hret o o4.1 h w (lv_sub hl [] rfl)
  ·
    replace h := ifT c h
    refine lv_aload_n E.x E.b d_Ptm_mask_23 rfl (lv_at hl 0 rfl) ?_
    refine lv_iload_n E.x E.b d_Ptm_mask_24 rfl (lv_at hl 1 rfl) ?_
    obtain ⟨σ5, e_σ5, h⟩ := lt_some h
    refine pM_Ptm_mask E w k1716 e_σ5 d_Ptm_mask_25 (fun H locs w => ?_)
    exact bt_Ptm_mask_28 E hret o σ5 h w (lv_sub hl [] rfl)
def F_Ptm_mask (σ : Sg) (x0 : Int32) : Option (Sg) := bd (F_Ptm_in x0 0 15) (fun o6 => if o6 = 0 then (F_Ptm_mask_16 σ x0 1) else (F_Ptm_mask_16 σ x0 0))
set_option maxRecDepth 10000 in
set_option maxHeartbeats 4000000 in
theorem c_Ptm_mask (l : Launch) (D : va_G) (τ : ClassId × ClassId × ClassId) (B : Nat) (σ : Sg) (ad : Nat → Nat) (x0 : Int32) (o : Sg) (h : F_Ptm_mask σ x0 = some o) : MV l y_Ptm_mask (Cond.code y_Ptm_mask prog_17_method_11_code 2 none) 1 D τ B [.ref (ad 64), .int x0] (wdM τ σ ad) (wdM τ o ad) := by
  refine en_v (by decide) (Nat.le_of_ble_eq_true rfl) ?_
  intro p e R s m args below meth c H locs ls A E hret w hl
  have E : Cx p R s m args meth c prog_17_method_11_code 2 "DrawingMachineModel$PlaceTestsModel" 1 D τ B A := E
  have hl : lv_has ls 2 [(0, .ref (ad 64)), (1, .int x0)] := hl
  refine lv_aload_n E.x E.b d_Ptm_mask_0 rfl (lv_at hl 0 rfl) ?_
  refine lv_iload_n E.x E.b d_Ptm_mask_1 rfl (lv_at hl 1 rfl) ?_
  refine lv_iconst (v := 0) E.x E.b d_Ptm_mask_2 (by decide) ?_
  refine lv_bipush (v := 15) E.x E.b d_Ptm_mask_3 (by decide) ?_
  obtain ⟨o6, h_o6, h⟩ := bd_some h
  refine clS_Ptm_in E w (x0 := x0) (x1 := 0) (x2 := 15) h_o6 k1855 (by decide) hl.1 (Nat.le_of_ble_eq_true rfl) d_Ptm_mask_5 (fun H locs w => ?_)
  refine lv_if_ne (tgt := 15) E.x E.b d_Ptm_mask_8 (by decide) (fun c => ?_) (fun c => ?_)
  ·
    replace h := ifF c h
    refine lv_iconst (v := 0) E.x E.b d_Ptm_mask_15 (by decide) ?_
    exact bt_Ptm_mask_16 E hret o σ x0 0 h w (lv_sub hl [0, 1] rfl)
  ·
    replace h := ifT c h
    refine lv_iconst (v := 1) E.x E.b d_Ptm_mask_11 (by decide) ?_
    refine lv_goto (tgt := 16) E.x E.b d_Ptm_mask_12 (by decide) ?_
    exact bt_Ptm_mask_16 E hret o σ x0 1 h w (lv_sub hl [0, 1] rfl)
theorem clV_Ptm_mask {p : Program} {l : Launch} {e : Env} {R : Room} {s : State} {m : MethodId} {args : Array Value} {below : List Frame} {meth : Method} {c : Code} {H : Heap} {locs : List Loc} {Q : State → Prop} {cc : ByteArray} {nL pc lev : Nat} {own : String} {D : va_G} {τ : ClassId × ClassId × ClassId} {B : Nat} {A : Nat → Prop} {σ : Sg} {ad : Nat → Nat} {ls : Array Slot} {rest : List Value} (E : Cx p R s m args meth c cc nL own lev D τ B A) (w : Wd s D A (wdM τ σ ad) H locs) {x0 : Int32} {o : Sg} (h : F_Ptm_mask σ x0 = some o) {index : Nat} (hlk : Cond.methodLink own index y_Ptm_mask ∈ tw) (hlev : 1 < lev) (hsz : ls.size = nL) (hr : (rest.map fun v => v.category).sum ≤ 8) (hd : decode cc pc = .ok (.invokevirtual index, 3)) (kk : ∀ (H1 : Heap) (locs1 : List Loc), Wd s D A (wdM τ o ad) H1 locs1 → W p l e R s m args below meth c H1 locs1 0 0 Q (F0 m (pc + 3) ls (rest))) : W p l e R s m args below meth c H locs 0 0 Q (F0 m pc ls (.int x0 :: .ref (ad 64) :: rest)) :=
  cr_v w E.C (va_runV (As := [.int x0]) (rest := rest) E.fix (c_Ptm_mask l D τ B σ ad x0 o h H.size) (cwV 1 E.w (tw_pre (tw_good k2020) (l := [_, _, _, _]) (List.forall_mem_cons.mpr ⟨hlk, List.forall_mem_cons.mpr ⟨k2018, List.forall_mem_cons.mpr ⟨k2019, List.forall_mem_cons.mpr ⟨k20, fun _ h => absurd h List.not_mem_nil⟩⟩⟩⟩)) rfl rfl rfl (by decide +kernel) (E.rm hlev (by decide))) (wd_preV w E.C [.int x0] rcM_Ptm rfl) rfl rfl hsz rfl (lv_room hr) hd ⟨Nat.zero_le _, Nat.zero_le _⟩) kk

theorem d_Ptm_scissors_0 : decode prog_17_method_5_code 0 = .ok (.aload_n 0, 1) := by decide +kernel
theorem d_Ptm_scissors_1 : decode prog_17_method_5_code 1 = .ok (.iconst 0, 1) := by decide +kernel
theorem d_Ptm_scissors_2 : decode prog_17_method_5_code 2 = .ok (.putfield 60, 3) := by decide +kernel
theorem d_Ptm_scissors_5 : decode prog_17_method_5_code 5 = .ok (.aload_n 0, 1) := by decide +kernel
theorem d_Ptm_scissors_6 : decode prog_17_method_5_code 6 = .ok (.iload_n 3, 1) := by decide +kernel
theorem d_Ptm_scissors_7 : decode prog_17_method_5_code 7 = .ok (.iload_n 1, 1) := by decide +kernel
theorem d_Ptm_scissors_8 : decode prog_17_method_5_code 8 = .ok (.if_icmp .lt 7, 3) := by decide +kernel
theorem d_Ptm_scissors_11 : decode prog_17_method_5_code 11 = .ok (.iconst 1, 1) := by decide +kernel
theorem d_Ptm_scissors_12 : decode prog_17_method_5_code 12 = .ok (.goto 4, 3) := by decide +kernel
theorem d_Ptm_scissors_15 : decode prog_17_method_5_code 15 = .ok (.iconst 0, 1) := by decide +kernel
theorem d_Ptm_scissors_16 : decode prog_17_method_5_code 16 = .ok (.putfield 77, 3) := by decide +kernel
theorem d_Ptm_scissors_19 : decode prog_17_method_5_code 19 = .ok (.aload_n 0, 1) := by decide +kernel
theorem d_Ptm_scissors_20 : decode prog_17_method_5_code 20 = .ok (.getfield 27, 3) := by decide +kernel
theorem d_Ptm_scissors_23 : decode prog_17_method_5_code 23 = .ok (.iconst 0, 1) := by decide +kernel
theorem d_Ptm_scissors_24 : decode prog_17_method_5_code 24 = .ok (.iload_n 1, 1) := by decide +kernel
theorem d_Ptm_scissors_25 : decode prog_17_method_5_code 25 = .ok (.iastore, 1) := by decide +kernel
theorem d_Ptm_scissors_26 : decode prog_17_method_5_code 26 = .ok (.aload_n 0, 1) := by decide +kernel
theorem d_Ptm_scissors_27 : decode prog_17_method_5_code 27 = .ok (.getfield 27, 3) := by decide +kernel
theorem d_Ptm_scissors_30 : decode prog_17_method_5_code 30 = .ok (.iconst 1, 1) := by decide +kernel
theorem d_Ptm_scissors_31 : decode prog_17_method_5_code 31 = .ok (.iload_n 2, 1) := by decide +kernel
theorem d_Ptm_scissors_32 : decode prog_17_method_5_code 32 = .ok (.iastore, 1) := by decide +kernel
theorem d_Ptm_scissors_33 : decode prog_17_method_5_code 33 = .ok (.aload_n 0, 1) := by decide +kernel
theorem d_Ptm_scissors_34 : decode prog_17_method_5_code 34 = .ok (.getfield 27, 3) := by decide +kernel
theorem d_Ptm_scissors_37 : decode prog_17_method_5_code 37 = .ok (.iconst 2, 1) := by decide +kernel
theorem d_Ptm_scissors_38 : decode prog_17_method_5_code 38 = .ok (.iload_n 3, 1) := by decide +kernel
theorem d_Ptm_scissors_39 : decode prog_17_method_5_code 39 = .ok (.iastore, 1) := by decide +kernel
theorem d_Ptm_scissors_40 : decode prog_17_method_5_code 40 = .ok (.aload_n 0, 1) := by decide +kernel
theorem d_Ptm_scissors_41 : decode prog_17_method_5_code 41 = .ok (.getfield 27, 3) := by decide +kernel
theorem d_Ptm_scissors_44 : decode prog_17_method_5_code 44 = .ok (.iconst 3, 1) := by decide +kernel
theorem d_Ptm_scissors_45 : decode prog_17_method_5_code 45 = .ok (.iload 4, 2) := by decide +kernel
theorem d_Ptm_scissors_47 : decode prog_17_method_5_code 47 = .ok (.iastore, 1) := by decide +kernel
theorem d_Ptm_scissors_48 : decode prog_17_method_5_code 48 = .ok (.return_, 1) := by decide +kernel
def F_Ptm_scissors_16 (σ : Sg) (v1 : Int32) (v2 : Int32) (v3 : Int32) (v4 : Int32) (s1 : Int32) : Option (Sg) := ck (s1 = 0 ∨ s1 = 1) (lt (sI σ 33 s1) (fun σ9 => lt (sA σ9 48 (upd (σ9.2.2.1 48) 0 v1)) (fun σ10 => lt (sA σ10 48 (upd (σ10.2.2.1 48) 1 v2)) (fun σ11 => lt (sA σ11 48 (upd (σ11.2.2.1 48) 2 v3)) (fun σ12 => lt (sA σ12 48 (upd (σ12.2.2.1 48) 3 v4)) (fun σ13 => some σ13))))))
set_option maxRecDepth 10000 in
set_option maxHeartbeats 4000000 in
theorem bt_Ptm_scissors_16 {p : Program} {l : Launch} {e : Env} {R : Room} {s : State} {m : MethodId} {args : Array Value} {below : List Frame} {meth : Method} {c : Code} {D : va_G} {τ : ClassId × ClassId × ClassId} {B : Nat} {A : Nat → Prop} {ad : Nat → Nat} (E : Cx p R s m args meth c prog_17_method_5_code 5 "DrawingMachineModel$PlaceTestsModel" 0 D τ B A) (hret : meth.sig.returnType = none) (o : Sg) (σ : Sg) (v1 : Int32) (v2 : Int32) (v3 : Int32) (v4 : Int32) (s1 : Int32) (h : F_Ptm_scissors_16 σ v1 v2 v3 v4 s1 = some o) {H : Heap} {locs : List Loc} {ls : Array Slot} (w : Wd s D A (wdM τ σ ad) H locs) (hl : lv_has ls 5 [(0, .ref (ad 64)), (1, .int v1), (2, .int v2), (3, .int v3), (4, .int v4)]) : W p l e R s m args below meth c H locs 0 0 (QV below args s A D τ (wdM τ o ad)) (F0 m 16 ls [.int s1, .ref (ad 64)]) := by
  obtain ⟨c8, h⟩ := ck_some h
  obtain ⟨σ9, e_σ9, h⟩ := lt_some h
  refine pM_Ptm_scissored E w k1706 c8 e_σ9 d_Ptm_scissors_16 (fun H locs w => ?_)
  refine lv_aload_n E.x E.b d_Ptm_scissors_19 rfl (lv_at hl 0 rfl) ?_
  refine gM_Ptm_scissor E w k1707 d_Ptm_scissors_20 ?_
  refine lv_iconst (v := 0) E.x E.b d_Ptm_scissors_23 (by decide) ?_
  refine lv_iload_n E.x E.b d_Ptm_scissors_24 rfl (lv_at hl 1 rfl) ?_
  obtain ⟨σ10, e_σ10, h⟩ := lt_some h
  refine iasM E w (k := 48) (by decide) (show inb 0 4 by decide) e_σ10 d_Ptm_scissors_25 (fun H locs w => ?_)
  refine lv_aload_n E.x E.b d_Ptm_scissors_26 rfl (lv_at hl 0 rfl) ?_
  refine gM_Ptm_scissor E w k1707 d_Ptm_scissors_27 ?_
  refine lv_iconst (v := 1) E.x E.b d_Ptm_scissors_30 (by decide) ?_
  refine lv_iload_n E.x E.b d_Ptm_scissors_31 rfl (lv_at hl 2 rfl) ?_
  obtain ⟨σ11, e_σ11, h⟩ := lt_some h
  refine iasM E w (k := 48) (by decide) (show inb 1 4 by decide) e_σ11 d_Ptm_scissors_32 (fun H locs w => ?_)
  refine lv_aload_n E.x E.b d_Ptm_scissors_33 rfl (lv_at hl 0 rfl) ?_
  refine gM_Ptm_scissor E w k1707 d_Ptm_scissors_34 ?_
  refine lv_iconst (v := 2) E.x E.b d_Ptm_scissors_37 (by decide) ?_
  refine lv_iload_n E.x E.b d_Ptm_scissors_38 rfl (lv_at hl 3 rfl) ?_
  obtain ⟨σ12, e_σ12, h⟩ := lt_some h
  refine iasM E w (k := 48) (by decide) (show inb 2 4 by decide) e_σ12 d_Ptm_scissors_39 (fun H locs w => ?_)
  refine lv_aload_n E.x E.b d_Ptm_scissors_40 rfl (lv_at hl 0 rfl) ?_
  refine gM_Ptm_scissor E w k1707 d_Ptm_scissors_41 ?_
  refine lv_iconst (v := 3) E.x E.b d_Ptm_scissors_44 (by decide) ?_
  refine lv_iload E.x E.b d_Ptm_scissors_45 (lv_at hl 4 rfl) ?_
  obtain ⟨σ13, e_σ13, h⟩ := lt_some h
  refine iasM E w (k := 48) (by decide) (show inb 3 4 by decide) e_σ13 d_Ptm_scissors_47 (fun H locs w => ?_)
  obtain rfl := Option.some.inj h
  exact rt_v E w hret d_Ptm_scissors_48
def F_Ptm_scissors (σ : Sg) (x0 : Int32) (x1 : Int32) (x2 : Int32) (x3 : Int32) : Option (Sg) := lt (sI σ 28 0) (fun σ14 => if x2 < x0 then (F_Ptm_scissors_16 σ14 x0 x1 x2 x3 0) else (F_Ptm_scissors_16 σ14 x0 x1 x2 x3 1))
set_option maxRecDepth 10000 in
set_option maxHeartbeats 4000000 in
theorem c_Ptm_scissors (l : Launch) (D : va_G) (τ : ClassId × ClassId × ClassId) (B : Nat) (σ : Sg) (ad : Nat → Nat) (x0 : Int32) (x1 : Int32) (x2 : Int32) (x3 : Int32) (o : Sg) (h : F_Ptm_scissors σ x0 x1 x2 x3 = some o) : MV l y_Ptm_scissors (Cond.code y_Ptm_scissors prog_17_method_5_code 5 none) 0 D τ B [.ref (ad 64), .int x0, .int x1, .int x2, .int x3] (wdM τ σ ad) (wdM τ o ad) := by
  refine en_v (by decide) (Nat.le_of_ble_eq_true rfl) ?_
  intro p e R s m args below meth c H locs ls A E hret w hl
  have E : Cx p R s m args meth c prog_17_method_5_code 5 "DrawingMachineModel$PlaceTestsModel" 0 D τ B A := E
  have hl : lv_has ls 5 [(0, .ref (ad 64)), (1, .int x0), (2, .int x1), (3, .int x2), (4, .int x3)] := hl
  refine lv_aload_n E.x E.b d_Ptm_scissors_0 rfl (lv_at hl 0 rfl) ?_
  refine lv_iconst (v := 0) E.x E.b d_Ptm_scissors_1 (by decide) ?_
  obtain ⟨σ14, e_σ14, h⟩ := lt_some h
  refine pM_Ptm_thrown E w k1698 e_σ14 d_Ptm_scissors_2 (fun H locs w => ?_)
  refine lv_aload_n E.x E.b d_Ptm_scissors_5 rfl (lv_at hl 0 rfl) ?_
  refine lv_iload_n E.x E.b d_Ptm_scissors_6 rfl (lv_at hl 3 rfl) ?_
  refine lv_iload_n E.x E.b d_Ptm_scissors_7 rfl (lv_at hl 1 rfl) ?_
  refine lv_icmp_lt (tgt := 15) E.x E.b d_Ptm_scissors_8 (by decide) (fun c => ?_) (fun c => ?_)
  ·
    replace h := ifT c h
    refine lv_iconst (v := 0) E.x E.b d_Ptm_scissors_15 (by decide) ?_
    exact bt_Ptm_scissors_16 E hret o σ14 x0 x1 x2 x3 0 h w (lv_sub hl [0, 1, 2, 3, 4] rfl)
  ·
    replace h := ifF c h
    refine lv_iconst (v := 1) E.x E.b d_Ptm_scissors_11 (by decide) ?_
    refine lv_goto (tgt := 16) E.x E.b d_Ptm_scissors_12 (by decide) ?_
    exact bt_Ptm_scissors_16 E hret o σ14 x0 x1 x2 x3 1 h w (lv_sub hl [0, 1, 2, 3, 4] rfl)
theorem clV_Ptm_scissors {p : Program} {l : Launch} {e : Env} {R : Room} {s : State} {m : MethodId} {args : Array Value} {below : List Frame} {meth : Method} {c : Code} {H : Heap} {locs : List Loc} {Q : State → Prop} {cc : ByteArray} {nL pc lev : Nat} {own : String} {D : va_G} {τ : ClassId × ClassId × ClassId} {B : Nat} {A : Nat → Prop} {σ : Sg} {ad : Nat → Nat} {ls : Array Slot} {rest : List Value} (E : Cx p R s m args meth c cc nL own lev D τ B A) (w : Wd s D A (wdM τ σ ad) H locs) {x0 : Int32} {x1 : Int32} {x2 : Int32} {x3 : Int32} {o : Sg} (h : F_Ptm_scissors σ x0 x1 x2 x3 = some o) {index : Nat} (hlk : Cond.methodLink own index y_Ptm_scissors ∈ tw) (hlev : 0 < lev) (hsz : ls.size = nL) (hr : (rest.map fun v => v.category).sum ≤ 8) (hd : decode cc pc = .ok (.invokevirtual index, 3)) (kk : ∀ (H1 : Heap) (locs1 : List Loc), Wd s D A (wdM τ o ad) H1 locs1 → W p l e R s m args below meth c H1 locs1 0 0 Q (F0 m (pc + 3) ls (rest))) : W p l e R s m args below meth c H locs 0 0 Q (F0 m pc ls (.int x3 :: .int x2 :: .int x1 :: .int x0 :: .ref (ad 64) :: rest)) :=
  cr_v w E.C (va_runV (As := [.int x0, .int x1, .int x2, .int x3]) (rest := rest) E.fix (c_Ptm_scissors l D τ B σ ad x0 x1 x2 x3 o h H.size) (cwV 4 E.w (tw_pre (tw_good k1996) (l := [_, _, _, _]) (List.forall_mem_cons.mpr ⟨hlk, List.forall_mem_cons.mpr ⟨k1994, List.forall_mem_cons.mpr ⟨k1995, List.forall_mem_cons.mpr ⟨k20, fun _ h => absurd h List.not_mem_nil⟩⟩⟩⟩)) rfl rfl rfl (by decide +kernel) (E.rm hlev (by decide))) (wd_preV w E.C [.int x0, .int x1, .int x2, .int x3] rcM_Ptm rfl) rfl rfl hsz rfl (lv_room hr) hd ⟨Nat.zero_le _, Nat.zero_le _⟩) kk

theorem d_Ptm_stencil_0 : decode prog_17_method_7_code 0 = .ok (.iload_n 1, 1) := by decide +kernel
theorem d_Ptm_stencil_1 : decode prog_17_method_7_code 1 = .ok (.iconst 0, 1) := by decide +kernel
theorem d_Ptm_stencil_2 : decode prog_17_method_7_code 2 = .ok (.iconst 1, 1) := by decide +kernel
theorem d_Ptm_stencil_3 : decode prog_17_method_7_code 3 = .ok (.invokestatic 63, 3) := by decide +kernel
theorem d_Ptm_stencil_6 : decode prog_17_method_7_code 6 = .ok (.ifCond .eq 90, 3) := by decide +kernel
theorem d_Ptm_stencil_9 : decode prog_17_method_7_code 9 = .ok (.iload_n 2, 1) := by decide +kernel
theorem d_Ptm_stencil_10 : decode prog_17_method_7_code 10 = .ok (.iconst (-1), 1) := by decide +kernel
theorem d_Ptm_stencil_11 : decode prog_17_method_7_code 11 = .ok (.if_icmp .eq 81, 3) := by decide +kernel
theorem d_Ptm_stencil_14 : decode prog_17_method_7_code 14 = .ok (.iload_n 2, 1) := by decide +kernel
theorem d_Ptm_stencil_15 : decode prog_17_method_7_code 15 = .ok (.iconst 0, 1) := by decide +kernel
theorem d_Ptm_stencil_16 : decode prog_17_method_7_code 16 = .ok (.bipush 7, 2) := by decide +kernel
theorem d_Ptm_stencil_18 : decode prog_17_method_7_code 18 = .ok (.invokestatic 63, 3) := by decide +kernel
theorem d_Ptm_stencil_21 : decode prog_17_method_7_code 21 = .ok (.ifCond .eq 75, 3) := by decide +kernel
theorem d_Ptm_stencil_24 : decode prog_17_method_7_code 24 = .ok (.iload_n 3, 1) := by decide +kernel
theorem d_Ptm_stencil_25 : decode prog_17_method_7_code 25 = .ok (.iconst 0, 1) := by decide +kernel
theorem d_Ptm_stencil_26 : decode prog_17_method_7_code 26 = .ok (.sipush 255, 3) := by decide +kernel
theorem d_Ptm_stencil_29 : decode prog_17_method_7_code 29 = .ok (.invokestatic 63, 3) := by decide +kernel
theorem d_Ptm_stencil_32 : decode prog_17_method_7_code 32 = .ok (.ifCond .eq 64, 3) := by decide +kernel
theorem d_Ptm_stencil_35 : decode prog_17_method_7_code 35 = .ok (.iload 4, 2) := by decide +kernel
theorem d_Ptm_stencil_37 : decode prog_17_method_7_code 37 = .ok (.iconst 0, 1) := by decide +kernel
theorem d_Ptm_stencil_38 : decode prog_17_method_7_code 38 = .ok (.sipush 255, 3) := by decide +kernel
theorem d_Ptm_stencil_41 : decode prog_17_method_7_code 41 = .ok (.invokestatic 63, 3) := by decide +kernel
theorem d_Ptm_stencil_44 : decode prog_17_method_7_code 44 = .ok (.ifCond .eq 52, 3) := by decide +kernel
theorem d_Ptm_stencil_47 : decode prog_17_method_7_code 47 = .ok (.iload 5, 2) := by decide +kernel
theorem d_Ptm_stencil_49 : decode prog_17_method_7_code 49 = .ok (.iconst 0, 1) := by decide +kernel
theorem d_Ptm_stencil_50 : decode prog_17_method_7_code 50 = .ok (.sipush 255, 3) := by decide +kernel
theorem d_Ptm_stencil_53 : decode prog_17_method_7_code 53 = .ok (.invokestatic 63, 3) := by decide +kernel
theorem d_Ptm_stencil_56 : decode prog_17_method_7_code 56 = .ok (.ifCond .eq 40, 3) := by decide +kernel
theorem d_Ptm_stencil_59 : decode prog_17_method_7_code 59 = .ok (.iload 6, 2) := by decide +kernel
theorem d_Ptm_stencil_61 : decode prog_17_method_7_code 61 = .ok (.iconst 0, 1) := by decide +kernel
theorem d_Ptm_stencil_62 : decode prog_17_method_7_code 62 = .ok (.bipush 7, 2) := by decide +kernel
theorem d_Ptm_stencil_64 : decode prog_17_method_7_code 64 = .ok (.invokestatic 63, 3) := by decide +kernel
theorem d_Ptm_stencil_67 : decode prog_17_method_7_code 67 = .ok (.ifCond .eq 29, 3) := by decide +kernel
theorem d_Ptm_stencil_70 : decode prog_17_method_7_code 70 = .ok (.iload 7, 2) := by decide +kernel
theorem d_Ptm_stencil_72 : decode prog_17_method_7_code 72 = .ok (.iconst 0, 1) := by decide +kernel
theorem d_Ptm_stencil_73 : decode prog_17_method_7_code 73 = .ok (.bipush 7, 2) := by decide +kernel
theorem d_Ptm_stencil_75 : decode prog_17_method_7_code 75 = .ok (.invokestatic 63, 3) := by decide +kernel
theorem d_Ptm_stencil_78 : decode prog_17_method_7_code 78 = .ok (.ifCond .eq 18, 3) := by decide +kernel
theorem d_Ptm_stencil_81 : decode prog_17_method_7_code 81 = .ok (.iload 8, 2) := by decide +kernel
theorem d_Ptm_stencil_83 : decode prog_17_method_7_code 83 = .ok (.iconst 0, 1) := by decide +kernel
theorem d_Ptm_stencil_84 : decode prog_17_method_7_code 84 = .ok (.bipush 7, 2) := by decide +kernel
theorem d_Ptm_stencil_86 : decode prog_17_method_7_code 86 = .ok (.invokestatic 63, 3) := by decide +kernel
theorem d_Ptm_stencil_89 : decode prog_17_method_7_code 89 = .ok (.ifCond .eq 7, 3) := by decide +kernel
theorem d_Ptm_stencil_92 : decode prog_17_method_7_code 92 = .ok (.iconst 1, 1) := by decide +kernel
theorem d_Ptm_stencil_93 : decode prog_17_method_7_code 93 = .ok (.goto 4, 3) := by decide +kernel
theorem d_Ptm_stencil_96 : decode prog_17_method_7_code 96 = .ok (.iconst 0, 1) := by decide +kernel
theorem d_Ptm_stencil_97 : decode prog_17_method_7_code 97 = .ok (.istore 9, 2) := by decide +kernel
theorem d_Ptm_stencil_99 : decode prog_17_method_7_code 99 = .ok (.aload_n 0, 1) := by decide +kernel
theorem d_Ptm_stencil_100 : decode prog_17_method_7_code 100 = .ok (.iload 9, 2) := by decide +kernel
theorem d_Ptm_stencil_102 : decode prog_17_method_7_code 102 = .ok (.ifCond .ne 7, 3) := by decide +kernel
theorem d_Ptm_stencil_105 : decode prog_17_method_7_code 105 = .ok (.iconst 1, 1) := by decide +kernel
theorem d_Ptm_stencil_106 : decode prog_17_method_7_code 106 = .ok (.goto 4, 3) := by decide +kernel
theorem d_Ptm_stencil_109 : decode prog_17_method_7_code 109 = .ok (.iconst 0, 1) := by decide +kernel
theorem d_Ptm_stencil_110 : decode prog_17_method_7_code 110 = .ok (.iconst 0, 1) := by decide +kernel
theorem d_Ptm_stencil_111 : decode prog_17_method_7_code 111 = .ok (.invokevirtual 67, 3) := by decide +kernel
theorem d_Ptm_stencil_114 : decode prog_17_method_7_code 114 = .ok (.ifCond .eq 4, 3) := by decide +kernel
theorem d_Ptm_stencil_117 : decode prog_17_method_7_code 117 = .ok (.return_, 1) := by decide +kernel
theorem d_Ptm_stencil_118 : decode prog_17_method_7_code 118 = .ok (.bipush 7, 2) := by decide +kernel
theorem d_Ptm_stencil_120 : decode prog_17_method_7_code 120 = .ok (.iload_n 1, 1) := by decide +kernel
theorem d_Ptm_stencil_121 : decode prog_17_method_7_code 121 = .ok (.imul, 1) := by decide +kernel
theorem d_Ptm_stencil_122 : decode prog_17_method_7_code 122 = .ok (.istore 10, 2) := by decide +kernel
theorem d_Ptm_stencil_124 : decode prog_17_method_7_code 124 = .ok (.aload_n 0, 1) := by decide +kernel
theorem d_Ptm_stencil_125 : decode prog_17_method_7_code 125 = .ok (.getfield 33, 3) := by decide +kernel
theorem d_Ptm_stencil_128 : decode prog_17_method_7_code 128 = .ok (.iload 10, 2) := by decide +kernel
theorem d_Ptm_stencil_130 : decode prog_17_method_7_code 130 = .ok (.iload_n 2, 1) := by decide +kernel
theorem d_Ptm_stencil_131 : decode prog_17_method_7_code 131 = .ok (.iastore, 1) := by decide +kernel
theorem d_Ptm_stencil_132 : decode prog_17_method_7_code 132 = .ok (.aload_n 0, 1) := by decide +kernel
theorem d_Ptm_stencil_133 : decode prog_17_method_7_code 133 = .ok (.getfield 33, 3) := by decide +kernel
theorem d_Ptm_stencil_136 : decode prog_17_method_7_code 136 = .ok (.iload 10, 2) := by decide +kernel
theorem d_Ptm_stencil_138 : decode prog_17_method_7_code 138 = .ok (.iconst 1, 1) := by decide +kernel
theorem d_Ptm_stencil_139 : decode prog_17_method_7_code 139 = .ok (.iadd, 1) := by decide +kernel
theorem d_Ptm_stencil_140 : decode prog_17_method_7_code 140 = .ok (.iload_n 3, 1) := by decide +kernel
theorem d_Ptm_stencil_141 : decode prog_17_method_7_code 141 = .ok (.iastore, 1) := by decide +kernel
theorem d_Ptm_stencil_142 : decode prog_17_method_7_code 142 = .ok (.aload_n 0, 1) := by decide +kernel
theorem d_Ptm_stencil_143 : decode prog_17_method_7_code 143 = .ok (.getfield 33, 3) := by decide +kernel
theorem d_Ptm_stencil_146 : decode prog_17_method_7_code 146 = .ok (.iload 10, 2) := by decide +kernel
theorem d_Ptm_stencil_148 : decode prog_17_method_7_code 148 = .ok (.iconst 2, 1) := by decide +kernel
theorem d_Ptm_stencil_149 : decode prog_17_method_7_code 149 = .ok (.iadd, 1) := by decide +kernel
theorem d_Ptm_stencil_150 : decode prog_17_method_7_code 150 = .ok (.iload 4, 2) := by decide +kernel
theorem d_Ptm_stencil_152 : decode prog_17_method_7_code 152 = .ok (.iastore, 1) := by decide +kernel
theorem d_Ptm_stencil_153 : decode prog_17_method_7_code 153 = .ok (.aload_n 0, 1) := by decide +kernel
theorem d_Ptm_stencil_154 : decode prog_17_method_7_code 154 = .ok (.getfield 33, 3) := by decide +kernel
theorem d_Ptm_stencil_157 : decode prog_17_method_7_code 157 = .ok (.iload 10, 2) := by decide +kernel
theorem d_Ptm_stencil_159 : decode prog_17_method_7_code 159 = .ok (.iconst 3, 1) := by decide +kernel
theorem d_Ptm_stencil_160 : decode prog_17_method_7_code 160 = .ok (.iadd, 1) := by decide +kernel
theorem d_Ptm_stencil_161 : decode prog_17_method_7_code 161 = .ok (.iload 5, 2) := by decide +kernel
theorem d_Ptm_stencil_163 : decode prog_17_method_7_code 163 = .ok (.iastore, 1) := by decide +kernel
theorem d_Ptm_stencil_164 : decode prog_17_method_7_code 164 = .ok (.aload_n 0, 1) := by decide +kernel
theorem d_Ptm_stencil_165 : decode prog_17_method_7_code 165 = .ok (.getfield 33, 3) := by decide +kernel
theorem d_Ptm_stencil_168 : decode prog_17_method_7_code 168 = .ok (.iload 10, 2) := by decide +kernel
theorem d_Ptm_stencil_170 : decode prog_17_method_7_code 170 = .ok (.iconst 4, 1) := by decide +kernel
theorem d_Ptm_stencil_171 : decode prog_17_method_7_code 171 = .ok (.iadd, 1) := by decide +kernel
theorem d_Ptm_stencil_172 : decode prog_17_method_7_code 172 = .ok (.iload 6, 2) := by decide +kernel
theorem d_Ptm_stencil_174 : decode prog_17_method_7_code 174 = .ok (.iastore, 1) := by decide +kernel
theorem d_Ptm_stencil_175 : decode prog_17_method_7_code 175 = .ok (.aload_n 0, 1) := by decide +kernel
theorem d_Ptm_stencil_176 : decode prog_17_method_7_code 176 = .ok (.getfield 33, 3) := by decide +kernel
theorem d_Ptm_stencil_179 : decode prog_17_method_7_code 179 = .ok (.iload 10, 2) := by decide +kernel
theorem d_Ptm_stencil_181 : decode prog_17_method_7_code 181 = .ok (.iconst 5, 1) := by decide +kernel
theorem d_Ptm_stencil_182 : decode prog_17_method_7_code 182 = .ok (.iadd, 1) := by decide +kernel
theorem d_Ptm_stencil_183 : decode prog_17_method_7_code 183 = .ok (.iload 7, 2) := by decide +kernel
theorem d_Ptm_stencil_185 : decode prog_17_method_7_code 185 = .ok (.iastore, 1) := by decide +kernel
theorem d_Ptm_stencil_186 : decode prog_17_method_7_code 186 = .ok (.aload_n 0, 1) := by decide +kernel
theorem d_Ptm_stencil_187 : decode prog_17_method_7_code 187 = .ok (.getfield 33, 3) := by decide +kernel
theorem d_Ptm_stencil_190 : decode prog_17_method_7_code 190 = .ok (.iload 10, 2) := by decide +kernel
theorem d_Ptm_stencil_192 : decode prog_17_method_7_code 192 = .ok (.bipush 6, 2) := by decide +kernel
theorem d_Ptm_stencil_194 : decode prog_17_method_7_code 194 = .ok (.iadd, 1) := by decide +kernel
theorem d_Ptm_stencil_195 : decode prog_17_method_7_code 195 = .ok (.iload 8, 2) := by decide +kernel
theorem d_Ptm_stencil_197 : decode prog_17_method_7_code 197 = .ok (.iastore, 1) := by decide +kernel
theorem d_Ptm_stencil_198 : decode prog_17_method_7_code 198 = .ok (.return_, 1) := by decide +kernel
def F_Ptm_stencil_110 (σ : Sg) (v1 : Int32) (v2 : Int32) (v3 : Int32) (v4 : Int32) (v5 : Int32) (v6 : Int32) (v7 : Int32) (v8 : Int32) (s1 : Int32) : Option (Sg) := bd (F_Ptm_refuse σ s1 0) (fun o25 => if o25.2 = 0 then (lt (7 * v1) (fun y26 => ck (inb y26 14) (lt (sA o25.1 49 (upd (o25.1.2.2.1 49) y26.toNatClampNeg v2)) (fun σ28 => ck (inb (y26 + 1) 14) (lt (sA σ28 49 (upd (σ28.2.2.1 49) (y26 + 1).toNatClampNeg v3)) (fun σ30 => ck (inb (y26 + 2) 14) (lt (sA σ30 49 (upd (σ30.2.2.1 49) (y26 + 2).toNatClampNeg v4)) (fun σ32 => ck (inb (y26 + 3) 14) (lt (sA σ32 49 (upd (σ32.2.2.1 49) (y26 + 3).toNatClampNeg v5)) (fun σ34 => ck (inb (y26 + 4) 14) (lt (sA σ34 49 (upd (σ34.2.2.1 49) (y26 + 4).toNatClampNeg v6)) (fun σ36 => ck (inb (y26 + 5) 14) (lt (sA σ36 49 (upd (σ36.2.2.1 49) (y26 + 5).toNatClampNeg v7)) (fun σ38 => ck (inb (y26 + 6) 14) (lt (sA σ38 49 (upd (σ38.2.2.1 49) (y26 + 6).toNatClampNeg v8)) (fun σ40 => some σ40)))))))))))))))) else (some o25.1))
set_option maxRecDepth 10000 in
set_option maxHeartbeats 4000000 in
theorem bt_Ptm_stencil_110 {p : Program} {l : Launch} {e : Env} {R : Room} {s : State} {m : MethodId} {args : Array Value} {below : List Frame} {meth : Method} {c : Code} {D : va_G} {τ : ClassId × ClassId × ClassId} {B : Nat} {A : Nat → Prop} {ad : Nat → Nat} (E : Cx p R s m args meth c prog_17_method_7_code 11 "DrawingMachineModel$PlaceTestsModel" 1 D τ B A) (hret : meth.sig.returnType = none) (o : Sg) (σ : Sg) (v1 : Int32) (v2 : Int32) (v3 : Int32) (v4 : Int32) (v5 : Int32) (v6 : Int32) (v7 : Int32) (v8 : Int32) (s1 : Int32) (h : F_Ptm_stencil_110 σ v1 v2 v3 v4 v5 v6 v7 v8 s1 = some o) {H : Heap} {locs : List Loc} {ls : Array Slot} (w : Wd s D A (wdM τ σ ad) H locs) (hl : lv_has ls 11 [(0, .ref (ad 64)), (1, .int v1), (2, .int v2), (3, .int v3), (4, .int v4), (5, .int v5), (6, .int v6), (7, .int v7), (8, .int v8)]) : W p l e R s m args below meth c H locs 0 0 (QV below args s A D τ (wdM τ o ad)) (F0 m 110 ls [.int s1, .ref (ad 64)]) := by
  refine lv_iconst (v := 0) E.x E.b d_Ptm_stencil_110 (by decide) ?_
  obtain ⟨o25, h_o25, h⟩ := bd_some h
  refine clV_Ptm_refuse E w (x0 := s1) (x1 := 0) h_o25 k1858 (by decide) hl.1 (Nat.le_of_ble_eq_true rfl) d_Ptm_stencil_111 (fun H locs w => ?_)
  refine lv_if_eq (tgt := 118) E.x E.b d_Ptm_stencil_114 (by decide) (fun c => ?_) (fun c => ?_)
  ·
    replace h := ifT c h
    refine lv_bipush (v := 7) E.x E.b d_Ptm_stencil_118 (by decide) ?_
    refine lv_iload_n E.x E.b d_Ptm_stencil_120 rfl (lv_at hl 1 rfl) ?_
    refine lv_imul E.x E.b d_Ptm_stencil_121 ?_
    obtain ⟨y26, e_y26, h⟩ := lt_some h
    refine wi_e (v := y26) e_y26 ?_
    refine lv_istore (lv' := [(10, .int y26), (0, .ref (ad 64)), (1, .int v1), (2, .int v2), (3, .int v3), (4, .int v4), (5, .int v5), (6, .int v6), (7, .int v7), (8, .int v8)]) E.x E.b d_Ptm_stencil_122 hl (by decide) rfl (fun ls hl => ?_)
    refine lv_aload_n E.x E.b d_Ptm_stencil_124 rfl (lv_at hl 1 rfl) ?_
    refine gM_Ptm_stencil E w k1710 d_Ptm_stencil_125 ?_
    refine lv_iload E.x E.b d_Ptm_stencil_128 (lv_at hl 0 rfl) ?_
    refine lv_iload_n E.x E.b d_Ptm_stencil_130 rfl (lv_at hl 3 rfl) ?_
    obtain ⟨c27, h⟩ := ck_some h
    obtain ⟨σ28, e_σ28, h⟩ := lt_some h
    refine iasM E w (k := 49) (by decide) c27 e_σ28 d_Ptm_stencil_131 (fun H locs w => ?_)
    refine lv_aload_n E.x E.b d_Ptm_stencil_132 rfl (lv_at hl 1 rfl) ?_
    refine gM_Ptm_stencil E w k1710 d_Ptm_stencil_133 ?_
    refine lv_iload E.x E.b d_Ptm_stencil_136 (lv_at hl 0 rfl) ?_
    refine lv_iconst (v := 1) E.x E.b d_Ptm_stencil_138 (by decide) ?_
    refine lv_iadd E.x E.b d_Ptm_stencil_139 ?_
    refine lv_iload_n E.x E.b d_Ptm_stencil_140 rfl (lv_at hl 4 rfl) ?_
    obtain ⟨c29, h⟩ := ck_some h
    obtain ⟨σ30, e_σ30, h⟩ := lt_some h
    refine iasM E w (k := 49) (by decide) c29 e_σ30 d_Ptm_stencil_141 (fun H locs w => ?_)
    refine lv_aload_n E.x E.b d_Ptm_stencil_142 rfl (lv_at hl 1 rfl) ?_
    refine gM_Ptm_stencil E w k1710 d_Ptm_stencil_143 ?_
    refine lv_iload E.x E.b d_Ptm_stencil_146 (lv_at hl 0 rfl) ?_
    refine lv_iconst (v := 2) E.x E.b d_Ptm_stencil_148 (by decide) ?_
    refine lv_iadd E.x E.b d_Ptm_stencil_149 ?_
    refine lv_iload E.x E.b d_Ptm_stencil_150 (lv_at hl 5 rfl) ?_
    obtain ⟨c31, h⟩ := ck_some h
    obtain ⟨σ32, e_σ32, h⟩ := lt_some h
    refine iasM E w (k := 49) (by decide) c31 e_σ32 d_Ptm_stencil_152 (fun H locs w => ?_)
    refine lv_aload_n E.x E.b d_Ptm_stencil_153 rfl (lv_at hl 1 rfl) ?_
    refine gM_Ptm_stencil E w k1710 d_Ptm_stencil_154 ?_
    refine lv_iload E.x E.b d_Ptm_stencil_157 (lv_at hl 0 rfl) ?_
    refine lv_iconst (v := 3) E.x E.b d_Ptm_stencil_159 (by decide) ?_
    refine lv_iadd E.x E.b d_Ptm_stencil_160 ?_
    refine lv_iload E.x E.b d_Ptm_stencil_161 (lv_at hl 6 rfl) ?_
    obtain ⟨c33, h⟩ := ck_some h
    obtain ⟨σ34, e_σ34, h⟩ := lt_some h
    refine iasM E w (k := 49) (by decide) c33 e_σ34 d_Ptm_stencil_163 (fun H locs w => ?_)
    refine lv_aload_n E.x E.b d_Ptm_stencil_164 rfl (lv_at hl 1 rfl) ?_
    refine gM_Ptm_stencil E w k1710 d_Ptm_stencil_165 ?_
    refine lv_iload E.x E.b d_Ptm_stencil_168 (lv_at hl 0 rfl) ?_
    refine lv_iconst (v := 4) E.x E.b d_Ptm_stencil_170 (by decide) ?_
    refine lv_iadd E.x E.b d_Ptm_stencil_171 ?_
    refine lv_iload E.x E.b d_Ptm_stencil_172 (lv_at hl 7 rfl) ?_
    obtain ⟨c35, h⟩ := ck_some h
    obtain ⟨σ36, e_σ36, h⟩ := lt_some h
    refine iasM E w (k := 49) (by decide) c35 e_σ36 d_Ptm_stencil_174 (fun H locs w => ?_)
    refine lv_aload_n E.x E.b d_Ptm_stencil_175 rfl (lv_at hl 1 rfl) ?_
    refine gM_Ptm_stencil E w k1710 d_Ptm_stencil_176 ?_
    refine lv_iload E.x E.b d_Ptm_stencil_179 (lv_at hl 0 rfl) ?_
    refine lv_iconst (v := 5) E.x E.b d_Ptm_stencil_181 (by decide) ?_
    refine lv_iadd E.x E.b d_Ptm_stencil_182 ?_
    refine lv_iload E.x E.b d_Ptm_stencil_183 (lv_at hl 8 rfl) ?_
    obtain ⟨c37, h⟩ := ck_some h
    obtain ⟨σ38, e_σ38, h⟩ := lt_some h
    refine iasM E w (k := 49) (by decide) c37 e_σ38 d_Ptm_stencil_185 (fun H locs w => ?_)
    refine lv_aload_n E.x E.b d_Ptm_stencil_186 rfl (lv_at hl 1 rfl) ?_
    refine gM_Ptm_stencil E w k1710 d_Ptm_stencil_187 ?_
    refine lv_iload E.x E.b d_Ptm_stencil_190 (lv_at hl 0 rfl) ?_
    refine lv_bipush (v := 6) E.x E.b d_Ptm_stencil_192 (by decide) ?_
    refine lv_iadd E.x E.b d_Ptm_stencil_194 ?_
    refine lv_iload E.x E.b d_Ptm_stencil_195 (lv_at hl 9 rfl) ?_
    obtain ⟨c39, h⟩ := ck_some h
    obtain ⟨σ40, e_σ40, h⟩ := lt_some h
    refine iasM E w (k := 49) (by decide) c39 e_σ40 d_Ptm_stencil_197 (fun H locs w => ?_)
    obtain rfl := Option.some.inj h
    exact rt_v E w hret d_Ptm_stencil_198
  ·
    replace h := ifF c h
    obtain rfl := Option.some.inj h
    exact rt_v E w hret d_Ptm_stencil_117
def F_Ptm_stencil_97 (σ : Sg) (v1 : Int32) (v2 : Int32) (v3 : Int32) (v4 : Int32) (v5 : Int32) (v6 : Int32) (v7 : Int32) (v8 : Int32) (s0 : Int32) : Option (Sg) := if s0 = 0 then (F_Ptm_stencil_110 σ v1 v2 v3 v4 v5 v6 v7 v8 1) else (F_Ptm_stencil_110 σ v1 v2 v3 v4 v5 v6 v7 v8 0)
set_option maxRecDepth 10000 in
set_option maxHeartbeats 4000000 in
theorem bt_Ptm_stencil_97 {p : Program} {l : Launch} {e : Env} {R : Room} {s : State} {m : MethodId} {args : Array Value} {below : List Frame} {meth : Method} {c : Code} {D : va_G} {τ : ClassId × ClassId × ClassId} {B : Nat} {A : Nat → Prop} {ad : Nat → Nat} (E : Cx p R s m args meth c prog_17_method_7_code 11 "DrawingMachineModel$PlaceTestsModel" 1 D τ B A) (hret : meth.sig.returnType = none) (o : Sg) (σ : Sg) (v1 : Int32) (v2 : Int32) (v3 : Int32) (v4 : Int32) (v5 : Int32) (v6 : Int32) (v7 : Int32) (v8 : Int32) (s0 : Int32) (h : F_Ptm_stencil_97 σ v1 v2 v3 v4 v5 v6 v7 v8 s0 = some o) {H : Heap} {locs : List Loc} {ls : Array Slot} (w : Wd s D A (wdM τ σ ad) H locs) (hl : lv_has ls 11 [(0, .ref (ad 64)), (1, .int v1), (2, .int v2), (3, .int v3), (4, .int v4), (5, .int v5), (6, .int v6), (7, .int v7), (8, .int v8)]) : W p l e R s m args below meth c H locs 0 0 (QV below args s A D τ (wdM τ o ad)) (F0 m 97 ls [.int s0]) := by
  refine lv_istore (lv' := [(9, .int s0), (0, .ref (ad 64)), (1, .int v1), (2, .int v2), (3, .int v3), (4, .int v4), (5, .int v5), (6, .int v6), (7, .int v7), (8, .int v8)]) E.x E.b d_Ptm_stencil_97 hl (by decide) rfl (fun ls hl => ?_)
  refine lv_aload_n E.x E.b d_Ptm_stencil_99 rfl (lv_at hl 1 rfl) ?_
  refine lv_iload E.x E.b d_Ptm_stencil_100 (lv_at hl 0 rfl) ?_
  refine lv_if_ne (tgt := 109) E.x E.b d_Ptm_stencil_102 (by decide) (fun c => ?_) (fun c => ?_)
  ·
    replace h := ifF c h
    refine lv_iconst (v := 0) E.x E.b d_Ptm_stencil_109 (by decide) ?_
    exact bt_Ptm_stencil_110 E hret o σ v1 v2 v3 v4 v5 v6 v7 v8 0 h w (lv_sub hl [1, 2, 3, 4, 5, 6, 7, 8, 9] rfl)
  ·
    replace h := ifT c h
    refine lv_iconst (v := 1) E.x E.b d_Ptm_stencil_105 (by decide) ?_
    refine lv_goto (tgt := 110) E.x E.b d_Ptm_stencil_106 (by decide) ?_
    exact bt_Ptm_stencil_110 E hret o σ v1 v2 v3 v4 v5 v6 v7 v8 1 h w (lv_sub hl [1, 2, 3, 4, 5, 6, 7, 8, 9] rfl)
def F_Ptm_stencil_96 (σ : Sg) (v1 : Int32) (v2 : Int32) (v3 : Int32) (v4 : Int32) (v5 : Int32) (v6 : Int32) (v7 : Int32) (v8 : Int32) : Option (Sg) := F_Ptm_stencil_97 σ v1 v2 v3 v4 v5 v6 v7 v8 0
set_option maxRecDepth 10000 in
set_option maxHeartbeats 4000000 in
theorem bt_Ptm_stencil_96 {p : Program} {l : Launch} {e : Env} {R : Room} {s : State} {m : MethodId} {args : Array Value} {below : List Frame} {meth : Method} {c : Code} {D : va_G} {τ : ClassId × ClassId × ClassId} {B : Nat} {A : Nat → Prop} {ad : Nat → Nat} (E : Cx p R s m args meth c prog_17_method_7_code 11 "DrawingMachineModel$PlaceTestsModel" 1 D τ B A) (hret : meth.sig.returnType = none) (o : Sg) (σ : Sg) (v1 : Int32) (v2 : Int32) (v3 : Int32) (v4 : Int32) (v5 : Int32) (v6 : Int32) (v7 : Int32) (v8 : Int32) (h : F_Ptm_stencil_96 σ v1 v2 v3 v4 v5 v6 v7 v8 = some o) {H : Heap} {locs : List Loc} {ls : Array Slot} (w : Wd s D A (wdM τ σ ad) H locs) (hl : lv_has ls 11 [(0, .ref (ad 64)), (1, .int v1), (2, .int v2), (3, .int v3), (4, .int v4), (5, .int v5), (6, .int v6), (7, .int v7), (8, .int v8)]) : W p l e R s m args below meth c H locs 0 0 (QV below args s A D τ (wdM τ o ad)) (F0 m 96 ls []) := by
  refine lv_iconst (v := 0) E.x E.b d_Ptm_stencil_96 (by decide) ?_
  exact bt_Ptm_stencil_97 E hret o σ v1 v2 v3 v4 v5 v6 v7 v8 0 h w (lv_sub hl [0, 1, 2, 3, 4, 5, 6, 7, 8] rfl)
def F_Ptm_stencil_92 (σ : Sg) (v1 : Int32) (v2 : Int32) (v3 : Int32) (v4 : Int32) (v5 : Int32) (v6 : Int32) (v7 : Int32) (v8 : Int32) : Option (Sg) := F_Ptm_stencil_97 σ v1 v2 v3 v4 v5 v6 v7 v8 1
set_option maxRecDepth 10000 in
set_option maxHeartbeats 4000000 in
theorem bt_Ptm_stencil_92 {p : Program} {l : Launch} {e : Env} {R : Room} {s : State} {m : MethodId} {args : Array Value} {below : List Frame} {meth : Method} {c : Code} {D : va_G} {τ : ClassId × ClassId × ClassId} {B : Nat} {A : Nat → Prop} {ad : Nat → Nat} (E : Cx p R s m args meth c prog_17_method_7_code 11 "DrawingMachineModel$PlaceTestsModel" 1 D τ B A) (hret : meth.sig.returnType = none) (o : Sg) (σ : Sg) (v1 : Int32) (v2 : Int32) (v3 : Int32) (v4 : Int32) (v5 : Int32) (v6 : Int32) (v7 : Int32) (v8 : Int32) (h : F_Ptm_stencil_92 σ v1 v2 v3 v4 v5 v6 v7 v8 = some o) {H : Heap} {locs : List Loc} {ls : Array Slot} (w : Wd s D A (wdM τ σ ad) H locs) (hl : lv_has ls 11 [(0, .ref (ad 64)), (1, .int v1), (2, .int v2), (3, .int v3), (4, .int v4), (5, .int v5), (6, .int v6), (7, .int v7), (8, .int v8)]) : W p l e R s m args below meth c H locs 0 0 (QV below args s A D τ (wdM τ o ad)) (F0 m 92 ls []) := by
  refine lv_iconst (v := 1) E.x E.b d_Ptm_stencil_92 (by decide) ?_
  refine lv_goto (tgt := 97) E.x E.b d_Ptm_stencil_93 (by decide) ?_
  exact bt_Ptm_stencil_97 E hret o σ v1 v2 v3 v4 v5 v6 v7 v8 1 h w (lv_sub hl [0, 1, 2, 3, 4, 5, 6, 7, 8] rfl)
def F_Ptm_stencil (σ : Sg) (x0 : Int32) (x1 : Int32) (x2 : Int32) (x3 : Int32) (x4 : Int32) (x5 : Int32) (x6 : Int32) (x7 : Int32) : Option (Sg) := bd (F_Ptm_in x0 0 1) (fun o41 => if o41 = 0 then (F_Ptm_stencil_96 σ x0 x1 x2 x3 x4 x5 x6 x7) else (if x1 = (-1) then (F_Ptm_stencil_92 σ x0 x1 x2 x3 x4 x5 x6 x7) else (bd (F_Ptm_in x1 0 7) (fun o42 => if o42 = 0 then (F_Ptm_stencil_96 σ x0 x1 x2 x3 x4 x5 x6 x7) else (bd (F_Ptm_in x2 0 255) (fun o43 => if o43 = 0 then (F_Ptm_stencil_96 σ x0 x1 x2 x3 x4 x5 x6 x7) else (bd (F_Ptm_in x3 0 255) (fun o44 => if o44 = 0 then (F_Ptm_stencil_96 σ x0 x1 x2 x3 x4 x5 x6 x7) else (bd (F_Ptm_in x4 0 255) (fun o45 => if o45 = 0 then (F_Ptm_stencil_96 σ x0 x1 x2 x3 x4 x5 x6 x7) else (bd (F_Ptm_in x5 0 7) (fun o46 => if o46 = 0 then (F_Ptm_stencil_96 σ x0 x1 x2 x3 x4 x5 x6 x7) else (bd (F_Ptm_in x6 0 7) (fun o47 => if o47 = 0 then (F_Ptm_stencil_96 σ x0 x1 x2 x3 x4 x5 x6 x7) else (bd (F_Ptm_in x7 0 7) (fun o48 => if o48 = 0 then (F_Ptm_stencil_96 σ x0 x1 x2 x3 x4 x5 x6 x7) else (F_Ptm_stencil_92 σ x0 x1 x2 x3 x4 x5 x6 x7)))))))))))))))))
set_option maxRecDepth 10000 in
set_option maxHeartbeats 4000000 in
theorem c_Ptm_stencil (l : Launch) (D : va_G) (τ : ClassId × ClassId × ClassId) (B : Nat) (σ : Sg) (ad : Nat → Nat) (x0 : Int32) (x1 : Int32) (x2 : Int32) (x3 : Int32) (x4 : Int32) (x5 : Int32) (x6 : Int32) (x7 : Int32) (o : Sg) (h : F_Ptm_stencil σ x0 x1 x2 x3 x4 x5 x6 x7 = some o) : MV l y_Ptm_stencil (Cond.code y_Ptm_stencil prog_17_method_7_code 11 none) 1 D τ B [.ref (ad 64), .int x0, .int x1, .int x2, .int x3, .int x4, .int x5, .int x6, .int x7] (wdM τ σ ad) (wdM τ o ad) := by
  refine en_v (by decide) (Nat.le_of_ble_eq_true rfl) ?_
  intro p e R s m args below meth c H locs ls A E hret w hl
  have E : Cx p R s m args meth c prog_17_method_7_code 11 "DrawingMachineModel$PlaceTestsModel" 1 D τ B A := E
  have hl : lv_has ls 11 [(0, .ref (ad 64)), (1, .int x0), (2, .int x1), (3, .int x2), (4, .int x3), (5, .int x4), (6, .int x5), (7, .int x6), (8, .int x7)] := hl
  refine lv_iload_n E.x E.b d_Ptm_stencil_0 rfl (lv_at hl 1 rfl) ?_
  refine lv_iconst (v := 0) E.x E.b d_Ptm_stencil_1 (by decide) ?_
  refine lv_iconst (v := 1) E.x E.b d_Ptm_stencil_2 (by decide) ?_
  obtain ⟨o41, h_o41, h⟩ := bd_some h
  refine clS_Ptm_in E w (x0 := x0) (x1 := 0) (x2 := 1) h_o41 k1855 (by decide) hl.1 (Nat.le_of_ble_eq_true rfl) d_Ptm_stencil_3 (fun H locs w => ?_)
  refine lv_if_eq (tgt := 96) E.x E.b d_Ptm_stencil_6 (by decide) (fun c => ?_) (fun c => ?_)
  ·
    replace h := ifT c h
    exact bt_Ptm_stencil_96 E hret o σ x0 x1 x2 x3 x4 x5 x6 x7 h w (lv_sub hl [0, 1, 2, 3, 4, 5, 6, 7, 8] rfl)
  ·
    replace h := ifF c h
    refine lv_iload_n E.x E.b d_Ptm_stencil_9 rfl (lv_at hl 2 rfl) ?_
    refine lv_iconst (v := (-1)) E.x E.b d_Ptm_stencil_10 (by decide) ?_
    refine lv_icmp_eq (tgt := 92) E.x E.b d_Ptm_stencil_11 (by decide) (fun c => ?_) (fun c => ?_)
    ·
      replace h := ifT c h
      exact bt_Ptm_stencil_92 E hret o σ x0 x1 x2 x3 x4 x5 x6 x7 h w (lv_sub hl [0, 1, 2, 3, 4, 5, 6, 7, 8] rfl)
    ·
      replace h := ifF c h
      refine lv_iload_n E.x E.b d_Ptm_stencil_14 rfl (lv_at hl 2 rfl) ?_
      refine lv_iconst (v := 0) E.x E.b d_Ptm_stencil_15 (by decide) ?_
      refine lv_bipush (v := 7) E.x E.b d_Ptm_stencil_16 (by decide) ?_
      obtain ⟨o42, h_o42, h⟩ := bd_some h
      refine clS_Ptm_in E w (x0 := x1) (x1 := 0) (x2 := 7) h_o42 k1855 (by decide) hl.1 (Nat.le_of_ble_eq_true rfl) d_Ptm_stencil_18 (fun H locs w => ?_)
      refine lv_if_eq (tgt := 96) E.x E.b d_Ptm_stencil_21 (by decide) (fun c => ?_) (fun c => ?_)
      ·
        replace h := ifT c h
        exact bt_Ptm_stencil_96 E hret o σ x0 x1 x2 x3 x4 x5 x6 x7 h w (lv_sub hl [0, 1, 2, 3, 4, 5, 6, 7, 8] rfl)
      ·
        replace h := ifF c h
        refine lv_iload_n E.x E.b d_Ptm_stencil_24 rfl (lv_at hl 3 rfl) ?_
        refine lv_iconst (v := 0) E.x E.b d_Ptm_stencil_25 (by decide) ?_
        refine lv_sipush (v := 255) E.x E.b d_Ptm_stencil_26 (by decide) ?_
        obtain ⟨o43, h_o43, h⟩ := bd_some h
        refine clS_Ptm_in E w (x0 := x2) (x1 := 0) (x2 := 255) h_o43 k1855 (by decide) hl.1 (Nat.le_of_ble_eq_true rfl) d_Ptm_stencil_29 (fun H locs w => ?_)
        refine lv_if_eq (tgt := 96) E.x E.b d_Ptm_stencil_32 (by decide) (fun c => ?_) (fun c => ?_)
        ·
          replace h := ifT c h
          exact bt_Ptm_stencil_96 E hret o σ x0 x1 x2 x3 x4 x5 x6 x7 h w (lv_sub hl [0, 1, 2, 3, 4, 5, 6, 7, 8] rfl)
        ·
          replace h := ifF c h
          refine lv_iload E.x E.b d_Ptm_stencil_35 (lv_at hl 4 rfl) ?_
          refine lv_iconst (v := 0) E.x E.b d_Ptm_stencil_37 (by decide) ?_
          refine lv_sipush (v := 255) E.x E.b d_Ptm_stencil_38 (by decide) ?_
          obtain ⟨o44, h_o44, h⟩ := bd_some h
          refine clS_Ptm_in E w (x0 := x3) (x1 := 0) (x2 := 255) h_o44 k1855 (by decide) hl.1 (Nat.le_of_ble_eq_true rfl) d_Ptm_stencil_41 (fun H locs w => ?_)
          refine lv_if_eq (tgt := 96) E.x E.b d_Ptm_stencil_44 (by decide) (fun c => ?_) (fun c => ?_)
          ·
            replace h := ifT c h
            exact bt_Ptm_stencil_96 E hret o σ x0 x1 x2 x3 x4 x5 x6 x7 h w (lv_sub hl [0, 1, 2, 3, 4, 5, 6, 7, 8] rfl)
          ·
            replace h := ifF c h
            refine lv_iload E.x E.b d_Ptm_stencil_47 (lv_at hl 5 rfl) ?_
            refine lv_iconst (v := 0) E.x E.b d_Ptm_stencil_49 (by decide) ?_
            refine lv_sipush (v := 255) E.x E.b d_Ptm_stencil_50 (by decide) ?_
            obtain ⟨o45, h_o45, h⟩ := bd_some h
            refine clS_Ptm_in E w (x0 := x4) (x1 := 0) (x2 := 255) h_o45 k1855 (by decide) hl.1 (Nat.le_of_ble_eq_true rfl) d_Ptm_stencil_53 (fun H locs w => ?_)
            refine lv_if_eq (tgt := 96) E.x E.b d_Ptm_stencil_56 (by decide) (fun c => ?_) (fun c => ?_)
            ·
              replace h := ifT c h
              exact bt_Ptm_stencil_96 E hret o σ x0 x1 x2 x3 x4 x5 x6 x7 h w (lv_sub hl [0, 1, 2, 3, 4, 5, 6, 7, 8] rfl)
            ·
              replace h := ifF c h
              refine lv_iload E.x E.b d_Ptm_stencil_59 (lv_at hl 6 rfl) ?_
              refine lv_iconst (v := 0) E.x E.b d_Ptm_stencil_61 (by decide) ?_
              refine lv_bipush (v := 7) E.x E.b d_Ptm_stencil_62 (by decide) ?_
              obtain ⟨o46, h_o46, h⟩ := bd_some h
              refine clS_Ptm_in E w (x0 := x5) (x1 := 0) (x2 := 7) h_o46 k1855 (by decide) hl.1 (Nat.le_of_ble_eq_true rfl) d_Ptm_stencil_64 (fun H locs w => ?_)
              refine lv_if_eq (tgt := 96) E.x E.b d_Ptm_stencil_67 (by decide) (fun c => ?_) (fun c => ?_)
              ·
                replace h := ifT c h
                exact bt_Ptm_stencil_96 E hret o σ x0 x1 x2 x3 x4 x5 x6 x7 h w (lv_sub hl [0, 1, 2, 3, 4, 5, 6, 7, 8] rfl)
              ·
                replace h := ifF c h
                refine lv_iload E.x E.b d_Ptm_stencil_70 (lv_at hl 7 rfl) ?_
                refine lv_iconst (v := 0) E.x E.b d_Ptm_stencil_72 (by decide) ?_
                refine lv_bipush (v := 7) E.x E.b d_Ptm_stencil_73 (by decide) ?_
                obtain ⟨o47, h_o47, h⟩ := bd_some h
                refine clS_Ptm_in E w (x0 := x6) (x1 := 0) (x2 := 7) h_o47 k1855 (by decide) hl.1 (Nat.le_of_ble_eq_true rfl) d_Ptm_stencil_75 (fun H locs w => ?_)
                refine lv_if_eq (tgt := 96) E.x E.b d_Ptm_stencil_78 (by decide) (fun c => ?_) (fun c => ?_)
                ·
                  replace h := ifT c h
                  exact bt_Ptm_stencil_96 E hret o σ x0 x1 x2 x3 x4 x5 x6 x7 h w (lv_sub hl [0, 1, 2, 3, 4, 5, 6, 7, 8] rfl)
                ·
                  replace h := ifF c h
                  refine lv_iload E.x E.b d_Ptm_stencil_81 (lv_at hl 8 rfl) ?_
                  refine lv_iconst (v := 0) E.x E.b d_Ptm_stencil_83 (by decide) ?_
                  refine lv_bipush (v := 7) E.x E.b d_Ptm_stencil_84 (by decide) ?_
                  obtain ⟨o48, h_o48, h⟩ := bd_some h
                  refine clS_Ptm_in E w (x0 := x7) (x1 := 0) (x2 := 7) h_o48 k1855 (by decide) hl.1 (Nat.le_of_ble_eq_true rfl) d_Ptm_stencil_86 (fun H locs w => ?_)
                  refine lv_if_eq (tgt := 96) E.x E.b d_Ptm_stencil_89 (by decide) (fun c => ?_) (fun c => ?_)
                  ·
                    replace h := ifT c h
                    exact bt_Ptm_stencil_96 E hret o σ x0 x1 x2 x3 x4 x5 x6 x7 h w (lv_sub hl [0, 1, 2, 3, 4, 5, 6, 7, 8] rfl)
                  ·
                    replace h := ifF c h
                    exact bt_Ptm_stencil_92 E hret o σ x0 x1 x2 x3 x4 x5 x6 x7 h w (lv_sub hl [0, 1, 2, 3, 4, 5, 6, 7, 8] rfl)
theorem clV_Ptm_stencil {p : Program} {l : Launch} {e : Env} {R : Room} {s : State} {m : MethodId} {args : Array Value} {below : List Frame} {meth : Method} {c : Code} {H : Heap} {locs : List Loc} {Q : State → Prop} {cc : ByteArray} {nL pc lev : Nat} {own : String} {D : va_G} {τ : ClassId × ClassId × ClassId} {B : Nat} {A : Nat → Prop} {σ : Sg} {ad : Nat → Nat} {ls : Array Slot} {rest : List Value} (E : Cx p R s m args meth c cc nL own lev D τ B A) (w : Wd s D A (wdM τ σ ad) H locs) {x0 : Int32} {x1 : Int32} {x2 : Int32} {x3 : Int32} {x4 : Int32} {x5 : Int32} {x6 : Int32} {x7 : Int32} {o : Sg} (h : F_Ptm_stencil σ x0 x1 x2 x3 x4 x5 x6 x7 = some o) {index : Nat} (hlk : Cond.methodLink own index y_Ptm_stencil ∈ tw) (hlev : 1 < lev) (hsz : ls.size = nL) (hr : (rest.map fun v => v.category).sum ≤ 8) (hd : decode cc pc = .ok (.invokevirtual index, 3)) (kk : ∀ (H1 : Heap) (locs1 : List Loc), Wd s D A (wdM τ o ad) H1 locs1 → W p l e R s m args below meth c H1 locs1 0 0 Q (F0 m (pc + 3) ls (rest))) : W p l e R s m args below meth c H locs 0 0 Q (F0 m pc ls (.int x7 :: .int x6 :: .int x5 :: .int x4 :: .int x3 :: .int x2 :: .int x1 :: .int x0 :: .ref (ad 64) :: rest)) :=
  cr_v w E.C (va_runV (As := [.int x0, .int x1, .int x2, .int x3, .int x4, .int x5, .int x6, .int x7]) (rest := rest) E.fix (c_Ptm_stencil l D τ B σ ad x0 x1 x2 x3 x4 x5 x6 x7 o h H.size) (cwV 8 E.w (tw_pre (tw_good k2004) (l := [_, _, _, _]) (List.forall_mem_cons.mpr ⟨hlk, List.forall_mem_cons.mpr ⟨k2002, List.forall_mem_cons.mpr ⟨k2003, List.forall_mem_cons.mpr ⟨k20, fun _ h => absurd h List.not_mem_nil⟩⟩⟩⟩)) rfl rfl rfl (by decide +kernel) (E.rm hlev (by decide))) (wd_preV w E.C [.int x0, .int x1, .int x2, .int x3, .int x4, .int x5, .int x6, .int x7] rcM_Ptm rfl) rfl rfl hsz rfl (lv_room hr) hd ⟨Nat.zero_le _, Nat.zero_le _⟩) kk

theorem d_Txm_border_0 : decode prog_19_method_6_code 0 = .ok (.aload_n 0, 1) := by decide +kernel
theorem d_Txm_border_1 : decode prog_19_method_6_code 1 = .ok (.iload_n 1, 1) := by decide +kernel
theorem d_Txm_border_2 : decode prog_19_method_6_code 2 = .ok (.iconst 0, 1) := by decide +kernel
theorem d_Txm_border_3 : decode prog_19_method_6_code 3 = .ok (.iconst 3, 1) := by decide +kernel
theorem d_Txm_border_4 : decode prog_19_method_6_code 4 = .ok (.invokestatic 44, 3) := by decide +kernel
theorem d_Txm_border_7 : decode prog_19_method_6_code 7 = .ok (.ifCond .ne 7, 3) := by decide +kernel
theorem d_Txm_border_10 : decode prog_19_method_6_code 10 = .ok (.iconst 1, 1) := by decide +kernel
theorem d_Txm_border_11 : decode prog_19_method_6_code 11 = .ok (.goto 4, 3) := by decide +kernel
theorem d_Txm_border_14 : decode prog_19_method_6_code 14 = .ok (.iconst 0, 1) := by decide +kernel
theorem d_Txm_border_15 : decode prog_19_method_6_code 15 = .ok (.iconst 0, 1) := by decide +kernel
theorem d_Txm_border_16 : decode prog_19_method_6_code 16 = .ok (.invokevirtual 48, 3) := by decide +kernel
theorem d_Txm_border_19 : decode prog_19_method_6_code 19 = .ok (.ifCond .eq 4, 3) := by decide +kernel
theorem d_Txm_border_22 : decode prog_19_method_6_code 22 = .ok (.return_, 1) := by decide +kernel
theorem d_Txm_border_23 : decode prog_19_method_6_code 23 = .ok (.aload_n 0, 1) := by decide +kernel
theorem d_Txm_border_24 : decode prog_19_method_6_code 24 = .ok (.getfield 13, 3) := by decide +kernel
theorem d_Txm_border_27 : decode prog_19_method_6_code 27 = .ok (.iconst 4, 1) := by decide +kernel
theorem d_Txm_border_28 : decode prog_19_method_6_code 28 = .ok (.iload_n 1, 1) := by decide +kernel
theorem d_Txm_border_29 : decode prog_19_method_6_code 29 = .ok (.imul, 1) := by decide +kernel
theorem d_Txm_border_30 : decode prog_19_method_6_code 30 = .ok (.iload_n 2, 1) := by decide +kernel
theorem d_Txm_border_31 : decode prog_19_method_6_code 31 = .ok (.iastore, 1) := by decide +kernel
theorem d_Txm_border_32 : decode prog_19_method_6_code 32 = .ok (.aload_n 0, 1) := by decide +kernel
theorem d_Txm_border_33 : decode prog_19_method_6_code 33 = .ok (.getfield 13, 3) := by decide +kernel
theorem d_Txm_border_36 : decode prog_19_method_6_code 36 = .ok (.iconst 4, 1) := by decide +kernel
theorem d_Txm_border_37 : decode prog_19_method_6_code 37 = .ok (.iload_n 1, 1) := by decide +kernel
theorem d_Txm_border_38 : decode prog_19_method_6_code 38 = .ok (.imul, 1) := by decide +kernel
theorem d_Txm_border_39 : decode prog_19_method_6_code 39 = .ok (.iconst 1, 1) := by decide +kernel
theorem d_Txm_border_40 : decode prog_19_method_6_code 40 = .ok (.iadd, 1) := by decide +kernel
theorem d_Txm_border_41 : decode prog_19_method_6_code 41 = .ok (.iload_n 3, 1) := by decide +kernel
theorem d_Txm_border_42 : decode prog_19_method_6_code 42 = .ok (.iastore, 1) := by decide +kernel
theorem d_Txm_border_43 : decode prog_19_method_6_code 43 = .ok (.aload_n 0, 1) := by decide +kernel
theorem d_Txm_border_44 : decode prog_19_method_6_code 44 = .ok (.getfield 13, 3) := by decide +kernel
theorem d_Txm_border_47 : decode prog_19_method_6_code 47 = .ok (.iconst 4, 1) := by decide +kernel
theorem d_Txm_border_48 : decode prog_19_method_6_code 48 = .ok (.iload_n 1, 1) := by decide +kernel
theorem d_Txm_border_49 : decode prog_19_method_6_code 49 = .ok (.imul, 1) := by decide +kernel
theorem d_Txm_border_50 : decode prog_19_method_6_code 50 = .ok (.iconst 2, 1) := by decide +kernel
theorem d_Txm_border_51 : decode prog_19_method_6_code 51 = .ok (.iadd, 1) := by decide +kernel
theorem d_Txm_border_52 : decode prog_19_method_6_code 52 = .ok (.iload 4, 2) := by decide +kernel
theorem d_Txm_border_54 : decode prog_19_method_6_code 54 = .ok (.iastore, 1) := by decide +kernel
theorem d_Txm_border_55 : decode prog_19_method_6_code 55 = .ok (.aload_n 0, 1) := by decide +kernel
theorem d_Txm_border_56 : decode prog_19_method_6_code 56 = .ok (.getfield 13, 3) := by decide +kernel
theorem d_Txm_border_59 : decode prog_19_method_6_code 59 = .ok (.iconst 4, 1) := by decide +kernel
theorem d_Txm_border_60 : decode prog_19_method_6_code 60 = .ok (.iload_n 1, 1) := by decide +kernel
theorem d_Txm_border_61 : decode prog_19_method_6_code 61 = .ok (.imul, 1) := by decide +kernel
theorem d_Txm_border_62 : decode prog_19_method_6_code 62 = .ok (.iconst 3, 1) := by decide +kernel
theorem d_Txm_border_63 : decode prog_19_method_6_code 63 = .ok (.iadd, 1) := by decide +kernel
theorem d_Txm_border_64 : decode prog_19_method_6_code 64 = .ok (.iload 5, 2) := by decide +kernel
theorem d_Txm_border_66 : decode prog_19_method_6_code 66 = .ok (.iastore, 1) := by decide +kernel
theorem d_Txm_border_67 : decode prog_19_method_6_code 67 = .ok (.return_, 1) := by decide +kernel
def F_Txm_border_15 (σ : Sg) (v1 : Int32) (v2 : Int32) (v3 : Int32) (v4 : Int32) (v5 : Int32) (s1 : Int32) : Option (Sg) := bd (F_Txm_refuse σ s1 0) (fun o11 => if o11.2 = 0 then (ck (inb (4 * v1) 16) (lt (sA o11.1 6 (upd (o11.1.2.2.1 6) (4 * v1).toNatClampNeg v2)) (fun σ13 => ck (inb ((4 * v1) + 1) 16) (lt (sA σ13 6 (upd (σ13.2.2.1 6) ((4 * v1) + 1).toNatClampNeg v3)) (fun σ15 => ck (inb ((4 * v1) + 2) 16) (lt (sA σ15 6 (upd (σ15.2.2.1 6) ((4 * v1) + 2).toNatClampNeg v4)) (fun σ17 => ck (inb ((4 * v1) + 3) 16) (lt (sA σ17 6 (upd (σ17.2.2.1 6) ((4 * v1) + 3).toNatClampNeg v5)) (fun σ19 => some σ19))))))))) else (some o11.1))
set_option maxRecDepth 10000 in
set_option maxHeartbeats 4000000 in
theorem bt_Txm_border_15 {p : Program} {l : Launch} {e : Env} {R : Room} {s : State} {m : MethodId} {args : Array Value} {below : List Frame} {meth : Method} {c : Code} {D : va_G} {τ : ClassId × ClassId × ClassId} {B : Nat} {A : Nat → Prop} {ad : Nat → Nat} (E : Cx p R s m args meth c prog_19_method_6_code 6 "DrawingMachineModel$TextureUnitsModel" 1 D τ B A) (hret : meth.sig.returnType = none) (o : Sg) (σ : Sg) (v1 : Int32) (v2 : Int32) (v3 : Int32) (v4 : Int32) (v5 : Int32) (s1 : Int32) (h : F_Txm_border_15 σ v1 v2 v3 v4 v5 s1 = some o) {H : Heap} {locs : List Loc} {ls : Array Slot} (w : Wd s D A (wdM τ σ ad) H locs) (hl : lv_has ls 6 [(0, .ref (ad 61)), (1, .int v1), (2, .int v2), (3, .int v3), (4, .int v4), (5, .int v5)]) : W p l e R s m args below meth c H locs 0 0 (QV below args s A D τ (wdM τ o ad)) (F0 m 15 ls [.int s1, .ref (ad 61)]) := by
  refine lv_iconst (v := 0) E.x E.b d_Txm_border_15 (by decide) ?_
  obtain ⟨o11, h_o11, h⟩ := bd_some h
  refine clV_Txm_refuse E w (x0 := s1) (x1 := 0) h_o11 k2047 (by decide) hl.1 (Nat.le_of_ble_eq_true rfl) d_Txm_border_16 (fun H locs w => ?_)
  refine lv_if_eq (tgt := 23) E.x E.b d_Txm_border_19 (by decide) (fun c => ?_) (fun c => ?_)
  ·
    replace h := ifT c h
    refine lv_aload_n E.x E.b d_Txm_border_23 rfl (lv_at hl 0 rfl) ?_
    refine gM_Txm_borders E w k1516 d_Txm_border_24 ?_
    refine lv_iconst (v := 4) E.x E.b d_Txm_border_27 (by decide) ?_
    refine lv_iload_n E.x E.b d_Txm_border_28 rfl (lv_at hl 1 rfl) ?_
    refine lv_imul E.x E.b d_Txm_border_29 ?_
    refine lv_iload_n E.x E.b d_Txm_border_30 rfl (lv_at hl 2 rfl) ?_
    obtain ⟨c12, h⟩ := ck_some h
    obtain ⟨σ13, e_σ13, h⟩ := lt_some h
    refine iasM E w (k := 6) (by decide) c12 e_σ13 d_Txm_border_31 (fun H locs w => ?_)
    refine lv_aload_n E.x E.b d_Txm_border_32 rfl (lv_at hl 0 rfl) ?_
    refine gM_Txm_borders E w k1516 d_Txm_border_33 ?_
    refine lv_iconst (v := 4) E.x E.b d_Txm_border_36 (by decide) ?_
    refine lv_iload_n E.x E.b d_Txm_border_37 rfl (lv_at hl 1 rfl) ?_
    refine lv_imul E.x E.b d_Txm_border_38 ?_
    refine lv_iconst (v := 1) E.x E.b d_Txm_border_39 (by decide) ?_
    refine lv_iadd E.x E.b d_Txm_border_40 ?_
    refine lv_iload_n E.x E.b d_Txm_border_41 rfl (lv_at hl 3 rfl) ?_
    obtain ⟨c14, h⟩ := ck_some h
    obtain ⟨σ15, e_σ15, h⟩ := lt_some h
    refine iasM E w (k := 6) (by decide) c14 e_σ15 d_Txm_border_42 (fun H locs w => ?_)
    refine lv_aload_n E.x E.b d_Txm_border_43 rfl (lv_at hl 0 rfl) ?_
    refine gM_Txm_borders E w k1516 d_Txm_border_44 ?_
    refine lv_iconst (v := 4) E.x E.b d_Txm_border_47 (by decide) ?_
    refine lv_iload_n E.x E.b d_Txm_border_48 rfl (lv_at hl 1 rfl) ?_
    refine lv_imul E.x E.b d_Txm_border_49 ?_
    refine lv_iconst (v := 2) E.x E.b d_Txm_border_50 (by decide) ?_
    refine lv_iadd E.x E.b d_Txm_border_51 ?_
    refine lv_iload E.x E.b d_Txm_border_52 (lv_at hl 4 rfl) ?_
    obtain ⟨c16, h⟩ := ck_some h
    obtain ⟨σ17, e_σ17, h⟩ := lt_some h
    refine iasM E w (k := 6) (by decide) c16 e_σ17 d_Txm_border_54 (fun H locs w => ?_)
    refine lv_aload_n E.x E.b d_Txm_border_55 rfl (lv_at hl 0 rfl) ?_
    refine gM_Txm_borders E w k1516 d_Txm_border_56 ?_
    refine lv_iconst (v := 4) E.x E.b d_Txm_border_59 (by decide) ?_
    refine lv_iload_n E.x E.b d_Txm_border_60 rfl (lv_at hl 1 rfl) ?_
    refine lv_imul E.x E.b d_Txm_border_61 ?_
    refine lv_iconst (v := 3) E.x E.b d_Txm_border_62 (by decide) ?_
    refine lv_iadd E.x E.b d_Txm_border_63 ?_
    refine lv_iload E.x E.b d_Txm_border_64 (lv_at hl 5 rfl) ?_
    obtain ⟨c18, h⟩ := ck_some h
    obtain ⟨σ19, e_σ19, h⟩ := lt_some h
    refine iasM E w (k := 6) (by decide) c18 e_σ19 d_Txm_border_66 (fun H locs w => ?_)
    obtain rfl := Option.some.inj h
    exact rt_v E w hret d_Txm_border_67
  ·
    replace h := ifF c h
    obtain rfl := Option.some.inj h
    exact rt_v E w hret d_Txm_border_22
def F_Txm_border (σ : Sg) (x0 : Int32) (x1 : Int32) (x2 : Int32) (x3 : Int32) (x4 : Int32) : Option (Sg) := bd (F_Txm_in x0 0 3) (fun o20 => if o20 = 0 then (F_Txm_border_15 σ x0 x1 x2 x3 x4 1) else (F_Txm_border_15 σ x0 x1 x2 x3 x4 0))
set_option maxRecDepth 10000 in
set_option maxHeartbeats 4000000 in
theorem c_Txm_border (l : Launch) (D : va_G) (τ : ClassId × ClassId × ClassId) (B : Nat) (σ : Sg) (ad : Nat → Nat) (x0 : Int32) (x1 : Int32) (x2 : Int32) (x3 : Int32) (x4 : Int32) (o : Sg) (h : F_Txm_border σ x0 x1 x2 x3 x4 = some o) : MV l y_Txm_border (Cond.code y_Txm_border prog_19_method_6_code 6 none) 1 D τ B [.ref (ad 61), .int x0, .int x1, .int x2, .int x3, .int x4] (wdM τ σ ad) (wdM τ o ad) := by
  refine en_v (by decide) (Nat.le_of_ble_eq_true rfl) ?_
  intro p e R s m args below meth c H locs ls A E hret w hl
  have E : Cx p R s m args meth c prog_19_method_6_code 6 "DrawingMachineModel$TextureUnitsModel" 1 D τ B A := E
  have hl : lv_has ls 6 [(0, .ref (ad 61)), (1, .int x0), (2, .int x1), (3, .int x2), (4, .int x3), (5, .int x4)] := hl
  refine lv_aload_n E.x E.b d_Txm_border_0 rfl (lv_at hl 0 rfl) ?_
  refine lv_iload_n E.x E.b d_Txm_border_1 rfl (lv_at hl 1 rfl) ?_
  refine lv_iconst (v := 0) E.x E.b d_Txm_border_2 (by decide) ?_
  refine lv_iconst (v := 3) E.x E.b d_Txm_border_3 (by decide) ?_
  obtain ⟨o20, h_o20, h⟩ := bd_some h
  refine clS_Txm_in E w (x0 := x0) (x1 := 0) (x2 := 3) h_o20 k2044 (by decide) hl.1 (Nat.le_of_ble_eq_true rfl) d_Txm_border_4 (fun H locs w => ?_)
  refine lv_if_ne (tgt := 14) E.x E.b d_Txm_border_7 (by decide) (fun c => ?_) (fun c => ?_)
  ·
    replace h := ifF c h
    refine lv_iconst (v := 0) E.x E.b d_Txm_border_14 (by decide) ?_
    exact bt_Txm_border_15 E hret o σ x0 x1 x2 x3 x4 0 h w (lv_sub hl [0, 1, 2, 3, 4, 5] rfl)
  ·
    replace h := ifT c h
    refine lv_iconst (v := 1) E.x E.b d_Txm_border_10 (by decide) ?_
    refine lv_goto (tgt := 15) E.x E.b d_Txm_border_11 (by decide) ?_
    exact bt_Txm_border_15 E hret o σ x0 x1 x2 x3 x4 1 h w (lv_sub hl [0, 1, 2, 3, 4, 5] rfl)
theorem clV_Txm_border {p : Program} {l : Launch} {e : Env} {R : Room} {s : State} {m : MethodId} {args : Array Value} {below : List Frame} {meth : Method} {c : Code} {H : Heap} {locs : List Loc} {Q : State → Prop} {cc : ByteArray} {nL pc lev : Nat} {own : String} {D : va_G} {τ : ClassId × ClassId × ClassId} {B : Nat} {A : Nat → Prop} {σ : Sg} {ad : Nat → Nat} {ls : Array Slot} {rest : List Value} (E : Cx p R s m args meth c cc nL own lev D τ B A) (w : Wd s D A (wdM τ σ ad) H locs) {x0 : Int32} {x1 : Int32} {x2 : Int32} {x3 : Int32} {x4 : Int32} {o : Sg} (h : F_Txm_border σ x0 x1 x2 x3 x4 = some o) {index : Nat} (hlk : Cond.methodLink own index y_Txm_border ∈ tw) (hlev : 1 < lev) (hsz : ls.size = nL) (hr : (rest.map fun v => v.category).sum ≤ 8) (hd : decode cc pc = .ok (.invokevirtual index, 3)) (kk : ∀ (H1 : Heap) (locs1 : List Loc), Wd s D A (wdM τ o ad) H1 locs1 → W p l e R s m args below meth c H1 locs1 0 0 Q (F0 m (pc + 3) ls (rest))) : W p l e R s m args below meth c H locs 0 0 Q (F0 m pc ls (.int x4 :: .int x3 :: .int x2 :: .int x1 :: .int x0 :: .ref (ad 61) :: rest)) :=
  cr_v w E.C (va_runV (As := [.int x0, .int x1, .int x2, .int x3, .int x4]) (rest := rest) E.fix (c_Txm_border l D τ B σ ad x0 x1 x2 x3 x4 o h H.size) (cwV 5 E.w (tw_pre (tw_good k2058) (l := [_, _, _, _]) (List.forall_mem_cons.mpr ⟨hlk, List.forall_mem_cons.mpr ⟨k2056, List.forall_mem_cons.mpr ⟨k2057, List.forall_mem_cons.mpr ⟨k16, fun _ h => absurd h List.not_mem_nil⟩⟩⟩⟩)) rfl rfl rfl (by decide +kernel) (E.rm hlev (by decide))) (wd_preV w E.C [.int x0, .int x1, .int x2, .int x3, .int x4] rcM_Txm rfl) rfl rfl hsz rfl (lv_room hr) hd ⟨Nat.zero_le _, Nat.zero_le _⟩) kk

theorem d_Txm_manner_0 : decode prog_19_method_5_code 0 = .ok (.aload_n 0, 1) := by decide +kernel
theorem d_Txm_manner_1 : decode prog_19_method_5_code 1 = .ok (.iload_n 1, 1) := by decide +kernel
theorem d_Txm_manner_2 : decode prog_19_method_5_code 2 = .ok (.iconst 0, 1) := by decide +kernel
theorem d_Txm_manner_3 : decode prog_19_method_5_code 3 = .ok (.iconst 3, 1) := by decide +kernel
theorem d_Txm_manner_4 : decode prog_19_method_5_code 4 = .ok (.invokestatic 44, 3) := by decide +kernel
theorem d_Txm_manner_7 : decode prog_19_method_5_code 7 = .ok (.ifCond .ne 7, 3) := by decide +kernel
theorem d_Txm_manner_10 : decode prog_19_method_5_code 10 = .ok (.iconst 1, 1) := by decide +kernel
theorem d_Txm_manner_11 : decode prog_19_method_5_code 11 = .ok (.goto 4, 3) := by decide +kernel
theorem d_Txm_manner_14 : decode prog_19_method_5_code 14 = .ok (.iconst 0, 1) := by decide +kernel
theorem d_Txm_manner_15 : decode prog_19_method_5_code 15 = .ok (.iload_n 2, 1) := by decide +kernel
theorem d_Txm_manner_16 : decode prog_19_method_5_code 16 = .ok (.iconst 0, 1) := by decide +kernel
theorem d_Txm_manner_17 : decode prog_19_method_5_code 17 = .ok (.iconst 3, 1) := by decide +kernel
theorem d_Txm_manner_18 : decode prog_19_method_5_code 18 = .ok (.invokestatic 44, 3) := by decide +kernel
theorem d_Txm_manner_21 : decode prog_19_method_5_code 21 = .ok (.ifCond .eq 22, 3) := by decide +kernel
theorem d_Txm_manner_24 : decode prog_19_method_5_code 24 = .ok (.iload_n 3, 1) := by decide +kernel
theorem d_Txm_manner_25 : decode prog_19_method_5_code 25 = .ok (.iconst 0, 1) := by decide +kernel
theorem d_Txm_manner_26 : decode prog_19_method_5_code 26 = .ok (.iconst 3, 1) := by decide +kernel
theorem d_Txm_manner_27 : decode prog_19_method_5_code 27 = .ok (.invokestatic 44, 3) := by decide +kernel
theorem d_Txm_manner_30 : decode prog_19_method_5_code 30 = .ok (.ifCond .eq 13, 3) := by decide +kernel
theorem d_Txm_manner_33 : decode prog_19_method_5_code 33 = .ok (.iload 4, 2) := by decide +kernel
theorem d_Txm_manner_35 : decode prog_19_method_5_code 35 = .ok (.iconst 0, 1) := by decide +kernel
theorem d_Txm_manner_36 : decode prog_19_method_5_code 36 = .ok (.iconst 3, 1) := by decide +kernel
theorem d_Txm_manner_37 : decode prog_19_method_5_code 37 = .ok (.invokestatic 44, 3) := by decide +kernel
theorem d_Txm_manner_40 : decode prog_19_method_5_code 40 = .ok (.ifCond .ne 7, 3) := by decide +kernel
theorem d_Txm_manner_43 : decode prog_19_method_5_code 43 = .ok (.iconst 1, 1) := by decide +kernel
theorem d_Txm_manner_44 : decode prog_19_method_5_code 44 = .ok (.goto 4, 3) := by decide +kernel
theorem d_Txm_manner_47 : decode prog_19_method_5_code 47 = .ok (.iconst 0, 1) := by decide +kernel
theorem d_Txm_manner_48 : decode prog_19_method_5_code 48 = .ok (.invokevirtual 48, 3) := by decide +kernel
theorem d_Txm_manner_51 : decode prog_19_method_5_code 51 = .ok (.ifCond .eq 4, 3) := by decide +kernel
theorem d_Txm_manner_54 : decode prog_19_method_5_code 54 = .ok (.return_, 1) := by decide +kernel
theorem d_Txm_manner_55 : decode prog_19_method_5_code 55 = .ok (.aload_n 0, 1) := by decide +kernel
theorem d_Txm_manner_56 : decode prog_19_method_5_code 56 = .ok (.getfield 7, 3) := by decide +kernel
theorem d_Txm_manner_59 : decode prog_19_method_5_code 59 = .ok (.bipush 8, 2) := by decide +kernel
theorem d_Txm_manner_61 : decode prog_19_method_5_code 61 = .ok (.iload_n 1, 1) := by decide +kernel
theorem d_Txm_manner_62 : decode prog_19_method_5_code 62 = .ok (.imul, 1) := by decide +kernel
theorem d_Txm_manner_63 : decode prog_19_method_5_code 63 = .ok (.iconst 5, 1) := by decide +kernel
theorem d_Txm_manner_64 : decode prog_19_method_5_code 64 = .ok (.iadd, 1) := by decide +kernel
theorem d_Txm_manner_65 : decode prog_19_method_5_code 65 = .ok (.iload_n 2, 1) := by decide +kernel
theorem d_Txm_manner_66 : decode prog_19_method_5_code 66 = .ok (.iastore, 1) := by decide +kernel
theorem d_Txm_manner_67 : decode prog_19_method_5_code 67 = .ok (.aload_n 0, 1) := by decide +kernel
theorem d_Txm_manner_68 : decode prog_19_method_5_code 68 = .ok (.getfield 7, 3) := by decide +kernel
theorem d_Txm_manner_71 : decode prog_19_method_5_code 71 = .ok (.bipush 8, 2) := by decide +kernel
theorem d_Txm_manner_73 : decode prog_19_method_5_code 73 = .ok (.iload_n 1, 1) := by decide +kernel
theorem d_Txm_manner_74 : decode prog_19_method_5_code 74 = .ok (.imul, 1) := by decide +kernel
theorem d_Txm_manner_75 : decode prog_19_method_5_code 75 = .ok (.bipush 6, 2) := by decide +kernel
theorem d_Txm_manner_77 : decode prog_19_method_5_code 77 = .ok (.iadd, 1) := by decide +kernel
theorem d_Txm_manner_78 : decode prog_19_method_5_code 78 = .ok (.iload_n 3, 1) := by decide +kernel
theorem d_Txm_manner_79 : decode prog_19_method_5_code 79 = .ok (.iastore, 1) := by decide +kernel
theorem d_Txm_manner_80 : decode prog_19_method_5_code 80 = .ok (.aload_n 0, 1) := by decide +kernel
theorem d_Txm_manner_81 : decode prog_19_method_5_code 81 = .ok (.getfield 7, 3) := by decide +kernel
theorem d_Txm_manner_84 : decode prog_19_method_5_code 84 = .ok (.bipush 8, 2) := by decide +kernel
theorem d_Txm_manner_86 : decode prog_19_method_5_code 86 = .ok (.iload_n 1, 1) := by decide +kernel
theorem d_Txm_manner_87 : decode prog_19_method_5_code 87 = .ok (.imul, 1) := by decide +kernel
theorem d_Txm_manner_88 : decode prog_19_method_5_code 88 = .ok (.bipush 7, 2) := by decide +kernel
theorem d_Txm_manner_90 : decode prog_19_method_5_code 90 = .ok (.iadd, 1) := by decide +kernel
theorem d_Txm_manner_91 : decode prog_19_method_5_code 91 = .ok (.iload 4, 2) := by decide +kernel
theorem d_Txm_manner_93 : decode prog_19_method_5_code 93 = .ok (.iastore, 1) := by decide +kernel
theorem d_Txm_manner_94 : decode prog_19_method_5_code 94 = .ok (.return_, 1) := by decide +kernel
def F_Txm_manner_48 (σ : Sg) (v1 : Int32) (v2 : Int32) (v3 : Int32) (v4 : Int32) (s1 : Int32) (s2 : Int32) : Option (Sg) := bd (F_Txm_refuse σ s1 s2) (fun o12 => if o12.2 = 0 then (ck (inb ((8 * v1) + 5) 32) (lt (sA o12.1 5 (upd (o12.1.2.2.1 5) ((8 * v1) + 5).toNatClampNeg v2)) (fun σ14 => ck (inb ((8 * v1) + 6) 32) (lt (sA σ14 5 (upd (σ14.2.2.1 5) ((8 * v1) + 6).toNatClampNeg v3)) (fun σ16 => ck (inb ((8 * v1) + 7) 32) (lt (sA σ16 5 (upd (σ16.2.2.1 5) ((8 * v1) + 7).toNatClampNeg v4)) (fun σ18 => some σ18))))))) else (some o12.1))
set_option maxRecDepth 10000 in
set_option maxHeartbeats 4000000 in
theorem bt_Txm_manner_48 {p : Program} {l : Launch} {e : Env} {R : Room} {s : State} {m : MethodId} {args : Array Value} {below : List Frame} {meth : Method} {c : Code} {D : va_G} {τ : ClassId × ClassId × ClassId} {B : Nat} {A : Nat → Prop} {ad : Nat → Nat} (E : Cx p R s m args meth c prog_19_method_5_code 5 "DrawingMachineModel$TextureUnitsModel" 1 D τ B A) (hret : meth.sig.returnType = none) (o : Sg) (σ : Sg) (v1 : Int32) (v2 : Int32) (v3 : Int32) (v4 : Int32) (s1 : Int32) (s2 : Int32) (h : F_Txm_manner_48 σ v1 v2 v3 v4 s1 s2 = some o) {H : Heap} {locs : List Loc} {ls : Array Slot} (w : Wd s D A (wdM τ σ ad) H locs) (hl : lv_has ls 5 [(0, .ref (ad 61)), (1, .int v1), (2, .int v2), (3, .int v3), (4, .int v4)]) : W p l e R s m args below meth c H locs 0 0 (QV below args s A D τ (wdM τ o ad)) (F0 m 48 ls [.int s2, .int s1, .ref (ad 61)]) := by
  obtain ⟨o12, h_o12, h⟩ := bd_some h
  refine clV_Txm_refuse E w (x0 := s1) (x1 := s2) h_o12 k2047 (by decide) hl.1 (Nat.le_of_ble_eq_true rfl) d_Txm_manner_48 (fun H locs w => ?_)
  refine lv_if_eq (tgt := 55) E.x E.b d_Txm_manner_51 (by decide) (fun c => ?_) (fun c => ?_)
  ·
    replace h := ifT c h
    refine lv_aload_n E.x E.b d_Txm_manner_55 rfl (lv_at hl 0 rfl) ?_
    refine gM_Txm_units E w k1515 d_Txm_manner_56 ?_
    refine lv_bipush (v := 8) E.x E.b d_Txm_manner_59 (by decide) ?_
    refine lv_iload_n E.x E.b d_Txm_manner_61 rfl (lv_at hl 1 rfl) ?_
    refine lv_imul E.x E.b d_Txm_manner_62 ?_
    refine lv_iconst (v := 5) E.x E.b d_Txm_manner_63 (by decide) ?_
    refine lv_iadd E.x E.b d_Txm_manner_64 ?_
    refine lv_iload_n E.x E.b d_Txm_manner_65 rfl (lv_at hl 2 rfl) ?_
    obtain ⟨c13, h⟩ := ck_some h
    obtain ⟨σ14, e_σ14, h⟩ := lt_some h
    refine iasM E w (k := 5) (by decide) c13 e_σ14 d_Txm_manner_66 (fun H locs w => ?_)
    refine lv_aload_n E.x E.b d_Txm_manner_67 rfl (lv_at hl 0 rfl) ?_
    refine gM_Txm_units E w k1515 d_Txm_manner_68 ?_
    refine lv_bipush (v := 8) E.x E.b d_Txm_manner_71 (by decide) ?_
    refine lv_iload_n E.x E.b d_Txm_manner_73 rfl (lv_at hl 1 rfl) ?_
    refine lv_imul E.x E.b d_Txm_manner_74 ?_
    refine lv_bipush (v := 6) E.x E.b d_Txm_manner_75 (by decide) ?_
    refine lv_iadd E.x E.b d_Txm_manner_77 ?_
    refine lv_iload_n E.x E.b d_Txm_manner_78 rfl (lv_at hl 3 rfl) ?_
    obtain ⟨c15, h⟩ := ck_some h
    obtain ⟨σ16, e_σ16, h⟩ := lt_some h
    refine iasM E w (k := 5) (by decide) c15 e_σ16 d_Txm_manner_79 (fun H locs w => ?_)
    refine lv_aload_n E.x E.b d_Txm_manner_80 rfl (lv_at hl 0 rfl) ?_
    refine gM_Txm_units E w k1515 d_Txm_manner_81 ?_
    refine lv_bipush (v := 8) E.x E.b d_Txm_manner_84 (by decide) ?_
    refine lv_iload_n E.x E.b d_Txm_manner_86 rfl (lv_at hl 1 rfl) ?_
    refine lv_imul E.x E.b d_Txm_manner_87 ?_
    refine lv_bipush (v := 7) E.x E.b d_Txm_manner_88 (by decide) ?_
    refine lv_iadd E.x E.b d_Txm_manner_90 ?_
    refine lv_iload E.x E.b d_Txm_manner_91 (lv_at hl 4 rfl) ?_
    obtain ⟨c17, h⟩ := ck_some h
    obtain ⟨σ18, e_σ18, h⟩ := lt_some h
    refine iasM E w (k := 5) (by decide) c17 e_σ18 d_Txm_manner_93 (fun H locs w => ?_)
    obtain rfl := Option.some.inj h
    exact rt_v E w hret d_Txm_manner_94
  ·
    replace h := ifF c h
    obtain rfl := Option.some.inj h
    exact rt_v E w hret d_Txm_manner_54
def F_Txm_manner_43 (σ : Sg) (v1 : Int32) (v2 : Int32) (v3 : Int32) (v4 : Int32) (s1 : Int32) : Option (Sg) := F_Txm_manner_48 σ v1 v2 v3 v4 s1 1
set_option maxRecDepth 10000 in
set_option maxHeartbeats 4000000 in
theorem bt_Txm_manner_43 {p : Program} {l : Launch} {e : Env} {R : Room} {s : State} {m : MethodId} {args : Array Value} {below : List Frame} {meth : Method} {c : Code} {D : va_G} {τ : ClassId × ClassId × ClassId} {B : Nat} {A : Nat → Prop} {ad : Nat → Nat} (E : Cx p R s m args meth c prog_19_method_5_code 5 "DrawingMachineModel$TextureUnitsModel" 1 D τ B A) (hret : meth.sig.returnType = none) (o : Sg) (σ : Sg) (v1 : Int32) (v2 : Int32) (v3 : Int32) (v4 : Int32) (s1 : Int32) (h : F_Txm_manner_43 σ v1 v2 v3 v4 s1 = some o) {H : Heap} {locs : List Loc} {ls : Array Slot} (w : Wd s D A (wdM τ σ ad) H locs) (hl : lv_has ls 5 [(0, .ref (ad 61)), (1, .int v1), (2, .int v2), (3, .int v3), (4, .int v4)]) : W p l e R s m args below meth c H locs 0 0 (QV below args s A D τ (wdM τ o ad)) (F0 m 43 ls [.int s1, .ref (ad 61)]) := by
  refine lv_iconst (v := 1) E.x E.b d_Txm_manner_43 (by decide) ?_
  refine lv_goto (tgt := 48) E.x E.b d_Txm_manner_44 (by decide) ?_
  exact bt_Txm_manner_48 E hret o σ v1 v2 v3 v4 s1 1 h w (lv_sub hl [0, 1, 2, 3, 4] rfl)
def F_Txm_manner_15 (σ : Sg) (v1 : Int32) (v2 : Int32) (v3 : Int32) (v4 : Int32) (s1 : Int32) : Option (Sg) := bd (F_Txm_in v2 0 3) (fun o19 => if o19 = 0 then (F_Txm_manner_43 σ v1 v2 v3 v4 s1) else (bd (F_Txm_in v3 0 3) (fun o20 => if o20 = 0 then (F_Txm_manner_43 σ v1 v2 v3 v4 s1) else (bd (F_Txm_in v4 0 3) (fun o21 => if o21 = 0 then (F_Txm_manner_43 σ v1 v2 v3 v4 s1) else (F_Txm_manner_48 σ v1 v2 v3 v4 s1 0))))))
set_option maxRecDepth 10000 in
set_option maxHeartbeats 4000000 in
theorem bt_Txm_manner_15 {p : Program} {l : Launch} {e : Env} {R : Room} {s : State} {m : MethodId} {args : Array Value} {below : List Frame} {meth : Method} {c : Code} {D : va_G} {τ : ClassId × ClassId × ClassId} {B : Nat} {A : Nat → Prop} {ad : Nat → Nat} (E : Cx p R s m args meth c prog_19_method_5_code 5 "DrawingMachineModel$TextureUnitsModel" 1 D τ B A) (hret : meth.sig.returnType = none) (o : Sg) (σ : Sg) (v1 : Int32) (v2 : Int32) (v3 : Int32) (v4 : Int32) (s1 : Int32) (h : F_Txm_manner_15 σ v1 v2 v3 v4 s1 = some o) {H : Heap} {locs : List Loc} {ls : Array Slot} (w : Wd s D A (wdM τ σ ad) H locs) (hl : lv_has ls 5 [(0, .ref (ad 61)), (1, .int v1), (2, .int v2), (3, .int v3), (4, .int v4)]) : W p l e R s m args below meth c H locs 0 0 (QV below args s A D τ (wdM τ o ad)) (F0 m 15 ls [.int s1, .ref (ad 61)]) := by
  refine lv_iload_n E.x E.b d_Txm_manner_15 rfl (lv_at hl 2 rfl) ?_
  refine lv_iconst (v := 0) E.x E.b d_Txm_manner_16 (by decide) ?_
  refine lv_iconst (v := 3) E.x E.b d_Txm_manner_17 (by decide) ?_
  obtain ⟨o19, h_o19, h⟩ := bd_some h
  refine clS_Txm_in E w (x0 := v2) (x1 := 0) (x2 := 3) h_o19 k2044 (by decide) hl.1 (Nat.le_of_ble_eq_true rfl) d_Txm_manner_18 (fun H locs w => ?_)
  refine lv_if_eq (tgt := 43) E.x E.b d_Txm_manner_21 (by decide) (fun c => ?_) (fun c => ?_)
  ·
    replace h := ifT c h
    exact bt_Txm_manner_43 E hret o σ v1 v2 v3 v4 s1 h w (lv_sub hl [0, 1, 2, 3, 4] rfl)
  ·
    replace h := ifF c h
    refine lv_iload_n E.x E.b d_Txm_manner_24 rfl (lv_at hl 3 rfl) ?_
    refine lv_iconst (v := 0) E.x E.b d_Txm_manner_25 (by decide) ?_
    refine lv_iconst (v := 3) E.x E.b d_Txm_manner_26 (by decide) ?_
    obtain ⟨o20, h_o20, h⟩ := bd_some h
    refine clS_Txm_in E w (x0 := v3) (x1 := 0) (x2 := 3) h_o20 k2044 (by decide) hl.1 (Nat.le_of_ble_eq_true rfl) d_Txm_manner_27 (fun H locs w => ?_)
    refine lv_if_eq (tgt := 43) E.x E.b d_Txm_manner_30 (by decide) (fun c => ?_) (fun c => ?_)
    ·
      replace h := ifT c h
      exact bt_Txm_manner_43 E hret o σ v1 v2 v3 v4 s1 h w (lv_sub hl [0, 1, 2, 3, 4] rfl)
    ·
      replace h := ifF c h
      refine lv_iload E.x E.b d_Txm_manner_33 (lv_at hl 4 rfl) ?_
      refine lv_iconst (v := 0) E.x E.b d_Txm_manner_35 (by decide) ?_
      refine lv_iconst (v := 3) E.x E.b d_Txm_manner_36 (by decide) ?_
      obtain ⟨o21, h_o21, h⟩ := bd_some h
      refine clS_Txm_in E w (x0 := v4) (x1 := 0) (x2 := 3) h_o21 k2044 (by decide) hl.1 (Nat.le_of_ble_eq_true rfl) d_Txm_manner_37 (fun H locs w => ?_)
      refine lv_if_ne (tgt := 47) E.x E.b d_Txm_manner_40 (by decide) (fun c => ?_) (fun c => ?_)
      ·
        replace h := ifF c h
        refine lv_iconst (v := 0) E.x E.b d_Txm_manner_47 (by decide) ?_
        exact bt_Txm_manner_48 E hret o σ v1 v2 v3 v4 s1 0 h w (lv_sub hl [0, 1, 2, 3, 4] rfl)
      ·
        replace h := ifT c h
        exact bt_Txm_manner_43 E hret o σ v1 v2 v3 v4 s1 h w (lv_sub hl [0, 1, 2, 3, 4] rfl)
def F_Txm_manner (σ : Sg) (x0 : Int32) (x1 : Int32) (x2 : Int32) (x3 : Int32) : Option (Sg) := bd (F_Txm_in x0 0 3) (fun o22 => if o22 = 0 then (F_Txm_manner_15 σ x0 x1 x2 x3 1) else (F_Txm_manner_15 σ x0 x1 x2 x3 0))
set_option maxRecDepth 10000 in
set_option maxHeartbeats 4000000 in
theorem c_Txm_manner (l : Launch) (D : va_G) (τ : ClassId × ClassId × ClassId) (B : Nat) (σ : Sg) (ad : Nat → Nat) (x0 : Int32) (x1 : Int32) (x2 : Int32) (x3 : Int32) (o : Sg) (h : F_Txm_manner σ x0 x1 x2 x3 = some o) : MV l y_Txm_manner (Cond.code y_Txm_manner prog_19_method_5_code 5 none) 1 D τ B [.ref (ad 61), .int x0, .int x1, .int x2, .int x3] (wdM τ σ ad) (wdM τ o ad) := by
  refine en_v (by decide) (Nat.le_of_ble_eq_true rfl) ?_
  intro p e R s m args below meth c H locs ls A E hret w hl
  have E : Cx p R s m args meth c prog_19_method_5_code 5 "DrawingMachineModel$TextureUnitsModel" 1 D τ B A := E
  have hl : lv_has ls 5 [(0, .ref (ad 61)), (1, .int x0), (2, .int x1), (3, .int x2), (4, .int x3)] := hl
  refine lv_aload_n E.x E.b d_Txm_manner_0 rfl (lv_at hl 0 rfl) ?_
  refine lv_iload_n E.x E.b d_Txm_manner_1 rfl (lv_at hl 1 rfl) ?_
  refine lv_iconst (v := 0) E.x E.b d_Txm_manner_2 (by decide) ?_
  refine lv_iconst (v := 3) E.x E.b d_Txm_manner_3 (by decide) ?_
  obtain ⟨o22, h_o22, h⟩ := bd_some h
  refine clS_Txm_in E w (x0 := x0) (x1 := 0) (x2 := 3) h_o22 k2044 (by decide) hl.1 (Nat.le_of_ble_eq_true rfl) d_Txm_manner_4 (fun H locs w => ?_)
  refine lv_if_ne (tgt := 14) E.x E.b d_Txm_manner_7 (by decide) (fun c => ?_) (fun c => ?_)
  ·
    replace h := ifF c h
    refine lv_iconst (v := 0) E.x E.b d_Txm_manner_14 (by decide) ?_
    exact bt_Txm_manner_15 E hret o σ x0 x1 x2 x3 0 h w (lv_sub hl [0, 1, 2, 3, 4] rfl)
  ·
    replace h := ifT c h
    refine lv_iconst (v := 1) E.x E.b d_Txm_manner_10 (by decide) ?_
    refine lv_goto (tgt := 15) E.x E.b d_Txm_manner_11 (by decide) ?_
    exact bt_Txm_manner_15 E hret o σ x0 x1 x2 x3 1 h w (lv_sub hl [0, 1, 2, 3, 4] rfl)
theorem clV_Txm_manner {p : Program} {l : Launch} {e : Env} {R : Room} {s : State} {m : MethodId} {args : Array Value} {below : List Frame} {meth : Method} {c : Code} {H : Heap} {locs : List Loc} {Q : State → Prop} {cc : ByteArray} {nL pc lev : Nat} {own : String} {D : va_G} {τ : ClassId × ClassId × ClassId} {B : Nat} {A : Nat → Prop} {σ : Sg} {ad : Nat → Nat} {ls : Array Slot} {rest : List Value} (E : Cx p R s m args meth c cc nL own lev D τ B A) (w : Wd s D A (wdM τ σ ad) H locs) {x0 : Int32} {x1 : Int32} {x2 : Int32} {x3 : Int32} {o : Sg} (h : F_Txm_manner σ x0 x1 x2 x3 = some o) {index : Nat} (hlk : Cond.methodLink own index y_Txm_manner ∈ tw) (hlev : 1 < lev) (hsz : ls.size = nL) (hr : (rest.map fun v => v.category).sum ≤ 8) (hd : decode cc pc = .ok (.invokevirtual index, 3)) (kk : ∀ (H1 : Heap) (locs1 : List Loc), Wd s D A (wdM τ o ad) H1 locs1 → W p l e R s m args below meth c H1 locs1 0 0 Q (F0 m (pc + 3) ls (rest))) : W p l e R s m args below meth c H locs 0 0 Q (F0 m pc ls (.int x3 :: .int x2 :: .int x1 :: .int x0 :: .ref (ad 61) :: rest)) :=
  cr_v w E.C (va_runV (As := [.int x0, .int x1, .int x2, .int x3]) (rest := rest) E.fix (c_Txm_manner l D τ B σ ad x0 x1 x2 x3 o h H.size) (cwV 4 E.w (tw_pre (tw_good k2054) (l := [_, _, _, _]) (List.forall_mem_cons.mpr ⟨hlk, List.forall_mem_cons.mpr ⟨k2052, List.forall_mem_cons.mpr ⟨k2053, List.forall_mem_cons.mpr ⟨k16, fun _ h => absurd h List.not_mem_nil⟩⟩⟩⟩)) rfl rfl rfl (by decide +kernel) (E.rm hlev (by decide))) (wd_preV w E.C [.int x0, .int x1, .int x2, .int x3] rcM_Txm rfl) rfl rfl hsz rfl (lv_room hr) hd ⟨Nat.zero_le _, Nat.zero_le _⟩) kk

theorem d_Txm_picture_0 : decode prog_19_method_4_code 0 = .ok (.iload_n 2, 1) := by decide +kernel
theorem d_Txm_picture_1 : decode prog_19_method_4_code 1 = .ok (.ifCond .lt 50, 3) := by decide +kernel
theorem d_Txm_picture_4 : decode prog_19_method_4_code 4 = .ok (.iload_n 3, 1) := by decide +kernel
theorem d_Txm_picture_5 : decode prog_19_method_4_code 5 = .ok (.iconst 0, 1) := by decide +kernel
theorem d_Txm_picture_6 : decode prog_19_method_4_code 6 = .ok (.bipush 10, 2) := by decide +kernel
theorem d_Txm_picture_8 : decode prog_19_method_4_code 8 = .ok (.invokestatic 44, 3) := by decide +kernel
theorem d_Txm_picture_11 : decode prog_19_method_4_code 11 = .ok (.ifCond .eq 40, 3) := by decide +kernel
theorem d_Txm_picture_14 : decode prog_19_method_4_code 14 = .ok (.iload 4, 2) := by decide +kernel
theorem d_Txm_picture_16 : decode prog_19_method_4_code 16 = .ok (.iconst 0, 1) := by decide +kernel
theorem d_Txm_picture_17 : decode prog_19_method_4_code 17 = .ok (.bipush 10, 2) := by decide +kernel
theorem d_Txm_picture_19 : decode prog_19_method_4_code 19 = .ok (.invokestatic 44, 3) := by decide +kernel
theorem d_Txm_picture_22 : decode prog_19_method_4_code 22 = .ok (.ifCond .eq 29, 3) := by decide +kernel
theorem d_Txm_picture_25 : decode prog_19_method_4_code 25 = .ok (.iload 5, 2) := by decide +kernel
theorem d_Txm_picture_27 : decode prog_19_method_4_code 27 = .ok (.iconst 1, 1) := by decide +kernel
theorem d_Txm_picture_28 : decode prog_19_method_4_code 28 = .ok (.bipush 11, 2) := by decide +kernel
theorem d_Txm_picture_30 : decode prog_19_method_4_code 30 = .ok (.invokestatic 44, 3) := by decide +kernel
theorem d_Txm_picture_33 : decode prog_19_method_4_code 33 = .ok (.ifCond .eq 18, 3) := by decide +kernel
theorem d_Txm_picture_36 : decode prog_19_method_4_code 36 = .ok (.iload 6, 2) := by decide +kernel
theorem d_Txm_picture_38 : decode prog_19_method_4_code 38 = .ok (.iconst 0, 1) := by decide +kernel
theorem d_Txm_picture_39 : decode prog_19_method_4_code 39 = .ok (.bipush 7, 2) := by decide +kernel
theorem d_Txm_picture_41 : decode prog_19_method_4_code 41 = .ok (.invokestatic 44, 3) := by decide +kernel
theorem d_Txm_picture_44 : decode prog_19_method_4_code 44 = .ok (.ifCond .eq 7, 3) := by decide +kernel
theorem d_Txm_picture_47 : decode prog_19_method_4_code 47 = .ok (.iconst 1, 1) := by decide +kernel
theorem d_Txm_picture_48 : decode prog_19_method_4_code 48 = .ok (.goto 4, 3) := by decide +kernel
theorem d_Txm_picture_51 : decode prog_19_method_4_code 51 = .ok (.iconst 0, 1) := by decide +kernel
theorem d_Txm_picture_52 : decode prog_19_method_4_code 52 = .ok (.istore 7, 2) := by decide +kernel
theorem d_Txm_picture_54 : decode prog_19_method_4_code 54 = .ok (.aload_n 0, 1) := by decide +kernel
theorem d_Txm_picture_55 : decode prog_19_method_4_code 55 = .ok (.iload_n 1, 1) := by decide +kernel
theorem d_Txm_picture_56 : decode prog_19_method_4_code 56 = .ok (.iconst 0, 1) := by decide +kernel
theorem d_Txm_picture_57 : decode prog_19_method_4_code 57 = .ok (.iconst 3, 1) := by decide +kernel
theorem d_Txm_picture_58 : decode prog_19_method_4_code 58 = .ok (.invokestatic 44, 3) := by decide +kernel
theorem d_Txm_picture_61 : decode prog_19_method_4_code 61 = .ok (.ifCond .ne 7, 3) := by decide +kernel
theorem d_Txm_picture_64 : decode prog_19_method_4_code 64 = .ok (.iconst 1, 1) := by decide +kernel
theorem d_Txm_picture_65 : decode prog_19_method_4_code 65 = .ok (.goto 4, 3) := by decide +kernel
theorem d_Txm_picture_68 : decode prog_19_method_4_code 68 = .ok (.iconst 0, 1) := by decide +kernel
theorem d_Txm_picture_69 : decode prog_19_method_4_code 69 = .ok (.iload 7, 2) := by decide +kernel
theorem d_Txm_picture_71 : decode prog_19_method_4_code 71 = .ok (.ifCond .ne 7, 3) := by decide +kernel
theorem d_Txm_picture_74 : decode prog_19_method_4_code 74 = .ok (.iconst 1, 1) := by decide +kernel
theorem d_Txm_picture_75 : decode prog_19_method_4_code 75 = .ok (.goto 4, 3) := by decide +kernel
theorem d_Txm_picture_78 : decode prog_19_method_4_code 78 = .ok (.iconst 0, 1) := by decide +kernel
theorem d_Txm_picture_79 : decode prog_19_method_4_code 79 = .ok (.invokevirtual 48, 3) := by decide +kernel
theorem d_Txm_picture_82 : decode prog_19_method_4_code 82 = .ok (.ifCond .eq 4, 3) := by decide +kernel
theorem d_Txm_picture_85 : decode prog_19_method_4_code 85 = .ok (.return_, 1) := by decide +kernel
theorem d_Txm_picture_86 : decode prog_19_method_4_code 86 = .ok (.aload_n 0, 1) := by decide +kernel
theorem d_Txm_picture_87 : decode prog_19_method_4_code 87 = .ok (.getfield 7, 3) := by decide +kernel
theorem d_Txm_picture_90 : decode prog_19_method_4_code 90 = .ok (.bipush 8, 2) := by decide +kernel
theorem d_Txm_picture_92 : decode prog_19_method_4_code 92 = .ok (.iload_n 1, 1) := by decide +kernel
theorem d_Txm_picture_93 : decode prog_19_method_4_code 93 = .ok (.imul, 1) := by decide +kernel
theorem d_Txm_picture_94 : decode prog_19_method_4_code 94 = .ok (.iload_n 2, 1) := by decide +kernel
theorem d_Txm_picture_95 : decode prog_19_method_4_code 95 = .ok (.iastore, 1) := by decide +kernel
theorem d_Txm_picture_96 : decode prog_19_method_4_code 96 = .ok (.aload_n 0, 1) := by decide +kernel
theorem d_Txm_picture_97 : decode prog_19_method_4_code 97 = .ok (.getfield 7, 3) := by decide +kernel
theorem d_Txm_picture_100 : decode prog_19_method_4_code 100 = .ok (.bipush 8, 2) := by decide +kernel
theorem d_Txm_picture_102 : decode prog_19_method_4_code 102 = .ok (.iload_n 1, 1) := by decide +kernel
theorem d_Txm_picture_103 : decode prog_19_method_4_code 103 = .ok (.imul, 1) := by decide +kernel
theorem d_Txm_picture_104 : decode prog_19_method_4_code 104 = .ok (.iconst 1, 1) := by decide +kernel
theorem d_Txm_picture_105 : decode prog_19_method_4_code 105 = .ok (.iadd, 1) := by decide +kernel
theorem d_Txm_picture_106 : decode prog_19_method_4_code 106 = .ok (.iload_n 3, 1) := by decide +kernel
theorem d_Txm_picture_107 : decode prog_19_method_4_code 107 = .ok (.iastore, 1) := by decide +kernel
theorem d_Txm_picture_108 : decode prog_19_method_4_code 108 = .ok (.aload_n 0, 1) := by decide +kernel
theorem d_Txm_picture_109 : decode prog_19_method_4_code 109 = .ok (.getfield 7, 3) := by decide +kernel
theorem d_Txm_picture_112 : decode prog_19_method_4_code 112 = .ok (.bipush 8, 2) := by decide +kernel
theorem d_Txm_picture_114 : decode prog_19_method_4_code 114 = .ok (.iload_n 1, 1) := by decide +kernel
theorem d_Txm_picture_115 : decode prog_19_method_4_code 115 = .ok (.imul, 1) := by decide +kernel
theorem d_Txm_picture_116 : decode prog_19_method_4_code 116 = .ok (.iconst 2, 1) := by decide +kernel
theorem d_Txm_picture_117 : decode prog_19_method_4_code 117 = .ok (.iadd, 1) := by decide +kernel
theorem d_Txm_picture_118 : decode prog_19_method_4_code 118 = .ok (.iload 4, 2) := by decide +kernel
theorem d_Txm_picture_120 : decode prog_19_method_4_code 120 = .ok (.iastore, 1) := by decide +kernel
theorem d_Txm_picture_121 : decode prog_19_method_4_code 121 = .ok (.aload_n 0, 1) := by decide +kernel
theorem d_Txm_picture_122 : decode prog_19_method_4_code 122 = .ok (.getfield 7, 3) := by decide +kernel
theorem d_Txm_picture_125 : decode prog_19_method_4_code 125 = .ok (.bipush 8, 2) := by decide +kernel
theorem d_Txm_picture_127 : decode prog_19_method_4_code 127 = .ok (.iload_n 1, 1) := by decide +kernel
theorem d_Txm_picture_128 : decode prog_19_method_4_code 128 = .ok (.imul, 1) := by decide +kernel
theorem d_Txm_picture_129 : decode prog_19_method_4_code 129 = .ok (.iconst 3, 1) := by decide +kernel
theorem d_Txm_picture_130 : decode prog_19_method_4_code 130 = .ok (.iadd, 1) := by decide +kernel
theorem d_Txm_picture_131 : decode prog_19_method_4_code 131 = .ok (.iload 5, 2) := by decide +kernel
theorem d_Txm_picture_133 : decode prog_19_method_4_code 133 = .ok (.iastore, 1) := by decide +kernel
theorem d_Txm_picture_134 : decode prog_19_method_4_code 134 = .ok (.aload_n 0, 1) := by decide +kernel
theorem d_Txm_picture_135 : decode prog_19_method_4_code 135 = .ok (.getfield 7, 3) := by decide +kernel
theorem d_Txm_picture_138 : decode prog_19_method_4_code 138 = .ok (.bipush 8, 2) := by decide +kernel
theorem d_Txm_picture_140 : decode prog_19_method_4_code 140 = .ok (.iload_n 1, 1) := by decide +kernel
theorem d_Txm_picture_141 : decode prog_19_method_4_code 141 = .ok (.imul, 1) := by decide +kernel
theorem d_Txm_picture_142 : decode prog_19_method_4_code 142 = .ok (.iconst 4, 1) := by decide +kernel
theorem d_Txm_picture_143 : decode prog_19_method_4_code 143 = .ok (.iadd, 1) := by decide +kernel
theorem d_Txm_picture_144 : decode prog_19_method_4_code 144 = .ok (.iload 6, 2) := by decide +kernel
theorem d_Txm_picture_146 : decode prog_19_method_4_code 146 = .ok (.iastore, 1) := by decide +kernel
theorem d_Txm_picture_147 : decode prog_19_method_4_code 147 = .ok (.return_, 1) := by decide +kernel
def F_Txm_picture_79 (σ : Sg) (v1 : Int32) (v2 : Int32) (v3 : Int32) (v4 : Int32) (v5 : Int32) (v6 : Int32) (s1 : Int32) (s2 : Int32) : Option (Sg) := bd (F_Txm_refuse σ s1 s2) (fun o17 => if o17.2 = 0 then (ck (inb (8 * v1) 32) (lt (sA o17.1 5 (upd (o17.1.2.2.1 5) (8 * v1).toNatClampNeg v2)) (fun σ19 => ck (inb ((8 * v1) + 1) 32) (lt (sA σ19 5 (upd (σ19.2.2.1 5) ((8 * v1) + 1).toNatClampNeg v3)) (fun σ21 => ck (inb ((8 * v1) + 2) 32) (lt (sA σ21 5 (upd (σ21.2.2.1 5) ((8 * v1) + 2).toNatClampNeg v4)) (fun σ23 => ck (inb ((8 * v1) + 3) 32) (lt (sA σ23 5 (upd (σ23.2.2.1 5) ((8 * v1) + 3).toNatClampNeg v5)) (fun σ25 => ck (inb ((8 * v1) + 4) 32) (lt (sA σ25 5 (upd (σ25.2.2.1 5) ((8 * v1) + 4).toNatClampNeg v6)) (fun σ27 => some σ27))))))))))) else (some o17.1))
set_option maxRecDepth 10000 in
set_option maxHeartbeats 4000000 in
theorem bt_Txm_picture_79 {p : Program} {l : Launch} {e : Env} {R : Room} {s : State} {m : MethodId} {args : Array Value} {below : List Frame} {meth : Method} {c : Code} {D : va_G} {τ : ClassId × ClassId × ClassId} {B : Nat} {A : Nat → Prop} {ad : Nat → Nat} (E : Cx p R s m args meth c prog_19_method_4_code 8 "DrawingMachineModel$TextureUnitsModel" 1 D τ B A) (hret : meth.sig.returnType = none) (o : Sg) (σ : Sg) (v1 : Int32) (v2 : Int32) (v3 : Int32) (v4 : Int32) (v5 : Int32) (v6 : Int32) (s1 : Int32) (s2 : Int32) (h : F_Txm_picture_79 σ v1 v2 v3 v4 v5 v6 s1 s2 = some o) {H : Heap} {locs : List Loc} {ls : Array Slot} (w : Wd s D A (wdM τ σ ad) H locs) (hl : lv_has ls 8 [(0, .ref (ad 61)), (1, .int v1), (2, .int v2), (3, .int v3), (4, .int v4), (5, .int v5), (6, .int v6)]) : W p l e R s m args below meth c H locs 0 0 (QV below args s A D τ (wdM τ o ad)) (F0 m 79 ls [.int s2, .int s1, .ref (ad 61)]) := by
  obtain ⟨o17, h_o17, h⟩ := bd_some h
  refine clV_Txm_refuse E w (x0 := s1) (x1 := s2) h_o17 k2047 (by decide) hl.1 (Nat.le_of_ble_eq_true rfl) d_Txm_picture_79 (fun H locs w => ?_)
  refine lv_if_eq (tgt := 86) E.x E.b d_Txm_picture_82 (by decide) (fun c => ?_) (fun c => ?_)
  ·
    replace h := ifT c h
    refine lv_aload_n E.x E.b d_Txm_picture_86 rfl (lv_at hl 0 rfl) ?_
    refine gM_Txm_units E w k1515 d_Txm_picture_87 ?_
    refine lv_bipush (v := 8) E.x E.b d_Txm_picture_90 (by decide) ?_
    refine lv_iload_n E.x E.b d_Txm_picture_92 rfl (lv_at hl 1 rfl) ?_
    refine lv_imul E.x E.b d_Txm_picture_93 ?_
    refine lv_iload_n E.x E.b d_Txm_picture_94 rfl (lv_at hl 2 rfl) ?_
    obtain ⟨c18, h⟩ := ck_some h
    obtain ⟨σ19, e_σ19, h⟩ := lt_some h
    refine iasM E w (k := 5) (by decide) c18 e_σ19 d_Txm_picture_95 (fun H locs w => ?_)
    refine lv_aload_n E.x E.b d_Txm_picture_96 rfl (lv_at hl 0 rfl) ?_
    refine gM_Txm_units E w k1515 d_Txm_picture_97 ?_
    refine lv_bipush (v := 8) E.x E.b d_Txm_picture_100 (by decide) ?_
    refine lv_iload_n E.x E.b d_Txm_picture_102 rfl (lv_at hl 1 rfl) ?_
    refine lv_imul E.x E.b d_Txm_picture_103 ?_
    refine lv_iconst (v := 1) E.x E.b d_Txm_picture_104 (by decide) ?_
    refine lv_iadd E.x E.b d_Txm_picture_105 ?_
    refine lv_iload_n E.x E.b d_Txm_picture_106 rfl (lv_at hl 3 rfl) ?_
    obtain ⟨c20, h⟩ := ck_some h
    obtain ⟨σ21, e_σ21, h⟩ := lt_some h
    refine iasM E w (k := 5) (by decide) c20 e_σ21 d_Txm_picture_107 (fun H locs w => ?_)
    refine lv_aload_n E.x E.b d_Txm_picture_108 rfl (lv_at hl 0 rfl) ?_
    refine gM_Txm_units E w k1515 d_Txm_picture_109 ?_
    refine lv_bipush (v := 8) E.x E.b d_Txm_picture_112 (by decide) ?_
    refine lv_iload_n E.x E.b d_Txm_picture_114 rfl (lv_at hl 1 rfl) ?_
    refine lv_imul E.x E.b d_Txm_picture_115 ?_
    refine lv_iconst (v := 2) E.x E.b d_Txm_picture_116 (by decide) ?_
    refine lv_iadd E.x E.b d_Txm_picture_117 ?_
    refine lv_iload E.x E.b d_Txm_picture_118 (lv_at hl 4 rfl) ?_
    obtain ⟨c22, h⟩ := ck_some h
    obtain ⟨σ23, e_σ23, h⟩ := lt_some h
    refine iasM E w (k := 5) (by decide) c22 e_σ23 d_Txm_picture_120 (fun H locs w => ?_)
    refine lv_aload_n E.x E.b d_Txm_picture_121 rfl (lv_at hl 0 rfl) ?_
    refine gM_Txm_units E w k1515 d_Txm_picture_122 ?_
    refine lv_bipush (v := 8) E.x E.b d_Txm_picture_125 (by decide) ?_
    refine lv_iload_n E.x E.b d_Txm_picture_127 rfl (lv_at hl 1 rfl) ?_
    refine lv_imul E.x E.b d_Txm_picture_128 ?_
    refine lv_iconst (v := 3) E.x E.b d_Txm_picture_129 (by decide) ?_
    refine lv_iadd E.x E.b d_Txm_picture_130 ?_
    refine lv_iload E.x E.b d_Txm_picture_131 (lv_at hl 5 rfl) ?_
    obtain ⟨c24, h⟩ := ck_some h
    obtain ⟨σ25, e_σ25, h⟩ := lt_some h
    refine iasM E w (k := 5) (by decide) c24 e_σ25 d_Txm_picture_133 (fun H locs w => ?_)
    refine lv_aload_n E.x E.b d_Txm_picture_134 rfl (lv_at hl 0 rfl) ?_
    refine gM_Txm_units E w k1515 d_Txm_picture_135 ?_
    refine lv_bipush (v := 8) E.x E.b d_Txm_picture_138 (by decide) ?_
    refine lv_iload_n E.x E.b d_Txm_picture_140 rfl (lv_at hl 1 rfl) ?_
    refine lv_imul E.x E.b d_Txm_picture_141 ?_
    refine lv_iconst (v := 4) E.x E.b d_Txm_picture_142 (by decide) ?_
    refine lv_iadd E.x E.b d_Txm_picture_143 ?_
    refine lv_iload E.x E.b d_Txm_picture_144 (lv_at hl 6 rfl) ?_
    obtain ⟨c26, h⟩ := ck_some h
    obtain ⟨σ27, e_σ27, h⟩ := lt_some h
    refine iasM E w (k := 5) (by decide) c26 e_σ27 d_Txm_picture_146 (fun H locs w => ?_)
    obtain rfl := Option.some.inj h
    exact rt_v E w hret d_Txm_picture_147
  ·
    replace h := ifF c h
    obtain rfl := Option.some.inj h
    exact rt_v E w hret d_Txm_picture_85
def F_Txm_picture_69 (σ : Sg) (v1 : Int32) (v2 : Int32) (v3 : Int32) (v4 : Int32) (v5 : Int32) (v6 : Int32) (v7 : Int32) (s1 : Int32) : Option (Sg) := if v7 = 0 then (F_Txm_picture_79 σ v1 v2 v3 v4 v5 v6 s1 1) else (F_Txm_picture_79 σ v1 v2 v3 v4 v5 v6 s1 0)
set_option maxRecDepth 10000 in
set_option maxHeartbeats 4000000 in
theorem bt_Txm_picture_69 {p : Program} {l : Launch} {e : Env} {R : Room} {s : State} {m : MethodId} {args : Array Value} {below : List Frame} {meth : Method} {c : Code} {D : va_G} {τ : ClassId × ClassId × ClassId} {B : Nat} {A : Nat → Prop} {ad : Nat → Nat} (E : Cx p R s m args meth c prog_19_method_4_code 8 "DrawingMachineModel$TextureUnitsModel" 1 D τ B A) (hret : meth.sig.returnType = none) (o : Sg) (σ : Sg) (v1 : Int32) (v2 : Int32) (v3 : Int32) (v4 : Int32) (v5 : Int32) (v6 : Int32) (v7 : Int32) (s1 : Int32) (h : F_Txm_picture_69 σ v1 v2 v3 v4 v5 v6 v7 s1 = some o) {H : Heap} {locs : List Loc} {ls : Array Slot} (w : Wd s D A (wdM τ σ ad) H locs) (hl : lv_has ls 8 [(0, .ref (ad 61)), (1, .int v1), (2, .int v2), (3, .int v3), (4, .int v4), (5, .int v5), (6, .int v6), (7, .int v7)]) : W p l e R s m args below meth c H locs 0 0 (QV below args s A D τ (wdM τ o ad)) (F0 m 69 ls [.int s1, .ref (ad 61)]) := by
  refine lv_iload E.x E.b d_Txm_picture_69 (lv_at hl 7 rfl) ?_
  refine lv_if_ne (tgt := 78) E.x E.b d_Txm_picture_71 (by decide) (fun c => ?_) (fun c => ?_)
  ·
    replace h := ifF c h
    refine lv_iconst (v := 0) E.x E.b d_Txm_picture_78 (by decide) ?_
    exact bt_Txm_picture_79 E hret o σ v1 v2 v3 v4 v5 v6 s1 0 h w (lv_sub hl [0, 1, 2, 3, 4, 5, 6] rfl)
  ·
    replace h := ifT c h
    refine lv_iconst (v := 1) E.x E.b d_Txm_picture_74 (by decide) ?_
    refine lv_goto (tgt := 79) E.x E.b d_Txm_picture_75 (by decide) ?_
    exact bt_Txm_picture_79 E hret o σ v1 v2 v3 v4 v5 v6 s1 1 h w (lv_sub hl [0, 1, 2, 3, 4, 5, 6] rfl)
def F_Txm_picture_52 (σ : Sg) (v1 : Int32) (v2 : Int32) (v3 : Int32) (v4 : Int32) (v5 : Int32) (v6 : Int32) (s0 : Int32) : Option (Sg) := bd (F_Txm_in v1 0 3) (fun o28 => if o28 = 0 then (F_Txm_picture_69 σ v1 v2 v3 v4 v5 v6 s0 1) else (F_Txm_picture_69 σ v1 v2 v3 v4 v5 v6 s0 0))
set_option maxRecDepth 10000 in
set_option maxHeartbeats 4000000 in
theorem bt_Txm_picture_52 {p : Program} {l : Launch} {e : Env} {R : Room} {s : State} {m : MethodId} {args : Array Value} {below : List Frame} {meth : Method} {c : Code} {D : va_G} {τ : ClassId × ClassId × ClassId} {B : Nat} {A : Nat → Prop} {ad : Nat → Nat} (E : Cx p R s m args meth c prog_19_method_4_code 8 "DrawingMachineModel$TextureUnitsModel" 1 D τ B A) (hret : meth.sig.returnType = none) (o : Sg) (σ : Sg) (v1 : Int32) (v2 : Int32) (v3 : Int32) (v4 : Int32) (v5 : Int32) (v6 : Int32) (s0 : Int32) (h : F_Txm_picture_52 σ v1 v2 v3 v4 v5 v6 s0 = some o) {H : Heap} {locs : List Loc} {ls : Array Slot} (w : Wd s D A (wdM τ σ ad) H locs) (hl : lv_has ls 8 [(0, .ref (ad 61)), (1, .int v1), (2, .int v2), (3, .int v3), (4, .int v4), (5, .int v5), (6, .int v6)]) : W p l e R s m args below meth c H locs 0 0 (QV below args s A D τ (wdM τ o ad)) (F0 m 52 ls [.int s0]) := by
  refine lv_istore (lv' := [(7, .int s0), (0, .ref (ad 61)), (1, .int v1), (2, .int v2), (3, .int v3), (4, .int v4), (5, .int v5), (6, .int v6)]) E.x E.b d_Txm_picture_52 hl (by decide) rfl (fun ls hl => ?_)
  refine lv_aload_n E.x E.b d_Txm_picture_54 rfl (lv_at hl 1 rfl) ?_
  refine lv_iload_n E.x E.b d_Txm_picture_55 rfl (lv_at hl 2 rfl) ?_
  refine lv_iconst (v := 0) E.x E.b d_Txm_picture_56 (by decide) ?_
  refine lv_iconst (v := 3) E.x E.b d_Txm_picture_57 (by decide) ?_
  obtain ⟨o28, h_o28, h⟩ := bd_some h
  refine clS_Txm_in E w (x0 := v1) (x1 := 0) (x2 := 3) h_o28 k2044 (by decide) hl.1 (Nat.le_of_ble_eq_true rfl) d_Txm_picture_58 (fun H locs w => ?_)
  refine lv_if_ne (tgt := 68) E.x E.b d_Txm_picture_61 (by decide) (fun c => ?_) (fun c => ?_)
  ·
    replace h := ifF c h
    refine lv_iconst (v := 0) E.x E.b d_Txm_picture_68 (by decide) ?_
    exact bt_Txm_picture_69 E hret o σ v1 v2 v3 v4 v5 v6 s0 0 h w (lv_sub hl [1, 2, 3, 4, 5, 6, 7, 0] rfl)
  ·
    replace h := ifT c h
    refine lv_iconst (v := 1) E.x E.b d_Txm_picture_64 (by decide) ?_
    refine lv_goto (tgt := 69) E.x E.b d_Txm_picture_65 (by decide) ?_
    exact bt_Txm_picture_69 E hret o σ v1 v2 v3 v4 v5 v6 s0 1 h w (lv_sub hl [1, 2, 3, 4, 5, 6, 7, 0] rfl)
def F_Txm_picture_51 (σ : Sg) (v1 : Int32) (v2 : Int32) (v3 : Int32) (v4 : Int32) (v5 : Int32) (v6 : Int32) : Option (Sg) := F_Txm_picture_52 σ v1 v2 v3 v4 v5 v6 0
set_option maxRecDepth 10000 in
set_option maxHeartbeats 4000000 in
theorem bt_Txm_picture_51 {p : Program} {l : Launch} {e : Env} {R : Room} {s : State} {m : MethodId} {args : Array Value} {below : List Frame} {meth : Method} {c : Code} {D : va_G} {τ : ClassId × ClassId × ClassId} {B : Nat} {A : Nat → Prop} {ad : Nat → Nat} (E : Cx p R s m args meth c prog_19_method_4_code 8 "DrawingMachineModel$TextureUnitsModel" 1 D τ B A) (hret : meth.sig.returnType = none) (o : Sg) (σ : Sg) (v1 : Int32) (v2 : Int32) (v3 : Int32) (v4 : Int32) (v5 : Int32) (v6 : Int32) (h : F_Txm_picture_51 σ v1 v2 v3 v4 v5 v6 = some o) {H : Heap} {locs : List Loc} {ls : Array Slot} (w : Wd s D A (wdM τ σ ad) H locs) (hl : lv_has ls 8 [(0, .ref (ad 61)), (1, .int v1), (2, .int v2), (3, .int v3), (4, .int v4), (5, .int v5), (6, .int v6)]) : W p l e R s m args below meth c H locs 0 0 (QV below args s A D τ (wdM τ o ad)) (F0 m 51 ls []) := by
  refine lv_iconst (v := 0) E.x E.b d_Txm_picture_51 (by decide) ?_
  exact bt_Txm_picture_52 E hret o σ v1 v2 v3 v4 v5 v6 0 h w (lv_sub hl [0, 1, 2, 3, 4, 5, 6] rfl)
def F_Txm_picture (σ : Sg) (x0 : Int32) (x1 : Int32) (x2 : Int32) (x3 : Int32) (x4 : Int32) (x5 : Int32) : Option (Sg) := if x1 < 0 then (F_Txm_picture_51 σ x0 x1 x2 x3 x4 x5) else (bd (F_Txm_in x2 0 10) (fun o29 => if o29 = 0 then (F_Txm_picture_51 σ x0 x1 x2 x3 x4 x5) else (bd (F_Txm_in x3 0 10) (fun o30 => if o30 = 0 then (F_Txm_picture_51 σ x0 x1 x2 x3 x4 x5) else (bd (F_Txm_in x4 1 11) (fun o31 => if o31 = 0 then (F_Txm_picture_51 σ x0 x1 x2 x3 x4 x5) else (bd (F_Txm_in x5 0 7) (fun o32 => if o32 = 0 then (F_Txm_picture_51 σ x0 x1 x2 x3 x4 x5) else (F_Txm_picture_52 σ x0 x1 x2 x3 x4 x5 1)))))))))
set_option maxRecDepth 10000 in
set_option maxHeartbeats 4000000 in
theorem c_Txm_picture (l : Launch) (D : va_G) (τ : ClassId × ClassId × ClassId) (B : Nat) (σ : Sg) (ad : Nat → Nat) (x0 : Int32) (x1 : Int32) (x2 : Int32) (x3 : Int32) (x4 : Int32) (x5 : Int32) (o : Sg) (h : F_Txm_picture σ x0 x1 x2 x3 x4 x5 = some o) : MV l y_Txm_picture (Cond.code y_Txm_picture prog_19_method_4_code 8 none) 1 D τ B [.ref (ad 61), .int x0, .int x1, .int x2, .int x3, .int x4, .int x5] (wdM τ σ ad) (wdM τ o ad) := by
  refine en_v (by decide) (Nat.le_of_ble_eq_true rfl) ?_
  intro p e R s m args below meth c H locs ls A E hret w hl
  have E : Cx p R s m args meth c prog_19_method_4_code 8 "DrawingMachineModel$TextureUnitsModel" 1 D τ B A := E
  have hl : lv_has ls 8 [(0, .ref (ad 61)), (1, .int x0), (2, .int x1), (3, .int x2), (4, .int x3), (5, .int x4), (6, .int x5)] := hl
  refine lv_iload_n E.x E.b d_Txm_picture_0 rfl (lv_at hl 2 rfl) ?_
  refine lv_if_lt (tgt := 51) E.x E.b d_Txm_picture_1 (by decide) (fun c => ?_) (fun c => ?_)
  ·
    replace h := ifT c h
    exact bt_Txm_picture_51 E hret o σ x0 x1 x2 x3 x4 x5 h w (lv_sub hl [0, 1, 2, 3, 4, 5, 6] rfl)
  ·
    replace h := ifF c h
    refine lv_iload_n E.x E.b d_Txm_picture_4 rfl (lv_at hl 3 rfl) ?_
    refine lv_iconst (v := 0) E.x E.b d_Txm_picture_5 (by decide) ?_
    refine lv_bipush (v := 10) E.x E.b d_Txm_picture_6 (by decide) ?_
    obtain ⟨o29, h_o29, h⟩ := bd_some h
    refine clS_Txm_in E w (x0 := x2) (x1 := 0) (x2 := 10) h_o29 k2044 (by decide) hl.1 (Nat.le_of_ble_eq_true rfl) d_Txm_picture_8 (fun H locs w => ?_)
    refine lv_if_eq (tgt := 51) E.x E.b d_Txm_picture_11 (by decide) (fun c => ?_) (fun c => ?_)
    ·
      replace h := ifT c h
      exact bt_Txm_picture_51 E hret o σ x0 x1 x2 x3 x4 x5 h w (lv_sub hl [0, 1, 2, 3, 4, 5, 6] rfl)
    ·
      replace h := ifF c h
      refine lv_iload E.x E.b d_Txm_picture_14 (lv_at hl 4 rfl) ?_
      refine lv_iconst (v := 0) E.x E.b d_Txm_picture_16 (by decide) ?_
      refine lv_bipush (v := 10) E.x E.b d_Txm_picture_17 (by decide) ?_
      obtain ⟨o30, h_o30, h⟩ := bd_some h
      refine clS_Txm_in E w (x0 := x3) (x1 := 0) (x2 := 10) h_o30 k2044 (by decide) hl.1 (Nat.le_of_ble_eq_true rfl) d_Txm_picture_19 (fun H locs w => ?_)
      refine lv_if_eq (tgt := 51) E.x E.b d_Txm_picture_22 (by decide) (fun c => ?_) (fun c => ?_)
      ·
        replace h := ifT c h
        exact bt_Txm_picture_51 E hret o σ x0 x1 x2 x3 x4 x5 h w (lv_sub hl [0, 1, 2, 3, 4, 5, 6] rfl)
      ·
        replace h := ifF c h
        refine lv_iload E.x E.b d_Txm_picture_25 (lv_at hl 5 rfl) ?_
        refine lv_iconst (v := 1) E.x E.b d_Txm_picture_27 (by decide) ?_
        refine lv_bipush (v := 11) E.x E.b d_Txm_picture_28 (by decide) ?_
        obtain ⟨o31, h_o31, h⟩ := bd_some h
        refine clS_Txm_in E w (x0 := x4) (x1 := 1) (x2 := 11) h_o31 k2044 (by decide) hl.1 (Nat.le_of_ble_eq_true rfl) d_Txm_picture_30 (fun H locs w => ?_)
        refine lv_if_eq (tgt := 51) E.x E.b d_Txm_picture_33 (by decide) (fun c => ?_) (fun c => ?_)
        ·
          replace h := ifT c h
          exact bt_Txm_picture_51 E hret o σ x0 x1 x2 x3 x4 x5 h w (lv_sub hl [0, 1, 2, 3, 4, 5, 6] rfl)
        ·
          replace h := ifF c h
          refine lv_iload E.x E.b d_Txm_picture_36 (lv_at hl 6 rfl) ?_
          refine lv_iconst (v := 0) E.x E.b d_Txm_picture_38 (by decide) ?_
          refine lv_bipush (v := 7) E.x E.b d_Txm_picture_39 (by decide) ?_
          obtain ⟨o32, h_o32, h⟩ := bd_some h
          refine clS_Txm_in E w (x0 := x5) (x1 := 0) (x2 := 7) h_o32 k2044 (by decide) hl.1 (Nat.le_of_ble_eq_true rfl) d_Txm_picture_41 (fun H locs w => ?_)
          refine lv_if_eq (tgt := 51) E.x E.b d_Txm_picture_44 (by decide) (fun c => ?_) (fun c => ?_)
          ·
            replace h := ifT c h
            exact bt_Txm_picture_51 E hret o σ x0 x1 x2 x3 x4 x5 h w (lv_sub hl [0, 1, 2, 3, 4, 5, 6] rfl)
          ·
            replace h := ifF c h
            refine lv_iconst (v := 1) E.x E.b d_Txm_picture_47 (by decide) ?_
            refine lv_goto (tgt := 52) E.x E.b d_Txm_picture_48 (by decide) ?_
            exact bt_Txm_picture_52 E hret o σ x0 x1 x2 x3 x4 x5 1 h w (lv_sub hl [0, 1, 2, 3, 4, 5, 6] rfl)
theorem clV_Txm_picture {p : Program} {l : Launch} {e : Env} {R : Room} {s : State} {m : MethodId} {args : Array Value} {below : List Frame} {meth : Method} {c : Code} {H : Heap} {locs : List Loc} {Q : State → Prop} {cc : ByteArray} {nL pc lev : Nat} {own : String} {D : va_G} {τ : ClassId × ClassId × ClassId} {B : Nat} {A : Nat → Prop} {σ : Sg} {ad : Nat → Nat} {ls : Array Slot} {rest : List Value} (E : Cx p R s m args meth c cc nL own lev D τ B A) (w : Wd s D A (wdM τ σ ad) H locs) {x0 : Int32} {x1 : Int32} {x2 : Int32} {x3 : Int32} {x4 : Int32} {x5 : Int32} {o : Sg} (h : F_Txm_picture σ x0 x1 x2 x3 x4 x5 = some o) {index : Nat} (hlk : Cond.methodLink own index y_Txm_picture ∈ tw) (hlev : 1 < lev) (hsz : ls.size = nL) (hr : (rest.map fun v => v.category).sum ≤ 8) (hd : decode cc pc = .ok (.invokevirtual index, 3)) (kk : ∀ (H1 : Heap) (locs1 : List Loc), Wd s D A (wdM τ o ad) H1 locs1 → W p l e R s m args below meth c H1 locs1 0 0 Q (F0 m (pc + 3) ls (rest))) : W p l e R s m args below meth c H locs 0 0 Q (F0 m pc ls (.int x5 :: .int x4 :: .int x3 :: .int x2 :: .int x1 :: .int x0 :: .ref (ad 61) :: rest)) :=
  cr_v w E.C (va_runV (As := [.int x0, .int x1, .int x2, .int x3, .int x4, .int x5]) (rest := rest) E.fix (c_Txm_picture l D τ B σ ad x0 x1 x2 x3 x4 x5 o h H.size) (cwV 6 E.w (tw_pre (tw_good k2043) (l := [_, _, _, _]) (List.forall_mem_cons.mpr ⟨hlk, List.forall_mem_cons.mpr ⟨k2041, List.forall_mem_cons.mpr ⟨k2042, List.forall_mem_cons.mpr ⟨k16, fun _ h => absurd h List.not_mem_nil⟩⟩⟩⟩)) rfl rfl rfl (by decide +kernel) (E.rm hlev (by decide))) (wd_preV w E.C [.int x0, .int x1, .int x2, .int x3, .int x4, .int x5] rcM_Txm rfl) rfl rfl hsz rfl (lv_room hr) hd ⟨Nat.zero_le _, Nat.zero_le _⟩) kk

theorem d_Vwm_attribute_0 : decode prog_20_method_6_code 0 = .ok (.aload_n 0, 1) := by decide +kernel
theorem d_Vwm_attribute_1 : decode prog_20_method_6_code 1 = .ok (.iload_n 1, 1) := by decide +kernel
theorem d_Vwm_attribute_2 : decode prog_20_method_6_code 2 = .ok (.iconst 0, 1) := by decide +kernel
theorem d_Vwm_attribute_3 : decode prog_20_method_6_code 3 = .ok (.bipush 7, 2) := by decide +kernel
theorem d_Vwm_attribute_5 : decode prog_20_method_6_code 5 = .ok (.invokestatic 38, 3) := by decide +kernel
theorem d_Vwm_attribute_8 : decode prog_20_method_6_code 8 = .ok (.ifCond .eq 31, 3) := by decide +kernel
theorem d_Vwm_attribute_11 : decode prog_20_method_6_code 11 = .ok (.iload_n 2, 1) := by decide +kernel
theorem d_Vwm_attribute_12 : decode prog_20_method_6_code 12 = .ok (.ifCond .lt 27, 3) := by decide +kernel
theorem d_Vwm_attribute_15 : decode prog_20_method_6_code 15 = .ok (.iload_n 3, 1) := by decide +kernel
theorem d_Vwm_attribute_16 : decode prog_20_method_6_code 16 = .ok (.ifCond .lt 23, 3) := by decide +kernel
theorem d_Vwm_attribute_19 : decode prog_20_method_6_code 19 = .ok (.iload 4, 2) := by decide +kernel
theorem d_Vwm_attribute_21 : decode prog_20_method_6_code 21 = .ok (.iconst 0, 1) := by decide +kernel
theorem d_Vwm_attribute_22 : decode prog_20_method_6_code 22 = .ok (.iconst 4, 1) := by decide +kernel
theorem d_Vwm_attribute_23 : decode prog_20_method_6_code 23 = .ok (.invokestatic 38, 3) := by decide +kernel
theorem d_Vwm_attribute_26 : decode prog_20_method_6_code 26 = .ok (.ifCond .eq 13, 3) := by decide +kernel
theorem d_Vwm_attribute_29 : decode prog_20_method_6_code 29 = .ok (.iload 5, 2) := by decide +kernel
theorem d_Vwm_attribute_31 : decode prog_20_method_6_code 31 = .ok (.iconst 0, 1) := by decide +kernel
theorem d_Vwm_attribute_32 : decode prog_20_method_6_code 32 = .ok (.iconst 3, 1) := by decide +kernel
theorem d_Vwm_attribute_33 : decode prog_20_method_6_code 33 = .ok (.invokestatic 38, 3) := by decide +kernel
theorem d_Vwm_attribute_36 : decode prog_20_method_6_code 36 = .ok (.ifCond .ne 7, 3) := by decide +kernel
theorem d_Vwm_attribute_39 : decode prog_20_method_6_code 39 = .ok (.iconst 1, 1) := by decide +kernel
theorem d_Vwm_attribute_40 : decode prog_20_method_6_code 40 = .ok (.goto 4, 3) := by decide +kernel
theorem d_Vwm_attribute_43 : decode prog_20_method_6_code 43 = .ok (.iconst 0, 1) := by decide +kernel
theorem d_Vwm_attribute_44 : decode prog_20_method_6_code 44 = .ok (.iconst 0, 1) := by decide +kernel
theorem d_Vwm_attribute_45 : decode prog_20_method_6_code 45 = .ok (.invokevirtual 42, 3) := by decide +kernel
theorem d_Vwm_attribute_48 : decode prog_20_method_6_code 48 = .ok (.ifCond .eq 4, 3) := by decide +kernel
theorem d_Vwm_attribute_51 : decode prog_20_method_6_code 51 = .ok (.return_, 1) := by decide +kernel
theorem d_Vwm_attribute_52 : decode prog_20_method_6_code 52 = .ok (.aload_n 0, 1) := by decide +kernel
theorem d_Vwm_attribute_53 : decode prog_20_method_6_code 53 = .ok (.getfield 7, 3) := by decide +kernel
theorem d_Vwm_attribute_56 : decode prog_20_method_6_code 56 = .ok (.iconst 4, 1) := by decide +kernel
theorem d_Vwm_attribute_57 : decode prog_20_method_6_code 57 = .ok (.iload_n 1, 1) := by decide +kernel
theorem d_Vwm_attribute_58 : decode prog_20_method_6_code 58 = .ok (.imul, 1) := by decide +kernel
theorem d_Vwm_attribute_59 : decode prog_20_method_6_code 59 = .ok (.iload_n 2, 1) := by decide +kernel
theorem d_Vwm_attribute_60 : decode prog_20_method_6_code 60 = .ok (.iastore, 1) := by decide +kernel
theorem d_Vwm_attribute_61 : decode prog_20_method_6_code 61 = .ok (.aload_n 0, 1) := by decide +kernel
theorem d_Vwm_attribute_62 : decode prog_20_method_6_code 62 = .ok (.getfield 7, 3) := by decide +kernel
theorem d_Vwm_attribute_65 : decode prog_20_method_6_code 65 = .ok (.iconst 4, 1) := by decide +kernel
theorem d_Vwm_attribute_66 : decode prog_20_method_6_code 66 = .ok (.iload_n 1, 1) := by decide +kernel
theorem d_Vwm_attribute_67 : decode prog_20_method_6_code 67 = .ok (.imul, 1) := by decide +kernel
theorem d_Vwm_attribute_68 : decode prog_20_method_6_code 68 = .ok (.iconst 1, 1) := by decide +kernel
theorem d_Vwm_attribute_69 : decode prog_20_method_6_code 69 = .ok (.iadd, 1) := by decide +kernel
theorem d_Vwm_attribute_70 : decode prog_20_method_6_code 70 = .ok (.iload_n 3, 1) := by decide +kernel
theorem d_Vwm_attribute_71 : decode prog_20_method_6_code 71 = .ok (.iastore, 1) := by decide +kernel
theorem d_Vwm_attribute_72 : decode prog_20_method_6_code 72 = .ok (.aload_n 0, 1) := by decide +kernel
theorem d_Vwm_attribute_73 : decode prog_20_method_6_code 73 = .ok (.getfield 7, 3) := by decide +kernel
theorem d_Vwm_attribute_76 : decode prog_20_method_6_code 76 = .ok (.iconst 4, 1) := by decide +kernel
theorem d_Vwm_attribute_77 : decode prog_20_method_6_code 77 = .ok (.iload_n 1, 1) := by decide +kernel
theorem d_Vwm_attribute_78 : decode prog_20_method_6_code 78 = .ok (.imul, 1) := by decide +kernel
theorem d_Vwm_attribute_79 : decode prog_20_method_6_code 79 = .ok (.iconst 2, 1) := by decide +kernel
theorem d_Vwm_attribute_80 : decode prog_20_method_6_code 80 = .ok (.iadd, 1) := by decide +kernel
theorem d_Vwm_attribute_81 : decode prog_20_method_6_code 81 = .ok (.iload 4, 2) := by decide +kernel
theorem d_Vwm_attribute_83 : decode prog_20_method_6_code 83 = .ok (.iastore, 1) := by decide +kernel
theorem d_Vwm_attribute_84 : decode prog_20_method_6_code 84 = .ok (.aload_n 0, 1) := by decide +kernel
theorem d_Vwm_attribute_85 : decode prog_20_method_6_code 85 = .ok (.getfield 7, 3) := by decide +kernel
theorem d_Vwm_attribute_88 : decode prog_20_method_6_code 88 = .ok (.iconst 4, 1) := by decide +kernel
theorem d_Vwm_attribute_89 : decode prog_20_method_6_code 89 = .ok (.iload_n 1, 1) := by decide +kernel
theorem d_Vwm_attribute_90 : decode prog_20_method_6_code 90 = .ok (.imul, 1) := by decide +kernel
theorem d_Vwm_attribute_91 : decode prog_20_method_6_code 91 = .ok (.iconst 3, 1) := by decide +kernel
theorem d_Vwm_attribute_92 : decode prog_20_method_6_code 92 = .ok (.iadd, 1) := by decide +kernel
theorem d_Vwm_attribute_93 : decode prog_20_method_6_code 93 = .ok (.iload 5, 2) := by decide +kernel
theorem d_Vwm_attribute_95 : decode prog_20_method_6_code 95 = .ok (.iastore, 1) := by decide +kernel
theorem d_Vwm_attribute_96 : decode prog_20_method_6_code 96 = .ok (.return_, 1) := by decide +kernel
def F_Vwm_attribute_44 (σ : Sg) (v1 : Int32) (v2 : Int32) (v3 : Int32) (v4 : Int32) (v5 : Int32) (s1 : Int32) : Option (Sg) := bd (F_Vwm_refuse σ s1 0) (fun o13 => if o13.2 = 0 then (ck (inb (4 * v1) 32) (lt (sA o13.1 34 (upd (o13.1.2.2.1 34) (4 * v1).toNatClampNeg v2)) (fun σ15 => ck (inb ((4 * v1) + 1) 32) (lt (sA σ15 34 (upd (σ15.2.2.1 34) ((4 * v1) + 1).toNatClampNeg v3)) (fun σ17 => ck (inb ((4 * v1) + 2) 32) (lt (sA σ17 34 (upd (σ17.2.2.1 34) ((4 * v1) + 2).toNatClampNeg v4)) (fun σ19 => ck (inb ((4 * v1) + 3) 32) (lt (sA σ19 34 (upd (σ19.2.2.1 34) ((4 * v1) + 3).toNatClampNeg v5)) (fun σ21 => some σ21))))))))) else (some o13.1))
set_option maxRecDepth 10000 in
set_option maxHeartbeats 4000000 in
theorem bt_Vwm_attribute_44 {p : Program} {l : Launch} {e : Env} {R : Room} {s : State} {m : MethodId} {args : Array Value} {below : List Frame} {meth : Method} {c : Code} {D : va_G} {τ : ClassId × ClassId × ClassId} {B : Nat} {A : Nat → Prop} {ad : Nat → Nat} (E : Cx p R s m args meth c prog_20_method_6_code 6 "DrawingMachineModel$VertexWorkModel" 1 D τ B A) (hret : meth.sig.returnType = none) (o : Sg) (σ : Sg) (v1 : Int32) (v2 : Int32) (v3 : Int32) (v4 : Int32) (v5 : Int32) (s1 : Int32) (h : F_Vwm_attribute_44 σ v1 v2 v3 v4 v5 s1 = some o) {H : Heap} {locs : List Loc} {ls : Array Slot} (w : Wd s D A (wdM τ σ ad) H locs) (hl : lv_has ls 6 [(0, .ref (ad 62)), (1, .int v1), (2, .int v2), (3, .int v3), (4, .int v4), (5, .int v5)]) : W p l e R s m args below meth c H locs 0 0 (QV below args s A D τ (wdM τ o ad)) (F0 m 44 ls [.int s1, .ref (ad 62)]) := by
  refine lv_iconst (v := 0) E.x E.b d_Vwm_attribute_44 (by decide) ?_
  obtain ⟨o13, h_o13, h⟩ := bd_some h
  refine clV_Vwm_refuse E w (x0 := s1) (x1 := 0) h_o13 k2028 (by decide) hl.1 (Nat.le_of_ble_eq_true rfl) d_Vwm_attribute_45 (fun H locs w => ?_)
  refine lv_if_eq (tgt := 52) E.x E.b d_Vwm_attribute_48 (by decide) (fun c => ?_) (fun c => ?_)
  ·
    replace h := ifT c h
    refine lv_aload_n E.x E.b d_Vwm_attribute_52 rfl (lv_at hl 0 rfl) ?_
    refine gM_Vwm_attributes E w k1623 d_Vwm_attribute_53 ?_
    refine lv_iconst (v := 4) E.x E.b d_Vwm_attribute_56 (by decide) ?_
    refine lv_iload_n E.x E.b d_Vwm_attribute_57 rfl (lv_at hl 1 rfl) ?_
    refine lv_imul E.x E.b d_Vwm_attribute_58 ?_
    refine lv_iload_n E.x E.b d_Vwm_attribute_59 rfl (lv_at hl 2 rfl) ?_
    obtain ⟨c14, h⟩ := ck_some h
    obtain ⟨σ15, e_σ15, h⟩ := lt_some h
    refine iasM E w (k := 34) (by decide) c14 e_σ15 d_Vwm_attribute_60 (fun H locs w => ?_)
    refine lv_aload_n E.x E.b d_Vwm_attribute_61 rfl (lv_at hl 0 rfl) ?_
    refine gM_Vwm_attributes E w k1623 d_Vwm_attribute_62 ?_
    refine lv_iconst (v := 4) E.x E.b d_Vwm_attribute_65 (by decide) ?_
    refine lv_iload_n E.x E.b d_Vwm_attribute_66 rfl (lv_at hl 1 rfl) ?_
    refine lv_imul E.x E.b d_Vwm_attribute_67 ?_
    refine lv_iconst (v := 1) E.x E.b d_Vwm_attribute_68 (by decide) ?_
    refine lv_iadd E.x E.b d_Vwm_attribute_69 ?_
    refine lv_iload_n E.x E.b d_Vwm_attribute_70 rfl (lv_at hl 3 rfl) ?_
    obtain ⟨c16, h⟩ := ck_some h
    obtain ⟨σ17, e_σ17, h⟩ := lt_some h
    refine iasM E w (k := 34) (by decide) c16 e_σ17 d_Vwm_attribute_71 (fun H locs w => ?_)
    refine lv_aload_n E.x E.b d_Vwm_attribute_72 rfl (lv_at hl 0 rfl) ?_
    refine gM_Vwm_attributes E w k1623 d_Vwm_attribute_73 ?_
    refine lv_iconst (v := 4) E.x E.b d_Vwm_attribute_76 (by decide) ?_
    refine lv_iload_n E.x E.b d_Vwm_attribute_77 rfl (lv_at hl 1 rfl) ?_
    refine lv_imul E.x E.b d_Vwm_attribute_78 ?_
    refine lv_iconst (v := 2) E.x E.b d_Vwm_attribute_79 (by decide) ?_
    refine lv_iadd E.x E.b d_Vwm_attribute_80 ?_
    refine lv_iload E.x E.b d_Vwm_attribute_81 (lv_at hl 4 rfl) ?_
    obtain ⟨c18, h⟩ := ck_some h
    obtain ⟨σ19, e_σ19, h⟩ := lt_some h
    refine iasM E w (k := 34) (by decide) c18 e_σ19 d_Vwm_attribute_83 (fun H locs w => ?_)
    refine lv_aload_n E.x E.b d_Vwm_attribute_84 rfl (lv_at hl 0 rfl) ?_
    refine gM_Vwm_attributes E w k1623 d_Vwm_attribute_85 ?_
    refine lv_iconst (v := 4) E.x E.b d_Vwm_attribute_88 (by decide) ?_
    refine lv_iload_n E.x E.b d_Vwm_attribute_89 rfl (lv_at hl 1 rfl) ?_
    refine lv_imul E.x E.b d_Vwm_attribute_90 ?_
    refine lv_iconst (v := 3) E.x E.b d_Vwm_attribute_91 (by decide) ?_
    refine lv_iadd E.x E.b d_Vwm_attribute_92 ?_
    refine lv_iload E.x E.b d_Vwm_attribute_93 (lv_at hl 5 rfl) ?_
    obtain ⟨c20, h⟩ := ck_some h
    obtain ⟨σ21, e_σ21, h⟩ := lt_some h
    refine iasM E w (k := 34) (by decide) c20 e_σ21 d_Vwm_attribute_95 (fun H locs w => ?_)
    obtain rfl := Option.some.inj h
    exact rt_v E w hret d_Vwm_attribute_96
  ·
    replace h := ifF c h
    obtain rfl := Option.some.inj h
    exact rt_v E w hret d_Vwm_attribute_51
def F_Vwm_attribute_39 (σ : Sg) (v1 : Int32) (v2 : Int32) (v3 : Int32) (v4 : Int32) (v5 : Int32) : Option (Sg) := F_Vwm_attribute_44 σ v1 v2 v3 v4 v5 1
set_option maxRecDepth 10000 in
set_option maxHeartbeats 4000000 in
theorem bt_Vwm_attribute_39 {p : Program} {l : Launch} {e : Env} {R : Room} {s : State} {m : MethodId} {args : Array Value} {below : List Frame} {meth : Method} {c : Code} {D : va_G} {τ : ClassId × ClassId × ClassId} {B : Nat} {A : Nat → Prop} {ad : Nat → Nat} (E : Cx p R s m args meth c prog_20_method_6_code 6 "DrawingMachineModel$VertexWorkModel" 1 D τ B A) (hret : meth.sig.returnType = none) (o : Sg) (σ : Sg) (v1 : Int32) (v2 : Int32) (v3 : Int32) (v4 : Int32) (v5 : Int32) (h : F_Vwm_attribute_39 σ v1 v2 v3 v4 v5 = some o) {H : Heap} {locs : List Loc} {ls : Array Slot} (w : Wd s D A (wdM τ σ ad) H locs) (hl : lv_has ls 6 [(0, .ref (ad 62)), (1, .int v1), (2, .int v2), (3, .int v3), (4, .int v4), (5, .int v5)]) : W p l e R s m args below meth c H locs 0 0 (QV below args s A D τ (wdM τ o ad)) (F0 m 39 ls [.ref (ad 62)]) := by
  refine lv_iconst (v := 1) E.x E.b d_Vwm_attribute_39 (by decide) ?_
  refine lv_goto (tgt := 44) E.x E.b d_Vwm_attribute_40 (by decide) ?_
  exact bt_Vwm_attribute_44 E hret o σ v1 v2 v3 v4 v5 1 h w (lv_sub hl [0, 1, 2, 3, 4, 5] rfl)
def F_Vwm_attribute (σ : Sg) (x0 : Int32) (x1 : Int32) (x2 : Int32) (x3 : Int32) (x4 : Int32) : Option (Sg) := bd (F_Vwm_in x0 0 7) (fun o22 => if o22 = 0 then (F_Vwm_attribute_39 σ x0 x1 x2 x3 x4) else (if x1 < 0 then (F_Vwm_attribute_39 σ x0 x1 x2 x3 x4) else (if x2 < 0 then (F_Vwm_attribute_39 σ x0 x1 x2 x3 x4) else (bd (F_Vwm_in x3 0 4) (fun o23 => if o23 = 0 then (F_Vwm_attribute_39 σ x0 x1 x2 x3 x4) else (bd (F_Vwm_in x4 0 3) (fun o24 => if o24 = 0 then (F_Vwm_attribute_39 σ x0 x1 x2 x3 x4) else (F_Vwm_attribute_44 σ x0 x1 x2 x3 x4 0))))))))
set_option maxRecDepth 10000 in
set_option maxHeartbeats 4000000 in
theorem c_Vwm_attribute (l : Launch) (D : va_G) (τ : ClassId × ClassId × ClassId) (B : Nat) (σ : Sg) (ad : Nat → Nat) (x0 : Int32) (x1 : Int32) (x2 : Int32) (x3 : Int32) (x4 : Int32) (o : Sg) (h : F_Vwm_attribute σ x0 x1 x2 x3 x4 = some o) : MV l y_Vwm_attribute (Cond.code y_Vwm_attribute prog_20_method_6_code 6 none) 1 D τ B [.ref (ad 62), .int x0, .int x1, .int x2, .int x3, .int x4] (wdM τ σ ad) (wdM τ o ad) := by
  refine en_v (by decide) (Nat.le_of_ble_eq_true rfl) ?_
  intro p e R s m args below meth c H locs ls A E hret w hl
  have E : Cx p R s m args meth c prog_20_method_6_code 6 "DrawingMachineModel$VertexWorkModel" 1 D τ B A := E
  have hl : lv_has ls 6 [(0, .ref (ad 62)), (1, .int x0), (2, .int x1), (3, .int x2), (4, .int x3), (5, .int x4)] := hl
  refine lv_aload_n E.x E.b d_Vwm_attribute_0 rfl (lv_at hl 0 rfl) ?_
  refine lv_iload_n E.x E.b d_Vwm_attribute_1 rfl (lv_at hl 1 rfl) ?_
  refine lv_iconst (v := 0) E.x E.b d_Vwm_attribute_2 (by decide) ?_
  refine lv_bipush (v := 7) E.x E.b d_Vwm_attribute_3 (by decide) ?_
  obtain ⟨o22, h_o22, h⟩ := bd_some h
  refine clS_Vwm_in E w (x0 := x0) (x1 := 0) (x2 := 7) h_o22 k2025 (by decide) hl.1 (Nat.le_of_ble_eq_true rfl) d_Vwm_attribute_5 (fun H locs w => ?_)
  refine lv_if_eq (tgt := 39) E.x E.b d_Vwm_attribute_8 (by decide) (fun c => ?_) (fun c => ?_)
  ·
    replace h := ifT c h
    exact bt_Vwm_attribute_39 E hret o σ x0 x1 x2 x3 x4 h w (lv_sub hl [0, 1, 2, 3, 4, 5] rfl)
  ·
    replace h := ifF c h
    refine lv_iload_n E.x E.b d_Vwm_attribute_11 rfl (lv_at hl 2 rfl) ?_
    refine lv_if_lt (tgt := 39) E.x E.b d_Vwm_attribute_12 (by decide) (fun c => ?_) (fun c => ?_)
    ·
      replace h := ifT c h
      exact bt_Vwm_attribute_39 E hret o σ x0 x1 x2 x3 x4 h w (lv_sub hl [0, 1, 2, 3, 4, 5] rfl)
    ·
      replace h := ifF c h
      refine lv_iload_n E.x E.b d_Vwm_attribute_15 rfl (lv_at hl 3 rfl) ?_
      refine lv_if_lt (tgt := 39) E.x E.b d_Vwm_attribute_16 (by decide) (fun c => ?_) (fun c => ?_)
      ·
        replace h := ifT c h
        exact bt_Vwm_attribute_39 E hret o σ x0 x1 x2 x3 x4 h w (lv_sub hl [0, 1, 2, 3, 4, 5] rfl)
      ·
        replace h := ifF c h
        refine lv_iload E.x E.b d_Vwm_attribute_19 (lv_at hl 4 rfl) ?_
        refine lv_iconst (v := 0) E.x E.b d_Vwm_attribute_21 (by decide) ?_
        refine lv_iconst (v := 4) E.x E.b d_Vwm_attribute_22 (by decide) ?_
        obtain ⟨o23, h_o23, h⟩ := bd_some h
        refine clS_Vwm_in E w (x0 := x3) (x1 := 0) (x2 := 4) h_o23 k2025 (by decide) hl.1 (Nat.le_of_ble_eq_true rfl) d_Vwm_attribute_23 (fun H locs w => ?_)
        refine lv_if_eq (tgt := 39) E.x E.b d_Vwm_attribute_26 (by decide) (fun c => ?_) (fun c => ?_)
        ·
          replace h := ifT c h
          exact bt_Vwm_attribute_39 E hret o σ x0 x1 x2 x3 x4 h w (lv_sub hl [0, 1, 2, 3, 4, 5] rfl)
        ·
          replace h := ifF c h
          refine lv_iload E.x E.b d_Vwm_attribute_29 (lv_at hl 5 rfl) ?_
          refine lv_iconst (v := 0) E.x E.b d_Vwm_attribute_31 (by decide) ?_
          refine lv_iconst (v := 3) E.x E.b d_Vwm_attribute_32 (by decide) ?_
          obtain ⟨o24, h_o24, h⟩ := bd_some h
          refine clS_Vwm_in E w (x0 := x4) (x1 := 0) (x2 := 3) h_o24 k2025 (by decide) hl.1 (Nat.le_of_ble_eq_true rfl) d_Vwm_attribute_33 (fun H locs w => ?_)
          refine lv_if_ne (tgt := 43) E.x E.b d_Vwm_attribute_36 (by decide) (fun c => ?_) (fun c => ?_)
          ·
            replace h := ifF c h
            refine lv_iconst (v := 0) E.x E.b d_Vwm_attribute_43 (by decide) ?_
            exact bt_Vwm_attribute_44 E hret o σ x0 x1 x2 x3 x4 0 h w (lv_sub hl [0, 1, 2, 3, 4, 5] rfl)
          ·
            replace h := ifT c h
            exact bt_Vwm_attribute_39 E hret o σ x0 x1 x2 x3 x4 h w (lv_sub hl [0, 1, 2, 3, 4, 5] rfl)
theorem clV_Vwm_attribute {p : Program} {l : Launch} {e : Env} {R : Room} {s : State} {m : MethodId} {args : Array Value} {below : List Frame} {meth : Method} {c : Code} {H : Heap} {locs : List Loc} {Q : State → Prop} {cc : ByteArray} {nL pc lev : Nat} {own : String} {D : va_G} {τ : ClassId × ClassId × ClassId} {B : Nat} {A : Nat → Prop} {σ : Sg} {ad : Nat → Nat} {ls : Array Slot} {rest : List Value} (E : Cx p R s m args meth c cc nL own lev D τ B A) (w : Wd s D A (wdM τ σ ad) H locs) {x0 : Int32} {x1 : Int32} {x2 : Int32} {x3 : Int32} {x4 : Int32} {o : Sg} (h : F_Vwm_attribute σ x0 x1 x2 x3 x4 = some o) {index : Nat} (hlk : Cond.methodLink own index y_Vwm_attribute ∈ tw) (hlev : 1 < lev) (hsz : ls.size = nL) (hr : (rest.map fun v => v.category).sum ≤ 8) (hd : decode cc pc = .ok (.invokevirtual index, 3)) (kk : ∀ (H1 : Heap) (locs1 : List Loc), Wd s D A (wdM τ o ad) H1 locs1 → W p l e R s m args below meth c H1 locs1 0 0 Q (F0 m (pc + 3) ls (rest))) : W p l e R s m args below meth c H locs 0 0 Q (F0 m pc ls (.int x4 :: .int x3 :: .int x2 :: .int x1 :: .int x0 :: .ref (ad 62) :: rest)) :=
  cr_v w E.C (va_runV (As := [.int x0, .int x1, .int x2, .int x3, .int x4]) (rest := rest) E.fix (c_Vwm_attribute l D τ B σ ad x0 x1 x2 x3 x4 o h H.size) (cwV 5 E.w (tw_pre (tw_good k2039) (l := [_, _, _, _]) (List.forall_mem_cons.mpr ⟨hlk, List.forall_mem_cons.mpr ⟨k2037, List.forall_mem_cons.mpr ⟨k2038, List.forall_mem_cons.mpr ⟨k18, fun _ h => absurd h List.not_mem_nil⟩⟩⟩⟩)) rfl rfl rfl (by decide +kernel) (E.rm hlev (by decide))) (wd_preV w E.C [.int x0, .int x1, .int x2, .int x3, .int x4] rcM_Vwm rfl) rfl rfl hsz rfl (lv_room hr) hd ⟨Nat.zero_le _, Nat.zero_le _⟩) kk

theorem d_Vwm_faces_0 : decode prog_20_method_17_code 0 = .ok (.aload_n 0, 1) := by decide +kernel
theorem d_Vwm_faces_1 : decode prog_20_method_17_code 1 = .ok (.iload_n 1, 1) := by decide +kernel
theorem d_Vwm_faces_2 : decode prog_20_method_17_code 2 = .ok (.iconst 0, 1) := by decide +kernel
theorem d_Vwm_faces_3 : decode prog_20_method_17_code 3 = .ok (.iconst 3, 1) := by decide +kernel
theorem d_Vwm_faces_4 : decode prog_20_method_17_code 4 = .ok (.invokestatic 38, 3) := by decide +kernel
theorem d_Vwm_faces_7 : decode prog_20_method_17_code 7 = .ok (.ifCond .ne 7, 3) := by decide +kernel
theorem d_Vwm_faces_10 : decode prog_20_method_17_code 10 = .ok (.iconst 1, 1) := by decide +kernel
theorem d_Vwm_faces_11 : decode prog_20_method_17_code 11 = .ok (.goto 4, 3) := by decide +kernel
theorem d_Vwm_faces_14 : decode prog_20_method_17_code 14 = .ok (.iconst 0, 1) := by decide +kernel
theorem d_Vwm_faces_15 : decode prog_20_method_17_code 15 = .ok (.iconst 0, 1) := by decide +kernel
theorem d_Vwm_faces_16 : decode prog_20_method_17_code 16 = .ok (.invokevirtual 42, 3) := by decide +kernel
theorem d_Vwm_faces_19 : decode prog_20_method_17_code 19 = .ok (.ifCond .eq 4, 3) := by decide +kernel
theorem d_Vwm_faces_22 : decode prog_20_method_17_code 22 = .ok (.return_, 1) := by decide +kernel
theorem d_Vwm_faces_23 : decode prog_20_method_17_code 23 = .ok (.aload_n 0, 1) := by decide +kernel
theorem d_Vwm_faces_24 : decode prog_20_method_17_code 24 = .ok (.iload_n 1, 1) := by decide +kernel
theorem d_Vwm_faces_25 : decode prog_20_method_17_code 25 = .ok (.putfield 67, 3) := by decide +kernel
theorem d_Vwm_faces_28 : decode prog_20_method_17_code 28 = .ok (.aload_n 0, 1) := by decide +kernel
theorem d_Vwm_faces_29 : decode prog_20_method_17_code 29 = .ok (.iload_n 2, 1) := by decide +kernel
theorem d_Vwm_faces_30 : decode prog_20_method_17_code 30 = .ok (.putfield 70, 3) := by decide +kernel
theorem d_Vwm_faces_33 : decode prog_20_method_17_code 33 = .ok (.aload_n 0, 1) := by decide +kernel
theorem d_Vwm_faces_34 : decode prog_20_method_17_code 34 = .ok (.iconst 0, 1) := by decide +kernel
theorem d_Vwm_faces_35 : decode prog_20_method_17_code 35 = .ok (.putfield 64, 3) := by decide +kernel
theorem d_Vwm_faces_38 : decode prog_20_method_17_code 38 = .ok (.return_, 1) := by decide +kernel
def F_Vwm_faces_15 (σ : Sg) (v1 : Int32) (v2 : Int32) (s1 : Int32) : Option (Sg) := bd (F_Vwm_refuse σ s1 0) (fun o7 => if o7.2 = 0 then (lt (sI o7.1 22 v1) (fun σ8 => ck (v2 = 0 ∨ v2 = 1) (lt (sI σ8 23 v2) (fun σ10 => lt (sI σ10 26 0) (fun σ11 => some σ11))))) else (some o7.1))
set_option maxRecDepth 10000 in
set_option maxHeartbeats 4000000 in
theorem bt_Vwm_faces_15 {p : Program} {l : Launch} {e : Env} {R : Room} {s : State} {m : MethodId} {args : Array Value} {below : List Frame} {meth : Method} {c : Code} {D : va_G} {τ : ClassId × ClassId × ClassId} {B : Nat} {A : Nat → Prop} {ad : Nat → Nat} (E : Cx p R s m args meth c prog_20_method_17_code 3 "DrawingMachineModel$VertexWorkModel" 1 D τ B A) (hret : meth.sig.returnType = none) (o : Sg) (σ : Sg) (v1 : Int32) (v2 : Int32) (s1 : Int32) (h : F_Vwm_faces_15 σ v1 v2 s1 = some o) {H : Heap} {locs : List Loc} {ls : Array Slot} (w : Wd s D A (wdM τ σ ad) H locs) (hl : lv_has ls 3 [(0, .ref (ad 62)), (1, .int v1), (2, .int v2)]) : W p l e R s m args below meth c H locs 0 0 (QV below args s A D τ (wdM τ o ad)) (F0 m 15 ls [.int s1, .ref (ad 62)]) := by
  refine lv_iconst (v := 0) E.x E.b d_Vwm_faces_15 (by decide) ?_
  obtain ⟨o7, h_o7, h⟩ := bd_some h
  refine clV_Vwm_refuse E w (x0 := s1) (x1 := 0) h_o7 k2028 (by decide) hl.1 (Nat.le_of_ble_eq_true rfl) d_Vwm_faces_16 (fun H locs w => ?_)
  refine lv_if_eq (tgt := 23) E.x E.b d_Vwm_faces_19 (by decide) (fun c => ?_) (fun c => ?_)
  ·
    replace h := ifT c h
    refine lv_aload_n E.x E.b d_Vwm_faces_23 rfl (lv_at hl 0 rfl) ?_
    refine lv_iload_n E.x E.b d_Vwm_faces_24 rfl (lv_at hl 1 rfl) ?_
    obtain ⟨σ8, e_σ8, h⟩ := lt_some h
    refine pM_Vwm_out E w k1626 e_σ8 d_Vwm_faces_25 (fun H locs w => ?_)
    refine lv_aload_n E.x E.b d_Vwm_faces_28 rfl (lv_at hl 0 rfl) ?_
    refine lv_iload_n E.x E.b d_Vwm_faces_29 rfl (lv_at hl 2 rfl) ?_
    obtain ⟨c9, h⟩ := ck_some h
    obtain ⟨σ10, e_σ10, h⟩ := lt_some h
    refine pM_Vwm_clock E w k1627 c9 e_σ10 d_Vwm_faces_30 (fun H locs w => ?_)
    refine lv_aload_n E.x E.b d_Vwm_faces_33 rfl (lv_at hl 0 rfl) ?_
    refine lv_iconst (v := 0) E.x E.b d_Vwm_faces_34 (by decide) ?_
    obtain ⟨σ11, e_σ11, h⟩ := lt_some h
    refine pM_Vwm_made E w k1632 e_σ11 d_Vwm_faces_35 (fun H locs w => ?_)
    obtain rfl := Option.some.inj h
    exact rt_v E w hret d_Vwm_faces_38
  ·
    replace h := ifF c h
    obtain rfl := Option.some.inj h
    exact rt_v E w hret d_Vwm_faces_22
def F_Vwm_faces (σ : Sg) (x0 : Int32) (x1 : Int32) : Option (Sg) := bd (F_Vwm_in x0 0 3) (fun o12 => if o12 = 0 then (F_Vwm_faces_15 σ x0 x1 1) else (F_Vwm_faces_15 σ x0 x1 0))
set_option maxRecDepth 10000 in
set_option maxHeartbeats 4000000 in
theorem c_Vwm_faces (l : Launch) (D : va_G) (τ : ClassId × ClassId × ClassId) (B : Nat) (σ : Sg) (ad : Nat → Nat) (x0 : Int32) (x1 : Int32) (o : Sg) (h : F_Vwm_faces σ x0 x1 = some o) : MV l y_Vwm_faces (Cond.code y_Vwm_faces prog_20_method_17_code 3 none) 1 D τ B [.ref (ad 62), .int x0, .int x1] (wdM τ σ ad) (wdM τ o ad) := by
  refine en_v (by decide) (Nat.le_of_ble_eq_true rfl) ?_
  intro p e R s m args below meth c H locs ls A E hret w hl
  have E : Cx p R s m args meth c prog_20_method_17_code 3 "DrawingMachineModel$VertexWorkModel" 1 D τ B A := E
  have hl : lv_has ls 3 [(0, .ref (ad 62)), (1, .int x0), (2, .int x1)] := hl
  refine lv_aload_n E.x E.b d_Vwm_faces_0 rfl (lv_at hl 0 rfl) ?_
  refine lv_iload_n E.x E.b d_Vwm_faces_1 rfl (lv_at hl 1 rfl) ?_
  refine lv_iconst (v := 0) E.x E.b d_Vwm_faces_2 (by decide) ?_
  refine lv_iconst (v := 3) E.x E.b d_Vwm_faces_3 (by decide) ?_
  obtain ⟨o12, h_o12, h⟩ := bd_some h
  refine clS_Vwm_in E w (x0 := x0) (x1 := 0) (x2 := 3) h_o12 k2025 (by decide) hl.1 (Nat.le_of_ble_eq_true rfl) d_Vwm_faces_4 (fun H locs w => ?_)
  refine lv_if_ne (tgt := 14) E.x E.b d_Vwm_faces_7 (by decide) (fun c => ?_) (fun c => ?_)
  ·
    replace h := ifF c h
    refine lv_iconst (v := 0) E.x E.b d_Vwm_faces_14 (by decide) ?_
    exact bt_Vwm_faces_15 E hret o σ x0 x1 0 h w (lv_sub hl [0, 1, 2] rfl)
  ·
    replace h := ifT c h
    refine lv_iconst (v := 1) E.x E.b d_Vwm_faces_10 (by decide) ?_
    refine lv_goto (tgt := 15) E.x E.b d_Vwm_faces_11 (by decide) ?_
    exact bt_Vwm_faces_15 E hret o σ x0 x1 1 h w (lv_sub hl [0, 1, 2] rfl)
theorem clV_Vwm_faces {p : Program} {l : Launch} {e : Env} {R : Room} {s : State} {m : MethodId} {args : Array Value} {below : List Frame} {meth : Method} {c : Code} {H : Heap} {locs : List Loc} {Q : State → Prop} {cc : ByteArray} {nL pc lev : Nat} {own : String} {D : va_G} {τ : ClassId × ClassId × ClassId} {B : Nat} {A : Nat → Prop} {σ : Sg} {ad : Nat → Nat} {ls : Array Slot} {rest : List Value} (E : Cx p R s m args meth c cc nL own lev D τ B A) (w : Wd s D A (wdM τ σ ad) H locs) {x0 : Int32} {x1 : Int32} {o : Sg} (h : F_Vwm_faces σ x0 x1 = some o) {index : Nat} (hlk : Cond.methodLink own index y_Vwm_faces ∈ tw) (hlev : 1 < lev) (hsz : ls.size = nL) (hr : (rest.map fun v => v.category).sum ≤ 8) (hd : decode cc pc = .ok (.invokevirtual index, 3)) (kk : ∀ (H1 : Heap) (locs1 : List Loc), Wd s D A (wdM τ o ad) H1 locs1 → W p l e R s m args below meth c H1 locs1 0 0 Q (F0 m (pc + 3) ls (rest))) : W p l e R s m args below meth c H locs 0 0 Q (F0 m pc ls (.int x1 :: .int x0 :: .ref (ad 62) :: rest)) :=
  cr_v w E.C (va_runV (As := [.int x0, .int x1]) (rest := rest) E.fix (c_Vwm_faces l D τ B σ ad x0 x1 o h H.size) (cwV 2 E.w (tw_pre (tw_good k2035) (l := [_, _, _, _]) (List.forall_mem_cons.mpr ⟨hlk, List.forall_mem_cons.mpr ⟨k2033, List.forall_mem_cons.mpr ⟨k2034, List.forall_mem_cons.mpr ⟨k18, fun _ h => absurd h List.not_mem_nil⟩⟩⟩⟩)) rfl rfl rfl (by decide +kernel) (E.rm hlev (by decide))) (wd_preV w E.C [.int x0, .int x1] rcM_Vwm rfl) rfl rfl hsz rfl (lv_room hr) hd ⟨Nat.zero_le _, Nat.zero_le _⟩) kk

theorem d_Vwm_view_0 : decode prog_20_method_16_code 0 = .ok (.iload_n 1, 1) := by decide +kernel
theorem d_Vwm_view_1 : decode prog_20_method_16_code 1 = .ok (.sipush (-1023), 3) := by decide +kernel
theorem d_Vwm_view_4 : decode prog_20_method_16_code 4 = .ok (.sipush 1023, 3) := by decide +kernel
theorem d_Vwm_view_7 : decode prog_20_method_16_code 7 = .ok (.invokestatic 38, 3) := by decide +kernel
theorem d_Vwm_view_10 : decode prog_20_method_16_code 10 = .ok (.ifCond .eq 65, 3) := by decide +kernel
theorem d_Vwm_view_13 : decode prog_20_method_16_code 13 = .ok (.iload_n 2, 1) := by decide +kernel
theorem d_Vwm_view_14 : decode prog_20_method_16_code 14 = .ok (.sipush (-1023), 3) := by decide +kernel
theorem d_Vwm_view_17 : decode prog_20_method_16_code 17 = .ok (.sipush 1023, 3) := by decide +kernel
theorem d_Vwm_view_20 : decode prog_20_method_16_code 20 = .ok (.invokestatic 38, 3) := by decide +kernel
theorem d_Vwm_view_23 : decode prog_20_method_16_code 23 = .ok (.ifCond .eq 52, 3) := by decide +kernel
theorem d_Vwm_view_26 : decode prog_20_method_16_code 26 = .ok (.iload_n 3, 1) := by decide +kernel
theorem d_Vwm_view_27 : decode prog_20_method_16_code 27 = .ok (.iconst 1, 1) := by decide +kernel
theorem d_Vwm_view_28 : decode prog_20_method_16_code 28 = .ok (.sipush 1024, 3) := by decide +kernel
theorem d_Vwm_view_31 : decode prog_20_method_16_code 31 = .ok (.invokestatic 38, 3) := by decide +kernel
theorem d_Vwm_view_34 : decode prog_20_method_16_code 34 = .ok (.ifCond .eq 41, 3) := by decide +kernel
theorem d_Vwm_view_37 : decode prog_20_method_16_code 37 = .ok (.iload 4, 2) := by decide +kernel
theorem d_Vwm_view_39 : decode prog_20_method_16_code 39 = .ok (.iconst 1, 1) := by decide +kernel
theorem d_Vwm_view_40 : decode prog_20_method_16_code 40 = .ok (.sipush 1024, 3) := by decide +kernel
theorem d_Vwm_view_43 : decode prog_20_method_16_code 43 = .ok (.invokestatic 38, 3) := by decide +kernel
theorem d_Vwm_view_46 : decode prog_20_method_16_code 46 = .ok (.ifCond .eq 29, 3) := by decide +kernel
theorem d_Vwm_view_49 : decode prog_20_method_16_code 49 = .ok (.iload 5, 2) := by decide +kernel
theorem d_Vwm_view_51 : decode prog_20_method_16_code 51 = .ok (.iconst 0, 1) := by decide +kernel
theorem d_Vwm_view_52 : decode prog_20_method_16_code 52 = .ok (.ldc 31, 2) := by decide +kernel
theorem d_Vwm_view_54 : decode prog_20_method_16_code 54 = .ok (.invokestatic 38, 3) := by decide +kernel
theorem d_Vwm_view_57 : decode prog_20_method_16_code 57 = .ok (.ifCond .eq 18, 3) := by decide +kernel
theorem d_Vwm_view_60 : decode prog_20_method_16_code 60 = .ok (.iload 6, 2) := by decide +kernel
theorem d_Vwm_view_62 : decode prog_20_method_16_code 62 = .ok (.iconst 0, 1) := by decide +kernel
theorem d_Vwm_view_63 : decode prog_20_method_16_code 63 = .ok (.ldc 31, 2) := by decide +kernel
theorem d_Vwm_view_65 : decode prog_20_method_16_code 65 = .ok (.invokestatic 38, 3) := by decide +kernel
theorem d_Vwm_view_68 : decode prog_20_method_16_code 68 = .ok (.ifCond .eq 7, 3) := by decide +kernel
theorem d_Vwm_view_71 : decode prog_20_method_16_code 71 = .ok (.iconst 1, 1) := by decide +kernel
theorem d_Vwm_view_72 : decode prog_20_method_16_code 72 = .ok (.goto 4, 3) := by decide +kernel
theorem d_Vwm_view_75 : decode prog_20_method_16_code 75 = .ok (.iconst 0, 1) := by decide +kernel
theorem d_Vwm_view_76 : decode prog_20_method_16_code 76 = .ok (.istore 7, 2) := by decide +kernel
theorem d_Vwm_view_78 : decode prog_20_method_16_code 78 = .ok (.aload_n 0, 1) := by decide +kernel
theorem d_Vwm_view_79 : decode prog_20_method_16_code 79 = .ok (.iload 7, 2) := by decide +kernel
theorem d_Vwm_view_81 : decode prog_20_method_16_code 81 = .ok (.ifCond .ne 7, 3) := by decide +kernel
theorem d_Vwm_view_84 : decode prog_20_method_16_code 84 = .ok (.iconst 1, 1) := by decide +kernel
theorem d_Vwm_view_85 : decode prog_20_method_16_code 85 = .ok (.goto 4, 3) := by decide +kernel
theorem d_Vwm_view_88 : decode prog_20_method_16_code 88 = .ok (.iconst 0, 1) := by decide +kernel
theorem d_Vwm_view_89 : decode prog_20_method_16_code 89 = .ok (.iconst 0, 1) := by decide +kernel
theorem d_Vwm_view_90 : decode prog_20_method_16_code 90 = .ok (.invokevirtual 42, 3) := by decide +kernel
theorem d_Vwm_view_93 : decode prog_20_method_16_code 93 = .ok (.ifCond .eq 4, 3) := by decide +kernel
theorem d_Vwm_view_96 : decode prog_20_method_16_code 96 = .ok (.return_, 1) := by decide +kernel
theorem d_Vwm_view_97 : decode prog_20_method_16_code 97 = .ok (.aload_n 0, 1) := by decide +kernel
theorem d_Vwm_view_98 : decode prog_20_method_16_code 98 = .ok (.getfield 16, 3) := by decide +kernel
theorem d_Vwm_view_101 : decode prog_20_method_16_code 101 = .ok (.iconst 0, 1) := by decide +kernel
theorem d_Vwm_view_102 : decode prog_20_method_16_code 102 = .ok (.iload_n 1, 1) := by decide +kernel
theorem d_Vwm_view_103 : decode prog_20_method_16_code 103 = .ok (.iastore, 1) := by decide +kernel
theorem d_Vwm_view_104 : decode prog_20_method_16_code 104 = .ok (.aload_n 0, 1) := by decide +kernel
theorem d_Vwm_view_105 : decode prog_20_method_16_code 105 = .ok (.getfield 16, 3) := by decide +kernel
theorem d_Vwm_view_108 : decode prog_20_method_16_code 108 = .ok (.iconst 1, 1) := by decide +kernel
theorem d_Vwm_view_109 : decode prog_20_method_16_code 109 = .ok (.iload_n 2, 1) := by decide +kernel
theorem d_Vwm_view_110 : decode prog_20_method_16_code 110 = .ok (.iastore, 1) := by decide +kernel
theorem d_Vwm_view_111 : decode prog_20_method_16_code 111 = .ok (.aload_n 0, 1) := by decide +kernel
theorem d_Vwm_view_112 : decode prog_20_method_16_code 112 = .ok (.getfield 16, 3) := by decide +kernel
theorem d_Vwm_view_115 : decode prog_20_method_16_code 115 = .ok (.iconst 2, 1) := by decide +kernel
theorem d_Vwm_view_116 : decode prog_20_method_16_code 116 = .ok (.iload_n 3, 1) := by decide +kernel
theorem d_Vwm_view_117 : decode prog_20_method_16_code 117 = .ok (.iastore, 1) := by decide +kernel
theorem d_Vwm_view_118 : decode prog_20_method_16_code 118 = .ok (.aload_n 0, 1) := by decide +kernel
theorem d_Vwm_view_119 : decode prog_20_method_16_code 119 = .ok (.getfield 16, 3) := by decide +kernel
theorem d_Vwm_view_122 : decode prog_20_method_16_code 122 = .ok (.iconst 3, 1) := by decide +kernel
theorem d_Vwm_view_123 : decode prog_20_method_16_code 123 = .ok (.iload 4, 2) := by decide +kernel
theorem d_Vwm_view_125 : decode prog_20_method_16_code 125 = .ok (.iastore, 1) := by decide +kernel
theorem d_Vwm_view_126 : decode prog_20_method_16_code 126 = .ok (.aload_n 0, 1) := by decide +kernel
theorem d_Vwm_view_127 : decode prog_20_method_16_code 127 = .ok (.getfield 16, 3) := by decide +kernel
theorem d_Vwm_view_130 : decode prog_20_method_16_code 130 = .ok (.iconst 4, 1) := by decide +kernel
theorem d_Vwm_view_131 : decode prog_20_method_16_code 131 = .ok (.iload 5, 2) := by decide +kernel
theorem d_Vwm_view_133 : decode prog_20_method_16_code 133 = .ok (.iastore, 1) := by decide +kernel
theorem d_Vwm_view_134 : decode prog_20_method_16_code 134 = .ok (.aload_n 0, 1) := by decide +kernel
theorem d_Vwm_view_135 : decode prog_20_method_16_code 135 = .ok (.getfield 16, 3) := by decide +kernel
theorem d_Vwm_view_138 : decode prog_20_method_16_code 138 = .ok (.iconst 5, 1) := by decide +kernel
theorem d_Vwm_view_139 : decode prog_20_method_16_code 139 = .ok (.iload 6, 2) := by decide +kernel
theorem d_Vwm_view_141 : decode prog_20_method_16_code 141 = .ok (.iastore, 1) := by decide +kernel
theorem d_Vwm_view_142 : decode prog_20_method_16_code 142 = .ok (.aload_n 0, 1) := by decide +kernel
theorem d_Vwm_view_143 : decode prog_20_method_16_code 143 = .ok (.iconst 0, 1) := by decide +kernel
theorem d_Vwm_view_144 : decode prog_20_method_16_code 144 = .ok (.putfield 64, 3) := by decide +kernel
theorem d_Vwm_view_147 : decode prog_20_method_16_code 147 = .ok (.return_, 1) := by decide +kernel
def F_Vwm_view_89 (σ : Sg) (v1 : Int32) (v2 : Int32) (v3 : Int32) (v4 : Int32) (v5 : Int32) (v6 : Int32) (s1 : Int32) : Option (Sg) := bd (F_Vwm_refuse σ s1 0) (fun o15 => if o15.2 = 0 then (lt (sA o15.1 36 (upd (o15.1.2.2.1 36) 0 v1)) (fun σ16 => lt (sA σ16 36 (upd (σ16.2.2.1 36) 1 v2)) (fun σ17 => lt (sA σ17 36 (upd (σ17.2.2.1 36) 2 v3)) (fun σ18 => lt (sA σ18 36 (upd (σ18.2.2.1 36) 3 v4)) (fun σ19 => lt (sA σ19 36 (upd (σ19.2.2.1 36) 4 v5)) (fun σ20 => lt (sA σ20 36 (upd (σ20.2.2.1 36) 5 v6)) (fun σ21 => lt (sI σ21 26 0) (fun σ22 => some σ22)))))))) else (some o15.1))
set_option maxRecDepth 10000 in
set_option maxHeartbeats 4000000 in
theorem bt_Vwm_view_89 {p : Program} {l : Launch} {e : Env} {R : Room} {s : State} {m : MethodId} {args : Array Value} {below : List Frame} {meth : Method} {c : Code} {D : va_G} {τ : ClassId × ClassId × ClassId} {B : Nat} {A : Nat → Prop} {ad : Nat → Nat} (E : Cx p R s m args meth c prog_20_method_16_code 8 "DrawingMachineModel$VertexWorkModel" 1 D τ B A) (hret : meth.sig.returnType = none) (o : Sg) (σ : Sg) (v1 : Int32) (v2 : Int32) (v3 : Int32) (v4 : Int32) (v5 : Int32) (v6 : Int32) (s1 : Int32) (h : F_Vwm_view_89 σ v1 v2 v3 v4 v5 v6 s1 = some o) {H : Heap} {locs : List Loc} {ls : Array Slot} (w : Wd s D A (wdM τ σ ad) H locs) (hl : lv_has ls 8 [(0, .ref (ad 62)), (1, .int v1), (2, .int v2), (3, .int v3), (4, .int v4), (5, .int v5), (6, .int v6)]) : W p l e R s m args below meth c H locs 0 0 (QV below args s A D τ (wdM τ o ad)) (F0 m 89 ls [.int s1, .ref (ad 62)]) := by
  refine lv_iconst (v := 0) E.x E.b d_Vwm_view_89 (by decide) ?_
  obtain ⟨o15, h_o15, h⟩ := bd_some h
  refine clV_Vwm_refuse E w (x0 := s1) (x1 := 0) h_o15 k2028 (by decide) hl.1 (Nat.le_of_ble_eq_true rfl) d_Vwm_view_90 (fun H locs w => ?_)
  refine lv_if_eq (tgt := 97) E.x E.b d_Vwm_view_93 (by decide) (fun c => ?_) (fun c => ?_)
  ·
    replace h := ifT c h
    refine lv_aload_n E.x E.b d_Vwm_view_97 rfl (lv_at hl 0 rfl) ?_
    refine gM_Vwm_view E w k1625 d_Vwm_view_98 ?_
    refine lv_iconst (v := 0) E.x E.b d_Vwm_view_101 (by decide) ?_
    refine lv_iload_n E.x E.b d_Vwm_view_102 rfl (lv_at hl 1 rfl) ?_
    obtain ⟨σ16, e_σ16, h⟩ := lt_some h
    refine iasM E w (k := 36) (by decide) (show inb 0 6 by decide) e_σ16 d_Vwm_view_103 (fun H locs w => ?_)
    refine lv_aload_n E.x E.b d_Vwm_view_104 rfl (lv_at hl 0 rfl) ?_
    refine gM_Vwm_view E w k1625 d_Vwm_view_105 ?_
    refine lv_iconst (v := 1) E.x E.b d_Vwm_view_108 (by decide) ?_
    refine lv_iload_n E.x E.b d_Vwm_view_109 rfl (lv_at hl 2 rfl) ?_
    obtain ⟨σ17, e_σ17, h⟩ := lt_some h
    refine iasM E w (k := 36) (by decide) (show inb 1 6 by decide) e_σ17 d_Vwm_view_110 (fun H locs w => ?_)
    refine lv_aload_n E.x E.b d_Vwm_view_111 rfl (lv_at hl 0 rfl) ?_
    refine gM_Vwm_view E w k1625 d_Vwm_view_112 ?_
    refine lv_iconst (v := 2) E.x E.b d_Vwm_view_115 (by decide) ?_
    refine lv_iload_n E.x E.b d_Vwm_view_116 rfl (lv_at hl 3 rfl) ?_
    obtain ⟨σ18, e_σ18, h⟩ := lt_some h
    refine iasM E w (k := 36) (by decide) (show inb 2 6 by decide) e_σ18 d_Vwm_view_117 (fun H locs w => ?_)
    refine lv_aload_n E.x E.b d_Vwm_view_118 rfl (lv_at hl 0 rfl) ?_
    refine gM_Vwm_view E w k1625 d_Vwm_view_119 ?_
    refine lv_iconst (v := 3) E.x E.b d_Vwm_view_122 (by decide) ?_
    refine lv_iload E.x E.b d_Vwm_view_123 (lv_at hl 4 rfl) ?_
    obtain ⟨σ19, e_σ19, h⟩ := lt_some h
    refine iasM E w (k := 36) (by decide) (show inb 3 6 by decide) e_σ19 d_Vwm_view_125 (fun H locs w => ?_)
    refine lv_aload_n E.x E.b d_Vwm_view_126 rfl (lv_at hl 0 rfl) ?_
    refine gM_Vwm_view E w k1625 d_Vwm_view_127 ?_
    refine lv_iconst (v := 4) E.x E.b d_Vwm_view_130 (by decide) ?_
    refine lv_iload E.x E.b d_Vwm_view_131 (lv_at hl 5 rfl) ?_
    obtain ⟨σ20, e_σ20, h⟩ := lt_some h
    refine iasM E w (k := 36) (by decide) (show inb 4 6 by decide) e_σ20 d_Vwm_view_133 (fun H locs w => ?_)
    refine lv_aload_n E.x E.b d_Vwm_view_134 rfl (lv_at hl 0 rfl) ?_
    refine gM_Vwm_view E w k1625 d_Vwm_view_135 ?_
    refine lv_iconst (v := 5) E.x E.b d_Vwm_view_138 (by decide) ?_
    refine lv_iload E.x E.b d_Vwm_view_139 (lv_at hl 6 rfl) ?_
    obtain ⟨σ21, e_σ21, h⟩ := lt_some h
    refine iasM E w (k := 36) (by decide) (show inb 5 6 by decide) e_σ21 d_Vwm_view_141 (fun H locs w => ?_)
    refine lv_aload_n E.x E.b d_Vwm_view_142 rfl (lv_at hl 0 rfl) ?_
    refine lv_iconst (v := 0) E.x E.b d_Vwm_view_143 (by decide) ?_
    obtain ⟨σ22, e_σ22, h⟩ := lt_some h
    refine pM_Vwm_made E w k1632 e_σ22 d_Vwm_view_144 (fun H locs w => ?_)
    obtain rfl := Option.some.inj h
    exact rt_v E w hret d_Vwm_view_147
  ·
    replace h := ifF c h
    obtain rfl := Option.some.inj h
    exact rt_v E w hret d_Vwm_view_96
def F_Vwm_view_76 (σ : Sg) (v1 : Int32) (v2 : Int32) (v3 : Int32) (v4 : Int32) (v5 : Int32) (v6 : Int32) (s0 : Int32) : Option (Sg) := if s0 = 0 then (F_Vwm_view_89 σ v1 v2 v3 v4 v5 v6 1) else (F_Vwm_view_89 σ v1 v2 v3 v4 v5 v6 0)
set_option maxRecDepth 10000 in
set_option maxHeartbeats 4000000 in
theorem bt_Vwm_view_76 {p : Program} {l : Launch} {e : Env} {R : Room} {s : State} {m : MethodId} {args : Array Value} {below : List Frame} {meth : Method} {c : Code} {D : va_G} {τ : ClassId × ClassId × ClassId} {B : Nat} {A : Nat → Prop} {ad : Nat → Nat} (E : Cx p R s m args meth c prog_20_method_16_code 8 "DrawingMachineModel$VertexWorkModel" 1 D τ B A) (hret : meth.sig.returnType = none) (o : Sg) (σ : Sg) (v1 : Int32) (v2 : Int32) (v3 : Int32) (v4 : Int32) (v5 : Int32) (v6 : Int32) (s0 : Int32) (h : F_Vwm_view_76 σ v1 v2 v3 v4 v5 v6 s0 = some o) {H : Heap} {locs : List Loc} {ls : Array Slot} (w : Wd s D A (wdM τ σ ad) H locs) (hl : lv_has ls 8 [(0, .ref (ad 62)), (1, .int v1), (2, .int v2), (3, .int v3), (4, .int v4), (5, .int v5), (6, .int v6)]) : W p l e R s m args below meth c H locs 0 0 (QV below args s A D τ (wdM τ o ad)) (F0 m 76 ls [.int s0]) := by
  refine lv_istore (lv' := [(7, .int s0), (0, .ref (ad 62)), (1, .int v1), (2, .int v2), (3, .int v3), (4, .int v4), (5, .int v5), (6, .int v6)]) E.x E.b d_Vwm_view_76 hl (by decide) rfl (fun ls hl => ?_)
  refine lv_aload_n E.x E.b d_Vwm_view_78 rfl (lv_at hl 1 rfl) ?_
  refine lv_iload E.x E.b d_Vwm_view_79 (lv_at hl 0 rfl) ?_
  refine lv_if_ne (tgt := 88) E.x E.b d_Vwm_view_81 (by decide) (fun c => ?_) (fun c => ?_)
  ·
    replace h := ifF c h
    refine lv_iconst (v := 0) E.x E.b d_Vwm_view_88 (by decide) ?_
    exact bt_Vwm_view_89 E hret o σ v1 v2 v3 v4 v5 v6 0 h w (lv_sub hl [1, 2, 3, 4, 5, 6, 7] rfl)
  ·
    replace h := ifT c h
    refine lv_iconst (v := 1) E.x E.b d_Vwm_view_84 (by decide) ?_
    refine lv_goto (tgt := 89) E.x E.b d_Vwm_view_85 (by decide) ?_
    exact bt_Vwm_view_89 E hret o σ v1 v2 v3 v4 v5 v6 1 h w (lv_sub hl [1, 2, 3, 4, 5, 6, 7] rfl)
def F_Vwm_view_75 (σ : Sg) (v1 : Int32) (v2 : Int32) (v3 : Int32) (v4 : Int32) (v5 : Int32) (v6 : Int32) : Option (Sg) := F_Vwm_view_76 σ v1 v2 v3 v4 v5 v6 0
set_option maxRecDepth 10000 in
set_option maxHeartbeats 4000000 in
theorem bt_Vwm_view_75 {p : Program} {l : Launch} {e : Env} {R : Room} {s : State} {m : MethodId} {args : Array Value} {below : List Frame} {meth : Method} {c : Code} {D : va_G} {τ : ClassId × ClassId × ClassId} {B : Nat} {A : Nat → Prop} {ad : Nat → Nat} (E : Cx p R s m args meth c prog_20_method_16_code 8 "DrawingMachineModel$VertexWorkModel" 1 D τ B A) (hret : meth.sig.returnType = none) (o : Sg) (σ : Sg) (v1 : Int32) (v2 : Int32) (v3 : Int32) (v4 : Int32) (v5 : Int32) (v6 : Int32) (h : F_Vwm_view_75 σ v1 v2 v3 v4 v5 v6 = some o) {H : Heap} {locs : List Loc} {ls : Array Slot} (w : Wd s D A (wdM τ σ ad) H locs) (hl : lv_has ls 8 [(0, .ref (ad 62)), (1, .int v1), (2, .int v2), (3, .int v3), (4, .int v4), (5, .int v5), (6, .int v6)]) : W p l e R s m args below meth c H locs 0 0 (QV below args s A D τ (wdM τ o ad)) (F0 m 75 ls []) := by
  refine lv_iconst (v := 0) E.x E.b d_Vwm_view_75 (by decide) ?_
  exact bt_Vwm_view_76 E hret o σ v1 v2 v3 v4 v5 v6 0 h w (lv_sub hl [0, 1, 2, 3, 4, 5, 6] rfl)
def F_Vwm_view (σ : Sg) (x0 : Int32) (x1 : Int32) (x2 : Int32) (x3 : Int32) (x4 : Int32) (x5 : Int32) : Option (Sg) := bd (F_Vwm_in x0 (-1023) 1023) (fun o23 => if o23 = 0 then (F_Vwm_view_75 σ x0 x1 x2 x3 x4 x5) else (bd (F_Vwm_in x1 (-1023) 1023) (fun o24 => if o24 = 0 then (F_Vwm_view_75 σ x0 x1 x2 x3 x4 x5) else (bd (F_Vwm_in x2 1 1024) (fun o25 => if o25 = 0 then (F_Vwm_view_75 σ x0 x1 x2 x3 x4 x5) else (bd (F_Vwm_in x3 1 1024) (fun o26 => if o26 = 0 then (F_Vwm_view_75 σ x0 x1 x2 x3 x4 x5) else (bd (F_Vwm_in x4 0 16777215) (fun o27 => if o27 = 0 then (F_Vwm_view_75 σ x0 x1 x2 x3 x4 x5) else (bd (F_Vwm_in x5 0 16777215) (fun o28 => if o28 = 0 then (F_Vwm_view_75 σ x0 x1 x2 x3 x4 x5) else (F_Vwm_view_76 σ x0 x1 x2 x3 x4 x5 1))))))))))))
set_option maxRecDepth 10000 in
set_option maxHeartbeats 4000000 in
theorem c_Vwm_view (l : Launch) (D : va_G) (τ : ClassId × ClassId × ClassId) (B : Nat) (σ : Sg) (ad : Nat → Nat) (x0 : Int32) (x1 : Int32) (x2 : Int32) (x3 : Int32) (x4 : Int32) (x5 : Int32) (o : Sg) (h : F_Vwm_view σ x0 x1 x2 x3 x4 x5 = some o) : MV l y_Vwm_view (Cond.code y_Vwm_view prog_20_method_16_code 8 none) 1 D τ B [.ref (ad 62), .int x0, .int x1, .int x2, .int x3, .int x4, .int x5] (wdM τ σ ad) (wdM τ o ad) := by
  refine en_v (by decide) (Nat.le_of_ble_eq_true rfl) ?_
  intro p e R s m args below meth c H locs ls A E hret w hl
  have E : Cx p R s m args meth c prog_20_method_16_code 8 "DrawingMachineModel$VertexWorkModel" 1 D τ B A := E
  have hl : lv_has ls 8 [(0, .ref (ad 62)), (1, .int x0), (2, .int x1), (3, .int x2), (4, .int x3), (5, .int x4), (6, .int x5)] := hl
  refine lv_iload_n E.x E.b d_Vwm_view_0 rfl (lv_at hl 1 rfl) ?_
  refine lv_sipush (v := (-1023)) E.x E.b d_Vwm_view_1 (by decide) ?_
  refine lv_sipush (v := 1023) E.x E.b d_Vwm_view_4 (by decide) ?_
  obtain ⟨o23, h_o23, h⟩ := bd_some h
  refine clS_Vwm_in E w (x0 := x0) (x1 := (-1023)) (x2 := 1023) h_o23 k2025 (by decide) hl.1 (Nat.le_of_ble_eq_true rfl) d_Vwm_view_7 (fun H locs w => ?_)
  refine lv_if_eq (tgt := 75) E.x E.b d_Vwm_view_10 (by decide) (fun c => ?_) (fun c => ?_)
  ·
    replace h := ifT c h
    exact bt_Vwm_view_75 E hret o σ x0 x1 x2 x3 x4 x5 h w (lv_sub hl [0, 1, 2, 3, 4, 5, 6] rfl)
  ·
    replace h := ifF c h
    refine lv_iload_n E.x E.b d_Vwm_view_13 rfl (lv_at hl 2 rfl) ?_
    refine lv_sipush (v := (-1023)) E.x E.b d_Vwm_view_14 (by decide) ?_
    refine lv_sipush (v := 1023) E.x E.b d_Vwm_view_17 (by decide) ?_
    obtain ⟨o24, h_o24, h⟩ := bd_some h
    refine clS_Vwm_in E w (x0 := x1) (x1 := (-1023)) (x2 := 1023) h_o24 k2025 (by decide) hl.1 (Nat.le_of_ble_eq_true rfl) d_Vwm_view_20 (fun H locs w => ?_)
    refine lv_if_eq (tgt := 75) E.x E.b d_Vwm_view_23 (by decide) (fun c => ?_) (fun c => ?_)
    ·
      replace h := ifT c h
      exact bt_Vwm_view_75 E hret o σ x0 x1 x2 x3 x4 x5 h w (lv_sub hl [0, 1, 2, 3, 4, 5, 6] rfl)
    ·
      replace h := ifF c h
      refine lv_iload_n E.x E.b d_Vwm_view_26 rfl (lv_at hl 3 rfl) ?_
      refine lv_iconst (v := 1) E.x E.b d_Vwm_view_27 (by decide) ?_
      refine lv_sipush (v := 1024) E.x E.b d_Vwm_view_28 (by decide) ?_
      obtain ⟨o25, h_o25, h⟩ := bd_some h
      refine clS_Vwm_in E w (x0 := x2) (x1 := 1) (x2 := 1024) h_o25 k2025 (by decide) hl.1 (Nat.le_of_ble_eq_true rfl) d_Vwm_view_31 (fun H locs w => ?_)
      refine lv_if_eq (tgt := 75) E.x E.b d_Vwm_view_34 (by decide) (fun c => ?_) (fun c => ?_)
      ·
        replace h := ifT c h
        exact bt_Vwm_view_75 E hret o σ x0 x1 x2 x3 x4 x5 h w (lv_sub hl [0, 1, 2, 3, 4, 5, 6] rfl)
      ·
        replace h := ifF c h
        refine lv_iload E.x E.b d_Vwm_view_37 (lv_at hl 4 rfl) ?_
        refine lv_iconst (v := 1) E.x E.b d_Vwm_view_39 (by decide) ?_
        refine lv_sipush (v := 1024) E.x E.b d_Vwm_view_40 (by decide) ?_
        obtain ⟨o26, h_o26, h⟩ := bd_some h
        refine clS_Vwm_in E w (x0 := x3) (x1 := 1) (x2 := 1024) h_o26 k2025 (by decide) hl.1 (Nat.le_of_ble_eq_true rfl) d_Vwm_view_43 (fun H locs w => ?_)
        refine lv_if_eq (tgt := 75) E.x E.b d_Vwm_view_46 (by decide) (fun c => ?_) (fun c => ?_)
        ·
          replace h := ifT c h
          exact bt_Vwm_view_75 E hret o σ x0 x1 x2 x3 x4 x5 h w (lv_sub hl [0, 1, 2, 3, 4, 5, 6] rfl)
        ·
          replace h := ifF c h
          refine lv_iload E.x E.b d_Vwm_view_49 (lv_at hl 5 rfl) ?_
          refine lv_iconst (v := 0) E.x E.b d_Vwm_view_51 (by decide) ?_
          refine lv_ldc (v := 16777215) E.x E.b E.o (E.w _ k1620) d_Vwm_view_52 ?_
          obtain ⟨o27, h_o27, h⟩ := bd_some h
          refine clS_Vwm_in E w (x0 := x4) (x1 := 0) (x2 := 16777215) h_o27 k2025 (by decide) hl.1 (Nat.le_of_ble_eq_true rfl) d_Vwm_view_54 (fun H locs w => ?_)
          refine lv_if_eq (tgt := 75) E.x E.b d_Vwm_view_57 (by decide) (fun c => ?_) (fun c => ?_)
          ·
            replace h := ifT c h
            exact bt_Vwm_view_75 E hret o σ x0 x1 x2 x3 x4 x5 h w (lv_sub hl [0, 1, 2, 3, 4, 5, 6] rfl)
          ·
            replace h := ifF c h
            refine lv_iload E.x E.b d_Vwm_view_60 (lv_at hl 6 rfl) ?_
            refine lv_iconst (v := 0) E.x E.b d_Vwm_view_62 (by decide) ?_
            refine lv_ldc (v := 16777215) E.x E.b E.o (E.w _ k1620) d_Vwm_view_63 ?_
            obtain ⟨o28, h_o28, h⟩ := bd_some h
            refine clS_Vwm_in E w (x0 := x5) (x1 := 0) (x2 := 16777215) h_o28 k2025 (by decide) hl.1 (Nat.le_of_ble_eq_true rfl) d_Vwm_view_65 (fun H locs w => ?_)
            refine lv_if_eq (tgt := 75) E.x E.b d_Vwm_view_68 (by decide) (fun c => ?_) (fun c => ?_)
            ·
              replace h := ifT c h
              exact bt_Vwm_view_75 E hret o σ x0 x1 x2 x3 x4 x5 h w (lv_sub hl [0, 1, 2, 3, 4, 5, 6] rfl)
            ·
              replace h := ifF c h
              refine lv_iconst (v := 1) E.x E.b d_Vwm_view_71 (by decide) ?_
              refine lv_goto (tgt := 76) E.x E.b d_Vwm_view_72 (by decide) ?_
              exact bt_Vwm_view_76 E hret o σ x0 x1 x2 x3 x4 x5 1 h w (lv_sub hl [0, 1, 2, 3, 4, 5, 6] rfl)
theorem clV_Vwm_view {p : Program} {l : Launch} {e : Env} {R : Room} {s : State} {m : MethodId} {args : Array Value} {below : List Frame} {meth : Method} {c : Code} {H : Heap} {locs : List Loc} {Q : State → Prop} {cc : ByteArray} {nL pc lev : Nat} {own : String} {D : va_G} {τ : ClassId × ClassId × ClassId} {B : Nat} {A : Nat → Prop} {σ : Sg} {ad : Nat → Nat} {ls : Array Slot} {rest : List Value} (E : Cx p R s m args meth c cc nL own lev D τ B A) (w : Wd s D A (wdM τ σ ad) H locs) {x0 : Int32} {x1 : Int32} {x2 : Int32} {x3 : Int32} {x4 : Int32} {x5 : Int32} {o : Sg} (h : F_Vwm_view σ x0 x1 x2 x3 x4 x5 = some o) {index : Nat} (hlk : Cond.methodLink own index y_Vwm_view ∈ tw) (hlev : 1 < lev) (hsz : ls.size = nL) (hr : (rest.map fun v => v.category).sum ≤ 8) (hd : decode cc pc = .ok (.invokevirtual index, 3)) (kk : ∀ (H1 : Heap) (locs1 : List Loc), Wd s D A (wdM τ o ad) H1 locs1 → W p l e R s m args below meth c H1 locs1 0 0 Q (F0 m (pc + 3) ls (rest))) : W p l e R s m args below meth c H locs 0 0 Q (F0 m pc ls (.int x5 :: .int x4 :: .int x3 :: .int x2 :: .int x1 :: .int x0 :: .ref (ad 62) :: rest)) :=
  cr_v w E.C (va_runV (As := [.int x0, .int x1, .int x2, .int x3, .int x4, .int x5]) (rest := rest) E.fix (c_Vwm_view l D τ B σ ad x0 x1 x2 x3 x4 x5 o h H.size) (cwV 6 E.w (tw_pre (tw_good k2024) (l := [_, _, _, _]) (List.forall_mem_cons.mpr ⟨hlk, List.forall_mem_cons.mpr ⟨k2022, List.forall_mem_cons.mpr ⟨k2023, List.forall_mem_cons.mpr ⟨k18, fun _ h => absurd h List.not_mem_nil⟩⟩⟩⟩)) rfl rfl rfl (by decide +kernel) (E.rm hlev (by decide))) (wd_preV w E.C [.int x0, .int x1, .int x2, .int x3, .int x4, .int x5] rcM_Vwm rfl) rfl rfl hsz rfl (lv_room hr) hd ⟨Nat.zero_le _, Nat.zero_le _⟩) kk
