theorem d_Ptm_isInFrame_0 : decode prog_17_method_12_code 0 = .ok (.iload_n 1, 1) := by decide +kernel
theorem d_Ptm_isInFrame_1 : decode prog_17_method_12_code 1 = .ok (.aload_n 0, 1) := by decide +kernel
theorem d_Ptm_isInFrame_2 : decode prog_17_method_12_code 2 = .ok (.getfield 71, 3) := by decide +kernel
theorem d_Ptm_isInFrame_5 : decode prog_17_method_12_code 5 = .ok (.if_icmp .lt 41, 3) := by decide +kernel
theorem d_Ptm_isInFrame_8 : decode prog_17_method_12_code 8 = .ok (.iload_n 1, 1) := by decide +kernel
theorem d_Ptm_isInFrame_9 : decode prog_17_method_12_code 9 = .ok (.aload_n 0, 1) := by decide +kernel
theorem d_Ptm_isInFrame_10 : decode prog_17_method_12_code 10 = .ok (.getfield 71, 3) := by decide +kernel
theorem d_Ptm_isInFrame_13 : decode prog_17_method_12_code 13 = .ok (.aload_n 0, 1) := by decide +kernel
theorem d_Ptm_isInFrame_14 : decode prog_17_method_12_code 14 = .ok (.getfield 7, 3) := by decide +kernel
theorem d_Ptm_isInFrame_17 : decode prog_17_method_12_code 17 = .ok (.iadd, 1) := by decide +kernel
theorem d_Ptm_isInFrame_18 : decode prog_17_method_12_code 18 = .ok (.if_icmp .ge 28, 3) := by decide +kernel
theorem d_Ptm_isInFrame_21 : decode prog_17_method_12_code 21 = .ok (.iload_n 2, 1) := by decide +kernel
theorem d_Ptm_isInFrame_22 : decode prog_17_method_12_code 22 = .ok (.aload_n 0, 1) := by decide +kernel
theorem d_Ptm_isInFrame_23 : decode prog_17_method_12_code 23 = .ok (.getfield 74, 3) := by decide +kernel
theorem d_Ptm_isInFrame_26 : decode prog_17_method_12_code 26 = .ok (.if_icmp .lt 20, 3) := by decide +kernel
theorem d_Ptm_isInFrame_29 : decode prog_17_method_12_code 29 = .ok (.iload_n 2, 1) := by decide +kernel
theorem d_Ptm_isInFrame_30 : decode prog_17_method_12_code 30 = .ok (.aload_n 0, 1) := by decide +kernel
theorem d_Ptm_isInFrame_31 : decode prog_17_method_12_code 31 = .ok (.getfield 74, 3) := by decide +kernel
theorem d_Ptm_isInFrame_34 : decode prog_17_method_12_code 34 = .ok (.aload_n 0, 1) := by decide +kernel
theorem d_Ptm_isInFrame_35 : decode prog_17_method_12_code 35 = .ok (.getfield 13, 3) := by decide +kernel
theorem d_Ptm_isInFrame_38 : decode prog_17_method_12_code 38 = .ok (.iadd, 1) := by decide +kernel
theorem d_Ptm_isInFrame_39 : decode prog_17_method_12_code 39 = .ok (.if_icmp .ge 7, 3) := by decide +kernel
theorem d_Ptm_isInFrame_42 : decode prog_17_method_12_code 42 = .ok (.iconst 1, 1) := by decide +kernel
theorem d_Ptm_isInFrame_43 : decode prog_17_method_12_code 43 = .ok (.goto 4, 3) := by decide +kernel
theorem d_Ptm_isInFrame_46 : decode prog_17_method_12_code 46 = .ok (.iconst 0, 1) := by decide +kernel
theorem d_Ptm_isInFrame_47 : decode prog_17_method_12_code 47 = .ok (.ireturn, 1) := by decide +kernel
def F_Ptm_isInFrame_47 (σ : Sg) (s0 : Int32) : Option (Int32) := ck (s0 = 0 ∨ s0 = 1) (some s0)
set_option maxRecDepth 10000 in
set_option maxHeartbeats 4000000 in
theorem bt_Ptm_isInFrame_47 {p : Program} {l : Launch} {e : Env} {R : Room} {s : State} {m : MethodId} {args : Array Value} {below : List Frame} {meth : Method} {c : Code} {D : va_G} {τ : ClassId × ClassId × ClassId} {B : Nat} {A : Nat → Prop} {ad : Nat → Nat} (E : Cx p R s m args meth c prog_17_method_12_code 3 "DrawingMachineModel$PlaceTestsModel" 0 D τ B A) (hret : meth.sig.returnType = (some .boolean)) (o : Int32) (σ : Sg) (s0 : Int32) (h : F_Ptm_isInFrame_47 σ s0 = some o) {H : Heap} {locs : List Loc} {ls : Array Slot} (w : Wd s D A (wdM τ σ ad) H locs) (hl : lv_has ls 3 []) : W p l e R s m args below meth c H locs 0 0 (QI below args s A D τ (wdM τ σ ad) o) (F0 m 47 ls [.int s0]) := by
  obtain ⟨c2, h⟩ := ck_some h
  obtain rfl := Option.some.inj h
  exact rt_z E w hret c2 d_Ptm_isInFrame_47
def F_Ptm_isInFrame_46 (σ : Sg) : Option (Int32) := F_Ptm_isInFrame_47 σ 0
set_option maxRecDepth 10000 in
set_option maxHeartbeats 4000000 in
theorem bt_Ptm_isInFrame_46 {p : Program} {l : Launch} {e : Env} {R : Room} {s : State} {m : MethodId} {args : Array Value} {below : List Frame} {meth : Method} {c : Code} {D : va_G} {τ : ClassId × ClassId × ClassId} {B : Nat} {A : Nat → Prop} {ad : Nat → Nat} (E : Cx p R s m args meth c prog_17_method_12_code 3 "DrawingMachineModel$PlaceTestsModel" 0 D τ B A) (hret : meth.sig.returnType = (some .boolean)) (o : Int32) (σ : Sg) (h : F_Ptm_isInFrame_46 σ = some o) {H : Heap} {locs : List Loc} {ls : Array Slot} (w : Wd s D A (wdM τ σ ad) H locs) (hl : lv_has ls 3 []) : W p l e R s m args below meth c H locs 0 0 (QI below args s A D τ (wdM τ σ ad) o) (F0 m 46 ls []) := by
  refine lv_iconst (v := 0) E.x E.b d_Ptm_isInFrame_46 (by decide) ?_
  exact bt_Ptm_isInFrame_47 E hret o σ 0 h w (lv_sub hl [] rfl)
def F_Ptm_isInFrame (σ : Sg) (x0 : Int32) (x1 : Int32) : Option (Int32) := if x0 < (σ.1 29) then (F_Ptm_isInFrame_46 σ) else (if ((σ.1 29) + (σ.1 31)) ≤ x0 then (F_Ptm_isInFrame_46 σ) else (if x1 < (σ.1 30) then (F_Ptm_isInFrame_46 σ) else (if ((σ.1 30) + (σ.1 32)) ≤ x1 then (F_Ptm_isInFrame_46 σ) else (F_Ptm_isInFrame_47 σ 1))))
set_option maxRecDepth 10000 in
set_option maxHeartbeats 4000000 in
theorem c_Ptm_isInFrame (l : Launch) (D : va_G) (τ : ClassId × ClassId × ClassId) (B : Nat) (σ : Sg) (ad : Nat → Nat) (x0 : Int32) (x1 : Int32) (o : Int32) (h : F_Ptm_isInFrame σ x0 x1 = some o) : MI l y_Ptm_isInFrame (Cond.code y_Ptm_isInFrame prog_17_method_12_code 3 (some .boolean)) 0 D τ B [.ref (ad 64), .int x0, .int x1] (wdM τ σ ad) (wdM τ σ ad) o := by
  refine en_i (by decide) (Nat.le_of_ble_eq_true rfl) ?_
  intro p e R s m args below meth c H locs ls A E hret w hl
  have E : Cx p R s m args meth c prog_17_method_12_code 3 "DrawingMachineModel$PlaceTestsModel" 0 D τ B A := E
  have hl : lv_has ls 3 [(0, .ref (ad 64)), (1, .int x0), (2, .int x1)] := hl
  refine lv_iload_n E.x E.b d_Ptm_isInFrame_0 rfl (lv_at hl 1 rfl) ?_
  refine lv_aload_n E.x E.b d_Ptm_isInFrame_1 rfl (lv_at hl 0 rfl) ?_
  refine gM_Ptm_x0 E w k1699 d_Ptm_isInFrame_2 ?_
  refine lv_icmp_lt (tgt := 46) E.x E.b d_Ptm_isInFrame_5 (by decide) (fun c => ?_) (fun c => ?_)
  ·
    replace h := ifT c h
    exact bt_Ptm_isInFrame_46 E hret o σ h w (lv_sub hl [] rfl)
  ·
    replace h := ifF c h
    refine lv_iload_n E.x E.b d_Ptm_isInFrame_8 rfl (lv_at hl 1 rfl) ?_
    refine lv_aload_n E.x E.b d_Ptm_isInFrame_9 rfl (lv_at hl 0 rfl) ?_
    refine gM_Ptm_x0 E w k1699 d_Ptm_isInFrame_10 ?_
    refine lv_aload_n E.x E.b d_Ptm_isInFrame_13 rfl (lv_at hl 0 rfl) ?_
    refine gM_Ptm_wide E w k1701 d_Ptm_isInFrame_14 ?_
    refine lv_iadd E.x E.b d_Ptm_isInFrame_17 ?_
    refine lv_icmp_ge (tgt := 46) E.x E.b d_Ptm_isInFrame_18 (by decide) (fun c => ?_) (fun c => ?_)
    ·
      replace h := ifT c h
      exact bt_Ptm_isInFrame_46 E hret o σ h w (lv_sub hl [] rfl)
    ·
      replace h := ifF c h
      refine lv_iload_n E.x E.b d_Ptm_isInFrame_21 rfl (lv_at hl 2 rfl) ?_
      refine lv_aload_n E.x E.b d_Ptm_isInFrame_22 rfl (lv_at hl 0 rfl) ?_
      refine gM_Ptm_y0 E w k1700 d_Ptm_isInFrame_23 ?_
      refine lv_icmp_lt (tgt := 46) E.x E.b d_Ptm_isInFrame_26 (by decide) (fun c => ?_) (fun c => ?_)
      ·
        replace h := ifT c h
        exact bt_Ptm_isInFrame_46 E hret o σ h w (lv_sub hl [] rfl)
      ·
        replace h := ifF c h
        refine lv_iload_n E.x E.b d_Ptm_isInFrame_29 rfl (lv_at hl 2 rfl) ?_
        refine lv_aload_n E.x E.b d_Ptm_isInFrame_30 rfl (lv_at hl 0 rfl) ?_
        refine gM_Ptm_y0 E w k1700 d_Ptm_isInFrame_31 ?_
        refine lv_aload_n E.x E.b d_Ptm_isInFrame_34 rfl (lv_at hl 0 rfl) ?_
        refine gM_Ptm_high E w k1702 d_Ptm_isInFrame_35 ?_
        refine lv_iadd E.x E.b d_Ptm_isInFrame_38 ?_
        refine lv_icmp_ge (tgt := 46) E.x E.b d_Ptm_isInFrame_39 (by decide) (fun c => ?_) (fun c => ?_)
        ·
          replace h := ifT c h
          exact bt_Ptm_isInFrame_46 E hret o σ h w (lv_sub hl [] rfl)
        ·
          replace h := ifF c h
          refine lv_iconst (v := 1) E.x E.b d_Ptm_isInFrame_42 (by decide) ?_
          refine lv_goto (tgt := 47) E.x E.b d_Ptm_isInFrame_43 (by decide) ?_
          exact bt_Ptm_isInFrame_47 E hret o σ 1 h w (lv_sub hl [] rfl)
theorem clV_Ptm_isInFrame {p : Program} {l : Launch} {e : Env} {R : Room} {s : State} {m : MethodId} {args : Array Value} {below : List Frame} {meth : Method} {c : Code} {H : Heap} {locs : List Loc} {Q : State → Prop} {cc : ByteArray} {nL pc lev : Nat} {own : String} {D : va_G} {τ : ClassId × ClassId × ClassId} {B : Nat} {A : Nat → Prop} {σ : Sg} {ad : Nat → Nat} {ls : Array Slot} {rest : List Value} (E : Cx p R s m args meth c cc nL own lev D τ B A) (w : Wd s D A (wdM τ σ ad) H locs) {x0 : Int32} {x1 : Int32} {o : Int32} (h : F_Ptm_isInFrame σ x0 x1 = some o) {index : Nat} (hlk : Cond.methodLink own index y_Ptm_isInFrame ∈ tw) (hlev : 0 < lev) (hsz : ls.size = nL) (hr : (rest.map fun v => v.category).sum ≤ 8) (hd : decode cc pc = .ok (.invokevirtual index, 3)) (kk : ∀ (H1 : Heap) (locs1 : List Loc), Wd s D A (wdM τ σ ad) H1 locs1 → W p l e R s m args below meth c H1 locs1 0 0 Q (F0 m (pc + 3) ls (.int o :: rest))) : W p l e R s m args below meth c H locs 0 0 Q (F0 m pc ls (.int x1 :: .int x0 :: .ref (ad 64) :: rest)) :=
  cr_i w E.C (va_runV (As := [.int x0, .int x1]) (rest := rest) E.fix (c_Ptm_isInFrame l D τ B σ ad x0 x1 o h H.size) (cwV 2 E.w (tw_pre (tw_good k2071) (l := [_, _, _, _]) (List.forall_mem_cons.mpr ⟨hlk, List.forall_mem_cons.mpr ⟨k2070, List.forall_mem_cons.mpr ⟨ks63, List.forall_mem_cons.mpr ⟨k20, fun _ h => absurd h List.not_mem_nil⟩⟩⟩⟩)) rfl rfl rfl (by decide +kernel) (E.rm hlev (by decide))) (wd_preV w E.C [.int x0, .int x1] rcM_Ptm rfl) rfl rfl hsz rfl (lv_room hr) hd ⟨Nat.zero_le _, Nat.zero_le _⟩) kk

theorem d_Ptm_isOpen_0 : decode prog_17_method_13_code 0 = .ok (.aload_n 0, 1) := by decide +kernel
theorem d_Ptm_isOpen_1 : decode prog_17_method_13_code 1 = .ok (.getfield 77, 3) := by decide +kernel
theorem d_Ptm_isOpen_4 : decode prog_17_method_13_code 4 = .ok (.ifCond .eq 47, 3) := by decide +kernel
theorem d_Ptm_isOpen_7 : decode prog_17_method_13_code 7 = .ok (.iload_n 1, 1) := by decide +kernel
theorem d_Ptm_isOpen_8 : decode prog_17_method_13_code 8 = .ok (.aload_n 0, 1) := by decide +kernel
theorem d_Ptm_isOpen_9 : decode prog_17_method_13_code 9 = .ok (.getfield 27, 3) := by decide +kernel
theorem d_Ptm_isOpen_12 : decode prog_17_method_13_code 12 = .ok (.iconst 0, 1) := by decide +kernel
theorem d_Ptm_isOpen_13 : decode prog_17_method_13_code 13 = .ok (.iaload, 1) := by decide +kernel
theorem d_Ptm_isOpen_14 : decode prog_17_method_13_code 14 = .ok (.if_icmp .lt 33, 3) := by decide +kernel
theorem d_Ptm_isOpen_17 : decode prog_17_method_13_code 17 = .ok (.iload_n 2, 1) := by decide +kernel
theorem d_Ptm_isOpen_18 : decode prog_17_method_13_code 18 = .ok (.aload_n 0, 1) := by decide +kernel
theorem d_Ptm_isOpen_19 : decode prog_17_method_13_code 19 = .ok (.getfield 27, 3) := by decide +kernel
theorem d_Ptm_isOpen_22 : decode prog_17_method_13_code 22 = .ok (.iconst 1, 1) := by decide +kernel
theorem d_Ptm_isOpen_23 : decode prog_17_method_13_code 23 = .ok (.iaload, 1) := by decide +kernel
theorem d_Ptm_isOpen_24 : decode prog_17_method_13_code 24 = .ok (.if_icmp .lt 23, 3) := by decide +kernel
theorem d_Ptm_isOpen_27 : decode prog_17_method_13_code 27 = .ok (.iload_n 1, 1) := by decide +kernel
theorem d_Ptm_isOpen_28 : decode prog_17_method_13_code 28 = .ok (.aload_n 0, 1) := by decide +kernel
theorem d_Ptm_isOpen_29 : decode prog_17_method_13_code 29 = .ok (.getfield 27, 3) := by decide +kernel
theorem d_Ptm_isOpen_32 : decode prog_17_method_13_code 32 = .ok (.iconst 2, 1) := by decide +kernel
theorem d_Ptm_isOpen_33 : decode prog_17_method_13_code 33 = .ok (.iaload, 1) := by decide +kernel
theorem d_Ptm_isOpen_34 : decode prog_17_method_13_code 34 = .ok (.if_icmp .ge 13, 3) := by decide +kernel
theorem d_Ptm_isOpen_37 : decode prog_17_method_13_code 37 = .ok (.iload_n 2, 1) := by decide +kernel
theorem d_Ptm_isOpen_38 : decode prog_17_method_13_code 38 = .ok (.aload_n 0, 1) := by decide +kernel
theorem d_Ptm_isOpen_39 : decode prog_17_method_13_code 39 = .ok (.getfield 27, 3) := by decide +kernel
theorem d_Ptm_isOpen_42 : decode prog_17_method_13_code 42 = .ok (.iconst 3, 1) := by decide +kernel
theorem d_Ptm_isOpen_43 : decode prog_17_method_13_code 43 = .ok (.iaload, 1) := by decide +kernel
theorem d_Ptm_isOpen_44 : decode prog_17_method_13_code 44 = .ok (.if_icmp .lt 7, 3) := by decide +kernel
theorem d_Ptm_isOpen_47 : decode prog_17_method_13_code 47 = .ok (.iconst 1, 1) := by decide +kernel
theorem d_Ptm_isOpen_48 : decode prog_17_method_13_code 48 = .ok (.goto 4, 3) := by decide +kernel
theorem d_Ptm_isOpen_51 : decode prog_17_method_13_code 51 = .ok (.iconst 0, 1) := by decide +kernel
theorem d_Ptm_isOpen_52 : decode prog_17_method_13_code 52 = .ok (.istore_n 3, 1) := by decide +kernel
theorem d_Ptm_isOpen_53 : decode prog_17_method_13_code 53 = .ok (.aload_n 0, 1) := by decide +kernel
theorem d_Ptm_isOpen_54 : decode prog_17_method_13_code 54 = .ok (.iload_n 1, 1) := by decide +kernel
theorem d_Ptm_isOpen_55 : decode prog_17_method_13_code 55 = .ok (.iload_n 2, 1) := by decide +kernel
theorem d_Ptm_isOpen_56 : decode prog_17_method_13_code 56 = .ok (.invokevirtual 87, 3) := by decide +kernel
theorem d_Ptm_isOpen_59 : decode prog_17_method_13_code 59 = .ok (.ifCond .eq 11, 3) := by decide +kernel
theorem d_Ptm_isOpen_62 : decode prog_17_method_13_code 62 = .ok (.iload_n 3, 1) := by decide +kernel
theorem d_Ptm_isOpen_63 : decode prog_17_method_13_code 63 = .ok (.ifCond .ne 7, 3) := by decide +kernel
theorem d_Ptm_isOpen_66 : decode prog_17_method_13_code 66 = .ok (.iconst 1, 1) := by decide +kernel
theorem d_Ptm_isOpen_67 : decode prog_17_method_13_code 67 = .ok (.goto 4, 3) := by decide +kernel
theorem d_Ptm_isOpen_70 : decode prog_17_method_13_code 70 = .ok (.iconst 0, 1) := by decide +kernel
theorem d_Ptm_isOpen_71 : decode prog_17_method_13_code 71 = .ok (.ireturn, 1) := by decide +kernel
def F_Ptm_isOpen_71 (σ : Sg) (s0 : Int32) : Option (Int32) := ck (s0 = 0 ∨ s0 = 1) (some s0)
set_option maxRecDepth 10000 in
set_option maxHeartbeats 4000000 in
theorem bt_Ptm_isOpen_71 {p : Program} {l : Launch} {e : Env} {R : Room} {s : State} {m : MethodId} {args : Array Value} {below : List Frame} {meth : Method} {c : Code} {D : va_G} {τ : ClassId × ClassId × ClassId} {B : Nat} {A : Nat → Prop} {ad : Nat → Nat} (E : Cx p R s m args meth c prog_17_method_13_code 4 "DrawingMachineModel$PlaceTestsModel" 1 D τ B A) (hret : meth.sig.returnType = (some .boolean)) (o : Int32) (σ : Sg) (s0 : Int32) (h : F_Ptm_isOpen_71 σ s0 = some o) {H : Heap} {locs : List Loc} {ls : Array Slot} (w : Wd s D A (wdM τ σ ad) H locs) (hl : lv_has ls 4 []) : W p l e R s m args below meth c H locs 0 0 (QI below args s A D τ (wdM τ σ ad) o) (F0 m 71 ls [.int s0]) := by
  obtain ⟨c3, h⟩ := ck_some h
  obtain rfl := Option.some.inj h
  exact rt_z E w hret c3 d_Ptm_isOpen_71
def F_Ptm_isOpen_70 (σ : Sg) : Option (Int32) := F_Ptm_isOpen_71 σ 0
set_option maxRecDepth 10000 in
set_option maxHeartbeats 4000000 in
theorem bt_Ptm_isOpen_70 {p : Program} {l : Launch} {e : Env} {R : Room} {s : State} {m : MethodId} {args : Array Value} {below : List Frame} {meth : Method} {c : Code} {D : va_G} {τ : ClassId × ClassId × ClassId} {B : Nat} {A : Nat → Prop} {ad : Nat → Nat} (E : Cx p R s m args meth c prog_17_method_13_code 4 "DrawingMachineModel$PlaceTestsModel" 1 D τ B A) (hret : meth.sig.returnType = (some .boolean)) (o : Int32) (σ : Sg) (h : F_Ptm_isOpen_70 σ = some o) {H : Heap} {locs : List Loc} {ls : Array Slot} (w : Wd s D A (wdM τ σ ad) H locs) (hl : lv_has ls 4 []) : W p l e R s m args below meth c H locs 0 0 (QI below args s A D τ (wdM τ σ ad) o) (F0 m 70 ls []) := by
  refine lv_iconst (v := 0) E.x E.b d_Ptm_isOpen_70 (by decide) ?_
  exact bt_Ptm_isOpen_71 E hret o σ 0 h w (lv_sub hl [] rfl)
def F_Ptm_isOpen_52 (σ : Sg) (v1 : Int32) (v2 : Int32) (s0 : Int32) : Option (Int32) := bd (F_Ptm_isInFrame σ v1 v2) (fun o4 => if o4 = 0 then (F_Ptm_isOpen_70 σ) else (if s0 = 0 then (F_Ptm_isOpen_71 σ 1) else (F_Ptm_isOpen_70 σ)))
set_option maxRecDepth 10000 in
set_option maxHeartbeats 4000000 in
theorem bt_Ptm_isOpen_52 {p : Program} {l : Launch} {e : Env} {R : Room} {s : State} {m : MethodId} {args : Array Value} {below : List Frame} {meth : Method} {c : Code} {D : va_G} {τ : ClassId × ClassId × ClassId} {B : Nat} {A : Nat → Prop} {ad : Nat → Nat} (E : Cx p R s m args meth c prog_17_method_13_code 4 "DrawingMachineModel$PlaceTestsModel" 1 D τ B A) (hret : meth.sig.returnType = (some .boolean)) (o : Int32) (σ : Sg) (v1 : Int32) (v2 : Int32) (s0 : Int32) (h : F_Ptm_isOpen_52 σ v1 v2 s0 = some o) {H : Heap} {locs : List Loc} {ls : Array Slot} (w : Wd s D A (wdM τ σ ad) H locs) (hl : lv_has ls 4 [(0, .ref (ad 64)), (1, .int v1), (2, .int v2)]) : W p l e R s m args below meth c H locs 0 0 (QI below args s A D τ (wdM τ σ ad) o) (F0 m 52 ls [.int s0]) := by
  refine lv_istore_n (lv' := [(3, .int s0), (0, .ref (ad 64)), (1, .int v1), (2, .int v2)]) E.x E.b d_Ptm_isOpen_52 rfl hl (by decide) rfl (fun ls hl => ?_)
  refine lv_aload_n E.x E.b d_Ptm_isOpen_53 rfl (lv_at hl 1 rfl) ?_
  refine lv_iload_n E.x E.b d_Ptm_isOpen_54 rfl (lv_at hl 2 rfl) ?_
  refine lv_iload_n E.x E.b d_Ptm_isOpen_55 rfl (lv_at hl 3 rfl) ?_
  obtain ⟨o4, h_o4, h⟩ := bd_some h
  refine clV_Ptm_isInFrame E w (x0 := v1) (x1 := v2) h_o4 k2068 (by decide) hl.1 (Nat.le_of_ble_eq_true rfl) d_Ptm_isOpen_56 (fun H locs w => ?_)
  refine lv_if_eq (tgt := 70) E.x E.b d_Ptm_isOpen_59 (by decide) (fun c => ?_) (fun c => ?_)
  ·
    replace h := ifT c h
    exact bt_Ptm_isOpen_70 E hret o σ h w (lv_sub hl [] rfl)
  ·
    replace h := ifF c h
    refine lv_iload_n E.x E.b d_Ptm_isOpen_62 rfl (lv_at hl 0 rfl) ?_
    refine lv_if_ne (tgt := 70) E.x E.b d_Ptm_isOpen_63 (by decide) (fun c => ?_) (fun c => ?_)
    ·
      replace h := ifF c h
      exact bt_Ptm_isOpen_70 E hret o σ h w (lv_sub hl [] rfl)
    ·
      replace h := ifT c h
      refine lv_iconst (v := 1) E.x E.b d_Ptm_isOpen_66 (by decide) ?_
      refine lv_goto (tgt := 71) E.x E.b d_Ptm_isOpen_67 (by decide) ?_
      exact bt_Ptm_isOpen_71 E hret o σ 1 h w (lv_sub hl [] rfl)
def F_Ptm_isOpen_51 (σ : Sg) (v1 : Int32) (v2 : Int32) : Option (Int32) := F_Ptm_isOpen_52 σ v1 v2 0
set_option maxRecDepth 10000 in
set_option maxHeartbeats 4000000 in
theorem bt_Ptm_isOpen_51 {p : Program} {l : Launch} {e : Env} {R : Room} {s : State} {m : MethodId} {args : Array Value} {below : List Frame} {meth : Method} {c : Code} {D : va_G} {τ : ClassId × ClassId × ClassId} {B : Nat} {A : Nat → Prop} {ad : Nat → Nat} (E : Cx p R s m args meth c prog_17_method_13_code 4 "DrawingMachineModel$PlaceTestsModel" 1 D τ B A) (hret : meth.sig.returnType = (some .boolean)) (o : Int32) (σ : Sg) (v1 : Int32) (v2 : Int32) (h : F_Ptm_isOpen_51 σ v1 v2 = some o) {H : Heap} {locs : List Loc} {ls : Array Slot} (w : Wd s D A (wdM τ σ ad) H locs) (hl : lv_has ls 4 [(0, .ref (ad 64)), (1, .int v1), (2, .int v2)]) : W p l e R s m args below meth c H locs 0 0 (QI below args s A D τ (wdM τ σ ad) o) (F0 m 51 ls []) := by
  refine lv_iconst (v := 0) E.x E.b d_Ptm_isOpen_51 (by decide) ?_
  exact bt_Ptm_isOpen_52 E hret o σ v1 v2 0 h w (lv_sub hl [0, 1, 2] rfl)
def F_Ptm_isOpen_47 (σ : Sg) (v1 : Int32) (v2 : Int32) : Option (Int32) := F_Ptm_isOpen_52 σ v1 v2 1
set_option maxRecDepth 10000 in
set_option maxHeartbeats 4000000 in
theorem bt_Ptm_isOpen_47 {p : Program} {l : Launch} {e : Env} {R : Room} {s : State} {m : MethodId} {args : Array Value} {below : List Frame} {meth : Method} {c : Code} {D : va_G} {τ : ClassId × ClassId × ClassId} {B : Nat} {A : Nat → Prop} {ad : Nat → Nat} (E : Cx p R s m args meth c prog_17_method_13_code 4 "DrawingMachineModel$PlaceTestsModel" 1 D τ B A) (hret : meth.sig.returnType = (some .boolean)) (o : Int32) (σ : Sg) (v1 : Int32) (v2 : Int32) (h : F_Ptm_isOpen_47 σ v1 v2 = some o) {H : Heap} {locs : List Loc} {ls : Array Slot} (w : Wd s D A (wdM τ σ ad) H locs) (hl : lv_has ls 4 [(0, .ref (ad 64)), (1, .int v1), (2, .int v2)]) : W p l e R s m args below meth c H locs 0 0 (QI below args s A D τ (wdM τ σ ad) o) (F0 m 47 ls []) := by
  refine lv_iconst (v := 1) E.x E.b d_Ptm_isOpen_47 (by decide) ?_
  refine lv_goto (tgt := 52) E.x E.b d_Ptm_isOpen_48 (by decide) ?_
  exact bt_Ptm_isOpen_52 E hret o σ v1 v2 1 h w (lv_sub hl [0, 1, 2] rfl)
def F_Ptm_isOpen (σ : Sg) (x0 : Int32) (x1 : Int32) : Option (Int32) := if (σ.1 33) = 0 then (F_Ptm_isOpen_51 σ x0 x1) else (if x0 < (σ.2.2.1 48 0) then (F_Ptm_isOpen_47 σ x0 x1) else (if x1 < (σ.2.2.1 48 1) then (F_Ptm_isOpen_47 σ x0 x1) else (if (σ.2.2.1 48 2) ≤ x0 then (F_Ptm_isOpen_47 σ x0 x1) else (if x1 < (σ.2.2.1 48 3) then (F_Ptm_isOpen_51 σ x0 x1) else (F_Ptm_isOpen_47 σ x0 x1)))))
set_option maxRecDepth 10000 in
set_option maxHeartbeats 4000000 in
theorem c_Ptm_isOpen (l : Launch) (D : va_G) (τ : ClassId × ClassId × ClassId) (B : Nat) (σ : Sg) (ad : Nat → Nat) (x0 : Int32) (x1 : Int32) (o : Int32) (h : F_Ptm_isOpen σ x0 x1 = some o) : MI l y_Ptm_isOpen (Cond.code y_Ptm_isOpen prog_17_method_13_code 4 (some .boolean)) 1 D τ B [.ref (ad 64), .int x0, .int x1] (wdM τ σ ad) (wdM τ σ ad) o := by
  refine en_i (by decide) (Nat.le_of_ble_eq_true rfl) ?_
  intro p e R s m args below meth c H locs ls A E hret w hl
  have E : Cx p R s m args meth c prog_17_method_13_code 4 "DrawingMachineModel$PlaceTestsModel" 1 D τ B A := E
  have hl : lv_has ls 4 [(0, .ref (ad 64)), (1, .int x0), (2, .int x1)] := hl
  refine lv_aload_n E.x E.b d_Ptm_isOpen_0 rfl (lv_at hl 0 rfl) ?_
  refine gM_Ptm_scissored E w k1706 d_Ptm_isOpen_1 ?_
  refine lv_if_eq (tgt := 51) E.x E.b d_Ptm_isOpen_4 (by decide) (fun c => ?_) (fun c => ?_)
  ·
    replace h := ifT c h
    exact bt_Ptm_isOpen_51 E hret o σ x0 x1 h w (lv_sub hl [0, 1, 2] rfl)
  ·
    replace h := ifF c h
    refine lv_iload_n E.x E.b d_Ptm_isOpen_7 rfl (lv_at hl 1 rfl) ?_
    refine lv_aload_n E.x E.b d_Ptm_isOpen_8 rfl (lv_at hl 0 rfl) ?_
    refine gM_Ptm_scissor E w k1707 d_Ptm_isOpen_9 ?_
    refine lv_iconst (v := 0) E.x E.b d_Ptm_isOpen_12 (by decide) ?_
    refine ialM E w (k := 48) (by decide) (show inb 0 4 by decide) d_Ptm_isOpen_13 ?_
    refine wi_e (v := σ.2.2.1 48 0) rfl ?_
    refine lv_icmp_lt (tgt := 47) E.x E.b d_Ptm_isOpen_14 (by decide) (fun c => ?_) (fun c => ?_)
    ·
      replace h := ifT c h
      exact bt_Ptm_isOpen_47 E hret o σ x0 x1 h w (lv_sub hl [0, 1, 2] rfl)
    ·
      replace h := ifF c h
      refine lv_iload_n E.x E.b d_Ptm_isOpen_17 rfl (lv_at hl 2 rfl) ?_
      refine lv_aload_n E.x E.b d_Ptm_isOpen_18 rfl (lv_at hl 0 rfl) ?_
      refine gM_Ptm_scissor E w k1707 d_Ptm_isOpen_19 ?_
      refine lv_iconst (v := 1) E.x E.b d_Ptm_isOpen_22 (by decide) ?_
      refine ialM E w (k := 48) (by decide) (show inb 1 4 by decide) d_Ptm_isOpen_23 ?_
      refine wi_e (v := σ.2.2.1 48 1) rfl ?_
      refine lv_icmp_lt (tgt := 47) E.x E.b d_Ptm_isOpen_24 (by decide) (fun c => ?_) (fun c => ?_)
      ·
        replace h := ifT c h
        exact bt_Ptm_isOpen_47 E hret o σ x0 x1 h w (lv_sub hl [0, 1, 2] rfl)
      ·
        replace h := ifF c h
        refine lv_iload_n E.x E.b d_Ptm_isOpen_27 rfl (lv_at hl 1 rfl) ?_
        refine lv_aload_n E.x E.b d_Ptm_isOpen_28 rfl (lv_at hl 0 rfl) ?_
        refine gM_Ptm_scissor E w k1707 d_Ptm_isOpen_29 ?_
        refine lv_iconst (v := 2) E.x E.b d_Ptm_isOpen_32 (by decide) ?_
        refine ialM E w (k := 48) (by decide) (show inb 2 4 by decide) d_Ptm_isOpen_33 ?_
        refine wi_e (v := σ.2.2.1 48 2) rfl ?_
        refine lv_icmp_ge (tgt := 47) E.x E.b d_Ptm_isOpen_34 (by decide) (fun c => ?_) (fun c => ?_)
        ·
          replace h := ifT c h
          exact bt_Ptm_isOpen_47 E hret o σ x0 x1 h w (lv_sub hl [0, 1, 2] rfl)
        ·
          replace h := ifF c h
          refine lv_iload_n E.x E.b d_Ptm_isOpen_37 rfl (lv_at hl 2 rfl) ?_
          refine lv_aload_n E.x E.b d_Ptm_isOpen_38 rfl (lv_at hl 0 rfl) ?_
          refine gM_Ptm_scissor E w k1707 d_Ptm_isOpen_39 ?_
          refine lv_iconst (v := 3) E.x E.b d_Ptm_isOpen_42 (by decide) ?_
          refine ialM E w (k := 48) (by decide) (show inb 3 4 by decide) d_Ptm_isOpen_43 ?_
          refine wi_e (v := σ.2.2.1 48 3) rfl ?_
          refine lv_icmp_lt (tgt := 51) E.x E.b d_Ptm_isOpen_44 (by decide) (fun c => ?_) (fun c => ?_)
          ·
            replace h := ifT c h
            exact bt_Ptm_isOpen_51 E hret o σ x0 x1 h w (lv_sub hl [0, 1, 2] rfl)
          ·
            replace h := ifF c h
            exact bt_Ptm_isOpen_47 E hret o σ x0 x1 h w (lv_sub hl [0, 1, 2] rfl)
theorem clV_Ptm_isOpen {p : Program} {l : Launch} {e : Env} {R : Room} {s : State} {m : MethodId} {args : Array Value} {below : List Frame} {meth : Method} {c : Code} {H : Heap} {locs : List Loc} {Q : State → Prop} {cc : ByteArray} {nL pc lev : Nat} {own : String} {D : va_G} {τ : ClassId × ClassId × ClassId} {B : Nat} {A : Nat → Prop} {σ : Sg} {ad : Nat → Nat} {ls : Array Slot} {rest : List Value} (E : Cx p R s m args meth c cc nL own lev D τ B A) (w : Wd s D A (wdM τ σ ad) H locs) {x0 : Int32} {x1 : Int32} {o : Int32} (h : F_Ptm_isOpen σ x0 x1 = some o) {index : Nat} (hlk : Cond.methodLink own index y_Ptm_isOpen ∈ tw) (hlev : 1 < lev) (hsz : ls.size = nL) (hr : (rest.map fun v => v.category).sum ≤ 8) (hd : decode cc pc = .ok (.invokevirtual index, 3)) (kk : ∀ (H1 : Heap) (locs1 : List Loc), Wd s D A (wdM τ σ ad) H1 locs1 → W p l e R s m args below meth c H1 locs1 0 0 Q (F0 m (pc + 3) ls (.int o :: rest))) : W p l e R s m args below meth c H locs 0 0 Q (F0 m pc ls (.int x1 :: .int x0 :: .ref (ad 64) :: rest)) :=
  cr_i w E.C (va_runV (As := [.int x0, .int x1]) (rest := rest) E.fix (c_Ptm_isOpen l D τ B σ ad x0 x1 o h H.size) (cwV 2 E.w (tw_pre (tw_good k2067) (l := [_, _, _, _]) (List.forall_mem_cons.mpr ⟨hlk, List.forall_mem_cons.mpr ⟨k2066, List.forall_mem_cons.mpr ⟨ks62, List.forall_mem_cons.mpr ⟨k20, fun _ h => absurd h List.not_mem_nil⟩⟩⟩⟩)) rfl rfl rfl (by decide +kernel) (E.rm hlev (by decide))) (wd_preV w E.C [.int x0, .int x1] rcM_Ptm rfl) rfl rfl hsz rfl (lv_room hr) hd ⟨Nat.zero_le _, Nat.zero_le _⟩) kk

theorem d_Ptm_placeOf_0 : decode prog_17_method_14_code 0 = .ok (.iload_n 2, 1) := by decide +kernel
theorem d_Ptm_placeOf_1 : decode prog_17_method_14_code 1 = .ok (.aload_n 0, 1) := by decide +kernel
theorem d_Ptm_placeOf_2 : decode prog_17_method_14_code 2 = .ok (.getfield 74, 3) := by decide +kernel
theorem d_Ptm_placeOf_5 : decode prog_17_method_14_code 5 = .ok (.isub, 1) := by decide +kernel
theorem d_Ptm_placeOf_6 : decode prog_17_method_14_code 6 = .ok (.aload_n 0, 1) := by decide +kernel
theorem d_Ptm_placeOf_7 : decode prog_17_method_14_code 7 = .ok (.getfield 7, 3) := by decide +kernel
theorem d_Ptm_placeOf_10 : decode prog_17_method_14_code 10 = .ok (.imul, 1) := by decide +kernel
theorem d_Ptm_placeOf_11 : decode prog_17_method_14_code 11 = .ok (.iload_n 1, 1) := by decide +kernel
theorem d_Ptm_placeOf_12 : decode prog_17_method_14_code 12 = .ok (.iadd, 1) := by decide +kernel
theorem d_Ptm_placeOf_13 : decode prog_17_method_14_code 13 = .ok (.aload_n 0, 1) := by decide +kernel
theorem d_Ptm_placeOf_14 : decode prog_17_method_14_code 14 = .ok (.getfield 71, 3) := by decide +kernel
theorem d_Ptm_placeOf_17 : decode prog_17_method_14_code 17 = .ok (.isub, 1) := by decide +kernel
theorem d_Ptm_placeOf_18 : decode prog_17_method_14_code 18 = .ok (.ireturn, 1) := by decide +kernel
def F_Ptm_placeOf (σ : Sg) (x0 : Int32) (x1 : Int32) : Option (Int32) := some ((((x1 - (σ.1 30)) * (σ.1 31)) + x0) - (σ.1 29))
set_option maxRecDepth 10000 in
set_option maxHeartbeats 4000000 in
theorem c_Ptm_placeOf (l : Launch) (D : va_G) (τ : ClassId × ClassId × ClassId) (B : Nat) (σ : Sg) (ad : Nat → Nat) (x0 : Int32) (x1 : Int32) (o : Int32) (h : F_Ptm_placeOf σ x0 x1 = some o) : MI l y_Ptm_placeOf (Cond.code y_Ptm_placeOf prog_17_method_14_code 3 (some .int)) 0 D τ B [.ref (ad 64), .int x0, .int x1] (wdM τ σ ad) (wdM τ σ ad) o := by
  refine en_i (by decide) (Nat.le_of_ble_eq_true rfl) ?_
  intro p e R s m args below meth c H locs ls A E hret w hl
  have E : Cx p R s m args meth c prog_17_method_14_code 3 "DrawingMachineModel$PlaceTestsModel" 0 D τ B A := E
  have hl : lv_has ls 3 [(0, .ref (ad 64)), (1, .int x0), (2, .int x1)] := hl
  refine lv_iload_n E.x E.b d_Ptm_placeOf_0 rfl (lv_at hl 2 rfl) ?_
  refine lv_aload_n E.x E.b d_Ptm_placeOf_1 rfl (lv_at hl 0 rfl) ?_
  refine gM_Ptm_y0 E w k1700 d_Ptm_placeOf_2 ?_
  refine lv_isub E.x E.b d_Ptm_placeOf_5 ?_
  refine lv_aload_n E.x E.b d_Ptm_placeOf_6 rfl (lv_at hl 0 rfl) ?_
  refine gM_Ptm_wide E w k1701 d_Ptm_placeOf_7 ?_
  refine lv_imul E.x E.b d_Ptm_placeOf_10 ?_
  refine lv_iload_n E.x E.b d_Ptm_placeOf_11 rfl (lv_at hl 1 rfl) ?_
  refine lv_iadd E.x E.b d_Ptm_placeOf_12 ?_
  refine lv_aload_n E.x E.b d_Ptm_placeOf_13 rfl (lv_at hl 0 rfl) ?_
  refine gM_Ptm_x0 E w k1699 d_Ptm_placeOf_14 ?_
  refine lv_isub E.x E.b d_Ptm_placeOf_17 ?_
  obtain rfl := Option.some.inj h
  exact rt_i E w hret d_Ptm_placeOf_18
theorem clV_Ptm_placeOf {p : Program} {l : Launch} {e : Env} {R : Room} {s : State} {m : MethodId} {args : Array Value} {below : List Frame} {meth : Method} {c : Code} {H : Heap} {locs : List Loc} {Q : State → Prop} {cc : ByteArray} {nL pc lev : Nat} {own : String} {D : va_G} {τ : ClassId × ClassId × ClassId} {B : Nat} {A : Nat → Prop} {σ : Sg} {ad : Nat → Nat} {ls : Array Slot} {rest : List Value} (E : Cx p R s m args meth c cc nL own lev D τ B A) (w : Wd s D A (wdM τ σ ad) H locs) {x0 : Int32} {x1 : Int32} {o : Int32} (h : F_Ptm_placeOf σ x0 x1 = some o) {index : Nat} (hlk : Cond.methodLink own index y_Ptm_placeOf ∈ tw) (hlev : 0 < lev) (hsz : ls.size = nL) (hr : (rest.map fun v => v.category).sum ≤ 8) (hd : decode cc pc = .ok (.invokevirtual index, 3)) (kk : ∀ (H1 : Heap) (locs1 : List Loc), Wd s D A (wdM τ σ ad) H1 locs1 → W p l e R s m args below meth c H1 locs1 0 0 Q (F0 m (pc + 3) ls (.int o :: rest))) : W p l e R s m args below meth c H locs 0 0 Q (F0 m pc ls (.int x1 :: .int x0 :: .ref (ad 64) :: rest)) :=
  cr_i w E.C (va_runV (As := [.int x0, .int x1]) (rest := rest) E.fix (c_Ptm_placeOf l D τ B σ ad x0 x1 o h H.size) (cwV 2 E.w (tw_pre (tw_good k2075) (l := [_, _, _, _]) (List.forall_mem_cons.mpr ⟨hlk, List.forall_mem_cons.mpr ⟨k2074, List.forall_mem_cons.mpr ⟨ks64, List.forall_mem_cons.mpr ⟨k20, fun _ h => absurd h List.not_mem_nil⟩⟩⟩⟩)) rfl rfl rfl (by decide +kernel) (E.rm hlev (by decide))) (wd_preV w E.C [.int x0, .int x1] rcM_Ptm rfl) rfl rfl hsz rfl (lv_room hr) hd ⟨Nat.zero_le _, Nat.zero_le _⟩) kk

theorem d_Ptm_draw_0 : decode prog_17_method_26_code 0 = .ok (.aload_n 0, 1) := by decide +kernel
theorem d_Ptm_draw_1 : decode prog_17_method_26_code 1 = .ok (.iload_n 3, 1) := by decide +kernel
theorem d_Ptm_draw_2 : decode prog_17_method_26_code 2 = .ok (.iconst 0, 1) := by decide +kernel
theorem d_Ptm_draw_3 : decode prog_17_method_26_code 3 = .ok (.ldc 91, 2) := by decide +kernel
theorem d_Ptm_draw_5 : decode prog_17_method_26_code 5 = .ok (.invokestatic 63, 3) := by decide +kernel
theorem d_Ptm_draw_8 : decode prog_17_method_26_code 8 = .ok (.ifCond .eq 13, 3) := by decide +kernel
theorem d_Ptm_draw_11 : decode prog_17_method_26_code 11 = .ok (.iload 4, 2) := by decide +kernel
theorem d_Ptm_draw_13 : decode prog_17_method_26_code 13 = .ok (.iconst 0, 1) := by decide +kernel
theorem d_Ptm_draw_14 : decode prog_17_method_26_code 14 = .ok (.iconst 1, 1) := by decide +kernel
theorem d_Ptm_draw_15 : decode prog_17_method_26_code 15 = .ok (.invokestatic 63, 3) := by decide +kernel
theorem d_Ptm_draw_18 : decode prog_17_method_26_code 18 = .ok (.ifCond .ne 7, 3) := by decide +kernel
theorem d_Ptm_draw_21 : decode prog_17_method_26_code 21 = .ok (.iconst 1, 1) := by decide +kernel
theorem d_Ptm_draw_22 : decode prog_17_method_26_code 22 = .ok (.goto 4, 3) := by decide +kernel
theorem d_Ptm_draw_25 : decode prog_17_method_26_code 25 = .ok (.iconst 0, 1) := by decide +kernel
theorem d_Ptm_draw_26 : decode prog_17_method_26_code 26 = .ok (.iconst 0, 1) := by decide +kernel
theorem d_Ptm_draw_27 : decode prog_17_method_26_code 27 = .ok (.invokevirtual 67, 3) := by decide +kernel
theorem d_Ptm_draw_30 : decode prog_17_method_26_code 30 = .ok (.ifCond .eq 5, 3) := by decide +kernel
theorem d_Ptm_draw_33 : decode prog_17_method_26_code 33 = .ok (.iconst 0, 1) := by decide +kernel
theorem d_Ptm_draw_34 : decode prog_17_method_26_code 34 = .ok (.ireturn, 1) := by decide +kernel
theorem d_Ptm_draw_35 : decode prog_17_method_26_code 35 = .ok (.aload_n 0, 1) := by decide +kernel
theorem d_Ptm_draw_36 : decode prog_17_method_26_code 36 = .ok (.iload_n 1, 1) := by decide +kernel
theorem d_Ptm_draw_37 : decode prog_17_method_26_code 37 = .ok (.iload_n 2, 1) := by decide +kernel
theorem d_Ptm_draw_38 : decode prog_17_method_26_code 38 = .ok (.invokevirtual 92, 3) := by decide +kernel
theorem d_Ptm_draw_41 : decode prog_17_method_26_code 41 = .ok (.ifCond .ne 9, 3) := by decide +kernel
theorem d_Ptm_draw_44 : decode prog_17_method_26_code 44 = .ok (.aload_n 0, 1) := by decide +kernel
theorem d_Ptm_draw_45 : decode prog_17_method_26_code 45 = .ok (.iconst 0, 1) := by decide +kernel
theorem d_Ptm_draw_46 : decode prog_17_method_26_code 46 = .ok (.invokevirtual 115, 3) := by decide +kernel
theorem d_Ptm_draw_49 : decode prog_17_method_26_code 49 = .ok (.ireturn, 1) := by decide +kernel
theorem d_Ptm_draw_50 : decode prog_17_method_26_code 50 = .ok (.aload_n 0, 1) := by decide +kernel
theorem d_Ptm_draw_51 : decode prog_17_method_26_code 51 = .ok (.iload_n 1, 1) := by decide +kernel
theorem d_Ptm_draw_52 : decode prog_17_method_26_code 52 = .ok (.iload_n 2, 1) := by decide +kernel
theorem d_Ptm_draw_53 : decode prog_17_method_26_code 53 = .ok (.invokevirtual 95, 3) := by decide +kernel
theorem d_Ptm_draw_56 : decode prog_17_method_26_code 56 = .ok (.istore 9, 2) := by decide +kernel
theorem d_Ptm_draw_58 : decode prog_17_method_26_code 58 = .ok (.bipush 7, 2) := by decide +kernel
theorem d_Ptm_draw_60 : decode prog_17_method_26_code 60 = .ok (.iload 4, 2) := by decide +kernel
theorem d_Ptm_draw_62 : decode prog_17_method_26_code 62 = .ok (.imul, 1) := by decide +kernel
theorem d_Ptm_draw_63 : decode prog_17_method_26_code 63 = .ok (.istore 10, 2) := by decide +kernel
theorem d_Ptm_draw_65 : decode prog_17_method_26_code 65 = .ok (.aload_n 0, 1) := by decide +kernel
theorem d_Ptm_draw_66 : decode prog_17_method_26_code 66 = .ok (.getfield 33, 3) := by decide +kernel
theorem d_Ptm_draw_69 : decode prog_17_method_26_code 69 = .ok (.iload 10, 2) := by decide +kernel
theorem d_Ptm_draw_71 : decode prog_17_method_26_code 71 = .ok (.iaload, 1) := by decide +kernel
theorem d_Ptm_draw_72 : decode prog_17_method_26_code 72 = .ok (.ifCond .lt 67, 3) := by decide +kernel
theorem d_Ptm_draw_75 : decode prog_17_method_26_code 75 = .ok (.aload_n 0, 1) := by decide +kernel
theorem d_Ptm_draw_76 : decode prog_17_method_26_code 76 = .ok (.getfield 33, 3) := by decide +kernel
theorem d_Ptm_draw_79 : decode prog_17_method_26_code 79 = .ok (.iload 10, 2) := by decide +kernel
theorem d_Ptm_draw_81 : decode prog_17_method_26_code 81 = .ok (.iaload, 1) := by decide +kernel
theorem d_Ptm_draw_82 : decode prog_17_method_26_code 82 = .ok (.aload_n 0, 1) := by decide +kernel
theorem d_Ptm_draw_83 : decode prog_17_method_26_code 83 = .ok (.getfield 33, 3) := by decide +kernel
theorem d_Ptm_draw_86 : decode prog_17_method_26_code 86 = .ok (.iload 10, 2) := by decide +kernel
theorem d_Ptm_draw_88 : decode prog_17_method_26_code 88 = .ok (.iconst 1, 1) := by decide +kernel
theorem d_Ptm_draw_89 : decode prog_17_method_26_code 89 = .ok (.iadd, 1) := by decide +kernel
theorem d_Ptm_draw_90 : decode prog_17_method_26_code 90 = .ok (.iaload, 1) := by decide +kernel
theorem d_Ptm_draw_91 : decode prog_17_method_26_code 91 = .ok (.aload_n 0, 1) := by decide +kernel
theorem d_Ptm_draw_92 : decode prog_17_method_26_code 92 = .ok (.getfield 33, 3) := by decide +kernel
theorem d_Ptm_draw_95 : decode prog_17_method_26_code 95 = .ok (.iload 10, 2) := by decide +kernel
theorem d_Ptm_draw_97 : decode prog_17_method_26_code 97 = .ok (.iconst 2, 1) := by decide +kernel
theorem d_Ptm_draw_98 : decode prog_17_method_26_code 98 = .ok (.iadd, 1) := by decide +kernel
theorem d_Ptm_draw_99 : decode prog_17_method_26_code 99 = .ok (.iaload, 1) := by decide +kernel
theorem d_Ptm_draw_100 : decode prog_17_method_26_code 100 = .ok (.iand, 1) := by decide +kernel
theorem d_Ptm_draw_101 : decode prog_17_method_26_code 101 = .ok (.aload_n 0, 1) := by decide +kernel
theorem d_Ptm_draw_102 : decode prog_17_method_26_code 102 = .ok (.getfield 24, 3) := by decide +kernel
theorem d_Ptm_draw_105 : decode prog_17_method_26_code 105 = .ok (.iload 9, 2) := by decide +kernel
theorem d_Ptm_draw_107 : decode prog_17_method_26_code 107 = .ok (.iaload, 1) := by decide +kernel
theorem d_Ptm_draw_108 : decode prog_17_method_26_code 108 = .ok (.aload_n 0, 1) := by decide +kernel
theorem d_Ptm_draw_109 : decode prog_17_method_26_code 109 = .ok (.getfield 33, 3) := by decide +kernel
theorem d_Ptm_draw_112 : decode prog_17_method_26_code 112 = .ok (.iload 10, 2) := by decide +kernel
theorem d_Ptm_draw_114 : decode prog_17_method_26_code 114 = .ok (.iconst 2, 1) := by decide +kernel
theorem d_Ptm_draw_115 : decode prog_17_method_26_code 115 = .ok (.iadd, 1) := by decide +kernel
theorem d_Ptm_draw_116 : decode prog_17_method_26_code 116 = .ok (.iaload, 1) := by decide +kernel
theorem d_Ptm_draw_117 : decode prog_17_method_26_code 117 = .ok (.iand, 1) := by decide +kernel
theorem d_Ptm_draw_118 : decode prog_17_method_26_code 118 = .ok (.invokestatic 118, 3) := by decide +kernel
theorem d_Ptm_draw_121 : decode prog_17_method_26_code 121 = .ok (.ifCond .ne 18, 3) := by decide +kernel
theorem d_Ptm_draw_124 : decode prog_17_method_26_code 124 = .ok (.aload_n 0, 1) := by decide +kernel
theorem d_Ptm_draw_125 : decode prog_17_method_26_code 125 = .ok (.iload 9, 2) := by decide +kernel
theorem d_Ptm_draw_127 : decode prog_17_method_26_code 127 = .ok (.iload 4, 2) := by decide +kernel
theorem d_Ptm_draw_129 : decode prog_17_method_26_code 129 = .ok (.iconst 4, 1) := by decide +kernel
theorem d_Ptm_draw_130 : decode prog_17_method_26_code 130 = .ok (.invokevirtual 121, 3) := by decide +kernel
theorem d_Ptm_draw_133 : decode prog_17_method_26_code 133 = .ok (.aload_n 0, 1) := by decide +kernel
theorem d_Ptm_draw_134 : decode prog_17_method_26_code 134 = .ok (.iconst 1, 1) := by decide +kernel
theorem d_Ptm_draw_135 : decode prog_17_method_26_code 135 = .ok (.invokevirtual 115, 3) := by decide +kernel
theorem d_Ptm_draw_138 : decode prog_17_method_26_code 138 = .ok (.ireturn, 1) := by decide +kernel
theorem d_Ptm_draw_139 : decode prog_17_method_26_code 139 = .ok (.aload_n 0, 1) := by decide +kernel
theorem d_Ptm_draw_140 : decode prog_17_method_26_code 140 = .ok (.getfield 30, 3) := by decide +kernel
theorem d_Ptm_draw_143 : decode prog_17_method_26_code 143 = .ok (.ifCond .lt 36, 3) := by decide +kernel
theorem d_Ptm_draw_146 : decode prog_17_method_26_code 146 = .ok (.aload_n 0, 1) := by decide +kernel
theorem d_Ptm_draw_147 : decode prog_17_method_26_code 147 = .ok (.getfield 30, 3) := by decide +kernel
theorem d_Ptm_draw_150 : decode prog_17_method_26_code 150 = .ok (.iload_n 3, 1) := by decide +kernel
theorem d_Ptm_draw_151 : decode prog_17_method_26_code 151 = .ok (.aload_n 0, 1) := by decide +kernel
theorem d_Ptm_draw_152 : decode prog_17_method_26_code 152 = .ok (.getfield 21, 3) := by decide +kernel
theorem d_Ptm_draw_155 : decode prog_17_method_26_code 155 = .ok (.iload 9, 2) := by decide +kernel
theorem d_Ptm_draw_157 : decode prog_17_method_26_code 157 = .ok (.iaload, 1) := by decide +kernel
theorem d_Ptm_draw_158 : decode prog_17_method_26_code 158 = .ok (.invokestatic 118, 3) := by decide +kernel
theorem d_Ptm_draw_161 : decode prog_17_method_26_code 161 = .ok (.ifCond .ne 18, 3) := by decide +kernel
theorem d_Ptm_draw_164 : decode prog_17_method_26_code 164 = .ok (.aload_n 0, 1) := by decide +kernel
theorem d_Ptm_draw_165 : decode prog_17_method_26_code 165 = .ok (.iload 9, 2) := by decide +kernel
theorem d_Ptm_draw_167 : decode prog_17_method_26_code 167 = .ok (.iload 4, 2) := by decide +kernel
theorem d_Ptm_draw_169 : decode prog_17_method_26_code 169 = .ok (.iconst 5, 1) := by decide +kernel
theorem d_Ptm_draw_170 : decode prog_17_method_26_code 170 = .ok (.invokevirtual 121, 3) := by decide +kernel
theorem d_Ptm_draw_173 : decode prog_17_method_26_code 173 = .ok (.aload_n 0, 1) := by decide +kernel
theorem d_Ptm_draw_174 : decode prog_17_method_26_code 174 = .ok (.iconst 2, 1) := by decide +kernel
theorem d_Ptm_draw_175 : decode prog_17_method_26_code 175 = .ok (.invokevirtual 115, 3) := by decide +kernel
theorem d_Ptm_draw_178 : decode prog_17_method_26_code 178 = .ok (.ireturn, 1) := by decide +kernel
theorem d_Ptm_draw_179 : decode prog_17_method_26_code 179 = .ok (.aload_n 0, 1) := by decide +kernel
theorem d_Ptm_draw_180 : decode prog_17_method_26_code 180 = .ok (.iload 9, 2) := by decide +kernel
theorem d_Ptm_draw_182 : decode prog_17_method_26_code 182 = .ok (.iload 4, 2) := by decide +kernel
theorem d_Ptm_draw_184 : decode prog_17_method_26_code 184 = .ok (.bipush 6, 2) := by decide +kernel
theorem d_Ptm_draw_186 : decode prog_17_method_26_code 186 = .ok (.invokevirtual 121, 3) := by decide +kernel
theorem d_Ptm_draw_189 : decode prog_17_method_26_code 189 = .ok (.aload_n 0, 1) := by decide +kernel
theorem d_Ptm_draw_190 : decode prog_17_method_26_code 190 = .ok (.getfield 21, 3) := by decide +kernel
theorem d_Ptm_draw_193 : decode prog_17_method_26_code 193 = .ok (.iload 9, 2) := by decide +kernel
theorem d_Ptm_draw_195 : decode prog_17_method_26_code 195 = .ok (.aload_n 0, 1) := by decide +kernel
theorem d_Ptm_draw_196 : decode prog_17_method_26_code 196 = .ok (.getfield 30, 3) := by decide +kernel
theorem d_Ptm_draw_199 : decode prog_17_method_26_code 199 = .ok (.ifCond .lt 14, 3) := by decide +kernel
theorem d_Ptm_draw_202 : decode prog_17_method_26_code 202 = .ok (.aload_n 0, 1) := by decide +kernel
theorem d_Ptm_draw_203 : decode prog_17_method_26_code 203 = .ok (.getfield 81, 3) := by decide +kernel
theorem d_Ptm_draw_206 : decode prog_17_method_26_code 206 = .ok (.ifCond .eq 7, 3) := by decide +kernel
theorem d_Ptm_draw_209 : decode prog_17_method_26_code 209 = .ok (.iload_n 3, 1) := by decide +kernel
theorem d_Ptm_draw_210 : decode prog_17_method_26_code 210 = .ok (.goto 10, 3) := by decide +kernel
theorem d_Ptm_draw_213 : decode prog_17_method_26_code 213 = .ok (.aload_n 0, 1) := by decide +kernel
theorem d_Ptm_draw_214 : decode prog_17_method_26_code 214 = .ok (.getfield 21, 3) := by decide +kernel
theorem d_Ptm_draw_217 : decode prog_17_method_26_code 217 = .ok (.iload 9, 2) := by decide +kernel
theorem d_Ptm_draw_219 : decode prog_17_method_26_code 219 = .ok (.iaload, 1) := by decide +kernel
theorem d_Ptm_draw_220 : decode prog_17_method_26_code 220 = .ok (.iastore, 1) := by decide +kernel
theorem d_Ptm_draw_221 : decode prog_17_method_26_code 221 = .ok (.iconst 0, 1) := by decide +kernel
theorem d_Ptm_draw_222 : decode prog_17_method_26_code 222 = .ok (.istore 11, 2) := by decide +kernel
theorem d_Ptm_draw_224 : decode prog_17_method_26_code 224 = .ok (.iload 11, 2) := by decide +kernel
theorem d_Ptm_draw_226 : decode prog_17_method_26_code 226 = .ok (.iconst 4, 1) := by decide +kernel
theorem d_Ptm_draw_227 : decode prog_17_method_26_code 227 = .ok (.if_icmp .ge 72, 3) := by decide +kernel
theorem d_Ptm_draw_230 : decode prog_17_method_26_code 230 = .ok (.aload_n 0, 1) := by decide +kernel
theorem d_Ptm_draw_231 : decode prog_17_method_26_code 231 = .ok (.getfield 54, 3) := by decide +kernel
theorem d_Ptm_draw_234 : decode prog_17_method_26_code 234 = .ok (.iload 11, 2) := by decide +kernel
theorem d_Ptm_draw_236 : decode prog_17_method_26_code 236 = .ok (.iload 11, 2) := by decide +kernel
theorem d_Ptm_draw_238 : decode prog_17_method_26_code 238 = .ok (.ifCond .ne 8, 3) := by decide +kernel
theorem d_Ptm_draw_241 : decode prog_17_method_26_code 241 = .ok (.iload 5, 2) := by decide +kernel
theorem d_Ptm_draw_243 : decode prog_17_method_26_code 243 = .ok (.goto 27, 3) := by decide +kernel
theorem d_Ptm_draw_246 : decode prog_17_method_26_code 246 = .ok (.iload 11, 2) := by decide +kernel
theorem d_Ptm_draw_248 : decode prog_17_method_26_code 248 = .ok (.iconst 1, 1) := by decide +kernel
theorem d_Ptm_draw_249 : decode prog_17_method_26_code 249 = .ok (.if_icmp .ne 8, 3) := by decide +kernel
theorem d_Ptm_draw_252 : decode prog_17_method_26_code 252 = .ok (.iload 6, 2) := by decide +kernel
theorem d_Ptm_draw_254 : decode prog_17_method_26_code 254 = .ok (.goto 16, 3) := by decide +kernel
theorem d_Ptm_draw_257 : decode prog_17_method_26_code 257 = .ok (.iload 11, 2) := by decide +kernel
theorem d_Ptm_draw_259 : decode prog_17_method_26_code 259 = .ok (.iconst 2, 1) := by decide +kernel
theorem d_Ptm_draw_260 : decode prog_17_method_26_code 260 = .ok (.if_icmp .ne 8, 3) := by decide +kernel
theorem d_Ptm_draw_263 : decode prog_17_method_26_code 263 = .ok (.iload 7, 2) := by decide +kernel
theorem d_Ptm_draw_265 : decode prog_17_method_26_code 265 = .ok (.goto 5, 3) := by decide +kernel
theorem d_Ptm_draw_268 : decode prog_17_method_26_code 268 = .ok (.iload 8, 2) := by decide +kernel
theorem d_Ptm_draw_270 : decode prog_17_method_26_code 270 = .ok (.invokestatic 124, 3) := by decide +kernel
theorem d_Ptm_draw_273 : decode prog_17_method_26_code 273 = .ok (.iastore, 1) := by decide +kernel
theorem d_Ptm_draw_274 : decode prog_17_method_26_code 274 = .ok (.aload_n 0, 1) := by decide +kernel
theorem d_Ptm_draw_275 : decode prog_17_method_26_code 275 = .ok (.getfield 57, 3) := by decide +kernel
theorem d_Ptm_draw_278 : decode prog_17_method_26_code 278 = .ok (.iload 11, 2) := by decide +kernel
theorem d_Ptm_draw_280 : decode prog_17_method_26_code 280 = .ok (.aload_n 0, 1) := by decide +kernel
theorem d_Ptm_draw_281 : decode prog_17_method_26_code 281 = .ok (.getfield 17, 3) := by decide +kernel
theorem d_Ptm_draw_284 : decode prog_17_method_26_code 284 = .ok (.iconst 4, 1) := by decide +kernel
theorem d_Ptm_draw_285 : decode prog_17_method_26_code 285 = .ok (.iload 9, 2) := by decide +kernel
theorem d_Ptm_draw_287 : decode prog_17_method_26_code 287 = .ok (.imul, 1) := by decide +kernel
theorem d_Ptm_draw_288 : decode prog_17_method_26_code 288 = .ok (.iload 11, 2) := by decide +kernel
theorem d_Ptm_draw_290 : decode prog_17_method_26_code 290 = .ok (.iadd, 1) := by decide +kernel
theorem d_Ptm_draw_291 : decode prog_17_method_26_code 291 = .ok (.iaload, 1) := by decide +kernel
theorem d_Ptm_draw_292 : decode prog_17_method_26_code 292 = .ok (.iastore, 1) := by decide +kernel
theorem d_Ptm_draw_293 : decode prog_17_method_26_code 293 = .ok (.iinc 11 1, 3) := by decide +kernel
theorem d_Ptm_draw_296 : decode prog_17_method_26_code 296 = .ok (.goto (-72), 3) := by decide +kernel
theorem d_Ptm_draw_299 : decode prog_17_method_26_code 299 = .ok (.iconst 0, 1) := by decide +kernel
theorem d_Ptm_draw_300 : decode prog_17_method_26_code 300 = .ok (.istore 11, 2) := by decide +kernel
theorem d_Ptm_draw_302 : decode prog_17_method_26_code 302 = .ok (.iload 11, 2) := by decide +kernel
theorem d_Ptm_draw_304 : decode prog_17_method_26_code 304 = .ok (.iconst 4, 1) := by decide +kernel
theorem d_Ptm_draw_305 : decode prog_17_method_26_code 305 = .ok (.if_icmp .ge 87, 3) := by decide +kernel
theorem d_Ptm_draw_308 : decode prog_17_method_26_code 308 = .ok (.aload_n 0, 1) := by decide +kernel
theorem d_Ptm_draw_309 : decode prog_17_method_26_code 309 = .ok (.getfield 45, 3) := by decide +kernel
theorem d_Ptm_draw_312 : decode prog_17_method_26_code 312 = .ok (.ifCond .lt 12, 3) := by decide +kernel
theorem d_Ptm_draw_315 : decode prog_17_method_26_code 315 = .ok (.aload_n 0, 1) := by decide +kernel
theorem d_Ptm_draw_316 : decode prog_17_method_26_code 316 = .ok (.iload 11, 2) := by decide +kernel
theorem d_Ptm_draw_318 : decode prog_17_method_26_code 318 = .ok (.invokevirtual 127, 3) := by decide +kernel
theorem d_Ptm_draw_321 : decode prog_17_method_26_code 321 = .ok (.goto 26, 3) := by decide +kernel
theorem d_Ptm_draw_324 : decode prog_17_method_26_code 324 = .ok (.aload_n 0, 1) := by decide +kernel
theorem d_Ptm_draw_325 : decode prog_17_method_26_code 325 = .ok (.getfield 39, 3) := by decide +kernel
theorem d_Ptm_draw_328 : decode prog_17_method_26_code 328 = .ok (.ifCond .lt 12, 3) := by decide +kernel
theorem d_Ptm_draw_331 : decode prog_17_method_26_code 331 = .ok (.aload_n 0, 1) := by decide +kernel
theorem d_Ptm_draw_332 : decode prog_17_method_26_code 332 = .ok (.iload 11, 2) := by decide +kernel
theorem d_Ptm_draw_334 : decode prog_17_method_26_code 334 = .ok (.invokevirtual 130, 3) := by decide +kernel
theorem d_Ptm_draw_337 : decode prog_17_method_26_code 337 = .ok (.goto 10, 3) := by decide +kernel
theorem d_Ptm_draw_340 : decode prog_17_method_26_code 340 = .ok (.aload_n 0, 1) := by decide +kernel
theorem d_Ptm_draw_341 : decode prog_17_method_26_code 341 = .ok (.getfield 54, 3) := by decide +kernel
theorem d_Ptm_draw_344 : decode prog_17_method_26_code 344 = .ok (.iload 11, 2) := by decide +kernel
theorem d_Ptm_draw_346 : decode prog_17_method_26_code 346 = .ok (.iaload, 1) := by decide +kernel
theorem d_Ptm_draw_347 : decode prog_17_method_26_code 347 = .ok (.istore 12, 2) := by decide +kernel
theorem d_Ptm_draw_349 : decode prog_17_method_26_code 349 = .ok (.aload_n 0, 1) := by decide +kernel
theorem d_Ptm_draw_350 : decode prog_17_method_26_code 350 = .ok (.getfield 17, 3) := by decide +kernel
theorem d_Ptm_draw_353 : decode prog_17_method_26_code 353 = .ok (.iconst 4, 1) := by decide +kernel
theorem d_Ptm_draw_354 : decode prog_17_method_26_code 354 = .ok (.iload 9, 2) := by decide +kernel
theorem d_Ptm_draw_356 : decode prog_17_method_26_code 356 = .ok (.imul, 1) := by decide +kernel
theorem d_Ptm_draw_357 : decode prog_17_method_26_code 357 = .ok (.iload 11, 2) := by decide +kernel
theorem d_Ptm_draw_359 : decode prog_17_method_26_code 359 = .ok (.iadd, 1) := by decide +kernel
theorem d_Ptm_draw_360 : decode prog_17_method_26_code 360 = .ok (.aload_n 0, 1) := by decide +kernel
theorem d_Ptm_draw_361 : decode prog_17_method_26_code 361 = .ok (.getfield 48, 3) := by decide +kernel
theorem d_Ptm_draw_364 : decode prog_17_method_26_code 364 = .ok (.iload 11, 2) := by decide +kernel
theorem d_Ptm_draw_366 : decode prog_17_method_26_code 366 = .ok (.ishr, 1) := by decide +kernel
theorem d_Ptm_draw_367 : decode prog_17_method_26_code 367 = .ok (.iconst 1, 1) := by decide +kernel
theorem d_Ptm_draw_368 : decode prog_17_method_26_code 368 = .ok (.iand, 1) := by decide +kernel
theorem d_Ptm_draw_369 : decode prog_17_method_26_code 369 = .ok (.iconst 1, 1) := by decide +kernel
theorem d_Ptm_draw_370 : decode prog_17_method_26_code 370 = .ok (.if_icmp .ne 8, 3) := by decide +kernel
theorem d_Ptm_draw_373 : decode prog_17_method_26_code 373 = .ok (.iload 12, 2) := by decide +kernel
theorem d_Ptm_draw_375 : decode prog_17_method_26_code 375 = .ok (.goto 10, 3) := by decide +kernel
theorem d_Ptm_draw_378 : decode prog_17_method_26_code 378 = .ok (.aload_n 0, 1) := by decide +kernel
theorem d_Ptm_draw_379 : decode prog_17_method_26_code 379 = .ok (.getfield 57, 3) := by decide +kernel
theorem d_Ptm_draw_382 : decode prog_17_method_26_code 382 = .ok (.iload 11, 2) := by decide +kernel
theorem d_Ptm_draw_384 : decode prog_17_method_26_code 384 = .ok (.iaload, 1) := by decide +kernel
theorem d_Ptm_draw_385 : decode prog_17_method_26_code 385 = .ok (.iastore, 1) := by decide +kernel
theorem d_Ptm_draw_386 : decode prog_17_method_26_code 386 = .ok (.iinc 11 1, 3) := by decide +kernel
theorem d_Ptm_draw_389 : decode prog_17_method_26_code 389 = .ok (.goto (-87), 3) := by decide +kernel
theorem d_Ptm_draw_392 : decode prog_17_method_26_code 392 = .ok (.aload_n 0, 1) := by decide +kernel
theorem d_Ptm_draw_393 : decode prog_17_method_26_code 393 = .ok (.iconst 3, 1) := by decide +kernel
theorem d_Ptm_draw_394 : decode prog_17_method_26_code 394 = .ok (.invokevirtual 115, 3) := by decide +kernel
theorem d_Ptm_draw_397 : decode prog_17_method_26_code 397 = .ok (.ireturn, 1) := by decide +kernel
def F_Ptm_draw_385 (rc_302 : Sg → Int32 → Int32 → Option (Sg × Int32)) (σ : Sg) (v9 : Int32) (v11 : Int32) (s1 : Int32) (s2 : Int32) : Option (Sg × Int32) := ck (inb s1 65536) (lt (sA σ 45 (upd (σ.2.2.1 45) s1.toNatClampNeg s2)) (fun σ41 => lt (v11 + 1) (fun y42 => rc_302 σ41 v9 y42)))
set_option maxRecDepth 10000 in
set_option maxHeartbeats 4000000 in
theorem bt_Ptm_draw_385 {p : Program} {l : Launch} {e : Env} {R : Room} {s : State} {m : MethodId} {args : Array Value} {below : List Frame} {meth : Method} {c : Code} {D : va_G} {τ : ClassId × ClassId × ClassId} {B : Nat} {A : Nat → Prop} {ad : Nat → Nat} (E : Cx p R s m args meth c prog_17_method_26_code 13 "DrawingMachineModel$PlaceTestsModel" 2 D τ B A) (hret : meth.sig.returnType = (some .int)) (o : Sg × Int32) (rc_302 : Sg → Int32 → Int32 → Option (Sg × Int32)) (hr_302 : ∀ (σ : Sg) (v9 : Int32) (v11 : Int32) (H : Heap) (locs : List Loc) (ls : Array Slot), rc_302 σ v9 v11 = some o → Wd s D A (wdM τ σ ad) H locs → lv_has ls 13 [(0, .ref (ad 64)), (9, .int v9), (11, .int v11)] → W p l e R s m args below meth c H locs 0 0 (QI below args s A D τ (wdM τ o.1 ad) o.2) (F0 m 302 ls [])) (σ : Sg) (v9 : Int32) (v11 : Int32) (s1 : Int32) (s2 : Int32) (h : F_Ptm_draw_385 rc_302 σ v9 v11 s1 s2 = some o) {H : Heap} {locs : List Loc} {ls : Array Slot} (w : Wd s D A (wdM τ σ ad) H locs) (hl : lv_has ls 13 [(0, .ref (ad 64)), (9, .int v9), (11, .int v11)]) : W p l e R s m args below meth c H locs 0 0 (QI below args s A D τ (wdM τ o.1 ad) o.2) (F0 m 385 ls [.int s2, .int s1, .ref (ad 45)]) := by
  obtain ⟨c40, h⟩ := ck_some h
  obtain ⟨σ41, e_σ41, h⟩ := lt_some h
  refine iasM E w (k := 45) (by decide) c40 e_σ41 d_Ptm_draw_385 (fun H locs w => ?_)
  obtain ⟨y42, e_y42, h⟩ := lt_some h
  refine lv_iinc (v := y42) (lv' := [(11, .int y42), (0, .ref (ad 64)), (9, .int v9)]) E.x E.b d_Ptm_draw_386 hl (k := 2) rfl (e_y42) (by decide) rfl (fun ls hl => ?_)
  refine lv_goto (tgt := 302) E.x E.b d_Ptm_draw_389 (by decide) ?_
  exact hr_302 σ41 v9 y42 _ _ _ h w (lv_sub hl [1, 2, 0] rfl)
def F_Ptm_draw_347 (rc_302 : Sg → Int32 → Int32 → Option (Sg × Int32)) (σ : Sg) (v9 : Int32) (v11 : Int32) (s0 : Int32) : Option (Sg × Int32) := if (((σ.1 39) >>> (v11 &&& 31)) &&& 1) = 1 then (F_Ptm_draw_385 rc_302 σ v9 v11 ((4 * v9) + v11) s0) else (ck (inb v11 4) (F_Ptm_draw_385 rc_302 σ v9 v11 ((4 * v9) + v11) (σ.2.2.1 54 v11.toNatClampNeg)))
set_option maxRecDepth 10000 in
set_option maxHeartbeats 4000000 in
theorem bt_Ptm_draw_347 {p : Program} {l : Launch} {e : Env} {R : Room} {s : State} {m : MethodId} {args : Array Value} {below : List Frame} {meth : Method} {c : Code} {D : va_G} {τ : ClassId × ClassId × ClassId} {B : Nat} {A : Nat → Prop} {ad : Nat → Nat} (E : Cx p R s m args meth c prog_17_method_26_code 13 "DrawingMachineModel$PlaceTestsModel" 2 D τ B A) (hret : meth.sig.returnType = (some .int)) (o : Sg × Int32) (rc_302 : Sg → Int32 → Int32 → Option (Sg × Int32)) (hr_302 : ∀ (σ : Sg) (v9 : Int32) (v11 : Int32) (H : Heap) (locs : List Loc) (ls : Array Slot), rc_302 σ v9 v11 = some o → Wd s D A (wdM τ σ ad) H locs → lv_has ls 13 [(0, .ref (ad 64)), (9, .int v9), (11, .int v11)] → W p l e R s m args below meth c H locs 0 0 (QI below args s A D τ (wdM τ o.1 ad) o.2) (F0 m 302 ls [])) (σ : Sg) (v9 : Int32) (v11 : Int32) (s0 : Int32) (h : F_Ptm_draw_347 rc_302 σ v9 v11 s0 = some o) {H : Heap} {locs : List Loc} {ls : Array Slot} (w : Wd s D A (wdM τ σ ad) H locs) (hl : lv_has ls 13 [(0, .ref (ad 64)), (9, .int v9), (11, .int v11)]) : W p l e R s m args below meth c H locs 0 0 (QI below args s A D τ (wdM τ o.1 ad) o.2) (F0 m 347 ls [.int s0]) := by
  refine lv_istore (lv' := [(12, .int s0), (0, .ref (ad 64)), (9, .int v9), (11, .int v11)]) E.x E.b d_Ptm_draw_347 hl (by decide) rfl (fun ls hl => ?_)
  refine lv_aload_n E.x E.b d_Ptm_draw_349 rfl (lv_at hl 1 rfl) ?_
  refine gM_Ptm_channels E w k1703 d_Ptm_draw_350 ?_
  refine lv_iconst (v := 4) E.x E.b d_Ptm_draw_353 (by decide) ?_
  refine lv_iload E.x E.b d_Ptm_draw_354 (lv_at hl 2 rfl) ?_
  refine lv_imul E.x E.b d_Ptm_draw_356 ?_
  refine lv_iload E.x E.b d_Ptm_draw_357 (lv_at hl 3 rfl) ?_
  refine lv_iadd E.x E.b d_Ptm_draw_359 ?_
  refine lv_aload_n E.x E.b d_Ptm_draw_360 rfl (lv_at hl 1 rfl) ?_
  refine gM_Ptm_mask E w k1716 d_Ptm_draw_361 ?_
  refine lv_iload E.x E.b d_Ptm_draw_364 (lv_at hl 3 rfl) ?_
  refine lv_ishr E.x E.b d_Ptm_draw_366 ?_
  refine lv_iconst (v := 1) E.x E.b d_Ptm_draw_367 (by decide) ?_
  refine lv_iand E.x E.b d_Ptm_draw_368 ?_
  refine lv_iconst (v := 1) E.x E.b d_Ptm_draw_369 (by decide) ?_
  refine lv_icmp_ne (tgt := 378) E.x E.b d_Ptm_draw_370 (by decide) (fun c => ?_) (fun c => ?_)
  ·
    replace h := ifF c h
    refine lv_aload_n E.x E.b d_Ptm_draw_378 rfl (lv_at hl 1 rfl) ?_
    refine gM_Ptm_d E w k1719 d_Ptm_draw_379 ?_
    refine lv_iload E.x E.b d_Ptm_draw_382 (lv_at hl 3 rfl) ?_
    obtain ⟨c43, h⟩ := ck_some h
    refine ialM E w (k := 54) (by decide) c43 d_Ptm_draw_384 ?_
    exact bt_Ptm_draw_385 E hret o rc_302 hr_302 σ v9 v11 ((4 * v9) + v11) (σ.2.2.1 54 v11.toNatClampNeg) h w (lv_sub hl [1, 2, 3] rfl)
  ·
    replace h := ifT c h
    refine lv_iload E.x E.b d_Ptm_draw_373 (lv_at hl 0 rfl) ?_
    refine lv_goto (tgt := 385) E.x E.b d_Ptm_draw_375 (by decide) ?_
    exact bt_Ptm_draw_385 E hret o rc_302 hr_302 σ v9 v11 ((4 * v9) + v11) s0 h w (lv_sub hl [1, 2, 3] rfl)
def L_Ptm_draw_302 : Nat → Sg → Int32 → Int32 → Option (Sg × Int32)
  | 0, _, _, _ => none
  | n + 1, σ, v9, v11 => if 4 ≤ v11 then (bd (F_Ptm_answer σ 3) (fun o44 => some (o44.1, o44.2))) else (if (σ.1 38) < 0 then (if (σ.1 36) < 0 then (ck (inb v11 4) (F_Ptm_draw_347 (L_Ptm_draw_302 n) σ v9 v11 (σ.2.2.1 53 v11.toNatClampNeg))) else (bd (F_Ptm_blended σ v11) (fun o46 => F_Ptm_draw_347 (L_Ptm_draw_302 n) σ v9 v11 o46))) else (bd (F_Ptm_bits σ v11) (fun o47 => F_Ptm_draw_347 (L_Ptm_draw_302 n) σ v9 v11 o47)))
set_option maxRecDepth 10000 in
set_option maxHeartbeats 4000000 in
theorem lt_Ptm_draw_302 {p : Program} {l : Launch} {e : Env} {R : Room} {s : State} {m : MethodId} {args : Array Value} {below : List Frame} {meth : Method} {c : Code} {D : va_G} {τ : ClassId × ClassId × ClassId} {B : Nat} {A : Nat → Prop} {ad : Nat → Nat} (E : Cx p R s m args meth c prog_17_method_26_code 13 "DrawingMachineModel$PlaceTestsModel" 2 D τ B A) (hret : meth.sig.returnType = (some .int)) (o : Sg × Int32) : ∀ (n : Nat) (σ : Sg) (v9 : Int32) (v11 : Int32) (H : Heap) (locs : List Loc) (ls : Array Slot), L_Ptm_draw_302 n σ v9 v11 = some o → Wd s D A (wdM τ σ ad) H locs → lv_has ls 13 [(0, .ref (ad 64)), (9, .int v9), (11, .int v11)] → W p l e R s m args below meth c H locs 0 0 (QI below args s A D τ (wdM τ o.1 ad) o.2) (F0 m 302 ls []) := by
  intro n
  induction n with
  | zero =>
    intro σ v9 v11 H locs ls h w hl
    cases h
  | succ n hr_302 =>
    intro σ v9 v11 H locs ls h w hl
    refine lv_iload E.x E.b d_Ptm_draw_302 (lv_at hl 2 rfl) ?_
    refine lv_iconst (v := 4) E.x E.b d_Ptm_draw_304 (by decide) ?_
    refine lv_icmp_ge (tgt := 392) E.x E.b d_Ptm_draw_305 (by decide) (fun c => ?_) (fun c => ?_)
    ·
      replace h := ifT c h
      refine lv_aload_n E.x E.b d_Ptm_draw_392 rfl (lv_at hl 0 rfl) ?_
      refine lv_iconst (v := 3) E.x E.b d_Ptm_draw_393 (by decide) ?_
      obtain ⟨o44, h_o44, h⟩ := bd_some h
      refine clV_Ptm_answer E w (x0 := 3) h_o44 k2444 (by decide) hl.1 (Nat.le_of_ble_eq_true rfl) d_Ptm_draw_394 (fun H locs w => ?_)
      obtain rfl := Option.some.inj h
      exact rt_i E w hret d_Ptm_draw_397
    ·
      replace h := ifF c h
      refine lv_aload_n E.x E.b d_Ptm_draw_308 rfl (lv_at hl 0 rfl) ?_
      refine gM_Ptm_logic E w k1715 d_Ptm_draw_309 ?_
      refine lv_if_lt (tgt := 324) E.x E.b d_Ptm_draw_312 (by decide) (fun c => ?_) (fun c => ?_)
      ·
        replace h := ifT c h
        refine lv_aload_n E.x E.b d_Ptm_draw_324 rfl (lv_at hl 0 rfl) ?_
        refine gM_Ptm_equation E w k1712 d_Ptm_draw_325 ?_
        refine lv_if_lt (tgt := 340) E.x E.b d_Ptm_draw_328 (by decide) (fun c => ?_) (fun c => ?_)
        ·
          replace h := ifT c h
          refine lv_aload_n E.x E.b d_Ptm_draw_340 rfl (lv_at hl 0 rfl) ?_
          refine gM_Ptm_s E w k1718 d_Ptm_draw_341 ?_
          refine lv_iload E.x E.b d_Ptm_draw_344 (lv_at hl 2 rfl) ?_
          obtain ⟨c45, h⟩ := ck_some h
          refine ialM E w (k := 53) (by decide) c45 d_Ptm_draw_346 ?_
          exact bt_Ptm_draw_347 E hret o (L_Ptm_draw_302 n) hr_302 σ v9 v11 (σ.2.2.1 53 v11.toNatClampNeg) h w (lv_sub hl [0, 1, 2] rfl)
        ·
          replace h := ifF c h
          refine lv_aload_n E.x E.b d_Ptm_draw_331 rfl (lv_at hl 0 rfl) ?_
          refine lv_iload E.x E.b d_Ptm_draw_332 (lv_at hl 2 rfl) ?_
          obtain ⟨o46, h_o46, h⟩ := bd_some h
          refine clV_Ptm_blended E w (x0 := v11) h_o46 k2466 (by decide) hl.1 (Nat.le_of_ble_eq_true rfl) d_Ptm_draw_334 (fun H locs w => ?_)
          refine lv_goto (tgt := 347) E.x E.b d_Ptm_draw_337 (by decide) ?_
          exact bt_Ptm_draw_347 E hret o (L_Ptm_draw_302 n) hr_302 σ v9 v11 o46 h w (lv_sub hl [0, 1, 2] rfl)
      ·
        replace h := ifF c h
        refine lv_aload_n E.x E.b d_Ptm_draw_315 rfl (lv_at hl 0 rfl) ?_
        refine lv_iload E.x E.b d_Ptm_draw_316 (lv_at hl 2 rfl) ?_
        obtain ⟨o47, h_o47, h⟩ := bd_some h
        refine clV_Ptm_bits E w (x0 := v11) h_o47 k2462 (by decide) hl.1 (Nat.le_of_ble_eq_true rfl) d_Ptm_draw_318 (fun H locs w => ?_)
        refine lv_goto (tgt := 347) E.x E.b d_Ptm_draw_321 (by decide) ?_
        exact bt_Ptm_draw_347 E hret o (L_Ptm_draw_302 n) hr_302 σ v9 v11 o47 h w (lv_sub hl [0, 1, 2] rfl)
def F_Ptm_draw_270 (rc_224 : Sg → Int32 → Int32 → Int32 → Int32 → Int32 → Int32 → Option (Sg × Int32)) (σ : Sg) (v5 : Int32) (v6 : Int32) (v7 : Int32) (v8 : Int32) (v9 : Int32) (v11 : Int32) (s1 : Int32) (s2 : Int32) : Option (Sg × Int32) := bd (F_Ptm_byteOf s2) (fun o48 => ck (inb s1 4) (lt (sA σ 53 (upd (σ.2.2.1 53) s1.toNatClampNeg o48)) (fun σ50 => ck (inb ((4 * v9) + v11) 65536) (ck (inb v11 4) (lt (sA σ50 54 (upd (σ50.2.2.1 54) v11.toNatClampNeg (σ50.2.2.1 45 ((4 * v9) + v11).toNatClampNeg))) (fun σ53 => lt (v11 + 1) (fun y54 => rc_224 σ53 v5 v6 v7 v8 v9 y54)))))))
set_option maxRecDepth 10000 in
set_option maxHeartbeats 4000000 in
theorem bt_Ptm_draw_270 {p : Program} {l : Launch} {e : Env} {R : Room} {s : State} {m : MethodId} {args : Array Value} {below : List Frame} {meth : Method} {c : Code} {D : va_G} {τ : ClassId × ClassId × ClassId} {B : Nat} {A : Nat → Prop} {ad : Nat → Nat} (E : Cx p R s m args meth c prog_17_method_26_code 13 "DrawingMachineModel$PlaceTestsModel" 2 D τ B A) (hret : meth.sig.returnType = (some .int)) (o : Sg × Int32) (rc_224 : Sg → Int32 → Int32 → Int32 → Int32 → Int32 → Int32 → Option (Sg × Int32)) (hr_224 : ∀ (σ : Sg) (v5 : Int32) (v6 : Int32) (v7 : Int32) (v8 : Int32) (v9 : Int32) (v11 : Int32) (H : Heap) (locs : List Loc) (ls : Array Slot), rc_224 σ v5 v6 v7 v8 v9 v11 = some o → Wd s D A (wdM τ σ ad) H locs → lv_has ls 13 [(0, .ref (ad 64)), (5, .int v5), (6, .int v6), (7, .int v7), (8, .int v8), (9, .int v9), (11, .int v11)] → W p l e R s m args below meth c H locs 0 0 (QI below args s A D τ (wdM τ o.1 ad) o.2) (F0 m 224 ls [])) (σ : Sg) (v5 : Int32) (v6 : Int32) (v7 : Int32) (v8 : Int32) (v9 : Int32) (v11 : Int32) (s1 : Int32) (s2 : Int32) (h : F_Ptm_draw_270 rc_224 σ v5 v6 v7 v8 v9 v11 s1 s2 = some o) {H : Heap} {locs : List Loc} {ls : Array Slot} (w : Wd s D A (wdM τ σ ad) H locs) (hl : lv_has ls 13 [(0, .ref (ad 64)), (5, .int v5), (6, .int v6), (7, .int v7), (8, .int v8), (9, .int v9), (11, .int v11)]) : W p l e R s m args below meth c H locs 0 0 (QI below args s A D τ (wdM τ o.1 ad) o.2) (F0 m 270 ls [.int s2, .int s1, .ref (ad 53)]) := by
  obtain ⟨o48, h_o48, h⟩ := bd_some h
  refine clS_Ptm_byteOf E w (x0 := s2) h_o48 k2458 (by decide) hl.1 (Nat.le_of_ble_eq_true rfl) d_Ptm_draw_270 (fun H locs w => ?_)
  obtain ⟨c49, h⟩ := ck_some h
  obtain ⟨σ50, e_σ50, h⟩ := lt_some h
  refine iasM E w (k := 53) (by decide) c49 e_σ50 d_Ptm_draw_273 (fun H locs w => ?_)
  refine lv_aload_n E.x E.b d_Ptm_draw_274 rfl (lv_at hl 0 rfl) ?_
  refine gM_Ptm_d E w k1719 d_Ptm_draw_275 ?_
  refine lv_iload E.x E.b d_Ptm_draw_278 (lv_at hl 6 rfl) ?_
  refine lv_aload_n E.x E.b d_Ptm_draw_280 rfl (lv_at hl 0 rfl) ?_
  refine gM_Ptm_channels E w k1703 d_Ptm_draw_281 ?_
  refine lv_iconst (v := 4) E.x E.b d_Ptm_draw_284 (by decide) ?_
  refine lv_iload E.x E.b d_Ptm_draw_285 (lv_at hl 5 rfl) ?_
  refine lv_imul E.x E.b d_Ptm_draw_287 ?_
  refine lv_iload E.x E.b d_Ptm_draw_288 (lv_at hl 6 rfl) ?_
  refine lv_iadd E.x E.b d_Ptm_draw_290 ?_
  obtain ⟨c51, h⟩ := ck_some h
  refine ialM E w (k := 45) (by decide) c51 d_Ptm_draw_291 ?_
  obtain ⟨c52, h⟩ := ck_some h
  obtain ⟨σ53, e_σ53, h⟩ := lt_some h
  refine iasM E w (k := 54) (by decide) c52 e_σ53 d_Ptm_draw_292 (fun H locs w => ?_)
  obtain ⟨y54, e_y54, h⟩ := lt_some h
  refine lv_iinc (v := y54) (lv' := [(11, .int y54), (0, .ref (ad 64)), (5, .int v5), (6, .int v6), (7, .int v7), (8, .int v8), (9, .int v9)]) E.x E.b d_Ptm_draw_293 hl (k := 6) rfl (e_y54) (by decide) rfl (fun ls hl => ?_)
  refine lv_goto (tgt := 224) E.x E.b d_Ptm_draw_296 (by decide) ?_
  exact hr_224 σ53 v5 v6 v7 v8 v9 y54 _ _ _ h w (lv_sub hl [1, 2, 3, 4, 5, 6, 0] rfl)
def L_Ptm_draw_224 : Nat → Sg → Int32 → Int32 → Int32 → Int32 → Int32 → Int32 → Option (Sg × Int32)
  | 0, _, _, _, _, _, _, _ => none
  | n + 1, σ, v5, v6, v7, v8, v9, v11 => if 4 ≤ v11 then (L_Ptm_draw_302 100000 σ v9 0) else (if v11 = 0 then (F_Ptm_draw_270 (L_Ptm_draw_224 n) σ v5 v6 v7 v8 v9 v11 v11 v5) else (if v11 = 1 then (F_Ptm_draw_270 (L_Ptm_draw_224 n) σ v5 v6 v7 v8 v9 v11 v11 v6) else (if v11 = 2 then (F_Ptm_draw_270 (L_Ptm_draw_224 n) σ v5 v6 v7 v8 v9 v11 v11 v7) else (F_Ptm_draw_270 (L_Ptm_draw_224 n) σ v5 v6 v7 v8 v9 v11 v11 v8))))
set_option maxRecDepth 10000 in
set_option maxHeartbeats 4000000 in
theorem lt_Ptm_draw_224 {p : Program} {l : Launch} {e : Env} {R : Room} {s : State} {m : MethodId} {args : Array Value} {below : List Frame} {meth : Method} {c : Code} {D : va_G} {τ : ClassId × ClassId × ClassId} {B : Nat} {A : Nat → Prop} {ad : Nat → Nat} (E : Cx p R s m args meth c prog_17_method_26_code 13 "DrawingMachineModel$PlaceTestsModel" 2 D τ B A) (hret : meth.sig.returnType = (some .int)) (o : Sg × Int32) : ∀ (n : Nat) (σ : Sg) (v5 : Int32) (v6 : Int32) (v7 : Int32) (v8 : Int32) (v9 : Int32) (v11 : Int32) (H : Heap) (locs : List Loc) (ls : Array Slot), L_Ptm_draw_224 n σ v5 v6 v7 v8 v9 v11 = some o → Wd s D A (wdM τ σ ad) H locs → lv_has ls 13 [(0, .ref (ad 64)), (5, .int v5), (6, .int v6), (7, .int v7), (8, .int v8), (9, .int v9), (11, .int v11)] → W p l e R s m args below meth c H locs 0 0 (QI below args s A D τ (wdM τ o.1 ad) o.2) (F0 m 224 ls []) := by
  intro n
  induction n with
  | zero =>
    intro σ v5 v6 v7 v8 v9 v11 H locs ls h w hl
    cases h
  | succ n hr_224 =>
    intro σ v5 v6 v7 v8 v9 v11 H locs ls h w hl
    refine lv_iload E.x E.b d_Ptm_draw_224 (lv_at hl 6 rfl) ?_
    refine lv_iconst (v := 4) E.x E.b d_Ptm_draw_226 (by decide) ?_
    refine lv_icmp_ge (tgt := 299) E.x E.b d_Ptm_draw_227 (by decide) (fun c => ?_) (fun c => ?_)
    ·
      replace h := ifT c h
      refine lv_iconst (v := 0) E.x E.b d_Ptm_draw_299 (by decide) ?_
      refine lv_istore (lv' := [(11, .int 0), (0, .ref (ad 64)), (5, .int v5), (6, .int v6), (7, .int v7), (8, .int v8), (9, .int v9)]) E.x E.b d_Ptm_draw_300 hl (by decide) rfl (fun ls hl => ?_)
      exact lt_Ptm_draw_302 E hret o 100000 σ v9 0 _ _ _ h w (lv_sub hl [1, 6, 0] rfl)
    ·
      replace h := ifF c h
      refine lv_aload_n E.x E.b d_Ptm_draw_230 rfl (lv_at hl 0 rfl) ?_
      refine gM_Ptm_s E w k1718 d_Ptm_draw_231 ?_
      refine lv_iload E.x E.b d_Ptm_draw_234 (lv_at hl 6 rfl) ?_
      refine lv_iload E.x E.b d_Ptm_draw_236 (lv_at hl 6 rfl) ?_
      refine lv_if_ne (tgt := 246) E.x E.b d_Ptm_draw_238 (by decide) (fun c => ?_) (fun c => ?_)
      ·
        replace h := ifF c h
        refine lv_iload E.x E.b d_Ptm_draw_246 (lv_at hl 6 rfl) ?_
        refine lv_iconst (v := 1) E.x E.b d_Ptm_draw_248 (by decide) ?_
        refine lv_icmp_ne (tgt := 257) E.x E.b d_Ptm_draw_249 (by decide) (fun c => ?_) (fun c => ?_)
        ·
          replace h := ifF c h
          refine lv_iload E.x E.b d_Ptm_draw_257 (lv_at hl 6 rfl) ?_
          refine lv_iconst (v := 2) E.x E.b d_Ptm_draw_259 (by decide) ?_
          refine lv_icmp_ne (tgt := 268) E.x E.b d_Ptm_draw_260 (by decide) (fun c => ?_) (fun c => ?_)
          ·
            replace h := ifF c h
            refine lv_iload E.x E.b d_Ptm_draw_268 (lv_at hl 4 rfl) ?_
            exact bt_Ptm_draw_270 E hret o (L_Ptm_draw_224 n) hr_224 σ v5 v6 v7 v8 v9 v11 v11 v8 h w (lv_sub hl [0, 1, 2, 3, 4, 5, 6] rfl)
          ·
            replace h := ifT c h
            refine lv_iload E.x E.b d_Ptm_draw_263 (lv_at hl 3 rfl) ?_
            refine lv_goto (tgt := 270) E.x E.b d_Ptm_draw_265 (by decide) ?_
            exact bt_Ptm_draw_270 E hret o (L_Ptm_draw_224 n) hr_224 σ v5 v6 v7 v8 v9 v11 v11 v7 h w (lv_sub hl [0, 1, 2, 3, 4, 5, 6] rfl)
        ·
          replace h := ifT c h
          refine lv_iload E.x E.b d_Ptm_draw_252 (lv_at hl 2 rfl) ?_
          refine lv_goto (tgt := 270) E.x E.b d_Ptm_draw_254 (by decide) ?_
          exact bt_Ptm_draw_270 E hret o (L_Ptm_draw_224 n) hr_224 σ v5 v6 v7 v8 v9 v11 v11 v6 h w (lv_sub hl [0, 1, 2, 3, 4, 5, 6] rfl)
      ·
        replace h := ifT c h
        refine lv_iload E.x E.b d_Ptm_draw_241 (lv_at hl 1 rfl) ?_
        refine lv_goto (tgt := 270) E.x E.b d_Ptm_draw_243 (by decide) ?_
        exact bt_Ptm_draw_270 E hret o (L_Ptm_draw_224 n) hr_224 σ v5 v6 v7 v8 v9 v11 v11 v5 h w (lv_sub hl [0, 1, 2, 3, 4, 5, 6] rfl)
def F_Ptm_draw_220 (σ : Sg) (v5 : Int32) (v6 : Int32) (v7 : Int32) (v8 : Int32) (v9 : Int32) (s1 : Int32) (s2 : Int32) : Option (Sg × Int32) := ck (inb s1 16384) (lt (sA σ 46 (upd (σ.2.2.1 46) s1.toNatClampNeg s2)) (fun σ56 => L_Ptm_draw_224 100000 σ56 v5 v6 v7 v8 v9 0))
set_option maxRecDepth 10000 in
set_option maxHeartbeats 4000000 in
theorem bt_Ptm_draw_220 {p : Program} {l : Launch} {e : Env} {R : Room} {s : State} {m : MethodId} {args : Array Value} {below : List Frame} {meth : Method} {c : Code} {D : va_G} {τ : ClassId × ClassId × ClassId} {B : Nat} {A : Nat → Prop} {ad : Nat → Nat} (E : Cx p R s m args meth c prog_17_method_26_code 13 "DrawingMachineModel$PlaceTestsModel" 2 D τ B A) (hret : meth.sig.returnType = (some .int)) (o : Sg × Int32) (σ : Sg) (v5 : Int32) (v6 : Int32) (v7 : Int32) (v8 : Int32) (v9 : Int32) (s1 : Int32) (s2 : Int32) (h : F_Ptm_draw_220 σ v5 v6 v7 v8 v9 s1 s2 = some o) {H : Heap} {locs : List Loc} {ls : Array Slot} (w : Wd s D A (wdM τ σ ad) H locs) (hl : lv_has ls 13 [(0, .ref (ad 64)), (5, .int v5), (6, .int v6), (7, .int v7), (8, .int v8), (9, .int v9)]) : W p l e R s m args below meth c H locs 0 0 (QI below args s A D τ (wdM τ o.1 ad) o.2) (F0 m 220 ls [.int s2, .int s1, .ref (ad 46)]) := by
  obtain ⟨c55, h⟩ := ck_some h
  obtain ⟨σ56, e_σ56, h⟩ := lt_some h
  refine iasM E w (k := 46) (by decide) c55 e_σ56 d_Ptm_draw_220 (fun H locs w => ?_)
  refine lv_iconst (v := 0) E.x E.b d_Ptm_draw_221 (by decide) ?_
  refine lv_istore (lv' := [(11, .int 0), (0, .ref (ad 64)), (5, .int v5), (6, .int v6), (7, .int v7), (8, .int v8), (9, .int v9)]) E.x E.b d_Ptm_draw_222 hl (by decide) rfl (fun ls hl => ?_)
  exact lt_Ptm_draw_224 E hret o 100000 σ56 v5 v6 v7 v8 v9 0 _ _ _ h w (lv_sub hl [1, 2, 3, 4, 5, 6, 0] rfl)
def F_Ptm_draw_213 (σ : Sg) (v5 : Int32) (v6 : Int32) (v7 : Int32) (v8 : Int32) (v9 : Int32) (s1 : Int32) : Option (Sg × Int32) := ck (inb v9 16384) (F_Ptm_draw_220 σ v5 v6 v7 v8 v9 s1 (σ.2.2.1 46 v9.toNatClampNeg))
set_option maxRecDepth 10000 in
set_option maxHeartbeats 4000000 in
theorem bt_Ptm_draw_213 {p : Program} {l : Launch} {e : Env} {R : Room} {s : State} {m : MethodId} {args : Array Value} {below : List Frame} {meth : Method} {c : Code} {D : va_G} {τ : ClassId × ClassId × ClassId} {B : Nat} {A : Nat → Prop} {ad : Nat → Nat} (E : Cx p R s m args meth c prog_17_method_26_code 13 "DrawingMachineModel$PlaceTestsModel" 2 D τ B A) (hret : meth.sig.returnType = (some .int)) (o : Sg × Int32) (σ : Sg) (v5 : Int32) (v6 : Int32) (v7 : Int32) (v8 : Int32) (v9 : Int32) (s1 : Int32) (h : F_Ptm_draw_213 σ v5 v6 v7 v8 v9 s1 = some o) {H : Heap} {locs : List Loc} {ls : Array Slot} (w : Wd s D A (wdM τ σ ad) H locs) (hl : lv_has ls 13 [(0, .ref (ad 64)), (5, .int v5), (6, .int v6), (7, .int v7), (8, .int v8), (9, .int v9)]) : W p l e R s m args below meth c H locs 0 0 (QI below args s A D τ (wdM τ o.1 ad) o.2) (F0 m 213 ls [.int s1, .ref (ad 46)]) := by
  refine lv_aload_n E.x E.b d_Ptm_draw_213 rfl (lv_at hl 0 rfl) ?_
  refine gM_Ptm_depths E w k1704 d_Ptm_draw_214 ?_
  refine lv_iload E.x E.b d_Ptm_draw_217 (lv_at hl 5 rfl) ?_
  obtain ⟨c57, h⟩ := ck_some h
  refine ialM E w (k := 46) (by decide) c57 d_Ptm_draw_219 ?_
  exact bt_Ptm_draw_220 E hret o σ v5 v6 v7 v8 v9 s1 (σ.2.2.1 46 v9.toNatClampNeg) h w (lv_sub hl [0, 1, 2, 3, 4, 5] rfl)
def F_Ptm_draw_179 (σ : Sg) (v3 : Int32) (v4 : Int32) (v5 : Int32) (v6 : Int32) (v7 : Int32) (v8 : Int32) (v9 : Int32) : Option (Sg × Int32) := bd (F_Ptm_act σ v9 v4 6) (fun o58 => if (o58.1 34) < 0 then (F_Ptm_draw_213 o58 v5 v6 v7 v8 v9 v9) else (if (o58.1 35) = 0 then (F_Ptm_draw_213 o58 v5 v6 v7 v8 v9 v9) else (F_Ptm_draw_220 o58 v5 v6 v7 v8 v9 v9 v3)))
set_option maxRecDepth 10000 in
set_option maxHeartbeats 4000000 in
theorem bt_Ptm_draw_179 {p : Program} {l : Launch} {e : Env} {R : Room} {s : State} {m : MethodId} {args : Array Value} {below : List Frame} {meth : Method} {c : Code} {D : va_G} {τ : ClassId × ClassId × ClassId} {B : Nat} {A : Nat → Prop} {ad : Nat → Nat} (E : Cx p R s m args meth c prog_17_method_26_code 13 "DrawingMachineModel$PlaceTestsModel" 2 D τ B A) (hret : meth.sig.returnType = (some .int)) (o : Sg × Int32) (σ : Sg) (v3 : Int32) (v4 : Int32) (v5 : Int32) (v6 : Int32) (v7 : Int32) (v8 : Int32) (v9 : Int32) (h : F_Ptm_draw_179 σ v3 v4 v5 v6 v7 v8 v9 = some o) {H : Heap} {locs : List Loc} {ls : Array Slot} (w : Wd s D A (wdM τ σ ad) H locs) (hl : lv_has ls 13 [(0, .ref (ad 64)), (3, .int v3), (4, .int v4), (5, .int v5), (6, .int v6), (7, .int v7), (8, .int v8), (9, .int v9)]) : W p l e R s m args below meth c H locs 0 0 (QI below args s A D τ (wdM τ o.1 ad) o.2) (F0 m 179 ls []) := by
  refine lv_aload_n E.x E.b d_Ptm_draw_179 rfl (lv_at hl 0 rfl) ?_
  refine lv_iload E.x E.b d_Ptm_draw_180 (lv_at hl 7 rfl) ?_
  refine lv_iload E.x E.b d_Ptm_draw_182 (lv_at hl 2 rfl) ?_
  refine lv_bipush (v := 6) E.x E.b d_Ptm_draw_184 (by decide) ?_
  obtain ⟨o58, h_o58, h⟩ := bd_some h
  refine clV_Ptm_act E w (x0 := v9) (x1 := v4) (x2 := 6) h_o58 k2451 (by decide) hl.1 (Nat.le_of_ble_eq_true rfl) d_Ptm_draw_186 (fun H locs w => ?_)
  refine lv_aload_n E.x E.b d_Ptm_draw_189 rfl (lv_at hl 0 rfl) ?_
  refine gM_Ptm_depths E w k1704 d_Ptm_draw_190 ?_
  refine lv_iload E.x E.b d_Ptm_draw_193 (lv_at hl 7 rfl) ?_
  refine lv_aload_n E.x E.b d_Ptm_draw_195 rfl (lv_at hl 0 rfl) ?_
  refine gM_Ptm_depthTest E w k1708 d_Ptm_draw_196 ?_
  refine lv_if_lt (tgt := 213) E.x E.b d_Ptm_draw_199 (by decide) (fun c => ?_) (fun c => ?_)
  ·
    replace h := ifT c h
    exact bt_Ptm_draw_213 E hret o o58 v5 v6 v7 v8 v9 v9 h w (lv_sub hl [0, 3, 4, 5, 6, 7] rfl)
  ·
    replace h := ifF c h
    refine lv_aload_n E.x E.b d_Ptm_draw_202 rfl (lv_at hl 0 rfl) ?_
    refine gM_Ptm_depthWritten E w k1709 d_Ptm_draw_203 ?_
    refine lv_if_eq (tgt := 213) E.x E.b d_Ptm_draw_206 (by decide) (fun c => ?_) (fun c => ?_)
    ·
      replace h := ifT c h
      exact bt_Ptm_draw_213 E hret o o58 v5 v6 v7 v8 v9 v9 h w (lv_sub hl [0, 3, 4, 5, 6, 7] rfl)
    ·
      replace h := ifF c h
      refine lv_iload_n E.x E.b d_Ptm_draw_209 rfl (lv_at hl 1 rfl) ?_
      refine lv_goto (tgt := 220) E.x E.b d_Ptm_draw_210 (by decide) ?_
      exact bt_Ptm_draw_220 E hret o o58 v5 v6 v7 v8 v9 v9 v3 h w (lv_sub hl [0, 3, 4, 5, 6, 7] rfl)
def F_Ptm_draw_139 (σ : Sg) (v3 : Int32) (v4 : Int32) (v5 : Int32) (v6 : Int32) (v7 : Int32) (v8 : Int32) (v9 : Int32) : Option (Sg × Int32) := if (σ.1 34) < 0 then (F_Ptm_draw_179 σ v3 v4 v5 v6 v7 v8 v9) else (ck (inb v9 16384) (bd (F_Ptm_holds (σ.1 34) v3 (σ.2.2.1 46 v9.toNatClampNeg)) (fun o60 => if o60 = 0 then (bd (F_Ptm_act σ v9 v4 5) (fun o61 => bd (F_Ptm_answer o61 2) (fun o62 => some (o62.1, o62.2)))) else (F_Ptm_draw_179 σ v3 v4 v5 v6 v7 v8 v9))))
set_option maxRecDepth 10000 in
set_option maxHeartbeats 4000000 in
theorem bt_Ptm_draw_139 {p : Program} {l : Launch} {e : Env} {R : Room} {s : State} {m : MethodId} {args : Array Value} {below : List Frame} {meth : Method} {c : Code} {D : va_G} {τ : ClassId × ClassId × ClassId} {B : Nat} {A : Nat → Prop} {ad : Nat → Nat} (E : Cx p R s m args meth c prog_17_method_26_code 13 "DrawingMachineModel$PlaceTestsModel" 2 D τ B A) (hret : meth.sig.returnType = (some .int)) (o : Sg × Int32) (σ : Sg) (v3 : Int32) (v4 : Int32) (v5 : Int32) (v6 : Int32) (v7 : Int32) (v8 : Int32) (v9 : Int32) (h : F_Ptm_draw_139 σ v3 v4 v5 v6 v7 v8 v9 = some o) {H : Heap} {locs : List Loc} {ls : Array Slot} (w : Wd s D A (wdM τ σ ad) H locs) (hl : lv_has ls 13 [(0, .ref (ad 64)), (3, .int v3), (4, .int v4), (5, .int v5), (6, .int v6), (7, .int v7), (8, .int v8), (9, .int v9)]) : W p l e R s m args below meth c H locs 0 0 (QI below args s A D τ (wdM τ o.1 ad) o.2) (F0 m 139 ls []) := by
  refine lv_aload_n E.x E.b d_Ptm_draw_139 rfl (lv_at hl 0 rfl) ?_
  refine gM_Ptm_depthTest E w k1708 d_Ptm_draw_140 ?_
  refine lv_if_lt (tgt := 179) E.x E.b d_Ptm_draw_143 (by decide) (fun c => ?_) (fun c => ?_)
  ·
    replace h := ifT c h
    exact bt_Ptm_draw_179 E hret o σ v3 v4 v5 v6 v7 v8 v9 h w (lv_sub hl [0, 1, 2, 3, 4, 5, 6, 7] rfl)
  ·
    replace h := ifF c h
    refine lv_aload_n E.x E.b d_Ptm_draw_146 rfl (lv_at hl 0 rfl) ?_
    refine gM_Ptm_depthTest E w k1708 d_Ptm_draw_147 ?_
    refine lv_iload_n E.x E.b d_Ptm_draw_150 rfl (lv_at hl 1 rfl) ?_
    refine lv_aload_n E.x E.b d_Ptm_draw_151 rfl (lv_at hl 0 rfl) ?_
    refine gM_Ptm_depths E w k1704 d_Ptm_draw_152 ?_
    refine lv_iload E.x E.b d_Ptm_draw_155 (lv_at hl 7 rfl) ?_
    obtain ⟨c59, h⟩ := ck_some h
    refine ialM E w (k := 46) (by decide) c59 d_Ptm_draw_157 ?_
    obtain ⟨o60, h_o60, h⟩ := bd_some h
    refine clS_Ptm_holds E w (x0 := (σ.1 34)) (x1 := v3) (x2 := (σ.2.2.1 46 v9.toNatClampNeg)) h_o60 k2448 (by decide) hl.1 (Nat.le_of_ble_eq_true rfl) d_Ptm_draw_158 (fun H locs w => ?_)
    refine lv_if_ne (tgt := 179) E.x E.b d_Ptm_draw_161 (by decide) (fun c => ?_) (fun c => ?_)
    ·
      replace h := ifF c h
      exact bt_Ptm_draw_179 E hret o σ v3 v4 v5 v6 v7 v8 v9 h w (lv_sub hl [0, 1, 2, 3, 4, 5, 6, 7] rfl)
    ·
      replace h := ifT c h
      refine lv_aload_n E.x E.b d_Ptm_draw_164 rfl (lv_at hl 0 rfl) ?_
      refine lv_iload E.x E.b d_Ptm_draw_165 (lv_at hl 7 rfl) ?_
      refine lv_iload E.x E.b d_Ptm_draw_167 (lv_at hl 2 rfl) ?_
      refine lv_iconst (v := 5) E.x E.b d_Ptm_draw_169 (by decide) ?_
      obtain ⟨o61, h_o61, h⟩ := bd_some h
      refine clV_Ptm_act E w (x0 := v9) (x1 := v4) (x2 := 5) h_o61 k2451 (by decide) hl.1 (Nat.le_of_ble_eq_true rfl) d_Ptm_draw_170 (fun H locs w => ?_)
      refine lv_aload_n E.x E.b d_Ptm_draw_173 rfl (lv_at hl 0 rfl) ?_
      refine lv_iconst (v := 2) E.x E.b d_Ptm_draw_174 (by decide) ?_
      obtain ⟨o62, h_o62, h⟩ := bd_some h
      refine clV_Ptm_answer E w (x0 := 2) h_o62 k2444 (by decide) hl.1 (Nat.le_of_ble_eq_true rfl) d_Ptm_draw_175 (fun H locs w => ?_)
      obtain rfl := Option.some.inj h
      exact rt_i E w hret d_Ptm_draw_178
def F_Ptm_draw_26 (σ : Sg) (v1 : Int32) (v2 : Int32) (v3 : Int32) (v4 : Int32) (v5 : Int32) (v6 : Int32) (v7 : Int32) (v8 : Int32) (s1 : Int32) : Option (Sg × Int32) := bd (F_Ptm_refuse σ s1 0) (fun o63 => if o63.2 = 0 then (bd (F_Ptm_isOpen o63.1 v1 v2) (fun o64 => if o64 = 0 then (bd (F_Ptm_answer o63.1 0) (fun o76 => some (o76.1, o76.2))) else (bd (F_Ptm_placeOf o63.1 v1 v2) (fun o65 => lt (7 * v4) (fun y66 => ck (inb y66 14) (if (o63.1.2.2.1 49 y66.toNatClampNeg) < 0 then (F_Ptm_draw_139 o63.1 v3 v4 v5 v6 v7 v8 o65) else (ck (inb y66 14) (ck (inb (y66 + 1) 14) (ck (inb (y66 + 2) 14) (ck (inb o65 16384) (ck (inb (y66 + 2) 14) (bd (F_Ptm_holds (o63.1.2.2.1 49 y66.toNatClampNeg) ((o63.1.2.2.1 49 (y66 + 1).toNatClampNeg) &&& (o63.1.2.2.1 49 (y66 + 2).toNatClampNeg)) ((o63.1.2.2.1 47 o65.toNatClampNeg) &&& (o63.1.2.2.1 49 (y66 + 2).toNatClampNeg))) (fun o73 => if o73 = 0 then (bd (F_Ptm_act o63.1 o65 v4 4) (fun o74 => bd (F_Ptm_answer o74 1) (fun o75 => some (o75.1, o75.2)))) else (F_Ptm_draw_139 o63.1 v3 v4 v5 v6 v7 v8 o65)))))))))))))) else (some (o63.1, 0)))
set_option maxRecDepth 10000 in
set_option maxHeartbeats 4000000 in
theorem bt_Ptm_draw_26 {p : Program} {l : Launch} {e : Env} {R : Room} {s : State} {m : MethodId} {args : Array Value} {below : List Frame} {meth : Method} {c : Code} {D : va_G} {τ : ClassId × ClassId × ClassId} {B : Nat} {A : Nat → Prop} {ad : Nat → Nat} (E : Cx p R s m args meth c prog_17_method_26_code 13 "DrawingMachineModel$PlaceTestsModel" 2 D τ B A) (hret : meth.sig.returnType = (some .int)) (o : Sg × Int32) (σ : Sg) (v1 : Int32) (v2 : Int32) (v3 : Int32) (v4 : Int32) (v5 : Int32) (v6 : Int32) (v7 : Int32) (v8 : Int32) (s1 : Int32) (h : F_Ptm_draw_26 σ v1 v2 v3 v4 v5 v6 v7 v8 s1 = some o) {H : Heap} {locs : List Loc} {ls : Array Slot} (w : Wd s D A (wdM τ σ ad) H locs) (hl : lv_has ls 13 [(0, .ref (ad 64)), (1, .int v1), (2, .int v2), (3, .int v3), (4, .int v4), (5, .int v5), (6, .int v6), (7, .int v7), (8, .int v8)]) : W p l e R s m args below meth c H locs 0 0 (QI below args s A D τ (wdM τ o.1 ad) o.2) (F0 m 26 ls [.int s1, .ref (ad 64)]) := by
  refine lv_iconst (v := 0) E.x E.b d_Ptm_draw_26 (by decide) ?_
  obtain ⟨o63, h_o63, h⟩ := bd_some h
  refine clV_Ptm_refuse E w (x0 := s1) (x1 := 0) h_o63 k1858 (by decide) hl.1 (Nat.le_of_ble_eq_true rfl) d_Ptm_draw_27 (fun H locs w => ?_)
  refine lv_if_eq (tgt := 35) E.x E.b d_Ptm_draw_30 (by decide) (fun c => ?_) (fun c => ?_)
  ·
    replace h := ifT c h
    refine lv_aload_n E.x E.b d_Ptm_draw_35 rfl (lv_at hl 0 rfl) ?_
    refine lv_iload_n E.x E.b d_Ptm_draw_36 rfl (lv_at hl 1 rfl) ?_
    refine lv_iload_n E.x E.b d_Ptm_draw_37 rfl (lv_at hl 2 rfl) ?_
    obtain ⟨o64, h_o64, h⟩ := bd_some h
    refine clV_Ptm_isOpen E w (x0 := v1) (x1 := v2) h_o64 k2064 (by decide) hl.1 (Nat.le_of_ble_eq_true rfl) d_Ptm_draw_38 (fun H locs w => ?_)
    refine lv_if_ne (tgt := 50) E.x E.b d_Ptm_draw_41 (by decide) (fun c => ?_) (fun c => ?_)
    ·
      replace h := ifF c h
      refine lv_aload_n E.x E.b d_Ptm_draw_50 rfl (lv_at hl 0 rfl) ?_
      refine lv_iload_n E.x E.b d_Ptm_draw_51 rfl (lv_at hl 1 rfl) ?_
      refine lv_iload_n E.x E.b d_Ptm_draw_52 rfl (lv_at hl 2 rfl) ?_
      obtain ⟨o65, h_o65, h⟩ := bd_some h
      refine clV_Ptm_placeOf E w (x0 := v1) (x1 := v2) h_o65 k2072 (by decide) hl.1 (Nat.le_of_ble_eq_true rfl) d_Ptm_draw_53 (fun H locs w => ?_)
      refine lv_istore (lv' := [(9, .int o65), (0, .ref (ad 64)), (1, .int v1), (2, .int v2), (3, .int v3), (4, .int v4), (5, .int v5), (6, .int v6), (7, .int v7), (8, .int v8)]) E.x E.b d_Ptm_draw_56 hl (by decide) rfl (fun ls hl => ?_)
      refine lv_bipush (v := 7) E.x E.b d_Ptm_draw_58 (by decide) ?_
      refine lv_iload E.x E.b d_Ptm_draw_60 (lv_at hl 5 rfl) ?_
      refine lv_imul E.x E.b d_Ptm_draw_62 ?_
      obtain ⟨y66, e_y66, h⟩ := lt_some h
      refine wi_e (v := y66) e_y66 ?_
      refine lv_istore (lv' := [(10, .int y66), (9, .int o65), (0, .ref (ad 64)), (1, .int v1), (2, .int v2), (3, .int v3), (4, .int v4), (5, .int v5), (6, .int v6), (7, .int v7), (8, .int v8)]) E.x E.b d_Ptm_draw_63 hl (by decide) rfl (fun ls hl => ?_)
      refine lv_aload_n E.x E.b d_Ptm_draw_65 rfl (lv_at hl 2 rfl) ?_
      refine gM_Ptm_stencil E w k1710 d_Ptm_draw_66 ?_
      refine lv_iload E.x E.b d_Ptm_draw_69 (lv_at hl 0 rfl) ?_
      obtain ⟨c67, h⟩ := ck_some h
      refine ialM E w (k := 49) (by decide) c67 d_Ptm_draw_71 ?_
      refine lv_if_lt (tgt := 139) E.x E.b d_Ptm_draw_72 (by decide) (fun c => ?_) (fun c => ?_)
      ·
        replace h := ifT c h
        exact bt_Ptm_draw_139 E hret o o63.1 v3 v4 v5 v6 v7 v8 o65 h w (lv_sub hl [2, 5, 6, 7, 8, 9, 10, 1] rfl)
      ·
        replace h := ifF c h
        refine lv_aload_n E.x E.b d_Ptm_draw_75 rfl (lv_at hl 2 rfl) ?_
        refine gM_Ptm_stencil E w k1710 d_Ptm_draw_76 ?_
        refine lv_iload E.x E.b d_Ptm_draw_79 (lv_at hl 0 rfl) ?_
        obtain ⟨c68, h⟩ := ck_some h
        refine ialM E w (k := 49) (by decide) c68 d_Ptm_draw_81 ?_
        refine lv_aload_n E.x E.b d_Ptm_draw_82 rfl (lv_at hl 2 rfl) ?_
        refine gM_Ptm_stencil E w k1710 d_Ptm_draw_83 ?_
        refine lv_iload E.x E.b d_Ptm_draw_86 (lv_at hl 0 rfl) ?_
        refine lv_iconst (v := 1) E.x E.b d_Ptm_draw_88 (by decide) ?_
        refine lv_iadd E.x E.b d_Ptm_draw_89 ?_
        obtain ⟨c69, h⟩ := ck_some h
        refine ialM E w (k := 49) (by decide) c69 d_Ptm_draw_90 ?_
        refine lv_aload_n E.x E.b d_Ptm_draw_91 rfl (lv_at hl 2 rfl) ?_
        refine gM_Ptm_stencil E w k1710 d_Ptm_draw_92 ?_
        refine lv_iload E.x E.b d_Ptm_draw_95 (lv_at hl 0 rfl) ?_
        refine lv_iconst (v := 2) E.x E.b d_Ptm_draw_97 (by decide) ?_
        refine lv_iadd E.x E.b d_Ptm_draw_98 ?_
        obtain ⟨c70, h⟩ := ck_some h
        refine ialM E w (k := 49) (by decide) c70 d_Ptm_draw_99 ?_
        refine lv_iand E.x E.b d_Ptm_draw_100 ?_
        refine lv_aload_n E.x E.b d_Ptm_draw_101 rfl (lv_at hl 2 rfl) ?_
        refine gM_Ptm_stencils E w k1705 d_Ptm_draw_102 ?_
        refine lv_iload E.x E.b d_Ptm_draw_105 (lv_at hl 1 rfl) ?_
        obtain ⟨c71, h⟩ := ck_some h
        refine ialM E w (k := 47) (by decide) c71 d_Ptm_draw_107 ?_
        refine lv_aload_n E.x E.b d_Ptm_draw_108 rfl (lv_at hl 2 rfl) ?_
        refine gM_Ptm_stencil E w k1710 d_Ptm_draw_109 ?_
        refine lv_iload E.x E.b d_Ptm_draw_112 (lv_at hl 0 rfl) ?_
        refine lv_iconst (v := 2) E.x E.b d_Ptm_draw_114 (by decide) ?_
        refine lv_iadd E.x E.b d_Ptm_draw_115 ?_
        obtain ⟨c72, h⟩ := ck_some h
        refine ialM E w (k := 49) (by decide) c72 d_Ptm_draw_116 ?_
        refine lv_iand E.x E.b d_Ptm_draw_117 ?_
        obtain ⟨o73, h_o73, h⟩ := bd_some h
        refine clS_Ptm_holds E w (x0 := (o63.1.2.2.1 49 y66.toNatClampNeg)) (x1 := ((o63.1.2.2.1 49 (y66 + 1).toNatClampNeg) &&& (o63.1.2.2.1 49 (y66 + 2).toNatClampNeg))) (x2 := ((o63.1.2.2.1 47 o65.toNatClampNeg) &&& (o63.1.2.2.1 49 (y66 + 2).toNatClampNeg))) h_o73 k2448 (by decide) hl.1 (Nat.le_of_ble_eq_true rfl) d_Ptm_draw_118 (fun H locs w => ?_)
        refine lv_if_ne (tgt := 139) E.x E.b d_Ptm_draw_121 (by decide) (fun c => ?_) (fun c => ?_)
        ·
          replace h := ifF c h
          exact bt_Ptm_draw_139 E hret o o63.1 v3 v4 v5 v6 v7 v8 o65 h w (lv_sub hl [2, 5, 6, 7, 8, 9, 10, 1] rfl)
        ·
          replace h := ifT c h
          refine lv_aload_n E.x E.b d_Ptm_draw_124 rfl (lv_at hl 2 rfl) ?_
          refine lv_iload E.x E.b d_Ptm_draw_125 (lv_at hl 1 rfl) ?_
          refine lv_iload E.x E.b d_Ptm_draw_127 (lv_at hl 6 rfl) ?_
          refine lv_iconst (v := 4) E.x E.b d_Ptm_draw_129 (by decide) ?_
          obtain ⟨o74, h_o74, h⟩ := bd_some h
          refine clV_Ptm_act E w (x0 := o65) (x1 := v4) (x2 := 4) h_o74 k2451 (by decide) hl.1 (Nat.le_of_ble_eq_true rfl) d_Ptm_draw_130 (fun H locs w => ?_)
          refine lv_aload_n E.x E.b d_Ptm_draw_133 rfl (lv_at hl 2 rfl) ?_
          refine lv_iconst (v := 1) E.x E.b d_Ptm_draw_134 (by decide) ?_
          obtain ⟨o75, h_o75, h⟩ := bd_some h
          refine clV_Ptm_answer E w (x0 := 1) h_o75 k2444 (by decide) hl.1 (Nat.le_of_ble_eq_true rfl) d_Ptm_draw_135 (fun H locs w => ?_)
          obtain rfl := Option.some.inj h
          exact rt_i E w hret d_Ptm_draw_138
    ·
      replace h := ifT c h
      refine lv_aload_n E.x E.b d_Ptm_draw_44 rfl (lv_at hl 0 rfl) ?_
      refine lv_iconst (v := 0) E.x E.b d_Ptm_draw_45 (by decide) ?_
      obtain ⟨o76, h_o76, h⟩ := bd_some h
      refine clV_Ptm_answer E w (x0 := 0) h_o76 k2444 (by decide) hl.1 (Nat.le_of_ble_eq_true rfl) d_Ptm_draw_46 (fun H locs w => ?_)
      obtain rfl := Option.some.inj h
      exact rt_i E w hret d_Ptm_draw_49
  ·
    replace h := ifF c h
    refine lv_iconst (v := 0) E.x E.b d_Ptm_draw_33 (by decide) ?_
    obtain rfl := Option.some.inj h
    exact rt_i E w hret d_Ptm_draw_34
def F_Ptm_draw_21 (σ : Sg) (v1 : Int32) (v2 : Int32) (v3 : Int32) (v4 : Int32) (v5 : Int32) (v6 : Int32) (v7 : Int32) (v8 : Int32) : Option (Sg × Int32) := F_Ptm_draw_26 σ v1 v2 v3 v4 v5 v6 v7 v8 1
set_option maxRecDepth 10000 in
set_option maxHeartbeats 4000000 in
theorem bt_Ptm_draw_21 {p : Program} {l : Launch} {e : Env} {R : Room} {s : State} {m : MethodId} {args : Array Value} {below : List Frame} {meth : Method} {c : Code} {D : va_G} {τ : ClassId × ClassId × ClassId} {B : Nat} {A : Nat → Prop} {ad : Nat → Nat} (E : Cx p R s m args meth c prog_17_method_26_code 13 "DrawingMachineModel$PlaceTestsModel" 2 D τ B A) (hret : meth.sig.returnType = (some .int)) (o : Sg × Int32) (σ : Sg) (v1 : Int32) (v2 : Int32) (v3 : Int32) (v4 : Int32) (v5 : Int32) (v6 : Int32) (v7 : Int32) (v8 : Int32) (h : F_Ptm_draw_21 σ v1 v2 v3 v4 v5 v6 v7 v8 = some o) {H : Heap} {locs : List Loc} {ls : Array Slot} (w : Wd s D A (wdM τ σ ad) H locs) (hl : lv_has ls 13 [(0, .ref (ad 64)), (1, .int v1), (2, .int v2), (3, .int v3), (4, .int v4), (5, .int v5), (6, .int v6), (7, .int v7), (8, .int v8)]) : W p l e R s m args below meth c H locs 0 0 (QI below args s A D τ (wdM τ o.1 ad) o.2) (F0 m 21 ls [.ref (ad 64)]) := by
  refine lv_iconst (v := 1) E.x E.b d_Ptm_draw_21 (by decide) ?_
  refine lv_goto (tgt := 26) E.x E.b d_Ptm_draw_22 (by decide) ?_
  exact bt_Ptm_draw_26 E hret o σ v1 v2 v3 v4 v5 v6 v7 v8 1 h w (lv_sub hl [0, 1, 2, 3, 4, 5, 6, 7, 8] rfl)
def F_Ptm_draw (σ : Sg) (x0 : Int32) (x1 : Int32) (x2 : Int32) (x3 : Int32) (x4 : Int32) (x5 : Int32) (x6 : Int32) (x7 : Int32) : Option (Sg × Int32) := bd (F_Ptm_in x2 0 16777215) (fun o77 => if o77 = 0 then (F_Ptm_draw_21 σ x0 x1 x2 x3 x4 x5 x6 x7) else (bd (F_Ptm_in x3 0 1) (fun o78 => if o78 = 0 then (F_Ptm_draw_21 σ x0 x1 x2 x3 x4 x5 x6 x7) else (F_Ptm_draw_26 σ x0 x1 x2 x3 x4 x5 x6 x7 0))))
set_option maxRecDepth 10000 in
set_option maxHeartbeats 4000000 in
theorem c_Ptm_draw (l : Launch) (D : va_G) (τ : ClassId × ClassId × ClassId) (B : Nat) (σ : Sg) (ad : Nat → Nat) (x0 : Int32) (x1 : Int32) (x2 : Int32) (x3 : Int32) (x4 : Int32) (x5 : Int32) (x6 : Int32) (x7 : Int32) (o : Sg × Int32) (h : F_Ptm_draw σ x0 x1 x2 x3 x4 x5 x6 x7 = some o) : MI l y_Ptm_draw (Cond.code y_Ptm_draw prog_17_method_26_code 13 (some .int)) 2 D τ B [.ref (ad 64), .int x0, .int x1, .int x2, .int x3, .int x4, .int x5, .int x6, .int x7] (wdM τ σ ad) (wdM τ o.1 ad) o.2 := by
  refine en_i (by decide) (Nat.le_of_ble_eq_true rfl) ?_
  intro p e R s m args below meth c H locs ls A E hret w hl
  have E : Cx p R s m args meth c prog_17_method_26_code 13 "DrawingMachineModel$PlaceTestsModel" 2 D τ B A := E
  have hl : lv_has ls 13 [(0, .ref (ad 64)), (1, .int x0), (2, .int x1), (3, .int x2), (4, .int x3), (5, .int x4), (6, .int x5), (7, .int x6), (8, .int x7)] := hl
  refine lv_aload_n E.x E.b d_Ptm_draw_0 rfl (lv_at hl 0 rfl) ?_
  refine lv_iload_n E.x E.b d_Ptm_draw_1 rfl (lv_at hl 3 rfl) ?_
  refine lv_iconst (v := 0) E.x E.b d_Ptm_draw_2 (by decide) ?_
  refine lv_ldc (v := 16777215) E.x E.b E.o (E.w _ k2063) d_Ptm_draw_3 ?_
  obtain ⟨o77, h_o77, h⟩ := bd_some h
  refine clS_Ptm_in E w (x0 := x2) (x1 := 0) (x2 := 16777215) h_o77 k1855 (by decide) hl.1 (Nat.le_of_ble_eq_true rfl) d_Ptm_draw_5 (fun H locs w => ?_)
  refine lv_if_eq (tgt := 21) E.x E.b d_Ptm_draw_8 (by decide) (fun c => ?_) (fun c => ?_)
  ·
    replace h := ifT c h
    exact bt_Ptm_draw_21 E hret o σ x0 x1 x2 x3 x4 x5 x6 x7 h w (lv_sub hl [0, 1, 2, 3, 4, 5, 6, 7, 8] rfl)
  ·
    replace h := ifF c h
    refine lv_iload E.x E.b d_Ptm_draw_11 (lv_at hl 4 rfl) ?_
    refine lv_iconst (v := 0) E.x E.b d_Ptm_draw_13 (by decide) ?_
    refine lv_iconst (v := 1) E.x E.b d_Ptm_draw_14 (by decide) ?_
    obtain ⟨o78, h_o78, h⟩ := bd_some h
    refine clS_Ptm_in E w (x0 := x3) (x1 := 0) (x2 := 1) h_o78 k1855 (by decide) hl.1 (Nat.le_of_ble_eq_true rfl) d_Ptm_draw_15 (fun H locs w => ?_)
    refine lv_if_ne (tgt := 25) E.x E.b d_Ptm_draw_18 (by decide) (fun c => ?_) (fun c => ?_)
    ·
      replace h := ifF c h
      refine lv_iconst (v := 0) E.x E.b d_Ptm_draw_25 (by decide) ?_
      exact bt_Ptm_draw_26 E hret o σ x0 x1 x2 x3 x4 x5 x6 x7 0 h w (lv_sub hl [0, 1, 2, 3, 4, 5, 6, 7, 8] rfl)
    ·
      replace h := ifT c h
      exact bt_Ptm_draw_21 E hret o σ x0 x1 x2 x3 x4 x5 x6 x7 h w (lv_sub hl [0, 1, 2, 3, 4, 5, 6, 7, 8] rfl)
theorem clV_Ptm_draw {p : Program} {l : Launch} {e : Env} {R : Room} {s : State} {m : MethodId} {args : Array Value} {below : List Frame} {meth : Method} {c : Code} {H : Heap} {locs : List Loc} {Q : State → Prop} {cc : ByteArray} {nL pc lev : Nat} {own : String} {D : va_G} {τ : ClassId × ClassId × ClassId} {B : Nat} {A : Nat → Prop} {σ : Sg} {ad : Nat → Nat} {ls : Array Slot} {rest : List Value} (E : Cx p R s m args meth c cc nL own lev D τ B A) (w : Wd s D A (wdM τ σ ad) H locs) {x0 : Int32} {x1 : Int32} {x2 : Int32} {x3 : Int32} {x4 : Int32} {x5 : Int32} {x6 : Int32} {x7 : Int32} {o : Sg × Int32} (h : F_Ptm_draw σ x0 x1 x2 x3 x4 x5 x6 x7 = some o) {index : Nat} (hlk : Cond.methodLink own index y_Ptm_draw ∈ tw) (hlev : 2 < lev) (hsz : ls.size = nL) (hr : (rest.map fun v => v.category).sum ≤ 8) (hd : decode cc pc = .ok (.invokevirtual index, 3)) (kk : ∀ (H1 : Heap) (locs1 : List Loc), Wd s D A (wdM τ o.1 ad) H1 locs1 → W p l e R s m args below meth c H1 locs1 0 0 Q (F0 m (pc + 3) ls (.int o.2 :: rest))) : W p l e R s m args below meth c H locs 0 0 Q (F0 m pc ls (.int x7 :: .int x6 :: .int x5 :: .int x4 :: .int x3 :: .int x2 :: .int x1 :: .int x0 :: .ref (ad 64) :: rest)) :=
  cr_i w E.C (va_runV (As := [.int x0, .int x1, .int x2, .int x3, .int x4, .int x5, .int x6, .int x7]) (rest := rest) E.fix (c_Ptm_draw l D τ B σ ad x0 x1 x2 x3 x4 x5 x6 x7 o h H.size) (cwV 8 E.w (tw_pre (tw_good k2443) (l := [_, _, _, _]) (List.forall_mem_cons.mpr ⟨hlk, List.forall_mem_cons.mpr ⟨k2441, List.forall_mem_cons.mpr ⟨k2442, List.forall_mem_cons.mpr ⟨k20, fun _ h => absurd h List.not_mem_nil⟩⟩⟩⟩)) rfl rfl rfl (by decide +kernel) (E.rm hlev (by decide))) (wd_preV w E.C [.int x0, .int x1, .int x2, .int x3, .int x4, .int x5, .int x6, .int x7] rcM_Ptm rfl) rfl rfl hsz rfl (lv_room hr) hd ⟨Nat.zero_le _, Nat.zero_le _⟩) kk

theorem d_Mod_place_0 : decode prog_14_method_27_code 0 = .ok (.aload_n 0, 1) := by decide +kernel
theorem d_Mod_place_1 : decode prog_14_method_27_code 1 = .ok (.iload_n 1, 1) := by decide +kernel
theorem d_Mod_place_2 : decode prog_14_method_27_code 2 = .ok (.iload_n 2, 1) := by decide +kernel
theorem d_Mod_place_3 : decode prog_14_method_27_code 3 = .ok (.invokevirtual 346, 3) := by decide +kernel
theorem d_Mod_place_6 : decode prog_14_method_27_code 6 = .ok (.istore 4, 2) := by decide +kernel
theorem d_Mod_place_8 : decode prog_14_method_27_code 8 = .ok (.aload_n 0, 1) := by decide +kernel
theorem d_Mod_place_9 : decode prog_14_method_27_code 9 = .ok (.getfield 45, 3) := by decide +kernel
theorem d_Mod_place_12 : decode prog_14_method_27_code 12 = .ok (.getfield 275, 3) := by decide +kernel
theorem d_Mod_place_15 : decode prog_14_method_27_code 15 = .ok (.iconst 0, 1) := by decide +kernel
theorem d_Mod_place_16 : decode prog_14_method_27_code 16 = .ok (.ldc_w 349, 3) := by decide +kernel
theorem d_Mod_place_19 : decode prog_14_method_27_code 19 = .ok (.iload_n 1, 1) := by decide +kernel
theorem d_Mod_place_20 : decode prog_14_method_27_code 20 = .ok (.imul, 1) := by decide +kernel
theorem d_Mod_place_21 : decode prog_14_method_27_code 21 = .ok (.ldc_w 350, 3) := by decide +kernel
theorem d_Mod_place_24 : decode prog_14_method_27_code 24 = .ok (.iadd, 1) := by decide +kernel
theorem d_Mod_place_25 : decode prog_14_method_27_code 25 = .ok (.iastore, 1) := by decide +kernel
theorem d_Mod_place_26 : decode prog_14_method_27_code 26 = .ok (.aload_n 0, 1) := by decide +kernel
theorem d_Mod_place_27 : decode prog_14_method_27_code 27 = .ok (.getfield 45, 3) := by decide +kernel
theorem d_Mod_place_30 : decode prog_14_method_27_code 30 = .ok (.getfield 275, 3) := by decide +kernel
theorem d_Mod_place_33 : decode prog_14_method_27_code 33 = .ok (.iconst 1, 1) := by decide +kernel
theorem d_Mod_place_34 : decode prog_14_method_27_code 34 = .ok (.ldc_w 349, 3) := by decide +kernel
theorem d_Mod_place_37 : decode prog_14_method_27_code 37 = .ok (.iload_n 2, 1) := by decide +kernel
theorem d_Mod_place_38 : decode prog_14_method_27_code 38 = .ok (.imul, 1) := by decide +kernel
theorem d_Mod_place_39 : decode prog_14_method_27_code 39 = .ok (.ldc_w 350, 3) := by decide +kernel
theorem d_Mod_place_42 : decode prog_14_method_27_code 42 = .ok (.iadd, 1) := by decide +kernel
theorem d_Mod_place_43 : decode prog_14_method_27_code 43 = .ok (.iastore, 1) := by decide +kernel
theorem d_Mod_place_44 : decode prog_14_method_27_code 44 = .ok (.aload_n 0, 1) := by decide +kernel
theorem d_Mod_place_45 : decode prog_14_method_27_code 45 = .ok (.getfield 45, 3) := by decide +kernel
theorem d_Mod_place_48 : decode prog_14_method_27_code 48 = .ok (.getfield 275, 3) := by decide +kernel
theorem d_Mod_place_51 : decode prog_14_method_27_code 51 = .ok (.iconst 2, 1) := by decide +kernel
theorem d_Mod_place_52 : decode prog_14_method_27_code 52 = .ok (.iload 4, 2) := by decide +kernel
theorem d_Mod_place_54 : decode prog_14_method_27_code 54 = .ok (.iastore, 1) := by decide +kernel
theorem d_Mod_place_55 : decode prog_14_method_27_code 55 = .ok (.aload_n 0, 1) := by decide +kernel
theorem d_Mod_place_56 : decode prog_14_method_27_code 56 = .ok (.getfield 45, 3) := by decide +kernel
theorem d_Mod_place_59 : decode prog_14_method_27_code 59 = .ok (.getfield 275, 3) := by decide +kernel
theorem d_Mod_place_62 : decode prog_14_method_27_code 62 = .ok (.iconst 3, 1) := by decide +kernel
theorem d_Mod_place_63 : decode prog_14_method_27_code 63 = .ok (.iload_n 3, 1) := by decide +kernel
theorem d_Mod_place_64 : decode prog_14_method_27_code 64 = .ok (.ifCond .ne 9, 3) := by decide +kernel
theorem d_Mod_place_67 : decode prog_14_method_27_code 67 = .ok (.ldc_w 349, 3) := by decide +kernel
theorem d_Mod_place_70 : decode prog_14_method_27_code 70 = .ok (.goto 4, 3) := by decide +kernel
theorem d_Mod_place_73 : decode prog_14_method_27_code 73 = .ok (.iconst 0, 1) := by decide +kernel
theorem d_Mod_place_74 : decode prog_14_method_27_code 74 = .ok (.iastore, 1) := by decide +kernel
theorem d_Mod_place_75 : decode prog_14_method_27_code 75 = .ok (.iconst 0, 1) := by decide +kernel
theorem d_Mod_place_76 : decode prog_14_method_27_code 76 = .ok (.istore 5, 2) := by decide +kernel
theorem d_Mod_place_78 : decode prog_14_method_27_code 78 = .ok (.iload 5, 2) := by decide +kernel
theorem d_Mod_place_80 : decode prog_14_method_27_code 80 = .ok (.bipush 28, 2) := by decide +kernel
theorem d_Mod_place_82 : decode prog_14_method_27_code 82 = .ok (.if_icmp .ge 27, 3) := by decide +kernel
theorem d_Mod_place_85 : decode prog_14_method_27_code 85 = .ok (.aload_n 0, 1) := by decide +kernel
theorem d_Mod_place_86 : decode prog_14_method_27_code 86 = .ok (.getfield 45, 3) := by decide +kernel
theorem d_Mod_place_89 : decode prog_14_method_27_code 89 = .ok (.getfield 275, 3) := by decide +kernel
theorem d_Mod_place_92 : decode prog_14_method_27_code 92 = .ok (.iconst 4, 1) := by decide +kernel
theorem d_Mod_place_93 : decode prog_14_method_27_code 93 = .ok (.iload 5, 2) := by decide +kernel
theorem d_Mod_place_95 : decode prog_14_method_27_code 95 = .ok (.iadd, 1) := by decide +kernel
theorem d_Mod_place_96 : decode prog_14_method_27_code 96 = .ok (.aload_n 0, 1) := by decide +kernel
theorem d_Mod_place_97 : decode prog_14_method_27_code 97 = .ok (.iload 5, 2) := by decide +kernel
theorem d_Mod_place_99 : decode prog_14_method_27_code 99 = .ok (.invokevirtual 351, 3) := by decide +kernel
theorem d_Mod_place_102 : decode prog_14_method_27_code 102 = .ok (.iastore, 1) := by decide +kernel
theorem d_Mod_place_103 : decode prog_14_method_27_code 103 = .ok (.iinc 5 1, 3) := by decide +kernel
theorem d_Mod_place_106 : decode prog_14_method_27_code 106 = .ok (.goto (-28), 3) := by decide +kernel
theorem d_Mod_place_109 : decode prog_14_method_27_code 109 = .ok (.aload_n 0, 1) := by decide +kernel
theorem d_Mod_place_110 : decode prog_14_method_27_code 110 = .ok (.getfield 45, 3) := by decide +kernel
theorem d_Mod_place_113 : decode prog_14_method_27_code 113 = .ok (.invokevirtual 281, 3) := by decide +kernel
theorem d_Mod_place_116 : decode prog_14_method_27_code 116 = .ok (.pop, 1) := by decide +kernel
theorem d_Mod_place_117 : decode prog_14_method_27_code 117 = .ok (.aload_n 0, 1) := by decide +kernel
theorem d_Mod_place_118 : decode prog_14_method_27_code 118 = .ok (.getfield 45, 3) := by decide +kernel
theorem d_Mod_place_121 : decode prog_14_method_27_code 121 = .ok (.getfield 353, 3) := by decide +kernel
theorem d_Mod_place_124 : decode prog_14_method_27_code 124 = .ok (.ifCond .eq 15, 3) := by decide +kernel
theorem d_Mod_place_127 : decode prog_14_method_27_code 127 = .ok (.aload_n 0, 1) := by decide +kernel
theorem d_Mod_place_128 : decode prog_14_method_27_code 128 = .ok (.getfield 75, 3) := by decide +kernel
theorem d_Mod_place_131 : decode prog_14_method_27_code 131 = .ok (.bipush 7, 2) := by decide +kernel
theorem d_Mod_place_133 : decode prog_14_method_27_code 133 = .ok (.dup2, 1) := by decide +kernel
theorem d_Mod_place_134 : decode prog_14_method_27_code 134 = .ok (.iaload, 1) := by decide +kernel
theorem d_Mod_place_135 : decode prog_14_method_27_code 135 = .ok (.iconst 1, 1) := by decide +kernel
theorem d_Mod_place_136 : decode prog_14_method_27_code 136 = .ok (.iadd, 1) := by decide +kernel
theorem d_Mod_place_137 : decode prog_14_method_27_code 137 = .ok (.iastore, 1) := by decide +kernel
theorem d_Mod_place_138 : decode prog_14_method_27_code 138 = .ok (.return_, 1) := by decide +kernel
theorem d_Mod_place_139 : decode prog_14_method_27_code 139 = .ok (.aload_n 0, 1) := by decide +kernel
theorem d_Mod_place_140 : decode prog_14_method_27_code 140 = .ok (.getfield 45, 3) := by decide +kernel
theorem d_Mod_place_143 : decode prog_14_method_27_code 143 = .ok (.getfield 284, 3) := by decide +kernel
theorem d_Mod_place_146 : decode prog_14_method_27_code 146 = .ok (.astore 5, 2) := by decide +kernel
theorem d_Mod_place_148 : decode prog_14_method_27_code 148 = .ok (.aload_n 0, 1) := by decide +kernel
theorem d_Mod_place_149 : decode prog_14_method_27_code 149 = .ok (.getfield 65, 3) := by decide +kernel
theorem d_Mod_place_152 : decode prog_14_method_27_code 152 = .ok (.iload_n 1, 1) := by decide +kernel
theorem d_Mod_place_153 : decode prog_14_method_27_code 153 = .ok (.iload_n 2, 1) := by decide +kernel
theorem d_Mod_place_154 : decode prog_14_method_27_code 154 = .ok (.iload 4, 2) := by decide +kernel
theorem d_Mod_place_156 : decode prog_14_method_27_code 156 = .ok (.iload_n 3, 1) := by decide +kernel
theorem d_Mod_place_157 : decode prog_14_method_27_code 157 = .ok (.aload 5, 2) := by decide +kernel
theorem d_Mod_place_159 : decode prog_14_method_27_code 159 = .ok (.iconst 0, 1) := by decide +kernel
theorem d_Mod_place_160 : decode prog_14_method_27_code 160 = .ok (.iaload, 1) := by decide +kernel
theorem d_Mod_place_161 : decode prog_14_method_27_code 161 = .ok (.aload 5, 2) := by decide +kernel
theorem d_Mod_place_163 : decode prog_14_method_27_code 163 = .ok (.iconst 1, 1) := by decide +kernel
theorem d_Mod_place_164 : decode prog_14_method_27_code 164 = .ok (.iaload, 1) := by decide +kernel
theorem d_Mod_place_165 : decode prog_14_method_27_code 165 = .ok (.aload 5, 2) := by decide +kernel
theorem d_Mod_place_167 : decode prog_14_method_27_code 167 = .ok (.iconst 2, 1) := by decide +kernel
theorem d_Mod_place_168 : decode prog_14_method_27_code 168 = .ok (.iaload, 1) := by decide +kernel
theorem d_Mod_place_169 : decode prog_14_method_27_code 169 = .ok (.aload 5, 2) := by decide +kernel
theorem d_Mod_place_171 : decode prog_14_method_27_code 171 = .ok (.iconst 3, 1) := by decide +kernel
theorem d_Mod_place_172 : decode prog_14_method_27_code 172 = .ok (.iaload, 1) := by decide +kernel
theorem d_Mod_place_173 : decode prog_14_method_27_code 173 = .ok (.invokevirtual 356, 3) := by decide +kernel
theorem d_Mod_place_176 : decode prog_14_method_27_code 176 = .ok (.istore 6, 2) := by decide +kernel
theorem d_Mod_place_178 : decode prog_14_method_27_code 178 = .ok (.aload_n 0, 1) := by decide +kernel
theorem d_Mod_place_179 : decode prog_14_method_27_code 179 = .ok (.getfield 75, 3) := by decide +kernel
theorem d_Mod_place_182 : decode prog_14_method_27_code 182 = .ok (.iconst 3, 1) := by decide +kernel
theorem d_Mod_place_183 : decode prog_14_method_27_code 183 = .ok (.iload 6, 2) := by decide +kernel
theorem d_Mod_place_185 : decode prog_14_method_27_code 185 = .ok (.iadd, 1) := by decide +kernel
theorem d_Mod_place_186 : decode prog_14_method_27_code 186 = .ok (.dup2, 1) := by decide +kernel
theorem d_Mod_place_187 : decode prog_14_method_27_code 187 = .ok (.iaload, 1) := by decide +kernel
theorem d_Mod_place_188 : decode prog_14_method_27_code 188 = .ok (.iconst 1, 1) := by decide +kernel
theorem d_Mod_place_189 : decode prog_14_method_27_code 189 = .ok (.iadd, 1) := by decide +kernel
theorem d_Mod_place_190 : decode prog_14_method_27_code 190 = .ok (.iastore, 1) := by decide +kernel
theorem d_Mod_place_191 : decode prog_14_method_27_code 191 = .ok (.iload 6, 2) := by decide +kernel
theorem d_Mod_place_193 : decode prog_14_method_27_code 193 = .ok (.iconst 3, 1) := by decide +kernel
theorem d_Mod_place_194 : decode prog_14_method_27_code 194 = .ok (.if_icmp .ne 29, 3) := by decide +kernel
theorem d_Mod_place_197 : decode prog_14_method_27_code 197 = .ok (.aload_n 0, 1) := by decide +kernel
theorem d_Mod_place_198 : decode prog_14_method_27_code 198 = .ok (.getfield 19, 3) := by decide +kernel
theorem d_Mod_place_201 : decode prog_14_method_27_code 201 = .ok (.getfield 359, 3) := by decide +kernel
theorem d_Mod_place_204 : decode prog_14_method_27_code 204 = .ok (.ifCond .lt 19, 3) := by decide +kernel
theorem d_Mod_place_207 : decode prog_14_method_27_code 207 = .ok (.aload_n 0, 1) := by decide +kernel
theorem d_Mod_place_208 : decode prog_14_method_27_code 208 = .ok (.getfield 72, 3) := by decide +kernel
theorem d_Mod_place_211 : decode prog_14_method_27_code 211 = .ok (.aload_n 0, 1) := by decide +kernel
theorem d_Mod_place_212 : decode prog_14_method_27_code 212 = .ok (.getfield 19, 3) := by decide +kernel
theorem d_Mod_place_215 : decode prog_14_method_27_code 215 = .ok (.getfield 359, 3) := by decide +kernel
theorem d_Mod_place_218 : decode prog_14_method_27_code 218 = .ok (.dup2, 1) := by decide +kernel
theorem d_Mod_place_219 : decode prog_14_method_27_code 219 = .ok (.iaload, 1) := by decide +kernel
theorem d_Mod_place_220 : decode prog_14_method_27_code 220 = .ok (.iconst 1, 1) := by decide +kernel
theorem d_Mod_place_221 : decode prog_14_method_27_code 221 = .ok (.iadd, 1) := by decide +kernel
theorem d_Mod_place_222 : decode prog_14_method_27_code 222 = .ok (.iastore, 1) := by decide +kernel
theorem d_Mod_place_223 : decode prog_14_method_27_code 223 = .ok (.return_, 1) := by decide +kernel
def F_Mod_place_223 (σ : Sg) : Option (Sg) := some σ
set_option maxRecDepth 10000 in
set_option maxHeartbeats 4000000 in
theorem bt_Mod_place_223 {p : Program} {l : Launch} {e : Env} {R : Room} {s : State} {m : MethodId} {args : Array Value} {below : List Frame} {meth : Method} {c : Code} {D : va_G} {τ : ClassId × ClassId × ClassId} {B : Nat} {A : Nat → Prop} {ad : Nat → Nat} (E : Cx p R s m args meth c prog_14_method_27_code 7 "DrawingMachineModel" 13 D τ B A) (hret : meth.sig.returnType = none) (o : Sg) (σ : Sg) (h : F_Mod_place_223 σ = some o) {H : Heap} {locs : List Loc} {ls : Array Slot} (w : Wd s D A (wdM τ σ ad) H locs) (hl : lv_has ls 7 []) : W p l e R s m args below meth c H locs 0 0 (QV below args s A D τ (wdM τ o ad)) (F0 m 223 ls []) := by
  obtain rfl := Option.some.inj h
  exact rt_v E w hret d_Mod_place_223
def L_Mod_place_78 : Nat → Sg → Int32 → Int32 → Int32 → Int32 → Int32 → Option (Sg)
  | 0, _, _, _, _, _, _ => none
  | n + 1, σ, v1, v2, v3, v4, v5 => if 28 ≤ v5 then (bd (F_Shm_run σ 1) (fun o22 => if (o22.1.1 51) = 0 then (bd (F_Ptm_draw o22.1 v1 v2 v4 v3 (o22.1.2.2.1 28 0) (o22.1.2.2.1 28 1) (o22.1.2.2.1 28 2) (o22.1.2.2.1 28 3)) (fun o23 => lt (3 + o23.2) (fun y24 => ck (inb y24 9) (ck (inb y24 9) (lt (sA o23.1 56 (upd (o23.1.2.2.1 56) y24.toNatClampNeg ((o23.1.2.2.1 56 y24.toNatClampNeg) + 1))) (fun σ27 => if o23.2 = 3 then (if (σ27.1 18) < 0 then (F_Mod_place_223 σ27) else (lt (σ27.1 18) (fun y28 => ck (inb y28 8) (ck (inb y28 8) (lt (sA σ27 55 (upd (σ27.2.2.1 55) y28.toNatClampNeg ((σ27.2.2.1 55 y28.toNatClampNeg) + 1))) (fun σ31 => F_Mod_place_223 σ31)))))) else (F_Mod_place_223 σ27))))))) else (lt (sA o22.1 56 (upd (o22.1.2.2.1 56) 7 ((o22.1.2.2.1 56 7) + 1))) (fun σ32 => some σ32)))) else (bd (F_Mod_value σ v5) (fun o33 => ck (inb (4 + v5) 32) (lt (sA σ 27 (upd (σ.2.2.1 27) (4 + v5).toNatClampNeg o33)) (fun σ35 => lt (v5 + 1) (fun y36 => L_Mod_place_78 n σ35 v1 v2 v3 v4 y36)))))
set_option maxRecDepth 10000 in
set_option maxHeartbeats 4000000 in
theorem lt_Mod_place_78 {p : Program} {l : Launch} {e : Env} {R : Room} {s : State} {m : MethodId} {args : Array Value} {below : List Frame} {meth : Method} {c : Code} {D : va_G} {τ : ClassId × ClassId × ClassId} {B : Nat} {A : Nat → Prop} {ad : Nat → Nat} (E : Cx p R s m args meth c prog_14_method_27_code 7 "DrawingMachineModel" 13 D τ B A) (hret : meth.sig.returnType = none) (o : Sg) : ∀ (n : Nat) (σ : Sg) (v1 : Int32) (v2 : Int32) (v3 : Int32) (v4 : Int32) (v5 : Int32) (H : Heap) (locs : List Loc) (ls : Array Slot), L_Mod_place_78 n σ v1 v2 v3 v4 v5 = some o → Wd s D A (wdM τ σ ad) H locs → lv_has ls 7 [(0, .ref (ad 59)), (1, .int v1), (2, .int v2), (3, .int v3), (4, .int v4), (5, .int v5)] → W p l e R s m args below meth c H locs 0 0 (QV below args s A D τ (wdM τ o ad)) (F0 m 78 ls []) := by
  intro n
  induction n with
  | zero =>
    intro σ v1 v2 v3 v4 v5 H locs ls h w hl
    cases h
  | succ n hr_78 =>
    intro σ v1 v2 v3 v4 v5 H locs ls h w hl
    refine lv_iload E.x E.b d_Mod_place_78 (lv_at hl 5 rfl) ?_
    refine lv_bipush (v := 28) E.x E.b d_Mod_place_80 (by decide) ?_
    refine lv_icmp_ge (tgt := 109) E.x E.b d_Mod_place_82 (by decide) (fun c => ?_) (fun c => ?_)
    ·
      replace h := ifT c h
      refine lv_aload_n E.x E.b d_Mod_place_109 rfl (lv_at hl 0 rfl) ?_
      refine gM_Mod_places E w k1771 d_Mod_place_110 ?_
      refine wr_e (v := ad (65 + 1)) rfl ?_
      obtain ⟨o22, h_o22, h⟩ := bd_some h
      refine clV_Shm_run E w (p0 := 1) h_o22 k2194 (by decide) hl.1 (Nat.le_of_ble_eq_true rfl) d_Mod_place_113 (fun H locs w => ?_)
      refine lv_pop E.x E.b d_Mod_place_116 rfl ?_
      refine lv_aload_n E.x E.b d_Mod_place_117 rfl (lv_at hl 0 rfl) ?_
      refine gM_Mod_places E w k1771 d_Mod_place_118 ?_
      refine wr_e (v := ad (65 + 1)) rfl ?_
      refine gNM_Shm_killed E w (pid := 1) (by decide) n1573 d_Mod_place_121 ?_
      refine lv_if_eq (tgt := 139) E.x E.b d_Mod_place_124 (by decide) (fun c => ?_) (fun c => ?_)
      ·
        replace h := ifT c h
        refine lv_aload_n E.x E.b d_Mod_place_139 rfl (lv_at hl 0 rfl) ?_
        refine gM_Mod_places E w k1771 d_Mod_place_140 ?_
        refine wr_e (v := ad (65 + 1)) rfl ?_
        refine gNM_Shm_outs E w (pid := 1) (by decide) n1568 d_Mod_place_143 ?_
        refine lv_astore (lv' := [(5, .ref (ad 28)), (0, .ref (ad 59)), (1, .int v1), (2, .int v2), (3, .int v3), (4, .int v4)]) E.x E.b d_Mod_place_146 hl (by decide) rfl (fun ls hl => ?_)
        refine lv_aload_n E.x E.b d_Mod_place_148 rfl (lv_at hl 1 rfl) ?_
        refine gM_Mod_tests E w k1774 d_Mod_place_149 ?_
        refine lv_iload_n E.x E.b d_Mod_place_152 rfl (lv_at hl 2 rfl) ?_
        refine lv_iload_n E.x E.b d_Mod_place_153 rfl (lv_at hl 3 rfl) ?_
        refine lv_iload E.x E.b d_Mod_place_154 (lv_at hl 5 rfl) ?_
        refine lv_iload_n E.x E.b d_Mod_place_156 rfl (lv_at hl 4 rfl) ?_
        refine lv_aload E.x E.b d_Mod_place_157 (lv_at hl 0 rfl) ?_
        refine lv_iconst (v := 0) E.x E.b d_Mod_place_159 (by decide) ?_
        refine ialM E w (k := 28) (by decide) (show inb 0 32 by decide) d_Mod_place_160 ?_
        refine wi_e (v := o22.1.2.2.1 28 0) rfl ?_
        refine lv_aload E.x E.b d_Mod_place_161 (lv_at hl 0 rfl) ?_
        refine lv_iconst (v := 1) E.x E.b d_Mod_place_163 (by decide) ?_
        refine ialM E w (k := 28) (by decide) (show inb 1 32 by decide) d_Mod_place_164 ?_
        refine wi_e (v := o22.1.2.2.1 28 1) rfl ?_
        refine lv_aload E.x E.b d_Mod_place_165 (lv_at hl 0 rfl) ?_
        refine lv_iconst (v := 2) E.x E.b d_Mod_place_167 (by decide) ?_
        refine ialM E w (k := 28) (by decide) (show inb 2 32 by decide) d_Mod_place_168 ?_
        refine wi_e (v := o22.1.2.2.1 28 2) rfl ?_
        refine lv_aload E.x E.b d_Mod_place_169 (lv_at hl 0 rfl) ?_
        refine lv_iconst (v := 3) E.x E.b d_Mod_place_171 (by decide) ?_
        refine ialM E w (k := 28) (by decide) (show inb 3 32 by decide) d_Mod_place_172 ?_
        refine wi_e (v := o22.1.2.2.1 28 3) rfl ?_
        obtain ⟨o23, h_o23, h⟩ := bd_some h
        refine clV_Ptm_draw E w (x0 := v1) (x1 := v2) (x2 := v4) (x3 := v3) (x4 := (o22.1.2.2.1 28 0)) (x5 := (o22.1.2.2.1 28 1)) (x6 := (o22.1.2.2.1 28 2)) (x7 := (o22.1.2.2.1 28 3)) h_o23 k2440 (by decide) hl.1 (Nat.le_of_ble_eq_true rfl) d_Mod_place_173 (fun H locs w => ?_)
        refine lv_istore (lv' := [(6, .int o23.2), (5, .ref (ad 28)), (0, .ref (ad 59)), (1, .int v1), (2, .int v2), (3, .int v3), (4, .int v4)]) E.x E.b d_Mod_place_176 hl (by decide) rfl (fun ls hl => ?_)
        refine lv_aload_n E.x E.b d_Mod_place_178 rfl (lv_at hl 2 rfl) ?_
        refine gM_Mod_counts E w k1781 d_Mod_place_179 ?_
        refine lv_iconst (v := 3) E.x E.b d_Mod_place_182 (by decide) ?_
        refine lv_iload E.x E.b d_Mod_place_183 (lv_at hl 0 rfl) ?_
        refine lv_iadd E.x E.b d_Mod_place_185 ?_
        obtain ⟨y24, e_y24, h⟩ := lt_some h
        refine wi_e (v := y24) e_y24 ?_
        refine lv_dup2_11 E.x E.b d_Mod_place_186 rfl rfl ?_
        obtain ⟨c25, h⟩ := ck_some h
        refine ialM E w (k := 56) (by decide) c25 d_Mod_place_187 ?_
        refine lv_iconst (v := 1) E.x E.b d_Mod_place_188 (by decide) ?_
        refine lv_iadd E.x E.b d_Mod_place_189 ?_
        obtain ⟨c26, h⟩ := ck_some h
        obtain ⟨σ27, e_σ27, h⟩ := lt_some h
        refine iasM E w (k := 56) (by decide) c26 e_σ27 d_Mod_place_190 (fun H locs w => ?_)
        refine lv_iload E.x E.b d_Mod_place_191 (lv_at hl 0 rfl) ?_
        refine lv_iconst (v := 3) E.x E.b d_Mod_place_193 (by decide) ?_
        refine lv_icmp_ne (tgt := 223) E.x E.b d_Mod_place_194 (by decide) (fun c => ?_) (fun c => ?_)
        ·
          replace h := ifF c h
          exact bt_Mod_place_223 E hret o σ27 h w (lv_sub hl [] rfl)
        ·
          replace h := ifT c h
          refine lv_aload_n E.x E.b d_Mod_place_197 rfl (lv_at hl 2 rfl) ?_
          refine gM_Mod_commands E w k1768 d_Mod_place_198 ?_
          refine gNM_Cmd_query E w n1463 d_Mod_place_201 ?_
          refine lv_if_lt (tgt := 223) E.x E.b d_Mod_place_204 (by decide) (fun c => ?_) (fun c => ?_)
          ·
            replace h := ifT c h
            exact bt_Mod_place_223 E hret o σ27 h w (lv_sub hl [] rfl)
          ·
            replace h := ifF c h
            refine lv_aload_n E.x E.b d_Mod_place_207 rfl (lv_at hl 2 rfl) ?_
            refine gM_Mod_queries E w k1780 d_Mod_place_208 ?_
            refine lv_aload_n E.x E.b d_Mod_place_211 rfl (lv_at hl 2 rfl) ?_
            refine gM_Mod_commands E w k1768 d_Mod_place_212 ?_
            refine gNM_Cmd_query E w n1463 d_Mod_place_215 ?_
            obtain ⟨y28, e_y28, h⟩ := lt_some h
            refine wi_e (v := y28) e_y28 ?_
            refine lv_dup2_11 E.x E.b d_Mod_place_218 rfl rfl ?_
            obtain ⟨c29, h⟩ := ck_some h
            refine ialM E w (k := 55) (by decide) c29 d_Mod_place_219 ?_
            refine lv_iconst (v := 1) E.x E.b d_Mod_place_220 (by decide) ?_
            refine lv_iadd E.x E.b d_Mod_place_221 ?_
            obtain ⟨c30, h⟩ := ck_some h
            obtain ⟨σ31, e_σ31, h⟩ := lt_some h
            refine iasM E w (k := 55) (by decide) c30 e_σ31 d_Mod_place_222 (fun H locs w => ?_)
            exact bt_Mod_place_223 E hret o σ31 h w (lv_sub hl [] rfl)
      ·
        replace h := ifF c h
        refine lv_aload_n E.x E.b d_Mod_place_127 rfl (lv_at hl 0 rfl) ?_
        refine gM_Mod_counts E w k1781 d_Mod_place_128 ?_
        refine lv_bipush (v := 7) E.x E.b d_Mod_place_131 (by decide) ?_
        refine lv_dup2_11 E.x E.b d_Mod_place_133 rfl rfl ?_
        refine ialM E w (k := 56) (by decide) (show inb 7 9 by decide) d_Mod_place_134 ?_
        refine wi_e (v := o22.1.2.2.1 56 7) rfl ?_
        refine lv_iconst (v := 1) E.x E.b d_Mod_place_135 (by decide) ?_
        refine lv_iadd E.x E.b d_Mod_place_136 ?_
        obtain ⟨σ32, e_σ32, h⟩ := lt_some h
        refine iasM E w (k := 56) (by decide) (show inb 7 9 by decide) e_σ32 d_Mod_place_137 (fun H locs w => ?_)
        obtain rfl := Option.some.inj h
        exact rt_v E w hret d_Mod_place_138
    ·
      replace h := ifF c h
      refine lv_aload_n E.x E.b d_Mod_place_85 rfl (lv_at hl 0 rfl) ?_
      refine gM_Mod_places E w k1771 d_Mod_place_86 ?_
      refine wr_e (v := ad (65 + 1)) rfl ?_
      refine gNM_Shm_ins E w (pid := 1) (by decide) n1566 d_Mod_place_89 ?_
      refine lv_iconst (v := 4) E.x E.b d_Mod_place_92 (by decide) ?_
      refine lv_iload E.x E.b d_Mod_place_93 (lv_at hl 5 rfl) ?_
      refine lv_iadd E.x E.b d_Mod_place_95 ?_
      refine lv_aload_n E.x E.b d_Mod_place_96 rfl (lv_at hl 0 rfl) ?_
      refine lv_iload E.x E.b d_Mod_place_97 (lv_at hl 5 rfl) ?_
      obtain ⟨o33, h_o33, h⟩ := bd_some h
      refine clV_Mod_value E w (x0 := v5) h_o33 k2433 (by decide) hl.1 (Nat.le_of_ble_eq_true rfl) d_Mod_place_99 (fun H locs w => ?_)
      obtain ⟨c34, h⟩ := ck_some h
      obtain ⟨σ35, e_σ35, h⟩ := lt_some h
      refine iasM E w (k := 27) (by decide) c34 e_σ35 d_Mod_place_102 (fun H locs w => ?_)
      obtain ⟨y36, e_y36, h⟩ := lt_some h
      refine lv_iinc (v := y36) (lv' := [(5, .int y36), (0, .ref (ad 59)), (1, .int v1), (2, .int v2), (3, .int v3), (4, .int v4)]) E.x E.b d_Mod_place_103 hl (k := 5) rfl (e_y36) (by decide) rfl (fun ls hl => ?_)
      refine lv_goto (tgt := 78) E.x E.b d_Mod_place_106 (by decide) ?_
      exact hr_78 σ35 v1 v2 v3 v4 y36 _ _ _ h w (lv_sub hl [1, 2, 3, 4, 5, 0] rfl)
def F_Mod_place_74 (σ : Sg) (v1 : Int32) (v2 : Int32) (v3 : Int32) (v4 : Int32) (s1 : Int32) (s2 : Int32) : Option (Sg) := ck (inb s1 32) (lt (sA σ 27 (upd (σ.2.2.1 27) s1.toNatClampNeg s2)) (fun σ38 => L_Mod_place_78 100000 σ38 v1 v2 v3 v4 0))
set_option maxRecDepth 10000 in
set_option maxHeartbeats 4000000 in
theorem bt_Mod_place_74 {p : Program} {l : Launch} {e : Env} {R : Room} {s : State} {m : MethodId} {args : Array Value} {below : List Frame} {meth : Method} {c : Code} {D : va_G} {τ : ClassId × ClassId × ClassId} {B : Nat} {A : Nat → Prop} {ad : Nat → Nat} (E : Cx p R s m args meth c prog_14_method_27_code 7 "DrawingMachineModel" 13 D τ B A) (hret : meth.sig.returnType = none) (o : Sg) (σ : Sg) (v1 : Int32) (v2 : Int32) (v3 : Int32) (v4 : Int32) (s1 : Int32) (s2 : Int32) (h : F_Mod_place_74 σ v1 v2 v3 v4 s1 s2 = some o) {H : Heap} {locs : List Loc} {ls : Array Slot} (w : Wd s D A (wdM τ σ ad) H locs) (hl : lv_has ls 7 [(0, .ref (ad 59)), (1, .int v1), (2, .int v2), (3, .int v3), (4, .int v4)]) : W p l e R s m args below meth c H locs 0 0 (QV below args s A D τ (wdM τ o ad)) (F0 m 74 ls [.int s2, .int s1, .ref (ad 27)]) := by
  obtain ⟨c37, h⟩ := ck_some h
  obtain ⟨σ38, e_σ38, h⟩ := lt_some h
  refine iasM E w (k := 27) (by decide) c37 e_σ38 d_Mod_place_74 (fun H locs w => ?_)
  refine lv_iconst (v := 0) E.x E.b d_Mod_place_75 (by decide) ?_
  refine lv_istore (lv' := [(5, .int 0), (0, .ref (ad 59)), (1, .int v1), (2, .int v2), (3, .int v3), (4, .int v4)]) E.x E.b d_Mod_place_76 hl (by decide) rfl (fun ls hl => ?_)
  exact lt_Mod_place_78 E hret o 100000 σ38 v1 v2 v3 v4 0 _ _ _ h w (lv_sub hl [1, 2, 3, 4, 5, 0] rfl)
def F_Mod_place (σ : Sg) (x0 : Int32) (x1 : Int32) (x2 : Int32) : Option (Sg) := bd (F_Mod_share σ x0 x1) (fun o39 => lt (sA o39.1 27 (upd (o39.1.2.2.1 27) 0 ((65536 * x0) + 32768))) (fun σ40 => lt (sA σ40 27 (upd (σ40.2.2.1 27) 1 ((65536 * x1) + 32768))) (fun σ41 => lt (sA σ41 27 (upd (σ41.2.2.1 27) 2 o39.2)) (fun σ42 => if x2 = 0 then (F_Mod_place_74 σ42 x0 x1 x2 o39.2 3 65536) else (F_Mod_place_74 σ42 x0 x1 x2 o39.2 3 0)))))
set_option maxRecDepth 10000 in
set_option maxHeartbeats 4000000 in
theorem c_Mod_place (l : Launch) (D : va_G) (τ : ClassId × ClassId × ClassId) (B : Nat) (σ : Sg) (ad : Nat → Nat) (x0 : Int32) (x1 : Int32) (x2 : Int32) (o : Sg) (h : F_Mod_place σ x0 x1 x2 = some o) : MV l y_Mod_place (Cond.code y_Mod_place prog_14_method_27_code 7 none) 13 D τ B [.ref (ad 59), .int x0, .int x1, .int x2] (wdM τ σ ad) (wdM τ o ad) := by
  refine en_v (by decide) (Nat.le_of_ble_eq_true rfl) ?_
  intro p e R s m args below meth c H locs ls A E hret w hl
  have E : Cx p R s m args meth c prog_14_method_27_code 7 "DrawingMachineModel" 13 D τ B A := E
  have hl : lv_has ls 7 [(0, .ref (ad 59)), (1, .int x0), (2, .int x1), (3, .int x2)] := hl
  refine lv_aload_n E.x E.b d_Mod_place_0 rfl (lv_at hl 0 rfl) ?_
  refine lv_iload_n E.x E.b d_Mod_place_1 rfl (lv_at hl 1 rfl) ?_
  refine lv_iload_n E.x E.b d_Mod_place_2 rfl (lv_at hl 2 rfl) ?_
  obtain ⟨o39, h_o39, h⟩ := bd_some h
  refine clV_Mod_share E w (x0 := x0) (x1 := x1) h_o39 k2424 (by decide) hl.1 (Nat.le_of_ble_eq_true rfl) d_Mod_place_3 (fun H locs w => ?_)
  refine lv_istore (lv' := [(4, .int o39.2), (0, .ref (ad 59)), (1, .int x0), (2, .int x1), (3, .int x2)]) E.x E.b d_Mod_place_6 hl (by decide) rfl (fun ls hl => ?_)
  refine lv_aload_n E.x E.b d_Mod_place_8 rfl (lv_at hl 1 rfl) ?_
  refine gM_Mod_places E w k1771 d_Mod_place_9 ?_
  refine wr_e (v := ad (65 + 1)) rfl ?_
  refine gNM_Shm_ins E w (pid := 1) (by decide) n1566 d_Mod_place_12 ?_
  refine lv_iconst (v := 0) E.x E.b d_Mod_place_15 (by decide) ?_
  refine lv_ldcw (v := 65536) E.x E.b E.o (E.w _ k2431) d_Mod_place_16 ?_
  refine lv_iload_n E.x E.b d_Mod_place_19 rfl (lv_at hl 2 rfl) ?_
  refine lv_imul E.x E.b d_Mod_place_20 ?_
  refine lv_ldcw (v := 32768) E.x E.b E.o (E.w _ k2432) d_Mod_place_21 ?_
  refine lv_iadd E.x E.b d_Mod_place_24 ?_
  obtain ⟨σ40, e_σ40, h⟩ := lt_some h
  refine iasM E w (k := 27) (by decide) (show inb 0 32 by decide) e_σ40 d_Mod_place_25 (fun H locs w => ?_)
  refine lv_aload_n E.x E.b d_Mod_place_26 rfl (lv_at hl 1 rfl) ?_
  refine gM_Mod_places E w k1771 d_Mod_place_27 ?_
  refine wr_e (v := ad (65 + 1)) rfl ?_
  refine gNM_Shm_ins E w (pid := 1) (by decide) n1566 d_Mod_place_30 ?_
  refine lv_iconst (v := 1) E.x E.b d_Mod_place_33 (by decide) ?_
  refine lv_ldcw (v := 65536) E.x E.b E.o (E.w _ k2431) d_Mod_place_34 ?_
  refine lv_iload_n E.x E.b d_Mod_place_37 rfl (lv_at hl 3 rfl) ?_
  refine lv_imul E.x E.b d_Mod_place_38 ?_
  refine lv_ldcw (v := 32768) E.x E.b E.o (E.w _ k2432) d_Mod_place_39 ?_
  refine lv_iadd E.x E.b d_Mod_place_42 ?_
  obtain ⟨σ41, e_σ41, h⟩ := lt_some h
  refine iasM E w (k := 27) (by decide) (show inb 1 32 by decide) e_σ41 d_Mod_place_43 (fun H locs w => ?_)
  refine lv_aload_n E.x E.b d_Mod_place_44 rfl (lv_at hl 1 rfl) ?_
  refine gM_Mod_places E w k1771 d_Mod_place_45 ?_
  refine wr_e (v := ad (65 + 1)) rfl ?_
  refine gNM_Shm_ins E w (pid := 1) (by decide) n1566 d_Mod_place_48 ?_
  refine lv_iconst (v := 2) E.x E.b d_Mod_place_51 (by decide) ?_
  refine lv_iload E.x E.b d_Mod_place_52 (lv_at hl 0 rfl) ?_
  obtain ⟨σ42, e_σ42, h⟩ := lt_some h
  refine iasM E w (k := 27) (by decide) (show inb 2 32 by decide) e_σ42 d_Mod_place_54 (fun H locs w => ?_)
  refine lv_aload_n E.x E.b d_Mod_place_55 rfl (lv_at hl 1 rfl) ?_
  refine gM_Mod_places E w k1771 d_Mod_place_56 ?_
  refine wr_e (v := ad (65 + 1)) rfl ?_
  refine gNM_Shm_ins E w (pid := 1) (by decide) n1566 d_Mod_place_59 ?_
  refine lv_iconst (v := 3) E.x E.b d_Mod_place_62 (by decide) ?_
  refine lv_iload_n E.x E.b d_Mod_place_63 rfl (lv_at hl 4 rfl) ?_
  refine lv_if_ne (tgt := 73) E.x E.b d_Mod_place_64 (by decide) (fun c => ?_) (fun c => ?_)
  ·
    replace h := ifF c h
    refine lv_iconst (v := 0) E.x E.b d_Mod_place_73 (by decide) ?_
    exact bt_Mod_place_74 E hret o σ42 x0 x1 x2 o39.2 3 0 h w (lv_sub hl [1, 2, 3, 4, 0] rfl)
  ·
    replace h := ifT c h
    refine lv_ldcw (v := 65536) E.x E.b E.o (E.w _ k2431) d_Mod_place_67 ?_
    refine lv_goto (tgt := 74) E.x E.b d_Mod_place_70 (by decide) ?_
    exact bt_Mod_place_74 E hret o σ42 x0 x1 x2 o39.2 3 65536 h w (lv_sub hl [1, 2, 3, 4, 0] rfl)
theorem clV_Mod_place {p : Program} {l : Launch} {e : Env} {R : Room} {s : State} {m : MethodId} {args : Array Value} {below : List Frame} {meth : Method} {c : Code} {H : Heap} {locs : List Loc} {Q : State → Prop} {cc : ByteArray} {nL pc lev : Nat} {own : String} {D : va_G} {τ : ClassId × ClassId × ClassId} {B : Nat} {A : Nat → Prop} {σ : Sg} {ad : Nat → Nat} {ls : Array Slot} {rest : List Value} (E : Cx p R s m args meth c cc nL own lev D τ B A) (w : Wd s D A (wdM τ σ ad) H locs) {x0 : Int32} {x1 : Int32} {x2 : Int32} {o : Sg} (h : F_Mod_place σ x0 x1 x2 = some o) {index : Nat} (hlk : Cond.methodLink own index y_Mod_place ∈ tw) (hlev : 13 < lev) (hsz : ls.size = nL) (hr : (rest.map fun v => v.category).sum ≤ 8) (hd : decode cc pc = .ok (.invokevirtual index, 3)) (kk : ∀ (H1 : Heap) (locs1 : List Loc), Wd s D A (wdM τ o ad) H1 locs1 → W p l e R s m args below meth c H1 locs1 0 0 Q (F0 m (pc + 3) ls (rest))) : W p l e R s m args below meth c H locs 0 0 Q (F0 m pc ls (.int x2 :: .int x1 :: .int x0 :: .ref (ad 59) :: rest)) :=
  cr_v w E.C (va_runV (As := [.int x0, .int x1, .int x2]) (rest := rest) E.fix (c_Mod_place l D τ B σ ad x0 x1 x2 o h H.size) (cwV 3 E.w (tw_pre (tw_good k2423) (l := [_, _, _, _]) (List.forall_mem_cons.mpr ⟨hlk, List.forall_mem_cons.mpr ⟨k2422, List.forall_mem_cons.mpr ⟨ks107, List.forall_mem_cons.mpr ⟨k14, fun _ h => absurd h List.not_mem_nil⟩⟩⟩⟩)) rfl rfl rfl (by decide +kernel) (E.rm hlev (by decide))) (wd_preV w E.C [.int x0, .int x1, .int x2] rcM_Mod rfl) rfl rfl hsz rfl (lv_room hr) hd ⟨Nat.zero_le _, Nat.zero_le _⟩) kk

theorem d_Erm_in_0 : decode prog_16_method_3_code 0 = .ok (.iload_n 0, 1) := by decide +kernel
theorem d_Erm_in_1 : decode prog_16_method_3_code 1 = .ok (.iload_n 1, 1) := by decide +kernel
theorem d_Erm_in_2 : decode prog_16_method_3_code 2 = .ok (.if_icmp .lt 12, 3) := by decide +kernel
theorem d_Erm_in_5 : decode prog_16_method_3_code 5 = .ok (.iload_n 0, 1) := by decide +kernel
theorem d_Erm_in_6 : decode prog_16_method_3_code 6 = .ok (.iload_n 2, 1) := by decide +kernel
theorem d_Erm_in_7 : decode prog_16_method_3_code 7 = .ok (.if_icmp .gt 7, 3) := by decide +kernel
theorem d_Erm_in_10 : decode prog_16_method_3_code 10 = .ok (.iconst 1, 1) := by decide +kernel
theorem d_Erm_in_11 : decode prog_16_method_3_code 11 = .ok (.goto 4, 3) := by decide +kernel
theorem d_Erm_in_14 : decode prog_16_method_3_code 14 = .ok (.iconst 0, 1) := by decide +kernel
theorem d_Erm_in_15 : decode prog_16_method_3_code 15 = .ok (.ireturn, 1) := by decide +kernel
def F_Erm_in_15  (s0 : Int32) : Option (Int32) := ck (s0 = 0 ∨ s0 = 1) (some s0)
set_option maxRecDepth 10000 in
set_option maxHeartbeats 4000000 in
theorem bt_Erm_in_15 {p : Program} {l : Launch} {e : Env} {R : Room} {s : State} {m : MethodId} {args : Array Value} {below : List Frame} {meth : Method} {c : Code} {D : va_G} {τ : ClassId × ClassId × ClassId} {B : Nat} {A : Nat → Prop} {ad : Nat → Nat} {σ0 : Sg} (E : Cx p R s m args meth c prog_16_method_3_code 3 "DrawingMachineModel$EdgeRasterModel" 0 D τ B A) (hret : meth.sig.returnType = (some .boolean)) (o : Int32) (s0 : Int32) (h : F_Erm_in_15 s0 = some o) {H : Heap} {locs : List Loc} {ls : Array Slot} (w : Wd s D A (wdM τ σ0 ad) H locs) (hl : lv_has ls 3 []) : W p l e R s m args below meth c H locs 0 0 (QI below args s A D τ (wdM τ σ0 ad) o) (F0 m 15 ls [.int s0]) := by
  obtain ⟨c2, h⟩ := ck_some h
  obtain rfl := Option.some.inj h
  exact rt_z E w hret c2 d_Erm_in_15
def F_Erm_in_14  : Option (Int32) := F_Erm_in_15 0
set_option maxRecDepth 10000 in
set_option maxHeartbeats 4000000 in
theorem bt_Erm_in_14 {p : Program} {l : Launch} {e : Env} {R : Room} {s : State} {m : MethodId} {args : Array Value} {below : List Frame} {meth : Method} {c : Code} {D : va_G} {τ : ClassId × ClassId × ClassId} {B : Nat} {A : Nat → Prop} {ad : Nat → Nat} {σ0 : Sg} (E : Cx p R s m args meth c prog_16_method_3_code 3 "DrawingMachineModel$EdgeRasterModel" 0 D τ B A) (hret : meth.sig.returnType = (some .boolean)) (o : Int32) (h : F_Erm_in_14 = some o) {H : Heap} {locs : List Loc} {ls : Array Slot} (w : Wd s D A (wdM τ σ0 ad) H locs) (hl : lv_has ls 3 []) : W p l e R s m args below meth c H locs 0 0 (QI below args s A D τ (wdM τ σ0 ad) o) (F0 m 14 ls []) := by
  refine lv_iconst (v := 0) E.x E.b d_Erm_in_14 (by decide) ?_
  exact bt_Erm_in_15 E hret o 0 h w (lv_sub hl [] rfl)
def F_Erm_in  (x0 : Int32) (x1 : Int32) (x2 : Int32) : Option (Int32) := if x0 < x1 then (F_Erm_in_14) else (if x2 < x0 then (F_Erm_in_14) else (F_Erm_in_15 1))
set_option maxRecDepth 10000 in
set_option maxHeartbeats 4000000 in
theorem c_Erm_in (l : Launch) (D : va_G) (τ : ClassId × ClassId × ClassId) (B : Nat) (σ0 : Sg) (ad : Nat → Nat) (x0 : Int32) (x1 : Int32) (x2 : Int32) (o : Int32) (h : F_Erm_in x0 x1 x2 = some o) : MI l y_Erm_in (Cond.code y_Erm_in prog_16_method_3_code 3 (some .boolean)) 0 D τ B [.int x0, .int x1, .int x2] (wdM τ σ0 ad) (wdM τ σ0 ad) o := by
  refine en_i (by decide) (Nat.le_of_ble_eq_true rfl) ?_
  intro p e R s m args below meth c H locs ls A E hret w hl
  have E : Cx p R s m args meth c prog_16_method_3_code 3 "DrawingMachineModel$EdgeRasterModel" 0 D τ B A := E
  have hl : lv_has ls 3 [(0, .int x0), (1, .int x1), (2, .int x2)] := hl
  refine lv_iload_n E.x E.b d_Erm_in_0 rfl (lv_at hl 0 rfl) ?_
  refine lv_iload_n E.x E.b d_Erm_in_1 rfl (lv_at hl 1 rfl) ?_
  refine lv_icmp_lt (tgt := 14) E.x E.b d_Erm_in_2 (by decide) (fun c => ?_) (fun c => ?_)
  ·
    replace h := ifT c h
    exact bt_Erm_in_14 E hret o h w (lv_sub hl [] rfl)
  ·
    replace h := ifF c h
    refine lv_iload_n E.x E.b d_Erm_in_5 rfl (lv_at hl 0 rfl) ?_
    refine lv_iload_n E.x E.b d_Erm_in_6 rfl (lv_at hl 2 rfl) ?_
    refine lv_icmp_gt (tgt := 14) E.x E.b d_Erm_in_7 (by decide) (fun c => ?_) (fun c => ?_)
    ·
      replace h := ifT c h
      exact bt_Erm_in_14 E hret o h w (lv_sub hl [] rfl)
    ·
      replace h := ifF c h
      refine lv_iconst (v := 1) E.x E.b d_Erm_in_10 (by decide) ?_
      refine lv_goto (tgt := 15) E.x E.b d_Erm_in_11 (by decide) ?_
      exact bt_Erm_in_15 E hret o 1 h w (lv_sub hl [] rfl)
theorem clS_Erm_in {p : Program} {l : Launch} {e : Env} {R : Room} {s : State} {m : MethodId} {args : Array Value} {below : List Frame} {meth : Method} {c : Code} {H : Heap} {locs : List Loc} {Q : State → Prop} {cc : ByteArray} {nL pc lev : Nat} {own : String} {D : va_G} {τ : ClassId × ClassId × ClassId} {B : Nat} {A : Nat → Prop} {σ : Sg} {ad : Nat → Nat} {ls : Array Slot} {rest : List Value} (E : Cx p R s m args meth c cc nL own lev D τ B A) (w : Wd s D A (wdM τ σ ad) H locs) {x0 : Int32} {x1 : Int32} {x2 : Int32} {o : Int32} (h : F_Erm_in x0 x1 x2 = some o) {index : Nat} (hlk : Cond.methodLink own index y_Erm_in ∈ tw) (hlev : 0 < lev) (hsz : ls.size = nL) (hr : (rest.map fun v => v.category).sum ≤ 8) (hd : decode cc pc = .ok (.invokestatic index, 3)) (kk : ∀ (H1 : Heap) (locs1 : List Loc), Wd s D A (wdM τ σ ad) H1 locs1 → W p l e R s m args below meth c H1 locs1 0 0 Q (F0 m (pc + 3) ls (.int o :: rest))) : W p l e R s m args below meth c H locs 0 0 Q (F0 m pc ls (.int x2 :: .int x1 :: .int x0 :: rest)) :=
  cr_i w E.C (va_runS (As := [.int x0, .int x1, .int x2]) (rest := rest) E.fix (c_Erm_in l D τ B σ ad x0 x1 x2 o h H.size) (va_cwS 3 E.w (tw_pre (tw_good k2376) (l := [_, _, _]) (List.forall_mem_cons.mpr ⟨hlk, List.forall_mem_cons.mpr ⟨k2375, List.forall_mem_cons.mpr ⟨k19, fun _ h => absurd h List.not_mem_nil⟩⟩⟩)) rfl rfl rfl (by decide +kernel) (E.rm hlev (by decide))) (wd_pre w E.C [.int x0, .int x1, .int x2]) rfl rfl hsz rfl (lv_room hr) hd ⟨Nat.zero_le _, Nat.zero_le _⟩) kk

theorem d_Erm_refuse_0 : decode prog_16_method_2_code 0 = .ok (.aload_n 0, 1) := by decide +kernel
theorem d_Erm_refuse_1 : decode prog_16_method_2_code 1 = .ok (.iload_n 1, 1) := by decide +kernel
theorem d_Erm_refuse_2 : decode prog_16_method_2_code 2 = .ok (.ifCond .eq 7, 3) := by decide +kernel
theorem d_Erm_refuse_5 : decode prog_16_method_2_code 5 = .ok (.iconst 1, 1) := by decide +kernel
theorem d_Erm_refuse_6 : decode prog_16_method_2_code 6 = .ok (.goto 12, 3) := by decide +kernel
theorem d_Erm_refuse_9 : decode prog_16_method_2_code 9 = .ok (.iload_n 2, 1) := by decide +kernel
theorem d_Erm_refuse_10 : decode prog_16_method_2_code 10 = .ok (.ifCond .eq 7, 3) := by decide +kernel
theorem d_Erm_refuse_13 : decode prog_16_method_2_code 13 = .ok (.iconst 2, 1) := by decide +kernel
theorem d_Erm_refuse_14 : decode prog_16_method_2_code 14 = .ok (.goto 4, 3) := by decide +kernel
theorem d_Erm_refuse_17 : decode prog_16_method_2_code 17 = .ok (.iconst 0, 1) := by decide +kernel
theorem d_Erm_refuse_18 : decode prog_16_method_2_code 18 = .ok (.putfield 25, 3) := by decide +kernel
theorem d_Erm_refuse_21 : decode prog_16_method_2_code 21 = .ok (.aload_n 0, 1) := by decide +kernel
theorem d_Erm_refuse_22 : decode prog_16_method_2_code 22 = .ok (.getfield 25, 3) := by decide +kernel
theorem d_Erm_refuse_25 : decode prog_16_method_2_code 25 = .ok (.ifCond .le 7, 3) := by decide +kernel
theorem d_Erm_refuse_28 : decode prog_16_method_2_code 28 = .ok (.iconst 1, 1) := by decide +kernel
theorem d_Erm_refuse_29 : decode prog_16_method_2_code 29 = .ok (.goto 4, 3) := by decide +kernel
theorem d_Erm_refuse_32 : decode prog_16_method_2_code 32 = .ok (.iconst 0, 1) := by decide +kernel
theorem d_Erm_refuse_33 : decode prog_16_method_2_code 33 = .ok (.ireturn, 1) := by decide +kernel
def F_Erm_refuse_33 (σ : Sg) (s0 : Int32) : Option (Sg × Int32) := ck (s0 = 0 ∨ s0 = 1) (some (σ, s0))
set_option maxRecDepth 10000 in
set_option maxHeartbeats 4000000 in
theorem bt_Erm_refuse_33 {p : Program} {l : Launch} {e : Env} {R : Room} {s : State} {m : MethodId} {args : Array Value} {below : List Frame} {meth : Method} {c : Code} {D : va_G} {τ : ClassId × ClassId × ClassId} {B : Nat} {A : Nat → Prop} {ad : Nat → Nat} (E : Cx p R s m args meth c prog_16_method_2_code 3 "DrawingMachineModel$EdgeRasterModel" 0 D τ B A) (hret : meth.sig.returnType = (some .boolean)) (o : Sg × Int32) (σ : Sg) (s0 : Int32) (h : F_Erm_refuse_33 σ s0 = some o) {H : Heap} {locs : List Loc} {ls : Array Slot} (w : Wd s D A (wdM τ σ ad) H locs) (hl : lv_has ls 3 []) : W p l e R s m args below meth c H locs 0 0 (QI below args s A D τ (wdM τ o.1 ad) o.2) (F0 m 33 ls [.int s0]) := by
  obtain ⟨c3, h⟩ := ck_some h
  obtain rfl := Option.some.inj h
  exact rt_z E w hret c3 d_Erm_refuse_33
def F_Erm_refuse_18 (σ : Sg) (s1 : Int32) : Option (Sg × Int32) := lt (sI σ 27 s1) (fun σ4 => if (σ4.1 27) ≤ 0 then (F_Erm_refuse_33 σ4 0) else (F_Erm_refuse_33 σ4 1))
set_option maxRecDepth 10000 in
set_option maxHeartbeats 4000000 in
theorem bt_Erm_refuse_18 {p : Program} {l : Launch} {e : Env} {R : Room} {s : State} {m : MethodId} {args : Array Value} {below : List Frame} {meth : Method} {c : Code} {D : va_G} {τ : ClassId × ClassId × ClassId} {B : Nat} {A : Nat → Prop} {ad : Nat → Nat} (E : Cx p R s m args meth c prog_16_method_2_code 3 "DrawingMachineModel$EdgeRasterModel" 0 D τ B A) (hret : meth.sig.returnType = (some .boolean)) (o : Sg × Int32) (σ : Sg) (s1 : Int32) (h : F_Erm_refuse_18 σ s1 = some o) {H : Heap} {locs : List Loc} {ls : Array Slot} (w : Wd s D A (wdM τ σ ad) H locs) (hl : lv_has ls 3 [(0, .ref (ad 63))]) : W p l e R s m args below meth c H locs 0 0 (QI below args s A D τ (wdM τ o.1 ad) o.2) (F0 m 18 ls [.int s1, .ref (ad 63)]) := by
  obtain ⟨σ4, e_σ4, h⟩ := lt_some h
  refine pM_Erm_thrown E w k1667 e_σ4 d_Erm_refuse_18 (fun H locs w => ?_)
  refine lv_aload_n E.x E.b d_Erm_refuse_21 rfl (lv_at hl 0 rfl) ?_
  refine gM_Erm_thrown E w k1667 d_Erm_refuse_22 ?_
  refine lv_if_le (tgt := 32) E.x E.b d_Erm_refuse_25 (by decide) (fun c => ?_) (fun c => ?_)
  ·
    replace h := ifT c h
    refine lv_iconst (v := 0) E.x E.b d_Erm_refuse_32 (by decide) ?_
    exact bt_Erm_refuse_33 E hret o σ4 0 h w (lv_sub hl [] rfl)
  ·
    replace h := ifF c h
    refine lv_iconst (v := 1) E.x E.b d_Erm_refuse_28 (by decide) ?_
    refine lv_goto (tgt := 33) E.x E.b d_Erm_refuse_29 (by decide) ?_
    exact bt_Erm_refuse_33 E hret o σ4 1 h w (lv_sub hl [] rfl)
def F_Erm_refuse (σ : Sg) (x0 : Int32) (x1 : Int32) : Option (Sg × Int32) := if x0 = 0 then (if x1 = 0 then (F_Erm_refuse_18 σ 0) else (F_Erm_refuse_18 σ 2)) else (F_Erm_refuse_18 σ 1)
set_option maxRecDepth 10000 in
set_option maxHeartbeats 4000000 in
theorem c_Erm_refuse (l : Launch) (D : va_G) (τ : ClassId × ClassId × ClassId) (B : Nat) (σ : Sg) (ad : Nat → Nat) (x0 : Int32) (x1 : Int32) (o : Sg × Int32) (h : F_Erm_refuse σ x0 x1 = some o) : MI l y_Erm_refuse (Cond.code y_Erm_refuse prog_16_method_2_code 3 (some .boolean)) 0 D τ B [.ref (ad 63), .int x0, .int x1] (wdM τ σ ad) (wdM τ o.1 ad) o.2 := by
  refine en_i (by decide) (Nat.le_of_ble_eq_true rfl) ?_
  intro p e R s m args below meth c H locs ls A E hret w hl
  have E : Cx p R s m args meth c prog_16_method_2_code 3 "DrawingMachineModel$EdgeRasterModel" 0 D τ B A := E
  have hl : lv_has ls 3 [(0, .ref (ad 63)), (1, .int x0), (2, .int x1)] := hl
  refine lv_aload_n E.x E.b d_Erm_refuse_0 rfl (lv_at hl 0 rfl) ?_
  refine lv_iload_n E.x E.b d_Erm_refuse_1 rfl (lv_at hl 1 rfl) ?_
  refine lv_if_eq (tgt := 9) E.x E.b d_Erm_refuse_2 (by decide) (fun c => ?_) (fun c => ?_)
  ·
    replace h := ifT c h
    refine lv_iload_n E.x E.b d_Erm_refuse_9 rfl (lv_at hl 2 rfl) ?_
    refine lv_if_eq (tgt := 17) E.x E.b d_Erm_refuse_10 (by decide) (fun c => ?_) (fun c => ?_)
    ·
      replace h := ifT c h
      refine lv_iconst (v := 0) E.x E.b d_Erm_refuse_17 (by decide) ?_
      exact bt_Erm_refuse_18 E hret o σ 0 h w (lv_sub hl [0] rfl)
    ·
      replace h := ifF c h
      refine lv_iconst (v := 2) E.x E.b d_Erm_refuse_13 (by decide) ?_
      refine lv_goto (tgt := 18) E.x E.b d_Erm_refuse_14 (by decide) ?_
      exact bt_Erm_refuse_18 E hret o σ 2 h w (lv_sub hl [0] rfl)
  ·
    replace h := ifF c h
    refine lv_iconst (v := 1) E.x E.b d_Erm_refuse_5 (by decide) ?_
    refine lv_goto (tgt := 18) E.x E.b d_Erm_refuse_6 (by decide) ?_
    exact bt_Erm_refuse_18 E hret o σ 1 h w (lv_sub hl [0] rfl)
theorem clV_Erm_refuse {p : Program} {l : Launch} {e : Env} {R : Room} {s : State} {m : MethodId} {args : Array Value} {below : List Frame} {meth : Method} {c : Code} {H : Heap} {locs : List Loc} {Q : State → Prop} {cc : ByteArray} {nL pc lev : Nat} {own : String} {D : va_G} {τ : ClassId × ClassId × ClassId} {B : Nat} {A : Nat → Prop} {σ : Sg} {ad : Nat → Nat} {ls : Array Slot} {rest : List Value} (E : Cx p R s m args meth c cc nL own lev D τ B A) (w : Wd s D A (wdM τ σ ad) H locs) {x0 : Int32} {x1 : Int32} {o : Sg × Int32} (h : F_Erm_refuse σ x0 x1 = some o) {index : Nat} (hlk : Cond.methodLink own index y_Erm_refuse ∈ tw) (hlev : 0 < lev) (hsz : ls.size = nL) (hr : (rest.map fun v => v.category).sum ≤ 8) (hd : decode cc pc = .ok (.invokevirtual index, 3)) (kk : ∀ (H1 : Heap) (locs1 : List Loc), Wd s D A (wdM τ o.1 ad) H1 locs1 → W p l e R s m args below meth c H1 locs1 0 0 Q (F0 m (pc + 3) ls (.int o.2 :: rest))) : W p l e R s m args below meth c H locs 0 0 Q (F0 m pc ls (.int x1 :: .int x0 :: .ref (ad 63) :: rest)) :=
  cr_i w E.C (va_runV (As := [.int x0, .int x1]) (rest := rest) E.fix (c_Erm_refuse l D τ B σ ad x0 x1 o h H.size) (cwV 2 E.w (tw_pre (tw_good k2382) (l := [_, _, _, _]) (List.forall_mem_cons.mpr ⟨hlk, List.forall_mem_cons.mpr ⟨k2381, List.forall_mem_cons.mpr ⟨ks100, List.forall_mem_cons.mpr ⟨k19, fun _ h => absurd h List.not_mem_nil⟩⟩⟩⟩)) rfl rfl rfl (by decide +kernel) (E.rm hlev (by decide))) (wd_preV w E.C [.int x0, .int x1] rcM_Erm rfl) rfl rfl hsz rfl (lv_room hr) hd ⟨Nat.zero_le _, Nat.zero_le _⟩) kk

theorem d_Erm_corner_0 : decode prog_16_method_4_code 0 = .ok (.iload_n 1, 1) := by decide +kernel
theorem d_Erm_corner_1 : decode prog_16_method_4_code 1 = .ok (.iconst 0, 1) := by decide +kernel
theorem d_Erm_corner_2 : decode prog_16_method_4_code 2 = .ok (.iconst 2, 1) := by decide +kernel
theorem d_Erm_corner_3 : decode prog_16_method_4_code 3 = .ok (.invokestatic 29, 3) := by decide +kernel
theorem d_Erm_corner_6 : decode prog_16_method_4_code 6 = .ok (.ifCond .eq 55, 3) := by decide +kernel
theorem d_Erm_corner_9 : decode prog_16_method_4_code 9 = .ok (.iload_n 2, 1) := by decide +kernel
theorem d_Erm_corner_10 : decode prog_16_method_4_code 10 = .ok (.sipush (-16384), 3) := by decide +kernel
theorem d_Erm_corner_13 : decode prog_16_method_4_code 13 = .ok (.sipush 16383, 3) := by decide +kernel
theorem d_Erm_corner_16 : decode prog_16_method_4_code 16 = .ok (.invokestatic 29, 3) := by decide +kernel
theorem d_Erm_corner_19 : decode prog_16_method_4_code 19 = .ok (.ifCond .eq 42, 3) := by decide +kernel
theorem d_Erm_corner_22 : decode prog_16_method_4_code 22 = .ok (.iload_n 3, 1) := by decide +kernel
theorem d_Erm_corner_23 : decode prog_16_method_4_code 23 = .ok (.sipush (-16384), 3) := by decide +kernel
theorem d_Erm_corner_26 : decode prog_16_method_4_code 26 = .ok (.sipush 16383, 3) := by decide +kernel
theorem d_Erm_corner_29 : decode prog_16_method_4_code 29 = .ok (.invokestatic 29, 3) := by decide +kernel
theorem d_Erm_corner_32 : decode prog_16_method_4_code 32 = .ok (.ifCond .eq 29, 3) := by decide +kernel
theorem d_Erm_corner_35 : decode prog_16_method_4_code 35 = .ok (.iload 4, 2) := by decide +kernel
theorem d_Erm_corner_37 : decode prog_16_method_4_code 37 = .ok (.iconst 0, 1) := by decide +kernel
theorem d_Erm_corner_38 : decode prog_16_method_4_code 38 = .ok (.ldc 33, 2) := by decide +kernel
theorem d_Erm_corner_40 : decode prog_16_method_4_code 40 = .ok (.invokestatic 29, 3) := by decide +kernel
theorem d_Erm_corner_43 : decode prog_16_method_4_code 43 = .ok (.ifCond .eq 18, 3) := by decide +kernel
theorem d_Erm_corner_46 : decode prog_16_method_4_code 46 = .ok (.iload 5, 2) := by decide +kernel
theorem d_Erm_corner_48 : decode prog_16_method_4_code 48 = .ok (.iconst 1, 1) := by decide +kernel
theorem d_Erm_corner_49 : decode prog_16_method_4_code 49 = .ok (.ldc 34, 2) := by decide +kernel
theorem d_Erm_corner_51 : decode prog_16_method_4_code 51 = .ok (.invokestatic 29, 3) := by decide +kernel
theorem d_Erm_corner_54 : decode prog_16_method_4_code 54 = .ok (.ifCond .eq 7, 3) := by decide +kernel
theorem d_Erm_corner_57 : decode prog_16_method_4_code 57 = .ok (.iconst 1, 1) := by decide +kernel
theorem d_Erm_corner_58 : decode prog_16_method_4_code 58 = .ok (.goto 4, 3) := by decide +kernel
theorem d_Erm_corner_61 : decode prog_16_method_4_code 61 = .ok (.iconst 0, 1) := by decide +kernel
theorem d_Erm_corner_62 : decode prog_16_method_4_code 62 = .ok (.istore 6, 2) := by decide +kernel
theorem d_Erm_corner_64 : decode prog_16_method_4_code 64 = .ok (.aload_n 0, 1) := by decide +kernel
theorem d_Erm_corner_65 : decode prog_16_method_4_code 65 = .ok (.iload 6, 2) := by decide +kernel
theorem d_Erm_corner_67 : decode prog_16_method_4_code 67 = .ok (.ifCond .ne 7, 3) := by decide +kernel
theorem d_Erm_corner_70 : decode prog_16_method_4_code 70 = .ok (.iconst 1, 1) := by decide +kernel
theorem d_Erm_corner_71 : decode prog_16_method_4_code 71 = .ok (.goto 4, 3) := by decide +kernel
theorem d_Erm_corner_74 : decode prog_16_method_4_code 74 = .ok (.iconst 0, 1) := by decide +kernel
theorem d_Erm_corner_75 : decode prog_16_method_4_code 75 = .ok (.iconst 0, 1) := by decide +kernel
theorem d_Erm_corner_76 : decode prog_16_method_4_code 76 = .ok (.invokevirtual 35, 3) := by decide +kernel
theorem d_Erm_corner_79 : decode prog_16_method_4_code 79 = .ok (.ifCond .eq 4, 3) := by decide +kernel
theorem d_Erm_corner_82 : decode prog_16_method_4_code 82 = .ok (.return_, 1) := by decide +kernel
theorem d_Erm_corner_83 : decode prog_16_method_4_code 83 = .ok (.aload_n 0, 1) := by decide +kernel
theorem d_Erm_corner_84 : decode prog_16_method_4_code 84 = .ok (.getfield 7, 3) := by decide +kernel
theorem d_Erm_corner_87 : decode prog_16_method_4_code 87 = .ok (.iload_n 1, 1) := by decide +kernel
theorem d_Erm_corner_88 : decode prog_16_method_4_code 88 = .ok (.iload_n 2, 1) := by decide +kernel
theorem d_Erm_corner_89 : decode prog_16_method_4_code 89 = .ok (.iastore, 1) := by decide +kernel
theorem d_Erm_corner_90 : decode prog_16_method_4_code 90 = .ok (.aload_n 0, 1) := by decide +kernel
theorem d_Erm_corner_91 : decode prog_16_method_4_code 91 = .ok (.getfield 13, 3) := by decide +kernel
theorem d_Erm_corner_94 : decode prog_16_method_4_code 94 = .ok (.iload_n 1, 1) := by decide +kernel
theorem d_Erm_corner_95 : decode prog_16_method_4_code 95 = .ok (.iload_n 3, 1) := by decide +kernel
theorem d_Erm_corner_96 : decode prog_16_method_4_code 96 = .ok (.iastore, 1) := by decide +kernel
theorem d_Erm_corner_97 : decode prog_16_method_4_code 97 = .ok (.aload_n 0, 1) := by decide +kernel
theorem d_Erm_corner_98 : decode prog_16_method_4_code 98 = .ok (.getfield 16, 3) := by decide +kernel
theorem d_Erm_corner_101 : decode prog_16_method_4_code 101 = .ok (.iload_n 1, 1) := by decide +kernel
theorem d_Erm_corner_102 : decode prog_16_method_4_code 102 = .ok (.iload 4, 2) := by decide +kernel
theorem d_Erm_corner_104 : decode prog_16_method_4_code 104 = .ok (.iastore, 1) := by decide +kernel
theorem d_Erm_corner_105 : decode prog_16_method_4_code 105 = .ok (.aload_n 0, 1) := by decide +kernel
theorem d_Erm_corner_106 : decode prog_16_method_4_code 106 = .ok (.getfield 19, 3) := by decide +kernel
theorem d_Erm_corner_109 : decode prog_16_method_4_code 109 = .ok (.iload_n 1, 1) := by decide +kernel
theorem d_Erm_corner_110 : decode prog_16_method_4_code 110 = .ok (.iload 5, 2) := by decide +kernel
theorem d_Erm_corner_112 : decode prog_16_method_4_code 112 = .ok (.iastore, 1) := by decide +kernel
theorem d_Erm_corner_113 : decode prog_16_method_4_code 113 = .ok (.return_, 1) := by decide +kernel
def F_Erm_corner_75 (σ : Sg) (v1 : Int32) (v2 : Int32) (v3 : Int32) (v4 : Int32) (v5 : Int32) (s1 : Int32) : Option (Sg) := bd (F_Erm_refuse σ s1 0) (fun o15 => if o15.2 = 0 then (ck (inb v1 3) (lt (sA o15.1 40 (upd (o15.1.2.2.1 40) v1.toNatClampNeg v2)) (fun σ17 => ck (inb v1 3) (lt (sA σ17 41 (upd (σ17.2.2.1 41) v1.toNatClampNeg v3)) (fun σ19 => ck (inb v1 3) (lt (sA σ19 42 (upd (σ19.2.2.1 42) v1.toNatClampNeg v4)) (fun σ21 => ck (inb v1 3) (lt (sA σ21 43 (upd (σ21.2.2.1 43) v1.toNatClampNeg v5)) (fun σ23 => some σ23))))))))) else (some o15.1))
set_option maxRecDepth 10000 in
set_option maxHeartbeats 4000000 in
theorem bt_Erm_corner_75 {p : Program} {l : Launch} {e : Env} {R : Room} {s : State} {m : MethodId} {args : Array Value} {below : List Frame} {meth : Method} {c : Code} {D : va_G} {τ : ClassId × ClassId × ClassId} {B : Nat} {A : Nat → Prop} {ad : Nat → Nat} (E : Cx p R s m args meth c prog_16_method_4_code 7 "DrawingMachineModel$EdgeRasterModel" 1 D τ B A) (hret : meth.sig.returnType = none) (o : Sg) (σ : Sg) (v1 : Int32) (v2 : Int32) (v3 : Int32) (v4 : Int32) (v5 : Int32) (s1 : Int32) (h : F_Erm_corner_75 σ v1 v2 v3 v4 v5 s1 = some o) {H : Heap} {locs : List Loc} {ls : Array Slot} (w : Wd s D A (wdM τ σ ad) H locs) (hl : lv_has ls 7 [(0, .ref (ad 63)), (1, .int v1), (2, .int v2), (3, .int v3), (4, .int v4), (5, .int v5)]) : W p l e R s m args below meth c H locs 0 0 (QV below args s A D τ (wdM τ o ad)) (F0 m 75 ls [.int s1, .ref (ad 63)]) := by
  refine lv_iconst (v := 0) E.x E.b d_Erm_corner_75 (by decide) ?_
  obtain ⟨o15, h_o15, h⟩ := bd_some h
  refine clV_Erm_refuse E w (x0 := s1) (x1 := 0) h_o15 k2379 (by decide) hl.1 (Nat.le_of_ble_eq_true rfl) d_Erm_corner_76 (fun H locs w => ?_)
  refine lv_if_eq (tgt := 83) E.x E.b d_Erm_corner_79 (by decide) (fun c => ?_) (fun c => ?_)
  ·
    replace h := ifT c h
    refine lv_aload_n E.x E.b d_Erm_corner_83 rfl (lv_at hl 0 rfl) ?_
    refine gM_Erm_cornerX E w k1668 d_Erm_corner_84 ?_
    refine lv_iload_n E.x E.b d_Erm_corner_87 rfl (lv_at hl 1 rfl) ?_
    refine lv_iload_n E.x E.b d_Erm_corner_88 rfl (lv_at hl 2 rfl) ?_
    obtain ⟨c16, h⟩ := ck_some h
    obtain ⟨σ17, e_σ17, h⟩ := lt_some h
    refine iasM E w (k := 40) (by decide) c16 e_σ17 d_Erm_corner_89 (fun H locs w => ?_)
    refine lv_aload_n E.x E.b d_Erm_corner_90 rfl (lv_at hl 0 rfl) ?_
    refine gM_Erm_cornerY E w k1670 d_Erm_corner_91 ?_
    refine lv_iload_n E.x E.b d_Erm_corner_94 rfl (lv_at hl 1 rfl) ?_
    refine lv_iload_n E.x E.b d_Erm_corner_95 rfl (lv_at hl 3 rfl) ?_
    obtain ⟨c18, h⟩ := ck_some h
    obtain ⟨σ19, e_σ19, h⟩ := lt_some h
    refine iasM E w (k := 41) (by decide) c18 e_σ19 d_Erm_corner_96 (fun H locs w => ?_)
    refine lv_aload_n E.x E.b d_Erm_corner_97 rfl (lv_at hl 0 rfl) ?_
    refine gM_Erm_depths E w k1672 d_Erm_corner_98 ?_
    refine lv_iload_n E.x E.b d_Erm_corner_101 rfl (lv_at hl 1 rfl) ?_
    refine lv_iload E.x E.b d_Erm_corner_102 (lv_at hl 4 rfl) ?_
    obtain ⟨c20, h⟩ := ck_some h
    obtain ⟨σ21, e_σ21, h⟩ := lt_some h
    refine iasM E w (k := 42) (by decide) c20 e_σ21 d_Erm_corner_104 (fun H locs w => ?_)
    refine lv_aload_n E.x E.b d_Erm_corner_105 rfl (lv_at hl 0 rfl) ?_
    refine gM_Erm_nearness E w k1674 d_Erm_corner_106 ?_
    refine lv_iload_n E.x E.b d_Erm_corner_109 rfl (lv_at hl 1 rfl) ?_
    refine lv_iload E.x E.b d_Erm_corner_110 (lv_at hl 5 rfl) ?_
    obtain ⟨c22, h⟩ := ck_some h
    obtain ⟨σ23, e_σ23, h⟩ := lt_some h
    refine iasM E w (k := 43) (by decide) c22 e_σ23 d_Erm_corner_112 (fun H locs w => ?_)
    obtain rfl := Option.some.inj h
    exact rt_v E w hret d_Erm_corner_113
  ·
    replace h := ifF c h
    obtain rfl := Option.some.inj h
    exact rt_v E w hret d_Erm_corner_82
def F_Erm_corner_62 (σ : Sg) (v1 : Int32) (v2 : Int32) (v3 : Int32) (v4 : Int32) (v5 : Int32) (s0 : Int32) : Option (Sg) := if s0 = 0 then (F_Erm_corner_75 σ v1 v2 v3 v4 v5 1) else (F_Erm_corner_75 σ v1 v2 v3 v4 v5 0)
set_option maxRecDepth 10000 in
set_option maxHeartbeats 4000000 in
theorem bt_Erm_corner_62 {p : Program} {l : Launch} {e : Env} {R : Room} {s : State} {m : MethodId} {args : Array Value} {below : List Frame} {meth : Method} {c : Code} {D : va_G} {τ : ClassId × ClassId × ClassId} {B : Nat} {A : Nat → Prop} {ad : Nat → Nat} (E : Cx p R s m args meth c prog_16_method_4_code 7 "DrawingMachineModel$EdgeRasterModel" 1 D τ B A) (hret : meth.sig.returnType = none) (o : Sg) (σ : Sg) (v1 : Int32) (v2 : Int32) (v3 : Int32) (v4 : Int32) (v5 : Int32) (s0 : Int32) (h : F_Erm_corner_62 σ v1 v2 v3 v4 v5 s0 = some o) {H : Heap} {locs : List Loc} {ls : Array Slot} (w : Wd s D A (wdM τ σ ad) H locs) (hl : lv_has ls 7 [(0, .ref (ad 63)), (1, .int v1), (2, .int v2), (3, .int v3), (4, .int v4), (5, .int v5)]) : W p l e R s m args below meth c H locs 0 0 (QV below args s A D τ (wdM τ o ad)) (F0 m 62 ls [.int s0]) := by
  refine lv_istore (lv' := [(6, .int s0), (0, .ref (ad 63)), (1, .int v1), (2, .int v2), (3, .int v3), (4, .int v4), (5, .int v5)]) E.x E.b d_Erm_corner_62 hl (by decide) rfl (fun ls hl => ?_)
  refine lv_aload_n E.x E.b d_Erm_corner_64 rfl (lv_at hl 1 rfl) ?_
  refine lv_iload E.x E.b d_Erm_corner_65 (lv_at hl 0 rfl) ?_
  refine lv_if_ne (tgt := 74) E.x E.b d_Erm_corner_67 (by decide) (fun c => ?_) (fun c => ?_)
  ·
    replace h := ifF c h
    refine lv_iconst (v := 0) E.x E.b d_Erm_corner_74 (by decide) ?_
    exact bt_Erm_corner_75 E hret o σ v1 v2 v3 v4 v5 0 h w (lv_sub hl [1, 2, 3, 4, 5, 6] rfl)
  ·
    replace h := ifT c h
    refine lv_iconst (v := 1) E.x E.b d_Erm_corner_70 (by decide) ?_
    refine lv_goto (tgt := 75) E.x E.b d_Erm_corner_71 (by decide) ?_
    exact bt_Erm_corner_75 E hret o σ v1 v2 v3 v4 v5 1 h w (lv_sub hl [1, 2, 3, 4, 5, 6] rfl)
def F_Erm_corner_61 (σ : Sg) (v1 : Int32) (v2 : Int32) (v3 : Int32) (v4 : Int32) (v5 : Int32) : Option (Sg) := F_Erm_corner_62 σ v1 v2 v3 v4 v5 0
set_option maxRecDepth 10000 in
set_option maxHeartbeats 4000000 in
theorem bt_Erm_corner_61 {p : Program} {l : Launch} {e : Env} {R : Room} {s : State} {m : MethodId} {args : Array Value} {below : List Frame} {meth : Method} {c : Code} {D : va_G} {τ : ClassId × ClassId × ClassId} {B : Nat} {A : Nat → Prop} {ad : Nat → Nat} (E : Cx p R s m args meth c prog_16_method_4_code 7 "DrawingMachineModel$EdgeRasterModel" 1 D τ B A) (hret : meth.sig.returnType = none) (o : Sg) (σ : Sg) (v1 : Int32) (v2 : Int32) (v3 : Int32) (v4 : Int32) (v5 : Int32) (h : F_Erm_corner_61 σ v1 v2 v3 v4 v5 = some o) {H : Heap} {locs : List Loc} {ls : Array Slot} (w : Wd s D A (wdM τ σ ad) H locs) (hl : lv_has ls 7 [(0, .ref (ad 63)), (1, .int v1), (2, .int v2), (3, .int v3), (4, .int v4), (5, .int v5)]) : W p l e R s m args below meth c H locs 0 0 (QV below args s A D τ (wdM τ o ad)) (F0 m 61 ls []) := by
  refine lv_iconst (v := 0) E.x E.b d_Erm_corner_61 (by decide) ?_
  exact bt_Erm_corner_62 E hret o σ v1 v2 v3 v4 v5 0 h w (lv_sub hl [0, 1, 2, 3, 4, 5] rfl)
def F_Erm_corner (σ : Sg) (x0 : Int32) (x1 : Int32) (x2 : Int32) (x3 : Int32) (x4 : Int32) : Option (Sg) := bd (F_Erm_in x0 0 2) (fun o24 => if o24 = 0 then (F_Erm_corner_61 σ x0 x1 x2 x3 x4) else (bd (F_Erm_in x1 (-16384) 16383) (fun o25 => if o25 = 0 then (F_Erm_corner_61 σ x0 x1 x2 x3 x4) else (bd (F_Erm_in x2 (-16384) 16383) (fun o26 => if o26 = 0 then (F_Erm_corner_61 σ x0 x1 x2 x3 x4) else (bd (F_Erm_in x3 0 16777215) (fun o27 => if o27 = 0 then (F_Erm_corner_61 σ x0 x1 x2 x3 x4) else (bd (F_Erm_in x4 1 8388608) (fun o28 => if o28 = 0 then (F_Erm_corner_61 σ x0 x1 x2 x3 x4) else (F_Erm_corner_62 σ x0 x1 x2 x3 x4 1))))))))))
set_option maxRecDepth 10000 in
set_option maxHeartbeats 4000000 in
theorem c_Erm_corner (l : Launch) (D : va_G) (τ : ClassId × ClassId × ClassId) (B : Nat) (σ : Sg) (ad : Nat → Nat) (x0 : Int32) (x1 : Int32) (x2 : Int32) (x3 : Int32) (x4 : Int32) (o : Sg) (h : F_Erm_corner σ x0 x1 x2 x3 x4 = some o) : MV l y_Erm_corner (Cond.code y_Erm_corner prog_16_method_4_code 7 none) 1 D τ B [.ref (ad 63), .int x0, .int x1, .int x2, .int x3, .int x4] (wdM τ σ ad) (wdM τ o ad) := by
  refine en_v (by decide) (Nat.le_of_ble_eq_true rfl) ?_
  intro p e R s m args below meth c H locs ls A E hret w hl
  have E : Cx p R s m args meth c prog_16_method_4_code 7 "DrawingMachineModel$EdgeRasterModel" 1 D τ B A := E
  have hl : lv_has ls 7 [(0, .ref (ad 63)), (1, .int x0), (2, .int x1), (3, .int x2), (4, .int x3), (5, .int x4)] := hl
  refine lv_iload_n E.x E.b d_Erm_corner_0 rfl (lv_at hl 1 rfl) ?_
  refine lv_iconst (v := 0) E.x E.b d_Erm_corner_1 (by decide) ?_
  refine lv_iconst (v := 2) E.x E.b d_Erm_corner_2 (by decide) ?_
  obtain ⟨o24, h_o24, h⟩ := bd_some h
  refine clS_Erm_in E w (x0 := x0) (x1 := 0) (x2 := 2) h_o24 k2374 (by decide) hl.1 (Nat.le_of_ble_eq_true rfl) d_Erm_corner_3 (fun H locs w => ?_)
  refine lv_if_eq (tgt := 61) E.x E.b d_Erm_corner_6 (by decide) (fun c => ?_) (fun c => ?_)
  ·
    replace h := ifT c h
    exact bt_Erm_corner_61 E hret o σ x0 x1 x2 x3 x4 h w (lv_sub hl [0, 1, 2, 3, 4, 5] rfl)
  ·
    replace h := ifF c h
    refine lv_iload_n E.x E.b d_Erm_corner_9 rfl (lv_at hl 2 rfl) ?_
    refine lv_sipush (v := (-16384)) E.x E.b d_Erm_corner_10 (by decide) ?_
    refine lv_sipush (v := 16383) E.x E.b d_Erm_corner_13 (by decide) ?_
    obtain ⟨o25, h_o25, h⟩ := bd_some h
    refine clS_Erm_in E w (x0 := x1) (x1 := (-16384)) (x2 := 16383) h_o25 k2374 (by decide) hl.1 (Nat.le_of_ble_eq_true rfl) d_Erm_corner_16 (fun H locs w => ?_)
    refine lv_if_eq (tgt := 61) E.x E.b d_Erm_corner_19 (by decide) (fun c => ?_) (fun c => ?_)
    ·
      replace h := ifT c h
      exact bt_Erm_corner_61 E hret o σ x0 x1 x2 x3 x4 h w (lv_sub hl [0, 1, 2, 3, 4, 5] rfl)
    ·
      replace h := ifF c h
      refine lv_iload_n E.x E.b d_Erm_corner_22 rfl (lv_at hl 3 rfl) ?_
      refine lv_sipush (v := (-16384)) E.x E.b d_Erm_corner_23 (by decide) ?_
      refine lv_sipush (v := 16383) E.x E.b d_Erm_corner_26 (by decide) ?_
      obtain ⟨o26, h_o26, h⟩ := bd_some h
      refine clS_Erm_in E w (x0 := x2) (x1 := (-16384)) (x2 := 16383) h_o26 k2374 (by decide) hl.1 (Nat.le_of_ble_eq_true rfl) d_Erm_corner_29 (fun H locs w => ?_)
      refine lv_if_eq (tgt := 61) E.x E.b d_Erm_corner_32 (by decide) (fun c => ?_) (fun c => ?_)
      ·
        replace h := ifT c h
        exact bt_Erm_corner_61 E hret o σ x0 x1 x2 x3 x4 h w (lv_sub hl [0, 1, 2, 3, 4, 5] rfl)
      ·
        replace h := ifF c h
        refine lv_iload E.x E.b d_Erm_corner_35 (lv_at hl 4 rfl) ?_
        refine lv_iconst (v := 0) E.x E.b d_Erm_corner_37 (by decide) ?_
        refine lv_ldc (v := 16777215) E.x E.b E.o (E.w _ k2377) d_Erm_corner_38 ?_
        obtain ⟨o27, h_o27, h⟩ := bd_some h
        refine clS_Erm_in E w (x0 := x3) (x1 := 0) (x2 := 16777215) h_o27 k2374 (by decide) hl.1 (Nat.le_of_ble_eq_true rfl) d_Erm_corner_40 (fun H locs w => ?_)
        refine lv_if_eq (tgt := 61) E.x E.b d_Erm_corner_43 (by decide) (fun c => ?_) (fun c => ?_)
        ·
          replace h := ifT c h
          exact bt_Erm_corner_61 E hret o σ x0 x1 x2 x3 x4 h w (lv_sub hl [0, 1, 2, 3, 4, 5] rfl)
        ·
          replace h := ifF c h
          refine lv_iload E.x E.b d_Erm_corner_46 (lv_at hl 5 rfl) ?_
          refine lv_iconst (v := 1) E.x E.b d_Erm_corner_48 (by decide) ?_
          refine lv_ldc (v := 8388608) E.x E.b E.o (E.w _ k2378) d_Erm_corner_49 ?_
          obtain ⟨o28, h_o28, h⟩ := bd_some h
          refine clS_Erm_in E w (x0 := x4) (x1 := 1) (x2 := 8388608) h_o28 k2374 (by decide) hl.1 (Nat.le_of_ble_eq_true rfl) d_Erm_corner_51 (fun H locs w => ?_)
          refine lv_if_eq (tgt := 61) E.x E.b d_Erm_corner_54 (by decide) (fun c => ?_) (fun c => ?_)
          ·
            replace h := ifT c h
            exact bt_Erm_corner_61 E hret o σ x0 x1 x2 x3 x4 h w (lv_sub hl [0, 1, 2, 3, 4, 5] rfl)
          ·
            replace h := ifF c h
            refine lv_iconst (v := 1) E.x E.b d_Erm_corner_57 (by decide) ?_
            refine lv_goto (tgt := 62) E.x E.b d_Erm_corner_58 (by decide) ?_
            exact bt_Erm_corner_62 E hret o σ x0 x1 x2 x3 x4 1 h w (lv_sub hl [0, 1, 2, 3, 4, 5] rfl)
theorem clV_Erm_corner {p : Program} {l : Launch} {e : Env} {R : Room} {s : State} {m : MethodId} {args : Array Value} {below : List Frame} {meth : Method} {c : Code} {H : Heap} {locs : List Loc} {Q : State → Prop} {cc : ByteArray} {nL pc lev : Nat} {own : String} {D : va_G} {τ : ClassId × ClassId × ClassId} {B : Nat} {A : Nat → Prop} {σ : Sg} {ad : Nat → Nat} {ls : Array Slot} {rest : List Value} (E : Cx p R s m args meth c cc nL own lev D τ B A) (w : Wd s D A (wdM τ σ ad) H locs) {x0 : Int32} {x1 : Int32} {x2 : Int32} {x3 : Int32} {x4 : Int32} {o : Sg} (h : F_Erm_corner σ x0 x1 x2 x3 x4 = some o) {index : Nat} (hlk : Cond.methodLink own index y_Erm_corner ∈ tw) (hlev : 1 < lev) (hsz : ls.size = nL) (hr : (rest.map fun v => v.category).sum ≤ 8) (hd : decode cc pc = .ok (.invokevirtual index, 3)) (kk : ∀ (H1 : Heap) (locs1 : List Loc), Wd s D A (wdM τ o ad) H1 locs1 → W p l e R s m args below meth c H1 locs1 0 0 Q (F0 m (pc + 3) ls (rest))) : W p l e R s m args below meth c H locs 0 0 Q (F0 m pc ls (.int x4 :: .int x3 :: .int x2 :: .int x1 :: .int x0 :: .ref (ad 63) :: rest)) :=
  cr_v w E.C (va_runV (As := [.int x0, .int x1, .int x2, .int x3, .int x4]) (rest := rest) E.fix (c_Erm_corner l D τ B σ ad x0 x1 x2 x3 x4 o h H.size) (cwV 5 E.w (tw_pre (tw_good k2373) (l := [_, _, _, _]) (List.forall_mem_cons.mpr ⟨hlk, List.forall_mem_cons.mpr ⟨k2371, List.forall_mem_cons.mpr ⟨k2372, List.forall_mem_cons.mpr ⟨k19, fun _ h => absurd h List.not_mem_nil⟩⟩⟩⟩)) rfl rfl rfl (by decide +kernel) (E.rm hlev (by decide))) (wd_preV w E.C [.int x0, .int x1, .int x2, .int x3, .int x4] rcM_Erm rfl) rfl rfl hsz rfl (lv_room hr) hd ⟨Nat.zero_le _, Nat.zero_le _⟩) kk
