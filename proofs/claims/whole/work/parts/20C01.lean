theorem d_Chk_targetMayBe_0 : decode prog_2_method_6_code 0 = .ok (.iload_n 0, 1) := by decide +kernel
theorem d_Chk_targetMayBe_1 : decode prog_2_method_6_code 1 = .ok (.bipush 6, 2) := by decide +kernel
theorem d_Chk_targetMayBe_3 : decode prog_2_method_6_code 3 = .ok (.iushr, 1) := by decide +kernel
theorem d_Chk_targetMayBe_4 : decode prog_2_method_6_code 4 = .ok (.iconst 3, 1) := by decide +kernel
theorem d_Chk_targetMayBe_5 : decode prog_2_method_6_code 5 = .ok (.iand, 1) := by decide +kernel
theorem d_Chk_targetMayBe_6 : decode prog_2_method_6_code 6 = .ok (.istore_n 1, 1) := by decide +kernel
theorem d_Chk_targetMayBe_7 : decode prog_2_method_6_code 7 = .ok (.iload_n 0, 1) := by decide +kernel
theorem d_Chk_targetMayBe_8 : decode prog_2_method_6_code 8 = .ok (.bipush 8, 2) := by decide +kernel
theorem d_Chk_targetMayBe_10 : decode prog_2_method_6_code 10 = .ok (.iushr, 1) := by decide +kernel
theorem d_Chk_targetMayBe_11 : decode prog_2_method_6_code 11 = .ok (.bipush 15, 2) := by decide +kernel
theorem d_Chk_targetMayBe_13 : decode prog_2_method_6_code 13 = .ok (.iand, 1) := by decide +kernel
theorem d_Chk_targetMayBe_14 : decode prog_2_method_6_code 14 = .ok (.istore_n 2, 1) := by decide +kernel
theorem d_Chk_targetMayBe_15 : decode prog_2_method_6_code 15 = .ok (.iload_n 0, 1) := by decide +kernel
theorem d_Chk_targetMayBe_16 : decode prog_2_method_6_code 16 = .ok (.bipush 12, 2) := by decide +kernel
theorem d_Chk_targetMayBe_18 : decode prog_2_method_6_code 18 = .ok (.iushr, 1) := by decide +kernel
theorem d_Chk_targetMayBe_19 : decode prog_2_method_6_code 19 = .ok (.bipush 15, 2) := by decide +kernel
theorem d_Chk_targetMayBe_21 : decode prog_2_method_6_code 21 = .ok (.iand, 1) := by decide +kernel
theorem d_Chk_targetMayBe_22 : decode prog_2_method_6_code 22 = .ok (.ifCond .eq 7, 3) := by decide +kernel
theorem d_Chk_targetMayBe_25 : decode prog_2_method_6_code 25 = .ok (.iconst 1, 1) := by decide +kernel
theorem d_Chk_targetMayBe_26 : decode prog_2_method_6_code 26 = .ok (.goto 4, 3) := by decide +kernel
theorem d_Chk_targetMayBe_29 : decode prog_2_method_6_code 29 = .ok (.iconst 0, 1) := by decide +kernel
theorem d_Chk_targetMayBe_30 : decode prog_2_method_6_code 30 = .ok (.istore_n 3, 1) := by decide +kernel
theorem d_Chk_targetMayBe_31 : decode prog_2_method_6_code 31 = .ok (.iload_n 3, 1) := by decide +kernel
theorem d_Chk_targetMayBe_32 : decode prog_2_method_6_code 32 = .ok (.ifCond .eq 22, 3) := by decide +kernel
theorem d_Chk_targetMayBe_35 : decode prog_2_method_6_code 35 = .ok (.iload_n 1, 1) := by decide +kernel
theorem d_Chk_targetMayBe_36 : decode prog_2_method_6_code 36 = .ok (.ifCond .eq 14, 3) := by decide +kernel
theorem d_Chk_targetMayBe_39 : decode prog_2_method_6_code 39 = .ok (.iload_n 1, 1) := by decide +kernel
theorem d_Chk_targetMayBe_40 : decode prog_2_method_6_code 40 = .ok (.iconst 1, 1) := by decide +kernel
theorem d_Chk_targetMayBe_41 : decode prog_2_method_6_code 41 = .ok (.if_icmp .ne 13, 3) := by decide +kernel
theorem d_Chk_targetMayBe_44 : decode prog_2_method_6_code 44 = .ok (.iload_n 2, 1) := by decide +kernel
theorem d_Chk_targetMayBe_45 : decode prog_2_method_6_code 45 = .ok (.bipush 7, 2) := by decide +kernel
theorem d_Chk_targetMayBe_47 : decode prog_2_method_6_code 47 = .ok (.if_icmp .gt 7, 3) := by decide +kernel
theorem d_Chk_targetMayBe_50 : decode prog_2_method_6_code 50 = .ok (.iconst 1, 1) := by decide +kernel
theorem d_Chk_targetMayBe_51 : decode prog_2_method_6_code 51 = .ok (.goto 4, 3) := by decide +kernel
theorem d_Chk_targetMayBe_54 : decode prog_2_method_6_code 54 = .ok (.iconst 0, 1) := by decide +kernel
theorem d_Chk_targetMayBe_55 : decode prog_2_method_6_code 55 = .ok (.ireturn, 1) := by decide +kernel
def F_Chk_targetMayBe_55  (s0 : Int32) : Option (Int32) := ck (s0 = 0 ∨ s0 = 1) (some s0)
set_option maxRecDepth 10000 in
set_option maxHeartbeats 4000000 in
theorem bt_Chk_targetMayBe_55 {p : Program} {l : Launch} {e : Env} {R : Room} {s : State} {m : MethodId} {args : Array Value} {below : List Frame} {meth : Method} {c : Code} {D : va_G} {τ : ClassId × ClassId × ClassId} {B : Nat} {A : Nat → Prop} {ad : Nat → Nat} {σ0 : Sg} (E : Cx p R s m args meth c prog_2_method_6_code 4 "DrawingMachine$Checker" 0 D τ B A) (hret : meth.sig.returnType = (some .boolean)) (o : Int32) (s0 : Int32) (h : F_Chk_targetMayBe_55 s0 = some o) {H : Heap} {locs : List Loc} {ls : Array Slot} (w : Wd s D A (wdC τ σ0 ad) H locs) (hl : lv_has ls 4 []) : W p l e R s m args below meth c H locs 0 0 (QI below args s A D τ (wdC τ σ0 ad) o) (F0 m 55 ls [.int s0]) := by
  obtain ⟨c4, h⟩ := ck_some h
  obtain rfl := Option.some.inj h
  exact rt_z E w hret c4 d_Chk_targetMayBe_55
def F_Chk_targetMayBe_54  : Option (Int32) := F_Chk_targetMayBe_55 0
set_option maxRecDepth 10000 in
set_option maxHeartbeats 4000000 in
theorem bt_Chk_targetMayBe_54 {p : Program} {l : Launch} {e : Env} {R : Room} {s : State} {m : MethodId} {args : Array Value} {below : List Frame} {meth : Method} {c : Code} {D : va_G} {τ : ClassId × ClassId × ClassId} {B : Nat} {A : Nat → Prop} {ad : Nat → Nat} {σ0 : Sg} (E : Cx p R s m args meth c prog_2_method_6_code 4 "DrawingMachine$Checker" 0 D τ B A) (hret : meth.sig.returnType = (some .boolean)) (o : Int32) (h : F_Chk_targetMayBe_54 = some o) {H : Heap} {locs : List Loc} {ls : Array Slot} (w : Wd s D A (wdC τ σ0 ad) H locs) (hl : lv_has ls 4 []) : W p l e R s m args below meth c H locs 0 0 (QI below args s A D τ (wdC τ σ0 ad) o) (F0 m 54 ls []) := by
  refine lv_iconst (v := 0) E.x E.b d_Chk_targetMayBe_54 (by decide) ?_
  exact bt_Chk_targetMayBe_55 E hret o 0 h w (lv_sub hl [] rfl)
def F_Chk_targetMayBe_50  : Option (Int32) := F_Chk_targetMayBe_55 1
set_option maxRecDepth 10000 in
set_option maxHeartbeats 4000000 in
theorem bt_Chk_targetMayBe_50 {p : Program} {l : Launch} {e : Env} {R : Room} {s : State} {m : MethodId} {args : Array Value} {below : List Frame} {meth : Method} {c : Code} {D : va_G} {τ : ClassId × ClassId × ClassId} {B : Nat} {A : Nat → Prop} {ad : Nat → Nat} {σ0 : Sg} (E : Cx p R s m args meth c prog_2_method_6_code 4 "DrawingMachine$Checker" 0 D τ B A) (hret : meth.sig.returnType = (some .boolean)) (o : Int32) (h : F_Chk_targetMayBe_50 = some o) {H : Heap} {locs : List Loc} {ls : Array Slot} (w : Wd s D A (wdC τ σ0 ad) H locs) (hl : lv_has ls 4 []) : W p l e R s m args below meth c H locs 0 0 (QI below args s A D τ (wdC τ σ0 ad) o) (F0 m 50 ls []) := by
  refine lv_iconst (v := 1) E.x E.b d_Chk_targetMayBe_50 (by decide) ?_
  refine lv_goto (tgt := 55) E.x E.b d_Chk_targetMayBe_51 (by decide) ?_
  exact bt_Chk_targetMayBe_55 E hret o 1 h w (lv_sub hl [] rfl)
def F_Chk_targetMayBe_30  (v1 : Int32) (v2 : Int32) (s0 : Int32) : Option (Int32) := if s0 = 0 then (F_Chk_targetMayBe_54) else (if v1 = 0 then (F_Chk_targetMayBe_50) else (if v1 = 1 then (if 7 < v2 then (F_Chk_targetMayBe_54) else (F_Chk_targetMayBe_50)) else (F_Chk_targetMayBe_54)))
set_option maxRecDepth 10000 in
set_option maxHeartbeats 4000000 in
theorem bt_Chk_targetMayBe_30 {p : Program} {l : Launch} {e : Env} {R : Room} {s : State} {m : MethodId} {args : Array Value} {below : List Frame} {meth : Method} {c : Code} {D : va_G} {τ : ClassId × ClassId × ClassId} {B : Nat} {A : Nat → Prop} {ad : Nat → Nat} {σ0 : Sg} (E : Cx p R s m args meth c prog_2_method_6_code 4 "DrawingMachine$Checker" 0 D τ B A) (hret : meth.sig.returnType = (some .boolean)) (o : Int32) (v1 : Int32) (v2 : Int32) (s0 : Int32) (h : F_Chk_targetMayBe_30 v1 v2 s0 = some o) {H : Heap} {locs : List Loc} {ls : Array Slot} (w : Wd s D A (wdC τ σ0 ad) H locs) (hl : lv_has ls 4 [(1, .int v1), (2, .int v2)]) : W p l e R s m args below meth c H locs 0 0 (QI below args s A D τ (wdC τ σ0 ad) o) (F0 m 30 ls [.int s0]) := by
  refine lv_istore_n (lv' := [(3, .int s0), (1, .int v1), (2, .int v2)]) E.x E.b d_Chk_targetMayBe_30 rfl hl (by decide) rfl (fun ls hl => ?_)
  refine lv_iload_n E.x E.b d_Chk_targetMayBe_31 rfl (lv_at hl 0 rfl) ?_
  refine lv_if_eq (tgt := 54) E.x E.b d_Chk_targetMayBe_32 (by decide) (fun c => ?_) (fun c => ?_)
  ·
    replace h := ifT c h
    exact bt_Chk_targetMayBe_54 E hret o h w (lv_sub hl [] rfl)
  ·
    replace h := ifF c h
    refine lv_iload_n E.x E.b d_Chk_targetMayBe_35 rfl (lv_at hl 1 rfl) ?_
    refine lv_if_eq (tgt := 50) E.x E.b d_Chk_targetMayBe_36 (by decide) (fun c => ?_) (fun c => ?_)
    ·
      replace h := ifT c h
      exact bt_Chk_targetMayBe_50 E hret o h w (lv_sub hl [] rfl)
    ·
      replace h := ifF c h
      refine lv_iload_n E.x E.b d_Chk_targetMayBe_39 rfl (lv_at hl 1 rfl) ?_
      refine lv_iconst (v := 1) E.x E.b d_Chk_targetMayBe_40 (by decide) ?_
      refine lv_icmp_ne (tgt := 54) E.x E.b d_Chk_targetMayBe_41 (by decide) (fun c => ?_) (fun c => ?_)
      ·
        replace h := ifF c h
        exact bt_Chk_targetMayBe_54 E hret o h w (lv_sub hl [] rfl)
      ·
        replace h := ifT c h
        refine lv_iload_n E.x E.b d_Chk_targetMayBe_44 rfl (lv_at hl 2 rfl) ?_
        refine lv_bipush (v := 7) E.x E.b d_Chk_targetMayBe_45 (by decide) ?_
        refine lv_icmp_gt (tgt := 54) E.x E.b d_Chk_targetMayBe_47 (by decide) (fun c => ?_) (fun c => ?_)
        ·
          replace h := ifT c h
          exact bt_Chk_targetMayBe_54 E hret o h w (lv_sub hl [] rfl)
        ·
          replace h := ifF c h
          exact bt_Chk_targetMayBe_50 E hret o h w (lv_sub hl [] rfl)
def F_Chk_targetMayBe  (x0 : Int32) : Option (Int32) := lt ((ushr x0 6) &&& 3) (fun y5 => lt ((ushr x0 8) &&& 15) (fun y6 => if ((ushr x0 12) &&& 15) = 0 then (F_Chk_targetMayBe_30 y5 y6 0) else (F_Chk_targetMayBe_30 y5 y6 1)))
set_option maxRecDepth 10000 in
set_option maxHeartbeats 4000000 in
theorem c_Chk_targetMayBe (l : Launch) (D : va_G) (τ : ClassId × ClassId × ClassId) (B : Nat) (σ0 : Sg) (ad : Nat → Nat) (x0 : Int32) (o : Int32) (h : F_Chk_targetMayBe x0 = some o) : MI l y_Chk_targetMayBe (Cond.code y_Chk_targetMayBe prog_2_method_6_code 4 (some .boolean)) 0 D τ B [.int x0] (wdC τ σ0 ad) (wdC τ σ0 ad) o := by
  refine en_i (by decide) (Nat.le_of_ble_eq_true rfl) ?_
  intro p e R s m args below meth c H locs ls A E hret w hl
  have E : Cx p R s m args meth c prog_2_method_6_code 4 "DrawingMachine$Checker" 0 D τ B A := E
  have hl : lv_has ls 4 [(0, .int x0)] := hl
  refine lv_iload_n E.x E.b d_Chk_targetMayBe_0 rfl (lv_at hl 0 rfl) ?_
  refine lv_bipush (v := 6) E.x E.b d_Chk_targetMayBe_1 (by decide) ?_
  refine lv_iushr (v := ushr x0 6) E.x E.b d_Chk_targetMayBe_3 rfl ?_
  refine lv_iconst (v := 3) E.x E.b d_Chk_targetMayBe_4 (by decide) ?_
  refine lv_iand E.x E.b d_Chk_targetMayBe_5 ?_
  obtain ⟨y5, e_y5, h⟩ := lt_some h
  refine wi_e (v := y5) e_y5 ?_
  refine lv_istore_n (lv' := [(1, .int y5), (0, .int x0)]) E.x E.b d_Chk_targetMayBe_6 rfl hl (by decide) rfl (fun ls hl => ?_)
  refine lv_iload_n E.x E.b d_Chk_targetMayBe_7 rfl (lv_at hl 1 rfl) ?_
  refine lv_bipush (v := 8) E.x E.b d_Chk_targetMayBe_8 (by decide) ?_
  refine lv_iushr (v := ushr x0 8) E.x E.b d_Chk_targetMayBe_10 rfl ?_
  refine lv_bipush (v := 15) E.x E.b d_Chk_targetMayBe_11 (by decide) ?_
  refine lv_iand E.x E.b d_Chk_targetMayBe_13 ?_
  obtain ⟨y6, e_y6, h⟩ := lt_some h
  refine wi_e (v := y6) e_y6 ?_
  refine lv_istore_n (lv' := [(2, .int y6), (1, .int y5), (0, .int x0)]) E.x E.b d_Chk_targetMayBe_14 rfl hl (by decide) rfl (fun ls hl => ?_)
  refine lv_iload_n E.x E.b d_Chk_targetMayBe_15 rfl (lv_at hl 2 rfl) ?_
  refine lv_bipush (v := 12) E.x E.b d_Chk_targetMayBe_16 (by decide) ?_
  refine lv_iushr (v := ushr x0 12) E.x E.b d_Chk_targetMayBe_18 rfl ?_
  refine lv_bipush (v := 15) E.x E.b d_Chk_targetMayBe_19 (by decide) ?_
  refine lv_iand E.x E.b d_Chk_targetMayBe_21 ?_
  refine lv_if_eq (tgt := 29) E.x E.b d_Chk_targetMayBe_22 (by decide) (fun c => ?_) (fun c => ?_)
  ·
    replace h := ifT c h
    refine lv_iconst (v := 0) E.x E.b d_Chk_targetMayBe_29 (by decide) ?_
    exact bt_Chk_targetMayBe_30 E hret o y5 y6 0 h w (lv_sub hl [1, 0] rfl)
  ·
    replace h := ifF c h
    refine lv_iconst (v := 1) E.x E.b d_Chk_targetMayBe_25 (by decide) ?_
    refine lv_goto (tgt := 30) E.x E.b d_Chk_targetMayBe_26 (by decide) ?_
    exact bt_Chk_targetMayBe_30 E hret o y5 y6 1 h w (lv_sub hl [1, 0] rfl)
theorem clS_Chk_targetMayBe {p : Program} {l : Launch} {e : Env} {R : Room} {s : State} {m : MethodId} {args : Array Value} {below : List Frame} {meth : Method} {c : Code} {H : Heap} {locs : List Loc} {Q : State → Prop} {cc : ByteArray} {nL pc lev : Nat} {own : String} {D : va_G} {τ : ClassId × ClassId × ClassId} {B : Nat} {A : Nat → Prop} {σ : Sg} {ad : Nat → Nat} {ls : Array Slot} {rest : List Value} (E : Cx p R s m args meth c cc nL own lev D τ B A) (w : Wd s D A (wdC τ σ ad) H locs) {x0 : Int32} {o : Int32} (h : F_Chk_targetMayBe x0 = some o) {index : Nat} (hlk : Cond.methodLink own index y_Chk_targetMayBe ∈ tw) (hlev : 0 < lev) (hsz : ls.size = nL) (hr : (rest.map fun v => v.category).sum ≤ 8) (hd : decode cc pc = .ok (.invokestatic index, 3)) (kk : ∀ (H1 : Heap) (locs1 : List Loc), Wd s D A (wdC τ σ ad) H1 locs1 → W p l e R s m args below meth c H1 locs1 0 0 Q (F0 m (pc + 3) ls (.int o :: rest))) : W p l e R s m args below meth c H locs 0 0 Q (F0 m pc ls (.int x0 :: rest)) :=
  cr_i w E.C (va_runS (As := [.int x0]) (rest := rest) E.fix (c_Chk_targetMayBe l D τ B σ ad x0 o h H.size) (va_cwS 1 E.w (tw_pre (tw_good k1319) (l := [_, _, _]) (List.forall_mem_cons.mpr ⟨hlk, List.forall_mem_cons.mpr ⟨k1318, List.forall_mem_cons.mpr ⟨k6, fun _ h => absurd h List.not_mem_nil⟩⟩⟩)) rfl rfl rfl (by decide +kernel) (E.rm hlev (by decide))) (wd_pre w E.C [.int x0]) rfl rfl hsz rfl (lv_room hr) hd ⟨Nat.zero_le _, Nat.zero_le _⟩) kk

theorem d_Chk_faultAt_0 : decode prog_2_method_4_code 0 = .ok (.aload_n 1, 1) := by decide +kernel
theorem d_Chk_faultAt_1 : decode prog_2_method_4_code 1 = .ok (.getfield 64, 3) := by decide +kernel
theorem d_Chk_faultAt_4 : decode prog_2_method_4_code 4 = .ok (.iconst 3, 1) := by decide +kernel
theorem d_Chk_faultAt_5 : decode prog_2_method_4_code 5 = .ok (.iload_n 2, 1) := by decide +kernel
theorem d_Chk_faultAt_6 : decode prog_2_method_4_code 6 = .ok (.imul, 1) := by decide +kernel
theorem d_Chk_faultAt_7 : decode prog_2_method_4_code 7 = .ok (.iaload, 1) := by decide +kernel
theorem d_Chk_faultAt_8 : decode prog_2_method_4_code 8 = .ok (.istore 4, 2) := by decide +kernel
theorem d_Chk_faultAt_10 : decode prog_2_method_4_code 10 = .ok (.iload 4, 2) := by decide +kernel
theorem d_Chk_faultAt_12 : decode prog_2_method_4_code 12 = .ok (.bipush 63, 2) := by decide +kernel
theorem d_Chk_faultAt_14 : decode prog_2_method_4_code 14 = .ok (.iand, 1) := by decide +kernel
theorem d_Chk_faultAt_15 : decode prog_2_method_4_code 15 = .ok (.istore 5, 2) := by decide +kernel
theorem d_Chk_faultAt_17 : decode prog_2_method_4_code 17 = .ok (.iload 5, 2) := by decide +kernel
theorem d_Chk_faultAt_19 : decode prog_2_method_4_code 19 = .ok (.bipush 40, 2) := by decide +kernel
theorem d_Chk_faultAt_21 : decode prog_2_method_4_code 21 = .ok (.if_icmp .le 5, 3) := by decide +kernel
theorem d_Chk_faultAt_24 : decode prog_2_method_4_code 24 = .ok (.iconst 1, 1) := by decide +kernel
theorem d_Chk_faultAt_25 : decode prog_2_method_4_code 25 = .ok (.ireturn, 1) := by decide +kernel
theorem d_Chk_faultAt_26 : decode prog_2_method_4_code 26 = .ok (.iload 5, 2) := by decide +kernel
theorem d_Chk_faultAt_28 : decode prog_2_method_4_code 28 = .ok (.invokestatic 67, 3) := by decide +kernel
theorem d_Chk_faultAt_31 : decode prog_2_method_4_code 31 = .ok (.ifCond .eq 14, 3) := by decide +kernel
theorem d_Chk_faultAt_34 : decode prog_2_method_4_code 34 = .ok (.iload 4, 2) := by decide +kernel
theorem d_Chk_faultAt_36 : decode prog_2_method_4_code 36 = .ok (.invokestatic 71, 3) := by decide +kernel
theorem d_Chk_faultAt_39 : decode prog_2_method_4_code 39 = .ok (.ifCond .ne 20, 3) := by decide +kernel
theorem d_Chk_faultAt_42 : decode prog_2_method_4_code 42 = .ok (.goto 15, 3) := by decide +kernel
theorem d_Chk_faultAt_45 : decode prog_2_method_4_code 45 = .ok (.iload 4, 2) := by decide +kernel
theorem d_Chk_faultAt_47 : decode prog_2_method_4_code 47 = .ok (.bipush 6, 2) := by decide +kernel
theorem d_Chk_faultAt_49 : decode prog_2_method_4_code 49 = .ok (.iushr, 1) := by decide +kernel
theorem d_Chk_faultAt_50 : decode prog_2_method_4_code 50 = .ok (.sipush 2047, 3) := by decide +kernel
theorem d_Chk_faultAt_53 : decode prog_2_method_4_code 53 = .ok (.iand, 1) := by decide +kernel
theorem d_Chk_faultAt_54 : decode prog_2_method_4_code 54 = .ok (.ifCond .eq 5, 3) := by decide +kernel
theorem d_Chk_faultAt_57 : decode prog_2_method_4_code 57 = .ok (.iconst 2, 1) := by decide +kernel
theorem d_Chk_faultAt_58 : decode prog_2_method_4_code 58 = .ok (.ireturn, 1) := by decide +kernel
theorem d_Chk_faultAt_59 : decode prog_2_method_4_code 59 = .ok (.getstatic 74, 3) := by decide +kernel
theorem d_Chk_faultAt_62 : decode prog_2_method_4_code 62 = .ok (.iload 5, 2) := by decide +kernel
theorem d_Chk_faultAt_64 : decode prog_2_method_4_code 64 = .ok (.iaload, 1) := by decide +kernel
theorem d_Chk_faultAt_65 : decode prog_2_method_4_code 65 = .ok (.aload_n 1, 1) := by decide +kernel
theorem d_Chk_faultAt_66 : decode prog_2_method_4_code 66 = .ok (.getfield 64, 3) := by decide +kernel
theorem d_Chk_faultAt_69 : decode prog_2_method_4_code 69 = .ok (.iconst 3, 1) := by decide +kernel
theorem d_Chk_faultAt_70 : decode prog_2_method_4_code 70 = .ok (.iload_n 2, 1) := by decide +kernel
theorem d_Chk_faultAt_71 : decode prog_2_method_4_code 71 = .ok (.imul, 1) := by decide +kernel
theorem d_Chk_faultAt_72 : decode prog_2_method_4_code 72 = .ok (.iconst 1, 1) := by decide +kernel
theorem d_Chk_faultAt_73 : decode prog_2_method_4_code 73 = .ok (.iadd, 1) := by decide +kernel
theorem d_Chk_faultAt_74 : decode prog_2_method_4_code 74 = .ok (.iaload, 1) := by decide +kernel
theorem d_Chk_faultAt_75 : decode prog_2_method_4_code 75 = .ok (.aload_n 1, 1) := by decide +kernel
theorem d_Chk_faultAt_76 : decode prog_2_method_4_code 76 = .ok (.getfield 64, 3) := by decide +kernel
theorem d_Chk_faultAt_79 : decode prog_2_method_4_code 79 = .ok (.iconst 3, 1) := by decide +kernel
theorem d_Chk_faultAt_80 : decode prog_2_method_4_code 80 = .ok (.iload_n 2, 1) := by decide +kernel
theorem d_Chk_faultAt_81 : decode prog_2_method_4_code 81 = .ok (.imul, 1) := by decide +kernel
theorem d_Chk_faultAt_82 : decode prog_2_method_4_code 82 = .ok (.iconst 2, 1) := by decide +kernel
theorem d_Chk_faultAt_83 : decode prog_2_method_4_code 83 = .ok (.iadd, 1) := by decide +kernel
theorem d_Chk_faultAt_84 : decode prog_2_method_4_code 84 = .ok (.iaload, 1) := by decide +kernel
theorem d_Chk_faultAt_85 : decode prog_2_method_4_code 85 = .ok (.invokestatic 77, 3) := by decide +kernel
theorem d_Chk_faultAt_88 : decode prog_2_method_4_code 88 = .ok (.ifCond .ne 5, 3) := by decide +kernel
theorem d_Chk_faultAt_91 : decode prog_2_method_4_code 91 = .ok (.iconst 3, 1) := by decide +kernel
theorem d_Chk_faultAt_92 : decode prog_2_method_4_code 92 = .ok (.ireturn, 1) := by decide +kernel
theorem d_Chk_faultAt_93 : decode prog_2_method_4_code 93 = .ok (.iload 5, 2) := by decide +kernel
theorem d_Chk_faultAt_95 : decode prog_2_method_4_code 95 = .ok (.iload 4, 2) := by decide +kernel
theorem d_Chk_faultAt_97 : decode prog_2_method_4_code 97 = .ok (.bipush 17, 2) := by decide +kernel
theorem d_Chk_faultAt_99 : decode prog_2_method_4_code 99 = .ok (.iushr, 1) := by decide +kernel
theorem d_Chk_faultAt_100 : decode prog_2_method_4_code 100 = .ok (.iload_n 2, 1) := by decide +kernel
theorem d_Chk_faultAt_101 : decode prog_2_method_4_code 101 = .ok (.aload_n 1, 1) := by decide +kernel
theorem d_Chk_faultAt_102 : decode prog_2_method_4_code 102 = .ok (.getfield 41, 3) := by decide +kernel
theorem d_Chk_faultAt_105 : decode prog_2_method_4_code 105 = .ok (.invokestatic 81, 3) := by decide +kernel
theorem d_Chk_faultAt_108 : decode prog_2_method_4_code 108 = .ok (.ifCond .ne 5, 3) := by decide +kernel
theorem d_Chk_faultAt_111 : decode prog_2_method_4_code 111 = .ok (.iconst 4, 1) := by decide +kernel
theorem d_Chk_faultAt_112 : decode prog_2_method_4_code 112 = .ok (.ireturn, 1) := by decide +kernel
theorem d_Chk_faultAt_113 : decode prog_2_method_4_code 113 = .ok (.iload 5, 2) := by decide +kernel
theorem d_Chk_faultAt_115 : decode prog_2_method_4_code 115 = .ok (.bipush 35, 2) := by decide +kernel
theorem d_Chk_faultAt_117 : decode prog_2_method_4_code 117 = .ok (.if_icmp .ne 10, 3) := by decide +kernel
theorem d_Chk_faultAt_120 : decode prog_2_method_4_code 120 = .ok (.aload_n 0, 1) := by decide +kernel
theorem d_Chk_faultAt_121 : decode prog_2_method_4_code 121 = .ok (.getfield 29, 3) := by decide +kernel
theorem d_Chk_faultAt_124 : decode prog_2_method_4_code 124 = .ok (.ifCond .eq 18, 3) := by decide +kernel
theorem d_Chk_faultAt_127 : decode prog_2_method_4_code 127 = .ok (.iload 5, 2) := by decide +kernel
theorem d_Chk_faultAt_129 : decode prog_2_method_4_code 129 = .ok (.bipush 34, 2) := by decide +kernel
theorem d_Chk_faultAt_131 : decode prog_2_method_4_code 131 = .ok (.if_icmp .ne 13, 3) := by decide +kernel
theorem d_Chk_faultAt_134 : decode prog_2_method_4_code 134 = .ok (.aload_n 0, 1) := by decide +kernel
theorem d_Chk_faultAt_135 : decode prog_2_method_4_code 135 = .ok (.getfield 29, 3) := by decide +kernel
theorem d_Chk_faultAt_138 : decode prog_2_method_4_code 138 = .ok (.iconst 4, 1) := by decide +kernel
theorem d_Chk_faultAt_139 : decode prog_2_method_4_code 139 = .ok (.if_icmp .ne 5, 3) := by decide +kernel
theorem d_Chk_faultAt_142 : decode prog_2_method_4_code 142 = .ok (.iconst 5, 1) := by decide +kernel
theorem d_Chk_faultAt_143 : decode prog_2_method_4_code 143 = .ok (.ireturn, 1) := by decide +kernel
theorem d_Chk_faultAt_144 : decode prog_2_method_4_code 144 = .ok (.iload 5, 2) := by decide +kernel
theorem d_Chk_faultAt_146 : decode prog_2_method_4_code 146 = .ok (.ifCond .ne 7, 3) := by decide +kernel
theorem d_Chk_faultAt_149 : decode prog_2_method_4_code 149 = .ok (.iconst 1, 1) := by decide +kernel
theorem d_Chk_faultAt_150 : decode prog_2_method_4_code 150 = .ok (.goto 4, 3) := by decide +kernel
theorem d_Chk_faultAt_153 : decode prog_2_method_4_code 153 = .ok (.iconst 0, 1) := by decide +kernel
theorem d_Chk_faultAt_154 : decode prog_2_method_4_code 154 = .ok (.iload_n 2, 1) := by decide +kernel
theorem d_Chk_faultAt_155 : decode prog_2_method_4_code 155 = .ok (.aload_n 1, 1) := by decide +kernel
theorem d_Chk_faultAt_156 : decode prog_2_method_4_code 156 = .ok (.getfield 41, 3) := by decide +kernel
theorem d_Chk_faultAt_159 : decode prog_2_method_4_code 159 = .ok (.iconst 1, 1) := by decide +kernel
theorem d_Chk_faultAt_160 : decode prog_2_method_4_code 160 = .ok (.isub, 1) := by decide +kernel
theorem d_Chk_faultAt_161 : decode prog_2_method_4_code 161 = .ok (.if_icmp .ne 7, 3) := by decide +kernel
theorem d_Chk_faultAt_164 : decode prog_2_method_4_code 164 = .ok (.iconst 1, 1) := by decide +kernel
theorem d_Chk_faultAt_165 : decode prog_2_method_4_code 165 = .ok (.goto 4, 3) := by decide +kernel
theorem d_Chk_faultAt_168 : decode prog_2_method_4_code 168 = .ok (.iconst 0, 1) := by decide +kernel
theorem d_Chk_faultAt_169 : decode prog_2_method_4_code 169 = .ok (.if_icmp .eq 6, 3) := by decide +kernel
theorem d_Chk_faultAt_172 : decode prog_2_method_4_code 172 = .ok (.bipush 6, 2) := by decide +kernel
theorem d_Chk_faultAt_174 : decode prog_2_method_4_code 174 = .ok (.ireturn, 1) := by decide +kernel
theorem d_Chk_faultAt_175 : decode prog_2_method_4_code 175 = .ok (.iload 5, 2) := by decide +kernel
theorem d_Chk_faultAt_177 : decode prog_2_method_4_code 177 = .ok (.bipush 38, 2) := by decide +kernel
theorem d_Chk_faultAt_179 : decode prog_2_method_4_code 179 = .ok (.if_icmp .ne 12, 3) := by decide +kernel
theorem d_Chk_faultAt_182 : decode prog_2_method_4_code 182 = .ok (.iload_n 3, 1) := by decide +kernel
theorem d_Chk_faultAt_183 : decode prog_2_method_4_code 183 = .ok (.ifCond .ne 8, 3) := by decide +kernel
theorem d_Chk_faultAt_186 : decode prog_2_method_4_code 186 = .ok (.bipush 7, 2) := by decide +kernel
theorem d_Chk_faultAt_188 : decode prog_2_method_4_code 188 = .ok (.goto 4, 3) := by decide +kernel
theorem d_Chk_faultAt_191 : decode prog_2_method_4_code 191 = .ok (.iconst 0, 1) := by decide +kernel
theorem d_Chk_faultAt_192 : decode prog_2_method_4_code 192 = .ok (.ireturn, 1) := by decide +kernel
def F_Chk_faultAt_192 (σ : Sg) (s0 : Int32) : Option (Int32) := some s0
set_option maxRecDepth 10000 in
set_option maxHeartbeats 4000000 in
theorem bt_Chk_faultAt_192 {p : Program} {l : Launch} {e : Env} {R : Room} {s : State} {m : MethodId} {args : Array Value} {below : List Frame} {meth : Method} {c : Code} {D : va_G} {τ : ClassId × ClassId × ClassId} {B : Nat} {A : Nat → Prop} {ad : Nat → Nat} (E : Cx p R s m args meth c prog_2_method_4_code 6 "DrawingMachine$Checker" 2 D τ B A) (hret : meth.sig.returnType = (some .int)) (o : Int32) (σ : Sg) (s0 : Int32) (h : F_Chk_faultAt_192 σ s0 = some o) {H : Heap} {locs : List Loc} {ls : Array Slot} (w : Wd s D A (wdC τ σ ad) H locs) (hl : lv_has ls 6 []) : W p l e R s m args below meth c H locs 0 0 (QI below args s A D τ (wdC τ σ ad) o) (F0 m 192 ls [.int s0]) := by
  obtain rfl := Option.some.inj h
  exact rt_i E w hret d_Chk_faultAt_192
def F_Chk_faultAt_191 (σ : Sg) : Option (Int32) := F_Chk_faultAt_192 σ 0
set_option maxRecDepth 10000 in
set_option maxHeartbeats 4000000 in
theorem bt_Chk_faultAt_191 {p : Program} {l : Launch} {e : Env} {R : Room} {s : State} {m : MethodId} {args : Array Value} {below : List Frame} {meth : Method} {c : Code} {D : va_G} {τ : ClassId × ClassId × ClassId} {B : Nat} {A : Nat → Prop} {ad : Nat → Nat} (E : Cx p R s m args meth c prog_2_method_4_code 6 "DrawingMachine$Checker" 2 D τ B A) (hret : meth.sig.returnType = (some .int)) (o : Int32) (σ : Sg) (h : F_Chk_faultAt_191 σ = some o) {H : Heap} {locs : List Loc} {ls : Array Slot} (w : Wd s D A (wdC τ σ ad) H locs) (hl : lv_has ls 6 []) : W p l e R s m args below meth c H locs 0 0 (QI below args s A D τ (wdC τ σ ad) o) (F0 m 191 ls []) := by
  refine lv_iconst (v := 0) E.x E.b d_Chk_faultAt_191 (by decide) ?_
  exact bt_Chk_faultAt_192 E hret o σ 0 h w (lv_sub hl [] rfl)
def F_Chk_faultAt_169 (σ : Sg) (v3 : Int32) (v5 : Int32) (s0 : Int32) (s1 : Int32) : Option (Int32) := if s0 = s1 then (if v5 = 38 then (if v3 = 0 then (F_Chk_faultAt_192 σ 7) else (F_Chk_faultAt_191 σ)) else (F_Chk_faultAt_191 σ)) else (some 6)
set_option maxRecDepth 10000 in
set_option maxHeartbeats 4000000 in
theorem bt_Chk_faultAt_169 {p : Program} {l : Launch} {e : Env} {R : Room} {s : State} {m : MethodId} {args : Array Value} {below : List Frame} {meth : Method} {c : Code} {D : va_G} {τ : ClassId × ClassId × ClassId} {B : Nat} {A : Nat → Prop} {ad : Nat → Nat} (E : Cx p R s m args meth c prog_2_method_4_code 6 "DrawingMachine$Checker" 2 D τ B A) (hret : meth.sig.returnType = (some .int)) (o : Int32) (σ : Sg) (v3 : Int32) (v5 : Int32) (s0 : Int32) (s1 : Int32) (h : F_Chk_faultAt_169 σ v3 v5 s0 s1 = some o) {H : Heap} {locs : List Loc} {ls : Array Slot} (w : Wd s D A (wdC τ σ ad) H locs) (hl : lv_has ls 6 [(3, .int v3), (5, .int v5)]) : W p l e R s m args below meth c H locs 0 0 (QI below args s A D τ (wdC τ σ ad) o) (F0 m 169 ls [.int s1, .int s0]) := by
  refine lv_icmp_eq (tgt := 175) E.x E.b d_Chk_faultAt_169 (by decide) (fun c => ?_) (fun c => ?_)
  ·
    replace h := ifT c h
    refine lv_iload E.x E.b d_Chk_faultAt_175 (lv_at hl 1 rfl) ?_
    refine lv_bipush (v := 38) E.x E.b d_Chk_faultAt_177 (by decide) ?_
    refine lv_icmp_ne (tgt := 191) E.x E.b d_Chk_faultAt_179 (by decide) (fun c => ?_) (fun c => ?_)
    ·
      replace h := ifF c h
      exact bt_Chk_faultAt_191 E hret o σ h w (lv_sub hl [] rfl)
    ·
      replace h := ifT c h
      refine lv_iload_n E.x E.b d_Chk_faultAt_182 rfl (lv_at hl 0 rfl) ?_
      refine lv_if_ne (tgt := 191) E.x E.b d_Chk_faultAt_183 (by decide) (fun c => ?_) (fun c => ?_)
      ·
        replace h := ifF c h
        exact bt_Chk_faultAt_191 E hret o σ h w (lv_sub hl [] rfl)
      ·
        replace h := ifT c h
        refine lv_bipush (v := 7) E.x E.b d_Chk_faultAt_186 (by decide) ?_
        refine lv_goto (tgt := 192) E.x E.b d_Chk_faultAt_188 (by decide) ?_
        exact bt_Chk_faultAt_192 E hret o σ 7 h w (lv_sub hl [] rfl)
  ·
    replace h := ifF c h
    refine lv_bipush (v := 6) E.x E.b d_Chk_faultAt_172 (by decide) ?_
    obtain rfl := Option.some.inj h
    exact rt_i E w hret d_Chk_faultAt_174
def F_Chk_faultAt_154 (σ : Sg) (v1 : Nat) (v2 : Int32) (v3 : Int32) (v5 : Int32) (s0 : Int32) : Option (Int32) := ck (v1 < 3) (if v2 = ((σ.1 (22 + 3 * v1)) - 1) then (F_Chk_faultAt_169 σ v3 v5 s0 1) else (F_Chk_faultAt_169 σ v3 v5 s0 0))
set_option maxRecDepth 10000 in
set_option maxHeartbeats 4000000 in
theorem bt_Chk_faultAt_154 {p : Program} {l : Launch} {e : Env} {R : Room} {s : State} {m : MethodId} {args : Array Value} {below : List Frame} {meth : Method} {c : Code} {D : va_G} {τ : ClassId × ClassId × ClassId} {B : Nat} {A : Nat → Prop} {ad : Nat → Nat} (E : Cx p R s m args meth c prog_2_method_4_code 6 "DrawingMachine$Checker" 2 D τ B A) (hret : meth.sig.returnType = (some .int)) (o : Int32) (σ : Sg) (v1 : Nat) (v2 : Int32) (v3 : Int32) (v5 : Int32) (s0 : Int32) (h : F_Chk_faultAt_154 σ v1 v2 v3 v5 s0 = some o) {H : Heap} {locs : List Loc} {ls : Array Slot} (w : Wd s D A (wdC τ σ ad) H locs) (hl : lv_has ls 6 [(1, .ref (ad (67 + v1))), (2, .int v2), (3, .int v3), (5, .int v5)]) : W p l e R s m args below meth c H locs 0 0 (QI below args s A D τ (wdC τ σ ad) o) (F0 m 154 ls [.int s0]) := by
  obtain ⟨c12, h⟩ := ck_some h
  refine lv_iload_n E.x E.b d_Chk_faultAt_154 rfl (lv_at hl 1 rfl) ?_
  refine lv_aload_n E.x E.b d_Chk_faultAt_155 rfl (lv_at hl 0 rfl) ?_
  refine gC_Prg_many E w (pid := v1) c12 k414 d_Chk_faultAt_156 ?_
  refine lv_iconst (v := 1) E.x E.b d_Chk_faultAt_159 (by decide) ?_
  refine lv_isub E.x E.b d_Chk_faultAt_160 ?_
  refine lv_icmp_ne (tgt := 168) E.x E.b d_Chk_faultAt_161 (by decide) (fun c => ?_) (fun c => ?_)
  ·
    replace h := ifF c h
    refine lv_iconst (v := 0) E.x E.b d_Chk_faultAt_168 (by decide) ?_
    exact bt_Chk_faultAt_169 E hret o σ v3 v5 s0 0 h w (lv_sub hl [2, 3] rfl)
  ·
    replace h := ifT c h
    refine lv_iconst (v := 1) E.x E.b d_Chk_faultAt_164 (by decide) ?_
    refine lv_goto (tgt := 169) E.x E.b d_Chk_faultAt_165 (by decide) ?_
    exact bt_Chk_faultAt_169 E hret o σ v3 v5 s0 1 h w (lv_sub hl [2, 3] rfl)
def F_Chk_faultAt_144 (σ : Sg) (v1 : Nat) (v2 : Int32) (v3 : Int32) (v5 : Int32) : Option (Int32) := ck (v1 < 3) (if v5 = 0 then (F_Chk_faultAt_154 σ v1 v2 v3 v5 1) else (F_Chk_faultAt_154 σ v1 v2 v3 v5 0))
set_option maxRecDepth 10000 in
set_option maxHeartbeats 4000000 in
theorem bt_Chk_faultAt_144 {p : Program} {l : Launch} {e : Env} {R : Room} {s : State} {m : MethodId} {args : Array Value} {below : List Frame} {meth : Method} {c : Code} {D : va_G} {τ : ClassId × ClassId × ClassId} {B : Nat} {A : Nat → Prop} {ad : Nat → Nat} (E : Cx p R s m args meth c prog_2_method_4_code 6 "DrawingMachine$Checker" 2 D τ B A) (hret : meth.sig.returnType = (some .int)) (o : Int32) (σ : Sg) (v1 : Nat) (v2 : Int32) (v3 : Int32) (v5 : Int32) (h : F_Chk_faultAt_144 σ v1 v2 v3 v5 = some o) {H : Heap} {locs : List Loc} {ls : Array Slot} (w : Wd s D A (wdC τ σ ad) H locs) (hl : lv_has ls 6 [(1, .ref (ad (67 + v1))), (2, .int v2), (3, .int v3), (5, .int v5)]) : W p l e R s m args below meth c H locs 0 0 (QI below args s A D τ (wdC τ σ ad) o) (F0 m 144 ls []) := by
  obtain ⟨c13, h⟩ := ck_some h
  refine lv_iload E.x E.b d_Chk_faultAt_144 (lv_at hl 3 rfl) ?_
  refine lv_if_ne (tgt := 153) E.x E.b d_Chk_faultAt_146 (by decide) (fun c => ?_) (fun c => ?_)
  ·
    replace h := ifF c h
    refine lv_iconst (v := 0) E.x E.b d_Chk_faultAt_153 (by decide) ?_
    exact bt_Chk_faultAt_154 E hret o σ v1 v2 v3 v5 0 h w (lv_sub hl [0, 1, 2, 3] rfl)
  ·
    replace h := ifT c h
    refine lv_iconst (v := 1) E.x E.b d_Chk_faultAt_149 (by decide) ?_
    refine lv_goto (tgt := 154) E.x E.b d_Chk_faultAt_150 (by decide) ?_
    exact bt_Chk_faultAt_154 E hret o σ v1 v2 v3 v5 1 h w (lv_sub hl [0, 1, 2, 3] rfl)
def F_Chk_faultAt_142 (σ : Sg) : Option (Int32) := some 5
set_option maxRecDepth 10000 in
set_option maxHeartbeats 4000000 in
theorem bt_Chk_faultAt_142 {p : Program} {l : Launch} {e : Env} {R : Room} {s : State} {m : MethodId} {args : Array Value} {below : List Frame} {meth : Method} {c : Code} {D : va_G} {τ : ClassId × ClassId × ClassId} {B : Nat} {A : Nat → Prop} {ad : Nat → Nat} (E : Cx p R s m args meth c prog_2_method_4_code 6 "DrawingMachine$Checker" 2 D τ B A) (hret : meth.sig.returnType = (some .int)) (o : Int32) (σ : Sg) (h : F_Chk_faultAt_142 σ = some o) {H : Heap} {locs : List Loc} {ls : Array Slot} (w : Wd s D A (wdC τ σ ad) H locs) (hl : lv_has ls 6 []) : W p l e R s m args below meth c H locs 0 0 (QI below args s A D τ (wdC τ σ ad) o) (F0 m 142 ls []) := by
  refine lv_iconst (v := 5) E.x E.b d_Chk_faultAt_142 (by decide) ?_
  obtain rfl := Option.some.inj h
  exact rt_i E w hret d_Chk_faultAt_143
def F_Chk_faultAt_127 (σ : Sg) (v1 : Nat) (v2 : Int32) (v3 : Int32) (v5 : Int32) : Option (Int32) := ck (v1 < 3) (if v5 = 34 then (if (σ.1 14) = 4 then (F_Chk_faultAt_142 σ) else (F_Chk_faultAt_144 σ v1 v2 v3 v5)) else (F_Chk_faultAt_144 σ v1 v2 v3 v5))
set_option maxRecDepth 10000 in
set_option maxHeartbeats 4000000 in
theorem bt_Chk_faultAt_127 {p : Program} {l : Launch} {e : Env} {R : Room} {s : State} {m : MethodId} {args : Array Value} {below : List Frame} {meth : Method} {c : Code} {D : va_G} {τ : ClassId × ClassId × ClassId} {B : Nat} {A : Nat → Prop} {ad : Nat → Nat} (E : Cx p R s m args meth c prog_2_method_4_code 6 "DrawingMachine$Checker" 2 D τ B A) (hret : meth.sig.returnType = (some .int)) (o : Int32) (σ : Sg) (v1 : Nat) (v2 : Int32) (v3 : Int32) (v5 : Int32) (h : F_Chk_faultAt_127 σ v1 v2 v3 v5 = some o) {H : Heap} {locs : List Loc} {ls : Array Slot} (w : Wd s D A (wdC τ σ ad) H locs) (hl : lv_has ls 6 [(0, .ref (ad 60)), (1, .ref (ad (67 + v1))), (2, .int v2), (3, .int v3), (5, .int v5)]) : W p l e R s m args below meth c H locs 0 0 (QI below args s A D τ (wdC τ σ ad) o) (F0 m 127 ls []) := by
  obtain ⟨c14, h⟩ := ck_some h
  refine lv_iload E.x E.b d_Chk_faultAt_127 (lv_at hl 4 rfl) ?_
  refine lv_bipush (v := 34) E.x E.b d_Chk_faultAt_129 (by decide) ?_
  refine lv_icmp_ne (tgt := 144) E.x E.b d_Chk_faultAt_131 (by decide) (fun c => ?_) (fun c => ?_)
  ·
    replace h := ifF c h
    exact bt_Chk_faultAt_144 E hret o σ v1 v2 v3 v5 h w (lv_sub hl [1, 2, 3, 4] rfl)
  ·
    replace h := ifT c h
    refine lv_aload_n E.x E.b d_Chk_faultAt_134 rfl (lv_at hl 0 rfl) ?_
    refine gC_Chk_depth E w k181 d_Chk_faultAt_135 ?_
    refine lv_iconst (v := 4) E.x E.b d_Chk_faultAt_138 (by decide) ?_
    refine lv_icmp_ne (tgt := 144) E.x E.b d_Chk_faultAt_139 (by decide) (fun c => ?_) (fun c => ?_)
    ·
      replace h := ifF c h
      exact bt_Chk_faultAt_144 E hret o σ v1 v2 v3 v5 h w (lv_sub hl [1, 2, 3, 4] rfl)
    ·
      replace h := ifT c h
      exact bt_Chk_faultAt_142 E hret o σ h w (lv_sub hl [] rfl)
def F_Chk_faultAt_59 (σ : Sg) (v1 : Nat) (v2 : Int32) (v3 : Int32) (v4 : Int32) (v5 : Int32) : Option (Int32) := ck (v1 < 3) (ck (inb v5 41) (ck (inb ((3 * v2) + 1) (lenC σ (21 + 1 * v1))) (ck (inb ((3 * v2) + 2) (lenC σ (21 + 1 * v1))) (bd (F_Chk_sourcesMayBe (tb_SOURCES v5.toNatClampNeg) (σ.2.2.1 (21 + 1 * v1) ((3 * v2) + 1).toNatClampNeg) (σ.2.2.1 (21 + 1 * v1) ((3 * v2) + 2).toNatClampNeg)) (fun o20 => if o20 = 0 then (some 3) else (bd (F_Chk_numberMayBe v5 (ushr v4 17) v2 (σ.1 (22 + 3 * v1))) (fun o21 => if o21 = 0 then (some 4) else (if v5 = 35 then (if (σ.1 14) = 0 then (F_Chk_faultAt_142 σ) else (F_Chk_faultAt_127 σ v1 v2 v3 v5)) else (F_Chk_faultAt_127 σ v1 v2 v3 v5)))))))))
set_option maxRecDepth 10000 in
set_option maxHeartbeats 4000000 in
theorem bt_Chk_faultAt_59 {p : Program} {l : Launch} {e : Env} {R : Room} {s : State} {m : MethodId} {args : Array Value} {below : List Frame} {meth : Method} {c : Code} {D : va_G} {τ : ClassId × ClassId × ClassId} {B : Nat} {A : Nat → Prop} {ad : Nat → Nat} (E : Cx p R s m args meth c prog_2_method_4_code 6 "DrawingMachine$Checker" 2 D τ B A) (hret : meth.sig.returnType = (some .int)) (o : Int32) (σ : Sg) (v1 : Nat) (v2 : Int32) (v3 : Int32) (v4 : Int32) (v5 : Int32) (h : F_Chk_faultAt_59 σ v1 v2 v3 v4 v5 = some o) {H : Heap} {locs : List Loc} {ls : Array Slot} (w : Wd s D A (wdC τ σ ad) H locs) (hl : lv_has ls 6 [(0, .ref (ad 60)), (1, .ref (ad (67 + v1))), (2, .int v2), (3, .int v3), (4, .int v4), (5, .int v5)]) : W p l e R s m args below meth c H locs 0 0 (QI below args s A D τ (wdC τ σ ad) o) (F0 m 59 ls []) := by
  obtain ⟨c15, h⟩ := ck_some h
  refine r_tab (n := "SOURCES") E w (by decide) n1320 d_Chk_faultAt_59 (fun t16 h_t16 => ?_)
  refine lv_iload E.x E.b d_Chk_faultAt_62 (lv_at hl 5 rfl) ?_
  obtain ⟨c17, h⟩ := ck_some h
  refine r_tld (f := fun j => tb_SOURCES j) E w h_t16 c17 d_Chk_faultAt_64 ?_
  refine lv_aload_n E.x E.b d_Chk_faultAt_65 rfl (lv_at hl 1 rfl) ?_
  refine gC_Prg_words E w (pid := v1) c15 k412 d_Chk_faultAt_66 ?_
  refine lv_iconst (v := 3) E.x E.b d_Chk_faultAt_69 (by decide) ?_
  refine lv_iload_n E.x E.b d_Chk_faultAt_70 rfl (lv_at hl 2 rfl) ?_
  refine lv_imul E.x E.b d_Chk_faultAt_71 ?_
  refine lv_iconst (v := 1) E.x E.b d_Chk_faultAt_72 (by decide) ?_
  refine lv_iadd E.x E.b d_Chk_faultAt_73 ?_
  obtain ⟨c18, h⟩ := ck_some h
  refine ialC E w (k := (21 + 1 * v1)) (by omega) c18 d_Chk_faultAt_74 ?_
  refine lv_aload_n E.x E.b d_Chk_faultAt_75 rfl (lv_at hl 1 rfl) ?_
  refine gC_Prg_words E w (pid := v1) c15 k412 d_Chk_faultAt_76 ?_
  refine lv_iconst (v := 3) E.x E.b d_Chk_faultAt_79 (by decide) ?_
  refine lv_iload_n E.x E.b d_Chk_faultAt_80 rfl (lv_at hl 2 rfl) ?_
  refine lv_imul E.x E.b d_Chk_faultAt_81 ?_
  refine lv_iconst (v := 2) E.x E.b d_Chk_faultAt_82 (by decide) ?_
  refine lv_iadd E.x E.b d_Chk_faultAt_83 ?_
  obtain ⟨c19, h⟩ := ck_some h
  refine ialC E w (k := (21 + 1 * v1)) (by omega) c19 d_Chk_faultAt_84 ?_
  obtain ⟨o20, h_o20, h⟩ := bd_some h
  refine clS_Chk_sourcesMayBe E w (x0 := (tb_SOURCES v5.toNatClampNeg)) (x1 := (σ.2.2.1 (21 + 1 * v1) ((3 * v2) + 1).toNatClampNeg)) (x2 := (σ.2.2.1 (21 + 1 * v1) ((3 * v2) + 2).toNatClampNeg)) h_o20 k1321 (by decide) hl.1 (Nat.le_of_ble_eq_true rfl) d_Chk_faultAt_85 (fun H locs w => ?_)
  refine lv_if_ne (tgt := 93) E.x E.b d_Chk_faultAt_88 (by decide) (fun c => ?_) (fun c => ?_)
  ·
    replace h := ifF c h
    refine lv_iload E.x E.b d_Chk_faultAt_93 (lv_at hl 5 rfl) ?_
    refine lv_iload E.x E.b d_Chk_faultAt_95 (lv_at hl 4 rfl) ?_
    refine lv_bipush (v := 17) E.x E.b d_Chk_faultAt_97 (by decide) ?_
    refine lv_iushr (v := ushr v4 17) E.x E.b d_Chk_faultAt_99 rfl ?_
    refine lv_iload_n E.x E.b d_Chk_faultAt_100 rfl (lv_at hl 2 rfl) ?_
    refine lv_aload_n E.x E.b d_Chk_faultAt_101 rfl (lv_at hl 1 rfl) ?_
    refine gC_Prg_many E w (pid := v1) c15 k414 d_Chk_faultAt_102 ?_
    obtain ⟨o21, h_o21, h⟩ := bd_some h
    refine clS_Chk_numberMayBe E w (x0 := v5) (x1 := (ushr v4 17)) (x2 := v2) (x3 := (σ.1 (22 + 3 * v1))) h_o21 k1328 (by decide) hl.1 (Nat.le_of_ble_eq_true rfl) d_Chk_faultAt_105 (fun H locs w => ?_)
    refine lv_if_ne (tgt := 113) E.x E.b d_Chk_faultAt_108 (by decide) (fun c => ?_) (fun c => ?_)
    ·
      replace h := ifF c h
      refine lv_iload E.x E.b d_Chk_faultAt_113 (lv_at hl 5 rfl) ?_
      refine lv_bipush (v := 35) E.x E.b d_Chk_faultAt_115 (by decide) ?_
      refine lv_icmp_ne (tgt := 127) E.x E.b d_Chk_faultAt_117 (by decide) (fun c => ?_) (fun c => ?_)
      ·
        replace h := ifF c h
        exact bt_Chk_faultAt_127 E hret o σ v1 v2 v3 v5 h w (lv_sub hl [0, 1, 2, 3, 5] rfl)
      ·
        replace h := ifT c h
        refine lv_aload_n E.x E.b d_Chk_faultAt_120 rfl (lv_at hl 0 rfl) ?_
        refine gC_Chk_depth E w k181 d_Chk_faultAt_121 ?_
        refine lv_if_eq (tgt := 142) E.x E.b d_Chk_faultAt_124 (by decide) (fun c => ?_) (fun c => ?_)
        ·
          replace h := ifT c h
          exact bt_Chk_faultAt_142 E hret o σ h w (lv_sub hl [] rfl)
        ·
          replace h := ifF c h
          exact bt_Chk_faultAt_127 E hret o σ v1 v2 v3 v5 h w (lv_sub hl [0, 1, 2, 3, 5] rfl)
    ·
      replace h := ifT c h
      refine lv_iconst (v := 4) E.x E.b d_Chk_faultAt_111 (by decide) ?_
      obtain rfl := Option.some.inj h
      exact rt_i E w hret d_Chk_faultAt_112
  ·
    replace h := ifT c h
    refine lv_iconst (v := 3) E.x E.b d_Chk_faultAt_91 (by decide) ?_
    obtain rfl := Option.some.inj h
    exact rt_i E w hret d_Chk_faultAt_92
def F_Chk_faultAt_57 (σ : Sg) : Option (Int32) := some 2
set_option maxRecDepth 10000 in
set_option maxHeartbeats 4000000 in
theorem bt_Chk_faultAt_57 {p : Program} {l : Launch} {e : Env} {R : Room} {s : State} {m : MethodId} {args : Array Value} {below : List Frame} {meth : Method} {c : Code} {D : va_G} {τ : ClassId × ClassId × ClassId} {B : Nat} {A : Nat → Prop} {ad : Nat → Nat} (E : Cx p R s m args meth c prog_2_method_4_code 6 "DrawingMachine$Checker" 2 D τ B A) (hret : meth.sig.returnType = (some .int)) (o : Int32) (σ : Sg) (h : F_Chk_faultAt_57 σ = some o) {H : Heap} {locs : List Loc} {ls : Array Slot} (w : Wd s D A (wdC τ σ ad) H locs) (hl : lv_has ls 6 []) : W p l e R s m args below meth c H locs 0 0 (QI below args s A D τ (wdC τ σ ad) o) (F0 m 57 ls []) := by
  refine lv_iconst (v := 2) E.x E.b d_Chk_faultAt_57 (by decide) ?_
  obtain rfl := Option.some.inj h
  exact rt_i E w hret d_Chk_faultAt_58
def F_Chk_faultAt (σ : Sg) (p1 : Nat) (x1 : Int32) (x2 : Int32) : Option (Int32) := ck (p1 < 3) (ck (inb (3 * x1) (lenC σ (21 + 1 * p1))) (lt (σ.2.2.1 (21 + 1 * p1) (3 * x1).toNatClampNeg) (fun y24 => lt (y24 &&& 63) (fun y25 => if y25 ≤ 40 then (bd (F_Chk_hasTarget y25) (fun o26 => if o26 = 0 then (if ((ushr y24 6) &&& 2047) = 0 then (F_Chk_faultAt_59 σ p1 x1 x2 y24 y25) else (F_Chk_faultAt_57 σ)) else (bd (F_Chk_targetMayBe y24) (fun o27 => if o27 = 0 then (F_Chk_faultAt_57 σ) else (F_Chk_faultAt_59 σ p1 x1 x2 y24 y25))))) else (some 1)))))
set_option maxRecDepth 10000 in
set_option maxHeartbeats 4000000 in
theorem c_Chk_faultAt (l : Launch) (D : va_G) (τ : ClassId × ClassId × ClassId) (B : Nat) (σ : Sg) (ad : Nat → Nat) (p1 : Nat) (x1 : Int32) (x2 : Int32) (o : Int32) (h : F_Chk_faultAt σ p1 x1 x2 = some o) : MI l y_Chk_faultAt (Cond.code y_Chk_faultAt prog_2_method_4_code 6 (some .int)) 2 D τ B [.ref (ad 60), .ref (ad (67 + p1)), .int x1, .int x2] (wdC τ σ ad) (wdC τ σ ad) o := by
  refine en_i (by decide) (Nat.le_of_ble_eq_true rfl) ?_
  intro p e R s m args below meth c H locs ls A E hret w hl
  have E : Cx p R s m args meth c prog_2_method_4_code 6 "DrawingMachine$Checker" 2 D τ B A := E
  have hl : lv_has ls 6 [(0, .ref (ad 60)), (1, .ref (ad (67 + p1))), (2, .int x1), (3, .int x2)] := hl
  obtain ⟨c22, h⟩ := ck_some h
  refine lv_aload_n E.x E.b d_Chk_faultAt_0 rfl (lv_at hl 1 rfl) ?_
  refine gC_Prg_words E w (pid := p1) c22 k412 d_Chk_faultAt_1 ?_
  refine lv_iconst (v := 3) E.x E.b d_Chk_faultAt_4 (by decide) ?_
  refine lv_iload_n E.x E.b d_Chk_faultAt_5 rfl (lv_at hl 2 rfl) ?_
  refine lv_imul E.x E.b d_Chk_faultAt_6 ?_
  obtain ⟨c23, h⟩ := ck_some h
  refine ialC E w (k := (21 + 1 * p1)) (by omega) c23 d_Chk_faultAt_7 ?_
  obtain ⟨y24, e_y24, h⟩ := lt_some h
  refine wi_e (v := y24) e_y24 ?_
  refine lv_istore (lv' := [(4, .int y24), (0, .ref (ad 60)), (1, .ref (ad (67 + p1))), (2, .int x1), (3, .int x2)]) E.x E.b d_Chk_faultAt_8 hl (by decide) rfl (fun ls hl => ?_)
  refine lv_iload E.x E.b d_Chk_faultAt_10 (lv_at hl 0 rfl) ?_
  refine lv_bipush (v := 63) E.x E.b d_Chk_faultAt_12 (by decide) ?_
  refine lv_iand E.x E.b d_Chk_faultAt_14 ?_
  obtain ⟨y25, e_y25, h⟩ := lt_some h
  refine wi_e (v := y25) e_y25 ?_
  refine lv_istore (lv' := [(5, .int y25), (4, .int y24), (0, .ref (ad 60)), (1, .ref (ad (67 + p1))), (2, .int x1), (3, .int x2)]) E.x E.b d_Chk_faultAt_15 hl (by decide) rfl (fun ls hl => ?_)
  refine lv_iload E.x E.b d_Chk_faultAt_17 (lv_at hl 0 rfl) ?_
  refine lv_bipush (v := 40) E.x E.b d_Chk_faultAt_19 (by decide) ?_
  refine lv_icmp_le (tgt := 26) E.x E.b d_Chk_faultAt_21 (by decide) (fun c => ?_) (fun c => ?_)
  ·
    replace h := ifT c h
    refine lv_iload E.x E.b d_Chk_faultAt_26 (lv_at hl 0 rfl) ?_
    obtain ⟨o26, h_o26, h⟩ := bd_some h
    refine clS_Chk_hasTarget E w (x0 := y25) h_o26 k1314 (by decide) hl.1 (Nat.le_of_ble_eq_true rfl) d_Chk_faultAt_28 (fun H locs w => ?_)
    refine lv_if_eq (tgt := 45) E.x E.b d_Chk_faultAt_31 (by decide) (fun c => ?_) (fun c => ?_)
    ·
      replace h := ifT c h
      refine lv_iload E.x E.b d_Chk_faultAt_45 (lv_at hl 1 rfl) ?_
      refine lv_bipush (v := 6) E.x E.b d_Chk_faultAt_47 (by decide) ?_
      refine lv_iushr (v := ushr y24 6) E.x E.b d_Chk_faultAt_49 rfl ?_
      refine lv_sipush (v := 2047) E.x E.b d_Chk_faultAt_50 (by decide) ?_
      refine lv_iand E.x E.b d_Chk_faultAt_53 ?_
      refine lv_if_eq (tgt := 59) E.x E.b d_Chk_faultAt_54 (by decide) (fun c => ?_) (fun c => ?_)
      ·
        replace h := ifT c h
        exact bt_Chk_faultAt_59 E hret o σ p1 x1 x2 y24 y25 h w (lv_sub hl [2, 3, 4, 5, 1, 0] rfl)
      ·
        replace h := ifF c h
        exact bt_Chk_faultAt_57 E hret o σ h w (lv_sub hl [] rfl)
    ·
      replace h := ifF c h
      refine lv_iload E.x E.b d_Chk_faultAt_34 (lv_at hl 1 rfl) ?_
      obtain ⟨o27, h_o27, h⟩ := bd_some h
      refine clS_Chk_targetMayBe E w (x0 := y24) h_o27 k1317 (by decide) hl.1 (Nat.le_of_ble_eq_true rfl) d_Chk_faultAt_36 (fun H locs w => ?_)
      refine lv_if_ne (tgt := 59) E.x E.b d_Chk_faultAt_39 (by decide) (fun c => ?_) (fun c => ?_)
      ·
        replace h := ifF c h
        exact bt_Chk_faultAt_59 E hret o σ p1 x1 x2 y24 y25 h w (lv_sub hl [2, 3, 4, 5, 1, 0] rfl)
      ·
        replace h := ifT c h
        refine lv_goto (tgt := 57) E.x E.b d_Chk_faultAt_42 (by decide) ?_
        exact bt_Chk_faultAt_57 E hret o σ h w (lv_sub hl [] rfl)
  ·
    replace h := ifF c h
    refine lv_iconst (v := 1) E.x E.b d_Chk_faultAt_24 (by decide) ?_
    obtain rfl := Option.some.inj h
    exact rt_i E w hret d_Chk_faultAt_25
theorem clV_Chk_faultAt {p : Program} {l : Launch} {e : Env} {R : Room} {s : State} {m : MethodId} {args : Array Value} {below : List Frame} {meth : Method} {c : Code} {H : Heap} {locs : List Loc} {Q : State → Prop} {cc : ByteArray} {nL pc lev : Nat} {own : String} {D : va_G} {τ : ClassId × ClassId × ClassId} {B : Nat} {A : Nat → Prop} {σ : Sg} {ad : Nat → Nat} {ls : Array Slot} {rest : List Value} (E : Cx p R s m args meth c cc nL own lev D τ B A) (w : Wd s D A (wdC τ σ ad) H locs) {p1 : Nat} {x1 : Int32} {x2 : Int32} {o : Int32} (h : F_Chk_faultAt σ p1 x1 x2 = some o) {index : Nat} (hlk : Cond.methodLink own index y_Chk_faultAt ∈ tw) (hlev : 2 < lev) (hsz : ls.size = nL) (hr : (rest.map fun v => v.category).sum ≤ 8) (hd : decode cc pc = .ok (.invokevirtual index, 3)) (kk : ∀ (H1 : Heap) (locs1 : List Loc), Wd s D A (wdC τ σ ad) H1 locs1 → W p l e R s m args below meth c H1 locs1 0 0 Q (F0 m (pc + 3) ls (.int o :: rest))) : W p l e R s m args below meth c H locs 0 0 Q (F0 m pc ls (.int x2 :: .int x1 :: .ref (ad (67 + p1)) :: .ref (ad 60) :: rest)) :=
  cr_i w E.C (va_runV (As := [.ref (ad (67 + p1)), .int x1, .int x2]) (rest := rest) E.fix (c_Chk_faultAt l D τ B σ ad p1 x1 x2 o h H.size) (cwV 3 E.w (tw_pre (tw_good k1313) (l := [_, _, _, _]) (List.forall_mem_cons.mpr ⟨hlk, List.forall_mem_cons.mpr ⟨k1312, List.forall_mem_cons.mpr ⟨ks38, List.forall_mem_cons.mpr ⟨k6, fun _ h => absurd h List.not_mem_nil⟩⟩⟩⟩)) rfl rfl rfl (by decide +kernel) (E.rm hlev (by decide))) (wd_preV w E.C [.ref (ad (67 + p1)), .int x1, .int x2] rcC_Chk rfl) rfl rfl hsz rfl (lv_room hr) hd ⟨Nat.zero_le _, Nat.zero_le _⟩) kk

theorem d_Chk_leavesLoop_0 : decode prog_2_method_12_code 0 = .ok (.aload_n 1, 1) := by decide +kernel
theorem d_Chk_leavesLoop_1 : decode prog_2_method_12_code 1 = .ok (.getfield 64, 3) := by decide +kernel
theorem d_Chk_leavesLoop_4 : decode prog_2_method_12_code 4 = .ok (.iconst 3, 1) := by decide +kernel
theorem d_Chk_leavesLoop_5 : decode prog_2_method_12_code 5 = .ok (.iload_n 2, 1) := by decide +kernel
theorem d_Chk_leavesLoop_6 : decode prog_2_method_12_code 6 = .ok (.imul, 1) := by decide +kernel
theorem d_Chk_leavesLoop_7 : decode prog_2_method_12_code 7 = .ok (.iaload, 1) := by decide +kernel
theorem d_Chk_leavesLoop_8 : decode prog_2_method_12_code 8 = .ok (.istore_n 3, 1) := by decide +kernel
theorem d_Chk_leavesLoop_9 : decode prog_2_method_12_code 9 = .ok (.iload_n 3, 1) := by decide +kernel
theorem d_Chk_leavesLoop_10 : decode prog_2_method_12_code 10 = .ok (.bipush 63, 2) := by decide +kernel
theorem d_Chk_leavesLoop_12 : decode prog_2_method_12_code 12 = .ok (.iand, 1) := by decide +kernel
theorem d_Chk_leavesLoop_13 : decode prog_2_method_12_code 13 = .ok (.istore 4, 2) := by decide +kernel
theorem d_Chk_leavesLoop_15 : decode prog_2_method_12_code 15 = .ok (.iload 4, 2) := by decide +kernel
theorem d_Chk_leavesLoop_17 : decode prog_2_method_12_code 17 = .ok (.bipush 37, 2) := by decide +kernel
theorem d_Chk_leavesLoop_19 : decode prog_2_method_12_code 19 = .ok (.if_icmp .eq 10, 3) := by decide +kernel
theorem d_Chk_leavesLoop_22 : decode prog_2_method_12_code 22 = .ok (.iload 4, 2) := by decide +kernel
theorem d_Chk_leavesLoop_24 : decode prog_2_method_12_code 24 = .ok (.bipush 36, 2) := by decide +kernel
theorem d_Chk_leavesLoop_26 : decode prog_2_method_12_code 26 = .ok (.if_icmp .ne 25, 3) := by decide +kernel
theorem d_Chk_leavesLoop_29 : decode prog_2_method_12_code 29 = .ok (.aload_n 0, 1) := by decide +kernel
theorem d_Chk_leavesLoop_30 : decode prog_2_method_12_code 30 = .ok (.getfield 15, 3) := by decide +kernel
theorem d_Chk_leavesLoop_33 : decode prog_2_method_12_code 33 = .ok (.iload_n 2, 1) := by decide +kernel
theorem d_Chk_leavesLoop_34 : decode prog_2_method_12_code 34 = .ok (.iaload, 1) := by decide +kernel
theorem d_Chk_leavesLoop_35 : decode prog_2_method_12_code 35 = .ok (.aload_n 0, 1) := by decide +kernel
theorem d_Chk_leavesLoop_36 : decode prog_2_method_12_code 36 = .ok (.getfield 15, 3) := by decide +kernel
theorem d_Chk_leavesLoop_39 : decode prog_2_method_12_code 39 = .ok (.iload_n 3, 1) := by decide +kernel
theorem d_Chk_leavesLoop_40 : decode prog_2_method_12_code 40 = .ok (.bipush 17, 2) := by decide +kernel
theorem d_Chk_leavesLoop_42 : decode prog_2_method_12_code 42 = .ok (.iushr, 1) := by decide +kernel
theorem d_Chk_leavesLoop_43 : decode prog_2_method_12_code 43 = .ok (.iaload, 1) := by decide +kernel
theorem d_Chk_leavesLoop_44 : decode prog_2_method_12_code 44 = .ok (.if_icmp .eq 7, 3) := by decide +kernel
theorem d_Chk_leavesLoop_47 : decode prog_2_method_12_code 47 = .ok (.iconst 1, 1) := by decide +kernel
theorem d_Chk_leavesLoop_48 : decode prog_2_method_12_code 48 = .ok (.goto 4, 3) := by decide +kernel
theorem d_Chk_leavesLoop_51 : decode prog_2_method_12_code 51 = .ok (.iconst 0, 1) := by decide +kernel
theorem d_Chk_leavesLoop_52 : decode prog_2_method_12_code 52 = .ok (.ireturn, 1) := by decide +kernel
def F_Chk_leavesLoop_52 (σ : Sg) (s0 : Int32) : Option (Int32) := ck (s0 = 0 ∨ s0 = 1) (some s0)
set_option maxRecDepth 10000 in
set_option maxHeartbeats 4000000 in
theorem bt_Chk_leavesLoop_52 {p : Program} {l : Launch} {e : Env} {R : Room} {s : State} {m : MethodId} {args : Array Value} {below : List Frame} {meth : Method} {c : Code} {D : va_G} {τ : ClassId × ClassId × ClassId} {B : Nat} {A : Nat → Prop} {ad : Nat → Nat} (E : Cx p R s m args meth c prog_2_method_12_code 5 "DrawingMachine$Checker" 0 D τ B A) (hret : meth.sig.returnType = (some .boolean)) (o : Int32) (σ : Sg) (s0 : Int32) (h : F_Chk_leavesLoop_52 σ s0 = some o) {H : Heap} {locs : List Loc} {ls : Array Slot} (w : Wd s D A (wdC τ σ ad) H locs) (hl : lv_has ls 5 []) : W p l e R s m args below meth c H locs 0 0 (QI below args s A D τ (wdC τ σ ad) o) (F0 m 52 ls [.int s0]) := by
  obtain ⟨c7, h⟩ := ck_some h
  obtain rfl := Option.some.inj h
  exact rt_z E w hret c7 d_Chk_leavesLoop_52
def F_Chk_leavesLoop_51 (σ : Sg) : Option (Int32) := F_Chk_leavesLoop_52 σ 0
set_option maxRecDepth 10000 in
set_option maxHeartbeats 4000000 in
theorem bt_Chk_leavesLoop_51 {p : Program} {l : Launch} {e : Env} {R : Room} {s : State} {m : MethodId} {args : Array Value} {below : List Frame} {meth : Method} {c : Code} {D : va_G} {τ : ClassId × ClassId × ClassId} {B : Nat} {A : Nat → Prop} {ad : Nat → Nat} (E : Cx p R s m args meth c prog_2_method_12_code 5 "DrawingMachine$Checker" 0 D τ B A) (hret : meth.sig.returnType = (some .boolean)) (o : Int32) (σ : Sg) (h : F_Chk_leavesLoop_51 σ = some o) {H : Heap} {locs : List Loc} {ls : Array Slot} (w : Wd s D A (wdC τ σ ad) H locs) (hl : lv_has ls 5 []) : W p l e R s m args below meth c H locs 0 0 (QI below args s A D τ (wdC τ σ ad) o) (F0 m 51 ls []) := by
  refine lv_iconst (v := 0) E.x E.b d_Chk_leavesLoop_51 (by decide) ?_
  exact bt_Chk_leavesLoop_52 E hret o σ 0 h w (lv_sub hl [] rfl)
def F_Chk_leavesLoop_29 (σ : Sg) (v2 : Int32) (v3 : Int32) : Option (Int32) := ck (inb v2 256) (ck (inb (ushr v3 17) 256) (if (σ.2.2.1 8 v2.toNatClampNeg) = (σ.2.2.1 8 (ushr v3 17).toNatClampNeg) then (F_Chk_leavesLoop_51 σ) else (F_Chk_leavesLoop_52 σ 1)))
set_option maxRecDepth 10000 in
set_option maxHeartbeats 4000000 in
theorem bt_Chk_leavesLoop_29 {p : Program} {l : Launch} {e : Env} {R : Room} {s : State} {m : MethodId} {args : Array Value} {below : List Frame} {meth : Method} {c : Code} {D : va_G} {τ : ClassId × ClassId × ClassId} {B : Nat} {A : Nat → Prop} {ad : Nat → Nat} (E : Cx p R s m args meth c prog_2_method_12_code 5 "DrawingMachine$Checker" 0 D τ B A) (hret : meth.sig.returnType = (some .boolean)) (o : Int32) (σ : Sg) (v2 : Int32) (v3 : Int32) (h : F_Chk_leavesLoop_29 σ v2 v3 = some o) {H : Heap} {locs : List Loc} {ls : Array Slot} (w : Wd s D A (wdC τ σ ad) H locs) (hl : lv_has ls 5 [(0, .ref (ad 60)), (2, .int v2), (3, .int v3)]) : W p l e R s m args below meth c H locs 0 0 (QI below args s A D τ (wdC τ σ ad) o) (F0 m 29 ls []) := by
  refine lv_aload_n E.x E.b d_Chk_leavesLoop_29 rfl (lv_at hl 0 rfl) ?_
  refine gC_Chk_loopOf E w k178 d_Chk_leavesLoop_30 ?_
  refine lv_iload_n E.x E.b d_Chk_leavesLoop_33 rfl (lv_at hl 1 rfl) ?_
  obtain ⟨c8, h⟩ := ck_some h
  refine ialC E w (k := 8) (by decide) c8 d_Chk_leavesLoop_34 ?_
  refine lv_aload_n E.x E.b d_Chk_leavesLoop_35 rfl (lv_at hl 0 rfl) ?_
  refine gC_Chk_loopOf E w k178 d_Chk_leavesLoop_36 ?_
  refine lv_iload_n E.x E.b d_Chk_leavesLoop_39 rfl (lv_at hl 2 rfl) ?_
  refine lv_bipush (v := 17) E.x E.b d_Chk_leavesLoop_40 (by decide) ?_
  refine lv_iushr (v := ushr v3 17) E.x E.b d_Chk_leavesLoop_42 rfl ?_
  obtain ⟨c9, h⟩ := ck_some h
  refine ialC E w (k := 8) (by decide) c9 d_Chk_leavesLoop_43 ?_
  refine lv_icmp_eq (tgt := 51) E.x E.b d_Chk_leavesLoop_44 (by decide) (fun c => ?_) (fun c => ?_)
  ·
    replace h := ifT c h
    exact bt_Chk_leavesLoop_51 E hret o σ h w (lv_sub hl [] rfl)
  ·
    replace h := ifF c h
    refine lv_iconst (v := 1) E.x E.b d_Chk_leavesLoop_47 (by decide) ?_
    refine lv_goto (tgt := 52) E.x E.b d_Chk_leavesLoop_48 (by decide) ?_
    exact bt_Chk_leavesLoop_52 E hret o σ 1 h w (lv_sub hl [] rfl)
def F_Chk_leavesLoop (σ : Sg) (p1 : Nat) (x1 : Int32) : Option (Int32) := ck (p1 < 3) (ck (inb (3 * x1) (lenC σ (21 + 1 * p1))) (lt (σ.2.2.1 (21 + 1 * p1) (3 * x1).toNatClampNeg) (fun y12 => lt (y12 &&& 63) (fun y13 => if y13 = 37 then (F_Chk_leavesLoop_29 σ x1 y12) else (if y13 = 36 then (F_Chk_leavesLoop_29 σ x1 y12) else (F_Chk_leavesLoop_51 σ))))))
set_option maxRecDepth 10000 in
set_option maxHeartbeats 4000000 in
theorem c_Chk_leavesLoop (l : Launch) (D : va_G) (τ : ClassId × ClassId × ClassId) (B : Nat) (σ : Sg) (ad : Nat → Nat) (p1 : Nat) (x1 : Int32) (o : Int32) (h : F_Chk_leavesLoop σ p1 x1 = some o) : MI l y_Chk_leavesLoop (Cond.code y_Chk_leavesLoop prog_2_method_12_code 5 (some .boolean)) 0 D τ B [.ref (ad 60), .ref (ad (67 + p1)), .int x1] (wdC τ σ ad) (wdC τ σ ad) o := by
  refine en_i (by decide) (Nat.le_of_ble_eq_true rfl) ?_
  intro p e R s m args below meth c H locs ls A E hret w hl
  have E : Cx p R s m args meth c prog_2_method_12_code 5 "DrawingMachine$Checker" 0 D τ B A := E
  have hl : lv_has ls 5 [(0, .ref (ad 60)), (1, .ref (ad (67 + p1))), (2, .int x1)] := hl
  obtain ⟨c10, h⟩ := ck_some h
  refine lv_aload_n E.x E.b d_Chk_leavesLoop_0 rfl (lv_at hl 1 rfl) ?_
  refine gC_Prg_words E w (pid := p1) c10 k412 d_Chk_leavesLoop_1 ?_
  refine lv_iconst (v := 3) E.x E.b d_Chk_leavesLoop_4 (by decide) ?_
  refine lv_iload_n E.x E.b d_Chk_leavesLoop_5 rfl (lv_at hl 2 rfl) ?_
  refine lv_imul E.x E.b d_Chk_leavesLoop_6 ?_
  obtain ⟨c11, h⟩ := ck_some h
  refine ialC E w (k := (21 + 1 * p1)) (by omega) c11 d_Chk_leavesLoop_7 ?_
  obtain ⟨y12, e_y12, h⟩ := lt_some h
  refine wi_e (v := y12) e_y12 ?_
  refine lv_istore_n (lv' := [(3, .int y12), (0, .ref (ad 60)), (1, .ref (ad (67 + p1))), (2, .int x1)]) E.x E.b d_Chk_leavesLoop_8 rfl hl (by decide) rfl (fun ls hl => ?_)
  refine lv_iload_n E.x E.b d_Chk_leavesLoop_9 rfl (lv_at hl 0 rfl) ?_
  refine lv_bipush (v := 63) E.x E.b d_Chk_leavesLoop_10 (by decide) ?_
  refine lv_iand E.x E.b d_Chk_leavesLoop_12 ?_
  obtain ⟨y13, e_y13, h⟩ := lt_some h
  refine wi_e (v := y13) e_y13 ?_
  refine lv_istore (lv' := [(4, .int y13), (3, .int y12), (0, .ref (ad 60)), (1, .ref (ad (67 + p1))), (2, .int x1)]) E.x E.b d_Chk_leavesLoop_13 hl (by decide) rfl (fun ls hl => ?_)
  refine lv_iload E.x E.b d_Chk_leavesLoop_15 (lv_at hl 0 rfl) ?_
  refine lv_bipush (v := 37) E.x E.b d_Chk_leavesLoop_17 (by decide) ?_
  refine lv_icmp_eq (tgt := 29) E.x E.b d_Chk_leavesLoop_19 (by decide) (fun c => ?_) (fun c => ?_)
  ·
    replace h := ifT c h
    exact bt_Chk_leavesLoop_29 E hret o σ x1 y12 h w (lv_sub hl [2, 4, 1] rfl)
  ·
    replace h := ifF c h
    refine lv_iload E.x E.b d_Chk_leavesLoop_22 (lv_at hl 0 rfl) ?_
    refine lv_bipush (v := 36) E.x E.b d_Chk_leavesLoop_24 (by decide) ?_
    refine lv_icmp_ne (tgt := 51) E.x E.b d_Chk_leavesLoop_26 (by decide) (fun c => ?_) (fun c => ?_)
    ·
      replace h := ifF c h
      exact bt_Chk_leavesLoop_51 E hret o σ h w (lv_sub hl [] rfl)
    ·
      replace h := ifT c h
      exact bt_Chk_leavesLoop_29 E hret o σ x1 y12 h w (lv_sub hl [2, 4, 1] rfl)
theorem clV_Chk_leavesLoop {p : Program} {l : Launch} {e : Env} {R : Room} {s : State} {m : MethodId} {args : Array Value} {below : List Frame} {meth : Method} {c : Code} {H : Heap} {locs : List Loc} {Q : State → Prop} {cc : ByteArray} {nL pc lev : Nat} {own : String} {D : va_G} {τ : ClassId × ClassId × ClassId} {B : Nat} {A : Nat → Prop} {σ : Sg} {ad : Nat → Nat} {ls : Array Slot} {rest : List Value} (E : Cx p R s m args meth c cc nL own lev D τ B A) (w : Wd s D A (wdC τ σ ad) H locs) {p1 : Nat} {x1 : Int32} {o : Int32} (h : F_Chk_leavesLoop σ p1 x1 = some o) {index : Nat} (hlk : Cond.methodLink own index y_Chk_leavesLoop ∈ tw) (hlev : 0 < lev) (hsz : ls.size = nL) (hr : (rest.map fun v => v.category).sum ≤ 8) (hd : decode cc pc = .ok (.invokevirtual index, 3)) (kk : ∀ (H1 : Heap) (locs1 : List Loc), Wd s D A (wdC τ σ ad) H1 locs1 → W p l e R s m args below meth c H1 locs1 0 0 Q (F0 m (pc + 3) ls (.int o :: rest))) : W p l e R s m args below meth c H locs 0 0 Q (F0 m pc ls (.int x1 :: .ref (ad (67 + p1)) :: .ref (ad 60) :: rest)) :=
  cr_i w E.C (va_runV (As := [.ref (ad (67 + p1)), .int x1]) (rest := rest) E.fix (c_Chk_leavesLoop l D τ B σ ad p1 x1 o h H.size) (cwV 2 E.w (tw_pre (tw_good k1345) (l := [_, _, _, _]) (List.forall_mem_cons.mpr ⟨hlk, List.forall_mem_cons.mpr ⟨k1344, List.forall_mem_cons.mpr ⟨ks41, List.forall_mem_cons.mpr ⟨k6, fun _ h => absurd h List.not_mem_nil⟩⟩⟩⟩)) rfl rfl rfl (by decide +kernel) (E.rm hlev (by decide))) (wd_preV w E.C [.ref (ad (67 + p1)), .int x1] rcC_Chk rfl) rfl rfl hsz rfl (lv_room hr) hd ⟨Nat.zero_le _, Nat.zero_le _⟩) kk

theorem d_Chk_readBy_0 : decode prog_2_method_11_code 0 = .ok (.iload_n 0, 1) := by decide +kernel
theorem d_Chk_readBy_1 : decode prog_2_method_11_code 1 = .ok (.iconst 3, 1) := by decide +kernel
theorem d_Chk_readBy_2 : decode prog_2_method_11_code 2 = .ok (.iand, 1) := by decide +kernel
theorem d_Chk_readBy_3 : decode prog_2_method_11_code 3 = .ok (.iconst 1, 1) := by decide +kernel
theorem d_Chk_readBy_4 : decode prog_2_method_11_code 4 = .ok (.if_icmp .ne 14, 3) := by decide +kernel
theorem d_Chk_readBy_7 : decode prog_2_method_11_code 7 = .ok (.iconst 1, 1) := by decide +kernel
theorem d_Chk_readBy_8 : decode prog_2_method_11_code 8 = .ok (.iload_n 0, 1) := by decide +kernel
theorem d_Chk_readBy_9 : decode prog_2_method_11_code 9 = .ok (.iconst 2, 1) := by decide +kernel
theorem d_Chk_readBy_10 : decode prog_2_method_11_code 10 = .ok (.iushr, 1) := by decide +kernel
theorem d_Chk_readBy_11 : decode prog_2_method_11_code 11 = .ok (.bipush 7, 2) := by decide +kernel
theorem d_Chk_readBy_13 : decode prog_2_method_11_code 13 = .ok (.iand, 1) := by decide +kernel
theorem d_Chk_readBy_14 : decode prog_2_method_11_code 14 = .ok (.ishl, 1) := by decide +kernel
theorem d_Chk_readBy_15 : decode prog_2_method_11_code 15 = .ok (.goto 4, 3) := by decide +kernel
theorem d_Chk_readBy_18 : decode prog_2_method_11_code 18 = .ok (.iconst 0, 1) := by decide +kernel
theorem d_Chk_readBy_19 : decode prog_2_method_11_code 19 = .ok (.ireturn, 1) := by decide +kernel
def F_Chk_readBy_19  (s0 : Int32) : Option (Int32) := some s0
set_option maxRecDepth 10000 in
set_option maxHeartbeats 4000000 in
theorem bt_Chk_readBy_19 {p : Program} {l : Launch} {e : Env} {R : Room} {s : State} {m : MethodId} {args : Array Value} {below : List Frame} {meth : Method} {c : Code} {D : va_G} {τ : ClassId × ClassId × ClassId} {B : Nat} {A : Nat → Prop} {ad : Nat → Nat} {σ0 : Sg} (E : Cx p R s m args meth c prog_2_method_11_code 1 "DrawingMachine$Checker" 0 D τ B A) (hret : meth.sig.returnType = (some .int)) (o : Int32) (s0 : Int32) (h : F_Chk_readBy_19 s0 = some o) {H : Heap} {locs : List Loc} {ls : Array Slot} (w : Wd s D A (wdC τ σ0 ad) H locs) (hl : lv_has ls 1 []) : W p l e R s m args below meth c H locs 0 0 (QI below args s A D τ (wdC τ σ0 ad) o) (F0 m 19 ls [.int s0]) := by
  obtain rfl := Option.some.inj h
  exact rt_i E w hret d_Chk_readBy_19
def F_Chk_readBy  (x0 : Int32) : Option (Int32) := if (x0 &&& 3) = 1 then (F_Chk_readBy_19 (1 <<< (((ushr x0 2) &&& 7) &&& 31))) else (F_Chk_readBy_19 0)
set_option maxRecDepth 10000 in
set_option maxHeartbeats 4000000 in
theorem c_Chk_readBy (l : Launch) (D : va_G) (τ : ClassId × ClassId × ClassId) (B : Nat) (σ0 : Sg) (ad : Nat → Nat) (x0 : Int32) (o : Int32) (h : F_Chk_readBy x0 = some o) : MI l y_Chk_readBy (Cond.code y_Chk_readBy prog_2_method_11_code 1 (some .int)) 0 D τ B [.int x0] (wdC τ σ0 ad) (wdC τ σ0 ad) o := by
  refine en_i (by decide) (Nat.le_of_ble_eq_true rfl) ?_
  intro p e R s m args below meth c H locs ls A E hret w hl
  have E : Cx p R s m args meth c prog_2_method_11_code 1 "DrawingMachine$Checker" 0 D τ B A := E
  have hl : lv_has ls 1 [(0, .int x0)] := hl
  refine lv_iload_n E.x E.b d_Chk_readBy_0 rfl (lv_at hl 0 rfl) ?_
  refine lv_iconst (v := 3) E.x E.b d_Chk_readBy_1 (by decide) ?_
  refine lv_iand E.x E.b d_Chk_readBy_2 ?_
  refine lv_iconst (v := 1) E.x E.b d_Chk_readBy_3 (by decide) ?_
  refine lv_icmp_ne (tgt := 18) E.x E.b d_Chk_readBy_4 (by decide) (fun c => ?_) (fun c => ?_)
  ·
    replace h := ifF c h
    refine lv_iconst (v := 0) E.x E.b d_Chk_readBy_18 (by decide) ?_
    exact bt_Chk_readBy_19 E hret o 0 h w (lv_sub hl [] rfl)
  ·
    replace h := ifT c h
    refine lv_iconst (v := 1) E.x E.b d_Chk_readBy_7 (by decide) ?_
    refine lv_iload_n E.x E.b d_Chk_readBy_8 rfl (lv_at hl 0 rfl) ?_
    refine lv_iconst (v := 2) E.x E.b d_Chk_readBy_9 (by decide) ?_
    refine lv_iushr (v := ushr x0 2) E.x E.b d_Chk_readBy_10 rfl ?_
    refine lv_bipush (v := 7) E.x E.b d_Chk_readBy_11 (by decide) ?_
    refine lv_iand E.x E.b d_Chk_readBy_13 ?_
    refine lv_ishl E.x E.b d_Chk_readBy_14 ?_
    refine lv_goto (tgt := 19) E.x E.b d_Chk_readBy_15 (by decide) ?_
    exact bt_Chk_readBy_19 E hret o (1 <<< (((ushr x0 2) &&& 7) &&& 31)) h w (lv_sub hl [] rfl)
theorem clS_Chk_readBy {p : Program} {l : Launch} {e : Env} {R : Room} {s : State} {m : MethodId} {args : Array Value} {below : List Frame} {meth : Method} {c : Code} {H : Heap} {locs : List Loc} {Q : State → Prop} {cc : ByteArray} {nL pc lev : Nat} {own : String} {D : va_G} {τ : ClassId × ClassId × ClassId} {B : Nat} {A : Nat → Prop} {σ : Sg} {ad : Nat → Nat} {ls : Array Slot} {rest : List Value} (E : Cx p R s m args meth c cc nL own lev D τ B A) (w : Wd s D A (wdC τ σ ad) H locs) {x0 : Int32} {o : Int32} (h : F_Chk_readBy x0 = some o) {index : Nat} (hlk : Cond.methodLink own index y_Chk_readBy ∈ tw) (hlev : 0 < lev) (hsz : ls.size = nL) (hr : (rest.map fun v => v.category).sum ≤ 8) (hd : decode cc pc = .ok (.invokestatic index, 3)) (kk : ∀ (H1 : Heap) (locs1 : List Loc), Wd s D A (wdC τ σ ad) H1 locs1 → W p l e R s m args below meth c H1 locs1 0 0 Q (F0 m (pc + 3) ls (.int o :: rest))) : W p l e R s m args below meth c H locs 0 0 Q (F0 m pc ls (.int x0 :: rest)) :=
  cr_i w E.C (va_runS (As := [.int x0]) (rest := rest) E.fix (c_Chk_readBy l D τ B σ ad x0 o h H.size) (va_cwS 1 E.w (tw_pre (tw_good k1341) (l := [_, _, _]) (List.forall_mem_cons.mpr ⟨hlk, List.forall_mem_cons.mpr ⟨k1340, List.forall_mem_cons.mpr ⟨k6, fun _ h => absurd h List.not_mem_nil⟩⟩⟩)) rfl rfl rfl (by decide +kernel) (E.rm hlev (by decide))) (wd_pre w E.C [.int x0]) rfl rfl hsz rfl (lv_room hr) hd ⟨Nat.zero_le _, Nat.zero_le _⟩) kk

theorem d_Chk_pass_0 : decode prog_2_method_10_code 0 = .ok (.aload_n 1, 1) := by decide +kernel
theorem d_Chk_pass_1 : decode prog_2_method_10_code 1 = .ok (.getfield 64, 3) := by decide +kernel
theorem d_Chk_pass_4 : decode prog_2_method_10_code 4 = .ok (.iconst 3, 1) := by decide +kernel
theorem d_Chk_pass_5 : decode prog_2_method_10_code 5 = .ok (.iload_n 2, 1) := by decide +kernel
theorem d_Chk_pass_6 : decode prog_2_method_10_code 6 = .ok (.imul, 1) := by decide +kernel
theorem d_Chk_pass_7 : decode prog_2_method_10_code 7 = .ok (.iaload, 1) := by decide +kernel
theorem d_Chk_pass_8 : decode prog_2_method_10_code 8 = .ok (.istore_n 3, 1) := by decide +kernel
theorem d_Chk_pass_9 : decode prog_2_method_10_code 9 = .ok (.iload_n 3, 1) := by decide +kernel
theorem d_Chk_pass_10 : decode prog_2_method_10_code 10 = .ok (.bipush 63, 2) := by decide +kernel
theorem d_Chk_pass_12 : decode prog_2_method_10_code 12 = .ok (.iand, 1) := by decide +kernel
theorem d_Chk_pass_13 : decode prog_2_method_10_code 13 = .ok (.istore 4, 2) := by decide +kernel
theorem d_Chk_pass_15 : decode prog_2_method_10_code 15 = .ok (.aload_n 0, 1) := by decide +kernel
theorem d_Chk_pass_16 : decode prog_2_method_10_code 16 = .ok (.getfield 15, 3) := by decide +kernel
theorem d_Chk_pass_19 : decode prog_2_method_10_code 19 = .ok (.iload_n 2, 1) := by decide +kernel
theorem d_Chk_pass_20 : decode prog_2_method_10_code 20 = .ok (.aload_n 0, 1) := by decide +kernel
theorem d_Chk_pass_21 : decode prog_2_method_10_code 21 = .ok (.getfield 29, 3) := by decide +kernel
theorem d_Chk_pass_24 : decode prog_2_method_10_code 24 = .ok (.ifCond .ne 7, 3) := by decide +kernel
theorem d_Chk_pass_27 : decode prog_2_method_10_code 27 = .ok (.iconst (-1), 1) := by decide +kernel
theorem d_Chk_pass_28 : decode prog_2_method_10_code 28 = .ok (.goto 14, 3) := by decide +kernel
theorem d_Chk_pass_31 : decode prog_2_method_10_code 31 = .ok (.aload_n 0, 1) := by decide +kernel
theorem d_Chk_pass_32 : decode prog_2_method_10_code 32 = .ok (.getfield 19, 3) := by decide +kernel
theorem d_Chk_pass_35 : decode prog_2_method_10_code 35 = .ok (.aload_n 0, 1) := by decide +kernel
theorem d_Chk_pass_36 : decode prog_2_method_10_code 36 = .ok (.getfield 29, 3) := by decide +kernel
theorem d_Chk_pass_39 : decode prog_2_method_10_code 39 = .ok (.iconst 1, 1) := by decide +kernel
theorem d_Chk_pass_40 : decode prog_2_method_10_code 40 = .ok (.isub, 1) := by decide +kernel
theorem d_Chk_pass_41 : decode prog_2_method_10_code 41 = .ok (.iaload, 1) := by decide +kernel
theorem d_Chk_pass_42 : decode prog_2_method_10_code 42 = .ok (.iastore, 1) := by decide +kernel
theorem d_Chk_pass_43 : decode prog_2_method_10_code 43 = .ok (.aload_n 0, 1) := by decide +kernel
theorem d_Chk_pass_44 : decode prog_2_method_10_code 44 = .ok (.dup, 1) := by decide +kernel
theorem d_Chk_pass_45 : decode prog_2_method_10_code 45 = .ok (.getfield 32, 3) := by decide +kernel
theorem d_Chk_pass_48 : decode prog_2_method_10_code 48 = .ok (.aload_n 0, 1) := by decide +kernel
theorem d_Chk_pass_49 : decode prog_2_method_10_code 49 = .ok (.getfield 22, 3) := by decide +kernel
theorem d_Chk_pass_52 : decode prog_2_method_10_code 52 = .ok (.aload_n 0, 1) := by decide +kernel
theorem d_Chk_pass_53 : decode prog_2_method_10_code 53 = .ok (.getfield 29, 3) := by decide +kernel
theorem d_Chk_pass_56 : decode prog_2_method_10_code 56 = .ok (.laload, 1) := by decide +kernel
theorem d_Chk_pass_57 : decode prog_2_method_10_code 57 = .ok (.ladd, 1) := by decide +kernel
theorem d_Chk_pass_58 : decode prog_2_method_10_code 58 = .ok (.putfield 32, 3) := by decide +kernel
theorem d_Chk_pass_61 : decode prog_2_method_10_code 61 = .ok (.iload 4, 2) := by decide +kernel
theorem d_Chk_pass_63 : decode prog_2_method_10_code 63 = .ok (.bipush 34, 2) := by decide +kernel
theorem d_Chk_pass_65 : decode prog_2_method_10_code 65 = .ok (.if_icmp .ne 52, 3) := by decide +kernel
theorem d_Chk_pass_68 : decode prog_2_method_10_code 68 = .ok (.aload_n 0, 1) := by decide +kernel
theorem d_Chk_pass_69 : decode prog_2_method_10_code 69 = .ok (.getfield 19, 3) := by decide +kernel
theorem d_Chk_pass_72 : decode prog_2_method_10_code 72 = .ok (.aload_n 0, 1) := by decide +kernel
theorem d_Chk_pass_73 : decode prog_2_method_10_code 73 = .ok (.getfield 29, 3) := by decide +kernel
theorem d_Chk_pass_76 : decode prog_2_method_10_code 76 = .ok (.iload_n 2, 1) := by decide +kernel
theorem d_Chk_pass_77 : decode prog_2_method_10_code 77 = .ok (.iastore, 1) := by decide +kernel
theorem d_Chk_pass_78 : decode prog_2_method_10_code 78 = .ok (.aload_n 0, 1) := by decide +kernel
theorem d_Chk_pass_79 : decode prog_2_method_10_code 79 = .ok (.getfield 22, 3) := by decide +kernel
theorem d_Chk_pass_82 : decode prog_2_method_10_code 82 = .ok (.aload_n 0, 1) := by decide +kernel
theorem d_Chk_pass_83 : decode prog_2_method_10_code 83 = .ok (.getfield 29, 3) := by decide +kernel
theorem d_Chk_pass_86 : decode prog_2_method_10_code 86 = .ok (.iconst 1, 1) := by decide +kernel
theorem d_Chk_pass_87 : decode prog_2_method_10_code 87 = .ok (.iadd, 1) := by decide +kernel
theorem d_Chk_pass_88 : decode prog_2_method_10_code 88 = .ok (.aload_n 0, 1) := by decide +kernel
theorem d_Chk_pass_89 : decode prog_2_method_10_code 89 = .ok (.getfield 22, 3) := by decide +kernel
theorem d_Chk_pass_92 : decode prog_2_method_10_code 92 = .ok (.aload_n 0, 1) := by decide +kernel
theorem d_Chk_pass_93 : decode prog_2_method_10_code 93 = .ok (.getfield 29, 3) := by decide +kernel
theorem d_Chk_pass_96 : decode prog_2_method_10_code 96 = .ok (.laload, 1) := by decide +kernel
theorem d_Chk_pass_97 : decode prog_2_method_10_code 97 = .ok (.iload_n 3, 1) := by decide +kernel
theorem d_Chk_pass_98 : decode prog_2_method_10_code 98 = .ok (.bipush 17, 2) := by decide +kernel
theorem d_Chk_pass_100 : decode prog_2_method_10_code 100 = .ok (.iushr, 1) := by decide +kernel
theorem d_Chk_pass_101 : decode prog_2_method_10_code 101 = .ok (.i2l, 1) := by decide +kernel
theorem d_Chk_pass_102 : decode prog_2_method_10_code 102 = .ok (.lmul, 1) := by decide +kernel
theorem d_Chk_pass_103 : decode prog_2_method_10_code 103 = .ok (.lastore, 1) := by decide +kernel
theorem d_Chk_pass_104 : decode prog_2_method_10_code 104 = .ok (.aload_n 0, 1) := by decide +kernel
theorem d_Chk_pass_105 : decode prog_2_method_10_code 105 = .ok (.dup, 1) := by decide +kernel
theorem d_Chk_pass_106 : decode prog_2_method_10_code 106 = .ok (.getfield 29, 3) := by decide +kernel
theorem d_Chk_pass_109 : decode prog_2_method_10_code 109 = .ok (.iconst 1, 1) := by decide +kernel
theorem d_Chk_pass_110 : decode prog_2_method_10_code 110 = .ok (.iadd, 1) := by decide +kernel
theorem d_Chk_pass_111 : decode prog_2_method_10_code 111 = .ok (.putfield 29, 3) := by decide +kernel
theorem d_Chk_pass_114 : decode prog_2_method_10_code 114 = .ok (.goto 20, 3) := by decide +kernel
theorem d_Chk_pass_117 : decode prog_2_method_10_code 117 = .ok (.iload 4, 2) := by decide +kernel
theorem d_Chk_pass_119 : decode prog_2_method_10_code 119 = .ok (.bipush 35, 2) := by decide +kernel
theorem d_Chk_pass_121 : decode prog_2_method_10_code 121 = .ok (.if_icmp .ne 13, 3) := by decide +kernel
theorem d_Chk_pass_124 : decode prog_2_method_10_code 124 = .ok (.aload_n 0, 1) := by decide +kernel
theorem d_Chk_pass_125 : decode prog_2_method_10_code 125 = .ok (.dup, 1) := by decide +kernel
theorem d_Chk_pass_126 : decode prog_2_method_10_code 126 = .ok (.getfield 29, 3) := by decide +kernel
theorem d_Chk_pass_129 : decode prog_2_method_10_code 129 = .ok (.iconst 1, 1) := by decide +kernel
theorem d_Chk_pass_130 : decode prog_2_method_10_code 130 = .ok (.isub, 1) := by decide +kernel
theorem d_Chk_pass_131 : decode prog_2_method_10_code 131 = .ok (.putfield 29, 3) := by decide +kernel
theorem d_Chk_pass_134 : decode prog_2_method_10_code 134 = .ok (.aload_n 1, 1) := by decide +kernel
theorem d_Chk_pass_135 : decode prog_2_method_10_code 135 = .ok (.getfield 64, 3) := by decide +kernel
theorem d_Chk_pass_138 : decode prog_2_method_10_code 138 = .ok (.iconst 3, 1) := by decide +kernel
theorem d_Chk_pass_139 : decode prog_2_method_10_code 139 = .ok (.iload_n 2, 1) := by decide +kernel
theorem d_Chk_pass_140 : decode prog_2_method_10_code 140 = .ok (.imul, 1) := by decide +kernel
theorem d_Chk_pass_141 : decode prog_2_method_10_code 141 = .ok (.iconst 1, 1) := by decide +kernel
theorem d_Chk_pass_142 : decode prog_2_method_10_code 142 = .ok (.iadd, 1) := by decide +kernel
theorem d_Chk_pass_143 : decode prog_2_method_10_code 143 = .ok (.iaload, 1) := by decide +kernel
theorem d_Chk_pass_144 : decode prog_2_method_10_code 144 = .ok (.istore 5, 2) := by decide +kernel
theorem d_Chk_pass_146 : decode prog_2_method_10_code 146 = .ok (.aload_n 1, 1) := by decide +kernel
theorem d_Chk_pass_147 : decode prog_2_method_10_code 147 = .ok (.dup, 1) := by decide +kernel
theorem d_Chk_pass_148 : decode prog_2_method_10_code 148 = .ok (.getfield 36, 3) := by decide +kernel
theorem d_Chk_pass_151 : decode prog_2_method_10_code 151 = .ok (.iload 5, 2) := by decide +kernel
theorem d_Chk_pass_153 : decode prog_2_method_10_code 153 = .ok (.ldc 85, 2) := by decide +kernel
theorem d_Chk_pass_155 : decode prog_2_method_10_code 155 = .ok (.iand, 1) := by decide +kernel
theorem d_Chk_pass_156 : decode prog_2_method_10_code 156 = .ok (.invokestatic 90, 3) := by decide +kernel
theorem d_Chk_pass_159 : decode prog_2_method_10_code 159 = .ok (.iload 5, 2) := by decide +kernel
theorem d_Chk_pass_161 : decode prog_2_method_10_code 161 = .ok (.bipush 16, 2) := by decide +kernel
theorem d_Chk_pass_163 : decode prog_2_method_10_code 163 = .ok (.iushr, 1) := by decide +kernel
theorem d_Chk_pass_164 : decode prog_2_method_10_code 164 = .ok (.invokestatic 90, 3) := by decide +kernel
theorem d_Chk_pass_167 : decode prog_2_method_10_code 167 = .ok (.ior, 1) := by decide +kernel
theorem d_Chk_pass_168 : decode prog_2_method_10_code 168 = .ok (.aload_n 1, 1) := by decide +kernel
theorem d_Chk_pass_169 : decode prog_2_method_10_code 169 = .ok (.getfield 64, 3) := by decide +kernel
theorem d_Chk_pass_172 : decode prog_2_method_10_code 172 = .ok (.iconst 3, 1) := by decide +kernel
theorem d_Chk_pass_173 : decode prog_2_method_10_code 173 = .ok (.iload_n 2, 1) := by decide +kernel
theorem d_Chk_pass_174 : decode prog_2_method_10_code 174 = .ok (.imul, 1) := by decide +kernel
theorem d_Chk_pass_175 : decode prog_2_method_10_code 175 = .ok (.iconst 2, 1) := by decide +kernel
theorem d_Chk_pass_176 : decode prog_2_method_10_code 176 = .ok (.iadd, 1) := by decide +kernel
theorem d_Chk_pass_177 : decode prog_2_method_10_code 177 = .ok (.iaload, 1) := by decide +kernel
theorem d_Chk_pass_178 : decode prog_2_method_10_code 178 = .ok (.invokestatic 90, 3) := by decide +kernel
theorem d_Chk_pass_181 : decode prog_2_method_10_code 181 = .ok (.ior, 1) := by decide +kernel
theorem d_Chk_pass_182 : decode prog_2_method_10_code 182 = .ok (.ior, 1) := by decide +kernel
theorem d_Chk_pass_183 : decode prog_2_method_10_code 183 = .ok (.putfield 36, 3) := by decide +kernel
theorem d_Chk_pass_186 : decode prog_2_method_10_code 186 = .ok (.return_, 1) := by decide +kernel
def F_Chk_pass_134 (σ : Sg) (v1 : Nat) (v2 : Int32) : Option (Sg) := ck (v1 < 3) (ck (inb ((3 * v2) + 1) (lenC σ (21 + 1 * v1))) (lt (σ.2.2.1 (21 + 1 * v1) ((3 * v2) + 1).toNatClampNeg) (fun y25 => bd (F_Chk_readBy (y25 &&& 65535)) (fun o26 => bd (F_Chk_readBy (ushr y25 16)) (fun o27 => ck (inb ((3 * v2) + 2) (lenC σ (21 + 1 * v1))) (bd (F_Chk_readBy (σ.2.2.1 (21 + 1 * v1) ((3 * v2) + 2).toNatClampNeg)) (fun o29 => lt (sI σ (24 + 3 * v1) ((σ.1 (24 + 3 * v1)) ||| ((o26 ||| o27) ||| o29))) (fun σ30 => some σ30))))))))
set_option maxRecDepth 10000 in
set_option maxHeartbeats 4000000 in
theorem bt_Chk_pass_134 {p : Program} {l : Launch} {e : Env} {R : Room} {s : State} {m : MethodId} {args : Array Value} {below : List Frame} {meth : Method} {c : Code} {D : va_G} {τ : ClassId × ClassId × ClassId} {B : Nat} {A : Nat → Prop} {ad : Nat → Nat} (E : Cx p R s m args meth c prog_2_method_10_code 6 "DrawingMachine$Checker" 1 D τ B A) (hret : meth.sig.returnType = none) (o : Sg) (σ : Sg) (v1 : Nat) (v2 : Int32) (h : F_Chk_pass_134 σ v1 v2 = some o) {H : Heap} {locs : List Loc} {ls : Array Slot} (w : Wd s D A (wdC τ σ ad) H locs) (hl : lv_has ls 6 [(1, .ref (ad (67 + v1))), (2, .int v2)]) : W p l e R s m args below meth c H locs 0 0 (QV below args s A D τ (wdC τ o ad)) (F0 m 134 ls []) := by
  obtain ⟨c23, h⟩ := ck_some h
  refine lv_aload_n E.x E.b d_Chk_pass_134 rfl (lv_at hl 0 rfl) ?_
  refine gC_Prg_words E w (pid := v1) c23 k412 d_Chk_pass_135 ?_
  refine lv_iconst (v := 3) E.x E.b d_Chk_pass_138 (by decide) ?_
  refine lv_iload_n E.x E.b d_Chk_pass_139 rfl (lv_at hl 1 rfl) ?_
  refine lv_imul E.x E.b d_Chk_pass_140 ?_
  refine lv_iconst (v := 1) E.x E.b d_Chk_pass_141 (by decide) ?_
  refine lv_iadd E.x E.b d_Chk_pass_142 ?_
  obtain ⟨c24, h⟩ := ck_some h
  refine ialC E w (k := (21 + 1 * v1)) (by omega) c24 d_Chk_pass_143 ?_
  obtain ⟨y25, e_y25, h⟩ := lt_some h
  refine wi_e (v := y25) e_y25 ?_
  refine lv_istore (lv' := [(5, .int y25), (1, .ref (ad (67 + v1))), (2, .int v2)]) E.x E.b d_Chk_pass_144 hl (by decide) rfl (fun ls hl => ?_)
  refine lv_aload_n E.x E.b d_Chk_pass_146 rfl (lv_at hl 1 rfl) ?_
  refine lv_dup E.x E.b d_Chk_pass_147 rfl ?_
  refine gC_Prg_reads E w (pid := v1) c23 k420 d_Chk_pass_148 ?_
  refine lv_iload E.x E.b d_Chk_pass_151 (lv_at hl 0 rfl) ?_
  refine lv_ldc (v := 65535) E.x E.b E.o (E.w _ k1324) d_Chk_pass_153 ?_
  refine lv_iand E.x E.b d_Chk_pass_155 ?_
  obtain ⟨o26, h_o26, h⟩ := bd_some h
  refine clS_Chk_readBy E w (x0 := (y25 &&& 65535)) h_o26 k1339 (by decide) hl.1 (Nat.le_of_ble_eq_true rfl) d_Chk_pass_156 (fun H locs w => ?_)
  refine lv_iload E.x E.b d_Chk_pass_159 (lv_at hl 0 rfl) ?_
  refine lv_bipush (v := 16) E.x E.b d_Chk_pass_161 (by decide) ?_
  refine lv_iushr (v := ushr y25 16) E.x E.b d_Chk_pass_163 rfl ?_
  obtain ⟨o27, h_o27, h⟩ := bd_some h
  refine clS_Chk_readBy E w (x0 := (ushr y25 16)) h_o27 k1339 (by decide) hl.1 (Nat.le_of_ble_eq_true rfl) d_Chk_pass_164 (fun H locs w => ?_)
  refine lv_ior E.x E.b d_Chk_pass_167 ?_
  refine lv_aload_n E.x E.b d_Chk_pass_168 rfl (lv_at hl 1 rfl) ?_
  refine gC_Prg_words E w (pid := v1) c23 k412 d_Chk_pass_169 ?_
  refine lv_iconst (v := 3) E.x E.b d_Chk_pass_172 (by decide) ?_
  refine lv_iload_n E.x E.b d_Chk_pass_173 rfl (lv_at hl 2 rfl) ?_
  refine lv_imul E.x E.b d_Chk_pass_174 ?_
  refine lv_iconst (v := 2) E.x E.b d_Chk_pass_175 (by decide) ?_
  refine lv_iadd E.x E.b d_Chk_pass_176 ?_
  obtain ⟨c28, h⟩ := ck_some h
  refine ialC E w (k := (21 + 1 * v1)) (by omega) c28 d_Chk_pass_177 ?_
  obtain ⟨o29, h_o29, h⟩ := bd_some h
  refine clS_Chk_readBy E w (x0 := (σ.2.2.1 (21 + 1 * v1) ((3 * v2) + 2).toNatClampNeg)) h_o29 k1339 (by decide) hl.1 (Nat.le_of_ble_eq_true rfl) d_Chk_pass_178 (fun H locs w => ?_)
  refine lv_ior E.x E.b d_Chk_pass_181 ?_
  refine lv_ior E.x E.b d_Chk_pass_182 ?_
  obtain ⟨σ30, e_σ30, h⟩ := lt_some h
  refine pC_Prg_reads E w (pid := v1) c23 k420 e_σ30 d_Chk_pass_183 (fun H locs w => ?_)
  obtain rfl := Option.some.inj h
  exact rt_v E w hret d_Chk_pass_186
def F_Chk_pass_42 (σ : Sg) (v1 : Nat) (v2 : Int32) (v3 : Int32) (v4 : Int32) (s1 : Int32) (s2 : Int32) : Option (Sg) := ck (v1 < 3) (ck (inb s1 256) (lt (sA σ 8 (upd (σ.2.2.1 8) s1.toNatClampNeg s2)) (fun σ33 => ck (inb (σ33.1 14) 5) (lt (sJ σ33 1 ((σ33.2.1 1) + (σ33.2.2.2.1 0 (σ33.1 14).toNatClampNeg))) (fun σ35 => if v4 = 34 then (ck (inb (σ35.1 14) 4) (lt (sA σ35 9 (upd (σ35.2.2.1 9) (σ35.1 14).toNatClampNeg v2)) (fun σ38 => ck (inb (σ38.1 14) 5) (ck (inb ((σ38.1 14) + 1) 5) (lt (sB σ38 0 (vp_updL (σ38.2.2.2.1 0) ((σ38.1 14) + 1).toNatClampNeg ((σ38.2.2.2.1 0 (σ38.1 14).toNatClampNeg) * ((ushr v3 17).toInt64)))) (fun σ41 => lt (sI σ41 14 ((σ41.1 14) + 1)) (fun σ42 => F_Chk_pass_134 σ42 v1 v2))))))) else (if v4 = 35 then (lt (sI σ35 14 ((σ35.1 14) - 1)) (fun σ36 => F_Chk_pass_134 σ36 v1 v2)) else (F_Chk_pass_134 σ35 v1 v2)))))))
set_option maxRecDepth 10000 in
set_option maxHeartbeats 4000000 in
theorem bt_Chk_pass_42 {p : Program} {l : Launch} {e : Env} {R : Room} {s : State} {m : MethodId} {args : Array Value} {below : List Frame} {meth : Method} {c : Code} {D : va_G} {τ : ClassId × ClassId × ClassId} {B : Nat} {A : Nat → Prop} {ad : Nat → Nat} (E : Cx p R s m args meth c prog_2_method_10_code 6 "DrawingMachine$Checker" 1 D τ B A) (hret : meth.sig.returnType = none) (o : Sg) (σ : Sg) (v1 : Nat) (v2 : Int32) (v3 : Int32) (v4 : Int32) (s1 : Int32) (s2 : Int32) (h : F_Chk_pass_42 σ v1 v2 v3 v4 s1 s2 = some o) {H : Heap} {locs : List Loc} {ls : Array Slot} (w : Wd s D A (wdC τ σ ad) H locs) (hl : lv_has ls 6 [(0, .ref (ad 60)), (1, .ref (ad (67 + v1))), (2, .int v2), (3, .int v3), (4, .int v4)]) : W p l e R s m args below meth c H locs 0 0 (QV below args s A D τ (wdC τ o ad)) (F0 m 42 ls [.int s2, .int s1, .ref (ad 8)]) := by
  obtain ⟨c31, h⟩ := ck_some h
  obtain ⟨c32, h⟩ := ck_some h
  obtain ⟨σ33, e_σ33, h⟩ := lt_some h
  refine iasC E w (k := 8) (by decide) c32 e_σ33 d_Chk_pass_42 (fun H locs w => ?_)
  refine lv_aload_n E.x E.b d_Chk_pass_43 rfl (lv_at hl 0 rfl) ?_
  refine lv_dup E.x E.b d_Chk_pass_44 rfl ?_
  refine gC_Chk_steps E w k182 d_Chk_pass_45 ?_
  refine lv_aload_n E.x E.b d_Chk_pass_48 rfl (lv_at hl 0 rfl) ?_
  refine gC_Chk_times E w k180 d_Chk_pass_49 ?_
  refine lv_aload_n E.x E.b d_Chk_pass_52 rfl (lv_at hl 0 rfl) ?_
  refine gC_Chk_depth E w k181 d_Chk_pass_53 ?_
  obtain ⟨c34, h⟩ := ck_some h
  refine lalC_0 E w c34 d_Chk_pass_56 ?_
  refine lv_ladd E.x E.b d_Chk_pass_57 ?_
  obtain ⟨σ35, e_σ35, h⟩ := lt_some h
  refine pC_Chk_steps E w k182 e_σ35 d_Chk_pass_58 (fun H locs w => ?_)
  refine lv_iload E.x E.b d_Chk_pass_61 (lv_at hl 4 rfl) ?_
  refine lv_bipush (v := 34) E.x E.b d_Chk_pass_63 (by decide) ?_
  refine lv_icmp_ne (tgt := 117) E.x E.b d_Chk_pass_65 (by decide) (fun c => ?_) (fun c => ?_)
  ·
    replace h := ifF c h
    refine lv_iload E.x E.b d_Chk_pass_117 (lv_at hl 4 rfl) ?_
    refine lv_bipush (v := 35) E.x E.b d_Chk_pass_119 (by decide) ?_
    refine lv_icmp_ne (tgt := 134) E.x E.b d_Chk_pass_121 (by decide) (fun c => ?_) (fun c => ?_)
    ·
      replace h := ifF c h
      exact bt_Chk_pass_134 E hret o σ35 v1 v2 h w (lv_sub hl [1, 2] rfl)
    ·
      replace h := ifT c h
      refine lv_aload_n E.x E.b d_Chk_pass_124 rfl (lv_at hl 0 rfl) ?_
      refine lv_dup E.x E.b d_Chk_pass_125 rfl ?_
      refine gC_Chk_depth E w k181 d_Chk_pass_126 ?_
      refine lv_iconst (v := 1) E.x E.b d_Chk_pass_129 (by decide) ?_
      refine lv_isub E.x E.b d_Chk_pass_130 ?_
      obtain ⟨σ36, e_σ36, h⟩ := lt_some h
      refine pC_Chk_depth E w k181 e_σ36 d_Chk_pass_131 (fun H locs w => ?_)
      exact bt_Chk_pass_134 E hret o σ36 v1 v2 h w (lv_sub hl [1, 2] rfl)
  ·
    replace h := ifT c h
    refine lv_aload_n E.x E.b d_Chk_pass_68 rfl (lv_at hl 0 rfl) ?_
    refine gC_Chk_open E w k179 d_Chk_pass_69 ?_
    refine lv_aload_n E.x E.b d_Chk_pass_72 rfl (lv_at hl 0 rfl) ?_
    refine gC_Chk_depth E w k181 d_Chk_pass_73 ?_
    refine lv_iload_n E.x E.b d_Chk_pass_76 rfl (lv_at hl 2 rfl) ?_
    obtain ⟨c37, h⟩ := ck_some h
    obtain ⟨σ38, e_σ38, h⟩ := lt_some h
    refine iasC E w (k := 9) (by decide) c37 e_σ38 d_Chk_pass_77 (fun H locs w => ?_)
    refine lv_aload_n E.x E.b d_Chk_pass_78 rfl (lv_at hl 0 rfl) ?_
    refine gC_Chk_times E w k180 d_Chk_pass_79 ?_
    refine lv_aload_n E.x E.b d_Chk_pass_82 rfl (lv_at hl 0 rfl) ?_
    refine gC_Chk_depth E w k181 d_Chk_pass_83 ?_
    refine lv_iconst (v := 1) E.x E.b d_Chk_pass_86 (by decide) ?_
    refine lv_iadd E.x E.b d_Chk_pass_87 ?_
    refine lv_aload_n E.x E.b d_Chk_pass_88 rfl (lv_at hl 0 rfl) ?_
    refine gC_Chk_times E w k180 d_Chk_pass_89 ?_
    refine lv_aload_n E.x E.b d_Chk_pass_92 rfl (lv_at hl 0 rfl) ?_
    refine gC_Chk_depth E w k181 d_Chk_pass_93 ?_
    obtain ⟨c39, h⟩ := ck_some h
    refine lalC_0 E w c39 d_Chk_pass_96 ?_
    refine lv_iload_n E.x E.b d_Chk_pass_97 rfl (lv_at hl 3 rfl) ?_
    refine lv_bipush (v := 17) E.x E.b d_Chk_pass_98 (by decide) ?_
    refine lv_iushr (v := ushr v3 17) E.x E.b d_Chk_pass_100 rfl ?_
    refine lv_i2l (v := (ushr v3 17).toInt64) E.x E.b d_Chk_pass_101 rfl ?_
    refine lv_lmul E.x E.b d_Chk_pass_102 ?_
    obtain ⟨c40, h⟩ := ck_some h
    obtain ⟨σ41, e_σ41, h⟩ := lt_some h
    refine lasC_0 E w c40 e_σ41 d_Chk_pass_103 (fun H locs w => ?_)
    refine lv_aload_n E.x E.b d_Chk_pass_104 rfl (lv_at hl 0 rfl) ?_
    refine lv_dup E.x E.b d_Chk_pass_105 rfl ?_
    refine gC_Chk_depth E w k181 d_Chk_pass_106 ?_
    refine lv_iconst (v := 1) E.x E.b d_Chk_pass_109 (by decide) ?_
    refine lv_iadd E.x E.b d_Chk_pass_110 ?_
    obtain ⟨σ42, e_σ42, h⟩ := lt_some h
    refine pC_Chk_depth E w k181 e_σ42 d_Chk_pass_111 (fun H locs w => ?_)
    refine lv_goto (tgt := 134) E.x E.b d_Chk_pass_114 (by decide) ?_
    exact bt_Chk_pass_134 E hret o σ42 v1 v2 h w (lv_sub hl [1, 2] rfl)
def F_Chk_pass (σ : Sg) (p1 : Nat) (x1 : Int32) : Option (Sg) := ck (p1 < 3) (ck (inb (3 * x1) (lenC σ (21 + 1 * p1))) (lt (σ.2.2.1 (21 + 1 * p1) (3 * x1).toNatClampNeg) (fun y45 => lt (y45 &&& 63) (fun y46 => if (σ.1 14) = 0 then (F_Chk_pass_42 σ p1 x1 y45 y46 x1 (-1)) else (ck (inb ((σ.1 14) - 1) 4) (F_Chk_pass_42 σ p1 x1 y45 y46 x1 (σ.2.2.1 9 ((σ.1 14) - 1).toNatClampNeg)))))))
set_option maxRecDepth 10000 in
set_option maxHeartbeats 4000000 in
theorem c_Chk_pass (l : Launch) (D : va_G) (τ : ClassId × ClassId × ClassId) (B : Nat) (σ : Sg) (ad : Nat → Nat) (p1 : Nat) (x1 : Int32) (o : Sg) (h : F_Chk_pass σ p1 x1 = some o) : MV l y_Chk_pass (Cond.code y_Chk_pass prog_2_method_10_code 6 none) 1 D τ B [.ref (ad 60), .ref (ad (67 + p1)), .int x1] (wdC τ σ ad) (wdC τ o ad) := by
  refine en_v (by decide) (Nat.le_of_ble_eq_true rfl) ?_
  intro p e R s m args below meth c H locs ls A E hret w hl
  have E : Cx p R s m args meth c prog_2_method_10_code 6 "DrawingMachine$Checker" 1 D τ B A := E
  have hl : lv_has ls 6 [(0, .ref (ad 60)), (1, .ref (ad (67 + p1))), (2, .int x1)] := hl
  obtain ⟨c43, h⟩ := ck_some h
  refine lv_aload_n E.x E.b d_Chk_pass_0 rfl (lv_at hl 1 rfl) ?_
  refine gC_Prg_words E w (pid := p1) c43 k412 d_Chk_pass_1 ?_
  refine lv_iconst (v := 3) E.x E.b d_Chk_pass_4 (by decide) ?_
  refine lv_iload_n E.x E.b d_Chk_pass_5 rfl (lv_at hl 2 rfl) ?_
  refine lv_imul E.x E.b d_Chk_pass_6 ?_
  obtain ⟨c44, h⟩ := ck_some h
  refine ialC E w (k := (21 + 1 * p1)) (by omega) c44 d_Chk_pass_7 ?_
  obtain ⟨y45, e_y45, h⟩ := lt_some h
  refine wi_e (v := y45) e_y45 ?_
  refine lv_istore_n (lv' := [(3, .int y45), (0, .ref (ad 60)), (1, .ref (ad (67 + p1))), (2, .int x1)]) E.x E.b d_Chk_pass_8 rfl hl (by decide) rfl (fun ls hl => ?_)
  refine lv_iload_n E.x E.b d_Chk_pass_9 rfl (lv_at hl 0 rfl) ?_
  refine lv_bipush (v := 63) E.x E.b d_Chk_pass_10 (by decide) ?_
  refine lv_iand E.x E.b d_Chk_pass_12 ?_
  obtain ⟨y46, e_y46, h⟩ := lt_some h
  refine wi_e (v := y46) e_y46 ?_
  refine lv_istore (lv' := [(4, .int y46), (3, .int y45), (0, .ref (ad 60)), (1, .ref (ad (67 + p1))), (2, .int x1)]) E.x E.b d_Chk_pass_13 hl (by decide) rfl (fun ls hl => ?_)
  refine lv_aload_n E.x E.b d_Chk_pass_15 rfl (lv_at hl 2 rfl) ?_
  refine gC_Chk_loopOf E w k178 d_Chk_pass_16 ?_
  refine lv_iload_n E.x E.b d_Chk_pass_19 rfl (lv_at hl 4 rfl) ?_
  refine lv_aload_n E.x E.b d_Chk_pass_20 rfl (lv_at hl 2 rfl) ?_
  refine gC_Chk_depth E w k181 d_Chk_pass_21 ?_
  refine lv_if_ne (tgt := 31) E.x E.b d_Chk_pass_24 (by decide) (fun c => ?_) (fun c => ?_)
  ·
    replace h := ifF c h
    refine lv_aload_n E.x E.b d_Chk_pass_31 rfl (lv_at hl 2 rfl) ?_
    refine gC_Chk_open E w k179 d_Chk_pass_32 ?_
    refine lv_aload_n E.x E.b d_Chk_pass_35 rfl (lv_at hl 2 rfl) ?_
    refine gC_Chk_depth E w k181 d_Chk_pass_36 ?_
    refine lv_iconst (v := 1) E.x E.b d_Chk_pass_39 (by decide) ?_
    refine lv_isub E.x E.b d_Chk_pass_40 ?_
    obtain ⟨c47, h⟩ := ck_some h
    refine ialC E w (k := 9) (by decide) c47 d_Chk_pass_41 ?_
    exact bt_Chk_pass_42 E hret o σ p1 x1 y45 y46 x1 (σ.2.2.1 9 ((σ.1 14) - 1).toNatClampNeg) h w (lv_sub hl [2, 3, 4, 1, 0] rfl)
  ·
    replace h := ifT c h
    refine lv_iconst (v := (-1)) E.x E.b d_Chk_pass_27 (by decide) ?_
    refine lv_goto (tgt := 42) E.x E.b d_Chk_pass_28 (by decide) ?_
    exact bt_Chk_pass_42 E hret o σ p1 x1 y45 y46 x1 (-1) h w (lv_sub hl [2, 3, 4, 1, 0] rfl)
theorem clV_Chk_pass {p : Program} {l : Launch} {e : Env} {R : Room} {s : State} {m : MethodId} {args : Array Value} {below : List Frame} {meth : Method} {c : Code} {H : Heap} {locs : List Loc} {Q : State → Prop} {cc : ByteArray} {nL pc lev : Nat} {own : String} {D : va_G} {τ : ClassId × ClassId × ClassId} {B : Nat} {A : Nat → Prop} {σ : Sg} {ad : Nat → Nat} {ls : Array Slot} {rest : List Value} (E : Cx p R s m args meth c cc nL own lev D τ B A) (w : Wd s D A (wdC τ σ ad) H locs) {p1 : Nat} {x1 : Int32} {o : Sg} (h : F_Chk_pass σ p1 x1 = some o) {index : Nat} (hlk : Cond.methodLink own index y_Chk_pass ∈ tw) (hlev : 1 < lev) (hsz : ls.size = nL) (hr : (rest.map fun v => v.category).sum ≤ 8) (hd : decode cc pc = .ok (.invokevirtual index, 3)) (kk : ∀ (H1 : Heap) (locs1 : List Loc), Wd s D A (wdC τ o ad) H1 locs1 → W p l e R s m args below meth c H1 locs1 0 0 Q (F0 m (pc + 3) ls (rest))) : W p l e R s m args below meth c H locs 0 0 Q (F0 m pc ls (.int x1 :: .ref (ad (67 + p1)) :: .ref (ad 60) :: rest)) :=
  cr_v w E.C (va_runV (As := [.ref (ad (67 + p1)), .int x1]) (rest := rest) E.fix (c_Chk_pass l D τ B σ ad p1 x1 o h H.size) (cwV 2 E.w (tw_pre (tw_good k1338) (l := [_, _, _, _]) (List.forall_mem_cons.mpr ⟨hlk, List.forall_mem_cons.mpr ⟨k1337, List.forall_mem_cons.mpr ⟨ks40, List.forall_mem_cons.mpr ⟨k6, fun _ h => absurd h List.not_mem_nil⟩⟩⟩⟩)) rfl rfl rfl (by decide +kernel) (E.rm hlev (by decide))) (wd_preV w E.C [.ref (ad (67 + p1)), .int x1] rcC_Chk rfl) rfl rfl hsz rfl (lv_room hr) hd ⟨Nat.zero_le _, Nat.zero_le _⟩) kk

theorem d_Chk_tell_0 : decode prog_2_method_3_code 0 = .ok (.iload_n 1, 1) := by decide +kernel
theorem d_Chk_tell_1 : decode prog_2_method_3_code 1 = .ok (.ifCond .eq 13, 3) := by decide +kernel
theorem d_Chk_tell_4 : decode prog_2_method_3_code 4 = .ok (.aload_n 0, 1) := by decide +kernel
theorem d_Chk_tell_5 : decode prog_2_method_3_code 5 = .ok (.iload_n 1, 1) := by decide +kernel
theorem d_Chk_tell_6 : decode prog_2_method_3_code 6 = .ok (.putfield 26, 3) := by decide +kernel
theorem d_Chk_tell_9 : decode prog_2_method_3_code 9 = .ok (.aload_n 0, 1) := by decide +kernel
theorem d_Chk_tell_10 : decode prog_2_method_3_code 10 = .ok (.iload_n 2, 1) := by decide +kernel
theorem d_Chk_tell_11 : decode prog_2_method_3_code 11 = .ok (.putfield 9, 3) := by decide +kernel
theorem d_Chk_tell_14 : decode prog_2_method_3_code 14 = .ok (.return_, 1) := by decide +kernel
def F_Chk_tell_14 (σ : Sg) : Option (Sg) := some σ
set_option maxRecDepth 10000 in
set_option maxHeartbeats 4000000 in
theorem bt_Chk_tell_14 {p : Program} {l : Launch} {e : Env} {R : Room} {s : State} {m : MethodId} {args : Array Value} {below : List Frame} {meth : Method} {c : Code} {D : va_G} {τ : ClassId × ClassId × ClassId} {B : Nat} {A : Nat → Prop} {ad : Nat → Nat} (E : Cx p R s m args meth c prog_2_method_3_code 3 "DrawingMachine$Checker" 0 D τ B A) (hret : meth.sig.returnType = none) (o : Sg) (σ : Sg) (h : F_Chk_tell_14 σ = some o) {H : Heap} {locs : List Loc} {ls : Array Slot} (w : Wd s D A (wdC τ σ ad) H locs) (hl : lv_has ls 3 []) : W p l e R s m args below meth c H locs 0 0 (QV below args s A D τ (wdC τ o ad)) (F0 m 14 ls []) := by
  obtain rfl := Option.some.inj h
  exact rt_v E w hret d_Chk_tell_14
def F_Chk_tell (σ : Sg) (x0 : Int32) (x1 : Int32) : Option (Sg) := if x0 = 0 then (F_Chk_tell_14 σ) else (lt (sI σ 12 x0) (fun σ3 => lt (sI σ3 13 x1) (fun σ4 => F_Chk_tell_14 σ4)))
set_option maxRecDepth 10000 in
set_option maxHeartbeats 4000000 in
theorem c_Chk_tell (l : Launch) (D : va_G) (τ : ClassId × ClassId × ClassId) (B : Nat) (σ : Sg) (ad : Nat → Nat) (x0 : Int32) (x1 : Int32) (o : Sg) (h : F_Chk_tell σ x0 x1 = some o) : MV l y_Chk_tell (Cond.code y_Chk_tell prog_2_method_3_code 3 none) 0 D τ B [.ref (ad 60), .int x0, .int x1] (wdC τ σ ad) (wdC τ o ad) := by
  refine en_v (by decide) (Nat.le_of_ble_eq_true rfl) ?_
  intro p e R s m args below meth c H locs ls A E hret w hl
  have E : Cx p R s m args meth c prog_2_method_3_code 3 "DrawingMachine$Checker" 0 D τ B A := E
  have hl : lv_has ls 3 [(0, .ref (ad 60)), (1, .int x0), (2, .int x1)] := hl
  refine lv_iload_n E.x E.b d_Chk_tell_0 rfl (lv_at hl 1 rfl) ?_
  refine lv_if_eq (tgt := 14) E.x E.b d_Chk_tell_1 (by decide) (fun c => ?_) (fun c => ?_)
  ·
    replace h := ifT c h
    exact bt_Chk_tell_14 E hret o σ h w (lv_sub hl [] rfl)
  ·
    replace h := ifF c h
    refine lv_aload_n E.x E.b d_Chk_tell_4 rfl (lv_at hl 0 rfl) ?_
    refine lv_iload_n E.x E.b d_Chk_tell_5 rfl (lv_at hl 1 rfl) ?_
    obtain ⟨σ3, e_σ3, h⟩ := lt_some h
    refine pC_Chk_fault E w k174 e_σ3 d_Chk_tell_6 (fun H locs w => ?_)
    refine lv_aload_n E.x E.b d_Chk_tell_9 rfl (lv_at hl 0 rfl) ?_
    refine lv_iload_n E.x E.b d_Chk_tell_10 rfl (lv_at hl 2 rfl) ?_
    obtain ⟨σ4, e_σ4, h⟩ := lt_some h
    refine pC_Chk_place E w k176 e_σ4 d_Chk_tell_11 (fun H locs w => ?_)
    exact bt_Chk_tell_14 E hret o σ4 h w (lv_sub hl [] rfl)
theorem clV_Chk_tell {p : Program} {l : Launch} {e : Env} {R : Room} {s : State} {m : MethodId} {args : Array Value} {below : List Frame} {meth : Method} {c : Code} {H : Heap} {locs : List Loc} {Q : State → Prop} {cc : ByteArray} {nL pc lev : Nat} {own : String} {D : va_G} {τ : ClassId × ClassId × ClassId} {B : Nat} {A : Nat → Prop} {σ : Sg} {ad : Nat → Nat} {ls : Array Slot} {rest : List Value} (E : Cx p R s m args meth c cc nL own lev D τ B A) (w : Wd s D A (wdC τ σ ad) H locs) {x0 : Int32} {x1 : Int32} {o : Sg} (h : F_Chk_tell σ x0 x1 = some o) {index : Nat} (hlk : Cond.methodLink own index y_Chk_tell ∈ tw) (hlev : 0 < lev) (hsz : ls.size = nL) (hr : (rest.map fun v => v.category).sum ≤ 8) (hd : decode cc pc = .ok (.invokevirtual index, 3)) (kk : ∀ (H1 : Heap) (locs1 : List Loc), Wd s D A (wdC τ o ad) H1 locs1 → W p l e R s m args below meth c H1 locs1 0 0 Q (F0 m (pc + 3) ls (rest))) : W p l e R s m args below meth c H locs 0 0 Q (F0 m pc ls (.int x1 :: .int x0 :: .ref (ad 60) :: rest)) :=
  cr_v w E.C (va_runV (As := [.int x0, .int x1]) (rest := rest) E.fix (c_Chk_tell l D τ B σ ad x0 x1 o h H.size) (cwV 2 E.w (tw_pre (tw_good k1334) (l := [_, _, _, _]) (List.forall_mem_cons.mpr ⟨hlk, List.forall_mem_cons.mpr ⟨k1333, List.forall_mem_cons.mpr ⟨ks39, List.forall_mem_cons.mpr ⟨k6, fun _ h => absurd h List.not_mem_nil⟩⟩⟩⟩)) rfl rfl rfl (by decide +kernel) (E.rm hlev (by decide))) (wd_preV w E.C [.int x0, .int x1] rcC_Chk rfl) rfl rfl hsz rfl (lv_room hr) hd ⟨Nat.zero_le _, Nat.zero_le _⟩) kk

theorem d_Chk_check_0 : decode prog_2_method_2_code 0 = .ok (.aload_n 0, 1) := by decide +kernel
theorem d_Chk_check_1 : decode prog_2_method_2_code 1 = .ok (.iconst 0, 1) := by decide +kernel
theorem d_Chk_check_2 : decode prog_2_method_2_code 2 = .ok (.putfield 26, 3) := by decide +kernel
theorem d_Chk_check_5 : decode prog_2_method_2_code 5 = .ok (.aload_n 0, 1) := by decide +kernel
theorem d_Chk_check_6 : decode prog_2_method_2_code 6 = .ok (.iconst (-1), 1) := by decide +kernel
theorem d_Chk_check_7 : decode prog_2_method_2_code 7 = .ok (.putfield 9, 3) := by decide +kernel
theorem d_Chk_check_10 : decode prog_2_method_2_code 10 = .ok (.aload_n 0, 1) := by decide +kernel
theorem d_Chk_check_11 : decode prog_2_method_2_code 11 = .ok (.iconst 0, 1) := by decide +kernel
theorem d_Chk_check_12 : decode prog_2_method_2_code 12 = .ok (.putfield 29, 3) := by decide +kernel
theorem d_Chk_check_15 : decode prog_2_method_2_code 15 = .ok (.aload_n 0, 1) := by decide +kernel
theorem d_Chk_check_16 : decode prog_2_method_2_code 16 = .ok (.lconst 0, 1) := by decide +kernel
theorem d_Chk_check_17 : decode prog_2_method_2_code 17 = .ok (.putfield 32, 3) := by decide +kernel
theorem d_Chk_check_20 : decode prog_2_method_2_code 20 = .ok (.aload_n 0, 1) := by decide +kernel
theorem d_Chk_check_21 : decode prog_2_method_2_code 21 = .ok (.getfield 22, 3) := by decide +kernel
theorem d_Chk_check_24 : decode prog_2_method_2_code 24 = .ok (.iconst 0, 1) := by decide +kernel
theorem d_Chk_check_25 : decode prog_2_method_2_code 25 = .ok (.lconst 1, 1) := by decide +kernel
theorem d_Chk_check_26 : decode prog_2_method_2_code 26 = .ok (.lastore, 1) := by decide +kernel
theorem d_Chk_check_27 : decode prog_2_method_2_code 27 = .ok (.aload_n 1, 1) := by decide +kernel
theorem d_Chk_check_28 : decode prog_2_method_2_code 28 = .ok (.iconst 0, 1) := by decide +kernel
theorem d_Chk_check_29 : decode prog_2_method_2_code 29 = .ok (.putfield 36, 3) := by decide +kernel
theorem d_Chk_check_32 : decode prog_2_method_2_code 32 = .ok (.iconst 0, 1) := by decide +kernel
theorem d_Chk_check_33 : decode prog_2_method_2_code 33 = .ok (.istore_n 3, 1) := by decide +kernel
theorem d_Chk_check_34 : decode prog_2_method_2_code 34 = .ok (.iload_n 3, 1) := by decide +kernel
theorem d_Chk_check_35 : decode prog_2_method_2_code 35 = .ok (.aload_n 1, 1) := by decide +kernel
theorem d_Chk_check_36 : decode prog_2_method_2_code 36 = .ok (.getfield 41, 3) := by decide +kernel
theorem d_Chk_check_39 : decode prog_2_method_2_code 39 = .ok (.if_icmp .ge 41, 3) := by decide +kernel
theorem d_Chk_check_42 : decode prog_2_method_2_code 42 = .ok (.aload_n 0, 1) := by decide +kernel
theorem d_Chk_check_43 : decode prog_2_method_2_code 43 = .ok (.getfield 26, 3) := by decide +kernel
theorem d_Chk_check_46 : decode prog_2_method_2_code 46 = .ok (.ifCond .ne 34, 3) := by decide +kernel
theorem d_Chk_check_49 : decode prog_2_method_2_code 49 = .ok (.aload_n 0, 1) := by decide +kernel
theorem d_Chk_check_50 : decode prog_2_method_2_code 50 = .ok (.aload_n 0, 1) := by decide +kernel
theorem d_Chk_check_51 : decode prog_2_method_2_code 51 = .ok (.aload_n 1, 1) := by decide +kernel
theorem d_Chk_check_52 : decode prog_2_method_2_code 52 = .ok (.iload_n 3, 1) := by decide +kernel
theorem d_Chk_check_53 : decode prog_2_method_2_code 53 = .ok (.iload_n 2, 1) := by decide +kernel
theorem d_Chk_check_54 : decode prog_2_method_2_code 54 = .ok (.invokevirtual 44, 3) := by decide +kernel
theorem d_Chk_check_57 : decode prog_2_method_2_code 57 = .ok (.iload_n 3, 1) := by decide +kernel
theorem d_Chk_check_58 : decode prog_2_method_2_code 58 = .ok (.invokevirtual 48, 3) := by decide +kernel
theorem d_Chk_check_61 : decode prog_2_method_2_code 61 = .ok (.aload_n 0, 1) := by decide +kernel
theorem d_Chk_check_62 : decode prog_2_method_2_code 62 = .ok (.getfield 26, 3) := by decide +kernel
theorem d_Chk_check_65 : decode prog_2_method_2_code 65 = .ok (.ifCond .ne 9, 3) := by decide +kernel
theorem d_Chk_check_68 : decode prog_2_method_2_code 68 = .ok (.aload_n 0, 1) := by decide +kernel
theorem d_Chk_check_69 : decode prog_2_method_2_code 69 = .ok (.aload_n 1, 1) := by decide +kernel
theorem d_Chk_check_70 : decode prog_2_method_2_code 70 = .ok (.iload_n 3, 1) := by decide +kernel
theorem d_Chk_check_71 : decode prog_2_method_2_code 71 = .ok (.invokevirtual 52, 3) := by decide +kernel
theorem d_Chk_check_74 : decode prog_2_method_2_code 74 = .ok (.iinc 3 1, 3) := by decide +kernel
theorem d_Chk_check_77 : decode prog_2_method_2_code 77 = .ok (.goto (-43), 3) := by decide +kernel
theorem d_Chk_check_80 : decode prog_2_method_2_code 80 = .ok (.aload_n 0, 1) := by decide +kernel
theorem d_Chk_check_81 : decode prog_2_method_2_code 81 = .ok (.getfield 26, 3) := by decide +kernel
theorem d_Chk_check_84 : decode prog_2_method_2_code 84 = .ok (.ifCond .ne 26, 3) := by decide +kernel
theorem d_Chk_check_87 : decode prog_2_method_2_code 87 = .ok (.aload_n 0, 1) := by decide +kernel
theorem d_Chk_check_88 : decode prog_2_method_2_code 88 = .ok (.getfield 29, 3) := by decide +kernel
theorem d_Chk_check_91 : decode prog_2_method_2_code 91 = .ok (.ifCond .le 19, 3) := by decide +kernel
theorem d_Chk_check_94 : decode prog_2_method_2_code 94 = .ok (.aload_n 0, 1) := by decide +kernel
theorem d_Chk_check_95 : decode prog_2_method_2_code 95 = .ok (.iconst 5, 1) := by decide +kernel
theorem d_Chk_check_96 : decode prog_2_method_2_code 96 = .ok (.aload_n 0, 1) := by decide +kernel
theorem d_Chk_check_97 : decode prog_2_method_2_code 97 = .ok (.getfield 19, 3) := by decide +kernel
theorem d_Chk_check_100 : decode prog_2_method_2_code 100 = .ok (.aload_n 0, 1) := by decide +kernel
theorem d_Chk_check_101 : decode prog_2_method_2_code 101 = .ok (.getfield 29, 3) := by decide +kernel
theorem d_Chk_check_104 : decode prog_2_method_2_code 104 = .ok (.iconst 1, 1) := by decide +kernel
theorem d_Chk_check_105 : decode prog_2_method_2_code 105 = .ok (.isub, 1) := by decide +kernel
theorem d_Chk_check_106 : decode prog_2_method_2_code 106 = .ok (.iaload, 1) := by decide +kernel
theorem d_Chk_check_107 : decode prog_2_method_2_code 107 = .ok (.invokevirtual 48, 3) := by decide +kernel
theorem d_Chk_check_110 : decode prog_2_method_2_code 110 = .ok (.iconst 0, 1) := by decide +kernel
theorem d_Chk_check_111 : decode prog_2_method_2_code 111 = .ok (.istore_n 3, 1) := by decide +kernel
theorem d_Chk_check_112 : decode prog_2_method_2_code 112 = .ok (.iload_n 3, 1) := by decide +kernel
theorem d_Chk_check_113 : decode prog_2_method_2_code 113 = .ok (.aload_n 1, 1) := by decide +kernel
theorem d_Chk_check_114 : decode prog_2_method_2_code 114 = .ok (.getfield 41, 3) := by decide +kernel
theorem d_Chk_check_117 : decode prog_2_method_2_code 117 = .ok (.if_icmp .ge 35, 3) := by decide +kernel
theorem d_Chk_check_120 : decode prog_2_method_2_code 120 = .ok (.aload_n 0, 1) := by decide +kernel
theorem d_Chk_check_121 : decode prog_2_method_2_code 121 = .ok (.getfield 26, 3) := by decide +kernel
theorem d_Chk_check_124 : decode prog_2_method_2_code 124 = .ok (.ifCond .ne 28, 3) := by decide +kernel
theorem d_Chk_check_127 : decode prog_2_method_2_code 127 = .ok (.aload_n 0, 1) := by decide +kernel
theorem d_Chk_check_128 : decode prog_2_method_2_code 128 = .ok (.aload_n 0, 1) := by decide +kernel
theorem d_Chk_check_129 : decode prog_2_method_2_code 129 = .ok (.aload_n 1, 1) := by decide +kernel
theorem d_Chk_check_130 : decode prog_2_method_2_code 130 = .ok (.iload_n 3, 1) := by decide +kernel
theorem d_Chk_check_131 : decode prog_2_method_2_code 131 = .ok (.invokevirtual 56, 3) := by decide +kernel
theorem d_Chk_check_134 : decode prog_2_method_2_code 134 = .ok (.ifCond .eq 7, 3) := by decide +kernel
theorem d_Chk_check_137 : decode prog_2_method_2_code 137 = .ok (.iconst 5, 1) := by decide +kernel
theorem d_Chk_check_138 : decode prog_2_method_2_code 138 = .ok (.goto 4, 3) := by decide +kernel
theorem d_Chk_check_141 : decode prog_2_method_2_code 141 = .ok (.iconst 0, 1) := by decide +kernel
theorem d_Chk_check_142 : decode prog_2_method_2_code 142 = .ok (.iload_n 3, 1) := by decide +kernel
theorem d_Chk_check_143 : decode prog_2_method_2_code 143 = .ok (.invokevirtual 48, 3) := by decide +kernel
theorem d_Chk_check_146 : decode prog_2_method_2_code 146 = .ok (.iinc 3 1, 3) := by decide +kernel
theorem d_Chk_check_149 : decode prog_2_method_2_code 149 = .ok (.goto (-37), 3) := by decide +kernel
theorem d_Chk_check_152 : decode prog_2_method_2_code 152 = .ok (.aload_n 0, 1) := by decide +kernel
theorem d_Chk_check_153 : decode prog_2_method_2_code 153 = .ok (.getfield 26, 3) := by decide +kernel
theorem d_Chk_check_156 : decode prog_2_method_2_code 156 = .ok (.ifCond .ne 21, 3) := by decide +kernel
theorem d_Chk_check_159 : decode prog_2_method_2_code 159 = .ok (.aload_n 0, 1) := by decide +kernel
theorem d_Chk_check_160 : decode prog_2_method_2_code 160 = .ok (.getfield 32, 3) := by decide +kernel
theorem d_Chk_check_163 : decode prog_2_method_2_code 163 = .ok (.ldc2_w 60, 3) := by decide +kernel
theorem d_Chk_check_166 : decode prog_2_method_2_code 166 = .ok (.lcmp, 1) := by decide +kernel
theorem d_Chk_check_167 : decode prog_2_method_2_code 167 = .ok (.ifCond .le 10, 3) := by decide +kernel
theorem d_Chk_check_170 : decode prog_2_method_2_code 170 = .ok (.aload_n 0, 1) := by decide +kernel
theorem d_Chk_check_171 : decode prog_2_method_2_code 171 = .ok (.bipush 8, 2) := by decide +kernel
theorem d_Chk_check_173 : decode prog_2_method_2_code 173 = .ok (.iconst (-1), 1) := by decide +kernel
theorem d_Chk_check_174 : decode prog_2_method_2_code 174 = .ok (.invokevirtual 48, 3) := by decide +kernel
theorem d_Chk_check_177 : decode prog_2_method_2_code 177 = .ok (.aload_n 1, 1) := by decide +kernel
theorem d_Chk_check_178 : decode prog_2_method_2_code 178 = .ok (.aload_n 0, 1) := by decide +kernel
theorem d_Chk_check_179 : decode prog_2_method_2_code 179 = .ok (.getfield 26, 3) := by decide +kernel
theorem d_Chk_check_182 : decode prog_2_method_2_code 182 = .ok (.ifCond .ne 11, 3) := by decide +kernel
theorem d_Chk_check_185 : decode prog_2_method_2_code 185 = .ok (.aload_n 0, 1) := by decide +kernel
theorem d_Chk_check_186 : decode prog_2_method_2_code 186 = .ok (.getfield 32, 3) := by decide +kernel
theorem d_Chk_check_189 : decode prog_2_method_2_code 189 = .ok (.l2i, 1) := by decide +kernel
theorem d_Chk_check_190 : decode prog_2_method_2_code 190 = .ok (.goto 4, 3) := by decide +kernel
theorem d_Chk_check_193 : decode prog_2_method_2_code 193 = .ok (.iconst 0, 1) := by decide +kernel
theorem d_Chk_check_194 : decode prog_2_method_2_code 194 = .ok (.putfield 62, 3) := by decide +kernel
theorem d_Chk_check_197 : decode prog_2_method_2_code 197 = .ok (.return_, 1) := by decide +kernel
def F_Chk_check_194 (σ : Sg) (s0 : Nat) (s1 : Int32) : Option (Sg) := ck (s0 < 3) (lt (sI σ (23 + 3 * s0) s1) (fun σ19 => some σ19))
set_option maxRecDepth 10000 in
set_option maxHeartbeats 4000000 in
theorem bt_Chk_check_194 {p : Program} {l : Launch} {e : Env} {R : Room} {s : State} {m : MethodId} {args : Array Value} {below : List Frame} {meth : Method} {c : Code} {D : va_G} {τ : ClassId × ClassId × ClassId} {B : Nat} {A : Nat → Prop} {ad : Nat → Nat} (E : Cx p R s m args meth c prog_2_method_2_code 4 "DrawingMachine$Checker" 3 D τ B A) (hret : meth.sig.returnType = none) (o : Sg) (σ : Sg) (s0 : Nat) (s1 : Int32) (h : F_Chk_check_194 σ s0 s1 = some o) {H : Heap} {locs : List Loc} {ls : Array Slot} (w : Wd s D A (wdC τ σ ad) H locs) (hl : lv_has ls 4 []) : W p l e R s m args below meth c H locs 0 0 (QV below args s A D τ (wdC τ o ad)) (F0 m 194 ls [.int s1, .ref (ad (67 + s0))]) := by
  obtain ⟨c18, h⟩ := ck_some h
  obtain ⟨σ19, e_σ19, h⟩ := lt_some h
  refine pC_Prg_steps E w (pid := s0) c18 k417 e_σ19 d_Chk_check_194 (fun H locs w => ?_)
  obtain rfl := Option.some.inj h
  exact rt_v E w hret d_Chk_check_197
def F_Chk_check_177 (σ : Sg) (v1 : Nat) : Option (Sg) := ck (v1 < 3) (if (σ.1 12) = 0 then (F_Chk_check_194 σ v1 ((σ.2.1 1).toInt32)) else (F_Chk_check_194 σ v1 0))
set_option maxRecDepth 10000 in
set_option maxHeartbeats 4000000 in
theorem bt_Chk_check_177 {p : Program} {l : Launch} {e : Env} {R : Room} {s : State} {m : MethodId} {args : Array Value} {below : List Frame} {meth : Method} {c : Code} {D : va_G} {τ : ClassId × ClassId × ClassId} {B : Nat} {A : Nat → Prop} {ad : Nat → Nat} (E : Cx p R s m args meth c prog_2_method_2_code 4 "DrawingMachine$Checker" 3 D τ B A) (hret : meth.sig.returnType = none) (o : Sg) (σ : Sg) (v1 : Nat) (h : F_Chk_check_177 σ v1 = some o) {H : Heap} {locs : List Loc} {ls : Array Slot} (w : Wd s D A (wdC τ σ ad) H locs) (hl : lv_has ls 4 [(0, .ref (ad 60)), (1, .ref (ad (67 + v1)))]) : W p l e R s m args below meth c H locs 0 0 (QV below args s A D τ (wdC τ o ad)) (F0 m 177 ls []) := by
  obtain ⟨c20, h⟩ := ck_some h
  refine lv_aload_n E.x E.b d_Chk_check_177 rfl (lv_at hl 1 rfl) ?_
  refine lv_aload_n E.x E.b d_Chk_check_178 rfl (lv_at hl 0 rfl) ?_
  refine gC_Chk_fault E w k174 d_Chk_check_179 ?_
  refine lv_if_ne (tgt := 193) E.x E.b d_Chk_check_182 (by decide) (fun c => ?_) (fun c => ?_)
  ·
    replace h := ifF c h
    refine lv_iconst (v := 0) E.x E.b d_Chk_check_193 (by decide) ?_
    exact bt_Chk_check_194 E hret o σ v1 0 h w (lv_sub hl [] rfl)
  ·
    replace h := ifT c h
    refine lv_aload_n E.x E.b d_Chk_check_185 rfl (lv_at hl 0 rfl) ?_
    refine gC_Chk_steps E w k182 d_Chk_check_186 ?_
    refine lv_l2i (v := (σ.2.1 1).toInt32) E.x E.b d_Chk_check_189 rfl ?_
    refine lv_goto (tgt := 194) E.x E.b d_Chk_check_190 (by decide) ?_
    exact bt_Chk_check_194 E hret o σ v1 ((σ.2.1 1).toInt32) h w (lv_sub hl [] rfl)
def F_Chk_check_152 (σ : Sg) (v1 : Nat) : Option (Sg) := ck (v1 < 3) (if (σ.1 12) = 0 then (if (σ.2.1 1) ≤ 65536 then (F_Chk_check_177 σ v1) else (bd (F_Chk_tell σ 8 (-1)) (fun o22 => F_Chk_check_177 o22 v1))) else (F_Chk_check_177 σ v1))
set_option maxRecDepth 10000 in
set_option maxHeartbeats 4000000 in
theorem bt_Chk_check_152 {p : Program} {l : Launch} {e : Env} {R : Room} {s : State} {m : MethodId} {args : Array Value} {below : List Frame} {meth : Method} {c : Code} {D : va_G} {τ : ClassId × ClassId × ClassId} {B : Nat} {A : Nat → Prop} {ad : Nat → Nat} (E : Cx p R s m args meth c prog_2_method_2_code 4 "DrawingMachine$Checker" 3 D τ B A) (hret : meth.sig.returnType = none) (o : Sg) (σ : Sg) (v1 : Nat) (h : F_Chk_check_152 σ v1 = some o) {H : Heap} {locs : List Loc} {ls : Array Slot} (w : Wd s D A (wdC τ σ ad) H locs) (hl : lv_has ls 4 [(0, .ref (ad 60)), (1, .ref (ad (67 + v1)))]) : W p l e R s m args below meth c H locs 0 0 (QV below args s A D τ (wdC τ o ad)) (F0 m 152 ls []) := by
  obtain ⟨c21, h⟩ := ck_some h
  refine lv_aload_n E.x E.b d_Chk_check_152 rfl (lv_at hl 0 rfl) ?_
  refine gC_Chk_fault E w k174 d_Chk_check_153 ?_
  refine lv_if_ne (tgt := 177) E.x E.b d_Chk_check_156 (by decide) (fun c => ?_) (fun c => ?_)
  ·
    replace h := ifF c h
    exact bt_Chk_check_177 E hret o σ v1 h w (lv_sub hl [0, 1] rfl)
  ·
    replace h := ifT c h
    refine lv_aload_n E.x E.b d_Chk_check_159 rfl (lv_at hl 0 rfl) ?_
    refine gC_Chk_steps E w k182 d_Chk_check_160 ?_
    refine lv_ldc2 (v := 65536) E.x E.b E.o (E.w _ k1346) d_Chk_check_163 ?_
    refine W.lcmp E.x E.b d_Chk_check_166 ?_
    refine lv_if_le (tgt := 177) E.x E.b d_Chk_check_167 (by decide) (fun c => ?_) (fun c => ?_)
    ·
      replace h := ifT (lgc_le.mp c) h
      exact bt_Chk_check_177 E hret o σ v1 h w (lv_sub hl [0, 1] rfl)
    ·
      replace h := ifF (fun h9 => c (lgc_le.mpr h9)) h
      refine lv_aload_n E.x E.b d_Chk_check_170 rfl (lv_at hl 0 rfl) ?_
      refine lv_bipush (v := 8) E.x E.b d_Chk_check_171 (by decide) ?_
      refine lv_iconst (v := (-1)) E.x E.b d_Chk_check_173 (by decide) ?_
      obtain ⟨o22, h_o22, h⟩ := bd_some h
      refine clV_Chk_tell E w (x0 := 8) (x1 := (-1)) h_o22 k1331 (by decide) hl.1 (Nat.le_of_ble_eq_true rfl) d_Chk_check_174 (fun H locs w => ?_)
      exact bt_Chk_check_177 E hret o o22 v1 h w (lv_sub hl [0, 1] rfl)
def F_Chk_check_142 (rc_112 : Sg → Nat → Int32 → Option (Sg)) (σ : Sg) (v1 : Nat) (v3 : Int32) (s1 : Int32) : Option (Sg) := ck (v1 < 3) (bd (F_Chk_tell σ s1 v3) (fun o24 => lt (v3 + 1) (fun y25 => rc_112 o24 v1 y25)))
set_option maxRecDepth 10000 in
set_option maxHeartbeats 4000000 in
theorem bt_Chk_check_142 {p : Program} {l : Launch} {e : Env} {R : Room} {s : State} {m : MethodId} {args : Array Value} {below : List Frame} {meth : Method} {c : Code} {D : va_G} {τ : ClassId × ClassId × ClassId} {B : Nat} {A : Nat → Prop} {ad : Nat → Nat} (E : Cx p R s m args meth c prog_2_method_2_code 4 "DrawingMachine$Checker" 3 D τ B A) (hret : meth.sig.returnType = none) (o : Sg) (rc_112 : Sg → Nat → Int32 → Option (Sg)) (hr_112 : ∀ (σ : Sg) (v1 : Nat) (v3 : Int32) (H : Heap) (locs : List Loc) (ls : Array Slot), rc_112 σ v1 v3 = some o → Wd s D A (wdC τ σ ad) H locs → lv_has ls 4 [(0, .ref (ad 60)), (1, .ref (ad (67 + v1))), (3, .int v3)] → W p l e R s m args below meth c H locs 0 0 (QV below args s A D τ (wdC τ o ad)) (F0 m 112 ls [])) (σ : Sg) (v1 : Nat) (v3 : Int32) (s1 : Int32) (h : F_Chk_check_142 rc_112 σ v1 v3 s1 = some o) {H : Heap} {locs : List Loc} {ls : Array Slot} (w : Wd s D A (wdC τ σ ad) H locs) (hl : lv_has ls 4 [(0, .ref (ad 60)), (1, .ref (ad (67 + v1))), (3, .int v3)]) : W p l e R s m args below meth c H locs 0 0 (QV below args s A D τ (wdC τ o ad)) (F0 m 142 ls [.int s1, .ref (ad 60)]) := by
  obtain ⟨c23, h⟩ := ck_some h
  refine lv_iload_n E.x E.b d_Chk_check_142 rfl (lv_at hl 2 rfl) ?_
  obtain ⟨o24, h_o24, h⟩ := bd_some h
  refine clV_Chk_tell E w (x0 := s1) (x1 := v3) h_o24 k1331 (by decide) hl.1 (Nat.le_of_ble_eq_true rfl) d_Chk_check_143 (fun H locs w => ?_)
  obtain ⟨y25, e_y25, h⟩ := lt_some h
  refine lv_iinc (v := y25) (lv' := [(3, .int y25), (0, .ref (ad 60)), (1, .ref (ad (67 + v1)))]) E.x E.b d_Chk_check_146 hl (k := 2) rfl (e_y25) (by decide) rfl (fun ls hl => ?_)
  refine lv_goto (tgt := 112) E.x E.b d_Chk_check_149 (by decide) ?_
  exact hr_112 o24 v1 y25 _ _ _ h w (lv_sub hl [1, 2, 0] rfl)
def L_Chk_check_112 : Nat → Sg → Nat → Int32 → Option (Sg)
  | 0, _, _, _ => none
  | n + 1, σ, v1, v3 => ck (v1 < 3) (if (σ.1 (22 + 3 * v1)) ≤ v3 then (F_Chk_check_152 σ v1) else (if (σ.1 12) = 0 then (bd (F_Chk_leavesLoop σ v1 v3) (fun o27 => if o27 = 0 then (F_Chk_check_142 (L_Chk_check_112 n) σ v1 v3 0) else (F_Chk_check_142 (L_Chk_check_112 n) σ v1 v3 5))) else (F_Chk_check_152 σ v1)))
set_option maxRecDepth 10000 in
set_option maxHeartbeats 4000000 in
theorem lt_Chk_check_112 {p : Program} {l : Launch} {e : Env} {R : Room} {s : State} {m : MethodId} {args : Array Value} {below : List Frame} {meth : Method} {c : Code} {D : va_G} {τ : ClassId × ClassId × ClassId} {B : Nat} {A : Nat → Prop} {ad : Nat → Nat} (E : Cx p R s m args meth c prog_2_method_2_code 4 "DrawingMachine$Checker" 3 D τ B A) (hret : meth.sig.returnType = none) (o : Sg) : ∀ (n : Nat) (σ : Sg) (v1 : Nat) (v3 : Int32) (H : Heap) (locs : List Loc) (ls : Array Slot), L_Chk_check_112 n σ v1 v3 = some o → Wd s D A (wdC τ σ ad) H locs → lv_has ls 4 [(0, .ref (ad 60)), (1, .ref (ad (67 + v1))), (3, .int v3)] → W p l e R s m args below meth c H locs 0 0 (QV below args s A D τ (wdC τ o ad)) (F0 m 112 ls []) := by
  intro n
  induction n with
  | zero =>
    intro σ v1 v3 H locs ls h w hl
    cases h
  | succ n hr_112 =>
    intro σ v1 v3 H locs ls h w hl
    obtain ⟨c26, h⟩ := ck_some h
    refine lv_iload_n E.x E.b d_Chk_check_112 rfl (lv_at hl 2 rfl) ?_
    refine lv_aload_n E.x E.b d_Chk_check_113 rfl (lv_at hl 1 rfl) ?_
    refine gC_Prg_many E w (pid := v1) c26 k414 d_Chk_check_114 ?_
    refine lv_icmp_ge (tgt := 152) E.x E.b d_Chk_check_117 (by decide) (fun c => ?_) (fun c => ?_)
    ·
      replace h := ifT c h
      exact bt_Chk_check_152 E hret o σ v1 h w (lv_sub hl [0, 1] rfl)
    ·
      replace h := ifF c h
      refine lv_aload_n E.x E.b d_Chk_check_120 rfl (lv_at hl 0 rfl) ?_
      refine gC_Chk_fault E w k174 d_Chk_check_121 ?_
      refine lv_if_ne (tgt := 152) E.x E.b d_Chk_check_124 (by decide) (fun c => ?_) (fun c => ?_)
      ·
        replace h := ifF c h
        exact bt_Chk_check_152 E hret o σ v1 h w (lv_sub hl [0, 1] rfl)
      ·
        replace h := ifT c h
        refine lv_aload_n E.x E.b d_Chk_check_127 rfl (lv_at hl 0 rfl) ?_
        refine lv_aload_n E.x E.b d_Chk_check_128 rfl (lv_at hl 0 rfl) ?_
        refine lv_aload_n E.x E.b d_Chk_check_129 rfl (lv_at hl 1 rfl) ?_
        refine lv_iload_n E.x E.b d_Chk_check_130 rfl (lv_at hl 2 rfl) ?_
        obtain ⟨o27, h_o27, h⟩ := bd_some h
        refine clV_Chk_leavesLoop E w (p1 := v1) (x1 := v3) h_o27 k1342 (by decide) hl.1 (Nat.le_of_ble_eq_true rfl) d_Chk_check_131 (fun H locs w => ?_)
        refine lv_if_eq (tgt := 141) E.x E.b d_Chk_check_134 (by decide) (fun c => ?_) (fun c => ?_)
        ·
          replace h := ifT c h
          refine lv_iconst (v := 0) E.x E.b d_Chk_check_141 (by decide) ?_
          exact bt_Chk_check_142 E hret o (L_Chk_check_112 n) hr_112 σ v1 v3 0 h w (lv_sub hl [0, 1, 2] rfl)
        ·
          replace h := ifF c h
          refine lv_iconst (v := 5) E.x E.b d_Chk_check_137 (by decide) ?_
          refine lv_goto (tgt := 142) E.x E.b d_Chk_check_138 (by decide) ?_
          exact bt_Chk_check_142 E hret o (L_Chk_check_112 n) hr_112 σ v1 v3 5 h w (lv_sub hl [0, 1, 2] rfl)
def F_Chk_check_110 (σ : Sg) (v1 : Nat) : Option (Sg) := ck (v1 < 3) (L_Chk_check_112 100000 σ v1 0)
set_option maxRecDepth 10000 in
set_option maxHeartbeats 4000000 in
theorem bt_Chk_check_110 {p : Program} {l : Launch} {e : Env} {R : Room} {s : State} {m : MethodId} {args : Array Value} {below : List Frame} {meth : Method} {c : Code} {D : va_G} {τ : ClassId × ClassId × ClassId} {B : Nat} {A : Nat → Prop} {ad : Nat → Nat} (E : Cx p R s m args meth c prog_2_method_2_code 4 "DrawingMachine$Checker" 3 D τ B A) (hret : meth.sig.returnType = none) (o : Sg) (σ : Sg) (v1 : Nat) (h : F_Chk_check_110 σ v1 = some o) {H : Heap} {locs : List Loc} {ls : Array Slot} (w : Wd s D A (wdC τ σ ad) H locs) (hl : lv_has ls 4 [(0, .ref (ad 60)), (1, .ref (ad (67 + v1)))]) : W p l e R s m args below meth c H locs 0 0 (QV below args s A D τ (wdC τ o ad)) (F0 m 110 ls []) := by
  obtain ⟨c28, h⟩ := ck_some h
  refine lv_iconst (v := 0) E.x E.b d_Chk_check_110 (by decide) ?_
  refine lv_istore_n (lv' := [(3, .int 0), (0, .ref (ad 60)), (1, .ref (ad (67 + v1)))]) E.x E.b d_Chk_check_111 rfl hl (by decide) rfl (fun ls hl => ?_)
  exact lt_Chk_check_112 E hret o 100000 σ v1 0 _ _ _ h w (lv_sub hl [1, 2, 0] rfl)
def F_Chk_check_80 (σ : Sg) (v1 : Nat) : Option (Sg) := ck (v1 < 3) (if (σ.1 12) = 0 then (if (σ.1 14) ≤ 0 then (F_Chk_check_110 σ v1) else (ck (inb ((σ.1 14) - 1) 4) (bd (F_Chk_tell σ 5 (σ.2.2.1 9 ((σ.1 14) - 1).toNatClampNeg)) (fun o31 => F_Chk_check_110 o31 v1)))) else (F_Chk_check_110 σ v1))
set_option maxRecDepth 10000 in
set_option maxHeartbeats 4000000 in
theorem bt_Chk_check_80 {p : Program} {l : Launch} {e : Env} {R : Room} {s : State} {m : MethodId} {args : Array Value} {below : List Frame} {meth : Method} {c : Code} {D : va_G} {τ : ClassId × ClassId × ClassId} {B : Nat} {A : Nat → Prop} {ad : Nat → Nat} (E : Cx p R s m args meth c prog_2_method_2_code 4 "DrawingMachine$Checker" 3 D τ B A) (hret : meth.sig.returnType = none) (o : Sg) (σ : Sg) (v1 : Nat) (h : F_Chk_check_80 σ v1 = some o) {H : Heap} {locs : List Loc} {ls : Array Slot} (w : Wd s D A (wdC τ σ ad) H locs) (hl : lv_has ls 4 [(0, .ref (ad 60)), (1, .ref (ad (67 + v1)))]) : W p l e R s m args below meth c H locs 0 0 (QV below args s A D τ (wdC τ o ad)) (F0 m 80 ls []) := by
  obtain ⟨c29, h⟩ := ck_some h
  refine lv_aload_n E.x E.b d_Chk_check_80 rfl (lv_at hl 0 rfl) ?_
  refine gC_Chk_fault E w k174 d_Chk_check_81 ?_
  refine lv_if_ne (tgt := 110) E.x E.b d_Chk_check_84 (by decide) (fun c => ?_) (fun c => ?_)
  ·
    replace h := ifF c h
    exact bt_Chk_check_110 E hret o σ v1 h w (lv_sub hl [0, 1] rfl)
  ·
    replace h := ifT c h
    refine lv_aload_n E.x E.b d_Chk_check_87 rfl (lv_at hl 0 rfl) ?_
    refine gC_Chk_depth E w k181 d_Chk_check_88 ?_
    refine lv_if_le (tgt := 110) E.x E.b d_Chk_check_91 (by decide) (fun c => ?_) (fun c => ?_)
    ·
      replace h := ifT c h
      exact bt_Chk_check_110 E hret o σ v1 h w (lv_sub hl [0, 1] rfl)
    ·
      replace h := ifF c h
      refine lv_aload_n E.x E.b d_Chk_check_94 rfl (lv_at hl 0 rfl) ?_
      refine lv_iconst (v := 5) E.x E.b d_Chk_check_95 (by decide) ?_
      refine lv_aload_n E.x E.b d_Chk_check_96 rfl (lv_at hl 0 rfl) ?_
      refine gC_Chk_open E w k179 d_Chk_check_97 ?_
      refine lv_aload_n E.x E.b d_Chk_check_100 rfl (lv_at hl 0 rfl) ?_
      refine gC_Chk_depth E w k181 d_Chk_check_101 ?_
      refine lv_iconst (v := 1) E.x E.b d_Chk_check_104 (by decide) ?_
      refine lv_isub E.x E.b d_Chk_check_105 ?_
      obtain ⟨c30, h⟩ := ck_some h
      refine ialC E w (k := 9) (by decide) c30 d_Chk_check_106 ?_
      obtain ⟨o31, h_o31, h⟩ := bd_some h
      refine clV_Chk_tell E w (x0 := 5) (x1 := (σ.2.2.1 9 ((σ.1 14) - 1).toNatClampNeg)) h_o31 k1331 (by decide) hl.1 (Nat.le_of_ble_eq_true rfl) d_Chk_check_107 (fun H locs w => ?_)
      exact bt_Chk_check_110 E hret o o31 v1 h w (lv_sub hl [0, 1] rfl)
def F_Chk_check_74 (rc_34 : Sg → Nat → Int32 → Int32 → Option (Sg)) (σ : Sg) (v1 : Nat) (v2 : Int32) (v3 : Int32) : Option (Sg) := ck (v1 < 3) (lt (v3 + 1) (fun y33 => rc_34 σ v1 v2 y33))
set_option maxRecDepth 10000 in
set_option maxHeartbeats 4000000 in
theorem bt_Chk_check_74 {p : Program} {l : Launch} {e : Env} {R : Room} {s : State} {m : MethodId} {args : Array Value} {below : List Frame} {meth : Method} {c : Code} {D : va_G} {τ : ClassId × ClassId × ClassId} {B : Nat} {A : Nat → Prop} {ad : Nat → Nat} (E : Cx p R s m args meth c prog_2_method_2_code 4 "DrawingMachine$Checker" 3 D τ B A) (hret : meth.sig.returnType = none) (o : Sg) (rc_34 : Sg → Nat → Int32 → Int32 → Option (Sg)) (hr_34 : ∀ (σ : Sg) (v1 : Nat) (v2 : Int32) (v3 : Int32) (H : Heap) (locs : List Loc) (ls : Array Slot), rc_34 σ v1 v2 v3 = some o → Wd s D A (wdC τ σ ad) H locs → lv_has ls 4 [(0, .ref (ad 60)), (1, .ref (ad (67 + v1))), (2, .int v2), (3, .int v3)] → W p l e R s m args below meth c H locs 0 0 (QV below args s A D τ (wdC τ o ad)) (F0 m 34 ls [])) (σ : Sg) (v1 : Nat) (v2 : Int32) (v3 : Int32) (h : F_Chk_check_74 rc_34 σ v1 v2 v3 = some o) {H : Heap} {locs : List Loc} {ls : Array Slot} (w : Wd s D A (wdC τ σ ad) H locs) (hl : lv_has ls 4 [(0, .ref (ad 60)), (1, .ref (ad (67 + v1))), (2, .int v2), (3, .int v3)]) : W p l e R s m args below meth c H locs 0 0 (QV below args s A D τ (wdC τ o ad)) (F0 m 74 ls []) := by
  obtain ⟨c32, h⟩ := ck_some h
  obtain ⟨y33, e_y33, h⟩ := lt_some h
  refine lv_iinc (v := y33) (lv' := [(3, .int y33), (0, .ref (ad 60)), (1, .ref (ad (67 + v1))), (2, .int v2)]) E.x E.b d_Chk_check_74 hl (k := 3) rfl (e_y33) (by decide) rfl (fun ls hl => ?_)
  refine lv_goto (tgt := 34) E.x E.b d_Chk_check_77 (by decide) ?_
  exact hr_34 σ v1 v2 y33 _ _ _ h w (lv_sub hl [1, 2, 3, 0] rfl)
def L_Chk_check_34 : Nat → Sg → Nat → Int32 → Int32 → Option (Sg)
  | 0, _, _, _, _ => none
  | n + 1, σ, v1, v2, v3 => ck (v1 < 3) (if (σ.1 (22 + 3 * v1)) ≤ v3 then (F_Chk_check_80 σ v1) else (if (σ.1 12) = 0 then (bd (F_Chk_faultAt σ v1 v3 v2) (fun o35 => bd (F_Chk_tell σ o35 v3) (fun o36 => if (o36.1 12) = 0 then (bd (F_Chk_pass o36 v1 v3) (fun o37 => F_Chk_check_74 (L_Chk_check_34 n) o37 v1 v2 v3)) else (F_Chk_check_74 (L_Chk_check_34 n) o36 v1 v2 v3)))) else (F_Chk_check_80 σ v1)))
set_option maxRecDepth 10000 in
set_option maxHeartbeats 4000000 in
theorem lt_Chk_check_34 {p : Program} {l : Launch} {e : Env} {R : Room} {s : State} {m : MethodId} {args : Array Value} {below : List Frame} {meth : Method} {c : Code} {D : va_G} {τ : ClassId × ClassId × ClassId} {B : Nat} {A : Nat → Prop} {ad : Nat → Nat} (E : Cx p R s m args meth c prog_2_method_2_code 4 "DrawingMachine$Checker" 3 D τ B A) (hret : meth.sig.returnType = none) (o : Sg) : ∀ (n : Nat) (σ : Sg) (v1 : Nat) (v2 : Int32) (v3 : Int32) (H : Heap) (locs : List Loc) (ls : Array Slot), L_Chk_check_34 n σ v1 v2 v3 = some o → Wd s D A (wdC τ σ ad) H locs → lv_has ls 4 [(0, .ref (ad 60)), (1, .ref (ad (67 + v1))), (2, .int v2), (3, .int v3)] → W p l e R s m args below meth c H locs 0 0 (QV below args s A D τ (wdC τ o ad)) (F0 m 34 ls []) := by
  intro n
  induction n with
  | zero =>
    intro σ v1 v2 v3 H locs ls h w hl
    cases h
  | succ n hr_34 =>
    intro σ v1 v2 v3 H locs ls h w hl
    obtain ⟨c34, h⟩ := ck_some h
    refine lv_iload_n E.x E.b d_Chk_check_34 rfl (lv_at hl 3 rfl) ?_
    refine lv_aload_n E.x E.b d_Chk_check_35 rfl (lv_at hl 1 rfl) ?_
    refine gC_Prg_many E w (pid := v1) c34 k414 d_Chk_check_36 ?_
    refine lv_icmp_ge (tgt := 80) E.x E.b d_Chk_check_39 (by decide) (fun c => ?_) (fun c => ?_)
    ·
      replace h := ifT c h
      exact bt_Chk_check_80 E hret o σ v1 h w (lv_sub hl [0, 1] rfl)
    ·
      replace h := ifF c h
      refine lv_aload_n E.x E.b d_Chk_check_42 rfl (lv_at hl 0 rfl) ?_
      refine gC_Chk_fault E w k174 d_Chk_check_43 ?_
      refine lv_if_ne (tgt := 80) E.x E.b d_Chk_check_46 (by decide) (fun c => ?_) (fun c => ?_)
      ·
        replace h := ifF c h
        exact bt_Chk_check_80 E hret o σ v1 h w (lv_sub hl [0, 1] rfl)
      ·
        replace h := ifT c h
        refine lv_aload_n E.x E.b d_Chk_check_49 rfl (lv_at hl 0 rfl) ?_
        refine lv_aload_n E.x E.b d_Chk_check_50 rfl (lv_at hl 0 rfl) ?_
        refine lv_aload_n E.x E.b d_Chk_check_51 rfl (lv_at hl 1 rfl) ?_
        refine lv_iload_n E.x E.b d_Chk_check_52 rfl (lv_at hl 3 rfl) ?_
        refine lv_iload_n E.x E.b d_Chk_check_53 rfl (lv_at hl 2 rfl) ?_
        obtain ⟨o35, h_o35, h⟩ := bd_some h
        refine clV_Chk_faultAt E w (p1 := v1) (x1 := v3) (x2 := v2) h_o35 k1310 (by decide) hl.1 (Nat.le_of_ble_eq_true rfl) d_Chk_check_54 (fun H locs w => ?_)
        refine lv_iload_n E.x E.b d_Chk_check_57 rfl (lv_at hl 3 rfl) ?_
        obtain ⟨o36, h_o36, h⟩ := bd_some h
        refine clV_Chk_tell E w (x0 := o35) (x1 := v3) h_o36 k1331 (by decide) hl.1 (Nat.le_of_ble_eq_true rfl) d_Chk_check_58 (fun H locs w => ?_)
        refine lv_aload_n E.x E.b d_Chk_check_61 rfl (lv_at hl 0 rfl) ?_
        refine gC_Chk_fault E w k174 d_Chk_check_62 ?_
        refine lv_if_ne (tgt := 74) E.x E.b d_Chk_check_65 (by decide) (fun c => ?_) (fun c => ?_)
        ·
          replace h := ifF c h
          exact bt_Chk_check_74 E hret o (L_Chk_check_34 n) hr_34 o36 v1 v2 v3 h w (lv_sub hl [0, 1, 2, 3] rfl)
        ·
          replace h := ifT c h
          refine lv_aload_n E.x E.b d_Chk_check_68 rfl (lv_at hl 0 rfl) ?_
          refine lv_aload_n E.x E.b d_Chk_check_69 rfl (lv_at hl 1 rfl) ?_
          refine lv_iload_n E.x E.b d_Chk_check_70 rfl (lv_at hl 3 rfl) ?_
          obtain ⟨o37, h_o37, h⟩ := bd_some h
          refine clV_Chk_pass E w (p1 := v1) (x1 := v3) h_o37 k1335 (by decide) hl.1 (Nat.le_of_ble_eq_true rfl) d_Chk_check_71 (fun H locs w => ?_)
          exact bt_Chk_check_74 E hret o (L_Chk_check_34 n) hr_34 o37 v1 v2 v3 h w (lv_sub hl [0, 1, 2, 3] rfl)
def F_Chk_check (σ : Sg) (p1 : Nat) (x1 : Int32) : Option (Sg) := ck (p1 < 3) (lt (sI σ 12 0) (fun σ39 => lt (sI σ39 13 (-1)) (fun σ40 => lt (sI σ40 14 0) (fun σ41 => lt (sJ σ41 1 0) (fun σ42 => lt (sB σ42 0 (vp_updL (σ42.2.2.2.1 0) 0 1)) (fun σ43 => lt (sI σ43 (24 + 3 * p1) 0) (fun σ44 => L_Chk_check_34 100000 σ44 p1 x1 0)))))))
set_option maxRecDepth 10000 in
set_option maxHeartbeats 4000000 in
theorem c_Chk_check (l : Launch) (D : va_G) (τ : ClassId × ClassId × ClassId) (B : Nat) (σ : Sg) (ad : Nat → Nat) (p1 : Nat) (x1 : Int32) (o : Sg) (h : F_Chk_check σ p1 x1 = some o) : MV l y_Chk_check (Cond.code y_Chk_check prog_2_method_2_code 4 none) 3 D τ B [.ref (ad 60), .ref (ad (67 + p1)), .int x1] (wdC τ σ ad) (wdC τ o ad) := by
  refine en_v (by decide) (Nat.le_of_ble_eq_true rfl) ?_
  intro p e R s m args below meth c H locs ls A E hret w hl
  have E : Cx p R s m args meth c prog_2_method_2_code 4 "DrawingMachine$Checker" 3 D τ B A := E
  have hl : lv_has ls 4 [(0, .ref (ad 60)), (1, .ref (ad (67 + p1))), (2, .int x1)] := hl
  obtain ⟨c38, h⟩ := ck_some h
  refine lv_aload_n E.x E.b d_Chk_check_0 rfl (lv_at hl 0 rfl) ?_
  refine lv_iconst (v := 0) E.x E.b d_Chk_check_1 (by decide) ?_
  obtain ⟨σ39, e_σ39, h⟩ := lt_some h
  refine pC_Chk_fault E w k174 e_σ39 d_Chk_check_2 (fun H locs w => ?_)
  refine lv_aload_n E.x E.b d_Chk_check_5 rfl (lv_at hl 0 rfl) ?_
  refine lv_iconst (v := (-1)) E.x E.b d_Chk_check_6 (by decide) ?_
  obtain ⟨σ40, e_σ40, h⟩ := lt_some h
  refine pC_Chk_place E w k176 e_σ40 d_Chk_check_7 (fun H locs w => ?_)
  refine lv_aload_n E.x E.b d_Chk_check_10 rfl (lv_at hl 0 rfl) ?_
  refine lv_iconst (v := 0) E.x E.b d_Chk_check_11 (by decide) ?_
  obtain ⟨σ41, e_σ41, h⟩ := lt_some h
  refine pC_Chk_depth E w k181 e_σ41 d_Chk_check_12 (fun H locs w => ?_)
  refine lv_aload_n E.x E.b d_Chk_check_15 rfl (lv_at hl 0 rfl) ?_
  refine lv_lconst (v := 0) E.x E.b d_Chk_check_16 (by decide) ?_
  obtain ⟨σ42, e_σ42, h⟩ := lt_some h
  refine pC_Chk_steps E w k182 e_σ42 d_Chk_check_17 (fun H locs w => ?_)
  refine lv_aload_n E.x E.b d_Chk_check_20 rfl (lv_at hl 0 rfl) ?_
  refine gC_Chk_times E w k180 d_Chk_check_21 ?_
  refine lv_iconst (v := 0) E.x E.b d_Chk_check_24 (by decide) ?_
  refine lv_lconst (v := 1) E.x E.b d_Chk_check_25 (by decide) ?_
  obtain ⟨σ43, e_σ43, h⟩ := lt_some h
  refine lasC_0 E w (by decide) e_σ43 d_Chk_check_26 (fun H locs w => ?_)
  refine lv_aload_n E.x E.b d_Chk_check_27 rfl (lv_at hl 1 rfl) ?_
  refine lv_iconst (v := 0) E.x E.b d_Chk_check_28 (by decide) ?_
  obtain ⟨σ44, e_σ44, h⟩ := lt_some h
  refine pC_Prg_reads E w (pid := p1) c38 k420 e_σ44 d_Chk_check_29 (fun H locs w => ?_)
  refine lv_iconst (v := 0) E.x E.b d_Chk_check_32 (by decide) ?_
  refine lv_istore_n (lv' := [(3, .int 0), (0, .ref (ad 60)), (1, .ref (ad (67 + p1))), (2, .int x1)]) E.x E.b d_Chk_check_33 rfl hl (by decide) rfl (fun ls hl => ?_)
  exact lt_Chk_check_34 E hret o 100000 σ44 p1 x1 0 _ _ _ h w (lv_sub hl [1, 2, 3, 0] rfl)
theorem clV_Chk_check {p : Program} {l : Launch} {e : Env} {R : Room} {s : State} {m : MethodId} {args : Array Value} {below : List Frame} {meth : Method} {c : Code} {H : Heap} {locs : List Loc} {Q : State → Prop} {cc : ByteArray} {nL pc lev : Nat} {own : String} {D : va_G} {τ : ClassId × ClassId × ClassId} {B : Nat} {A : Nat → Prop} {σ : Sg} {ad : Nat → Nat} {ls : Array Slot} {rest : List Value} (E : Cx p R s m args meth c cc nL own lev D τ B A) (w : Wd s D A (wdC τ σ ad) H locs) {p1 : Nat} {x1 : Int32} {o : Sg} (h : F_Chk_check σ p1 x1 = some o) {index : Nat} (hlk : Cond.methodLink own index y_Chk_check ∈ tw) (hlev : 3 < lev) (hsz : ls.size = nL) (hr : (rest.map fun v => v.category).sum ≤ 8) (hd : decode cc pc = .ok (.invokevirtual index, 3)) (kk : ∀ (H1 : Heap) (locs1 : List Loc), Wd s D A (wdC τ o ad) H1 locs1 → W p l e R s m args below meth c H1 locs1 0 0 Q (F0 m (pc + 3) ls (rest))) : W p l e R s m args below meth c H locs 0 0 Q (F0 m pc ls (.int x1 :: .ref (ad (67 + p1)) :: .ref (ad 60) :: rest)) :=
  cr_v w E.C (va_runV (As := [.ref (ad (67 + p1)), .int x1]) (rest := rest) E.fix (c_Chk_check l D τ B σ ad p1 x1 o h H.size) (cwV 2 E.w (tw_pre (tw_good k1309) (l := [_, _, _, _]) (List.forall_mem_cons.mpr ⟨hlk, List.forall_mem_cons.mpr ⟨k1307, List.forall_mem_cons.mpr ⟨k1308, List.forall_mem_cons.mpr ⟨k6, fun _ h => absurd h List.not_mem_nil⟩⟩⟩⟩)) rfl rfl rfl (by decide +kernel) (E.rm hlev (by decide))) (wd_preV w E.C [.ref (ad (67 + p1)), .int x1] rcC_Chk rfl) rfl rfl hsz rfl (lv_room hr) hd ⟨Nat.zero_le _, Nat.zero_le _⟩) kk

theorem d_DM_readProgram_0 : decode prog_1_method_20_code 0 = .ok (.aload_n 0, 1) := by decide +kernel
theorem d_DM_readProgram_1 : decode prog_1_method_20_code 1 = .ok (.getfield 34, 3) := by decide +kernel
theorem d_DM_readProgram_4 : decode prog_1_method_20_code 4 = .ok (.getfield 196, 3) := by decide +kernel
theorem d_DM_readProgram_7 : decode prog_1_method_20_code 7 = .ok (.bipush 8, 2) := by decide +kernel
theorem d_DM_readProgram_9 : decode prog_1_method_20_code 9 = .ok (.if_icmp .ne 7, 3) := by decide +kernel
theorem d_DM_readProgram_12 : decode prog_1_method_20_code 12 = .ok (.iconst 1, 1) := by decide +kernel
theorem d_DM_readProgram_13 : decode prog_1_method_20_code 13 = .ok (.goto 4, 3) := by decide +kernel
theorem d_DM_readProgram_16 : decode prog_1_method_20_code 16 = .ok (.iconst 0, 1) := by decide +kernel
theorem d_DM_readProgram_17 : decode prog_1_method_20_code 17 = .ok (.istore_n 3, 1) := by decide +kernel
theorem d_DM_readProgram_18 : decode prog_1_method_20_code 18 = .ok (.aload_n 0, 1) := by decide +kernel
theorem d_DM_readProgram_19 : decode prog_1_method_20_code 19 = .ok (.getfield 64, 3) := by decide +kernel
theorem d_DM_readProgram_22 : decode prog_1_method_20_code 22 = .ok (.astore 4, 2) := by decide +kernel
theorem d_DM_readProgram_24 : decode prog_1_method_20_code 24 = .ok (.aload 4, 2) := by decide +kernel
theorem d_DM_readProgram_26 : decode prog_1_method_20_code 26 = .ok (.iload_n 2, 1) := by decide +kernel
theorem d_DM_readProgram_27 : decode prog_1_method_20_code 27 = .ok (.putfield 114, 3) := by decide +kernel
theorem d_DM_readProgram_30 : decode prog_1_method_20_code 30 = .ok (.aload_n 0, 1) := by decide +kernel
theorem d_DM_readProgram_31 : decode prog_1_method_20_code 31 = .ok (.getfield 9, 3) := by decide +kernel
theorem d_DM_readProgram_34 : decode prog_1_method_20_code 34 = .ok (.iload_n 1, 1) := by decide +kernel
theorem d_DM_readProgram_35 : decode prog_1_method_20_code 35 = .ok (.aload 4, 2) := by decide +kernel
theorem d_DM_readProgram_37 : decode prog_1_method_20_code 37 = .ok (.getfield 244, 3) := by decide +kernel
theorem d_DM_readProgram_40 : decode prog_1_method_20_code 40 = .ok (.iconst 0, 1) := by decide +kernel
theorem d_DM_readProgram_41 : decode prog_1_method_20_code 41 = .ok (.iconst 3, 1) := by decide +kernel
theorem d_DM_readProgram_42 : decode prog_1_method_20_code 42 = .ok (.iload_n 2, 1) := by decide +kernel
theorem d_DM_readProgram_43 : decode prog_1_method_20_code 43 = .ok (.imul, 1) := by decide +kernel
theorem d_DM_readProgram_44 : decode prog_1_method_20_code 44 = .ok (.invokestatic 246, 3) := by decide +kernel
theorem d_DM_readProgram_47 : decode prog_1_method_20_code 47 = .ok (.aload_n 0, 1) := by decide +kernel
theorem d_DM_readProgram_48 : decode prog_1_method_20_code 48 = .ok (.getfield 41, 3) := by decide +kernel
theorem d_DM_readProgram_51 : decode prog_1_method_20_code 51 = .ok (.aload 4, 2) := by decide +kernel
theorem d_DM_readProgram_53 : decode prog_1_method_20_code 53 = .ok (.iload_n 3, 1) := by decide +kernel
theorem d_DM_readProgram_54 : decode prog_1_method_20_code 54 = .ok (.invokevirtual 252, 3) := by decide +kernel
theorem d_DM_readProgram_57 : decode prog_1_method_20_code 57 = .ok (.aload_n 0, 1) := by decide +kernel
theorem d_DM_readProgram_58 : decode prog_1_method_20_code 58 = .ok (.getfield 41, 3) := by decide +kernel
theorem d_DM_readProgram_61 : decode prog_1_method_20_code 61 = .ok (.getfield 161, 3) := by decide +kernel
theorem d_DM_readProgram_64 : decode prog_1_method_20_code 64 = .ok (.ifCond .eq 5, 3) := by decide +kernel
theorem d_DM_readProgram_67 : decode prog_1_method_20_code 67 = .ok (.iconst 4, 1) := by decide +kernel
theorem d_DM_readProgram_68 : decode prog_1_method_20_code 68 = .ok (.ireturn, 1) := by decide +kernel
theorem d_DM_readProgram_69 : decode prog_1_method_20_code 69 = .ok (.iload_n 3, 1) := by decide +kernel
theorem d_DM_readProgram_70 : decode prog_1_method_20_code 70 = .ok (.ifCond .eq 20, 3) := by decide +kernel
theorem d_DM_readProgram_73 : decode prog_1_method_20_code 73 = .ok (.aload_n 0, 1) := by decide +kernel
theorem d_DM_readProgram_74 : decode prog_1_method_20_code 74 = .ok (.aload_n 0, 1) := by decide +kernel
theorem d_DM_readProgram_75 : decode prog_1_method_20_code 75 = .ok (.getfield 61, 3) := by decide +kernel
theorem d_DM_readProgram_78 : decode prog_1_method_20_code 78 = .ok (.putfield 64, 3) := by decide +kernel
theorem d_DM_readProgram_81 : decode prog_1_method_20_code 81 = .ok (.aload_n 0, 1) := by decide +kernel
theorem d_DM_readProgram_82 : decode prog_1_method_20_code 82 = .ok (.aload 4, 2) := by decide +kernel
theorem d_DM_readProgram_84 : decode prog_1_method_20_code 84 = .ok (.putfield 61, 3) := by decide +kernel
theorem d_DM_readProgram_87 : decode prog_1_method_20_code 87 = .ok (.goto 17, 3) := by decide +kernel
theorem d_DM_readProgram_90 : decode prog_1_method_20_code 90 = .ok (.aload_n 0, 1) := by decide +kernel
theorem d_DM_readProgram_91 : decode prog_1_method_20_code 91 = .ok (.aload_n 0, 1) := by decide +kernel
theorem d_DM_readProgram_92 : decode prog_1_method_20_code 92 = .ok (.getfield 57, 3) := by decide +kernel
theorem d_DM_readProgram_95 : decode prog_1_method_20_code 95 = .ok (.putfield 64, 3) := by decide +kernel
theorem d_DM_readProgram_98 : decode prog_1_method_20_code 98 = .ok (.aload_n 0, 1) := by decide +kernel
theorem d_DM_readProgram_99 : decode prog_1_method_20_code 99 = .ok (.aload 4, 2) := by decide +kernel
theorem d_DM_readProgram_101 : decode prog_1_method_20_code 101 = .ok (.putfield 57, 3) := by decide +kernel
theorem d_DM_readProgram_104 : decode prog_1_method_20_code 104 = .ok (.iconst 0, 1) := by decide +kernel
theorem d_DM_readProgram_105 : decode prog_1_method_20_code 105 = .ok (.ireturn, 1) := by decide +kernel
def F_DM_readProgram_104 (σ : Sg) : Option (Sg × Int32) := some (σ, 0)
set_option maxRecDepth 10000 in
set_option maxHeartbeats 4000000 in
theorem bt_DM_readProgram_104 {p : Program} {l : Launch} {e : Env} {R : Room} {s : State} {m : MethodId} {args : Array Value} {below : List Frame} {meth : Method} {c : Code} {D : va_G} {τ : ClassId × ClassId × ClassId} {B : Nat} {A : Nat → Prop} {ad : Nat → Nat} (E : Cx p R s m args meth c prog_1_method_20_code 5 "DrawingMachine" 4 D τ B A) (hret : meth.sig.returnType = (some .int)) (o : Sg × Int32) (σ : Sg) (h : F_DM_readProgram_104 σ = some o) {H : Heap} {locs : List Loc} {ls : Array Slot} (w : Wd s D A (wdC τ σ ad) H locs) (hl : lv_has ls 5 []) : W p l e R s m args below meth c H locs 0 0 (QI below args s A D τ (wdC τ o.1 ad) o.2) (F0 m 104 ls []) := by
  refine lv_iconst (v := 0) E.x E.b d_DM_readProgram_104 (by decide) ?_
  obtain rfl := Option.some.inj h
  exact rt_i E w hret d_DM_readProgram_105
def F_DM_readProgram_17 (σ : Sg) (v1 : Int32) (v2 : Int32) (s0 : Int32) : Option (Sg × Int32) := lt (σ.2.2.2.2 4) (fun nn15 => ck (nn15 < 3) (lt (sI σ (22 + 3 * nn15) v2) (fun σ17 => ck (cpok v1 0 (3 * v2) 4096 (lenC σ17 (21 + 1 * nn15))) (lt (sA σ17 (21 + 1 * nn15) (va_cpy (σ17.2.2.1 0) (σ17.2.2.1 (21 + 1 * nn15)) v1.toNatClampNeg (0 : Int32).toNatClampNeg (3 * v2).toNatClampNeg)) (fun σ19 => bd (F_Chk_check σ19 nn15 s0) (fun o20 => if (o20.1 12) = 0 then (if s0 = 0 then (lt (o20.2.2.2.2 2) (fun nn21 => ck (nn21 < 3) (lt (sN o20 4 nn21) (fun σ23 => lt (sN σ23 2 nn15) (fun σ24 => F_DM_readProgram_104 σ24))))) else (lt (o20.2.2.2.2 3) (fun nn25 => ck (nn25 < 3) (lt (sN o20 4 nn25) (fun σ27 => lt (sN σ27 3 nn15) (fun σ28 => F_DM_readProgram_104 σ28)))))) else (some (o20, 4))))))))
set_option maxRecDepth 10000 in
set_option maxHeartbeats 4000000 in
theorem bt_DM_readProgram_17 {p : Program} {l : Launch} {e : Env} {R : Room} {s : State} {m : MethodId} {args : Array Value} {below : List Frame} {meth : Method} {c : Code} {D : va_G} {τ : ClassId × ClassId × ClassId} {B : Nat} {A : Nat → Prop} {ad : Nat → Nat} (E : Cx p R s m args meth c prog_1_method_20_code 5 "DrawingMachine" 4 D τ B A) (hret : meth.sig.returnType = (some .int)) (o : Sg × Int32) (σ : Sg) (v1 : Int32) (v2 : Int32) (s0 : Int32) (h : F_DM_readProgram_17 σ v1 v2 s0 = some o) {H : Heap} {locs : List Loc} {ls : Array Slot} (w : Wd s D A (wdC τ σ ad) H locs) (hl : lv_has ls 5 [(0, .ref (ad 56)), (1, .int v1), (2, .int v2)]) : W p l e R s m args below meth c H locs 0 0 (QI below args s A D τ (wdC τ o.1 ad) o.2) (F0 m 17 ls [.int s0]) := by
  refine lv_istore_n (lv' := [(3, .int s0), (0, .ref (ad 56)), (1, .int v1), (2, .int v2)]) E.x E.b d_DM_readProgram_17 rfl hl (by decide) rfl (fun ls hl => ?_)
  refine lv_aload_n E.x E.b d_DM_readProgram_18 rfl (lv_at hl 1 rfl) ?_
  refine gC_DM_spareProgram E w k438 d_DM_readProgram_19 ?_
  obtain ⟨nn15, e_nn15, h⟩ := lt_some h
  refine wr_e (v := ad (67 + nn15)) (by rw [e_nn15]) ?_
  obtain ⟨c16, h⟩ := ck_some h
  refine lv_astore (lv' := [(4, .ref (ad (67 + nn15))), (3, .int s0), (0, .ref (ad 56)), (1, .int v1), (2, .int v2)]) E.x E.b d_DM_readProgram_22 hl (by decide) rfl (fun ls hl => ?_)
  refine lv_aload E.x E.b d_DM_readProgram_24 (lv_at hl 0 rfl) ?_
  refine lv_iload_n E.x E.b d_DM_readProgram_26 rfl (lv_at hl 4 rfl) ?_
  obtain ⟨σ17, e_σ17, h⟩ := lt_some h
  refine pC_Prg_many E w (pid := nn15) c16 k416 e_σ17 d_DM_readProgram_27 (fun H locs w => ?_)
  refine lv_aload_n E.x E.b d_DM_readProgram_30 rfl (lv_at hl 2 rfl) ?_
  refine gC_DM_memory E w k430 d_DM_readProgram_31 ?_
  refine lv_iload_n E.x E.b d_DM_readProgram_34 rfl (lv_at hl 3 rfl) ?_
  refine lv_aload E.x E.b d_DM_readProgram_35 (lv_at hl 0 rfl) ?_
  refine gC_Prg_words E w (pid := nn15) c16 k413 d_DM_readProgram_37 ?_
  refine lv_iconst (v := 0) E.x E.b d_DM_readProgram_40 (by decide) ?_
  refine lv_iconst (v := 3) E.x E.b d_DM_readProgram_41 (by decide) ?_
  refine lv_iload_n E.x E.b d_DM_readProgram_42 rfl (lv_at hl 4 rfl) ?_
  refine lv_imul E.x E.b d_DM_readProgram_43 ?_
  obtain ⟨c18, h⟩ := ck_some h
  obtain ⟨σ19, e_σ19, h⟩ := lt_some h
  refine cpyC E w hl.1 k1305 k645 k644 k31 (k0 := 0) (k1 := (21 + 1 * nn15)) (by decide) (by omega) c18 e_σ19 (Nat.le_of_ble_eq_true rfl) d_DM_readProgram_44 (fun H locs w => ?_)
  refine lv_aload_n E.x E.b d_DM_readProgram_47 rfl (lv_at hl 2 rfl) ?_
  refine gC_DM_checker E w k434 d_DM_readProgram_48 ?_
  refine lv_aload E.x E.b d_DM_readProgram_51 (lv_at hl 0 rfl) ?_
  refine lv_iload_n E.x E.b d_DM_readProgram_53 rfl (lv_at hl 1 rfl) ?_
  obtain ⟨o20, h_o20, h⟩ := bd_some h
  refine clV_Chk_check E w (p1 := nn15) (x1 := s0) h_o20 k1306 (by decide) hl.1 (Nat.le_of_ble_eq_true rfl) d_DM_readProgram_54 (fun H locs w => ?_)
  refine lv_aload_n E.x E.b d_DM_readProgram_57 rfl (lv_at hl 2 rfl) ?_
  refine gC_DM_checker E w k434 d_DM_readProgram_58 ?_
  refine gC_Chk_fault E w k175 d_DM_readProgram_61 ?_
  refine lv_if_eq (tgt := 69) E.x E.b d_DM_readProgram_64 (by decide) (fun c => ?_) (fun c => ?_)
  ·
    replace h := ifT c h
    refine lv_iload_n E.x E.b d_DM_readProgram_69 rfl (lv_at hl 1 rfl) ?_
    refine lv_if_eq (tgt := 90) E.x E.b d_DM_readProgram_70 (by decide) (fun c => ?_) (fun c => ?_)
    ·
      replace h := ifT c h
      refine lv_aload_n E.x E.b d_DM_readProgram_90 rfl (lv_at hl 2 rfl) ?_
      refine lv_aload_n E.x E.b d_DM_readProgram_91 rfl (lv_at hl 2 rfl) ?_
      refine gC_DM_cornersProgram E w k436 d_DM_readProgram_92 ?_
      obtain ⟨nn21, e_nn21, h⟩ := lt_some h
      refine wr_e (v := ad (67 + nn21)) (by rw [e_nn21]) ?_
      obtain ⟨c22, h⟩ := ck_some h
      obtain ⟨σ23, e_σ23, h⟩ := lt_some h
      refine pC_DM_spareProgram E w k438 e_σ23 d_DM_readProgram_95 (fun H locs w => ?_)
      refine lv_aload_n E.x E.b d_DM_readProgram_98 rfl (lv_at hl 2 rfl) ?_
      refine lv_aload E.x E.b d_DM_readProgram_99 (lv_at hl 0 rfl) ?_
      obtain ⟨σ24, e_σ24, h⟩ := lt_some h
      refine pC_DM_cornersProgram E w k436 e_σ24 d_DM_readProgram_101 (fun H locs w => ?_)
      exact bt_DM_readProgram_104 E hret o σ24 h w (lv_sub hl [] rfl)
    ·
      replace h := ifF c h
      refine lv_aload_n E.x E.b d_DM_readProgram_73 rfl (lv_at hl 2 rfl) ?_
      refine lv_aload_n E.x E.b d_DM_readProgram_74 rfl (lv_at hl 2 rfl) ?_
      refine gC_DM_placesProgram E w k437 d_DM_readProgram_75 ?_
      obtain ⟨nn25, e_nn25, h⟩ := lt_some h
      refine wr_e (v := ad (67 + nn25)) (by rw [e_nn25]) ?_
      obtain ⟨c26, h⟩ := ck_some h
      obtain ⟨σ27, e_σ27, h⟩ := lt_some h
      refine pC_DM_spareProgram E w k438 e_σ27 d_DM_readProgram_78 (fun H locs w => ?_)
      refine lv_aload_n E.x E.b d_DM_readProgram_81 rfl (lv_at hl 2 rfl) ?_
      refine lv_aload E.x E.b d_DM_readProgram_82 (lv_at hl 0 rfl) ?_
      obtain ⟨σ28, e_σ28, h⟩ := lt_some h
      refine pC_DM_placesProgram E w k437 e_σ28 d_DM_readProgram_84 (fun H locs w => ?_)
      refine lv_goto (tgt := 104) E.x E.b d_DM_readProgram_87 (by decide) ?_
      exact bt_DM_readProgram_104 E hret o σ28 h w (lv_sub hl [] rfl)
  ·
    replace h := ifF c h
    refine lv_iconst (v := 4) E.x E.b d_DM_readProgram_67 (by decide) ?_
    obtain rfl := Option.some.inj h
    exact rt_i E w hret d_DM_readProgram_68
def F_DM_readProgram (σ : Sg) (x0 : Int32) (x1 : Int32) : Option (Sg × Int32) := if (σ.1 3) = 8 then (F_DM_readProgram_17 σ x0 x1 1) else (F_DM_readProgram_17 σ x0 x1 0)
set_option maxRecDepth 10000 in
set_option maxHeartbeats 4000000 in
theorem c_DM_readProgram (l : Launch) (D : va_G) (τ : ClassId × ClassId × ClassId) (B : Nat) (σ : Sg) (ad : Nat → Nat) (x0 : Int32) (x1 : Int32) (o : Sg × Int32) (h : F_DM_readProgram σ x0 x1 = some o) : MI l y_DM_readProgram (Cond.code y_DM_readProgram prog_1_method_20_code 5 (some .int)) 4 D τ B [.ref (ad 56), .int x0, .int x1] (wdC τ σ ad) (wdC τ o.1 ad) o.2 := by
  refine en_i (by decide) (Nat.le_of_ble_eq_true rfl) ?_
  intro p e R s m args below meth c H locs ls A E hret w hl
  have E : Cx p R s m args meth c prog_1_method_20_code 5 "DrawingMachine" 4 D τ B A := E
  have hl : lv_has ls 5 [(0, .ref (ad 56)), (1, .int x0), (2, .int x1)] := hl
  refine lv_aload_n E.x E.b d_DM_readProgram_0 rfl (lv_at hl 0 rfl) ?_
  refine gC_DM_course E w k433 d_DM_readProgram_1 ?_
  refine gC_Cou_kind E w k117 d_DM_readProgram_4 ?_
  refine lv_bipush (v := 8) E.x E.b d_DM_readProgram_7 (by decide) ?_
  refine lv_icmp_ne (tgt := 16) E.x E.b d_DM_readProgram_9 (by decide) (fun c => ?_) (fun c => ?_)
  ·
    replace h := ifF c h
    refine lv_iconst (v := 0) E.x E.b d_DM_readProgram_16 (by decide) ?_
    exact bt_DM_readProgram_17 E hret o σ x0 x1 0 h w (lv_sub hl [0, 1, 2] rfl)
  ·
    replace h := ifT c h
    refine lv_iconst (v := 1) E.x E.b d_DM_readProgram_12 (by decide) ?_
    refine lv_goto (tgt := 17) E.x E.b d_DM_readProgram_13 (by decide) ?_
    exact bt_DM_readProgram_17 E hret o σ x0 x1 1 h w (lv_sub hl [0, 1, 2] rfl)
theorem clV_DM_readProgram {p : Program} {l : Launch} {e : Env} {R : Room} {s : State} {m : MethodId} {args : Array Value} {below : List Frame} {meth : Method} {c : Code} {H : Heap} {locs : List Loc} {Q : State → Prop} {cc : ByteArray} {nL pc lev : Nat} {own : String} {D : va_G} {τ : ClassId × ClassId × ClassId} {B : Nat} {A : Nat → Prop} {σ : Sg} {ad : Nat → Nat} {ls : Array Slot} {rest : List Value} (E : Cx p R s m args meth c cc nL own lev D τ B A) (w : Wd s D A (wdC τ σ ad) H locs) {x0 : Int32} {x1 : Int32} {o : Sg × Int32} (h : F_DM_readProgram σ x0 x1 = some o) {index : Nat} (hlk : Cond.methodLink own index y_DM_readProgram ∈ tw) (hlev : 4 < lev) (hsz : ls.size = nL) (hr : (rest.map fun v => v.category).sum ≤ 8) (hd : decode cc pc = .ok (.invokevirtual index, 3)) (kk : ∀ (H1 : Heap) (locs1 : List Loc), Wd s D A (wdC τ o.1 ad) H1 locs1 → W p l e R s m args below meth c H1 locs1 0 0 Q (F0 m (pc + 3) ls (.int o.2 :: rest))) : W p l e R s m args below meth c H locs 0 0 Q (F0 m pc ls (.int x1 :: .int x0 :: .ref (ad 56) :: rest)) :=
  cr_i w E.C (va_runV (As := [.int x0, .int x1]) (rest := rest) E.fix (c_DM_readProgram l D τ B σ ad x0 x1 o h H.size) (cwV 2 E.w (tw_pre (tw_good k1304) (l := [_, _, _, _]) (List.forall_mem_cons.mpr ⟨hlk, List.forall_mem_cons.mpr ⟨k1303, List.forall_mem_cons.mpr ⟨ks37, List.forall_mem_cons.mpr ⟨k1, fun _ h => absurd h List.not_mem_nil⟩⟩⟩⟩)) rfl rfl rfl (by decide +kernel) (E.rm hlev (by decide))) (wd_preV w E.C [.int x0, .int x1] rcC_DM rfl) rfl rfl hsz rfl (lv_room hr) hd ⟨Nat.zero_le _, Nat.zero_le _⟩) kk

theorem d_Cou_source_0 : decode prog_3_method_6_code 0 = .ok (.aload_n 0, 1) := by decide +kernel
theorem d_Cou_source_1 : decode prog_3_method_6_code 1 = .ok (.getfield 49, 3) := by decide +kernel
theorem d_Cou_source_4 : decode prog_3_method_6_code 4 = .ok (.ifCond .ne 10, 3) := by decide +kernel
theorem d_Cou_source_7 : decode prog_3_method_6_code 7 = .ok (.aload_n 0, 1) := by decide +kernel
theorem d_Cou_source_8 : decode prog_3_method_6_code 8 = .ok (.getfield 25, 3) := by decide +kernel
theorem d_Cou_source_11 : decode prog_3_method_6_code 11 = .ok (.goto 7, 3) := by decide +kernel
theorem d_Cou_source_14 : decode prog_3_method_6_code 14 = .ok (.aload_n 0, 1) := by decide +kernel
theorem d_Cou_source_15 : decode prog_3_method_6_code 15 = .ok (.getfield 28, 3) := by decide +kernel
theorem d_Cou_source_18 : decode prog_3_method_6_code 18 = .ok (.areturn, 1) := by decide +kernel
def F_Cou_source_18 (σ : Sg) (s0 : Nat) : Option (Nat) := ck (s0 < 47) (some s0)
set_option maxRecDepth 10000 in
set_option maxHeartbeats 4000000 in
theorem bt_Cou_source_18 {p : Program} {l : Launch} {e : Env} {R : Room} {s : State} {m : MethodId} {args : Array Value} {below : List Frame} {meth : Method} {c : Code} {D : va_G} {τ : ClassId × ClassId × ClassId} {B : Nat} {A : Nat → Prop} {ad : Nat → Nat} (E : Cx p R s m args meth c prog_3_method_6_code 1 "DrawingMachine$Course" 0 D τ B A) (hret : meth.sig.returnType = (some (.array .int))) (o : Nat) (σ : Sg) (s0 : Nat) (h : F_Cou_source_18 σ s0 = some o) {H : Heap} {locs : List Loc} {ls : Array Slot} (w : Wd s D A (wdC τ σ ad) H locs) (hl : lv_has ls 1 []) : W p l e R s m args below meth c H locs 0 0 (QR below args s A D τ (wdC τ σ ad) (ad o)) (F0 m 18 ls [.ref (ad s0)]) := by
  obtain ⟨c1, h⟩ := ck_some h
  obtain rfl := Option.some.inj h
  exact rt_r E w ⟨_, hret⟩ d_Cou_source_18
def F_Cou_source (σ : Sg) : Option (Nat) := if (σ.1 4) = 0 then (F_Cou_source_18 σ 7) else (F_Cou_source_18 σ 0)
set_option maxRecDepth 10000 in
set_option maxHeartbeats 4000000 in
theorem c_Cou_source (l : Launch) (D : va_G) (τ : ClassId × ClassId × ClassId) (B : Nat) (σ : Sg) (ad : Nat → Nat) (o : Nat) (h : F_Cou_source σ = some o) : MR l y_Cou_source (Cond.code y_Cou_source prog_3_method_6_code 1 (some (.array .int))) 0 D τ B [.ref (ad 59)] (wdC τ σ ad) (wdC τ σ ad) (ad o) := by
  refine en_r (by decide) (Nat.le_of_ble_eq_true rfl) ?_
  intro p e R s m args below meth c H locs ls A E hret w hl
  have E : Cx p R s m args meth c prog_3_method_6_code 1 "DrawingMachine$Course" 0 D τ B A := E
  have hl : lv_has ls 1 [(0, .ref (ad 59))] := hl
  refine lv_aload_n E.x E.b d_Cou_source_0 rfl (lv_at hl 0 rfl) ?_
  refine gC_Cou_depth E w k118 d_Cou_source_1 ?_
  refine lv_if_ne (tgt := 14) E.x E.b d_Cou_source_4 (by decide) (fun c => ?_) (fun c => ?_)
  ·
    replace h := ifF c h
    refine lv_aload_n E.x E.b d_Cou_source_14 rfl (lv_at hl 0 rfl) ?_
    refine gC_Cou_memory E w k132 d_Cou_source_15 ?_
    exact bt_Cou_source_18 E hret o σ 0 h w (lv_sub hl [] rfl)
  ·
    replace h := ifT c h
    refine lv_aload_n E.x E.b d_Cou_source_7 rfl (lv_at hl 0 rfl) ?_
    refine gC_Cou_stream E w k134 d_Cou_source_8 ?_
    refine lv_goto (tgt := 18) E.x E.b d_Cou_source_11 (by decide) ?_
    exact bt_Cou_source_18 E hret o σ 7 h w (lv_sub hl [] rfl)
theorem clV_Cou_source {p : Program} {l : Launch} {e : Env} {R : Room} {s : State} {m : MethodId} {args : Array Value} {below : List Frame} {meth : Method} {c : Code} {H : Heap} {locs : List Loc} {Q : State → Prop} {cc : ByteArray} {nL pc lev : Nat} {own : String} {D : va_G} {τ : ClassId × ClassId × ClassId} {B : Nat} {A : Nat → Prop} {σ : Sg} {ad : Nat → Nat} {ls : Array Slot} {rest : List Value} (E : Cx p R s m args meth c cc nL own lev D τ B A) (w : Wd s D A (wdC τ σ ad) H locs) {o : Nat} (h : F_Cou_source σ = some o) {index : Nat} (hlk : Cond.methodLink own index y_Cou_source ∈ tw) (hlev : 0 < lev) (hsz : ls.size = nL) (hr : (rest.map fun v => v.category).sum ≤ 8) (hd : decode cc pc = .ok (.invokevirtual index, 3)) (kk : ∀ (H1 : Heap) (locs1 : List Loc), Wd s D A (wdC τ σ ad) H1 locs1 → W p l e R s m args below meth c H1 locs1 0 0 Q (F0 m (pc + 3) ls (.ref (ad o) :: rest))) : W p l e R s m args below meth c H locs 0 0 Q (F0 m pc ls (.ref (ad 59) :: rest)) :=
  cr_r w E.C (va_runV (As := []) (rest := rest) E.fix (c_Cou_source l D τ B σ ad o h H.size) (cwV 0 E.w (tw_pre (tw_good k944) (l := [_, _, _, _]) (List.forall_mem_cons.mpr ⟨hlk, List.forall_mem_cons.mpr ⟨k943, List.forall_mem_cons.mpr ⟨ks3, List.forall_mem_cons.mpr ⟨k5, fun _ h => absurd h List.not_mem_nil⟩⟩⟩⟩)) rfl rfl rfl (by decide +kernel) (E.rm hlev (by decide))) (wd_preV w E.C [] rcC_Cou rfl) rfl rfl hsz rfl (lv_room hr) hd ⟨Nat.zero_le _, Nat.zero_le _⟩) kk
