theorem d_Shm_faultOf_0 : decode prog_18_method_12_code 0 = .ok (.aload_n 0, 1) := by decide +kernel
theorem d_Shm_faultOf_1 : decode prog_18_method_12_code 1 = .ok (.iload_n 1, 1) := by decide +kernel
theorem d_Shm_faultOf_2 : decode prog_18_method_12_code 2 = .ok (.invokestatic 56, 3) := by decide +kernel
theorem d_Shm_faultOf_5 : decode prog_18_method_12_code 5 = .ok (.istore 4, 2) := by decide +kernel
theorem d_Shm_faultOf_7 : decode prog_18_method_12_code 7 = .ok (.iload 4, 2) := by decide +kernel
theorem d_Shm_faultOf_9 : decode prog_18_method_12_code 9 = .ok (.bipush 40, 2) := by decide +kernel
theorem d_Shm_faultOf_11 : decode prog_18_method_12_code 11 = .ok (.if_icmp .le 5, 3) := by decide +kernel
theorem d_Shm_faultOf_14 : decode prog_18_method_12_code 14 = .ok (.iconst 1, 1) := by decide +kernel
theorem d_Shm_faultOf_15 : decode prog_18_method_12_code 15 = .ok (.ireturn, 1) := by decide +kernel
theorem d_Shm_faultOf_16 : decode prog_18_method_12_code 16 = .ok (.aload_n 0, 1) := by decide +kernel
theorem d_Shm_faultOf_17 : decode prog_18_method_12_code 17 = .ok (.iload_n 1, 1) := by decide +kernel
theorem d_Shm_faultOf_18 : decode prog_18_method_12_code 18 = .ok (.invokestatic 75, 3) := by decide +kernel
theorem d_Shm_faultOf_21 : decode prog_18_method_12_code 21 = .ok (.ifCond .eq 5, 3) := by decide +kernel
theorem d_Shm_faultOf_24 : decode prog_18_method_12_code 24 = .ok (.iconst 2, 1) := by decide +kernel
theorem d_Shm_faultOf_25 : decode prog_18_method_12_code 25 = .ok (.ireturn, 1) := by decide +kernel
theorem d_Shm_faultOf_26 : decode prog_18_method_12_code 26 = .ok (.aload_n 0, 1) := by decide +kernel
theorem d_Shm_faultOf_27 : decode prog_18_method_12_code 27 = .ok (.iload_n 1, 1) := by decide +kernel
theorem d_Shm_faultOf_28 : decode prog_18_method_12_code 28 = .ok (.invokestatic 79, 3) := by decide +kernel
theorem d_Shm_faultOf_31 : decode prog_18_method_12_code 31 = .ok (.ifCond .eq 5, 3) := by decide +kernel
theorem d_Shm_faultOf_34 : decode prog_18_method_12_code 34 = .ok (.iconst 3, 1) := by decide +kernel
theorem d_Shm_faultOf_35 : decode prog_18_method_12_code 35 = .ok (.ireturn, 1) := by decide +kernel
theorem d_Shm_faultOf_36 : decode prog_18_method_12_code 36 = .ok (.aload_n 0, 1) := by decide +kernel
theorem d_Shm_faultOf_37 : decode prog_18_method_12_code 37 = .ok (.iload_n 1, 1) := by decide +kernel
theorem d_Shm_faultOf_38 : decode prog_18_method_12_code 38 = .ok (.iload_n 2, 1) := by decide +kernel
theorem d_Shm_faultOf_39 : decode prog_18_method_12_code 39 = .ok (.invokestatic 82, 3) := by decide +kernel
theorem d_Shm_faultOf_42 : decode prog_18_method_12_code 42 = .ok (.ifCond .eq 5, 3) := by decide +kernel
theorem d_Shm_faultOf_45 : decode prog_18_method_12_code 45 = .ok (.iconst 4, 1) := by decide +kernel
theorem d_Shm_faultOf_46 : decode prog_18_method_12_code 46 = .ok (.ireturn, 1) := by decide +kernel
theorem d_Shm_faultOf_47 : decode prog_18_method_12_code 47 = .ok (.iload 4, 2) := by decide +kernel
theorem d_Shm_faultOf_49 : decode prog_18_method_12_code 49 = .ok (.bipush 35, 2) := by decide +kernel
theorem d_Shm_faultOf_51 : decode prog_18_method_12_code 51 = .ok (.if_icmp .ne 11, 3) := by decide +kernel
theorem d_Shm_faultOf_54 : decode prog_18_method_12_code 54 = .ok (.aload_n 0, 1) := by decide +kernel
theorem d_Shm_faultOf_55 : decode prog_18_method_12_code 55 = .ok (.iload_n 1, 1) := by decide +kernel
theorem d_Shm_faultOf_56 : decode prog_18_method_12_code 56 = .ok (.invokestatic 86, 3) := by decide +kernel
theorem d_Shm_faultOf_59 : decode prog_18_method_12_code 59 = .ok (.ifCond .eq 19, 3) := by decide +kernel
theorem d_Shm_faultOf_62 : decode prog_18_method_12_code 62 = .ok (.iload 4, 2) := by decide +kernel
theorem d_Shm_faultOf_64 : decode prog_18_method_12_code 64 = .ok (.bipush 34, 2) := by decide +kernel
theorem d_Shm_faultOf_66 : decode prog_18_method_12_code 66 = .ok (.if_icmp .ne 14, 3) := by decide +kernel
theorem d_Shm_faultOf_69 : decode prog_18_method_12_code 69 = .ok (.aload_n 0, 1) := by decide +kernel
theorem d_Shm_faultOf_70 : decode prog_18_method_12_code 70 = .ok (.iload_n 1, 1) := by decide +kernel
theorem d_Shm_faultOf_71 : decode prog_18_method_12_code 71 = .ok (.invokestatic 86, 3) := by decide +kernel
theorem d_Shm_faultOf_74 : decode prog_18_method_12_code 74 = .ok (.iconst 4, 1) := by decide +kernel
theorem d_Shm_faultOf_75 : decode prog_18_method_12_code 75 = .ok (.if_icmp .lt 5, 3) := by decide +kernel
theorem d_Shm_faultOf_78 : decode prog_18_method_12_code 78 = .ok (.iconst 5, 1) := by decide +kernel
theorem d_Shm_faultOf_79 : decode prog_18_method_12_code 79 = .ok (.ireturn, 1) := by decide +kernel
theorem d_Shm_faultOf_80 : decode prog_18_method_12_code 80 = .ok (.iload 4, 2) := by decide +kernel
theorem d_Shm_faultOf_82 : decode prog_18_method_12_code 82 = .ok (.ifCond .ne 7, 3) := by decide +kernel
theorem d_Shm_faultOf_85 : decode prog_18_method_12_code 85 = .ok (.iconst 1, 1) := by decide +kernel
theorem d_Shm_faultOf_86 : decode prog_18_method_12_code 86 = .ok (.goto 4, 3) := by decide +kernel
theorem d_Shm_faultOf_89 : decode prog_18_method_12_code 89 = .ok (.iconst 0, 1) := by decide +kernel
theorem d_Shm_faultOf_90 : decode prog_18_method_12_code 90 = .ok (.iload_n 1, 1) := by decide +kernel
theorem d_Shm_faultOf_91 : decode prog_18_method_12_code 91 = .ok (.iload_n 2, 1) := by decide +kernel
theorem d_Shm_faultOf_92 : decode prog_18_method_12_code 92 = .ok (.iconst 1, 1) := by decide +kernel
theorem d_Shm_faultOf_93 : decode prog_18_method_12_code 93 = .ok (.isub, 1) := by decide +kernel
theorem d_Shm_faultOf_94 : decode prog_18_method_12_code 94 = .ok (.if_icmp .ne 7, 3) := by decide +kernel
theorem d_Shm_faultOf_97 : decode prog_18_method_12_code 97 = .ok (.iconst 1, 1) := by decide +kernel
theorem d_Shm_faultOf_98 : decode prog_18_method_12_code 98 = .ok (.goto 4, 3) := by decide +kernel
theorem d_Shm_faultOf_101 : decode prog_18_method_12_code 101 = .ok (.iconst 0, 1) := by decide +kernel
theorem d_Shm_faultOf_102 : decode prog_18_method_12_code 102 = .ok (.if_icmp .eq 6, 3) := by decide +kernel
theorem d_Shm_faultOf_105 : decode prog_18_method_12_code 105 = .ok (.bipush 6, 2) := by decide +kernel
theorem d_Shm_faultOf_107 : decode prog_18_method_12_code 107 = .ok (.ireturn, 1) := by decide +kernel
theorem d_Shm_faultOf_108 : decode prog_18_method_12_code 108 = .ok (.iload 4, 2) := by decide +kernel
theorem d_Shm_faultOf_110 : decode prog_18_method_12_code 110 = .ok (.bipush 38, 2) := by decide +kernel
theorem d_Shm_faultOf_112 : decode prog_18_method_12_code 112 = .ok (.if_icmp .ne 12, 3) := by decide +kernel
theorem d_Shm_faultOf_115 : decode prog_18_method_12_code 115 = .ok (.iload_n 3, 1) := by decide +kernel
theorem d_Shm_faultOf_116 : decode prog_18_method_12_code 116 = .ok (.ifCond .ne 8, 3) := by decide +kernel
theorem d_Shm_faultOf_119 : decode prog_18_method_12_code 119 = .ok (.bipush 7, 2) := by decide +kernel
theorem d_Shm_faultOf_121 : decode prog_18_method_12_code 121 = .ok (.goto 4, 3) := by decide +kernel
theorem d_Shm_faultOf_124 : decode prog_18_method_12_code 124 = .ok (.iconst 0, 1) := by decide +kernel
theorem d_Shm_faultOf_125 : decode prog_18_method_12_code 125 = .ok (.ireturn, 1) := by decide +kernel
def F_Shm_faultOf_125 (σ : Sg) (s0 : Int32) : Option (Int32) := some s0
set_option maxRecDepth 10000 in
set_option maxHeartbeats 4000000 in
theorem bt_Shm_faultOf_125 {p : Program} {l : Launch} {e : Env} {R : Room} {s : State} {m : MethodId} {args : Array Value} {below : List Frame} {meth : Method} {c : Code} {D : va_G} {τ : ClassId × ClassId × ClassId} {B : Nat} {A : Nat → Prop} {ad : Nat → Nat} (E : Cx p R s m args meth c prog_18_method_12_code 5 "DrawingMachineModel$ShaderMachineModel" 2 D τ B A) (hret : meth.sig.returnType = (some .int)) (o : Int32) (σ : Sg) (s0 : Int32) (h : F_Shm_faultOf_125 σ s0 = some o) {H : Heap} {locs : List Loc} {ls : Array Slot} (w : Wd s D A (wdM τ σ ad) H locs) (hl : lv_has ls 5 []) : W p l e R s m args below meth c H locs 0 0 (QI below args s A D τ (wdM τ σ ad) o) (F0 m 125 ls [.int s0]) := by
  obtain rfl := Option.some.inj h
  exact rt_i E w hret d_Shm_faultOf_125
def F_Shm_faultOf_124 (σ : Sg) : Option (Int32) := F_Shm_faultOf_125 σ 0
set_option maxRecDepth 10000 in
set_option maxHeartbeats 4000000 in
theorem bt_Shm_faultOf_124 {p : Program} {l : Launch} {e : Env} {R : Room} {s : State} {m : MethodId} {args : Array Value} {below : List Frame} {meth : Method} {c : Code} {D : va_G} {τ : ClassId × ClassId × ClassId} {B : Nat} {A : Nat → Prop} {ad : Nat → Nat} (E : Cx p R s m args meth c prog_18_method_12_code 5 "DrawingMachineModel$ShaderMachineModel" 2 D τ B A) (hret : meth.sig.returnType = (some .int)) (o : Int32) (σ : Sg) (h : F_Shm_faultOf_124 σ = some o) {H : Heap} {locs : List Loc} {ls : Array Slot} (w : Wd s D A (wdM τ σ ad) H locs) (hl : lv_has ls 5 []) : W p l e R s m args below meth c H locs 0 0 (QI below args s A D τ (wdM τ σ ad) o) (F0 m 124 ls []) := by
  refine lv_iconst (v := 0) E.x E.b d_Shm_faultOf_124 (by decide) ?_
  exact bt_Shm_faultOf_125 E hret o σ 0 h w (lv_sub hl [] rfl)
def F_Shm_faultOf_102 (σ : Sg) (v3 : Int32) (v4 : Int32) (s0 : Int32) (s1 : Int32) : Option (Int32) := if s0 = s1 then (if v4 = (38 : Int32) then (if v3 = (0 : Int32) then (F_Shm_faultOf_125 σ 7) else (F_Shm_faultOf_124 σ)) else (F_Shm_faultOf_124 σ)) else (some 6)
set_option maxRecDepth 10000 in
set_option maxHeartbeats 4000000 in
theorem bt_Shm_faultOf_102 {p : Program} {l : Launch} {e : Env} {R : Room} {s : State} {m : MethodId} {args : Array Value} {below : List Frame} {meth : Method} {c : Code} {D : va_G} {τ : ClassId × ClassId × ClassId} {B : Nat} {A : Nat → Prop} {ad : Nat → Nat} (E : Cx p R s m args meth c prog_18_method_12_code 5 "DrawingMachineModel$ShaderMachineModel" 2 D τ B A) (hret : meth.sig.returnType = (some .int)) (o : Int32) (σ : Sg) (v3 : Int32) (v4 : Int32) (s0 : Int32) (s1 : Int32) (h : F_Shm_faultOf_102 σ v3 v4 s0 s1 = some o) {H : Heap} {locs : List Loc} {ls : Array Slot} (w : Wd s D A (wdM τ σ ad) H locs) (hl : lv_has ls 5 [(3, .int v3), (4, .int v4)]) : W p l e R s m args below meth c H locs 0 0 (QI below args s A D τ (wdM τ σ ad) o) (F0 m 102 ls [.int s1, .int s0]) := by
  refine lv_icmp_eq (tgt := 108) E.x E.b d_Shm_faultOf_102 (by decide) (fun c => ?_) (fun c => ?_)
  ·
    replace h := ifT c h
    refine lv_iload E.x E.b d_Shm_faultOf_108 (lv_at hl 1 rfl) ?_
    refine lv_bipush (v := 38) E.x E.b d_Shm_faultOf_110 (by decide) ?_
    refine lv_icmp_ne (tgt := 124) E.x E.b d_Shm_faultOf_112 (by decide) (fun c => ?_) (fun c => ?_)
    ·
      replace h := ifF c h
      exact bt_Shm_faultOf_124 E hret o σ h w (lv_sub hl [] rfl)
    ·
      replace h := ifT c h
      refine lv_iload_n E.x E.b d_Shm_faultOf_115 rfl (lv_at hl 0 rfl) ?_
      refine lv_if_ne (tgt := 124) E.x E.b d_Shm_faultOf_116 (by decide) (fun c => ?_) (fun c => ?_)
      ·
        replace h := ifF c h
        exact bt_Shm_faultOf_124 E hret o σ h w (lv_sub hl [] rfl)
      ·
        replace h := ifT c h
        refine lv_bipush (v := 7) E.x E.b d_Shm_faultOf_119 (by decide) ?_
        refine lv_goto (tgt := 125) E.x E.b d_Shm_faultOf_121 (by decide) ?_
        exact bt_Shm_faultOf_125 E hret o σ 7 h w (lv_sub hl [] rfl)
  ·
    replace h := ifF c h
    refine lv_bipush (v := 6) E.x E.b d_Shm_faultOf_105 (by decide) ?_
    obtain rfl := Option.some.inj h
    exact rt_i E w hret d_Shm_faultOf_107
def F_Shm_faultOf_90 (σ : Sg) (v1 : Int32) (v2 : Int32) (v3 : Int32) (v4 : Int32) (s0 : Int32) : Option (Int32) := if v1 = (v2 - 1) then (F_Shm_faultOf_102 σ v3 v4 s0 1) else (F_Shm_faultOf_102 σ v3 v4 s0 0)
set_option maxRecDepth 10000 in
set_option maxHeartbeats 4000000 in
theorem bt_Shm_faultOf_90 {p : Program} {l : Launch} {e : Env} {R : Room} {s : State} {m : MethodId} {args : Array Value} {below : List Frame} {meth : Method} {c : Code} {D : va_G} {τ : ClassId × ClassId × ClassId} {B : Nat} {A : Nat → Prop} {ad : Nat → Nat} (E : Cx p R s m args meth c prog_18_method_12_code 5 "DrawingMachineModel$ShaderMachineModel" 2 D τ B A) (hret : meth.sig.returnType = (some .int)) (o : Int32) (σ : Sg) (v1 : Int32) (v2 : Int32) (v3 : Int32) (v4 : Int32) (s0 : Int32) (h : F_Shm_faultOf_90 σ v1 v2 v3 v4 s0 = some o) {H : Heap} {locs : List Loc} {ls : Array Slot} (w : Wd s D A (wdM τ σ ad) H locs) (hl : lv_has ls 5 [(1, .int v1), (2, .int v2), (3, .int v3), (4, .int v4)]) : W p l e R s m args below meth c H locs 0 0 (QI below args s A D τ (wdM τ σ ad) o) (F0 m 90 ls [.int s0]) := by
  refine lv_iload_n E.x E.b d_Shm_faultOf_90 rfl (lv_at hl 0 rfl) ?_
  refine lv_iload_n E.x E.b d_Shm_faultOf_91 rfl (lv_at hl 1 rfl) ?_
  refine lv_iconst (v := 1) E.x E.b d_Shm_faultOf_92 (by decide) ?_
  refine lv_isub E.x E.b d_Shm_faultOf_93 ?_
  refine lv_icmp_ne (tgt := 101) E.x E.b d_Shm_faultOf_94 (by decide) (fun c => ?_) (fun c => ?_)
  ·
    replace h := ifF c h
    refine lv_iconst (v := 0) E.x E.b d_Shm_faultOf_101 (by decide) ?_
    exact bt_Shm_faultOf_102 E hret o σ v3 v4 s0 0 h w (lv_sub hl [2, 3] rfl)
  ·
    replace h := ifT c h
    refine lv_iconst (v := 1) E.x E.b d_Shm_faultOf_97 (by decide) ?_
    refine lv_goto (tgt := 102) E.x E.b d_Shm_faultOf_98 (by decide) ?_
    exact bt_Shm_faultOf_102 E hret o σ v3 v4 s0 1 h w (lv_sub hl [2, 3] rfl)
def F_Shm_faultOf_80 (σ : Sg) (v1 : Int32) (v2 : Int32) (v3 : Int32) (v4 : Int32) : Option (Int32) := if v4 = (0 : Int32) then (F_Shm_faultOf_90 σ v1 v2 v3 v4 1) else (F_Shm_faultOf_90 σ v1 v2 v3 v4 0)
set_option maxRecDepth 10000 in
set_option maxHeartbeats 4000000 in
theorem bt_Shm_faultOf_80 {p : Program} {l : Launch} {e : Env} {R : Room} {s : State} {m : MethodId} {args : Array Value} {below : List Frame} {meth : Method} {c : Code} {D : va_G} {τ : ClassId × ClassId × ClassId} {B : Nat} {A : Nat → Prop} {ad : Nat → Nat} (E : Cx p R s m args meth c prog_18_method_12_code 5 "DrawingMachineModel$ShaderMachineModel" 2 D τ B A) (hret : meth.sig.returnType = (some .int)) (o : Int32) (σ : Sg) (v1 : Int32) (v2 : Int32) (v3 : Int32) (v4 : Int32) (h : F_Shm_faultOf_80 σ v1 v2 v3 v4 = some o) {H : Heap} {locs : List Loc} {ls : Array Slot} (w : Wd s D A (wdM τ σ ad) H locs) (hl : lv_has ls 5 [(1, .int v1), (2, .int v2), (3, .int v3), (4, .int v4)]) : W p l e R s m args below meth c H locs 0 0 (QI below args s A D τ (wdM τ σ ad) o) (F0 m 80 ls []) := by
  refine lv_iload E.x E.b d_Shm_faultOf_80 (lv_at hl 3 rfl) ?_
  refine lv_if_ne (tgt := 89) E.x E.b d_Shm_faultOf_82 (by decide) (fun c => ?_) (fun c => ?_)
  ·
    replace h := ifF c h
    refine lv_iconst (v := 0) E.x E.b d_Shm_faultOf_89 (by decide) ?_
    exact bt_Shm_faultOf_90 E hret o σ v1 v2 v3 v4 0 h w (lv_sub hl [0, 1, 2, 3] rfl)
  ·
    replace h := ifT c h
    refine lv_iconst (v := 1) E.x E.b d_Shm_faultOf_85 (by decide) ?_
    refine lv_goto (tgt := 90) E.x E.b d_Shm_faultOf_86 (by decide) ?_
    exact bt_Shm_faultOf_90 E hret o σ v1 v2 v3 v4 1 h w (lv_sub hl [0, 1, 2, 3] rfl)
def F_Shm_faultOf_78 (σ : Sg) : Option (Int32) := some 5
set_option maxRecDepth 10000 in
set_option maxHeartbeats 4000000 in
theorem bt_Shm_faultOf_78 {p : Program} {l : Launch} {e : Env} {R : Room} {s : State} {m : MethodId} {args : Array Value} {below : List Frame} {meth : Method} {c : Code} {D : va_G} {τ : ClassId × ClassId × ClassId} {B : Nat} {A : Nat → Prop} {ad : Nat → Nat} (E : Cx p R s m args meth c prog_18_method_12_code 5 "DrawingMachineModel$ShaderMachineModel" 2 D τ B A) (hret : meth.sig.returnType = (some .int)) (o : Int32) (σ : Sg) (h : F_Shm_faultOf_78 σ = some o) {H : Heap} {locs : List Loc} {ls : Array Slot} (w : Wd s D A (wdM τ σ ad) H locs) (hl : lv_has ls 5 []) : W p l e R s m args below meth c H locs 0 0 (QI below args s A D τ (wdM τ σ ad) o) (F0 m 78 ls []) := by
  refine lv_iconst (v := 5) E.x E.b d_Shm_faultOf_78 (by decide) ?_
  obtain rfl := Option.some.inj h
  exact rt_i E w hret d_Shm_faultOf_79
def F_Shm_faultOf_62 (σ : Sg) (v0 : Nat) (v1 : Int32) (v2 : Int32) (v3 : Int32) (v4 : Int32) : Option (Int32) := ck (v0 < 58) (if v4 = (34 : Int32) then (bd (F_Shm_depth σ v0 v1) (fun o8 => if o8 < (4 : Int32) then (F_Shm_faultOf_80 σ v1 v2 v3 v4) else (F_Shm_faultOf_78 σ))) else (F_Shm_faultOf_80 σ v1 v2 v3 v4))
set_option maxRecDepth 10000 in
set_option maxHeartbeats 4000000 in
theorem bt_Shm_faultOf_62 {p : Program} {l : Launch} {e : Env} {R : Room} {s : State} {m : MethodId} {args : Array Value} {below : List Frame} {meth : Method} {c : Code} {D : va_G} {τ : ClassId × ClassId × ClassId} {B : Nat} {A : Nat → Prop} {ad : Nat → Nat} (E : Cx p R s m args meth c prog_18_method_12_code 5 "DrawingMachineModel$ShaderMachineModel" 2 D τ B A) (hret : meth.sig.returnType = (some .int)) (o : Int32) (σ : Sg) (v0 : Nat) (v1 : Int32) (v2 : Int32) (v3 : Int32) (v4 : Int32) (h : F_Shm_faultOf_62 σ v0 v1 v2 v3 v4 = some o) {H : Heap} {locs : List Loc} {ls : Array Slot} (w : Wd s D A (wdM τ σ ad) H locs) (hl : lv_has ls 5 [(0, .ref (ad v0)), (1, .int v1), (2, .int v2), (3, .int v3), (4, .int v4)]) : W p l e R s m args below meth c H locs 0 0 (QI below args s A D τ (wdM τ σ ad) o) (F0 m 62 ls []) := by
  obtain ⟨c7, h⟩ := ck_some h
  refine lv_iload E.x E.b d_Shm_faultOf_62 (lv_at hl 4 rfl) ?_
  refine lv_bipush (v := 34) E.x E.b d_Shm_faultOf_64 (by decide) ?_
  refine lv_icmp_ne (tgt := 80) E.x E.b d_Shm_faultOf_66 (by decide) (fun c => ?_) (fun c => ?_)
  ·
    replace h := ifF c h
    exact bt_Shm_faultOf_80 E hret o σ v1 v2 v3 v4 h w (lv_sub hl [1, 2, 3, 4] rfl)
  ·
    replace h := ifT c h
    refine lv_aload_n E.x E.b d_Shm_faultOf_69 rfl (lv_at hl 0 rfl) ?_
    refine lv_iload_n E.x E.b d_Shm_faultOf_70 rfl (lv_at hl 1 rfl) ?_
    obtain ⟨o8, h_o8, h⟩ := bd_some h
    refine clS_Shm_depth E w (ar0 := v0) (x1 := v1) h_o8 k2127 (by decide) hl.1 (Nat.le_of_ble_eq_true rfl) d_Shm_faultOf_71 (fun H locs w => ?_)
    refine lv_iconst (v := 4) E.x E.b d_Shm_faultOf_74 (by decide) ?_
    refine lv_icmp_lt (tgt := 80) E.x E.b d_Shm_faultOf_75 (by decide) (fun c => ?_) (fun c => ?_)
    ·
      replace h := ifT c h
      exact bt_Shm_faultOf_80 E hret o σ v1 v2 v3 v4 h w (lv_sub hl [1, 2, 3, 4] rfl)
    ·
      replace h := ifF c h
      exact bt_Shm_faultOf_78 E hret o σ h w (lv_sub hl [] rfl)
def F_Shm_faultOf (σ : Sg) (ar0 : Nat) (x1 : Int32) (x2 : Int32) (x3 : Int32) : Option (Int32) := ck (ar0 < 58) (bd (F_Shm_kindOf σ ar0 x1) (fun o10 => if o10 ≤ (40 : Int32) then (bd (F_Shm_badTarget σ ar0 x1) (fun o11 => if o11 = (0 : Int32) then (bd (F_Shm_badSources σ ar0 x1) (fun o12 => if o12 = (0 : Int32) then (bd (F_Shm_badNumber σ ar0 x1 x2) (fun o13 => if o13 = (0 : Int32) then (if o10 = (35 : Int32) then (bd (F_Shm_depth σ ar0 x1) (fun o14 => if o14 = (0 : Int32) then (F_Shm_faultOf_78 σ) else (F_Shm_faultOf_62 σ ar0 x1 x2 x3 o10))) else (F_Shm_faultOf_62 σ ar0 x1 x2 x3 o10)) else (some 4))) else (some 3))) else (some 2))) else (some 1)))
set_option maxRecDepth 10000 in
set_option maxHeartbeats 4000000 in
theorem c_Shm_faultOf (l : Launch) (D : va_G) (τ : ClassId × ClassId × ClassId) (B : Nat) (σ : Sg) (ad : Nat → Nat) (ar0 : Nat) (x1 : Int32) (x2 : Int32) (x3 : Int32) (o : Int32) (h : F_Shm_faultOf σ ar0 x1 x2 x3 = some o) : MI l y_Shm_faultOf (Cond.code y_Shm_faultOf prog_18_method_12_code 5 (some .int)) 2 D τ B [.ref (ad ar0), .int x1, .int x2, .int x3] (wdM τ σ ad) (wdM τ σ ad) o := by
  refine en_i (by decide) (Nat.le_of_ble_eq_true rfl) ?_
  intro p e R s m args below meth c H locs ls A E hret w hl
  have E : Cx p R s m args meth c prog_18_method_12_code 5 "DrawingMachineModel$ShaderMachineModel" 2 D τ B A := E
  have hl : lv_has ls 5 [(0, .ref (ad ar0)), (1, .int x1), (2, .int x2), (3, .int x3)] := hl
  obtain ⟨c9, h⟩ := ck_some h
  refine lv_aload_n E.x E.b d_Shm_faultOf_0 rfl (lv_at hl 0 rfl) ?_
  refine lv_iload_n E.x E.b d_Shm_faultOf_1 rfl (lv_at hl 1 rfl) ?_
  obtain ⟨o10, h_o10, h⟩ := bd_some h
  refine clS_Shm_kindOf E w (ar0 := ar0) (x1 := x1) h_o10 k2099 (by decide) hl.1 (Nat.le_of_ble_eq_true rfl) d_Shm_faultOf_2 (fun H locs w => ?_)
  refine lv_istore (lv' := [(4, .int o10), (0, .ref (ad ar0)), (1, .int x1), (2, .int x2), (3, .int x3)]) E.x E.b d_Shm_faultOf_5 hl (by decide) rfl (fun ls hl => ?_)
  refine lv_iload E.x E.b d_Shm_faultOf_7 (lv_at hl 0 rfl) ?_
  refine lv_bipush (v := 40) E.x E.b d_Shm_faultOf_9 (by decide) ?_
  refine lv_icmp_le (tgt := 16) E.x E.b d_Shm_faultOf_11 (by decide) (fun c => ?_) (fun c => ?_)
  ·
    replace h := ifT c h
    refine lv_aload_n E.x E.b d_Shm_faultOf_16 rfl (lv_at hl 1 rfl) ?_
    refine lv_iload_n E.x E.b d_Shm_faultOf_17 rfl (lv_at hl 2 rfl) ?_
    obtain ⟨o11, h_o11, h⟩ := bd_some h
    refine clS_Shm_badTarget E w (ar0 := ar0) (x1 := x1) h_o11 k2102 (by decide) hl.1 (Nat.le_of_ble_eq_true rfl) d_Shm_faultOf_18 (fun H locs w => ?_)
    refine lv_if_eq (tgt := 26) E.x E.b d_Shm_faultOf_21 (by decide) (fun c => ?_) (fun c => ?_)
    ·
      replace h := ifT c h
      refine lv_aload_n E.x E.b d_Shm_faultOf_26 rfl (lv_at hl 1 rfl) ?_
      refine lv_iload_n E.x E.b d_Shm_faultOf_27 rfl (lv_at hl 2 rfl) ?_
      obtain ⟨o12, h_o12, h⟩ := bd_some h
      refine clS_Shm_badSources E w (ar0 := ar0) (x1 := x1) h_o12 k2108 (by decide) hl.1 (Nat.le_of_ble_eq_true rfl) d_Shm_faultOf_28 (fun H locs w => ?_)
      refine lv_if_eq (tgt := 36) E.x E.b d_Shm_faultOf_31 (by decide) (fun c => ?_) (fun c => ?_)
      ·
        replace h := ifT c h
        refine lv_aload_n E.x E.b d_Shm_faultOf_36 rfl (lv_at hl 1 rfl) ?_
        refine lv_iload_n E.x E.b d_Shm_faultOf_37 rfl (lv_at hl 2 rfl) ?_
        refine lv_iload_n E.x E.b d_Shm_faultOf_38 rfl (lv_at hl 3 rfl) ?_
        obtain ⟨o13, h_o13, h⟩ := bd_some h
        refine clS_Shm_badNumber E w (ar0 := ar0) (x1 := x1) (x2 := x2) h_o13 k2121 (by decide) hl.1 (Nat.le_of_ble_eq_true rfl) d_Shm_faultOf_39 (fun H locs w => ?_)
        refine lv_if_eq (tgt := 47) E.x E.b d_Shm_faultOf_42 (by decide) (fun c => ?_) (fun c => ?_)
        ·
          replace h := ifT c h
          refine lv_iload E.x E.b d_Shm_faultOf_47 (lv_at hl 0 rfl) ?_
          refine lv_bipush (v := 35) E.x E.b d_Shm_faultOf_49 (by decide) ?_
          refine lv_icmp_ne (tgt := 62) E.x E.b d_Shm_faultOf_51 (by decide) (fun c => ?_) (fun c => ?_)
          ·
            replace h := ifF c h
            exact bt_Shm_faultOf_62 E hret o σ ar0 x1 x2 x3 o10 h w (lv_sub hl [1, 2, 3, 4, 0] rfl)
          ·
            replace h := ifT c h
            refine lv_aload_n E.x E.b d_Shm_faultOf_54 rfl (lv_at hl 1 rfl) ?_
            refine lv_iload_n E.x E.b d_Shm_faultOf_55 rfl (lv_at hl 2 rfl) ?_
            obtain ⟨o14, h_o14, h⟩ := bd_some h
            refine clS_Shm_depth E w (ar0 := ar0) (x1 := x1) h_o14 k2127 (by decide) hl.1 (Nat.le_of_ble_eq_true rfl) d_Shm_faultOf_56 (fun H locs w => ?_)
            refine lv_if_eq (tgt := 78) E.x E.b d_Shm_faultOf_59 (by decide) (fun c => ?_) (fun c => ?_)
            ·
              replace h := ifT c h
              exact bt_Shm_faultOf_78 E hret o σ h w (lv_sub hl [] rfl)
            ·
              replace h := ifF c h
              exact bt_Shm_faultOf_62 E hret o σ ar0 x1 x2 x3 o10 h w (lv_sub hl [1, 2, 3, 4, 0] rfl)
        ·
          replace h := ifF c h
          refine lv_iconst (v := 4) E.x E.b d_Shm_faultOf_45 (by decide) ?_
          obtain rfl := Option.some.inj h
          exact rt_i E w hret d_Shm_faultOf_46
      ·
        replace h := ifF c h
        refine lv_iconst (v := 3) E.x E.b d_Shm_faultOf_34 (by decide) ?_
        obtain rfl := Option.some.inj h
        exact rt_i E w hret d_Shm_faultOf_35
    ·
      replace h := ifF c h
      refine lv_iconst (v := 2) E.x E.b d_Shm_faultOf_24 (by decide) ?_
      obtain rfl := Option.some.inj h
      exact rt_i E w hret d_Shm_faultOf_25
  ·
    replace h := ifF c h
    refine lv_iconst (v := 1) E.x E.b d_Shm_faultOf_14 (by decide) ?_
    obtain rfl := Option.some.inj h
    exact rt_i E w hret d_Shm_faultOf_15
theorem clS_Shm_faultOf {p : Program} {l : Launch} {e : Env} {R : Room} {s : State} {m : MethodId} {args : Array Value} {below : List Frame} {meth : Method} {c : Code} {H : Heap} {locs : List Loc} {Q : State → Prop} {cc : ByteArray} {nL pc lev : Nat} {own : String} {D : va_G} {τ : ClassId × ClassId × ClassId} {B : Nat} {A : Nat → Prop} {σ : Sg} {ad : Nat → Nat} {ls : Array Slot} {rest : List Value} (E : Cx p R s m args meth c cc nL own lev D τ B A) (w : Wd s D A (wdM τ σ ad) H locs) {ar0 : Nat} {x1 : Int32} {x2 : Int32} {x3 : Int32} {o : Int32} (h : F_Shm_faultOf σ ar0 x1 x2 x3 = some o) {index : Nat} (hlk : Cond.methodLink own index y_Shm_faultOf ∈ tw) (hlev : 2 < lev) (hsz : ls.size = nL) (hr : (rest.map fun v => v.category).sum ≤ 8) (hd : decode cc pc = .ok (.invokestatic index, 3)) (kk : ∀ (H1 : Heap) (locs1 : List Loc), Wd s D A (wdM τ σ ad) H1 locs1 → W p l e R s m args below meth c H1 locs1 0 0 Q (F0 m (pc + 3) ls (.int o :: rest))) : W p l e R s m args below meth c H locs 0 0 Q (F0 m pc ls (.int x3 :: .int x2 :: .int x1 :: .ref (ad ar0) :: rest)) :=
  cr_i w E.C (va_runS (As := [.ref (ad ar0), .int x1, .int x2, .int x3]) (rest := rest) E.fix (c_Shm_faultOf l D τ B σ ad ar0 x1 x2 x3 o h H.size) (va_cwS 4 E.w (tw_pre (tw_good k2098) (l := [_, _, _]) (List.forall_mem_cons.mpr ⟨hlk, List.forall_mem_cons.mpr ⟨k2097, List.forall_mem_cons.mpr ⟨k17, fun _ h => absurd h List.not_mem_nil⟩⟩⟩)) rfl rfl rfl (by decide +kernel) (E.rm hlev (by decide))) (wd_pre w E.C [.ref (ad ar0), .int x1, .int x2, .int x3]) rfl rfl hsz rfl (lv_room hr) hd ⟨Nat.zero_le _, Nat.zero_le _⟩) kk

theorem d_Shm_no_0 : decode prog_18_method_16_code 0 = .ok (.aload_n 0, 1) := by decide +kernel
theorem d_Shm_no_1 : decode prog_18_method_16_code 1 = .ok (.iload_n 1, 1) := by decide +kernel
theorem d_Shm_no_2 : decode prog_18_method_16_code 2 = .ok (.putfield 92, 3) := by decide +kernel
theorem d_Shm_no_5 : decode prog_18_method_16_code 5 = .ok (.aload_n 0, 1) := by decide +kernel
theorem d_Shm_no_6 : decode prog_18_method_16_code 6 = .ok (.iload_n 2, 1) := by decide +kernel
theorem d_Shm_no_7 : decode prog_18_method_16_code 7 = .ok (.putfield 16, 3) := by decide +kernel
theorem d_Shm_no_10 : decode prog_18_method_16_code 10 = .ok (.iload_n 1, 1) := by decide +kernel
theorem d_Shm_no_11 : decode prog_18_method_16_code 11 = .ok (.ireturn, 1) := by decide +kernel
def F_Shm_no (σ : Sg) (p0 : Nat) (x0 : Int32) (x1 : Int32) : Option (Sg × Int32) := ck (p0 < 2) (lt (sI σ (42 + 6 * p0) x0) (fun σ4 => lt (sI σ4 (43 + 6 * p0) x1) (fun σ5 => some (σ5, x0))))
set_option maxRecDepth 10000 in
set_option maxHeartbeats 4000000 in
theorem c_Shm_no (l : Launch) (D : va_G) (τ : ClassId × ClassId × ClassId) (B : Nat) (σ : Sg) (ad : Nat → Nat) (p0 : Nat) (x0 : Int32) (x1 : Int32) (o : Sg × Int32) (h : F_Shm_no σ p0 x0 x1 = some o) : MI l y_Shm_no (Cond.code y_Shm_no prog_18_method_16_code 3 (some .int)) 0 D τ B [.ref (ad (65 + p0)), .int x0, .int x1] (wdM τ σ ad) (wdM τ o.1 ad) o.2 := by
  refine en_i (by decide) (Nat.le_of_ble_eq_true rfl) ?_
  intro p e R s m args below meth c H locs ls A E hret w hl
  have E : Cx p R s m args meth c prog_18_method_16_code 3 "DrawingMachineModel$ShaderMachineModel" 0 D τ B A := E
  have hl : lv_has ls 3 [(0, .ref (ad (65 + p0))), (1, .int x0), (2, .int x1)] := hl
  obtain ⟨c3, h⟩ := ck_some h
  refine lv_aload_n E.x E.b d_Shm_no_0 rfl (lv_at hl 0 rfl) ?_
  refine lv_iload_n E.x E.b d_Shm_no_1 rfl (lv_at hl 1 rfl) ?_
  obtain ⟨σ4, e_σ4, h⟩ := lt_some h
  refine pM_Shm_fault E w (pid := p0) c3 k1560 e_σ4 d_Shm_no_2 (fun H locs w => ?_)
  refine lv_aload_n E.x E.b d_Shm_no_5 rfl (lv_at hl 0 rfl) ?_
  refine lv_iload_n E.x E.b d_Shm_no_6 rfl (lv_at hl 2 rfl) ?_
  obtain ⟨σ5, e_σ5, h⟩ := lt_some h
  refine pM_Shm_place E w (pid := p0) c3 k1561 e_σ5 d_Shm_no_7 (fun H locs w => ?_)
  refine lv_iload_n E.x E.b d_Shm_no_10 rfl (lv_at hl 1 rfl) ?_
  obtain rfl := Option.some.inj h
  exact rt_i E w hret d_Shm_no_11
theorem clV_Shm_no {p : Program} {l : Launch} {e : Env} {R : Room} {s : State} {m : MethodId} {args : Array Value} {below : List Frame} {meth : Method} {c : Code} {H : Heap} {locs : List Loc} {Q : State → Prop} {cc : ByteArray} {nL pc lev : Nat} {own : String} {D : va_G} {τ : ClassId × ClassId × ClassId} {B : Nat} {A : Nat → Prop} {σ : Sg} {ad : Nat → Nat} {ls : Array Slot} {rest : List Value} (E : Cx p R s m args meth c cc nL own lev D τ B A) (w : Wd s D A (wdM τ σ ad) H locs) {p0 : Nat} {x0 : Int32} {x1 : Int32} {o : Sg × Int32} (h : F_Shm_no σ p0 x0 x1 = some o) {index : Nat} (hlk : Cond.methodLink own index y_Shm_no ∈ tw) (hlev : 0 < lev) (hsz : ls.size = nL) (hr : (rest.map fun v => v.category).sum ≤ 8) (hd : decode cc pc = .ok (.invokevirtual index, 3)) (kk : ∀ (H1 : Heap) (locs1 : List Loc), Wd s D A (wdM τ o.1 ad) H1 locs1 → W p l e R s m args below meth c H1 locs1 0 0 Q (F0 m (pc + 3) ls (.int o.2 :: rest))) : W p l e R s m args below meth c H locs 0 0 Q (F0 m pc ls (.int x1 :: .int x0 :: .ref (ad (65 + p0)) :: rest)) :=
  cr_i w E.C (va_runV (As := [.int x0, .int x1]) (rest := rest) E.fix (c_Shm_no l D τ B σ ad p0 x0 x1 o h H.size) (cwV 2 E.w (tw_pre (tw_good k2133) (l := [_, _, _, _]) (List.forall_mem_cons.mpr ⟨hlk, List.forall_mem_cons.mpr ⟨k2132, List.forall_mem_cons.mpr ⟨ks69, List.forall_mem_cons.mpr ⟨k17, fun _ h => absurd h List.not_mem_nil⟩⟩⟩⟩)) rfl rfl rfl (by decide +kernel) (E.rm hlev (by decide))) (wd_preV w E.C [.int x0, .int x1] (rcM_Shm (ck_some h).1) rfl) rfl rfl hsz rfl (lv_room hr) hd ⟨Nat.zero_le _, Nat.zero_le _⟩) kk

theorem d_Shm_steps_0 : decode prog_18_method_15_code 0 = .ok (.lconst 0, 1) := by decide +kernel
theorem d_Shm_steps_1 : decode prog_18_method_15_code 1 = .ok (.lstore_n 2, 1) := by decide +kernel
theorem d_Shm_steps_2 : decode prog_18_method_15_code 2 = .ok (.iconst 0, 1) := by decide +kernel
theorem d_Shm_steps_3 : decode prog_18_method_15_code 3 = .ok (.istore 4, 2) := by decide +kernel
theorem d_Shm_steps_5 : decode prog_18_method_15_code 5 = .ok (.iload 4, 2) := by decide +kernel
theorem d_Shm_steps_7 : decode prog_18_method_15_code 7 = .ok (.iload_n 1, 1) := by decide +kernel
theorem d_Shm_steps_8 : decode prog_18_method_15_code 8 = .ok (.if_icmp .ge 53, 3) := by decide +kernel
theorem d_Shm_steps_11 : decode prog_18_method_15_code 11 = .ok (.lconst 1, 1) := by decide +kernel
theorem d_Shm_steps_12 : decode prog_18_method_15_code 12 = .ok (.lstore 5, 2) := by decide +kernel
theorem d_Shm_steps_14 : decode prog_18_method_15_code 14 = .ok (.aload_n 0, 1) := by decide +kernel
theorem d_Shm_steps_15 : decode prog_18_method_15_code 15 = .ok (.iload 4, 2) := by decide +kernel
theorem d_Shm_steps_17 : decode prog_18_method_15_code 17 = .ok (.invokestatic 89, 3) := by decide +kernel
theorem d_Shm_steps_20 : decode prog_18_method_15_code 20 = .ok (.istore 7, 2) := by decide +kernel
theorem d_Shm_steps_22 : decode prog_18_method_15_code 22 = .ok (.iload 7, 2) := by decide +kernel
theorem d_Shm_steps_24 : decode prog_18_method_15_code 24 = .ok (.ifCond .lt 26, 3) := by decide +kernel
theorem d_Shm_steps_27 : decode prog_18_method_15_code 27 = .ok (.lload 5, 2) := by decide +kernel
theorem d_Shm_steps_29 : decode prog_18_method_15_code 29 = .ok (.aload_n 0, 1) := by decide +kernel
theorem d_Shm_steps_30 : decode prog_18_method_15_code 30 = .ok (.iload 7, 2) := by decide +kernel
theorem d_Shm_steps_32 : decode prog_18_method_15_code 32 = .ok (.invokestatic 72, 3) := by decide +kernel
theorem d_Shm_steps_35 : decode prog_18_method_15_code 35 = .ok (.i2l, 1) := by decide +kernel
theorem d_Shm_steps_36 : decode prog_18_method_15_code 36 = .ok (.lmul, 1) := by decide +kernel
theorem d_Shm_steps_37 : decode prog_18_method_15_code 37 = .ok (.lstore 5, 2) := by decide +kernel
theorem d_Shm_steps_39 : decode prog_18_method_15_code 39 = .ok (.aload_n 0, 1) := by decide +kernel
theorem d_Shm_steps_40 : decode prog_18_method_15_code 40 = .ok (.iload 7, 2) := by decide +kernel
theorem d_Shm_steps_42 : decode prog_18_method_15_code 42 = .ok (.invokestatic 89, 3) := by decide +kernel
theorem d_Shm_steps_45 : decode prog_18_method_15_code 45 = .ok (.istore 7, 2) := by decide +kernel
theorem d_Shm_steps_47 : decode prog_18_method_15_code 47 = .ok (.goto (-25), 3) := by decide +kernel
theorem d_Shm_steps_50 : decode prog_18_method_15_code 50 = .ok (.lload_n 2, 1) := by decide +kernel
theorem d_Shm_steps_51 : decode prog_18_method_15_code 51 = .ok (.lload 5, 2) := by decide +kernel
theorem d_Shm_steps_53 : decode prog_18_method_15_code 53 = .ok (.ladd, 1) := by decide +kernel
theorem d_Shm_steps_54 : decode prog_18_method_15_code 54 = .ok (.lstore_n 2, 1) := by decide +kernel
theorem d_Shm_steps_55 : decode prog_18_method_15_code 55 = .ok (.iinc 4 1, 3) := by decide +kernel
theorem d_Shm_steps_58 : decode prog_18_method_15_code 58 = .ok (.goto (-53), 3) := by decide +kernel
theorem d_Shm_steps_61 : decode prog_18_method_15_code 61 = .ok (.lload_n 2, 1) := by decide +kernel
theorem d_Shm_steps_62 : decode prog_18_method_15_code 62 = .ok (.lreturn, 1) := by decide +kernel
def L_Shm_steps_22 (rc_5 : Sg → Nat → Int32 → Int64 → Int32 → Option (Int64)) : Nat → Sg → Nat → Int32 → Int64 → Int32 → Int64 → Int32 → Option (Int64)
  | 0, _, _, _, _, _, _, _ => none
  | n + 1, σ, v0, v1, v2, v4, v5, v7 => ck (v0 < 58) (if v7 < (0 : Int32) then (lt (v2 + v5 : Int64) (fun y8 => lt (v4 + 1) (fun y9 => rc_5 σ v0 v1 y8 y9))) else (bd (F_Shm_numberOf σ v0 v7) (fun o10 => lt (v5 * o10.toInt64 : Int64) (fun y11 => bd (F_Shm_around σ v0 v7) (fun o12 => L_Shm_steps_22 rc_5 n σ v0 v1 v2 v4 y11 o12)))))
set_option maxRecDepth 10000 in
set_option maxHeartbeats 4000000 in
theorem lt_Shm_steps_22 {p : Program} {l : Launch} {e : Env} {R : Room} {s : State} {m : MethodId} {args : Array Value} {below : List Frame} {meth : Method} {c : Code} {D : va_G} {τ : ClassId × ClassId × ClassId} {B : Nat} {A : Nat → Prop} {ad : Nat → Nat} (E : Cx p R s m args meth c prog_18_method_15_code 8 "DrawingMachineModel$ShaderMachineModel" 2 D τ B A) (hret : meth.sig.returnType = (some .long)) (o : Int64) (rc_5 : Sg → Nat → Int32 → Int64 → Int32 → Option (Int64)) (σ : Sg) (hr_5 : ∀ (v0 : Nat) (v1 : Int32) (v2 : Int64) (v4 : Int32) (H : Heap) (locs : List Loc) (ls : Array Slot), rc_5 σ v0 v1 v2 v4 = some o → Wd s D A (wdM τ σ ad) H locs → lv_has ls 8 [(0, .ref (ad v0)), (1, .int v1), (2, .long v2), (4, .int v4)] → W p l e R s m args below meth c H locs 0 0 (QL below args s A D τ (wdM τ σ ad) o) (F0 m 5 ls [])) : ∀ (n : Nat) (v0 : Nat) (v1 : Int32) (v2 : Int64) (v4 : Int32) (v5 : Int64) (v7 : Int32) (H : Heap) (locs : List Loc) (ls : Array Slot), L_Shm_steps_22 rc_5 n σ v0 v1 v2 v4 v5 v7 = some o → Wd s D A (wdM τ σ ad) H locs → lv_has ls 8 [(0, .ref (ad v0)), (1, .int v1), (2, .long v2), (4, .int v4), (5, .long v5), (7, .int v7)] → W p l e R s m args below meth c H locs 0 0 (QL below args s A D τ (wdM τ σ ad) o) (F0 m 22 ls []) := by
  intro n
  induction n with
  | zero =>
    intro v0 v1 v2 v4 v5 v7 H locs ls h w hl
    cases h
  | succ n hr_22 =>
    intro v0 v1 v2 v4 v5 v7 H locs ls h w hl
    obtain ⟨c7, h⟩ := ck_some h
    refine lv_iload E.x E.b d_Shm_steps_22 (lv_at hl 5 rfl) ?_
    refine lv_if_lt (tgt := 50) E.x E.b d_Shm_steps_24 (by decide) (fun c => ?_) (fun c => ?_)
    ·
      replace h := ifT c h
      refine lv_lload_n E.x E.b d_Shm_steps_50 rfl (lv_at hl 2 rfl) ?_
      refine lv_lload E.x E.b d_Shm_steps_51 (lv_at hl 4 rfl) ?_
      refine lv_ladd E.x E.b d_Shm_steps_53 ?_
      obtain ⟨y8, e_y8, h⟩ := lt_some h
      refine wl_e (v := y8) e_y8 ?_
      refine lv_lstore_n (lv' := [(2, .long y8), (0, .ref (ad v0)), (1, .int v1), (4, .int v4), (5, .long v5), (7, .int v7)]) E.x E.b d_Shm_steps_54 rfl hl (by decide) rfl (fun ls hl => ?_)
      obtain ⟨y9, e_y9, h⟩ := lt_some h
      refine lv_iinc (v := y9) (lv' := [(4, .int y9), (2, .long y8), (0, .ref (ad v0)), (1, .int v1), (5, .long v5), (7, .int v7)]) E.x E.b d_Shm_steps_55 hl (k := 3) rfl (e_y9) (by decide) rfl (fun ls hl => ?_)
      refine lv_goto (tgt := 5) E.x E.b d_Shm_steps_58 (by decide) ?_
      exact hr_5 v0 v1 y8 y9 _ _ _ h w (lv_sub hl [2, 3, 1, 0] rfl)
    ·
      replace h := ifF c h
      refine lv_lload E.x E.b d_Shm_steps_27 (lv_at hl 4 rfl) ?_
      refine lv_aload_n E.x E.b d_Shm_steps_29 rfl (lv_at hl 0 rfl) ?_
      refine lv_iload E.x E.b d_Shm_steps_30 (lv_at hl 5 rfl) ?_
      obtain ⟨o10, h_o10, h⟩ := bd_some h
      refine clS_Shm_numberOf E w (ar0 := v0) (x1 := v7) h_o10 k2124 (by decide) hl.1 (Nat.le_of_ble_eq_true rfl) d_Shm_steps_32 (fun H locs w => ?_)
      refine lv_i2l (v := o10.toInt64) E.x E.b d_Shm_steps_35 rfl ?_
      refine lv_lmul E.x E.b d_Shm_steps_36 ?_
      obtain ⟨y11, e_y11, h⟩ := lt_some h
      refine wl_e (v := y11) e_y11 ?_
      refine lv_lstore (lv' := [(5, .long y11), (0, .ref (ad v0)), (1, .int v1), (2, .long v2), (4, .int v4), (7, .int v7)]) E.x E.b d_Shm_steps_37 hl (by decide) rfl (fun ls hl => ?_)
      refine lv_aload_n E.x E.b d_Shm_steps_39 rfl (lv_at hl 1 rfl) ?_
      refine lv_iload E.x E.b d_Shm_steps_40 (lv_at hl 5 rfl) ?_
      obtain ⟨o12, h_o12, h⟩ := bd_some h
      refine clS_Shm_around E w (ar0 := v0) (x1 := v7) h_o12 k2137 (by decide) hl.1 (Nat.le_of_ble_eq_true rfl) d_Shm_steps_42 (fun H locs w => ?_)
      refine lv_istore (lv' := [(7, .int o12), (5, .long y11), (0, .ref (ad v0)), (1, .int v1), (2, .long v2), (4, .int v4)]) E.x E.b d_Shm_steps_45 hl (by decide) rfl (fun ls hl => ?_)
      refine lv_goto (tgt := 22) E.x E.b d_Shm_steps_47 (by decide) ?_
      exact hr_22 v0 v1 v2 v4 y11 o12 _ _ _ h w (lv_sub hl [2, 3, 4, 5, 1, 0] rfl)
def L_Shm_steps_5 : Nat → Sg → Nat → Int32 → Int64 → Int32 → Option (Int64)
  | 0, _, _, _, _, _ => none
  | n + 1, σ, v0, v1, v2, v4 => ck (v0 < 58) (if v1 ≤ v4 then (some v2) else (bd (F_Shm_around σ v0 v4) (fun o14 => L_Shm_steps_22 (L_Shm_steps_5 n) 100000 σ v0 v1 v2 v4 1 o14)))
set_option maxRecDepth 10000 in
set_option maxHeartbeats 4000000 in
theorem lt_Shm_steps_5 {p : Program} {l : Launch} {e : Env} {R : Room} {s : State} {m : MethodId} {args : Array Value} {below : List Frame} {meth : Method} {c : Code} {D : va_G} {τ : ClassId × ClassId × ClassId} {B : Nat} {A : Nat → Prop} {ad : Nat → Nat} (E : Cx p R s m args meth c prog_18_method_15_code 8 "DrawingMachineModel$ShaderMachineModel" 2 D τ B A) (hret : meth.sig.returnType = (some .long)) (o : Int64) (σ : Sg) : ∀ (n : Nat) (v0 : Nat) (v1 : Int32) (v2 : Int64) (v4 : Int32) (H : Heap) (locs : List Loc) (ls : Array Slot), L_Shm_steps_5 n σ v0 v1 v2 v4 = some o → Wd s D A (wdM τ σ ad) H locs → lv_has ls 8 [(0, .ref (ad v0)), (1, .int v1), (2, .long v2), (4, .int v4)] → W p l e R s m args below meth c H locs 0 0 (QL below args s A D τ (wdM τ σ ad) o) (F0 m 5 ls []) := by
  intro n
  induction n with
  | zero =>
    intro v0 v1 v2 v4 H locs ls h w hl
    cases h
  | succ n hr_5 =>
    intro v0 v1 v2 v4 H locs ls h w hl
    obtain ⟨c13, h⟩ := ck_some h
    refine lv_iload E.x E.b d_Shm_steps_5 (lv_at hl 3 rfl) ?_
    refine lv_iload_n E.x E.b d_Shm_steps_7 rfl (lv_at hl 1 rfl) ?_
    refine lv_icmp_ge (tgt := 61) E.x E.b d_Shm_steps_8 (by decide) (fun c => ?_) (fun c => ?_)
    ·
      replace h := ifT c h
      refine lv_lload_n E.x E.b d_Shm_steps_61 rfl (lv_at hl 2 rfl) ?_
      obtain rfl := Option.some.inj h
      exact rt_l E w hret d_Shm_steps_62
    ·
      replace h := ifF c h
      refine lv_lconst (v := 1) E.x E.b d_Shm_steps_11 (by decide) ?_
      refine lv_lstore (lv' := [(5, .long 1), (0, .ref (ad v0)), (1, .int v1), (2, .long v2), (4, .int v4)]) E.x E.b d_Shm_steps_12 hl (by decide) rfl (fun ls hl => ?_)
      refine lv_aload_n E.x E.b d_Shm_steps_14 rfl (lv_at hl 1 rfl) ?_
      refine lv_iload E.x E.b d_Shm_steps_15 (lv_at hl 4 rfl) ?_
      obtain ⟨o14, h_o14, h⟩ := bd_some h
      refine clS_Shm_around E w (ar0 := v0) (x1 := v4) h_o14 k2137 (by decide) hl.1 (Nat.le_of_ble_eq_true rfl) d_Shm_steps_17 (fun H locs w => ?_)
      refine lv_istore (lv' := [(7, .int o14), (5, .long 1), (0, .ref (ad v0)), (1, .int v1), (2, .long v2), (4, .int v4)]) E.x E.b d_Shm_steps_20 hl (by decide) rfl (fun ls hl => ?_)
      exact lt_Shm_steps_22 E hret o (L_Shm_steps_5 n) σ hr_5 100000 v0 v1 v2 v4 1 o14 _ _ _ h w (lv_sub hl [2, 3, 4, 5, 1, 0] rfl)
def F_Shm_steps (σ : Sg) (ar0 : Nat) (x1 : Int32) : Option (Int64) := ck (ar0 < 58) (L_Shm_steps_5 100000 σ ar0 x1 0 0)
set_option maxRecDepth 10000 in
set_option maxHeartbeats 4000000 in
theorem c_Shm_steps (l : Launch) (D : va_G) (τ : ClassId × ClassId × ClassId) (B : Nat) (σ : Sg) (ad : Nat → Nat) (ar0 : Nat) (x1 : Int32) (o : Int64) (h : F_Shm_steps σ ar0 x1 = some o) : ML l y_Shm_steps (Cond.code y_Shm_steps prog_18_method_15_code 8 (some .long)) 2 D τ B [.ref (ad ar0), .int x1] (wdM τ σ ad) (wdM τ σ ad) o := by
  refine en_l (by decide) (Nat.le_of_ble_eq_true rfl) ?_
  intro p e R s m args below meth c H locs ls A E hret w hl
  have E : Cx p R s m args meth c prog_18_method_15_code 8 "DrawingMachineModel$ShaderMachineModel" 2 D τ B A := E
  have hl : lv_has ls 8 [(0, .ref (ad ar0)), (1, .int x1)] := hl
  obtain ⟨c15, h⟩ := ck_some h
  refine lv_lconst (v := 0) E.x E.b d_Shm_steps_0 (by decide) ?_
  refine lv_lstore_n (lv' := [(2, .long 0), (0, .ref (ad ar0)), (1, .int x1)]) E.x E.b d_Shm_steps_1 rfl hl (by decide) rfl (fun ls hl => ?_)
  refine lv_iconst (v := 0) E.x E.b d_Shm_steps_2 (by decide) ?_
  refine lv_istore (lv' := [(4, .int 0), (2, .long 0), (0, .ref (ad ar0)), (1, .int x1)]) E.x E.b d_Shm_steps_3 hl (by decide) rfl (fun ls hl => ?_)
  exact lt_Shm_steps_5 E hret o σ 100000 ar0 x1 0 0 _ _ _ h w (lv_sub hl [2, 3, 1, 0] rfl)
theorem clS_Shm_steps {p : Program} {l : Launch} {e : Env} {R : Room} {s : State} {m : MethodId} {args : Array Value} {below : List Frame} {meth : Method} {c : Code} {H : Heap} {locs : List Loc} {Q : State → Prop} {cc : ByteArray} {nL pc lev : Nat} {own : String} {D : va_G} {τ : ClassId × ClassId × ClassId} {B : Nat} {A : Nat → Prop} {σ : Sg} {ad : Nat → Nat} {ls : Array Slot} {rest : List Value} (E : Cx p R s m args meth c cc nL own lev D τ B A) (w : Wd s D A (wdM τ σ ad) H locs) {ar0 : Nat} {x1 : Int32} {o : Int64} (h : F_Shm_steps σ ar0 x1 = some o) {index : Nat} (hlk : Cond.methodLink own index y_Shm_steps ∈ tw) (hlev : 2 < lev) (hsz : ls.size = nL) (hr : (rest.map fun v => v.category).sum ≤ 8) (hd : decode cc pc = .ok (.invokestatic index, 3)) (kk : ∀ (H1 : Heap) (locs1 : List Loc), Wd s D A (wdM τ σ ad) H1 locs1 → W p l e R s m args below meth c H1 locs1 0 0 Q (F0 m (pc + 3) ls (.long o :: rest))) : W p l e R s m args below meth c H locs 0 0 Q (F0 m pc ls (.int x1 :: .ref (ad ar0) :: rest)) :=
  cr_l w E.C (va_runS (As := [.ref (ad ar0), .int x1]) (rest := rest) E.fix (c_Shm_steps l D τ B σ ad ar0 x1 o h H.size) (va_cwS 2 E.w (tw_pre (tw_good k2142) (l := [_, _, _]) (List.forall_mem_cons.mpr ⟨hlk, List.forall_mem_cons.mpr ⟨k2141, List.forall_mem_cons.mpr ⟨k17, fun _ h => absurd h List.not_mem_nil⟩⟩⟩)) rfl rfl rfl (by decide +kernel) (E.rm hlev (by decide))) (wd_pre w E.C [.ref (ad ar0), .int x1]) rfl rfl hsz rfl (lv_room hr) hd ⟨Nat.zero_le _, Nat.zero_le _⟩) kk

theorem d_Shm_check_0 : decode prog_18_method_17_code 0 = .ok (.iconst 0, 1) := by decide +kernel
theorem d_Shm_check_1 : decode prog_18_method_17_code 1 = .ok (.istore 4, 2) := by decide +kernel
theorem d_Shm_check_3 : decode prog_18_method_17_code 3 = .ok (.iload 4, 2) := by decide +kernel
theorem d_Shm_check_5 : decode prog_18_method_17_code 5 = .ok (.iload_n 2, 1) := by decide +kernel
theorem d_Shm_check_6 : decode prog_18_method_17_code 6 = .ok (.if_icmp .ge 33, 3) := by decide +kernel
theorem d_Shm_check_9 : decode prog_18_method_17_code 9 = .ok (.aload_n 1, 1) := by decide +kernel
theorem d_Shm_check_10 : decode prog_18_method_17_code 10 = .ok (.iload 4, 2) := by decide +kernel
theorem d_Shm_check_12 : decode prog_18_method_17_code 12 = .ok (.iload_n 2, 1) := by decide +kernel
theorem d_Shm_check_13 : decode prog_18_method_17_code 13 = .ok (.iload_n 3, 1) := by decide +kernel
theorem d_Shm_check_14 : decode prog_18_method_17_code 14 = .ok (.invokestatic 95, 3) := by decide +kernel
theorem d_Shm_check_17 : decode prog_18_method_17_code 17 = .ok (.istore 5, 2) := by decide +kernel
theorem d_Shm_check_19 : decode prog_18_method_17_code 19 = .ok (.iload 5, 2) := by decide +kernel
theorem d_Shm_check_21 : decode prog_18_method_17_code 21 = .ok (.ifCond .le 12, 3) := by decide +kernel
theorem d_Shm_check_24 : decode prog_18_method_17_code 24 = .ok (.aload_n 0, 1) := by decide +kernel
theorem d_Shm_check_25 : decode prog_18_method_17_code 25 = .ok (.iload 5, 2) := by decide +kernel
theorem d_Shm_check_27 : decode prog_18_method_17_code 27 = .ok (.iload 4, 2) := by decide +kernel
theorem d_Shm_check_29 : decode prog_18_method_17_code 29 = .ok (.invokevirtual 99, 3) := by decide +kernel
theorem d_Shm_check_32 : decode prog_18_method_17_code 32 = .ok (.ireturn, 1) := by decide +kernel
theorem d_Shm_check_33 : decode prog_18_method_17_code 33 = .ok (.iinc 4 1, 3) := by decide +kernel
theorem d_Shm_check_36 : decode prog_18_method_17_code 36 = .ok (.goto (-33), 3) := by decide +kernel
theorem d_Shm_check_39 : decode prog_18_method_17_code 39 = .ok (.iload_n 2, 1) := by decide +kernel
theorem d_Shm_check_40 : decode prog_18_method_17_code 40 = .ok (.iconst 1, 1) := by decide +kernel
theorem d_Shm_check_41 : decode prog_18_method_17_code 41 = .ok (.isub, 1) := by decide +kernel
theorem d_Shm_check_42 : decode prog_18_method_17_code 42 = .ok (.istore 4, 2) := by decide +kernel
theorem d_Shm_check_44 : decode prog_18_method_17_code 44 = .ok (.iload 4, 2) := by decide +kernel
theorem d_Shm_check_46 : decode prog_18_method_17_code 46 = .ok (.ifCond .lt 38, 3) := by decide +kernel
theorem d_Shm_check_49 : decode prog_18_method_17_code 49 = .ok (.aload_n 1, 1) := by decide +kernel
theorem d_Shm_check_50 : decode prog_18_method_17_code 50 = .ok (.iload 4, 2) := by decide +kernel
theorem d_Shm_check_52 : decode prog_18_method_17_code 52 = .ok (.invokestatic 56, 3) := by decide +kernel
theorem d_Shm_check_55 : decode prog_18_method_17_code 55 = .ok (.bipush 34, 2) := by decide +kernel
theorem d_Shm_check_57 : decode prog_18_method_17_code 57 = .ok (.if_icmp .ne 21, 3) := by decide +kernel
theorem d_Shm_check_60 : decode prog_18_method_17_code 60 = .ok (.aload_n 1, 1) := by decide +kernel
theorem d_Shm_check_61 : decode prog_18_method_17_code 61 = .ok (.iload 4, 2) := by decide +kernel
theorem d_Shm_check_63 : decode prog_18_method_17_code 63 = .ok (.iload_n 2, 1) := by decide +kernel
theorem d_Shm_check_64 : decode prog_18_method_17_code 64 = .ok (.invokestatic 103, 3) := by decide +kernel
theorem d_Shm_check_67 : decode prog_18_method_17_code 67 = .ok (.ifCond .ge 11, 3) := by decide +kernel
theorem d_Shm_check_70 : decode prog_18_method_17_code 70 = .ok (.aload_n 0, 1) := by decide +kernel
theorem d_Shm_check_71 : decode prog_18_method_17_code 71 = .ok (.iconst 5, 1) := by decide +kernel
theorem d_Shm_check_72 : decode prog_18_method_17_code 72 = .ok (.iload 4, 2) := by decide +kernel
theorem d_Shm_check_74 : decode prog_18_method_17_code 74 = .ok (.invokevirtual 99, 3) := by decide +kernel
theorem d_Shm_check_77 : decode prog_18_method_17_code 77 = .ok (.ireturn, 1) := by decide +kernel
theorem d_Shm_check_78 : decode prog_18_method_17_code 78 = .ok (.iinc 4 (-1), 3) := by decide +kernel
theorem d_Shm_check_81 : decode prog_18_method_17_code 81 = .ok (.goto (-37), 3) := by decide +kernel
theorem d_Shm_check_84 : decode prog_18_method_17_code 84 = .ok (.iconst 0, 1) := by decide +kernel
theorem d_Shm_check_85 : decode prog_18_method_17_code 85 = .ok (.istore 4, 2) := by decide +kernel
theorem d_Shm_check_87 : decode prog_18_method_17_code 87 = .ok (.iload 4, 2) := by decide +kernel
theorem d_Shm_check_89 : decode prog_18_method_17_code 89 = .ok (.iload_n 2, 1) := by decide +kernel
theorem d_Shm_check_90 : decode prog_18_method_17_code 90 = .ok (.if_icmp .ge 70, 3) := by decide +kernel
theorem d_Shm_check_93 : decode prog_18_method_17_code 93 = .ok (.aload_n 1, 1) := by decide +kernel
theorem d_Shm_check_94 : decode prog_18_method_17_code 94 = .ok (.iload 4, 2) := by decide +kernel
theorem d_Shm_check_96 : decode prog_18_method_17_code 96 = .ok (.invokestatic 56, 3) := by decide +kernel
theorem d_Shm_check_99 : decode prog_18_method_17_code 99 = .ok (.bipush 36, 2) := by decide +kernel
theorem d_Shm_check_101 : decode prog_18_method_17_code 101 = .ok (.if_icmp .eq 14, 3) := by decide +kernel
theorem d_Shm_check_104 : decode prog_18_method_17_code 104 = .ok (.aload_n 1, 1) := by decide +kernel
theorem d_Shm_check_105 : decode prog_18_method_17_code 105 = .ok (.iload 4, 2) := by decide +kernel
theorem d_Shm_check_107 : decode prog_18_method_17_code 107 = .ok (.invokestatic 56, 3) := by decide +kernel
theorem d_Shm_check_110 : decode prog_18_method_17_code 110 = .ok (.bipush 37, 2) := by decide +kernel
theorem d_Shm_check_112 : decode prog_18_method_17_code 112 = .ok (.if_icmp .ne 7, 3) := by decide +kernel
theorem d_Shm_check_115 : decode prog_18_method_17_code 115 = .ok (.iconst 1, 1) := by decide +kernel
theorem d_Shm_check_116 : decode prog_18_method_17_code 116 = .ok (.goto 4, 3) := by decide +kernel
theorem d_Shm_check_119 : decode prog_18_method_17_code 119 = .ok (.iconst 0, 1) := by decide +kernel
theorem d_Shm_check_120 : decode prog_18_method_17_code 120 = .ok (.istore 5, 2) := by decide +kernel
theorem d_Shm_check_122 : decode prog_18_method_17_code 122 = .ok (.iload 5, 2) := by decide +kernel
theorem d_Shm_check_124 : decode prog_18_method_17_code 124 = .ok (.ifCond .eq 30, 3) := by decide +kernel
theorem d_Shm_check_127 : decode prog_18_method_17_code 127 = .ok (.aload_n 1, 1) := by decide +kernel
theorem d_Shm_check_128 : decode prog_18_method_17_code 128 = .ok (.iload 4, 2) := by decide +kernel
theorem d_Shm_check_130 : decode prog_18_method_17_code 130 = .ok (.invokestatic 89, 3) := by decide +kernel
theorem d_Shm_check_133 : decode prog_18_method_17_code 133 = .ok (.aload_n 1, 1) := by decide +kernel
theorem d_Shm_check_134 : decode prog_18_method_17_code 134 = .ok (.aload_n 1, 1) := by decide +kernel
theorem d_Shm_check_135 : decode prog_18_method_17_code 135 = .ok (.iload 4, 2) := by decide +kernel
theorem d_Shm_check_137 : decode prog_18_method_17_code 137 = .ok (.invokestatic 72, 3) := by decide +kernel
theorem d_Shm_check_140 : decode prog_18_method_17_code 140 = .ok (.invokestatic 89, 3) := by decide +kernel
theorem d_Shm_check_143 : decode prog_18_method_17_code 143 = .ok (.if_icmp .eq 11, 3) := by decide +kernel
theorem d_Shm_check_146 : decode prog_18_method_17_code 146 = .ok (.aload_n 0, 1) := by decide +kernel
theorem d_Shm_check_147 : decode prog_18_method_17_code 147 = .ok (.iconst 5, 1) := by decide +kernel
theorem d_Shm_check_148 : decode prog_18_method_17_code 148 = .ok (.iload 4, 2) := by decide +kernel
theorem d_Shm_check_150 : decode prog_18_method_17_code 150 = .ok (.invokevirtual 99, 3) := by decide +kernel
theorem d_Shm_check_153 : decode prog_18_method_17_code 153 = .ok (.ireturn, 1) := by decide +kernel
theorem d_Shm_check_154 : decode prog_18_method_17_code 154 = .ok (.iinc 4 1, 3) := by decide +kernel
theorem d_Shm_check_157 : decode prog_18_method_17_code 157 = .ok (.goto (-70), 3) := by decide +kernel
theorem d_Shm_check_160 : decode prog_18_method_17_code 160 = .ok (.aload_n 1, 1) := by decide +kernel
theorem d_Shm_check_161 : decode prog_18_method_17_code 161 = .ok (.iload_n 2, 1) := by decide +kernel
theorem d_Shm_check_162 : decode prog_18_method_17_code 162 = .ok (.invokestatic 106, 3) := by decide +kernel
theorem d_Shm_check_165 : decode prog_18_method_17_code 165 = .ok (.ldc2_w 110, 3) := by decide +kernel
theorem d_Shm_check_168 : decode prog_18_method_17_code 168 = .ok (.lcmp, 1) := by decide +kernel
theorem d_Shm_check_169 : decode prog_18_method_17_code 169 = .ok (.ifCond .le 13, 3) := by decide +kernel
theorem d_Shm_check_172 : decode prog_18_method_17_code 172 = .ok (.aload_n 0, 1) := by decide +kernel
theorem d_Shm_check_173 : decode prog_18_method_17_code 173 = .ok (.bipush 8, 2) := by decide +kernel
theorem d_Shm_check_175 : decode prog_18_method_17_code 175 = .ok (.iconst (-1), 1) := by decide +kernel
theorem d_Shm_check_176 : decode prog_18_method_17_code 176 = .ok (.invokevirtual 99, 3) := by decide +kernel
theorem d_Shm_check_179 : decode prog_18_method_17_code 179 = .ok (.goto 9, 3) := by decide +kernel
theorem d_Shm_check_182 : decode prog_18_method_17_code 182 = .ok (.aload_n 0, 1) := by decide +kernel
theorem d_Shm_check_183 : decode prog_18_method_17_code 183 = .ok (.iconst 0, 1) := by decide +kernel
theorem d_Shm_check_184 : decode prog_18_method_17_code 184 = .ok (.iconst (-1), 1) := by decide +kernel
theorem d_Shm_check_185 : decode prog_18_method_17_code 185 = .ok (.invokevirtual 99, 3) := by decide +kernel
theorem d_Shm_check_188 : decode prog_18_method_17_code 188 = .ok (.ireturn, 1) := by decide +kernel
def F_Shm_check_188 (σ : Sg) (s0 : Int32) : Option (Sg × Int32) := some (σ, s0)
set_option maxRecDepth 10000 in
set_option maxHeartbeats 4000000 in
theorem bt_Shm_check_188 {p : Program} {l : Launch} {e : Env} {R : Room} {s : State} {m : MethodId} {args : Array Value} {below : List Frame} {meth : Method} {c : Code} {D : va_G} {τ : ClassId × ClassId × ClassId} {B : Nat} {A : Nat → Prop} {ad : Nat → Nat} (E : Cx p R s m args meth c prog_18_method_17_code 6 "DrawingMachineModel$ShaderMachineModel" 3 D τ B A) (hret : meth.sig.returnType = (some .int)) (o : Sg × Int32) (σ : Sg) (s0 : Int32) (h : F_Shm_check_188 σ s0 = some o) {H : Heap} {locs : List Loc} {ls : Array Slot} (w : Wd s D A (wdM τ σ ad) H locs) (hl : lv_has ls 6 []) : W p l e R s m args below meth c H locs 0 0 (QI below args s A D τ (wdM τ o.1 ad) o.2) (F0 m 188 ls [.int s0]) := by
  obtain rfl := Option.some.inj h
  exact rt_i E w hret d_Shm_check_188
def F_Shm_check_154 (rc_87 : Sg → Nat → Nat → Int32 → Int32 → Option (Sg × Int32)) (σ : Sg) (v0 : Nat) (v1 : Nat) (v2 : Int32) (v4 : Int32) : Option (Sg × Int32) := ck (v0 < 2) (ck (v1 < 58) (lt (v4 + 1) (fun y21 => rc_87 σ v0 v1 v2 y21)))
set_option maxRecDepth 10000 in
set_option maxHeartbeats 4000000 in
theorem bt_Shm_check_154 {p : Program} {l : Launch} {e : Env} {R : Room} {s : State} {m : MethodId} {args : Array Value} {below : List Frame} {meth : Method} {c : Code} {D : va_G} {τ : ClassId × ClassId × ClassId} {B : Nat} {A : Nat → Prop} {ad : Nat → Nat} (E : Cx p R s m args meth c prog_18_method_17_code 6 "DrawingMachineModel$ShaderMachineModel" 3 D τ B A) (hret : meth.sig.returnType = (some .int)) (o : Sg × Int32) (rc_87 : Sg → Nat → Nat → Int32 → Int32 → Option (Sg × Int32)) (hr_87 : ∀ (σ : Sg) (v0 : Nat) (v1 : Nat) (v2 : Int32) (v4 : Int32) (H : Heap) (locs : List Loc) (ls : Array Slot), rc_87 σ v0 v1 v2 v4 = some o → Wd s D A (wdM τ σ ad) H locs → lv_has ls 6 [(0, .ref (ad (65 + v0))), (1, .ref (ad v1)), (2, .int v2), (4, .int v4)] → W p l e R s m args below meth c H locs 0 0 (QI below args s A D τ (wdM τ o.1 ad) o.2) (F0 m 87 ls [])) (σ : Sg) (v0 : Nat) (v1 : Nat) (v2 : Int32) (v4 : Int32) (h : F_Shm_check_154 rc_87 σ v0 v1 v2 v4 = some o) {H : Heap} {locs : List Loc} {ls : Array Slot} (w : Wd s D A (wdM τ σ ad) H locs) (hl : lv_has ls 6 [(0, .ref (ad (65 + v0))), (1, .ref (ad v1)), (2, .int v2), (4, .int v4)]) : W p l e R s m args below meth c H locs 0 0 (QI below args s A D τ (wdM τ o.1 ad) o.2) (F0 m 154 ls []) := by
  obtain ⟨c19, h⟩ := ck_some h
  obtain ⟨c20, h⟩ := ck_some h
  obtain ⟨y21, e_y21, h⟩ := lt_some h
  refine lv_iinc (v := y21) (lv' := [(4, .int y21), (0, .ref (ad (65 + v0))), (1, .ref (ad v1)), (2, .int v2)]) E.x E.b d_Shm_check_154 hl (k := 3) rfl (e_y21) (by decide) rfl (fun ls hl => ?_)
  refine lv_goto (tgt := 87) E.x E.b d_Shm_check_157 (by decide) ?_
  exact hr_87 σ v0 v1 v2 y21 _ _ _ h w (lv_sub hl [1, 2, 3, 0] rfl)
def F_Shm_check_120 (rc_87 : Sg → Nat → Nat → Int32 → Int32 → Option (Sg × Int32)) (σ : Sg) (v0 : Nat) (v1 : Nat) (v2 : Int32) (v4 : Int32) (s0 : Int32) : Option (Sg × Int32) := ck (v0 < 2) (ck (v1 < 58) (if s0 = (0 : Int32) then (F_Shm_check_154 rc_87 σ v0 v1 v2 v4) else (bd (F_Shm_around σ v1 v4) (fun o24 => bd (F_Shm_numberOf σ v1 v4) (fun o25 => bd (F_Shm_around σ v1 o25) (fun o26 => if o24 = o26 then (F_Shm_check_154 rc_87 σ v0 v1 v2 v4) else (bd (F_Shm_no σ v0 5 v4) (fun o27 => some (o27.1, o27.2)))))))))
set_option maxRecDepth 10000 in
set_option maxHeartbeats 4000000 in
theorem bt_Shm_check_120 {p : Program} {l : Launch} {e : Env} {R : Room} {s : State} {m : MethodId} {args : Array Value} {below : List Frame} {meth : Method} {c : Code} {D : va_G} {τ : ClassId × ClassId × ClassId} {B : Nat} {A : Nat → Prop} {ad : Nat → Nat} (E : Cx p R s m args meth c prog_18_method_17_code 6 "DrawingMachineModel$ShaderMachineModel" 3 D τ B A) (hret : meth.sig.returnType = (some .int)) (o : Sg × Int32) (rc_87 : Sg → Nat → Nat → Int32 → Int32 → Option (Sg × Int32)) (hr_87 : ∀ (σ : Sg) (v0 : Nat) (v1 : Nat) (v2 : Int32) (v4 : Int32) (H : Heap) (locs : List Loc) (ls : Array Slot), rc_87 σ v0 v1 v2 v4 = some o → Wd s D A (wdM τ σ ad) H locs → lv_has ls 6 [(0, .ref (ad (65 + v0))), (1, .ref (ad v1)), (2, .int v2), (4, .int v4)] → W p l e R s m args below meth c H locs 0 0 (QI below args s A D τ (wdM τ o.1 ad) o.2) (F0 m 87 ls [])) (σ : Sg) (v0 : Nat) (v1 : Nat) (v2 : Int32) (v4 : Int32) (s0 : Int32) (h : F_Shm_check_120 rc_87 σ v0 v1 v2 v4 s0 = some o) {H : Heap} {locs : List Loc} {ls : Array Slot} (w : Wd s D A (wdM τ σ ad) H locs) (hl : lv_has ls 6 [(0, .ref (ad (65 + v0))), (1, .ref (ad v1)), (2, .int v2), (4, .int v4)]) : W p l e R s m args below meth c H locs 0 0 (QI below args s A D τ (wdM τ o.1 ad) o.2) (F0 m 120 ls [.int s0]) := by
  obtain ⟨c22, h⟩ := ck_some h
  obtain ⟨c23, h⟩ := ck_some h
  refine lv_istore (lv' := [(5, .int s0), (0, .ref (ad (65 + v0))), (1, .ref (ad v1)), (2, .int v2), (4, .int v4)]) E.x E.b d_Shm_check_120 hl (by decide) rfl (fun ls hl => ?_)
  refine lv_iload E.x E.b d_Shm_check_122 (lv_at hl 0 rfl) ?_
  refine lv_if_eq (tgt := 154) E.x E.b d_Shm_check_124 (by decide) (fun c => ?_) (fun c => ?_)
  ·
    replace h := ifT c h
    exact bt_Shm_check_154 E hret o rc_87 hr_87 σ v0 v1 v2 v4 h w (lv_sub hl [1, 2, 3, 4] rfl)
  ·
    replace h := ifF c h
    refine lv_aload_n E.x E.b d_Shm_check_127 rfl (lv_at hl 2 rfl) ?_
    refine lv_iload E.x E.b d_Shm_check_128 (lv_at hl 4 rfl) ?_
    obtain ⟨o24, h_o24, h⟩ := bd_some h
    refine clS_Shm_around E w (ar0 := v1) (x1 := v4) h_o24 k2137 (by decide) hl.1 (Nat.le_of_ble_eq_true rfl) d_Shm_check_130 (fun H locs w => ?_)
    refine lv_aload_n E.x E.b d_Shm_check_133 rfl (lv_at hl 2 rfl) ?_
    refine lv_aload_n E.x E.b d_Shm_check_134 rfl (lv_at hl 2 rfl) ?_
    refine lv_iload E.x E.b d_Shm_check_135 (lv_at hl 4 rfl) ?_
    obtain ⟨o25, h_o25, h⟩ := bd_some h
    refine clS_Shm_numberOf E w (ar0 := v1) (x1 := v4) h_o25 k2124 (by decide) hl.1 (Nat.le_of_ble_eq_true rfl) d_Shm_check_137 (fun H locs w => ?_)
    obtain ⟨o26, h_o26, h⟩ := bd_some h
    refine clS_Shm_around E w (ar0 := v1) (x1 := o25) h_o26 k2137 (by decide) hl.1 (Nat.le_of_ble_eq_true rfl) d_Shm_check_140 (fun H locs w => ?_)
    refine lv_icmp_eq (tgt := 154) E.x E.b d_Shm_check_143 (by decide) (fun c => ?_) (fun c => ?_)
    ·
      replace h := ifT c h
      exact bt_Shm_check_154 E hret o rc_87 hr_87 σ v0 v1 v2 v4 h w (lv_sub hl [1, 2, 3, 4] rfl)
    ·
      replace h := ifF c h
      refine lv_aload_n E.x E.b d_Shm_check_146 rfl (lv_at hl 1 rfl) ?_
      refine lv_iconst (v := 5) E.x E.b d_Shm_check_147 (by decide) ?_
      refine lv_iload E.x E.b d_Shm_check_148 (lv_at hl 4 rfl) ?_
      obtain ⟨o27, h_o27, h⟩ := bd_some h
      refine clV_Shm_no E w (p0 := v0) (x0 := 5) (x1 := v4) h_o27 k2130 (by decide) hl.1 (Nat.le_of_ble_eq_true rfl) d_Shm_check_150 (fun H locs w => ?_)
      obtain rfl := Option.some.inj h
      exact rt_i E w hret d_Shm_check_153
def F_Shm_check_115 (rc_87 : Sg → Nat → Nat → Int32 → Int32 → Option (Sg × Int32)) (σ : Sg) (v0 : Nat) (v1 : Nat) (v2 : Int32) (v4 : Int32) : Option (Sg × Int32) := ck (v0 < 2) (ck (v1 < 58) (F_Shm_check_120 rc_87 σ v0 v1 v2 v4 1))
set_option maxRecDepth 10000 in
set_option maxHeartbeats 4000000 in
theorem bt_Shm_check_115 {p : Program} {l : Launch} {e : Env} {R : Room} {s : State} {m : MethodId} {args : Array Value} {below : List Frame} {meth : Method} {c : Code} {D : va_G} {τ : ClassId × ClassId × ClassId} {B : Nat} {A : Nat → Prop} {ad : Nat → Nat} (E : Cx p R s m args meth c prog_18_method_17_code 6 "DrawingMachineModel$ShaderMachineModel" 3 D τ B A) (hret : meth.sig.returnType = (some .int)) (o : Sg × Int32) (rc_87 : Sg → Nat → Nat → Int32 → Int32 → Option (Sg × Int32)) (hr_87 : ∀ (σ : Sg) (v0 : Nat) (v1 : Nat) (v2 : Int32) (v4 : Int32) (H : Heap) (locs : List Loc) (ls : Array Slot), rc_87 σ v0 v1 v2 v4 = some o → Wd s D A (wdM τ σ ad) H locs → lv_has ls 6 [(0, .ref (ad (65 + v0))), (1, .ref (ad v1)), (2, .int v2), (4, .int v4)] → W p l e R s m args below meth c H locs 0 0 (QI below args s A D τ (wdM τ o.1 ad) o.2) (F0 m 87 ls [])) (σ : Sg) (v0 : Nat) (v1 : Nat) (v2 : Int32) (v4 : Int32) (h : F_Shm_check_115 rc_87 σ v0 v1 v2 v4 = some o) {H : Heap} {locs : List Loc} {ls : Array Slot} (w : Wd s D A (wdM τ σ ad) H locs) (hl : lv_has ls 6 [(0, .ref (ad (65 + v0))), (1, .ref (ad v1)), (2, .int v2), (4, .int v4)]) : W p l e R s m args below meth c H locs 0 0 (QI below args s A D τ (wdM τ o.1 ad) o.2) (F0 m 115 ls []) := by
  obtain ⟨c28, h⟩ := ck_some h
  obtain ⟨c29, h⟩ := ck_some h
  refine lv_iconst (v := 1) E.x E.b d_Shm_check_115 (by decide) ?_
  refine lv_goto (tgt := 120) E.x E.b d_Shm_check_116 (by decide) ?_
  exact bt_Shm_check_120 E hret o rc_87 hr_87 σ v0 v1 v2 v4 1 h w (lv_sub hl [0, 1, 2, 3] rfl)
def L_Shm_check_87 : Nat → Sg → Nat → Nat → Int32 → Int32 → Option (Sg × Int32)
  | 0, _, _, _, _, _ => none
  | n + 1, σ, v0, v1, v2, v4 => ck (v0 < 2) (ck (v1 < 58) (if v2 ≤ v4 then (bd (F_Shm_steps σ v1 v2) (fun o32 => if o32 ≤ 65536 then (bd (F_Shm_no σ v0 0 (-1)) (fun o33 => F_Shm_check_188 o33.1 o33.2)) else (bd (F_Shm_no σ v0 8 (-1)) (fun o34 => F_Shm_check_188 o34.1 o34.2)))) else (bd (F_Shm_kindOf σ v1 v4) (fun o35 => if o35 = (36 : Int32) then (F_Shm_check_115 (L_Shm_check_87 n) σ v0 v1 v2 v4) else (bd (F_Shm_kindOf σ v1 v4) (fun o36 => if o36 = (37 : Int32) then (F_Shm_check_115 (L_Shm_check_87 n) σ v0 v1 v2 v4) else (F_Shm_check_120 (L_Shm_check_87 n) σ v0 v1 v2 v4 0)))))))
set_option maxRecDepth 10000 in
set_option maxHeartbeats 4000000 in
theorem lt_Shm_check_87 {p : Program} {l : Launch} {e : Env} {R : Room} {s : State} {m : MethodId} {args : Array Value} {below : List Frame} {meth : Method} {c : Code} {D : va_G} {τ : ClassId × ClassId × ClassId} {B : Nat} {A : Nat → Prop} {ad : Nat → Nat} (E : Cx p R s m args meth c prog_18_method_17_code 6 "DrawingMachineModel$ShaderMachineModel" 3 D τ B A) (hret : meth.sig.returnType = (some .int)) (o : Sg × Int32) : ∀ (n : Nat) (σ : Sg) (v0 : Nat) (v1 : Nat) (v2 : Int32) (v4 : Int32) (H : Heap) (locs : List Loc) (ls : Array Slot), L_Shm_check_87 n σ v0 v1 v2 v4 = some o → Wd s D A (wdM τ σ ad) H locs → lv_has ls 6 [(0, .ref (ad (65 + v0))), (1, .ref (ad v1)), (2, .int v2), (4, .int v4)] → W p l e R s m args below meth c H locs 0 0 (QI below args s A D τ (wdM τ o.1 ad) o.2) (F0 m 87 ls []) := by
  intro n
  induction n with
  | zero =>
    intro σ v0 v1 v2 v4 H locs ls h w hl
    cases h
  | succ n hr_87 =>
    intro σ v0 v1 v2 v4 H locs ls h w hl
    obtain ⟨c30, h⟩ := ck_some h
    obtain ⟨c31, h⟩ := ck_some h
    refine lv_iload E.x E.b d_Shm_check_87 (lv_at hl 3 rfl) ?_
    refine lv_iload_n E.x E.b d_Shm_check_89 rfl (lv_at hl 2 rfl) ?_
    refine lv_icmp_ge (tgt := 160) E.x E.b d_Shm_check_90 (by decide) (fun c => ?_) (fun c => ?_)
    ·
      replace h := ifT c h
      refine lv_aload_n E.x E.b d_Shm_check_160 rfl (lv_at hl 1 rfl) ?_
      refine lv_iload_n E.x E.b d_Shm_check_161 rfl (lv_at hl 2 rfl) ?_
      obtain ⟨o32, h_o32, h⟩ := bd_some h
      refine clS_Shm_steps E w (ar0 := v1) (x1 := v2) h_o32 k2140 (by decide) hl.1 (Nat.le_of_ble_eq_true rfl) d_Shm_check_162 (fun H locs w => ?_)
      refine lv_ldc2 (v := 65536) E.x E.b E.o (E.w _ k2143) d_Shm_check_165 ?_
      refine W.lcmp E.x E.b d_Shm_check_168 ?_
      refine lv_if_le (tgt := 182) E.x E.b d_Shm_check_169 (by decide) (fun c => ?_) (fun c => ?_)
      ·
        replace h := ifT (lgc_le.mp c) h
        refine lv_aload_n E.x E.b d_Shm_check_182 rfl (lv_at hl 0 rfl) ?_
        refine lv_iconst (v := 0) E.x E.b d_Shm_check_183 (by decide) ?_
        refine lv_iconst (v := (-1)) E.x E.b d_Shm_check_184 (by decide) ?_
        obtain ⟨o33, h_o33, h⟩ := bd_some h
        refine clV_Shm_no E w (p0 := v0) (x0 := 0) (x1 := (-1)) h_o33 k2130 (by decide) hl.1 (Nat.le_of_ble_eq_true rfl) d_Shm_check_185 (fun H locs w => ?_)
        exact bt_Shm_check_188 E hret o o33.1 o33.2 h w (lv_sub hl [] rfl)
      ·
        replace h := ifF (fun h9 => c (lgc_le.mpr h9)) h
        refine lv_aload_n E.x E.b d_Shm_check_172 rfl (lv_at hl 0 rfl) ?_
        refine lv_bipush (v := 8) E.x E.b d_Shm_check_173 (by decide) ?_
        refine lv_iconst (v := (-1)) E.x E.b d_Shm_check_175 (by decide) ?_
        obtain ⟨o34, h_o34, h⟩ := bd_some h
        refine clV_Shm_no E w (p0 := v0) (x0 := 8) (x1 := (-1)) h_o34 k2130 (by decide) hl.1 (Nat.le_of_ble_eq_true rfl) d_Shm_check_176 (fun H locs w => ?_)
        refine lv_goto (tgt := 188) E.x E.b d_Shm_check_179 (by decide) ?_
        exact bt_Shm_check_188 E hret o o34.1 o34.2 h w (lv_sub hl [] rfl)
    ·
      replace h := ifF c h
      refine lv_aload_n E.x E.b d_Shm_check_93 rfl (lv_at hl 1 rfl) ?_
      refine lv_iload E.x E.b d_Shm_check_94 (lv_at hl 3 rfl) ?_
      obtain ⟨o35, h_o35, h⟩ := bd_some h
      refine clS_Shm_kindOf E w (ar0 := v1) (x1 := v4) h_o35 k2099 (by decide) hl.1 (Nat.le_of_ble_eq_true rfl) d_Shm_check_96 (fun H locs w => ?_)
      refine lv_bipush (v := 36) E.x E.b d_Shm_check_99 (by decide) ?_
      refine lv_icmp_eq (tgt := 115) E.x E.b d_Shm_check_101 (by decide) (fun c => ?_) (fun c => ?_)
      ·
        replace h := ifT c h
        exact bt_Shm_check_115 E hret o (L_Shm_check_87 n) hr_87 σ v0 v1 v2 v4 h w (lv_sub hl [0, 1, 2, 3] rfl)
      ·
        replace h := ifF c h
        refine lv_aload_n E.x E.b d_Shm_check_104 rfl (lv_at hl 1 rfl) ?_
        refine lv_iload E.x E.b d_Shm_check_105 (lv_at hl 3 rfl) ?_
        obtain ⟨o36, h_o36, h⟩ := bd_some h
        refine clS_Shm_kindOf E w (ar0 := v1) (x1 := v4) h_o36 k2099 (by decide) hl.1 (Nat.le_of_ble_eq_true rfl) d_Shm_check_107 (fun H locs w => ?_)
        refine lv_bipush (v := 37) E.x E.b d_Shm_check_110 (by decide) ?_
        refine lv_icmp_ne (tgt := 119) E.x E.b d_Shm_check_112 (by decide) (fun c => ?_) (fun c => ?_)
        ·
          replace h := ifF c h
          refine lv_iconst (v := 0) E.x E.b d_Shm_check_119 (by decide) ?_
          exact bt_Shm_check_120 E hret o (L_Shm_check_87 n) hr_87 σ v0 v1 v2 v4 0 h w (lv_sub hl [0, 1, 2, 3] rfl)
        ·
          replace h := ifT c h
          exact bt_Shm_check_115 E hret o (L_Shm_check_87 n) hr_87 σ v0 v1 v2 v4 h w (lv_sub hl [0, 1, 2, 3] rfl)
def F_Shm_check_78 (rc_44 : Sg → Nat → Nat → Int32 → Int32 → Option (Sg × Int32)) (σ : Sg) (v0 : Nat) (v1 : Nat) (v2 : Int32) (v4 : Int32) : Option (Sg × Int32) := ck (v0 < 2) (ck (v1 < 58) (lt (v4 + (-1)) (fun y39 => rc_44 σ v0 v1 v2 y39)))
set_option maxRecDepth 10000 in
set_option maxHeartbeats 4000000 in
theorem bt_Shm_check_78 {p : Program} {l : Launch} {e : Env} {R : Room} {s : State} {m : MethodId} {args : Array Value} {below : List Frame} {meth : Method} {c : Code} {D : va_G} {τ : ClassId × ClassId × ClassId} {B : Nat} {A : Nat → Prop} {ad : Nat → Nat} (E : Cx p R s m args meth c prog_18_method_17_code 6 "DrawingMachineModel$ShaderMachineModel" 3 D τ B A) (hret : meth.sig.returnType = (some .int)) (o : Sg × Int32) (rc_44 : Sg → Nat → Nat → Int32 → Int32 → Option (Sg × Int32)) (hr_44 : ∀ (σ : Sg) (v0 : Nat) (v1 : Nat) (v2 : Int32) (v4 : Int32) (H : Heap) (locs : List Loc) (ls : Array Slot), rc_44 σ v0 v1 v2 v4 = some o → Wd s D A (wdM τ σ ad) H locs → lv_has ls 6 [(0, .ref (ad (65 + v0))), (1, .ref (ad v1)), (2, .int v2), (4, .int v4)] → W p l e R s m args below meth c H locs 0 0 (QI below args s A D τ (wdM τ o.1 ad) o.2) (F0 m 44 ls [])) (σ : Sg) (v0 : Nat) (v1 : Nat) (v2 : Int32) (v4 : Int32) (h : F_Shm_check_78 rc_44 σ v0 v1 v2 v4 = some o) {H : Heap} {locs : List Loc} {ls : Array Slot} (w : Wd s D A (wdM τ σ ad) H locs) (hl : lv_has ls 6 [(0, .ref (ad (65 + v0))), (1, .ref (ad v1)), (2, .int v2), (4, .int v4)]) : W p l e R s m args below meth c H locs 0 0 (QI below args s A D τ (wdM τ o.1 ad) o.2) (F0 m 78 ls []) := by
  obtain ⟨c37, h⟩ := ck_some h
  obtain ⟨c38, h⟩ := ck_some h
  obtain ⟨y39, e_y39, h⟩ := lt_some h
  refine lv_iinc (v := y39) (lv' := [(4, .int y39), (0, .ref (ad (65 + v0))), (1, .ref (ad v1)), (2, .int v2)]) E.x E.b d_Shm_check_78 hl (k := 3) rfl (e_y39) (by decide) rfl (fun ls hl => ?_)
  refine lv_goto (tgt := 44) E.x E.b d_Shm_check_81 (by decide) ?_
  exact hr_44 σ v0 v1 v2 y39 _ _ _ h w (lv_sub hl [1, 2, 3, 0] rfl)
def L_Shm_check_44 : Nat → Sg → Nat → Nat → Int32 → Int32 → Option (Sg × Int32)
  | 0, _, _, _, _, _ => none
  | n + 1, σ, v0, v1, v2, v4 => ck (v0 < 2) (ck (v1 < 58) (if v4 < (0 : Int32) then (L_Shm_check_87 100000 σ v0 v1 v2 0) else (bd (F_Shm_kindOf σ v1 v4) (fun o42 => if o42 = (34 : Int32) then (bd (F_Shm_closing σ v1 v4 v2) (fun o43 => if (0 : Int32) ≤ o43 then (F_Shm_check_78 (L_Shm_check_44 n) σ v0 v1 v2 v4) else (bd (F_Shm_no σ v0 5 v4) (fun o44 => some (o44.1, o44.2))))) else (F_Shm_check_78 (L_Shm_check_44 n) σ v0 v1 v2 v4)))))
set_option maxRecDepth 10000 in
set_option maxHeartbeats 4000000 in
theorem lt_Shm_check_44 {p : Program} {l : Launch} {e : Env} {R : Room} {s : State} {m : MethodId} {args : Array Value} {below : List Frame} {meth : Method} {c : Code} {D : va_G} {τ : ClassId × ClassId × ClassId} {B : Nat} {A : Nat → Prop} {ad : Nat → Nat} (E : Cx p R s m args meth c prog_18_method_17_code 6 "DrawingMachineModel$ShaderMachineModel" 3 D τ B A) (hret : meth.sig.returnType = (some .int)) (o : Sg × Int32) : ∀ (n : Nat) (σ : Sg) (v0 : Nat) (v1 : Nat) (v2 : Int32) (v4 : Int32) (H : Heap) (locs : List Loc) (ls : Array Slot), L_Shm_check_44 n σ v0 v1 v2 v4 = some o → Wd s D A (wdM τ σ ad) H locs → lv_has ls 6 [(0, .ref (ad (65 + v0))), (1, .ref (ad v1)), (2, .int v2), (4, .int v4)] → W p l e R s m args below meth c H locs 0 0 (QI below args s A D τ (wdM τ o.1 ad) o.2) (F0 m 44 ls []) := by
  intro n
  induction n with
  | zero =>
    intro σ v0 v1 v2 v4 H locs ls h w hl
    cases h
  | succ n hr_44 =>
    intro σ v0 v1 v2 v4 H locs ls h w hl
    obtain ⟨c40, h⟩ := ck_some h
    obtain ⟨c41, h⟩ := ck_some h
    refine lv_iload E.x E.b d_Shm_check_44 (lv_at hl 3 rfl) ?_
    refine lv_if_lt (tgt := 84) E.x E.b d_Shm_check_46 (by decide) (fun c => ?_) (fun c => ?_)
    ·
      replace h := ifT c h
      refine lv_iconst (v := 0) E.x E.b d_Shm_check_84 (by decide) ?_
      refine lv_istore (lv' := [(4, .int 0), (0, .ref (ad (65 + v0))), (1, .ref (ad v1)), (2, .int v2)]) E.x E.b d_Shm_check_85 hl (by decide) rfl (fun ls hl => ?_)
      exact lt_Shm_check_87 E hret o 100000 σ v0 v1 v2 0 _ _ _ h w (lv_sub hl [1, 2, 3, 0] rfl)
    ·
      replace h := ifF c h
      refine lv_aload_n E.x E.b d_Shm_check_49 rfl (lv_at hl 1 rfl) ?_
      refine lv_iload E.x E.b d_Shm_check_50 (lv_at hl 3 rfl) ?_
      obtain ⟨o42, h_o42, h⟩ := bd_some h
      refine clS_Shm_kindOf E w (ar0 := v1) (x1 := v4) h_o42 k2099 (by decide) hl.1 (Nat.le_of_ble_eq_true rfl) d_Shm_check_52 (fun H locs w => ?_)
      refine lv_bipush (v := 34) E.x E.b d_Shm_check_55 (by decide) ?_
      refine lv_icmp_ne (tgt := 78) E.x E.b d_Shm_check_57 (by decide) (fun c => ?_) (fun c => ?_)
      ·
        replace h := ifF c h
        exact bt_Shm_check_78 E hret o (L_Shm_check_44 n) hr_44 σ v0 v1 v2 v4 h w (lv_sub hl [0, 1, 2, 3] rfl)
      ·
        replace h := ifT c h
        refine lv_aload_n E.x E.b d_Shm_check_60 rfl (lv_at hl 1 rfl) ?_
        refine lv_iload E.x E.b d_Shm_check_61 (lv_at hl 3 rfl) ?_
        refine lv_iload_n E.x E.b d_Shm_check_63 rfl (lv_at hl 2 rfl) ?_
        obtain ⟨o43, h_o43, h⟩ := bd_some h
        refine clS_Shm_closing E w (ar0 := v1) (x1 := v4) (x2 := v2) h_o43 k2134 (by decide) hl.1 (Nat.le_of_ble_eq_true rfl) d_Shm_check_64 (fun H locs w => ?_)
        refine lv_if_ge (tgt := 78) E.x E.b d_Shm_check_67 (by decide) (fun c => ?_) (fun c => ?_)
        ·
          replace h := ifT c h
          exact bt_Shm_check_78 E hret o (L_Shm_check_44 n) hr_44 σ v0 v1 v2 v4 h w (lv_sub hl [0, 1, 2, 3] rfl)
        ·
          replace h := ifF c h
          refine lv_aload_n E.x E.b d_Shm_check_70 rfl (lv_at hl 0 rfl) ?_
          refine lv_iconst (v := 5) E.x E.b d_Shm_check_71 (by decide) ?_
          refine lv_iload E.x E.b d_Shm_check_72 (lv_at hl 3 rfl) ?_
          obtain ⟨o44, h_o44, h⟩ := bd_some h
          refine clV_Shm_no E w (p0 := v0) (x0 := 5) (x1 := v4) h_o44 k2130 (by decide) hl.1 (Nat.le_of_ble_eq_true rfl) d_Shm_check_74 (fun H locs w => ?_)
          obtain rfl := Option.some.inj h
          exact rt_i E w hret d_Shm_check_77
def L_Shm_check_3 : Nat → Sg → Nat → Nat → Int32 → Int32 → Int32 → Option (Sg × Int32)
  | 0, _, _, _, _, _, _ => none
  | n + 1, σ, v0, v1, v2, v3, v4 => ck (v0 < 2) (ck (v1 < 58) (if v2 ≤ v4 then (lt (v2 - 1 : Int32) (fun y47 => L_Shm_check_44 100000 σ v0 v1 v2 y47)) else (bd (F_Shm_faultOf σ v1 v4 v2 v3) (fun o48 => if o48 ≤ (0 : Int32) then (lt (v4 + 1) (fun y49 => L_Shm_check_3 n σ v0 v1 v2 v3 y49)) else (bd (F_Shm_no σ v0 o48 v4) (fun o50 => some (o50.1, o50.2)))))))
set_option maxRecDepth 10000 in
set_option maxHeartbeats 4000000 in
theorem lt_Shm_check_3 {p : Program} {l : Launch} {e : Env} {R : Room} {s : State} {m : MethodId} {args : Array Value} {below : List Frame} {meth : Method} {c : Code} {D : va_G} {τ : ClassId × ClassId × ClassId} {B : Nat} {A : Nat → Prop} {ad : Nat → Nat} (E : Cx p R s m args meth c prog_18_method_17_code 6 "DrawingMachineModel$ShaderMachineModel" 3 D τ B A) (hret : meth.sig.returnType = (some .int)) (o : Sg × Int32) : ∀ (n : Nat) (σ : Sg) (v0 : Nat) (v1 : Nat) (v2 : Int32) (v3 : Int32) (v4 : Int32) (H : Heap) (locs : List Loc) (ls : Array Slot), L_Shm_check_3 n σ v0 v1 v2 v3 v4 = some o → Wd s D A (wdM τ σ ad) H locs → lv_has ls 6 [(0, .ref (ad (65 + v0))), (1, .ref (ad v1)), (2, .int v2), (3, .int v3), (4, .int v4)] → W p l e R s m args below meth c H locs 0 0 (QI below args s A D τ (wdM τ o.1 ad) o.2) (F0 m 3 ls []) := by
  intro n
  induction n with
  | zero =>
    intro σ v0 v1 v2 v3 v4 H locs ls h w hl
    cases h
  | succ n hr_3 =>
    intro σ v0 v1 v2 v3 v4 H locs ls h w hl
    obtain ⟨c45, h⟩ := ck_some h
    obtain ⟨c46, h⟩ := ck_some h
    refine lv_iload E.x E.b d_Shm_check_3 (lv_at hl 4 rfl) ?_
    refine lv_iload_n E.x E.b d_Shm_check_5 rfl (lv_at hl 2 rfl) ?_
    refine lv_icmp_ge (tgt := 39) E.x E.b d_Shm_check_6 (by decide) (fun c => ?_) (fun c => ?_)
    ·
      replace h := ifT c h
      refine lv_iload_n E.x E.b d_Shm_check_39 rfl (lv_at hl 2 rfl) ?_
      refine lv_iconst (v := 1) E.x E.b d_Shm_check_40 (by decide) ?_
      refine lv_isub E.x E.b d_Shm_check_41 ?_
      obtain ⟨y47, e_y47, h⟩ := lt_some h
      refine wi_e (v := y47) e_y47 ?_
      refine lv_istore (lv' := [(4, .int y47), (0, .ref (ad (65 + v0))), (1, .ref (ad v1)), (2, .int v2), (3, .int v3)]) E.x E.b d_Shm_check_42 hl (by decide) rfl (fun ls hl => ?_)
      exact lt_Shm_check_44 E hret o 100000 σ v0 v1 v2 y47 _ _ _ h w (lv_sub hl [1, 2, 3, 0] rfl)
    ·
      replace h := ifF c h
      refine lv_aload_n E.x E.b d_Shm_check_9 rfl (lv_at hl 1 rfl) ?_
      refine lv_iload E.x E.b d_Shm_check_10 (lv_at hl 4 rfl) ?_
      refine lv_iload_n E.x E.b d_Shm_check_12 rfl (lv_at hl 2 rfl) ?_
      refine lv_iload_n E.x E.b d_Shm_check_13 rfl (lv_at hl 3 rfl) ?_
      obtain ⟨o48, h_o48, h⟩ := bd_some h
      refine clS_Shm_faultOf E w (ar0 := v1) (x1 := v4) (x2 := v2) (x3 := v3) h_o48 k2096 (by decide) hl.1 (Nat.le_of_ble_eq_true rfl) d_Shm_check_14 (fun H locs w => ?_)
      refine lv_istore (lv' := [(5, .int o48), (0, .ref (ad (65 + v0))), (1, .ref (ad v1)), (2, .int v2), (3, .int v3), (4, .int v4)]) E.x E.b d_Shm_check_17 hl (by decide) rfl (fun ls hl => ?_)
      refine lv_iload E.x E.b d_Shm_check_19 (lv_at hl 0 rfl) ?_
      refine lv_if_le (tgt := 33) E.x E.b d_Shm_check_21 (by decide) (fun c => ?_) (fun c => ?_)
      ·
        replace h := ifT c h
        obtain ⟨y49, e_y49, h⟩ := lt_some h
        refine lv_iinc (v := y49) (lv' := [(4, .int y49), (5, .int o48), (0, .ref (ad (65 + v0))), (1, .ref (ad v1)), (2, .int v2), (3, .int v3)]) E.x E.b d_Shm_check_33 hl (k := 5) rfl (e_y49) (by decide) rfl (fun ls hl => ?_)
        refine lv_goto (tgt := 3) E.x E.b d_Shm_check_36 (by decide) ?_
        exact hr_3 σ v0 v1 v2 v3 y49 _ _ _ h w (lv_sub hl [2, 3, 4, 5, 0] rfl)
      ·
        replace h := ifF c h
        refine lv_aload_n E.x E.b d_Shm_check_24 rfl (lv_at hl 1 rfl) ?_
        refine lv_iload E.x E.b d_Shm_check_25 (lv_at hl 0 rfl) ?_
        refine lv_iload E.x E.b d_Shm_check_27 (lv_at hl 5 rfl) ?_
        obtain ⟨o50, h_o50, h⟩ := bd_some h
        refine clV_Shm_no E w (p0 := v0) (x0 := o48) (x1 := v4) h_o50 k2130 (by decide) hl.1 (Nat.le_of_ble_eq_true rfl) d_Shm_check_29 (fun H locs w => ?_)
        obtain rfl := Option.some.inj h
        exact rt_i E w hret d_Shm_check_32
def F_Shm_check (σ : Sg) (p0 : Nat) (ar0 : Nat) (x1 : Int32) (x2 : Int32) : Option (Sg × Int32) := ck (p0 < 2) (ck (ar0 < 58) (L_Shm_check_3 100000 σ p0 ar0 x1 x2 0))
set_option maxRecDepth 10000 in
set_option maxHeartbeats 4000000 in
theorem c_Shm_check (l : Launch) (D : va_G) (τ : ClassId × ClassId × ClassId) (B : Nat) (σ : Sg) (ad : Nat → Nat) (p0 : Nat) (ar0 : Nat) (x1 : Int32) (x2 : Int32) (o : Sg × Int32) (h : F_Shm_check σ p0 ar0 x1 x2 = some o) : MI l y_Shm_check (Cond.code y_Shm_check prog_18_method_17_code 6 (some .int)) 3 D τ B [.ref (ad (65 + p0)), .ref (ad ar0), .int x1, .int x2] (wdM τ σ ad) (wdM τ o.1 ad) o.2 := by
  refine en_i (by decide) (Nat.le_of_ble_eq_true rfl) ?_
  intro p e R s m args below meth c H locs ls A E hret w hl
  have E : Cx p R s m args meth c prog_18_method_17_code 6 "DrawingMachineModel$ShaderMachineModel" 3 D τ B A := E
  have hl : lv_has ls 6 [(0, .ref (ad (65 + p0))), (1, .ref (ad ar0)), (2, .int x1), (3, .int x2)] := hl
  obtain ⟨c51, h⟩ := ck_some h
  obtain ⟨c52, h⟩ := ck_some h
  refine lv_iconst (v := 0) E.x E.b d_Shm_check_0 (by decide) ?_
  refine lv_istore (lv' := [(4, .int 0), (0, .ref (ad (65 + p0))), (1, .ref (ad ar0)), (2, .int x1), (3, .int x2)]) E.x E.b d_Shm_check_1 hl (by decide) rfl (fun ls hl => ?_)
  exact lt_Shm_check_3 E hret o 100000 σ p0 ar0 x1 x2 0 _ _ _ h w (lv_sub hl [1, 2, 3, 4, 0] rfl)
theorem clV_Shm_check {p : Program} {l : Launch} {e : Env} {R : Room} {s : State} {m : MethodId} {args : Array Value} {below : List Frame} {meth : Method} {c : Code} {H : Heap} {locs : List Loc} {Q : State → Prop} {cc : ByteArray} {nL pc lev : Nat} {own : String} {D : va_G} {τ : ClassId × ClassId × ClassId} {B : Nat} {A : Nat → Prop} {σ : Sg} {ad : Nat → Nat} {ls : Array Slot} {rest : List Value} (E : Cx p R s m args meth c cc nL own lev D τ B A) (w : Wd s D A (wdM τ σ ad) H locs) {p0 : Nat} {ar0 : Nat} {x1 : Int32} {x2 : Int32} {o : Sg × Int32} (h : F_Shm_check σ p0 ar0 x1 x2 = some o) {index : Nat} (hlk : Cond.methodLink own index y_Shm_check ∈ tw) (hlev : 3 < lev) (hsz : ls.size = nL) (hr : (rest.map fun v => v.category).sum ≤ 8) (hd : decode cc pc = .ok (.invokevirtual index, 3)) (kk : ∀ (H1 : Heap) (locs1 : List Loc), Wd s D A (wdM τ o.1 ad) H1 locs1 → W p l e R s m args below meth c H1 locs1 0 0 Q (F0 m (pc + 3) ls (.int o.2 :: rest))) : W p l e R s m args below meth c H locs 0 0 Q (F0 m pc ls (.int x2 :: .int x1 :: .ref (ad ar0) :: .ref (ad (65 + p0)) :: rest)) :=
  cr_i w E.C (va_runV (As := [.ref (ad ar0), .int x1, .int x2]) (rest := rest) E.fix (c_Shm_check l D τ B σ ad p0 ar0 x1 x2 o h H.size) (cwV 3 E.w (tw_pre (tw_good k2095) (l := [_, _, _, _]) (List.forall_mem_cons.mpr ⟨hlk, List.forall_mem_cons.mpr ⟨k2094, List.forall_mem_cons.mpr ⟨ks68, List.forall_mem_cons.mpr ⟨k17, fun _ h => absurd h List.not_mem_nil⟩⟩⟩⟩)) rfl rfl rfl (by decide +kernel) (E.rm hlev (by decide))) (wd_preV w E.C [.ref (ad ar0), .int x1, .int x2] (rcM_Shm (ck_some h).1) rfl) rfl rfl hsz rfl (lv_room hr) hd ⟨Nat.zero_le _, Nat.zero_le _⟩) kk

theorem d_Shm_load_0 : decode prog_18_method_19_code 0 = .ok (.aload_n 0, 1) := by decide +kernel
theorem d_Shm_load_1 : decode prog_18_method_19_code 1 = .ok (.iload_n 2, 1) := by decide +kernel
theorem d_Shm_load_2 : decode prog_18_method_19_code 2 = .ok (.iconst 1, 1) := by decide +kernel
theorem d_Shm_load_3 : decode prog_18_method_19_code 3 = .ok (.if_icmp .lt 25, 3) := by decide +kernel
theorem d_Shm_load_6 : decode prog_18_method_19_code 6 = .ok (.iload_n 2, 1) := by decide +kernel
theorem d_Shm_load_7 : decode prog_18_method_19_code 7 = .ok (.sipush 256, 3) := by decide +kernel
theorem d_Shm_load_10 : decode prog_18_method_19_code 10 = .ok (.if_icmp .gt 18, 3) := by decide +kernel
theorem d_Shm_load_13 : decode prog_18_method_19_code 13 = .ok (.iload_n 1, 1) := by decide +kernel
theorem d_Shm_load_14 : decode prog_18_method_19_code 14 = .ok (.ifCond .lt 14, 3) := by decide +kernel
theorem d_Shm_load_17 : decode prog_18_method_19_code 17 = .ok (.iload_n 1, 1) := by decide +kernel
theorem d_Shm_load_18 : decode prog_18_method_19_code 18 = .ok (.sipush 4096, 3) := by decide +kernel
theorem d_Shm_load_21 : decode prog_18_method_19_code 21 = .ok (.iconst 3, 1) := by decide +kernel
theorem d_Shm_load_22 : decode prog_18_method_19_code 22 = .ok (.iload_n 2, 1) := by decide +kernel
theorem d_Shm_load_23 : decode prog_18_method_19_code 23 = .ok (.imul, 1) := by decide +kernel
theorem d_Shm_load_24 : decode prog_18_method_19_code 24 = .ok (.isub, 1) := by decide +kernel
theorem d_Shm_load_25 : decode prog_18_method_19_code 25 = .ok (.if_icmp .le 7, 3) := by decide +kernel
theorem d_Shm_load_28 : decode prog_18_method_19_code 28 = .ok (.iconst 1, 1) := by decide +kernel
theorem d_Shm_load_29 : decode prog_18_method_19_code 29 = .ok (.goto 4, 3) := by decide +kernel
theorem d_Shm_load_32 : decode prog_18_method_19_code 32 = .ok (.iconst 0, 1) := by decide +kernel
theorem d_Shm_load_33 : decode prog_18_method_19_code 33 = .ok (.invokevirtual 115, 3) := by decide +kernel
theorem d_Shm_load_36 : decode prog_18_method_19_code 36 = .ok (.ifCond .eq 5, 3) := by decide +kernel
theorem d_Shm_load_39 : decode prog_18_method_19_code 39 = .ok (.iconst 0, 1) := by decide +kernel
theorem d_Shm_load_40 : decode prog_18_method_19_code 40 = .ok (.ireturn, 1) := by decide +kernel
theorem d_Shm_load_41 : decode prog_18_method_19_code 41 = .ok (.iconst 0, 1) := by decide +kernel
theorem d_Shm_load_42 : decode prog_18_method_19_code 42 = .ok (.istore 4, 2) := by decide +kernel
theorem d_Shm_load_44 : decode prog_18_method_19_code 44 = .ok (.iload 4, 2) := by decide +kernel
theorem d_Shm_load_46 : decode prog_18_method_19_code 46 = .ok (.iconst 3, 1) := by decide +kernel
theorem d_Shm_load_47 : decode prog_18_method_19_code 47 = .ok (.iload_n 2, 1) := by decide +kernel
theorem d_Shm_load_48 : decode prog_18_method_19_code 48 = .ok (.imul, 1) := by decide +kernel
theorem d_Shm_load_49 : decode prog_18_method_19_code 49 = .ok (.if_icmp .ge 25, 3) := by decide +kernel
theorem d_Shm_load_52 : decode prog_18_method_19_code 52 = .ok (.aload_n 0, 1) := by decide +kernel
theorem d_Shm_load_53 : decode prog_18_method_19_code 53 = .ok (.getfield 13, 3) := by decide +kernel
theorem d_Shm_load_56 : decode prog_18_method_19_code 56 = .ok (.iload 4, 2) := by decide +kernel
theorem d_Shm_load_58 : decode prog_18_method_19_code 58 = .ok (.aload_n 0, 1) := by decide +kernel
theorem d_Shm_load_59 : decode prog_18_method_19_code 59 = .ok (.getfield 44, 3) := by decide +kernel
theorem d_Shm_load_62 : decode prog_18_method_19_code 62 = .ok (.iload_n 1, 1) := by decide +kernel
theorem d_Shm_load_63 : decode prog_18_method_19_code 63 = .ok (.iload 4, 2) := by decide +kernel
theorem d_Shm_load_65 : decode prog_18_method_19_code 65 = .ok (.iadd, 1) := by decide +kernel
theorem d_Shm_load_66 : decode prog_18_method_19_code 66 = .ok (.iaload, 1) := by decide +kernel
theorem d_Shm_load_67 : decode prog_18_method_19_code 67 = .ok (.iastore, 1) := by decide +kernel
theorem d_Shm_load_68 : decode prog_18_method_19_code 68 = .ok (.iinc 4 1, 3) := by decide +kernel
theorem d_Shm_load_71 : decode prog_18_method_19_code 71 = .ok (.goto (-27), 3) := by decide +kernel
theorem d_Shm_load_74 : decode prog_18_method_19_code 74 = .ok (.aload_n 0, 1) := by decide +kernel
theorem d_Shm_load_75 : decode prog_18_method_19_code 75 = .ok (.aload_n 0, 1) := by decide +kernel
theorem d_Shm_load_76 : decode prog_18_method_19_code 76 = .ok (.getfield 13, 3) := by decide +kernel
theorem d_Shm_load_79 : decode prog_18_method_19_code 79 = .ok (.iload_n 2, 1) := by decide +kernel
theorem d_Shm_load_80 : decode prog_18_method_19_code 80 = .ok (.iload_n 3, 1) := by decide +kernel
theorem d_Shm_load_81 : decode prog_18_method_19_code 81 = .ok (.invokevirtual 119, 3) := by decide +kernel
theorem d_Shm_load_84 : decode prog_18_method_19_code 84 = .ok (.ifCond .le 10, 3) := by decide +kernel
theorem d_Shm_load_87 : decode prog_18_method_19_code 87 = .ok (.aload_n 0, 1) := by decide +kernel
theorem d_Shm_load_88 : decode prog_18_method_19_code 88 = .ok (.iconst 2, 1) := by decide +kernel
theorem d_Shm_load_89 : decode prog_18_method_19_code 89 = .ok (.putfield 112, 3) := by decide +kernel
theorem d_Shm_load_92 : decode prog_18_method_19_code 92 = .ok (.iconst 0, 1) := by decide +kernel
theorem d_Shm_load_93 : decode prog_18_method_19_code 93 = .ok (.ireturn, 1) := by decide +kernel
theorem d_Shm_load_94 : decode prog_18_method_19_code 94 = .ok (.iconst 0, 1) := by decide +kernel
theorem d_Shm_load_95 : decode prog_18_method_19_code 95 = .ok (.istore 4, 2) := by decide +kernel
theorem d_Shm_load_97 : decode prog_18_method_19_code 97 = .ok (.iload 4, 2) := by decide +kernel
theorem d_Shm_load_99 : decode prog_18_method_19_code 99 = .ok (.iconst 3, 1) := by decide +kernel
theorem d_Shm_load_100 : decode prog_18_method_19_code 100 = .ok (.iload_n 2, 1) := by decide +kernel
theorem d_Shm_load_101 : decode prog_18_method_19_code 101 = .ok (.imul, 1) := by decide +kernel
theorem d_Shm_load_102 : decode prog_18_method_19_code 102 = .ok (.if_icmp .ge 23, 3) := by decide +kernel
theorem d_Shm_load_105 : decode prog_18_method_19_code 105 = .ok (.aload_n 0, 1) := by decide +kernel
theorem d_Shm_load_106 : decode prog_18_method_19_code 106 = .ok (.getfield 7, 3) := by decide +kernel
theorem d_Shm_load_109 : decode prog_18_method_19_code 109 = .ok (.iload 4, 2) := by decide +kernel
theorem d_Shm_load_111 : decode prog_18_method_19_code 111 = .ok (.aload_n 0, 1) := by decide +kernel
theorem d_Shm_load_112 : decode prog_18_method_19_code 112 = .ok (.getfield 13, 3) := by decide +kernel
theorem d_Shm_load_115 : decode prog_18_method_19_code 115 = .ok (.iload 4, 2) := by decide +kernel
theorem d_Shm_load_117 : decode prog_18_method_19_code 117 = .ok (.iaload, 1) := by decide +kernel
theorem d_Shm_load_118 : decode prog_18_method_19_code 118 = .ok (.iastore, 1) := by decide +kernel
theorem d_Shm_load_119 : decode prog_18_method_19_code 119 = .ok (.iinc 4 1, 3) := by decide +kernel
theorem d_Shm_load_122 : decode prog_18_method_19_code 122 = .ok (.goto (-25), 3) := by decide +kernel
theorem d_Shm_load_125 : decode prog_18_method_19_code 125 = .ok (.iconst 0, 1) := by decide +kernel
theorem d_Shm_load_126 : decode prog_18_method_19_code 126 = .ok (.istore 4, 2) := by decide +kernel
theorem d_Shm_load_128 : decode prog_18_method_19_code 128 = .ok (.iload 4, 2) := by decide +kernel
theorem d_Shm_load_130 : decode prog_18_method_19_code 130 = .ok (.iload_n 2, 1) := by decide +kernel
theorem d_Shm_load_131 : decode prog_18_method_19_code 131 = .ok (.if_icmp .ge 25, 3) := by decide +kernel
theorem d_Shm_load_134 : decode prog_18_method_19_code 134 = .ok (.aload_n 0, 1) := by decide +kernel
theorem d_Shm_load_135 : decode prog_18_method_19_code 135 = .ok (.getfield 41, 3) := by decide +kernel
theorem d_Shm_load_138 : decode prog_18_method_19_code 138 = .ok (.iload 4, 2) := by decide +kernel
theorem d_Shm_load_140 : decode prog_18_method_19_code 140 = .ok (.aload_n 0, 1) := by decide +kernel
theorem d_Shm_load_141 : decode prog_18_method_19_code 141 = .ok (.getfield 7, 3) := by decide +kernel
theorem d_Shm_load_144 : decode prog_18_method_19_code 144 = .ok (.iload 4, 2) := by decide +kernel
theorem d_Shm_load_146 : decode prog_18_method_19_code 146 = .ok (.invokestatic 89, 3) := by decide +kernel
theorem d_Shm_load_149 : decode prog_18_method_19_code 149 = .ok (.iastore, 1) := by decide +kernel
theorem d_Shm_load_150 : decode prog_18_method_19_code 150 = .ok (.iinc 4 1, 3) := by decide +kernel
theorem d_Shm_load_153 : decode prog_18_method_19_code 153 = .ok (.goto (-25), 3) := by decide +kernel
theorem d_Shm_load_156 : decode prog_18_method_19_code 156 = .ok (.aload_n 0, 1) := by decide +kernel
theorem d_Shm_load_157 : decode prog_18_method_19_code 157 = .ok (.iconst 1, 1) := by decide +kernel
theorem d_Shm_load_158 : decode prog_18_method_19_code 158 = .ok (.putfield 123, 3) := by decide +kernel
theorem d_Shm_load_161 : decode prog_18_method_19_code 161 = .ok (.aload_n 0, 1) := by decide +kernel
theorem d_Shm_load_162 : decode prog_18_method_19_code 162 = .ok (.getfield 7, 3) := by decide +kernel
theorem d_Shm_load_165 : decode prog_18_method_19_code 165 = .ok (.iload_n 2, 1) := by decide +kernel
theorem d_Shm_load_166 : decode prog_18_method_19_code 166 = .ok (.invokestatic 106, 3) := by decide +kernel
theorem d_Shm_load_169 : decode prog_18_method_19_code 169 = .ok (.l2i, 1) := by decide +kernel
theorem d_Shm_load_170 : decode prog_18_method_19_code 170 = .ok (.ireturn, 1) := by decide +kernel
def L_Shm_load_128 : Nat → Sg → Nat → Int32 → Int32 → Option (Sg × Int32)
  | 0, _, _, _, _ => none
  | n + 1, σ, v0, v2, v4 => ck (v0 < 2) (if v2 ≤ v4 then (lt (sI σ (41 + 6 * v0) 1) (fun σ19 => bd (F_Shm_steps σ19 (14 + 10 * v0) v2) (fun o20 => some (σ19, o20.toInt32)))) else (bd (F_Shm_around σ (14 + 10 * v0) v4) (fun o21 => ck (inb v4 (lenM σ (23 + 10 * v0))) (lt (sA σ (23 + 10 * v0) (upd (σ.2.2.1 (23 + 10 * v0)) v4.toNatClampNeg o21)) (fun σ23 => lt (v4 + 1) (fun y24 => L_Shm_load_128 n σ23 v0 v2 y24))))))
set_option maxRecDepth 10000 in
set_option maxHeartbeats 4000000 in
theorem lt_Shm_load_128 {p : Program} {l : Launch} {e : Env} {R : Room} {s : State} {m : MethodId} {args : Array Value} {below : List Frame} {meth : Method} {c : Code} {D : va_G} {τ : ClassId × ClassId × ClassId} {B : Nat} {A : Nat → Prop} {ad : Nat → Nat} (E : Cx p R s m args meth c prog_18_method_19_code 5 "DrawingMachineModel$ShaderMachineModel" 4 D τ B A) (hret : meth.sig.returnType = (some .int)) (o : Sg × Int32) : ∀ (n : Nat) (σ : Sg) (v0 : Nat) (v2 : Int32) (v4 : Int32) (H : Heap) (locs : List Loc) (ls : Array Slot), L_Shm_load_128 n σ v0 v2 v4 = some o → Wd s D A (wdM τ σ ad) H locs → lv_has ls 5 [(0, .ref (ad (65 + v0))), (2, .int v2), (4, .int v4)] → W p l e R s m args below meth c H locs 0 0 (QI below args s A D τ (wdM τ o.1 ad) o.2) (F0 m 128 ls []) := by
  intro n
  induction n with
  | zero =>
    intro σ v0 v2 v4 H locs ls h w hl
    cases h
  | succ n hr_128 =>
    intro σ v0 v2 v4 H locs ls h w hl
    obtain ⟨c18, h⟩ := ck_some h
    refine lv_iload E.x E.b d_Shm_load_128 (lv_at hl 2 rfl) ?_
    refine lv_iload_n E.x E.b d_Shm_load_130 rfl (lv_at hl 1 rfl) ?_
    refine lv_icmp_ge (tgt := 156) E.x E.b d_Shm_load_131 (by decide) (fun c => ?_) (fun c => ?_)
    ·
      replace h := ifT c h
      refine lv_aload_n E.x E.b d_Shm_load_156 rfl (lv_at hl 0 rfl) ?_
      refine lv_iconst (v := 1) E.x E.b d_Shm_load_157 (by decide) ?_
      obtain ⟨σ19, e_σ19, h⟩ := lt_some h
      refine pM_Shm_hasProgram E w (pid := v0) c18 k1558 (by decide) e_σ19 d_Shm_load_158 (fun H locs w => ?_)
      refine lv_aload_n E.x E.b d_Shm_load_161 rfl (lv_at hl 0 rfl) ?_
      refine gM_Shm_program E w (pid := v0) c18 k1556 d_Shm_load_162 ?_
      refine lv_iload_n E.x E.b d_Shm_load_165 rfl (lv_at hl 1 rfl) ?_
      obtain ⟨o20, h_o20, h⟩ := bd_some h
      refine clS_Shm_steps E w (ar0 := (14 + 10 * v0)) (x1 := v2) h_o20 k2140 (by decide) hl.1 (Nat.le_of_ble_eq_true rfl) d_Shm_load_166 (fun H locs w => ?_)
      refine lv_l2i (v := o20.toInt32) E.x E.b d_Shm_load_169 rfl ?_
      obtain rfl := Option.some.inj h
      exact rt_i E w hret d_Shm_load_170
    ·
      replace h := ifF c h
      refine lv_aload_n E.x E.b d_Shm_load_134 rfl (lv_at hl 0 rfl) ?_
      refine gM_Shm_opening E w (pid := v0) c18 k1576 d_Shm_load_135 ?_
      refine lv_iload E.x E.b d_Shm_load_138 (lv_at hl 2 rfl) ?_
      refine lv_aload_n E.x E.b d_Shm_load_140 rfl (lv_at hl 0 rfl) ?_
      refine gM_Shm_program E w (pid := v0) c18 k1556 d_Shm_load_141 ?_
      refine lv_iload E.x E.b d_Shm_load_144 (lv_at hl 2 rfl) ?_
      obtain ⟨o21, h_o21, h⟩ := bd_some h
      refine clS_Shm_around E w (ar0 := (14 + 10 * v0)) (x1 := v4) h_o21 k2137 (by decide) hl.1 (Nat.le_of_ble_eq_true rfl) d_Shm_load_146 (fun H locs w => ?_)
      obtain ⟨c22, h⟩ := ck_some h
      obtain ⟨σ23, e_σ23, h⟩ := lt_some h
      refine iasM E w (k := (23 + 10 * v0)) (by omega) c22 e_σ23 d_Shm_load_149 (fun H locs w => ?_)
      obtain ⟨y24, e_y24, h⟩ := lt_some h
      refine lv_iinc (v := y24) (lv' := [(4, .int y24), (0, .ref (ad (65 + v0))), (2, .int v2)]) E.x E.b d_Shm_load_150 hl (k := 2) rfl (e_y24) (by decide) rfl (fun ls hl => ?_)
      refine lv_goto (tgt := 128) E.x E.b d_Shm_load_153 (by decide) ?_
      exact hr_128 σ23 v0 v2 y24 _ _ _ h w (lv_sub hl [1, 2, 0] rfl)
def L_Shm_load_97 : Nat → Sg → Nat → Int32 → Int32 → Option (Sg × Int32)
  | 0, _, _, _, _ => none
  | n + 1, σ, v0, v2, v4 => ck (v0 < 2) (if (3 * v2) ≤ v4 then (L_Shm_load_128 100000 σ v0 v2 0) else (ck (inb v4 (lenM σ (15 + 10 * v0))) (ck (inb v4 (lenM σ (14 + 10 * v0))) (lt (sA σ (14 + 10 * v0) (upd (σ.2.2.1 (14 + 10 * v0)) v4.toNatClampNeg (σ.2.2.1 (15 + 10 * v0) v4.toNatClampNeg))) (fun σ28 => lt (v4 + 1) (fun y29 => L_Shm_load_97 n σ28 v0 v2 y29))))))
set_option maxRecDepth 10000 in
set_option maxHeartbeats 4000000 in
theorem lt_Shm_load_97 {p : Program} {l : Launch} {e : Env} {R : Room} {s : State} {m : MethodId} {args : Array Value} {below : List Frame} {meth : Method} {c : Code} {D : va_G} {τ : ClassId × ClassId × ClassId} {B : Nat} {A : Nat → Prop} {ad : Nat → Nat} (E : Cx p R s m args meth c prog_18_method_19_code 5 "DrawingMachineModel$ShaderMachineModel" 4 D τ B A) (hret : meth.sig.returnType = (some .int)) (o : Sg × Int32) : ∀ (n : Nat) (σ : Sg) (v0 : Nat) (v2 : Int32) (v4 : Int32) (H : Heap) (locs : List Loc) (ls : Array Slot), L_Shm_load_97 n σ v0 v2 v4 = some o → Wd s D A (wdM τ σ ad) H locs → lv_has ls 5 [(0, .ref (ad (65 + v0))), (2, .int v2), (4, .int v4)] → W p l e R s m args below meth c H locs 0 0 (QI below args s A D τ (wdM τ o.1 ad) o.2) (F0 m 97 ls []) := by
  intro n
  induction n with
  | zero =>
    intro σ v0 v2 v4 H locs ls h w hl
    cases h
  | succ n hr_97 =>
    intro σ v0 v2 v4 H locs ls h w hl
    obtain ⟨c25, h⟩ := ck_some h
    refine lv_iload E.x E.b d_Shm_load_97 (lv_at hl 2 rfl) ?_
    refine lv_iconst (v := 3) E.x E.b d_Shm_load_99 (by decide) ?_
    refine lv_iload_n E.x E.b d_Shm_load_100 rfl (lv_at hl 1 rfl) ?_
    refine lv_imul E.x E.b d_Shm_load_101 ?_
    refine lv_icmp_ge (tgt := 125) E.x E.b d_Shm_load_102 (by decide) (fun c => ?_) (fun c => ?_)
    ·
      replace h := ifT c h
      refine lv_iconst (v := 0) E.x E.b d_Shm_load_125 (by decide) ?_
      refine lv_istore (lv' := [(4, .int 0), (0, .ref (ad (65 + v0))), (2, .int v2)]) E.x E.b d_Shm_load_126 hl (by decide) rfl (fun ls hl => ?_)
      exact lt_Shm_load_128 E hret o 100000 σ v0 v2 0 _ _ _ h w (lv_sub hl [1, 2, 0] rfl)
    ·
      replace h := ifF c h
      refine lv_aload_n E.x E.b d_Shm_load_105 rfl (lv_at hl 0 rfl) ?_
      refine gM_Shm_program E w (pid := v0) c25 k1556 d_Shm_load_106 ?_
      refine lv_iload E.x E.b d_Shm_load_109 (lv_at hl 2 rfl) ?_
      refine lv_aload_n E.x E.b d_Shm_load_111 rfl (lv_at hl 0 rfl) ?_
      refine gM_Shm_fresh E w (pid := v0) c25 k1557 d_Shm_load_112 ?_
      refine lv_iload E.x E.b d_Shm_load_115 (lv_at hl 2 rfl) ?_
      obtain ⟨c26, h⟩ := ck_some h
      refine ialM E w (k := (15 + 10 * v0)) (by omega) c26 d_Shm_load_117 ?_
      obtain ⟨c27, h⟩ := ck_some h
      obtain ⟨σ28, e_σ28, h⟩ := lt_some h
      refine iasM E w (k := (14 + 10 * v0)) (by omega) c27 e_σ28 d_Shm_load_118 (fun H locs w => ?_)
      obtain ⟨y29, e_y29, h⟩ := lt_some h
      refine lv_iinc (v := y29) (lv' := [(4, .int y29), (0, .ref (ad (65 + v0))), (2, .int v2)]) E.x E.b d_Shm_load_119 hl (k := 2) rfl (e_y29) (by decide) rfl (fun ls hl => ?_)
      refine lv_goto (tgt := 97) E.x E.b d_Shm_load_122 (by decide) ?_
      exact hr_97 σ28 v0 v2 y29 _ _ _ h w (lv_sub hl [1, 2, 0] rfl)
def L_Shm_load_44 : Nat → Sg → Nat → Int32 → Int32 → Int32 → Int32 → Option (Sg × Int32)
  | 0, _, _, _, _, _, _ => none
  | n + 1, σ, v0, v1, v2, v3, v4 => ck (v0 < 2) (if (3 * v2) ≤ v4 then (bd (F_Shm_check σ v0 (15 + 10 * v0) v2 v3) (fun o31 => if o31.2 ≤ (0 : Int32) then (L_Shm_load_97 100000 o31.1 v0 v2 0) else (lt (sI o31.1 (40 + 6 * v0) 2) (fun σ32 => some (σ32, 0))))) else (ck (inb (v1 + v4) 4096) (ck (inb v4 (lenM σ (15 + 10 * v0))) (lt (sA σ (15 + 10 * v0) (upd (σ.2.2.1 (15 + 10 * v0)) v4.toNatClampNeg (σ.2.2.1 0 (v1 + v4).toNatClampNeg))) (fun σ35 => lt (v4 + 1) (fun y36 => L_Shm_load_44 n σ35 v0 v1 v2 v3 y36))))))
set_option maxRecDepth 10000 in
set_option maxHeartbeats 4000000 in
theorem lt_Shm_load_44 {p : Program} {l : Launch} {e : Env} {R : Room} {s : State} {m : MethodId} {args : Array Value} {below : List Frame} {meth : Method} {c : Code} {D : va_G} {τ : ClassId × ClassId × ClassId} {B : Nat} {A : Nat → Prop} {ad : Nat → Nat} (E : Cx p R s m args meth c prog_18_method_19_code 5 "DrawingMachineModel$ShaderMachineModel" 4 D τ B A) (hret : meth.sig.returnType = (some .int)) (o : Sg × Int32) : ∀ (n : Nat) (σ : Sg) (v0 : Nat) (v1 : Int32) (v2 : Int32) (v3 : Int32) (v4 : Int32) (H : Heap) (locs : List Loc) (ls : Array Slot), L_Shm_load_44 n σ v0 v1 v2 v3 v4 = some o → Wd s D A (wdM τ σ ad) H locs → lv_has ls 5 [(0, .ref (ad (65 + v0))), (1, .int v1), (2, .int v2), (3, .int v3), (4, .int v4)] → W p l e R s m args below meth c H locs 0 0 (QI below args s A D τ (wdM τ o.1 ad) o.2) (F0 m 44 ls []) := by
  intro n
  induction n with
  | zero =>
    intro σ v0 v1 v2 v3 v4 H locs ls h w hl
    cases h
  | succ n hr_44 =>
    intro σ v0 v1 v2 v3 v4 H locs ls h w hl
    obtain ⟨c30, h⟩ := ck_some h
    refine lv_iload E.x E.b d_Shm_load_44 (lv_at hl 4 rfl) ?_
    refine lv_iconst (v := 3) E.x E.b d_Shm_load_46 (by decide) ?_
    refine lv_iload_n E.x E.b d_Shm_load_47 rfl (lv_at hl 2 rfl) ?_
    refine lv_imul E.x E.b d_Shm_load_48 ?_
    refine lv_icmp_ge (tgt := 74) E.x E.b d_Shm_load_49 (by decide) (fun c => ?_) (fun c => ?_)
    ·
      replace h := ifT c h
      refine lv_aload_n E.x E.b d_Shm_load_74 rfl (lv_at hl 0 rfl) ?_
      refine lv_aload_n E.x E.b d_Shm_load_75 rfl (lv_at hl 0 rfl) ?_
      refine gM_Shm_fresh E w (pid := v0) c30 k1557 d_Shm_load_76 ?_
      refine lv_iload_n E.x E.b d_Shm_load_79 rfl (lv_at hl 2 rfl) ?_
      refine lv_iload_n E.x E.b d_Shm_load_80 rfl (lv_at hl 3 rfl) ?_
      obtain ⟨o31, h_o31, h⟩ := bd_some h
      refine clV_Shm_check E w (p0 := v0) (ar0 := (15 + 10 * v0)) (x1 := v2) (x2 := v3) h_o31 k2092 (by decide) hl.1 (Nat.le_of_ble_eq_true rfl) d_Shm_load_81 (fun H locs w => ?_)
      refine lv_if_le (tgt := 94) E.x E.b d_Shm_load_84 (by decide) (fun c => ?_) (fun c => ?_)
      ·
        replace h := ifT c h
        refine lv_iconst (v := 0) E.x E.b d_Shm_load_94 (by decide) ?_
        refine lv_istore (lv' := [(4, .int 0), (0, .ref (ad (65 + v0))), (1, .int v1), (2, .int v2), (3, .int v3)]) E.x E.b d_Shm_load_95 hl (by decide) rfl (fun ls hl => ?_)
        exact lt_Shm_load_97 E hret o 100000 o31.1 v0 v2 0 _ _ _ h w (lv_sub hl [1, 3, 0] rfl)
      ·
        replace h := ifF c h
        refine lv_aload_n E.x E.b d_Shm_load_87 rfl (lv_at hl 0 rfl) ?_
        refine lv_iconst (v := 2) E.x E.b d_Shm_load_88 (by decide) ?_
        obtain ⟨σ32, e_σ32, h⟩ := lt_some h
        refine pM_Shm_thrown E w (pid := v0) c30 k1553 e_σ32 d_Shm_load_89 (fun H locs w => ?_)
        refine lv_iconst (v := 0) E.x E.b d_Shm_load_92 (by decide) ?_
        obtain rfl := Option.some.inj h
        exact rt_i E w hret d_Shm_load_93
    ·
      replace h := ifF c h
      refine lv_aload_n E.x E.b d_Shm_load_52 rfl (lv_at hl 0 rfl) ?_
      refine gM_Shm_fresh E w (pid := v0) c30 k1557 d_Shm_load_53 ?_
      refine lv_iload E.x E.b d_Shm_load_56 (lv_at hl 4 rfl) ?_
      refine lv_aload_n E.x E.b d_Shm_load_58 rfl (lv_at hl 0 rfl) ?_
      refine gM_Shm_memory E w (pid := v0) c30 k1554 d_Shm_load_59 ?_
      refine lv_iload_n E.x E.b d_Shm_load_62 rfl (lv_at hl 1 rfl) ?_
      refine lv_iload E.x E.b d_Shm_load_63 (lv_at hl 4 rfl) ?_
      refine lv_iadd E.x E.b d_Shm_load_65 ?_
      obtain ⟨c33, h⟩ := ck_some h
      refine ialM E w (k := 0) (by decide) c33 d_Shm_load_66 ?_
      obtain ⟨c34, h⟩ := ck_some h
      obtain ⟨σ35, e_σ35, h⟩ := lt_some h
      refine iasM E w (k := (15 + 10 * v0)) (by omega) c34 e_σ35 d_Shm_load_67 (fun H locs w => ?_)
      obtain ⟨y36, e_y36, h⟩ := lt_some h
      refine lv_iinc (v := y36) (lv' := [(4, .int y36), (0, .ref (ad (65 + v0))), (1, .int v1), (2, .int v2), (3, .int v3)]) E.x E.b d_Shm_load_68 hl (k := 4) rfl (e_y36) (by decide) rfl (fun ls hl => ?_)
      refine lv_goto (tgt := 44) E.x E.b d_Shm_load_71 (by decide) ?_
      exact hr_44 σ35 v0 v1 v2 v3 y36 _ _ _ h w (lv_sub hl [1, 2, 3, 4, 0] rfl)
def F_Shm_load_33 (σ : Sg) (v0 : Nat) (v1 : Int32) (v2 : Int32) (v3 : Int32) (s0 : Nat) (s1 : Int32) : Option (Sg × Int32) := ck (v0 < 2) (ck (s0 < 2) (bd (F_Shm_refuse σ s0 s1) (fun o39 => if o39.2 = (0 : Int32) then (L_Shm_load_44 100000 o39.1 v0 v1 v2 v3 0) else (some (o39.1, 0)))))
set_option maxRecDepth 10000 in
set_option maxHeartbeats 4000000 in
theorem bt_Shm_load_33 {p : Program} {l : Launch} {e : Env} {R : Room} {s : State} {m : MethodId} {args : Array Value} {below : List Frame} {meth : Method} {c : Code} {D : va_G} {τ : ClassId × ClassId × ClassId} {B : Nat} {A : Nat → Prop} {ad : Nat → Nat} (E : Cx p R s m args meth c prog_18_method_19_code 5 "DrawingMachineModel$ShaderMachineModel" 4 D τ B A) (hret : meth.sig.returnType = (some .int)) (o : Sg × Int32) (σ : Sg) (v0 : Nat) (v1 : Int32) (v2 : Int32) (v3 : Int32) (s0 : Nat) (s1 : Int32) (h : F_Shm_load_33 σ v0 v1 v2 v3 s0 s1 = some o) {H : Heap} {locs : List Loc} {ls : Array Slot} (w : Wd s D A (wdM τ σ ad) H locs) (hl : lv_has ls 5 [(0, .ref (ad (65 + v0))), (1, .int v1), (2, .int v2), (3, .int v3)]) : W p l e R s m args below meth c H locs 0 0 (QI below args s A D τ (wdM τ o.1 ad) o.2) (F0 m 33 ls [.int s1, .ref (ad (65 + s0))]) := by
  obtain ⟨c37, h⟩ := ck_some h
  obtain ⟨c38, h⟩ := ck_some h
  obtain ⟨o39, h_o39, h⟩ := bd_some h
  refine clV_Shm_refuse E w (p0 := s0) (x0 := s1) h_o39 k2088 (by decide) hl.1 (Nat.le_of_ble_eq_true rfl) d_Shm_load_33 (fun H locs w => ?_)
  refine lv_if_eq (tgt := 41) E.x E.b d_Shm_load_36 (by decide) (fun c => ?_) (fun c => ?_)
  ·
    replace h := ifT c h
    refine lv_iconst (v := 0) E.x E.b d_Shm_load_41 (by decide) ?_
    refine lv_istore (lv' := [(4, .int 0), (0, .ref (ad (65 + v0))), (1, .int v1), (2, .int v2), (3, .int v3)]) E.x E.b d_Shm_load_42 hl (by decide) rfl (fun ls hl => ?_)
    exact lt_Shm_load_44 E hret o 100000 o39.1 v0 v1 v2 v3 0 _ _ _ h w (lv_sub hl [1, 2, 3, 4, 0] rfl)
  ·
    replace h := ifF c h
    refine lv_iconst (v := 0) E.x E.b d_Shm_load_39 (by decide) ?_
    obtain rfl := Option.some.inj h
    exact rt_i E w hret d_Shm_load_40
def F_Shm_load_28 (σ : Sg) (v0 : Nat) (v1 : Int32) (v2 : Int32) (v3 : Int32) (s0 : Nat) : Option (Sg × Int32) := ck (v0 < 2) (ck (s0 < 2) (F_Shm_load_33 σ v0 v1 v2 v3 s0 1))
set_option maxRecDepth 10000 in
set_option maxHeartbeats 4000000 in
theorem bt_Shm_load_28 {p : Program} {l : Launch} {e : Env} {R : Room} {s : State} {m : MethodId} {args : Array Value} {below : List Frame} {meth : Method} {c : Code} {D : va_G} {τ : ClassId × ClassId × ClassId} {B : Nat} {A : Nat → Prop} {ad : Nat → Nat} (E : Cx p R s m args meth c prog_18_method_19_code 5 "DrawingMachineModel$ShaderMachineModel" 4 D τ B A) (hret : meth.sig.returnType = (some .int)) (o : Sg × Int32) (σ : Sg) (v0 : Nat) (v1 : Int32) (v2 : Int32) (v3 : Int32) (s0 : Nat) (h : F_Shm_load_28 σ v0 v1 v2 v3 s0 = some o) {H : Heap} {locs : List Loc} {ls : Array Slot} (w : Wd s D A (wdM τ σ ad) H locs) (hl : lv_has ls 5 [(0, .ref (ad (65 + v0))), (1, .int v1), (2, .int v2), (3, .int v3)]) : W p l e R s m args below meth c H locs 0 0 (QI below args s A D τ (wdM τ o.1 ad) o.2) (F0 m 28 ls [.ref (ad (65 + s0))]) := by
  obtain ⟨c40, h⟩ := ck_some h
  obtain ⟨c41, h⟩ := ck_some h
  refine lv_iconst (v := 1) E.x E.b d_Shm_load_28 (by decide) ?_
  refine lv_goto (tgt := 33) E.x E.b d_Shm_load_29 (by decide) ?_
  exact bt_Shm_load_33 E hret o σ v0 v1 v2 v3 s0 1 h w (lv_sub hl [0, 1, 2, 3] rfl)
def F_Shm_load (σ : Sg) (p0 : Nat) (x0 : Int32) (x1 : Int32) (x2 : Int32) : Option (Sg × Int32) := ck (p0 < 2) (if x1 < (1 : Int32) then (F_Shm_load_28 σ p0 x0 x1 x2 p0) else (if (256 : Int32) < x1 then (F_Shm_load_28 σ p0 x0 x1 x2 p0) else (if x0 < (0 : Int32) then (F_Shm_load_28 σ p0 x0 x1 x2 p0) else (if x0 ≤ (4096 - (3 * x1)) then (F_Shm_load_33 σ p0 x0 x1 x2 p0 0) else (F_Shm_load_28 σ p0 x0 x1 x2 p0)))))
set_option maxRecDepth 10000 in
set_option maxHeartbeats 4000000 in
theorem c_Shm_load (l : Launch) (D : va_G) (τ : ClassId × ClassId × ClassId) (B : Nat) (σ : Sg) (ad : Nat → Nat) (p0 : Nat) (x0 : Int32) (x1 : Int32) (x2 : Int32) (o : Sg × Int32) (h : F_Shm_load σ p0 x0 x1 x2 = some o) : MI l y_Shm_load (Cond.code y_Shm_load prog_18_method_19_code 5 (some .int)) 4 D τ B [.ref (ad (65 + p0)), .int x0, .int x1, .int x2] (wdM τ σ ad) (wdM τ o.1 ad) o.2 := by
  refine en_i (by decide) (Nat.le_of_ble_eq_true rfl) ?_
  intro p e R s m args below meth c H locs ls A E hret w hl
  have E : Cx p R s m args meth c prog_18_method_19_code 5 "DrawingMachineModel$ShaderMachineModel" 4 D τ B A := E
  have hl : lv_has ls 5 [(0, .ref (ad (65 + p0))), (1, .int x0), (2, .int x1), (3, .int x2)] := hl
  obtain ⟨c42, h⟩ := ck_some h
  refine lv_aload_n E.x E.b d_Shm_load_0 rfl (lv_at hl 0 rfl) ?_
  refine lv_iload_n E.x E.b d_Shm_load_1 rfl (lv_at hl 2 rfl) ?_
  refine lv_iconst (v := 1) E.x E.b d_Shm_load_2 (by decide) ?_
  refine lv_icmp_lt (tgt := 28) E.x E.b d_Shm_load_3 (by decide) (fun c => ?_) (fun c => ?_)
  ·
    replace h := ifT c h
    exact bt_Shm_load_28 E hret o σ p0 x0 x1 x2 p0 h w (lv_sub hl [0, 1, 2, 3] rfl)
  ·
    replace h := ifF c h
    refine lv_iload_n E.x E.b d_Shm_load_6 rfl (lv_at hl 2 rfl) ?_
    refine lv_sipush (v := 256) E.x E.b d_Shm_load_7 (by decide) ?_
    refine lv_icmp_gt (tgt := 28) E.x E.b d_Shm_load_10 (by decide) (fun c => ?_) (fun c => ?_)
    ·
      replace h := ifT c h
      exact bt_Shm_load_28 E hret o σ p0 x0 x1 x2 p0 h w (lv_sub hl [0, 1, 2, 3] rfl)
    ·
      replace h := ifF c h
      refine lv_iload_n E.x E.b d_Shm_load_13 rfl (lv_at hl 1 rfl) ?_
      refine lv_if_lt (tgt := 28) E.x E.b d_Shm_load_14 (by decide) (fun c => ?_) (fun c => ?_)
      ·
        replace h := ifT c h
        exact bt_Shm_load_28 E hret o σ p0 x0 x1 x2 p0 h w (lv_sub hl [0, 1, 2, 3] rfl)
      ·
        replace h := ifF c h
        refine lv_iload_n E.x E.b d_Shm_load_17 rfl (lv_at hl 1 rfl) ?_
        refine lv_sipush (v := 4096) E.x E.b d_Shm_load_18 (by decide) ?_
        refine lv_iconst (v := 3) E.x E.b d_Shm_load_21 (by decide) ?_
        refine lv_iload_n E.x E.b d_Shm_load_22 rfl (lv_at hl 2 rfl) ?_
        refine lv_imul E.x E.b d_Shm_load_23 ?_
        refine lv_isub E.x E.b d_Shm_load_24 ?_
        refine lv_icmp_le (tgt := 32) E.x E.b d_Shm_load_25 (by decide) (fun c => ?_) (fun c => ?_)
        ·
          replace h := ifT c h
          refine lv_iconst (v := 0) E.x E.b d_Shm_load_32 (by decide) ?_
          exact bt_Shm_load_33 E hret o σ p0 x0 x1 x2 p0 0 h w (lv_sub hl [0, 1, 2, 3] rfl)
        ·
          replace h := ifF c h
          exact bt_Shm_load_28 E hret o σ p0 x0 x1 x2 p0 h w (lv_sub hl [0, 1, 2, 3] rfl)
theorem clV_Shm_load {p : Program} {l : Launch} {e : Env} {R : Room} {s : State} {m : MethodId} {args : Array Value} {below : List Frame} {meth : Method} {c : Code} {H : Heap} {locs : List Loc} {Q : State → Prop} {cc : ByteArray} {nL pc lev : Nat} {own : String} {D : va_G} {τ : ClassId × ClassId × ClassId} {B : Nat} {A : Nat → Prop} {σ : Sg} {ad : Nat → Nat} {ls : Array Slot} {rest : List Value} (E : Cx p R s m args meth c cc nL own lev D τ B A) (w : Wd s D A (wdM τ σ ad) H locs) {p0 : Nat} {x0 : Int32} {x1 : Int32} {x2 : Int32} {o : Sg × Int32} (h : F_Shm_load σ p0 x0 x1 x2 = some o) {index : Nat} (hlk : Cond.methodLink own index y_Shm_load ∈ tw) (hlev : 4 < lev) (hsz : ls.size = nL) (hr : (rest.map fun v => v.category).sum ≤ 8) (hd : decode cc pc = .ok (.invokevirtual index, 3)) (kk : ∀ (H1 : Heap) (locs1 : List Loc), Wd s D A (wdM τ o.1 ad) H1 locs1 → W p l e R s m args below meth c H1 locs1 0 0 Q (F0 m (pc + 3) ls (.int o.2 :: rest))) : W p l e R s m args below meth c H locs 0 0 Q (F0 m pc ls (.int x2 :: .int x1 :: .int x0 :: .ref (ad (65 + p0)) :: rest)) :=
  cr_i w E.C (va_runV (As := [.int x0, .int x1, .int x2]) (rest := rest) E.fix (c_Shm_load l D τ B σ ad p0 x0 x1 x2 o h H.size) (cwV 3 E.w (tw_pre (tw_good k2087) (l := [_, _, _, _]) (List.forall_mem_cons.mpr ⟨hlk, List.forall_mem_cons.mpr ⟨k2085, List.forall_mem_cons.mpr ⟨k2086, List.forall_mem_cons.mpr ⟨k17, fun _ h => absurd h List.not_mem_nil⟩⟩⟩⟩)) rfl rfl rfl (by decide +kernel) (E.rm hlev (by decide))) (wd_preV w E.C [.int x0, .int x1, .int x2] (rcM_Shm (ck_some h).1) rfl) rfl rfl hsz rfl (lv_room hr) hd ⟨Nat.zero_le _, Nat.zero_le _⟩) kk

theorem d_Mod_program_0 : decode prog_14_method_14_code 0 = .ok (.aload_n 1, 1) := by decide +kernel
theorem d_Mod_program_1 : decode prog_14_method_14_code 1 = .ok (.aload_n 0, 1) := by decide +kernel
theorem d_Mod_program_2 : decode prog_14_method_14_code 2 = .ok (.getfield 19, 3) := by decide +kernel
theorem d_Mod_program_5 : decode prog_14_method_14_code 5 = .ok (.getfield 150, 3) := by decide +kernel
theorem d_Mod_program_8 : decode prog_14_method_14_code 8 = .ok (.iconst 0, 1) := by decide +kernel
theorem d_Mod_program_9 : decode prog_14_method_14_code 9 = .ok (.iaload, 1) := by decide +kernel
theorem d_Mod_program_10 : decode prog_14_method_14_code 10 = .ok (.aload_n 0, 1) := by decide +kernel
theorem d_Mod_program_11 : decode prog_14_method_14_code 11 = .ok (.getfield 19, 3) := by decide +kernel
theorem d_Mod_program_14 : decode prog_14_method_14_code 14 = .ok (.getfield 150, 3) := by decide +kernel
theorem d_Mod_program_17 : decode prog_14_method_14_code 17 = .ok (.iconst 1, 1) := by decide +kernel
theorem d_Mod_program_18 : decode prog_14_method_14_code 18 = .ok (.iaload, 1) := by decide +kernel
theorem d_Mod_program_19 : decode prog_14_method_14_code 19 = .ok (.iload_n 2, 1) := by decide +kernel
theorem d_Mod_program_20 : decode prog_14_method_14_code 20 = .ok (.invokevirtual 175, 3) := by decide +kernel
theorem d_Mod_program_23 : decode prog_14_method_14_code 23 = .ok (.istore_n 3, 1) := by decide +kernel
theorem d_Mod_program_24 : decode prog_14_method_14_code 24 = .ok (.aload_n 0, 1) := by decide +kernel
theorem d_Mod_program_25 : decode prog_14_method_14_code 25 = .ok (.aload_n 1, 1) := by decide +kernel
theorem d_Mod_program_26 : decode prog_14_method_14_code 26 = .ok (.getfield 179, 3) := by decide +kernel
theorem d_Mod_program_29 : decode prog_14_method_14_code 29 = .ok (.putfield 182, 3) := by decide +kernel
theorem d_Mod_program_32 : decode prog_14_method_14_code 32 = .ok (.aload_n 0, 1) := by decide +kernel
theorem d_Mod_program_33 : decode prog_14_method_14_code 33 = .ok (.aload_n 1, 1) := by decide +kernel
theorem d_Mod_program_34 : decode prog_14_method_14_code 34 = .ok (.getfield 183, 3) := by decide +kernel
theorem d_Mod_program_37 : decode prog_14_method_14_code 37 = .ok (.putfield 69, 3) := by decide +kernel
theorem d_Mod_program_40 : decode prog_14_method_14_code 40 = .ok (.aload_n 0, 1) := by decide +kernel
theorem d_Mod_program_41 : decode prog_14_method_14_code 41 = .ok (.getfield 182, 3) := by decide +kernel
theorem d_Mod_program_44 : decode prog_14_method_14_code 44 = .ok (.ifCond .ne 37, 3) := by decide +kernel
theorem d_Mod_program_47 : decode prog_14_method_14_code 47 = .ok (.aload_n 0, 1) := by decide +kernel
theorem d_Mod_program_48 : decode prog_14_method_14_code 48 = .ok (.iload_n 2, 1) := by decide +kernel
theorem d_Mod_program_49 : decode prog_14_method_14_code 49 = .ok (.ifCond .eq 10, 3) := by decide +kernel
theorem d_Mod_program_52 : decode prog_14_method_14_code 52 = .ok (.aload_n 0, 1) := by decide +kernel
theorem d_Mod_program_53 : decode prog_14_method_14_code 53 = .ok (.getfield 186, 3) := by decide +kernel
theorem d_Mod_program_56 : decode prog_14_method_14_code 56 = .ok (.goto 4, 3) := by decide +kernel
theorem d_Mod_program_59 : decode prog_14_method_14_code 59 = .ok (.iload_n 3, 1) := by decide +kernel
theorem d_Mod_program_60 : decode prog_14_method_14_code 60 = .ok (.putfield 186, 3) := by decide +kernel
theorem d_Mod_program_63 : decode prog_14_method_14_code 63 = .ok (.aload_n 0, 1) := by decide +kernel
theorem d_Mod_program_64 : decode prog_14_method_14_code 64 = .ok (.iload_n 2, 1) := by decide +kernel
theorem d_Mod_program_65 : decode prog_14_method_14_code 65 = .ok (.ifCond .eq 7, 3) := by decide +kernel
theorem d_Mod_program_68 : decode prog_14_method_14_code 68 = .ok (.iload_n 3, 1) := by decide +kernel
theorem d_Mod_program_69 : decode prog_14_method_14_code 69 = .ok (.goto 7, 3) := by decide +kernel
theorem d_Mod_program_72 : decode prog_14_method_14_code 72 = .ok (.aload_n 0, 1) := by decide +kernel
theorem d_Mod_program_73 : decode prog_14_method_14_code 73 = .ok (.getfield 189, 3) := by decide +kernel
theorem d_Mod_program_76 : decode prog_14_method_14_code 76 = .ok (.putfield 189, 3) := by decide +kernel
theorem d_Mod_program_79 : decode prog_14_method_14_code 79 = .ok (.iconst 1, 1) := by decide +kernel
theorem d_Mod_program_80 : decode prog_14_method_14_code 80 = .ok (.ireturn, 1) := by decide +kernel
theorem d_Mod_program_81 : decode prog_14_method_14_code 81 = .ok (.iconst 0, 1) := by decide +kernel
theorem d_Mod_program_82 : decode prog_14_method_14_code 82 = .ok (.istore 4, 2) := by decide +kernel
theorem d_Mod_program_84 : decode prog_14_method_14_code 84 = .ok (.iload 4, 2) := by decide +kernel
theorem d_Mod_program_86 : decode prog_14_method_14_code 86 = .ok (.iconst 4, 1) := by decide +kernel
theorem d_Mod_program_87 : decode prog_14_method_14_code 87 = .ok (.if_icmp .ge 46, 3) := by decide +kernel
theorem d_Mod_program_90 : decode prog_14_method_14_code 90 = .ok (.aload_n 0, 1) := by decide +kernel
theorem d_Mod_program_91 : decode prog_14_method_14_code 91 = .ok (.getfield 19, 3) := by decide +kernel
theorem d_Mod_program_94 : decode prog_14_method_14_code 94 = .ok (.getfield 126, 3) := by decide +kernel
theorem d_Mod_program_97 : decode prog_14_method_14_code 97 = .ok (.iload 4, 2) := by decide +kernel
theorem d_Mod_program_99 : decode prog_14_method_14_code 99 = .ok (.iconst 2, 1) := by decide +kernel
theorem d_Mod_program_100 : decode prog_14_method_14_code 100 = .ok (.if_icmp .ge 8, 3) := by decide +kernel
theorem d_Mod_program_103 : decode prog_14_method_14_code 103 = .ok (.bipush 7, 2) := by decide +kernel
theorem d_Mod_program_105 : decode prog_14_method_14_code 105 = .ok (.goto 5, 3) := by decide +kernel
theorem d_Mod_program_108 : decode prog_14_method_14_code 108 = .ok (.bipush 8, 2) := by decide +kernel
theorem d_Mod_program_110 : decode prog_14_method_14_code 110 = .ok (.iconst 0, 1) := by decide +kernel
theorem d_Mod_program_111 : decode prog_14_method_14_code 111 = .ok (.invokestatic 129, 3) := by decide +kernel
theorem d_Mod_program_114 : decode prog_14_method_14_code 114 = .ok (.iload 4, 2) := by decide +kernel
theorem d_Mod_program_116 : decode prog_14_method_14_code 116 = .ok (.iconst 2, 1) := by decide +kernel
theorem d_Mod_program_117 : decode prog_14_method_14_code 117 = .ok (.irem, 1) := by decide +kernel
theorem d_Mod_program_118 : decode prog_14_method_14_code 118 = .ok (.iadd, 1) := by decide +kernel
theorem d_Mod_program_119 : decode prog_14_method_14_code 119 = .ok (.aload_n 0, 1) := by decide +kernel
theorem d_Mod_program_120 : decode prog_14_method_14_code 120 = .ok (.getfield 78, 3) := by decide +kernel
theorem d_Mod_program_123 : decode prog_14_method_14_code 123 = .ok (.iload 4, 2) := by decide +kernel
theorem d_Mod_program_125 : decode prog_14_method_14_code 125 = .ok (.iaload, 1) := by decide +kernel
theorem d_Mod_program_126 : decode prog_14_method_14_code 126 = .ok (.iastore, 1) := by decide +kernel
theorem d_Mod_program_127 : decode prog_14_method_14_code 127 = .ok (.iinc 4 1, 3) := by decide +kernel
theorem d_Mod_program_130 : decode prog_14_method_14_code 130 = .ok (.goto (-46), 3) := by decide +kernel
theorem d_Mod_program_133 : decode prog_14_method_14_code 133 = .ok (.aload_n 0, 1) := by decide +kernel
theorem d_Mod_program_134 : decode prog_14_method_14_code 134 = .ok (.iconst 4, 1) := by decide +kernel
theorem d_Mod_program_135 : decode prog_14_method_14_code 135 = .ok (.invokevirtual 164, 3) := by decide +kernel
theorem d_Mod_program_138 : decode prog_14_method_14_code 138 = .ok (.ireturn, 1) := by decide +kernel
def F_Mod_program_110 (rc_84 : Sg → Int32 → Option (Sg × Int32)) (σ : Sg) (v4 : Int32) (s1 : Int32) : Option (Sg × Int32) := bd (F_Cmd_rowOf s1 0) (fun o13 => ck (inb v4 4) (ck (inb (o13 + (irem v4 2)) 4160) (lt (sA σ 4 (upd (σ.2.2.1 4) (o13 + (irem v4 2)).toNatClampNeg (σ.2.2.1 57 v4.toNatClampNeg))) (fun σ16 => lt (v4 + 1) (fun y17 => rc_84 σ16 y17)))))
set_option maxRecDepth 10000 in
set_option maxHeartbeats 4000000 in
theorem bt_Mod_program_110 {p : Program} {l : Launch} {e : Env} {R : Room} {s : State} {m : MethodId} {args : Array Value} {below : List Frame} {meth : Method} {c : Code} {D : va_G} {τ : ClassId × ClassId × ClassId} {B : Nat} {A : Nat → Prop} {ad : Nat → Nat} (E : Cx p R s m args meth c prog_14_method_14_code 5 "DrawingMachineModel" 5 D τ B A) (hret : meth.sig.returnType = (some .boolean)) (o : Sg × Int32) (rc_84 : Sg → Int32 → Option (Sg × Int32)) (hr_84 : ∀ (σ : Sg) (v4 : Int32) (H : Heap) (locs : List Loc) (ls : Array Slot), rc_84 σ v4 = some o → Wd s D A (wdM τ σ ad) H locs → lv_has ls 5 [(0, .ref (ad 59)), (4, .int v4)] → W p l e R s m args below meth c H locs 0 0 (QI below args s A D τ (wdM τ o.1 ad) o.2) (F0 m 84 ls [])) (σ : Sg) (v4 : Int32) (s1 : Int32) (h : F_Mod_program_110 rc_84 σ v4 s1 = some o) {H : Heap} {locs : List Loc} {ls : Array Slot} (w : Wd s D A (wdM τ σ ad) H locs) (hl : lv_has ls 5 [(0, .ref (ad 59)), (4, .int v4)]) : W p l e R s m args below meth c H locs 0 0 (QI below args s A D τ (wdM τ o.1 ad) o.2) (F0 m 110 ls [.int s1, .ref (ad 4)]) := by
  refine lv_iconst (v := 0) E.x E.b d_Mod_program_110 (by decide) ?_
  obtain ⟨o13, h_o13, h⟩ := bd_some h
  refine clSN_Cmd_rowOf E w (x0 := s1) (x1 := 0) h_o13 n1912 (by decide) hl.1 (Nat.le_of_ble_eq_true rfl) d_Mod_program_111 (fun H locs w => ?_)
  refine lv_iload E.x E.b d_Mod_program_114 (lv_at hl 1 rfl) ?_
  refine lv_iconst (v := 2) E.x E.b d_Mod_program_116 (by decide) ?_
  refine lv_irem E.x E.b d_Mod_program_117 (by decide) ?_
  refine wi_e (v := irem v4 2) rfl ?_
  refine lv_iadd E.x E.b d_Mod_program_118 ?_
  refine lv_aload_n E.x E.b d_Mod_program_119 rfl (lv_at hl 0 rfl) ?_
  refine gM_Mod_before E w k1782 d_Mod_program_120 ?_
  refine lv_iload E.x E.b d_Mod_program_123 (lv_at hl 1 rfl) ?_
  obtain ⟨c14, h⟩ := ck_some h
  refine ialM E w (k := 57) (by decide) c14 d_Mod_program_125 ?_
  obtain ⟨c15, h⟩ := ck_some h
  obtain ⟨σ16, e_σ16, h⟩ := lt_some h
  refine iasM E w (k := 4) (by decide) c15 e_σ16 d_Mod_program_126 (fun H locs w => ?_)
  obtain ⟨y17, e_y17, h⟩ := lt_some h
  refine lv_iinc (v := y17) (lv' := [(4, .int y17), (0, .ref (ad 59))]) E.x E.b d_Mod_program_127 hl (k := 1) rfl (e_y17) (by decide) rfl (fun ls hl => ?_)
  refine lv_goto (tgt := 84) E.x E.b d_Mod_program_130 (by decide) ?_
  exact hr_84 σ16 y17 _ _ _ h w (lv_sub hl [1, 0] rfl)
def L_Mod_program_84 : Nat → Sg → Int32 → Option (Sg × Int32)
  | 0, _, _ => none
  | n + 1, σ, v4 => if (4 : Int32) ≤ v4 then (bd (F_Mod_no σ 4) (fun o18 => ck (o18.2 = 0 ∨ o18.2 = 1) (some (o18.1, o18.2)))) else (if (2 : Int32) ≤ v4 then (F_Mod_program_110 (L_Mod_program_84 n) σ v4 8) else (F_Mod_program_110 (L_Mod_program_84 n) σ v4 7))
set_option maxRecDepth 10000 in
set_option maxHeartbeats 4000000 in
theorem lt_Mod_program_84 {p : Program} {l : Launch} {e : Env} {R : Room} {s : State} {m : MethodId} {args : Array Value} {below : List Frame} {meth : Method} {c : Code} {D : va_G} {τ : ClassId × ClassId × ClassId} {B : Nat} {A : Nat → Prop} {ad : Nat → Nat} (E : Cx p R s m args meth c prog_14_method_14_code 5 "DrawingMachineModel" 5 D τ B A) (hret : meth.sig.returnType = (some .boolean)) (o : Sg × Int32) : ∀ (n : Nat) (σ : Sg) (v4 : Int32) (H : Heap) (locs : List Loc) (ls : Array Slot), L_Mod_program_84 n σ v4 = some o → Wd s D A (wdM τ σ ad) H locs → lv_has ls 5 [(0, .ref (ad 59)), (4, .int v4)] → W p l e R s m args below meth c H locs 0 0 (QI below args s A D τ (wdM τ o.1 ad) o.2) (F0 m 84 ls []) := by
  intro n
  induction n with
  | zero =>
    intro σ v4 H locs ls h w hl
    cases h
  | succ n hr_84 =>
    intro σ v4 H locs ls h w hl
    refine lv_iload E.x E.b d_Mod_program_84 (lv_at hl 1 rfl) ?_
    refine lv_iconst (v := 4) E.x E.b d_Mod_program_86 (by decide) ?_
    refine lv_icmp_ge (tgt := 133) E.x E.b d_Mod_program_87 (by decide) (fun c => ?_) (fun c => ?_)
    ·
      replace h := ifT c h
      refine lv_aload_n E.x E.b d_Mod_program_133 rfl (lv_at hl 0 rfl) ?_
      refine lv_iconst (v := 4) E.x E.b d_Mod_program_134 (by decide) ?_
      obtain ⟨o18, h_o18, h⟩ := bd_some h
      refine clV_Mod_no E w (x0 := 4) h_o18 k2144 (by decide) hl.1 (Nat.le_of_ble_eq_true rfl) d_Mod_program_135 (fun H locs w => ?_)
      obtain ⟨c19, h⟩ := ck_some h
      obtain rfl := Option.some.inj h
      exact rt_z E w hret c19 d_Mod_program_138
    ·
      replace h := ifF c h
      refine lv_aload_n E.x E.b d_Mod_program_90 rfl (lv_at hl 0 rfl) ?_
      refine gM_Mod_commands E w k1768 d_Mod_program_91 ?_
      refine gNM_Cmd_kept E w n1469 d_Mod_program_94 ?_
      refine lv_iload E.x E.b d_Mod_program_97 (lv_at hl 1 rfl) ?_
      refine lv_iconst (v := 2) E.x E.b d_Mod_program_99 (by decide) ?_
      refine lv_icmp_ge (tgt := 108) E.x E.b d_Mod_program_100 (by decide) (fun c => ?_) (fun c => ?_)
      ·
        replace h := ifT c h
        refine lv_bipush (v := 8) E.x E.b d_Mod_program_108 (by decide) ?_
        exact bt_Mod_program_110 E hret o (L_Mod_program_84 n) hr_84 σ v4 8 h w (lv_sub hl [0, 1] rfl)
      ·
        replace h := ifF c h
        refine lv_bipush (v := 7) E.x E.b d_Mod_program_103 (by decide) ?_
        refine lv_goto (tgt := 110) E.x E.b d_Mod_program_105 (by decide) ?_
        exact bt_Mod_program_110 E hret o (L_Mod_program_84 n) hr_84 σ v4 7 h w (lv_sub hl [0, 1] rfl)
def F_Mod_program_76 (σ : Sg) (s1 : Int32) : Option (Sg × Int32) := lt (sI σ 6 s1) (fun σ20 => some (σ20, 1))
set_option maxRecDepth 10000 in
set_option maxHeartbeats 4000000 in
theorem bt_Mod_program_76 {p : Program} {l : Launch} {e : Env} {R : Room} {s : State} {m : MethodId} {args : Array Value} {below : List Frame} {meth : Method} {c : Code} {D : va_G} {τ : ClassId × ClassId × ClassId} {B : Nat} {A : Nat → Prop} {ad : Nat → Nat} (E : Cx p R s m args meth c prog_14_method_14_code 5 "DrawingMachineModel" 5 D τ B A) (hret : meth.sig.returnType = (some .boolean)) (o : Sg × Int32) (σ : Sg) (s1 : Int32) (h : F_Mod_program_76 σ s1 = some o) {H : Heap} {locs : List Loc} {ls : Array Slot} (w : Wd s D A (wdM τ σ ad) H locs) (hl : lv_has ls 5 []) : W p l e R s m args below meth c H locs 0 0 (QI below args s A D τ (wdM τ o.1 ad) o.2) (F0 m 76 ls [.int s1, .ref (ad 59)]) := by
  obtain ⟨σ20, e_σ20, h⟩ := lt_some h
  refine pM_Mod_placesSteps E w k1778 e_σ20 d_Mod_program_76 (fun H locs w => ?_)
  refine lv_iconst (v := 1) E.x E.b d_Mod_program_79 (by decide) ?_
  obtain rfl := Option.some.inj h
  exact rt_z E w hret (show (1 : Int32) = 0 ∨ (1 : Int32) = 1 by decide) d_Mod_program_80
def F_Mod_program_60 (σ : Sg) (v2 : Int32) (v3 : Int32) (s1 : Int32) : Option (Sg × Int32) := lt (sI σ 5 s1) (fun σ21 => if v2 = (0 : Int32) then (F_Mod_program_76 σ21 (σ21.1 6)) else (F_Mod_program_76 σ21 v3))
set_option maxRecDepth 10000 in
set_option maxHeartbeats 4000000 in
theorem bt_Mod_program_60 {p : Program} {l : Launch} {e : Env} {R : Room} {s : State} {m : MethodId} {args : Array Value} {below : List Frame} {meth : Method} {c : Code} {D : va_G} {τ : ClassId × ClassId × ClassId} {B : Nat} {A : Nat → Prop} {ad : Nat → Nat} (E : Cx p R s m args meth c prog_14_method_14_code 5 "DrawingMachineModel" 5 D τ B A) (hret : meth.sig.returnType = (some .boolean)) (o : Sg × Int32) (σ : Sg) (v2 : Int32) (v3 : Int32) (s1 : Int32) (h : F_Mod_program_60 σ v2 v3 s1 = some o) {H : Heap} {locs : List Loc} {ls : Array Slot} (w : Wd s D A (wdM τ σ ad) H locs) (hl : lv_has ls 5 [(0, .ref (ad 59)), (2, .int v2), (3, .int v3)]) : W p l e R s m args below meth c H locs 0 0 (QI below args s A D τ (wdM τ o.1 ad) o.2) (F0 m 60 ls [.int s1, .ref (ad 59)]) := by
  obtain ⟨σ21, e_σ21, h⟩ := lt_some h
  refine pM_Mod_cornersSteps E w k1777 e_σ21 d_Mod_program_60 (fun H locs w => ?_)
  refine lv_aload_n E.x E.b d_Mod_program_63 rfl (lv_at hl 0 rfl) ?_
  refine lv_iload_n E.x E.b d_Mod_program_64 rfl (lv_at hl 1 rfl) ?_
  refine lv_if_eq (tgt := 72) E.x E.b d_Mod_program_65 (by decide) (fun c => ?_) (fun c => ?_)
  ·
    replace h := ifT c h
    refine lv_aload_n E.x E.b d_Mod_program_72 rfl (lv_at hl 0 rfl) ?_
    refine gM_Mod_placesSteps E w k1778 d_Mod_program_73 ?_
    exact bt_Mod_program_76 E hret o σ21 (σ21.1 6) h w (lv_sub hl [] rfl)
  ·
    replace h := ifF c h
    refine lv_iload_n E.x E.b d_Mod_program_68 rfl (lv_at hl 2 rfl) ?_
    refine lv_goto (tgt := 76) E.x E.b d_Mod_program_69 (by decide) ?_
    exact bt_Mod_program_76 E hret o σ21 v3 h w (lv_sub hl [] rfl)
def F_Mod_program (σ : Sg) (p1 : Nat) (x1 : Int32) : Option (Sg × Int32) := ck (p1 < 2) (bd (F_Shm_load σ p1 (σ.2.2.1 3 0) (σ.2.2.1 3 1) x1) (fun o23 => lt (sI o23.1 3 (o23.1.1 (42 + 6 * p1))) (fun σ24 => lt (sI σ24 4 (σ24.1 (43 + 6 * p1))) (fun σ25 => if (σ25.1 3) = (0 : Int32) then (if x1 = (0 : Int32) then (F_Mod_program_60 σ25 x1 o23.2 o23.2) else (F_Mod_program_60 σ25 x1 o23.2 (σ25.1 5))) else (L_Mod_program_84 100000 σ25 0)))))
set_option maxRecDepth 10000 in
set_option maxHeartbeats 4000000 in
theorem c_Mod_program (l : Launch) (D : va_G) (τ : ClassId × ClassId × ClassId) (B : Nat) (σ : Sg) (ad : Nat → Nat) (p1 : Nat) (x1 : Int32) (o : Sg × Int32) (h : F_Mod_program σ p1 x1 = some o) : MI l y_Mod_program (Cond.code y_Mod_program prog_14_method_14_code 5 (some .boolean)) 5 D τ B [.ref (ad 59), .ref (ad (65 + p1)), .int x1] (wdM τ σ ad) (wdM τ o.1 ad) o.2 := by
  refine en_i (by decide) (Nat.le_of_ble_eq_true rfl) ?_
  intro p e R s m args below meth c H locs ls A E hret w hl
  have E : Cx p R s m args meth c prog_14_method_14_code 5 "DrawingMachineModel" 5 D τ B A := E
  have hl : lv_has ls 5 [(0, .ref (ad 59)), (1, .ref (ad (65 + p1))), (2, .int x1)] := hl
  obtain ⟨c22, h⟩ := ck_some h
  refine lv_aload_n E.x E.b d_Mod_program_0 rfl (lv_at hl 1 rfl) ?_
  refine lv_aload_n E.x E.b d_Mod_program_1 rfl (lv_at hl 0 rfl) ?_
  refine gM_Mod_commands E w k1768 d_Mod_program_2 ?_
  refine gNM_Cmd_argument E w n1467 d_Mod_program_5 ?_
  refine lv_iconst (v := 0) E.x E.b d_Mod_program_8 (by decide) ?_
  refine ialM E w (k := 3) (by decide) (show inb 0 300 by decide) d_Mod_program_9 ?_
  refine wi_e (v := σ.2.2.1 3 0) rfl ?_
  refine lv_aload_n E.x E.b d_Mod_program_10 rfl (lv_at hl 0 rfl) ?_
  refine gM_Mod_commands E w k1768 d_Mod_program_11 ?_
  refine gNM_Cmd_argument E w n1467 d_Mod_program_14 ?_
  refine lv_iconst (v := 1) E.x E.b d_Mod_program_17 (by decide) ?_
  refine ialM E w (k := 3) (by decide) (show inb 1 300 by decide) d_Mod_program_18 ?_
  refine wi_e (v := σ.2.2.1 3 1) rfl ?_
  refine lv_iload_n E.x E.b d_Mod_program_19 rfl (lv_at hl 2 rfl) ?_
  obtain ⟨o23, h_o23, h⟩ := bd_some h
  refine clV_Shm_load E w (p0 := p1) (x0 := (σ.2.2.1 3 0)) (x1 := (σ.2.2.1 3 1)) (x2 := x1) h_o23 k2084 (by decide) hl.1 (Nat.le_of_ble_eq_true rfl) d_Mod_program_20 (fun H locs w => ?_)
  refine lv_istore_n (lv' := [(3, .int o23.2), (0, .ref (ad 59)), (1, .ref (ad (65 + p1))), (2, .int x1)]) E.x E.b d_Mod_program_23 rfl hl (by decide) rfl (fun ls hl => ?_)
  refine lv_aload_n E.x E.b d_Mod_program_24 rfl (lv_at hl 1 rfl) ?_
  refine lv_aload_n E.x E.b d_Mod_program_25 rfl (lv_at hl 2 rfl) ?_
  refine gNM_Shm_fault E w (pid := p1) c22 n1559 d_Mod_program_26 ?_
  obtain ⟨σ24, e_σ24, h⟩ := lt_some h
  refine pM_Mod_fault E w k1775 e_σ24 d_Mod_program_29 (fun H locs w => ?_)
  refine lv_aload_n E.x E.b d_Mod_program_32 rfl (lv_at hl 1 rfl) ?_
  refine lv_aload_n E.x E.b d_Mod_program_33 rfl (lv_at hl 2 rfl) ?_
  refine gNM_Shm_place E w (pid := p1) c22 n1562 d_Mod_program_34 ?_
  obtain ⟨σ25, e_σ25, h⟩ := lt_some h
  refine pM_Mod_faultPlace E w k1776 e_σ25 d_Mod_program_37 (fun H locs w => ?_)
  refine lv_aload_n E.x E.b d_Mod_program_40 rfl (lv_at hl 1 rfl) ?_
  refine gM_Mod_fault E w k1775 d_Mod_program_41 ?_
  refine lv_if_ne (tgt := 81) E.x E.b d_Mod_program_44 (by decide) (fun c => ?_) (fun c => ?_)
  ·
    replace h := ifF c h
    refine lv_iconst (v := 0) E.x E.b d_Mod_program_81 (by decide) ?_
    refine lv_istore (lv' := [(4, .int 0), (3, .int o23.2), (0, .ref (ad 59)), (1, .ref (ad (65 + p1))), (2, .int x1)]) E.x E.b d_Mod_program_82 hl (by decide) rfl (fun ls hl => ?_)
    exact lt_Mod_program_84 E hret o 100000 σ25 0 _ _ _ h w (lv_sub hl [2, 0] rfl)
  ·
    replace h := ifT c h
    refine lv_aload_n E.x E.b d_Mod_program_47 rfl (lv_at hl 1 rfl) ?_
    refine lv_iload_n E.x E.b d_Mod_program_48 rfl (lv_at hl 3 rfl) ?_
    refine lv_if_eq (tgt := 59) E.x E.b d_Mod_program_49 (by decide) (fun c => ?_) (fun c => ?_)
    ·
      replace h := ifT c h
      refine lv_iload_n E.x E.b d_Mod_program_59 rfl (lv_at hl 0 rfl) ?_
      exact bt_Mod_program_60 E hret o σ25 x1 o23.2 o23.2 h w (lv_sub hl [1, 3, 0] rfl)
    ·
      replace h := ifF c h
      refine lv_aload_n E.x E.b d_Mod_program_52 rfl (lv_at hl 1 rfl) ?_
      refine gM_Mod_cornersSteps E w k1777 d_Mod_program_53 ?_
      refine lv_goto (tgt := 60) E.x E.b d_Mod_program_56 (by decide) ?_
      exact bt_Mod_program_60 E hret o σ25 x1 o23.2 (σ25.1 5) h w (lv_sub hl [1, 3, 0] rfl)
theorem clV_Mod_program {p : Program} {l : Launch} {e : Env} {R : Room} {s : State} {m : MethodId} {args : Array Value} {below : List Frame} {meth : Method} {c : Code} {H : Heap} {locs : List Loc} {Q : State → Prop} {cc : ByteArray} {nL pc lev : Nat} {own : String} {D : va_G} {τ : ClassId × ClassId × ClassId} {B : Nat} {A : Nat → Prop} {σ : Sg} {ad : Nat → Nat} {ls : Array Slot} {rest : List Value} (E : Cx p R s m args meth c cc nL own lev D τ B A) (w : Wd s D A (wdM τ σ ad) H locs) {p1 : Nat} {x1 : Int32} {o : Sg × Int32} (h : F_Mod_program σ p1 x1 = some o) {index : Nat} (hlk : Cond.methodLink own index y_Mod_program ∈ tw) (hlev : 5 < lev) (hsz : ls.size = nL) (hr : (rest.map fun v => v.category).sum ≤ 8) (hd : decode cc pc = .ok (.invokevirtual index, 3)) (kk : ∀ (H1 : Heap) (locs1 : List Loc), Wd s D A (wdM τ o.1 ad) H1 locs1 → W p l e R s m args below meth c H1 locs1 0 0 Q (F0 m (pc + 3) ls (.int o.2 :: rest))) : W p l e R s m args below meth c H locs 0 0 Q (F0 m pc ls (.int x1 :: .ref (ad (65 + p1)) :: .ref (ad 59) :: rest)) :=
  cr_i w E.C (va_runV (As := [.ref (ad (65 + p1)), .int x1]) (rest := rest) E.fix (c_Mod_program l D τ B σ ad p1 x1 o h H.size) (cwV 2 E.w (tw_pre (tw_good k2083) (l := [_, _, _, _]) (List.forall_mem_cons.mpr ⟨hlk, List.forall_mem_cons.mpr ⟨k2082, List.forall_mem_cons.mpr ⟨ks66, List.forall_mem_cons.mpr ⟨k14, fun _ h => absurd h List.not_mem_nil⟩⟩⟩⟩)) rfl rfl rfl (by decide +kernel) (E.rm hlev (by decide))) (wd_preV w E.C [.ref (ad (65 + p1)), .int x1] rcM_Mod rfl) rfl rfl hsz rfl (lv_room hr) hd ⟨Nat.zero_le _, Nat.zero_le _⟩) kk

theorem d_Cmd_fitsState_0 : decode prog_15_method_24_code 0 = .ok (.iload_n 1, 1) := by decide +kernel
theorem d_Cmd_fitsState_1 : decode prog_15_method_24_code 1 = .ok (.tableswitch 136 17 23 #[43, 43, 77, 136, 136, 136, 122], 43) := by decide +kernel
theorem d_Cmd_fitsState_44 : decode prog_15_method_24_code 44 = .ok (.aload_n 0, 1) := by decide +kernel
theorem d_Cmd_fitsState_45 : decode prog_15_method_24_code 45 = .ok (.getfield 38, 3) := by decide +kernel
theorem d_Cmd_fitsState_48 : decode prog_15_method_24_code 48 = .ok (.bipush 7, 2) := by decide +kernel
theorem d_Cmd_fitsState_50 : decode prog_15_method_24_code 50 = .ok (.iconst 0, 1) := by decide +kernel
theorem d_Cmd_fitsState_51 : decode prog_15_method_24_code 51 = .ok (.invokestatic 113, 3) := by decide +kernel
theorem d_Cmd_fitsState_54 : decode prog_15_method_24_code 54 = .ok (.iaload, 1) := by decide +kernel
theorem d_Cmd_fitsState_55 : decode prog_15_method_24_code 55 = .ok (.ifCond .lt 21, 3) := by decide +kernel
theorem d_Cmd_fitsState_58 : decode prog_15_method_24_code 58 = .ok (.aload_n 0, 1) := by decide +kernel
theorem d_Cmd_fitsState_59 : decode prog_15_method_24_code 59 = .ok (.getfield 38, 3) := by decide +kernel
theorem d_Cmd_fitsState_62 : decode prog_15_method_24_code 62 = .ok (.bipush 8, 2) := by decide +kernel
theorem d_Cmd_fitsState_64 : decode prog_15_method_24_code 64 = .ok (.iconst 0, 1) := by decide +kernel
theorem d_Cmd_fitsState_65 : decode prog_15_method_24_code 65 = .ok (.invokestatic 113, 3) := by decide +kernel
theorem d_Cmd_fitsState_68 : decode prog_15_method_24_code 68 = .ok (.iaload, 1) := by decide +kernel
theorem d_Cmd_fitsState_69 : decode prog_15_method_24_code 69 = .ok (.ifCond .lt 7, 3) := by decide +kernel
theorem d_Cmd_fitsState_72 : decode prog_15_method_24_code 72 = .ok (.iconst 1, 1) := by decide +kernel
theorem d_Cmd_fitsState_73 : decode prog_15_method_24_code 73 = .ok (.goto 4, 3) := by decide +kernel
theorem d_Cmd_fitsState_76 : decode prog_15_method_24_code 76 = .ok (.iconst 0, 1) := by decide +kernel
theorem d_Cmd_fitsState_77 : decode prog_15_method_24_code 77 = .ok (.ireturn, 1) := by decide +kernel
theorem d_Cmd_fitsState_78 : decode prog_15_method_24_code 78 = .ok (.aload_n 0, 1) := by decide +kernel
theorem d_Cmd_fitsState_79 : decode prog_15_method_24_code 79 = .ok (.getfield 35, 3) := by decide +kernel
theorem d_Cmd_fitsState_82 : decode prog_15_method_24_code 82 = .ok (.iconst 1, 1) := by decide +kernel
theorem d_Cmd_fitsState_83 : decode prog_15_method_24_code 83 = .ok (.iaload, 1) := by decide +kernel
theorem d_Cmd_fitsState_84 : decode prog_15_method_24_code 84 = .ok (.iconst 1, 1) := by decide +kernel
theorem d_Cmd_fitsState_85 : decode prog_15_method_24_code 85 = .ok (.if_icmp .ne 19, 3) := by decide +kernel
theorem d_Cmd_fitsState_88 : decode prog_15_method_24_code 88 = .ok (.aload_n 0, 1) := by decide +kernel
theorem d_Cmd_fitsState_89 : decode prog_15_method_24_code 89 = .ok (.getfield 32, 3) := by decide +kernel
theorem d_Cmd_fitsState_92 : decode prog_15_method_24_code 92 = .ok (.iconst (-1), 1) := by decide +kernel
theorem d_Cmd_fitsState_93 : decode prog_15_method_24_code 93 = .ok (.if_icmp .ne 7, 3) := by decide +kernel
theorem d_Cmd_fitsState_96 : decode prog_15_method_24_code 96 = .ok (.iconst 1, 1) := by decide +kernel
theorem d_Cmd_fitsState_97 : decode prog_15_method_24_code 97 = .ok (.goto 25, 3) := by decide +kernel
theorem d_Cmd_fitsState_100 : decode prog_15_method_24_code 100 = .ok (.iconst 0, 1) := by decide +kernel
theorem d_Cmd_fitsState_101 : decode prog_15_method_24_code 101 = .ok (.goto 21, 3) := by decide +kernel
theorem d_Cmd_fitsState_104 : decode prog_15_method_24_code 104 = .ok (.aload_n 0, 1) := by decide +kernel
theorem d_Cmd_fitsState_105 : decode prog_15_method_24_code 105 = .ok (.getfield 32, 3) := by decide +kernel
theorem d_Cmd_fitsState_108 : decode prog_15_method_24_code 108 = .ok (.aload_n 0, 1) := by decide +kernel
theorem d_Cmd_fitsState_109 : decode prog_15_method_24_code 109 = .ok (.getfield 35, 3) := by decide +kernel
theorem d_Cmd_fitsState_112 : decode prog_15_method_24_code 112 = .ok (.iconst 0, 1) := by decide +kernel
theorem d_Cmd_fitsState_113 : decode prog_15_method_24_code 113 = .ok (.iaload, 1) := by decide +kernel
theorem d_Cmd_fitsState_114 : decode prog_15_method_24_code 114 = .ok (.if_icmp .ne 7, 3) := by decide +kernel
theorem d_Cmd_fitsState_117 : decode prog_15_method_24_code 117 = .ok (.iconst 1, 1) := by decide +kernel
theorem d_Cmd_fitsState_118 : decode prog_15_method_24_code 118 = .ok (.goto 4, 3) := by decide +kernel
theorem d_Cmd_fitsState_121 : decode prog_15_method_24_code 121 = .ok (.iconst 0, 1) := by decide +kernel
theorem d_Cmd_fitsState_122 : decode prog_15_method_24_code 122 = .ok (.ireturn, 1) := by decide +kernel
theorem d_Cmd_fitsState_123 : decode prog_15_method_24_code 123 = .ok (.aload_n 0, 1) := by decide +kernel
theorem d_Cmd_fitsState_124 : decode prog_15_method_24_code 124 = .ok (.getfield 130, 3) := by decide +kernel
theorem d_Cmd_fitsState_127 : decode prog_15_method_24_code 127 = .ok (.iconst 4, 1) := by decide +kernel
theorem d_Cmd_fitsState_128 : decode prog_15_method_24_code 128 = .ok (.if_icmp .ge 7, 3) := by decide +kernel
theorem d_Cmd_fitsState_131 : decode prog_15_method_24_code 131 = .ok (.iconst 1, 1) := by decide +kernel
theorem d_Cmd_fitsState_132 : decode prog_15_method_24_code 132 = .ok (.goto 4, 3) := by decide +kernel
theorem d_Cmd_fitsState_135 : decode prog_15_method_24_code 135 = .ok (.iconst 0, 1) := by decide +kernel
theorem d_Cmd_fitsState_136 : decode prog_15_method_24_code 136 = .ok (.ireturn, 1) := by decide +kernel
theorem d_Cmd_fitsState_137 : decode prog_15_method_24_code 137 = .ok (.iconst 1, 1) := by decide +kernel
theorem d_Cmd_fitsState_138 : decode prog_15_method_24_code 138 = .ok (.ireturn, 1) := by decide +kernel
def F_Cmd_fitsState_137 (σ : Sg) : Option (Int32) := some 1
set_option maxRecDepth 10000 in
set_option maxHeartbeats 4000000 in
theorem bt_Cmd_fitsState_137 {p : Program} {l : Launch} {e : Env} {R : Room} {s : State} {m : MethodId} {args : Array Value} {below : List Frame} {meth : Method} {c : Code} {D : va_G} {τ : ClassId × ClassId × ClassId} {B : Nat} {A : Nat → Prop} {ad : Nat → Nat} (E : Cx p R s m args meth c prog_15_method_24_code 2 "DrawingMachineModel$DrawCommandsModel" 2 D τ B A) (hret : meth.sig.returnType = (some .boolean)) (o : Int32) (σ : Sg) (h : F_Cmd_fitsState_137 σ = some o) {H : Heap} {locs : List Loc} {ls : Array Slot} (w : Wd s D A (wdM τ σ ad) H locs) (hl : lv_has ls 2 []) : W p l e R s m args below meth c H locs 0 0 (QI below args s A D τ (wdM τ σ ad) o) (F0 m 137 ls []) := by
  refine lv_iconst (v := 1) E.x E.b d_Cmd_fitsState_137 (by decide) ?_
  obtain rfl := Option.some.inj h
  exact rt_z E w hret (show (1 : Int32) = 0 ∨ (1 : Int32) = 1 by decide) d_Cmd_fitsState_138
def F_Cmd_fitsState_136 (σ : Sg) (s0 : Int32) : Option (Int32) := ck (s0 = 0 ∨ s0 = 1) (some s0)
set_option maxRecDepth 10000 in
set_option maxHeartbeats 4000000 in
theorem bt_Cmd_fitsState_136 {p : Program} {l : Launch} {e : Env} {R : Room} {s : State} {m : MethodId} {args : Array Value} {below : List Frame} {meth : Method} {c : Code} {D : va_G} {τ : ClassId × ClassId × ClassId} {B : Nat} {A : Nat → Prop} {ad : Nat → Nat} (E : Cx p R s m args meth c prog_15_method_24_code 2 "DrawingMachineModel$DrawCommandsModel" 2 D τ B A) (hret : meth.sig.returnType = (some .boolean)) (o : Int32) (σ : Sg) (s0 : Int32) (h : F_Cmd_fitsState_136 σ s0 = some o) {H : Heap} {locs : List Loc} {ls : Array Slot} (w : Wd s D A (wdM τ σ ad) H locs) (hl : lv_has ls 2 []) : W p l e R s m args below meth c H locs 0 0 (QI below args s A D τ (wdM τ σ ad) o) (F0 m 136 ls [.int s0]) := by
  obtain ⟨c15, h⟩ := ck_some h
  obtain rfl := Option.some.inj h
  exact rt_z E w hret c15 d_Cmd_fitsState_136
def F_Cmd_fitsState_122 (σ : Sg) (s0 : Int32) : Option (Int32) := ck (s0 = 0 ∨ s0 = 1) (some s0)
set_option maxRecDepth 10000 in
set_option maxHeartbeats 4000000 in
theorem bt_Cmd_fitsState_122 {p : Program} {l : Launch} {e : Env} {R : Room} {s : State} {m : MethodId} {args : Array Value} {below : List Frame} {meth : Method} {c : Code} {D : va_G} {τ : ClassId × ClassId × ClassId} {B : Nat} {A : Nat → Prop} {ad : Nat → Nat} (E : Cx p R s m args meth c prog_15_method_24_code 2 "DrawingMachineModel$DrawCommandsModel" 2 D τ B A) (hret : meth.sig.returnType = (some .boolean)) (o : Int32) (σ : Sg) (s0 : Int32) (h : F_Cmd_fitsState_122 σ s0 = some o) {H : Heap} {locs : List Loc} {ls : Array Slot} (w : Wd s D A (wdM τ σ ad) H locs) (hl : lv_has ls 2 []) : W p l e R s m args below meth c H locs 0 0 (QI below args s A D τ (wdM τ σ ad) o) (F0 m 122 ls [.int s0]) := by
  obtain ⟨c16, h⟩ := ck_some h
  obtain rfl := Option.some.inj h
  exact rt_z E w hret c16 d_Cmd_fitsState_122
def F_Cmd_fitsState_77 (σ : Sg) (s0 : Int32) : Option (Int32) := ck (s0 = 0 ∨ s0 = 1) (some s0)
set_option maxRecDepth 10000 in
set_option maxHeartbeats 4000000 in
theorem bt_Cmd_fitsState_77 {p : Program} {l : Launch} {e : Env} {R : Room} {s : State} {m : MethodId} {args : Array Value} {below : List Frame} {meth : Method} {c : Code} {D : va_G} {τ : ClassId × ClassId × ClassId} {B : Nat} {A : Nat → Prop} {ad : Nat → Nat} (E : Cx p R s m args meth c prog_15_method_24_code 2 "DrawingMachineModel$DrawCommandsModel" 2 D τ B A) (hret : meth.sig.returnType = (some .boolean)) (o : Int32) (σ : Sg) (s0 : Int32) (h : F_Cmd_fitsState_77 σ s0 = some o) {H : Heap} {locs : List Loc} {ls : Array Slot} (w : Wd s D A (wdM τ σ ad) H locs) (hl : lv_has ls 2 []) : W p l e R s m args below meth c H locs 0 0 (QI below args s A D τ (wdM τ σ ad) o) (F0 m 77 ls [.int s0]) := by
  obtain ⟨c17, h⟩ := ck_some h
  obtain rfl := Option.some.inj h
  exact rt_z E w hret c17 d_Cmd_fitsState_77
def F_Cmd_fitsState_76 (σ : Sg) : Option (Int32) := F_Cmd_fitsState_77 σ 0
set_option maxRecDepth 10000 in
set_option maxHeartbeats 4000000 in
theorem bt_Cmd_fitsState_76 {p : Program} {l : Launch} {e : Env} {R : Room} {s : State} {m : MethodId} {args : Array Value} {below : List Frame} {meth : Method} {c : Code} {D : va_G} {τ : ClassId × ClassId × ClassId} {B : Nat} {A : Nat → Prop} {ad : Nat → Nat} (E : Cx p R s m args meth c prog_15_method_24_code 2 "DrawingMachineModel$DrawCommandsModel" 2 D τ B A) (hret : meth.sig.returnType = (some .boolean)) (o : Int32) (σ : Sg) (h : F_Cmd_fitsState_76 σ = some o) {H : Heap} {locs : List Loc} {ls : Array Slot} (w : Wd s D A (wdM τ σ ad) H locs) (hl : lv_has ls 2 []) : W p l e R s m args below meth c H locs 0 0 (QI below args s A D τ (wdM τ σ ad) o) (F0 m 76 ls []) := by
  refine lv_iconst (v := 0) E.x E.b d_Cmd_fitsState_76 (by decide) ?_
  exact bt_Cmd_fitsState_77 E hret o σ 0 h w (lv_sub hl [] rfl)
def F_Cmd_fitsState_44 (σ : Sg) : Option (Int32) := bd (F_Cmd_rowOf 7 0) (fun o18 => ck (inb o18 4160) (if (σ.2.2.1 4 o18.toNatClampNeg) < (0 : Int32) then (F_Cmd_fitsState_76 σ) else (bd (F_Cmd_rowOf 8 0) (fun o20 => ck (inb o20 4160) (if (σ.2.2.1 4 o20.toNatClampNeg) < (0 : Int32) then (F_Cmd_fitsState_76 σ) else (F_Cmd_fitsState_77 σ 1))))))
set_option maxRecDepth 10000 in
set_option maxHeartbeats 4000000 in
theorem bt_Cmd_fitsState_44 {p : Program} {l : Launch} {e : Env} {R : Room} {s : State} {m : MethodId} {args : Array Value} {below : List Frame} {meth : Method} {c : Code} {D : va_G} {τ : ClassId × ClassId × ClassId} {B : Nat} {A : Nat → Prop} {ad : Nat → Nat} (E : Cx p R s m args meth c prog_15_method_24_code 2 "DrawingMachineModel$DrawCommandsModel" 2 D τ B A) (hret : meth.sig.returnType = (some .boolean)) (o : Int32) (σ : Sg) (h : F_Cmd_fitsState_44 σ = some o) {H : Heap} {locs : List Loc} {ls : Array Slot} (w : Wd s D A (wdM τ σ ad) H locs) (hl : lv_has ls 2 [(0, .ref (ad 60))]) : W p l e R s m args below meth c H locs 0 0 (QI below args s A D τ (wdM τ σ ad) o) (F0 m 44 ls []) := by
  refine lv_aload_n E.x E.b d_Cmd_fitsState_44 rfl (lv_at hl 0 rfl) ?_
  refine gM_Cmd_kept E w k1468 d_Cmd_fitsState_45 ?_
  refine lv_bipush (v := 7) E.x E.b d_Cmd_fitsState_48 (by decide) ?_
  refine lv_iconst (v := 0) E.x E.b d_Cmd_fitsState_50 (by decide) ?_
  obtain ⟨o18, h_o18, h⟩ := bd_some h
  refine clS_Cmd_rowOf E w (x0 := 7) (x1 := 0) h_o18 k1436 (by decide) hl.1 (Nat.le_of_ble_eq_true rfl) d_Cmd_fitsState_51 (fun H locs w => ?_)
  obtain ⟨c19, h⟩ := ck_some h
  refine ialM E w (k := 4) (by decide) c19 d_Cmd_fitsState_54 ?_
  refine lv_if_lt (tgt := 76) E.x E.b d_Cmd_fitsState_55 (by decide) (fun c => ?_) (fun c => ?_)
  ·
    replace h := ifT c h
    exact bt_Cmd_fitsState_76 E hret o σ h w (lv_sub hl [] rfl)
  ·
    replace h := ifF c h
    refine lv_aload_n E.x E.b d_Cmd_fitsState_58 rfl (lv_at hl 0 rfl) ?_
    refine gM_Cmd_kept E w k1468 d_Cmd_fitsState_59 ?_
    refine lv_bipush (v := 8) E.x E.b d_Cmd_fitsState_62 (by decide) ?_
    refine lv_iconst (v := 0) E.x E.b d_Cmd_fitsState_64 (by decide) ?_
    obtain ⟨o20, h_o20, h⟩ := bd_some h
    refine clS_Cmd_rowOf E w (x0 := 8) (x1 := 0) h_o20 k1436 (by decide) hl.1 (Nat.le_of_ble_eq_true rfl) d_Cmd_fitsState_65 (fun H locs w => ?_)
    obtain ⟨c21, h⟩ := ck_some h
    refine ialM E w (k := 4) (by decide) c21 d_Cmd_fitsState_68 ?_
    refine lv_if_lt (tgt := 76) E.x E.b d_Cmd_fitsState_69 (by decide) (fun c => ?_) (fun c => ?_)
    ·
      replace h := ifT c h
      exact bt_Cmd_fitsState_76 E hret o σ h w (lv_sub hl [] rfl)
    ·
      replace h := ifF c h
      refine lv_iconst (v := 1) E.x E.b d_Cmd_fitsState_72 (by decide) ?_
      refine lv_goto (tgt := 77) E.x E.b d_Cmd_fitsState_73 (by decide) ?_
      exact bt_Cmd_fitsState_77 E hret o σ 1 h w (lv_sub hl [] rfl)
def F_Cmd_fitsState (σ : Sg) (x0 : Int32) : Option (Int32) := if x0 = 17 then (F_Cmd_fitsState_44 σ) else (if x0 = 18 then (F_Cmd_fitsState_44 σ) else (if x0 = 19 then (if (σ.2.2.1 3 1) = (1 : Int32) then (if (σ.1 18) = (-1) then (F_Cmd_fitsState_122 σ 1) else (F_Cmd_fitsState_122 σ 0)) else (if (σ.1 18) = (σ.2.2.1 3 0) then (F_Cmd_fitsState_122 σ 1) else (F_Cmd_fitsState_122 σ 0))) else (if x0 = 20 then (F_Cmd_fitsState_137 σ) else (if x0 = 21 then (F_Cmd_fitsState_137 σ) else (if x0 = 22 then (F_Cmd_fitsState_137 σ) else (if x0 = 23 then (if (4 : Int32) ≤ (σ.1 12) then (F_Cmd_fitsState_136 σ 0) else (F_Cmd_fitsState_136 σ 1)) else (F_Cmd_fitsState_137 σ)))))))
set_option maxRecDepth 10000 in
set_option maxHeartbeats 4000000 in
theorem c_Cmd_fitsState (l : Launch) (D : va_G) (τ : ClassId × ClassId × ClassId) (B : Nat) (σ : Sg) (ad : Nat → Nat) (x0 : Int32) (o : Int32) (h : F_Cmd_fitsState σ x0 = some o) : MI l y_Cmd_fitsState (Cond.code y_Cmd_fitsState prog_15_method_24_code 2 (some .boolean)) 2 D τ B [.ref (ad 60), .int x0] (wdM τ σ ad) (wdM τ σ ad) o := by
  refine en_i (by decide) (Nat.le_of_ble_eq_true rfl) ?_
  intro p e R s m args below meth c H locs ls A E hret w hl
  have E : Cx p R s m args meth c prog_15_method_24_code 2 "DrawingMachineModel$DrawCommandsModel" 2 D τ B A := E
  have hl : lv_has ls 2 [(0, .ref (ad 60)), (1, .int x0)] := hl
  refine lv_iload_n E.x E.b d_Cmd_fitsState_0 rfl (lv_at hl 1 rfl) ?_
  by_cases q22 : x0 = 17
  ·
    replace h := ifT q22 h
    refine wi_e (v := 17) q22 ?_
    refine lv_tableIn (off := 43) (tgt := 44) E.x E.b d_Cmd_fitsState_1 (by decide) (by decide) (by decide) (by decide) ?_
    exact bt_Cmd_fitsState_44 E hret o σ h w (lv_sub hl [0] rfl)
  replace h := ifF q22 h
  replace q22 := ne_ti (k := 17) (by decide) q22
  by_cases q23 : x0 = 18
  ·
    replace h := ifT q23 h
    refine wi_e (v := 18) q23 ?_
    refine lv_tableIn (off := 43) (tgt := 44) E.x E.b d_Cmd_fitsState_1 (by decide) (by decide) (by decide) (by decide) ?_
    exact bt_Cmd_fitsState_44 E hret o σ h w (lv_sub hl [0] rfl)
  replace h := ifF q23 h
  replace q23 := ne_ti (k := 18) (by decide) q23
  by_cases q24 : x0 = 19
  ·
    replace h := ifT q24 h
    refine wi_e (v := 19) q24 ?_
    refine lv_tableIn (off := 77) (tgt := 78) E.x E.b d_Cmd_fitsState_1 (by decide) (by decide) (by decide) (by decide) ?_
    refine lv_aload_n E.x E.b d_Cmd_fitsState_78 rfl (lv_at hl 0 rfl) ?_
    refine gM_Cmd_argument E w k1466 d_Cmd_fitsState_79 ?_
    refine lv_iconst (v := 1) E.x E.b d_Cmd_fitsState_82 (by decide) ?_
    refine ialM E w (k := 3) (by decide) (show inb 1 300 by decide) d_Cmd_fitsState_83 ?_
    refine wi_e (v := σ.2.2.1 3 1) rfl ?_
    refine lv_iconst (v := 1) E.x E.b d_Cmd_fitsState_84 (by decide) ?_
    refine lv_icmp_ne (tgt := 104) E.x E.b d_Cmd_fitsState_85 (by decide) (fun c => ?_) (fun c => ?_)
    ·
      replace h := ifF c h
      refine lv_aload_n E.x E.b d_Cmd_fitsState_104 rfl (lv_at hl 0 rfl) ?_
      refine gM_Cmd_query E w k1462 d_Cmd_fitsState_105 ?_
      refine lv_aload_n E.x E.b d_Cmd_fitsState_108 rfl (lv_at hl 0 rfl) ?_
      refine gM_Cmd_argument E w k1466 d_Cmd_fitsState_109 ?_
      refine lv_iconst (v := 0) E.x E.b d_Cmd_fitsState_112 (by decide) ?_
      refine ialM E w (k := 3) (by decide) (show inb 0 300 by decide) d_Cmd_fitsState_113 ?_
      refine wi_e (v := σ.2.2.1 3 0) rfl ?_
      refine lv_icmp_ne (tgt := 121) E.x E.b d_Cmd_fitsState_114 (by decide) (fun c => ?_) (fun c => ?_)
      ·
        replace h := ifF c h
        refine lv_iconst (v := 0) E.x E.b d_Cmd_fitsState_121 (by decide) ?_
        exact bt_Cmd_fitsState_122 E hret o σ 0 h w (lv_sub hl [] rfl)
      ·
        replace h := ifT c h
        refine lv_iconst (v := 1) E.x E.b d_Cmd_fitsState_117 (by decide) ?_
        refine lv_goto (tgt := 122) E.x E.b d_Cmd_fitsState_118 (by decide) ?_
        exact bt_Cmd_fitsState_122 E hret o σ 1 h w (lv_sub hl [] rfl)
    ·
      replace h := ifT c h
      refine lv_aload_n E.x E.b d_Cmd_fitsState_88 rfl (lv_at hl 0 rfl) ?_
      refine gM_Cmd_query E w k1462 d_Cmd_fitsState_89 ?_
      refine lv_iconst (v := (-1)) E.x E.b d_Cmd_fitsState_92 (by decide) ?_
      refine lv_icmp_ne (tgt := 100) E.x E.b d_Cmd_fitsState_93 (by decide) (fun c => ?_) (fun c => ?_)
      ·
        replace h := ifF c h
        refine lv_iconst (v := 0) E.x E.b d_Cmd_fitsState_100 (by decide) ?_
        refine lv_goto (tgt := 122) E.x E.b d_Cmd_fitsState_101 (by decide) ?_
        exact bt_Cmd_fitsState_122 E hret o σ 0 h w (lv_sub hl [] rfl)
      ·
        replace h := ifT c h
        refine lv_iconst (v := 1) E.x E.b d_Cmd_fitsState_96 (by decide) ?_
        refine lv_goto (tgt := 122) E.x E.b d_Cmd_fitsState_97 (by decide) ?_
        exact bt_Cmd_fitsState_122 E hret o σ 1 h w (lv_sub hl [] rfl)
  replace h := ifF q24 h
  replace q24 := ne_ti (k := 19) (by decide) q24
  by_cases q25 : x0 = 20
  ·
    replace h := ifT q25 h
    refine wi_e (v := 20) q25 ?_
    refine lv_tableIn (off := 136) (tgt := 137) E.x E.b d_Cmd_fitsState_1 (by decide) (by decide) (by decide) (by decide) ?_
    exact bt_Cmd_fitsState_137 E hret o σ h w (lv_sub hl [] rfl)
  replace h := ifF q25 h
  replace q25 := ne_ti (k := 20) (by decide) q25
  by_cases q26 : x0 = 21
  ·
    replace h := ifT q26 h
    refine wi_e (v := 21) q26 ?_
    refine lv_tableIn (off := 136) (tgt := 137) E.x E.b d_Cmd_fitsState_1 (by decide) (by decide) (by decide) (by decide) ?_
    exact bt_Cmd_fitsState_137 E hret o σ h w (lv_sub hl [] rfl)
  replace h := ifF q26 h
  replace q26 := ne_ti (k := 21) (by decide) q26
  by_cases q27 : x0 = 22
  ·
    replace h := ifT q27 h
    refine wi_e (v := 22) q27 ?_
    refine lv_tableIn (off := 136) (tgt := 137) E.x E.b d_Cmd_fitsState_1 (by decide) (by decide) (by decide) (by decide) ?_
    exact bt_Cmd_fitsState_137 E hret o σ h w (lv_sub hl [] rfl)
  replace h := ifF q27 h
  replace q27 := ne_ti (k := 22) (by decide) q27
  by_cases q28 : x0 = 23
  ·
    replace h := ifT q28 h
    refine wi_e (v := 23) q28 ?_
    refine lv_tableIn (off := 122) (tgt := 123) E.x E.b d_Cmd_fitsState_1 (by decide) (by decide) (by decide) (by decide) ?_
    refine lv_aload_n E.x E.b d_Cmd_fitsState_123 rfl (lv_at hl 0 rfl) ?_
    refine gM_Cmd_depth E w k1452 d_Cmd_fitsState_124 ?_
    refine lv_iconst (v := 4) E.x E.b d_Cmd_fitsState_127 (by decide) ?_
    refine lv_icmp_ge (tgt := 135) E.x E.b d_Cmd_fitsState_128 (by decide) (fun c => ?_) (fun c => ?_)
    ·
      replace h := ifT c h
      refine lv_iconst (v := 0) E.x E.b d_Cmd_fitsState_135 (by decide) ?_
      exact bt_Cmd_fitsState_136 E hret o σ 0 h w (lv_sub hl [] rfl)
    ·
      replace h := ifF c h
      refine lv_iconst (v := 1) E.x E.b d_Cmd_fitsState_131 (by decide) ?_
      refine lv_goto (tgt := 136) E.x E.b d_Cmd_fitsState_132 (by decide) ?_
      exact bt_Cmd_fitsState_136 E hret o σ 1 h w (lv_sub hl [] rfl)
  replace h := ifF q28 h
  replace q28 := ne_ti (k := 23) (by decide) q28
  refine lv_tableOut (tgt := 137) E.x E.b d_Cmd_fitsState_1 (by omega) (by decide) ?_
  exact bt_Cmd_fitsState_137 E hret o σ h w (lv_sub hl [] rfl)
theorem clV_Cmd_fitsState {p : Program} {l : Launch} {e : Env} {R : Room} {s : State} {m : MethodId} {args : Array Value} {below : List Frame} {meth : Method} {c : Code} {H : Heap} {locs : List Loc} {Q : State → Prop} {cc : ByteArray} {nL pc lev : Nat} {own : String} {D : va_G} {τ : ClassId × ClassId × ClassId} {B : Nat} {A : Nat → Prop} {σ : Sg} {ad : Nat → Nat} {ls : Array Slot} {rest : List Value} (E : Cx p R s m args meth c cc nL own lev D τ B A) (w : Wd s D A (wdM τ σ ad) H locs) {x0 : Int32} {o : Int32} (h : F_Cmd_fitsState σ x0 = some o) {index : Nat} (hlk : Cond.methodLink own index y_Cmd_fitsState ∈ tw) (hlev : 2 < lev) (hsz : ls.size = nL) (hr : (rest.map fun v => v.category).sum ≤ 8) (hd : decode cc pc = .ok (.invokevirtual index, 3)) (kk : ∀ (H1 : Heap) (locs1 : List Loc), Wd s D A (wdM τ σ ad) H1 locs1 → W p l e R s m args below meth c H1 locs1 0 0 Q (F0 m (pc + 3) ls (.int o :: rest))) : W p l e R s m args below meth c H locs 0 0 Q (F0 m pc ls (.int x0 :: .ref (ad 60) :: rest)) :=
  cr_i w E.C (va_runV (As := [.int x0]) (rest := rest) E.fix (c_Cmd_fitsState l D τ B σ ad x0 o h H.size) (cwV 1 E.w (tw_pre (tw_good k1980) (l := [_, _, _, _]) (List.forall_mem_cons.mpr ⟨hlk, List.forall_mem_cons.mpr ⟨k1979, List.forall_mem_cons.mpr ⟨ks56, List.forall_mem_cons.mpr ⟨k15, fun _ h => absurd h List.not_mem_nil⟩⟩⟩⟩)) rfl rfl rfl (by decide +kernel) (E.rm hlev (by decide))) (wd_preV w E.C [.int x0] rcM_Cmd rfl) rfl rfl hsz rfl (lv_room hr) hd ⟨Nat.zero_le _, Nat.zero_le _⟩) kk
