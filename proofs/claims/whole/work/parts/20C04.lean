theorem d_Itg_numberOfLeadingZeros_0 : decode prog_28_method_47_code 0 = .ok (.iload_n 0, 1) := by decide +kernel
theorem d_Itg_numberOfLeadingZeros_1 : decode prog_28_method_47_code 1 = .ok (.ifCond .gt 14, 3) := by decide +kernel
theorem d_Itg_numberOfLeadingZeros_4 : decode prog_28_method_47_code 4 = .ok (.iload_n 0, 1) := by decide +kernel
theorem d_Itg_numberOfLeadingZeros_5 : decode prog_28_method_47_code 5 = .ok (.ifCond .ne 8, 3) := by decide +kernel
theorem d_Itg_numberOfLeadingZeros_8 : decode prog_28_method_47_code 8 = .ok (.bipush 32, 2) := by decide +kernel
theorem d_Itg_numberOfLeadingZeros_10 : decode prog_28_method_47_code 10 = .ok (.goto 4, 3) := by decide +kernel
theorem d_Itg_numberOfLeadingZeros_13 : decode prog_28_method_47_code 13 = .ok (.iconst 0, 1) := by decide +kernel
theorem d_Itg_numberOfLeadingZeros_14 : decode prog_28_method_47_code 14 = .ok (.ireturn, 1) := by decide +kernel
theorem d_Itg_numberOfLeadingZeros_15 : decode prog_28_method_47_code 15 = .ok (.bipush 31, 2) := by decide +kernel
theorem d_Itg_numberOfLeadingZeros_17 : decode prog_28_method_47_code 17 = .ok (.istore_n 1, 1) := by decide +kernel
theorem d_Itg_numberOfLeadingZeros_18 : decode prog_28_method_47_code 18 = .ok (.iload_n 0, 1) := by decide +kernel
theorem d_Itg_numberOfLeadingZeros_19 : decode prog_28_method_47_code 19 = .ok (.ldc_w 264, 3) := by decide +kernel
theorem d_Itg_numberOfLeadingZeros_22 : decode prog_28_method_47_code 22 = .ok (.if_icmp .lt 11, 3) := by decide +kernel
theorem d_Itg_numberOfLeadingZeros_25 : decode prog_28_method_47_code 25 = .ok (.iinc 1 (-16), 3) := by decide +kernel
theorem d_Itg_numberOfLeadingZeros_28 : decode prog_28_method_47_code 28 = .ok (.iload_n 0, 1) := by decide +kernel
theorem d_Itg_numberOfLeadingZeros_29 : decode prog_28_method_47_code 29 = .ok (.bipush 16, 2) := by decide +kernel
theorem d_Itg_numberOfLeadingZeros_31 : decode prog_28_method_47_code 31 = .ok (.iushr, 1) := by decide +kernel
theorem d_Itg_numberOfLeadingZeros_32 : decode prog_28_method_47_code 32 = .ok (.istore_n 0, 1) := by decide +kernel
theorem d_Itg_numberOfLeadingZeros_33 : decode prog_28_method_47_code 33 = .ok (.iload_n 0, 1) := by decide +kernel
theorem d_Itg_numberOfLeadingZeros_34 : decode prog_28_method_47_code 34 = .ok (.sipush 256, 3) := by decide +kernel
theorem d_Itg_numberOfLeadingZeros_37 : decode prog_28_method_47_code 37 = .ok (.if_icmp .lt 11, 3) := by decide +kernel
theorem d_Itg_numberOfLeadingZeros_40 : decode prog_28_method_47_code 40 = .ok (.iinc 1 (-8), 3) := by decide +kernel
theorem d_Itg_numberOfLeadingZeros_43 : decode prog_28_method_47_code 43 = .ok (.iload_n 0, 1) := by decide +kernel
theorem d_Itg_numberOfLeadingZeros_44 : decode prog_28_method_47_code 44 = .ok (.bipush 8, 2) := by decide +kernel
theorem d_Itg_numberOfLeadingZeros_46 : decode prog_28_method_47_code 46 = .ok (.iushr, 1) := by decide +kernel
theorem d_Itg_numberOfLeadingZeros_47 : decode prog_28_method_47_code 47 = .ok (.istore_n 0, 1) := by decide +kernel
theorem d_Itg_numberOfLeadingZeros_48 : decode prog_28_method_47_code 48 = .ok (.iload_n 0, 1) := by decide +kernel
theorem d_Itg_numberOfLeadingZeros_49 : decode prog_28_method_47_code 49 = .ok (.bipush 16, 2) := by decide +kernel
theorem d_Itg_numberOfLeadingZeros_51 : decode prog_28_method_47_code 51 = .ok (.if_icmp .lt 10, 3) := by decide +kernel
theorem d_Itg_numberOfLeadingZeros_54 : decode prog_28_method_47_code 54 = .ok (.iinc 1 (-4), 3) := by decide +kernel
theorem d_Itg_numberOfLeadingZeros_57 : decode prog_28_method_47_code 57 = .ok (.iload_n 0, 1) := by decide +kernel
theorem d_Itg_numberOfLeadingZeros_58 : decode prog_28_method_47_code 58 = .ok (.iconst 4, 1) := by decide +kernel
theorem d_Itg_numberOfLeadingZeros_59 : decode prog_28_method_47_code 59 = .ok (.iushr, 1) := by decide +kernel
theorem d_Itg_numberOfLeadingZeros_60 : decode prog_28_method_47_code 60 = .ok (.istore_n 0, 1) := by decide +kernel
theorem d_Itg_numberOfLeadingZeros_61 : decode prog_28_method_47_code 61 = .ok (.iload_n 0, 1) := by decide +kernel
theorem d_Itg_numberOfLeadingZeros_62 : decode prog_28_method_47_code 62 = .ok (.iconst 4, 1) := by decide +kernel
theorem d_Itg_numberOfLeadingZeros_63 : decode prog_28_method_47_code 63 = .ok (.if_icmp .lt 10, 3) := by decide +kernel
theorem d_Itg_numberOfLeadingZeros_66 : decode prog_28_method_47_code 66 = .ok (.iinc 1 (-2), 3) := by decide +kernel
theorem d_Itg_numberOfLeadingZeros_69 : decode prog_28_method_47_code 69 = .ok (.iload_n 0, 1) := by decide +kernel
theorem d_Itg_numberOfLeadingZeros_70 : decode prog_28_method_47_code 70 = .ok (.iconst 2, 1) := by decide +kernel
theorem d_Itg_numberOfLeadingZeros_71 : decode prog_28_method_47_code 71 = .ok (.iushr, 1) := by decide +kernel
theorem d_Itg_numberOfLeadingZeros_72 : decode prog_28_method_47_code 72 = .ok (.istore_n 0, 1) := by decide +kernel
theorem d_Itg_numberOfLeadingZeros_73 : decode prog_28_method_47_code 73 = .ok (.iload_n 1, 1) := by decide +kernel
theorem d_Itg_numberOfLeadingZeros_74 : decode prog_28_method_47_code 74 = .ok (.iload_n 0, 1) := by decide +kernel
theorem d_Itg_numberOfLeadingZeros_75 : decode prog_28_method_47_code 75 = .ok (.iconst 1, 1) := by decide +kernel
theorem d_Itg_numberOfLeadingZeros_76 : decode prog_28_method_47_code 76 = .ok (.iushr, 1) := by decide +kernel
theorem d_Itg_numberOfLeadingZeros_77 : decode prog_28_method_47_code 77 = .ok (.isub, 1) := by decide +kernel
theorem d_Itg_numberOfLeadingZeros_78 : decode prog_28_method_47_code 78 = .ok (.ireturn, 1) := by decide +kernel
def F_Itg_numberOfLeadingZeros_73  (v0 : Int32) (v1 : Int32) : Option (Int32) := some (v1 - (ushr v0 1))
set_option maxRecDepth 10000 in
set_option maxHeartbeats 4000000 in
theorem bt_Itg_numberOfLeadingZeros_73 {p : Program} {l : Launch} {e : Env} {R : Room} {s : State} {m : MethodId} {args : Array Value} {below : List Frame} {meth : Method} {c : Code} {D : va_G} {τ : ClassId × ClassId × ClassId} {B : Nat} {A : Nat → Prop} {ad : Nat → Nat} {σ0 : Sg} (E : Cx p R s m args meth c prog_28_method_47_code 2 "java/lang/Integer" 0 D τ B A) (hret : meth.sig.returnType = (some .int)) (o : Int32) (v0 : Int32) (v1 : Int32) (h : F_Itg_numberOfLeadingZeros_73 v0 v1 = some o) {H : Heap} {locs : List Loc} {ls : Array Slot} (w : Wd s D A (wdC τ σ0 ad) H locs) (hl : lv_has ls 2 [(0, .int v0), (1, .int v1)]) : W p l e R s m args below meth c H locs 0 0 (QI below args s A D τ (wdC τ σ0 ad) o) (F0 m 73 ls []) := by
  refine lv_iload_n E.x E.b d_Itg_numberOfLeadingZeros_73 rfl (lv_at hl 1 rfl) ?_
  refine lv_iload_n E.x E.b d_Itg_numberOfLeadingZeros_74 rfl (lv_at hl 0 rfl) ?_
  refine lv_iconst (v := 1) E.x E.b d_Itg_numberOfLeadingZeros_75 (by decide) ?_
  refine lv_iushr (v := ushr v0 1) E.x E.b d_Itg_numberOfLeadingZeros_76 rfl ?_
  refine lv_isub E.x E.b d_Itg_numberOfLeadingZeros_77 ?_
  obtain rfl := Option.some.inj h
  exact rt_i E w hret d_Itg_numberOfLeadingZeros_78
def F_Itg_numberOfLeadingZeros_61  (v0 : Int32) (v1 : Int32) : Option (Int32) := if v0 < 4 then (F_Itg_numberOfLeadingZeros_73 v0 v1) else (lt (v1 + (-2)) (fun y8 => lt (ushr v0 2) (fun y9 => F_Itg_numberOfLeadingZeros_73 y9 y8)))
set_option maxRecDepth 10000 in
set_option maxHeartbeats 4000000 in
theorem bt_Itg_numberOfLeadingZeros_61 {p : Program} {l : Launch} {e : Env} {R : Room} {s : State} {m : MethodId} {args : Array Value} {below : List Frame} {meth : Method} {c : Code} {D : va_G} {τ : ClassId × ClassId × ClassId} {B : Nat} {A : Nat → Prop} {ad : Nat → Nat} {σ0 : Sg} (E : Cx p R s m args meth c prog_28_method_47_code 2 "java/lang/Integer" 0 D τ B A) (hret : meth.sig.returnType = (some .int)) (o : Int32) (v0 : Int32) (v1 : Int32) (h : F_Itg_numberOfLeadingZeros_61 v0 v1 = some o) {H : Heap} {locs : List Loc} {ls : Array Slot} (w : Wd s D A (wdC τ σ0 ad) H locs) (hl : lv_has ls 2 [(0, .int v0), (1, .int v1)]) : W p l e R s m args below meth c H locs 0 0 (QI below args s A D τ (wdC τ σ0 ad) o) (F0 m 61 ls []) := by
  refine lv_iload_n E.x E.b d_Itg_numberOfLeadingZeros_61 rfl (lv_at hl 0 rfl) ?_
  refine lv_iconst (v := 4) E.x E.b d_Itg_numberOfLeadingZeros_62 (by decide) ?_
  refine lv_icmp_lt (tgt := 73) E.x E.b d_Itg_numberOfLeadingZeros_63 (by decide) (fun c => ?_) (fun c => ?_)
  ·
    replace h := ifT c h
    exact bt_Itg_numberOfLeadingZeros_73 E hret o v0 v1 h w (lv_sub hl [0, 1] rfl)
  ·
    replace h := ifF c h
    obtain ⟨y8, e_y8, h⟩ := lt_some h
    refine lv_iinc (v := y8) (lv' := [(1, .int y8), (0, .int v0)]) E.x E.b d_Itg_numberOfLeadingZeros_66 hl (k := 1) rfl (e_y8) (by decide) rfl (fun ls hl => ?_)
    refine lv_iload_n E.x E.b d_Itg_numberOfLeadingZeros_69 rfl (lv_at hl 1 rfl) ?_
    refine lv_iconst (v := 2) E.x E.b d_Itg_numberOfLeadingZeros_70 (by decide) ?_
    refine lv_iushr (v := ushr v0 2) E.x E.b d_Itg_numberOfLeadingZeros_71 rfl ?_
    obtain ⟨y9, e_y9, h⟩ := lt_some h
    refine wi_e (v := y9) e_y9 ?_
    refine lv_istore_n (lv' := [(0, .int y9), (1, .int y8)]) E.x E.b d_Itg_numberOfLeadingZeros_72 rfl hl (by decide) rfl (fun ls hl => ?_)
    exact bt_Itg_numberOfLeadingZeros_73 E hret o y9 y8 h w (lv_sub hl [0, 1] rfl)
def F_Itg_numberOfLeadingZeros_48  (v0 : Int32) (v1 : Int32) : Option (Int32) := if v0 < 16 then (F_Itg_numberOfLeadingZeros_61 v0 v1) else (lt (v1 + (-4)) (fun y10 => lt (ushr v0 4) (fun y11 => F_Itg_numberOfLeadingZeros_61 y11 y10)))
set_option maxRecDepth 10000 in
set_option maxHeartbeats 4000000 in
theorem bt_Itg_numberOfLeadingZeros_48 {p : Program} {l : Launch} {e : Env} {R : Room} {s : State} {m : MethodId} {args : Array Value} {below : List Frame} {meth : Method} {c : Code} {D : va_G} {τ : ClassId × ClassId × ClassId} {B : Nat} {A : Nat → Prop} {ad : Nat → Nat} {σ0 : Sg} (E : Cx p R s m args meth c prog_28_method_47_code 2 "java/lang/Integer" 0 D τ B A) (hret : meth.sig.returnType = (some .int)) (o : Int32) (v0 : Int32) (v1 : Int32) (h : F_Itg_numberOfLeadingZeros_48 v0 v1 = some o) {H : Heap} {locs : List Loc} {ls : Array Slot} (w : Wd s D A (wdC τ σ0 ad) H locs) (hl : lv_has ls 2 [(0, .int v0), (1, .int v1)]) : W p l e R s m args below meth c H locs 0 0 (QI below args s A D τ (wdC τ σ0 ad) o) (F0 m 48 ls []) := by
  refine lv_iload_n E.x E.b d_Itg_numberOfLeadingZeros_48 rfl (lv_at hl 0 rfl) ?_
  refine lv_bipush (v := 16) E.x E.b d_Itg_numberOfLeadingZeros_49 (by decide) ?_
  refine lv_icmp_lt (tgt := 61) E.x E.b d_Itg_numberOfLeadingZeros_51 (by decide) (fun c => ?_) (fun c => ?_)
  ·
    replace h := ifT c h
    exact bt_Itg_numberOfLeadingZeros_61 E hret o v0 v1 h w (lv_sub hl [0, 1] rfl)
  ·
    replace h := ifF c h
    obtain ⟨y10, e_y10, h⟩ := lt_some h
    refine lv_iinc (v := y10) (lv' := [(1, .int y10), (0, .int v0)]) E.x E.b d_Itg_numberOfLeadingZeros_54 hl (k := 1) rfl (e_y10) (by decide) rfl (fun ls hl => ?_)
    refine lv_iload_n E.x E.b d_Itg_numberOfLeadingZeros_57 rfl (lv_at hl 1 rfl) ?_
    refine lv_iconst (v := 4) E.x E.b d_Itg_numberOfLeadingZeros_58 (by decide) ?_
    refine lv_iushr (v := ushr v0 4) E.x E.b d_Itg_numberOfLeadingZeros_59 rfl ?_
    obtain ⟨y11, e_y11, h⟩ := lt_some h
    refine wi_e (v := y11) e_y11 ?_
    refine lv_istore_n (lv' := [(0, .int y11), (1, .int y10)]) E.x E.b d_Itg_numberOfLeadingZeros_60 rfl hl (by decide) rfl (fun ls hl => ?_)
    exact bt_Itg_numberOfLeadingZeros_61 E hret o y11 y10 h w (lv_sub hl [0, 1] rfl)
def F_Itg_numberOfLeadingZeros_33  (v0 : Int32) (v1 : Int32) : Option (Int32) := if v0 < 256 then (F_Itg_numberOfLeadingZeros_48 v0 v1) else (lt (v1 + (-8)) (fun y12 => lt (ushr v0 8) (fun y13 => F_Itg_numberOfLeadingZeros_48 y13 y12)))
set_option maxRecDepth 10000 in
set_option maxHeartbeats 4000000 in
theorem bt_Itg_numberOfLeadingZeros_33 {p : Program} {l : Launch} {e : Env} {R : Room} {s : State} {m : MethodId} {args : Array Value} {below : List Frame} {meth : Method} {c : Code} {D : va_G} {τ : ClassId × ClassId × ClassId} {B : Nat} {A : Nat → Prop} {ad : Nat → Nat} {σ0 : Sg} (E : Cx p R s m args meth c prog_28_method_47_code 2 "java/lang/Integer" 0 D τ B A) (hret : meth.sig.returnType = (some .int)) (o : Int32) (v0 : Int32) (v1 : Int32) (h : F_Itg_numberOfLeadingZeros_33 v0 v1 = some o) {H : Heap} {locs : List Loc} {ls : Array Slot} (w : Wd s D A (wdC τ σ0 ad) H locs) (hl : lv_has ls 2 [(0, .int v0), (1, .int v1)]) : W p l e R s m args below meth c H locs 0 0 (QI below args s A D τ (wdC τ σ0 ad) o) (F0 m 33 ls []) := by
  refine lv_iload_n E.x E.b d_Itg_numberOfLeadingZeros_33 rfl (lv_at hl 0 rfl) ?_
  refine lv_sipush (v := 256) E.x E.b d_Itg_numberOfLeadingZeros_34 (by decide) ?_
  refine lv_icmp_lt (tgt := 48) E.x E.b d_Itg_numberOfLeadingZeros_37 (by decide) (fun c => ?_) (fun c => ?_)
  ·
    replace h := ifT c h
    exact bt_Itg_numberOfLeadingZeros_48 E hret o v0 v1 h w (lv_sub hl [0, 1] rfl)
  ·
    replace h := ifF c h
    obtain ⟨y12, e_y12, h⟩ := lt_some h
    refine lv_iinc (v := y12) (lv' := [(1, .int y12), (0, .int v0)]) E.x E.b d_Itg_numberOfLeadingZeros_40 hl (k := 1) rfl (e_y12) (by decide) rfl (fun ls hl => ?_)
    refine lv_iload_n E.x E.b d_Itg_numberOfLeadingZeros_43 rfl (lv_at hl 1 rfl) ?_
    refine lv_bipush (v := 8) E.x E.b d_Itg_numberOfLeadingZeros_44 (by decide) ?_
    refine lv_iushr (v := ushr v0 8) E.x E.b d_Itg_numberOfLeadingZeros_46 rfl ?_
    obtain ⟨y13, e_y13, h⟩ := lt_some h
    refine wi_e (v := y13) e_y13 ?_
    refine lv_istore_n (lv' := [(0, .int y13), (1, .int y12)]) E.x E.b d_Itg_numberOfLeadingZeros_47 rfl hl (by decide) rfl (fun ls hl => ?_)
    exact bt_Itg_numberOfLeadingZeros_48 E hret o y13 y12 h w (lv_sub hl [0, 1] rfl)
def F_Itg_numberOfLeadingZeros_14  (s0 : Int32) : Option (Int32) := some s0
set_option maxRecDepth 10000 in
set_option maxHeartbeats 4000000 in
theorem bt_Itg_numberOfLeadingZeros_14 {p : Program} {l : Launch} {e : Env} {R : Room} {s : State} {m : MethodId} {args : Array Value} {below : List Frame} {meth : Method} {c : Code} {D : va_G} {τ : ClassId × ClassId × ClassId} {B : Nat} {A : Nat → Prop} {ad : Nat → Nat} {σ0 : Sg} (E : Cx p R s m args meth c prog_28_method_47_code 2 "java/lang/Integer" 0 D τ B A) (hret : meth.sig.returnType = (some .int)) (o : Int32) (s0 : Int32) (h : F_Itg_numberOfLeadingZeros_14 s0 = some o) {H : Heap} {locs : List Loc} {ls : Array Slot} (w : Wd s D A (wdC τ σ0 ad) H locs) (hl : lv_has ls 2 []) : W p l e R s m args below meth c H locs 0 0 (QI below args s A D τ (wdC τ σ0 ad) o) (F0 m 14 ls [.int s0]) := by
  obtain rfl := Option.some.inj h
  exact rt_i E w hret d_Itg_numberOfLeadingZeros_14
def F_Itg_numberOfLeadingZeros  (x0 : Int32) : Option (Int32) := if 0 < x0 then (if x0 < 65536 then (F_Itg_numberOfLeadingZeros_33 x0 31) else (lt (ushr x0 16) (fun y14 => F_Itg_numberOfLeadingZeros_33 y14 15))) else (if x0 = 0 then (F_Itg_numberOfLeadingZeros_14 32) else (F_Itg_numberOfLeadingZeros_14 0))
set_option maxRecDepth 10000 in
set_option maxHeartbeats 4000000 in
theorem c_Itg_numberOfLeadingZeros (l : Launch) (D : va_G) (τ : ClassId × ClassId × ClassId) (B : Nat) (σ0 : Sg) (ad : Nat → Nat) (x0 : Int32) (o : Int32) (h : F_Itg_numberOfLeadingZeros x0 = some o) : MI l y_Itg_numberOfLeadingZeros (Cond.code y_Itg_numberOfLeadingZeros prog_28_method_47_code 2 (some .int)) 0 D τ B [.int x0] (wdC τ σ0 ad) (wdC τ σ0 ad) o := by
  refine en_i (by decide) (Nat.le_of_ble_eq_true rfl) ?_
  intro p e R s m args below meth c H locs ls A E hret w hl
  have E : Cx p R s m args meth c prog_28_method_47_code 2 "java/lang/Integer" 0 D τ B A := E
  have hl : lv_has ls 2 [(0, .int x0)] := hl
  refine lv_iload_n E.x E.b d_Itg_numberOfLeadingZeros_0 rfl (lv_at hl 0 rfl) ?_
  refine lv_if_gt (tgt := 15) E.x E.b d_Itg_numberOfLeadingZeros_1 (by decide) (fun c => ?_) (fun c => ?_)
  ·
    replace h := ifT c h
    refine lv_bipush (v := 31) E.x E.b d_Itg_numberOfLeadingZeros_15 (by decide) ?_
    refine lv_istore_n (lv' := [(1, .int 31), (0, .int x0)]) E.x E.b d_Itg_numberOfLeadingZeros_17 rfl hl (by decide) rfl (fun ls hl => ?_)
    refine lv_iload_n E.x E.b d_Itg_numberOfLeadingZeros_18 rfl (lv_at hl 1 rfl) ?_
    refine lv_ldcw (v := 65536) E.x E.b E.o (E.w _ k1234) d_Itg_numberOfLeadingZeros_19 ?_
    refine lv_icmp_lt (tgt := 33) E.x E.b d_Itg_numberOfLeadingZeros_22 (by decide) (fun c => ?_) (fun c => ?_)
    ·
      replace h := ifT c h
      exact bt_Itg_numberOfLeadingZeros_33 E hret o x0 31 h w (lv_sub hl [1, 0] rfl)
    ·
      replace h := ifF c h
      refine lv_iinc (v := 15) (lv' := [(1, .int 15), (0, .int x0)]) E.x E.b d_Itg_numberOfLeadingZeros_25 hl (k := 0) rfl (by decide) (by decide) rfl (fun ls hl => ?_)
      refine lv_iload_n E.x E.b d_Itg_numberOfLeadingZeros_28 rfl (lv_at hl 1 rfl) ?_
      refine lv_bipush (v := 16) E.x E.b d_Itg_numberOfLeadingZeros_29 (by decide) ?_
      refine lv_iushr (v := ushr x0 16) E.x E.b d_Itg_numberOfLeadingZeros_31 rfl ?_
      obtain ⟨y14, e_y14, h⟩ := lt_some h
      refine wi_e (v := y14) e_y14 ?_
      refine lv_istore_n (lv' := [(0, .int y14), (1, .int 15)]) E.x E.b d_Itg_numberOfLeadingZeros_32 rfl hl (by decide) rfl (fun ls hl => ?_)
      exact bt_Itg_numberOfLeadingZeros_33 E hret o y14 15 h w (lv_sub hl [0, 1] rfl)
  ·
    replace h := ifF c h
    refine lv_iload_n E.x E.b d_Itg_numberOfLeadingZeros_4 rfl (lv_at hl 0 rfl) ?_
    refine lv_if_ne (tgt := 13) E.x E.b d_Itg_numberOfLeadingZeros_5 (by decide) (fun c => ?_) (fun c => ?_)
    ·
      replace h := ifF c h
      refine lv_iconst (v := 0) E.x E.b d_Itg_numberOfLeadingZeros_13 (by decide) ?_
      exact bt_Itg_numberOfLeadingZeros_14 E hret o 0 h w (lv_sub hl [] rfl)
    ·
      replace h := ifT c h
      refine lv_bipush (v := 32) E.x E.b d_Itg_numberOfLeadingZeros_8 (by decide) ?_
      refine lv_goto (tgt := 14) E.x E.b d_Itg_numberOfLeadingZeros_10 (by decide) ?_
      exact bt_Itg_numberOfLeadingZeros_14 E hret o 32 h w (lv_sub hl [] rfl)
theorem clS_Itg_numberOfLeadingZeros {p : Program} {l : Launch} {e : Env} {R : Room} {s : State} {m : MethodId} {args : Array Value} {below : List Frame} {meth : Method} {c : Code} {H : Heap} {locs : List Loc} {Q : State → Prop} {cc : ByteArray} {nL pc lev : Nat} {own : String} {D : va_G} {τ : ClassId × ClassId × ClassId} {B : Nat} {A : Nat → Prop} {σ : Sg} {ad : Nat → Nat} {ls : Array Slot} {rest : List Value} (E : Cx p R s m args meth c cc nL own lev D τ B A) (w : Wd s D A (wdC τ σ ad) H locs) {x0 : Int32} {o : Int32} (h : F_Itg_numberOfLeadingZeros x0 = some o) {index : Nat} (hlk : Cond.methodLink own index y_Itg_numberOfLeadingZeros ∈ tw) (hlev : 0 < lev) (hsz : ls.size = nL) (hr : (rest.map fun v => v.category).sum ≤ 8) (hd : decode cc pc = .ok (.invokestatic index, 3)) (kk : ∀ (H1 : Heap) (locs1 : List Loc), Wd s D A (wdC τ σ ad) H1 locs1 → W p l e R s m args below meth c H1 locs1 0 0 Q (F0 m (pc + 3) ls (.int o :: rest))) : W p l e R s m args below meth c H locs 0 0 Q (F0 m pc ls (.int x0 :: rest)) :=
  cr_i w E.C (va_runS (As := [.int x0]) (rest := rest) E.fix (c_Itg_numberOfLeadingZeros l D τ B σ ad x0 o h H.size) (va_cwS 1 E.w (tw_pre (tw_good k1233) (l := [_, _, _]) (List.forall_mem_cons.mpr ⟨hlk, List.forall_mem_cons.mpr ⟨k1232, List.forall_mem_cons.mpr ⟨k34, fun _ h => absurd h List.not_mem_nil⟩⟩⟩)) rfl rfl rfl (by decide +kernel) (E.rm hlev (by decide))) (wd_pre w E.C [.int x0]) rfl rfl hsz rfl (lv_room hr) hd ⟨Nat.zero_le _, Nat.zero_le _⟩) kk

theorem d_Lng_numberOfLeadingZeros_0 : decode prog_29_method_48_code 0 = .ok (.lload_n 0, 1) := by decide +kernel
theorem d_Lng_numberOfLeadingZeros_1 : decode prog_29_method_48_code 1 = .ok (.bipush 32, 2) := by decide +kernel
theorem d_Lng_numberOfLeadingZeros_3 : decode prog_29_method_48_code 3 = .ok (.lushr, 1) := by decide +kernel
theorem d_Lng_numberOfLeadingZeros_4 : decode prog_29_method_48_code 4 = .ok (.l2i, 1) := by decide +kernel
theorem d_Lng_numberOfLeadingZeros_5 : decode prog_29_method_48_code 5 = .ok (.istore_n 2, 1) := by decide +kernel
theorem d_Lng_numberOfLeadingZeros_6 : decode prog_29_method_48_code 6 = .ok (.iload_n 2, 1) := by decide +kernel
theorem d_Lng_numberOfLeadingZeros_7 : decode prog_29_method_48_code 7 = .ok (.ifCond .ne 14, 3) := by decide +kernel
theorem d_Lng_numberOfLeadingZeros_10 : decode prog_29_method_48_code 10 = .ok (.bipush 32, 2) := by decide +kernel
theorem d_Lng_numberOfLeadingZeros_12 : decode prog_29_method_48_code 12 = .ok (.lload_n 0, 1) := by decide +kernel
theorem d_Lng_numberOfLeadingZeros_13 : decode prog_29_method_48_code 13 = .ok (.l2i, 1) := by decide +kernel
theorem d_Lng_numberOfLeadingZeros_14 : decode prog_29_method_48_code 14 = .ok (.invokestatic 308, 3) := by decide +kernel
theorem d_Lng_numberOfLeadingZeros_17 : decode prog_29_method_48_code 17 = .ok (.iadd, 1) := by decide +kernel
theorem d_Lng_numberOfLeadingZeros_18 : decode prog_29_method_48_code 18 = .ok (.goto 7, 3) := by decide +kernel
theorem d_Lng_numberOfLeadingZeros_21 : decode prog_29_method_48_code 21 = .ok (.iload_n 2, 1) := by decide +kernel
theorem d_Lng_numberOfLeadingZeros_22 : decode prog_29_method_48_code 22 = .ok (.invokestatic 308, 3) := by decide +kernel
theorem d_Lng_numberOfLeadingZeros_25 : decode prog_29_method_48_code 25 = .ok (.ireturn, 1) := by decide +kernel
def F_Lng_numberOfLeadingZeros_25  (s0 : Int32) : Option (Int32) := some s0
set_option maxRecDepth 10000 in
set_option maxHeartbeats 4000000 in
theorem bt_Lng_numberOfLeadingZeros_25 {p : Program} {l : Launch} {e : Env} {R : Room} {s : State} {m : MethodId} {args : Array Value} {below : List Frame} {meth : Method} {c : Code} {D : va_G} {τ : ClassId × ClassId × ClassId} {B : Nat} {A : Nat → Prop} {ad : Nat → Nat} {σ0 : Sg} (E : Cx p R s m args meth c prog_29_method_48_code 3 "java/lang/Long" 1 D τ B A) (hret : meth.sig.returnType = (some .int)) (o : Int32) (s0 : Int32) (h : F_Lng_numberOfLeadingZeros_25 s0 = some o) {H : Heap} {locs : List Loc} {ls : Array Slot} (w : Wd s D A (wdC τ σ0 ad) H locs) (hl : lv_has ls 3 []) : W p l e R s m args below meth c H locs 0 0 (QI below args s A D τ (wdC τ σ0 ad) o) (F0 m 25 ls [.int s0]) := by
  obtain rfl := Option.some.inj h
  exact rt_i E w hret d_Lng_numberOfLeadingZeros_25
def F_Lng_numberOfLeadingZeros  (x0 : Int64) : Option (Int32) := lt ((lushr x0 32).toInt32) (fun y4 => if y4 = 0 then (bd (F_Itg_numberOfLeadingZeros x0.toInt32) (fun o6 => F_Lng_numberOfLeadingZeros_25 (32 + o6))) else (bd (F_Itg_numberOfLeadingZeros y4) (fun o5 => F_Lng_numberOfLeadingZeros_25 o5)))
set_option maxRecDepth 10000 in
set_option maxHeartbeats 4000000 in
theorem c_Lng_numberOfLeadingZeros (l : Launch) (D : va_G) (τ : ClassId × ClassId × ClassId) (B : Nat) (σ0 : Sg) (ad : Nat → Nat) (x0 : Int64) (o : Int32) (h : F_Lng_numberOfLeadingZeros x0 = some o) : MI l y_Lng_numberOfLeadingZeros (Cond.code y_Lng_numberOfLeadingZeros prog_29_method_48_code 3 (some .int)) 1 D τ B [.long x0] (wdC τ σ0 ad) (wdC τ σ0 ad) o := by
  refine en_i (by decide) (Nat.le_of_ble_eq_true rfl) ?_
  intro p e R s m args below meth c H locs ls A E hret w hl
  have E : Cx p R s m args meth c prog_29_method_48_code 3 "java/lang/Long" 1 D τ B A := E
  have hl : lv_has ls 3 [(0, .long x0)] := hl
  refine lv_lload_n E.x E.b d_Lng_numberOfLeadingZeros_0 rfl (lv_at hl 0 rfl) ?_
  refine lv_bipush (v := 32) E.x E.b d_Lng_numberOfLeadingZeros_1 (by decide) ?_
  refine lv_lushr (v := lushr x0 32) E.x E.b d_Lng_numberOfLeadingZeros_3 rfl ?_
  refine lv_l2i (v := (lushr x0 32).toInt32) E.x E.b d_Lng_numberOfLeadingZeros_4 rfl ?_
  obtain ⟨y4, e_y4, h⟩ := lt_some h
  refine wi_e (v := y4) e_y4 ?_
  refine lv_istore_n (lv' := [(2, .int y4), (0, .long x0)]) E.x E.b d_Lng_numberOfLeadingZeros_5 rfl hl (by decide) rfl (fun ls hl => ?_)
  refine lv_iload_n E.x E.b d_Lng_numberOfLeadingZeros_6 rfl (lv_at hl 0 rfl) ?_
  refine lv_if_ne (tgt := 21) E.x E.b d_Lng_numberOfLeadingZeros_7 (by decide) (fun c => ?_) (fun c => ?_)
  ·
    replace h := ifF c h
    refine lv_iload_n E.x E.b d_Lng_numberOfLeadingZeros_21 rfl (lv_at hl 0 rfl) ?_
    obtain ⟨o5, h_o5, h⟩ := bd_some h
    refine clS_Itg_numberOfLeadingZeros E w (x0 := y4) h_o5 k1231 (by decide) hl.1 (Nat.le_of_ble_eq_true rfl) d_Lng_numberOfLeadingZeros_22 (fun H locs w => ?_)
    exact bt_Lng_numberOfLeadingZeros_25 E hret o o5 h w (lv_sub hl [] rfl)
  ·
    replace h := ifT c h
    refine lv_bipush (v := 32) E.x E.b d_Lng_numberOfLeadingZeros_10 (by decide) ?_
    refine lv_lload_n E.x E.b d_Lng_numberOfLeadingZeros_12 rfl (lv_at hl 1 rfl) ?_
    refine lv_l2i (v := x0.toInt32) E.x E.b d_Lng_numberOfLeadingZeros_13 rfl ?_
    obtain ⟨o6, h_o6, h⟩ := bd_some h
    refine clS_Itg_numberOfLeadingZeros E w (x0 := x0.toInt32) h_o6 k1231 (by decide) hl.1 (Nat.le_of_ble_eq_true rfl) d_Lng_numberOfLeadingZeros_14 (fun H locs w => ?_)
    refine lv_iadd E.x E.b d_Lng_numberOfLeadingZeros_17 ?_
    refine lv_goto (tgt := 25) E.x E.b d_Lng_numberOfLeadingZeros_18 (by decide) ?_
    exact bt_Lng_numberOfLeadingZeros_25 E hret o (32 + o6) h w (lv_sub hl [] rfl)
theorem clS_Lng_numberOfLeadingZeros {p : Program} {l : Launch} {e : Env} {R : Room} {s : State} {m : MethodId} {args : Array Value} {below : List Frame} {meth : Method} {c : Code} {H : Heap} {locs : List Loc} {Q : State → Prop} {cc : ByteArray} {nL pc lev : Nat} {own : String} {D : va_G} {τ : ClassId × ClassId × ClassId} {B : Nat} {A : Nat → Prop} {σ : Sg} {ad : Nat → Nat} {ls : Array Slot} {rest : List Value} (E : Cx p R s m args meth c cc nL own lev D τ B A) (w : Wd s D A (wdC τ σ ad) H locs) {x0 : Int64} {o : Int32} (h : F_Lng_numberOfLeadingZeros x0 = some o) {index : Nat} (hlk : Cond.methodLink own index y_Lng_numberOfLeadingZeros ∈ tw) (hlev : 1 < lev) (hsz : ls.size = nL) (hr : (rest.map fun v => v.category).sum ≤ 8) (hd : decode cc pc = .ok (.invokestatic index, 3)) (kk : ∀ (H1 : Heap) (locs1 : List Loc), Wd s D A (wdC τ σ ad) H1 locs1 → W p l e R s m args below meth c H1 locs1 0 0 Q (F0 m (pc + 3) ls (.int o :: rest))) : W p l e R s m args below meth c H locs 0 0 Q (F0 m pc ls (.long x0 :: rest)) :=
  cr_i w E.C (va_runS (As := [.long x0]) (rest := rest) E.fix (c_Lng_numberOfLeadingZeros l D τ B σ ad x0 o h H.size) (va_cwS 1 E.w (tw_pre (tw_good k1230) (l := [_, _, _]) (List.forall_mem_cons.mpr ⟨hlk, List.forall_mem_cons.mpr ⟨k1229, List.forall_mem_cons.mpr ⟨k39, fun _ h => absurd h List.not_mem_nil⟩⟩⟩)) rfl rfl rfl (by decide +kernel) (E.rm hlev (by decide))) (wd_pre w E.C [.long x0]) rfl rfl hsz rfl (lv_room hr) hd ⟨Nat.zero_le _, Nat.zero_le _⟩) kk

theorem d_Cov_setShares_0 : decode prog_4_method_10_code 0 = .ok (.lconst 0, 1) := by decide +kernel
theorem d_Cov_setShares_1 : decode prog_4_method_10_code 1 = .ok (.lstore_n 1, 1) := by decide +kernel
theorem d_Cov_setShares_2 : decode prog_4_method_10_code 2 = .ok (.iconst 0, 1) := by decide +kernel
theorem d_Cov_setShares_3 : decode prog_4_method_10_code 3 = .ok (.istore_n 3, 1) := by decide +kernel
theorem d_Cov_setShares_4 : decode prog_4_method_10_code 4 = .ok (.iload_n 3, 1) := by decide +kernel
theorem d_Cov_setShares_5 : decode prog_4_method_10_code 5 = .ok (.iconst 3, 1) := by decide +kernel
theorem d_Cov_setShares_6 : decode prog_4_method_10_code 6 = .ok (.if_icmp .ge 48, 3) := by decide +kernel
theorem d_Cov_setShares_9 : decode prog_4_method_10_code 9 = .ok (.aload_n 0, 1) := by decide +kernel
theorem d_Cov_setShares_10 : decode prog_4_method_10_code 10 = .ok (.getfield 31, 3) := by decide +kernel
theorem d_Cov_setShares_13 : decode prog_4_method_10_code 13 = .ok (.iload_n 3, 1) := by decide +kernel
theorem d_Cov_setShares_14 : decode prog_4_method_10_code 14 = .ok (.aload_n 0, 1) := by decide +kernel
theorem d_Cov_setShares_15 : decode prog_4_method_10_code 15 = .ok (.getfield 28, 3) := by decide +kernel
theorem d_Cov_setShares_18 : decode prog_4_method_10_code 18 = .ok (.iload_n 3, 1) := by decide +kernel
theorem d_Cov_setShares_19 : decode prog_4_method_10_code 19 = .ok (.laload, 1) := by decide +kernel
theorem d_Cov_setShares_20 : decode prog_4_method_10_code 20 = .ok (.aload_n 0, 1) := by decide +kernel
theorem d_Cov_setShares_21 : decode prog_4_method_10_code 21 = .ok (.getfield 34, 3) := by decide +kernel
theorem d_Cov_setShares_24 : decode prog_4_method_10_code 24 = .ok (.getfield 103, 3) := by decide +kernel
theorem d_Cov_setShares_27 : decode prog_4_method_10_code 27 = .ok (.aload_n 0, 1) := by decide +kernel
theorem d_Cov_setShares_28 : decode prog_4_method_10_code 28 = .ok (.getfield 9, 3) := by decide +kernel
theorem d_Cov_setShares_31 : decode prog_4_method_10_code 31 = .ok (.iload_n 3, 1) := by decide +kernel
theorem d_Cov_setShares_32 : decode prog_4_method_10_code 32 = .ok (.iaload, 1) := by decide +kernel
theorem d_Cov_setShares_33 : decode prog_4_method_10_code 33 = .ok (.iaload, 1) := by decide +kernel
theorem d_Cov_setShares_34 : decode prog_4_method_10_code 34 = .ok (.i2l, 1) := by decide +kernel
theorem d_Cov_setShares_35 : decode prog_4_method_10_code 35 = .ok (.lmul, 1) := by decide +kernel
theorem d_Cov_setShares_36 : decode prog_4_method_10_code 36 = .ok (.lastore, 1) := by decide +kernel
theorem d_Cov_setShares_37 : decode prog_4_method_10_code 37 = .ok (.lload_n 1, 1) := by decide +kernel
theorem d_Cov_setShares_38 : decode prog_4_method_10_code 38 = .ok (.aload_n 0, 1) := by decide +kernel
theorem d_Cov_setShares_39 : decode prog_4_method_10_code 39 = .ok (.getfield 31, 3) := by decide +kernel
theorem d_Cov_setShares_42 : decode prog_4_method_10_code 42 = .ok (.iload_n 3, 1) := by decide +kernel
theorem d_Cov_setShares_43 : decode prog_4_method_10_code 43 = .ok (.laload, 1) := by decide +kernel
theorem d_Cov_setShares_44 : decode prog_4_method_10_code 44 = .ok (.invokestatic 106, 3) := by decide +kernel
theorem d_Cov_setShares_47 : decode prog_4_method_10_code 47 = .ok (.lstore_n 1, 1) := by decide +kernel
theorem d_Cov_setShares_48 : decode prog_4_method_10_code 48 = .ok (.iinc 3 1, 3) := by decide +kernel
theorem d_Cov_setShares_51 : decode prog_4_method_10_code 51 = .ok (.goto (-47), 3) := by decide +kernel
theorem d_Cov_setShares_54 : decode prog_4_method_10_code 54 = .ok (.bipush 64, 2) := by decide +kernel
theorem d_Cov_setShares_56 : decode prog_4_method_10_code 56 = .ok (.lload_n 1, 1) := by decide +kernel
theorem d_Cov_setShares_57 : decode prog_4_method_10_code 57 = .ok (.invokestatic 109, 3) := by decide +kernel
theorem d_Cov_setShares_60 : decode prog_4_method_10_code 60 = .ok (.isub, 1) := by decide +kernel
theorem d_Cov_setShares_61 : decode prog_4_method_10_code 61 = .ok (.bipush 29, 2) := by decide +kernel
theorem d_Cov_setShares_63 : decode prog_4_method_10_code 63 = .ok (.isub, 1) := by decide +kernel
theorem d_Cov_setShares_64 : decode prog_4_method_10_code 64 = .ok (.iconst 0, 1) := by decide +kernel
theorem d_Cov_setShares_65 : decode prog_4_method_10_code 65 = .ok (.invokestatic 58, 3) := by decide +kernel
theorem d_Cov_setShares_68 : decode prog_4_method_10_code 68 = .ok (.istore_n 3, 1) := by decide +kernel
theorem d_Cov_setShares_69 : decode prog_4_method_10_code 69 = .ok (.aload_n 0, 1) := by decide +kernel
theorem d_Cov_setShares_70 : decode prog_4_method_10_code 70 = .ok (.lconst 0, 1) := by decide +kernel
theorem d_Cov_setShares_71 : decode prog_4_method_10_code 71 = .ok (.putfield 115, 3) := by decide +kernel
theorem d_Cov_setShares_74 : decode prog_4_method_10_code 74 = .ok (.iconst 0, 1) := by decide +kernel
theorem d_Cov_setShares_75 : decode prog_4_method_10_code 75 = .ok (.istore 4, 2) := by decide +kernel
theorem d_Cov_setShares_77 : decode prog_4_method_10_code 77 = .ok (.iload 4, 2) := by decide +kernel
theorem d_Cov_setShares_79 : decode prog_4_method_10_code 79 = .ok (.iconst 3, 1) := by decide +kernel
theorem d_Cov_setShares_80 : decode prog_4_method_10_code 80 = .ok (.if_icmp .ge 36, 3) := by decide +kernel
theorem d_Cov_setShares_83 : decode prog_4_method_10_code 83 = .ok (.aload_n 0, 1) := by decide +kernel
theorem d_Cov_setShares_84 : decode prog_4_method_10_code 84 = .ok (.getfield 31, 3) := by decide +kernel
theorem d_Cov_setShares_87 : decode prog_4_method_10_code 87 = .ok (.iload 4, 2) := by decide +kernel
theorem d_Cov_setShares_89 : decode prog_4_method_10_code 89 = .ok (.dup2, 1) := by decide +kernel
theorem d_Cov_setShares_90 : decode prog_4_method_10_code 90 = .ok (.laload, 1) := by decide +kernel
theorem d_Cov_setShares_91 : decode prog_4_method_10_code 91 = .ok (.iload_n 3, 1) := by decide +kernel
theorem d_Cov_setShares_92 : decode prog_4_method_10_code 92 = .ok (.lshr, 1) := by decide +kernel
theorem d_Cov_setShares_93 : decode prog_4_method_10_code 93 = .ok (.lastore, 1) := by decide +kernel
theorem d_Cov_setShares_94 : decode prog_4_method_10_code 94 = .ok (.aload_n 0, 1) := by decide +kernel
theorem d_Cov_setShares_95 : decode prog_4_method_10_code 95 = .ok (.dup, 1) := by decide +kernel
theorem d_Cov_setShares_96 : decode prog_4_method_10_code 96 = .ok (.getfield 115, 3) := by decide +kernel
theorem d_Cov_setShares_99 : decode prog_4_method_10_code 99 = .ok (.aload_n 0, 1) := by decide +kernel
theorem d_Cov_setShares_100 : decode prog_4_method_10_code 100 = .ok (.getfield 31, 3) := by decide +kernel
theorem d_Cov_setShares_103 : decode prog_4_method_10_code 103 = .ok (.iload 4, 2) := by decide +kernel
theorem d_Cov_setShares_105 : decode prog_4_method_10_code 105 = .ok (.laload, 1) := by decide +kernel
theorem d_Cov_setShares_106 : decode prog_4_method_10_code 106 = .ok (.ladd, 1) := by decide +kernel
theorem d_Cov_setShares_107 : decode prog_4_method_10_code 107 = .ok (.putfield 115, 3) := by decide +kernel
theorem d_Cov_setShares_110 : decode prog_4_method_10_code 110 = .ok (.iinc 4 1, 3) := by decide +kernel
theorem d_Cov_setShares_113 : decode prog_4_method_10_code 113 = .ok (.goto (-36), 3) := by decide +kernel
theorem d_Cov_setShares_116 : decode prog_4_method_10_code 116 = .ok (.return_, 1) := by decide +kernel
def L_Cov_setShares_77 : Nat → Sg → Int32 → Int32 → Option (Sg)
  | 0, _, _, _ => none
  | n + 1, σ, v3, v4 => if 3 ≤ v4 then (some σ) else (ck (inb v4 3) (ck (inb v4 3) (lt (sB σ 6 (vp_updL (σ.2.2.2.1 6) v4.toNatClampNeg (lshr (σ.2.2.2.1 6 v4.toNatClampNeg) v3))) (fun σ20 => ck (inb v4 3) (lt (sJ σ20 3 ((σ20.2.1 3) + (σ20.2.2.2.1 6 v4.toNatClampNeg))) (fun σ22 => lt (v4 + 1) (fun y23 => L_Cov_setShares_77 n σ22 v3 y23)))))))
set_option maxRecDepth 10000 in
set_option maxHeartbeats 4000000 in
theorem lt_Cov_setShares_77 {p : Program} {l : Launch} {e : Env} {R : Room} {s : State} {m : MethodId} {args : Array Value} {below : List Frame} {meth : Method} {c : Code} {D : va_G} {τ : ClassId × ClassId × ClassId} {B : Nat} {A : Nat → Prop} {ad : Nat → Nat} (E : Cx p R s m args meth c prog_4_method_10_code 5 "DrawingMachine$Covering" 2 D τ B A) (hret : meth.sig.returnType = none) (o : Sg) : ∀ (n : Nat) (σ : Sg) (v3 : Int32) (v4 : Int32) (H : Heap) (locs : List Loc) (ls : Array Slot), L_Cov_setShares_77 n σ v3 v4 = some o → Wd s D A (wdC τ σ ad) H locs → lv_has ls 5 [(0, .ref (ad 66)), (3, .int v3), (4, .int v4)] → W p l e R s m args below meth c H locs 0 0 (QV below args s A D τ (wdC τ o ad)) (F0 m 77 ls []) := by
  intro n
  induction n with
  | zero =>
    intro σ v3 v4 H locs ls h w hl
    cases h
  | succ n hr_77 =>
    intro σ v3 v4 H locs ls h w hl
    refine lv_iload E.x E.b d_Cov_setShares_77 (lv_at hl 2 rfl) ?_
    refine lv_iconst (v := 3) E.x E.b d_Cov_setShares_79 (by decide) ?_
    refine lv_icmp_ge (tgt := 116) E.x E.b d_Cov_setShares_80 (by decide) (fun c => ?_) (fun c => ?_)
    ·
      replace h := ifT c h
      obtain rfl := Option.some.inj h
      exact rt_v E w hret d_Cov_setShares_116
    ·
      replace h := ifF c h
      refine lv_aload_n E.x E.b d_Cov_setShares_83 rfl (lv_at hl 0 rfl) ?_
      refine gC_Cov_share E w k339 d_Cov_setShares_84 ?_
      refine lv_iload E.x E.b d_Cov_setShares_87 (lv_at hl 2 rfl) ?_
      refine lv_dup2_11 E.x E.b d_Cov_setShares_89 rfl rfl ?_
      obtain ⟨c18, h⟩ := ck_some h
      refine lalC_6 E w c18 d_Cov_setShares_90 ?_
      refine lv_iload_n E.x E.b d_Cov_setShares_91 rfl (lv_at hl 1 rfl) ?_
      refine lv_lshr (v := lshr (σ.2.2.2.1 6 v4.toNatClampNeg) v3) E.x E.b d_Cov_setShares_92 rfl ?_
      obtain ⟨c19, h⟩ := ck_some h
      obtain ⟨σ20, e_σ20, h⟩ := lt_some h
      refine lasC_6 E w c19 e_σ20 d_Cov_setShares_93 (fun H locs w => ?_)
      refine lv_aload_n E.x E.b d_Cov_setShares_94 rfl (lv_at hl 0 rfl) ?_
      refine lv_dup E.x E.b d_Cov_setShares_95 rfl ?_
      refine gC_Cov_shares E w k341 d_Cov_setShares_96 ?_
      refine lv_aload_n E.x E.b d_Cov_setShares_99 rfl (lv_at hl 0 rfl) ?_
      refine gC_Cov_share E w k339 d_Cov_setShares_100 ?_
      refine lv_iload E.x E.b d_Cov_setShares_103 (lv_at hl 2 rfl) ?_
      obtain ⟨c21, h⟩ := ck_some h
      refine lalC_6 E w c21 d_Cov_setShares_105 ?_
      refine lv_ladd E.x E.b d_Cov_setShares_106 ?_
      obtain ⟨σ22, e_σ22, h⟩ := lt_some h
      refine pC_Cov_shares E w k341 e_σ22 d_Cov_setShares_107 (fun H locs w => ?_)
      obtain ⟨y23, e_y23, h⟩ := lt_some h
      refine lv_iinc (v := y23) (lv' := [(4, .int y23), (0, .ref (ad 66)), (3, .int v3)]) E.x E.b d_Cov_setShares_110 hl (k := 2) rfl (e_y23) (by decide) rfl (fun ls hl => ?_)
      refine lv_goto (tgt := 77) E.x E.b d_Cov_setShares_113 (by decide) ?_
      exact hr_77 σ22 v3 y23 _ _ _ h w (lv_sub hl [1, 2, 0] rfl)
def L_Cov_setShares_4 : Nat → Sg → Int64 → Int32 → Option (Sg)
  | 0, _, _, _ => none
  | n + 1, σ, v1, v3 => if 3 ≤ v3 then (bd (F_Lng_numberOfLeadingZeros v1) (fun o24 => lt (imax ((64 - o24) - 29) 0) (fun y25 => lt (sJ σ 3 0) (fun σ26 => L_Cov_setShares_77 100000 σ26 y25 0)))) else (ck (inb v3 3) (ck (inb v3 3) (ck (inb (σ.2.2.1 28 v3.toNatClampNeg) 8) (ck (inb v3 3) (lt (sB σ 6 (vp_updL (σ.2.2.2.1 6) v3.toNatClampNeg ((σ.2.2.2.1 5 v3.toNatClampNeg) * ((σ.2.2.1 27 (σ.2.2.1 28 v3.toNatClampNeg).toNatClampNeg).toInt64)))) (fun σ31 => ck (inb v3 3) (lt (lmax v1 (σ31.2.2.2.1 6 v3.toNatClampNeg)) (fun y33 => lt (v3 + 1) (fun y34 => L_Cov_setShares_4 n σ31 y33 y34)))))))))
set_option maxRecDepth 10000 in
set_option maxHeartbeats 4000000 in
theorem lt_Cov_setShares_4 {p : Program} {l : Launch} {e : Env} {R : Room} {s : State} {m : MethodId} {args : Array Value} {below : List Frame} {meth : Method} {c : Code} {D : va_G} {τ : ClassId × ClassId × ClassId} {B : Nat} {A : Nat → Prop} {ad : Nat → Nat} (E : Cx p R s m args meth c prog_4_method_10_code 5 "DrawingMachine$Covering" 2 D τ B A) (hret : meth.sig.returnType = none) (o : Sg) : ∀ (n : Nat) (σ : Sg) (v1 : Int64) (v3 : Int32) (H : Heap) (locs : List Loc) (ls : Array Slot), L_Cov_setShares_4 n σ v1 v3 = some o → Wd s D A (wdC τ σ ad) H locs → lv_has ls 5 [(0, .ref (ad 66)), (1, .long v1), (3, .int v3)] → W p l e R s m args below meth c H locs 0 0 (QV below args s A D τ (wdC τ o ad)) (F0 m 4 ls []) := by
  intro n
  induction n with
  | zero =>
    intro σ v1 v3 H locs ls h w hl
    cases h
  | succ n hr_4 =>
    intro σ v1 v3 H locs ls h w hl
    refine lv_iload_n E.x E.b d_Cov_setShares_4 rfl (lv_at hl 2 rfl) ?_
    refine lv_iconst (v := 3) E.x E.b d_Cov_setShares_5 (by decide) ?_
    refine lv_icmp_ge (tgt := 54) E.x E.b d_Cov_setShares_6 (by decide) (fun c => ?_) (fun c => ?_)
    ·
      replace h := ifT c h
      refine lv_bipush (v := 64) E.x E.b d_Cov_setShares_54 (by decide) ?_
      refine lv_lload_n E.x E.b d_Cov_setShares_56 rfl (lv_at hl 1 rfl) ?_
      obtain ⟨o24, h_o24, h⟩ := bd_some h
      refine clS_Lng_numberOfLeadingZeros E w (x0 := v1) h_o24 k1228 (by decide) hl.1 (Nat.le_of_ble_eq_true rfl) d_Cov_setShares_57 (fun H locs w => ?_)
      refine lv_isub E.x E.b d_Cov_setShares_60 ?_
      refine lv_bipush (v := 29) E.x E.b d_Cov_setShares_61 (by decide) ?_
      refine lv_isub E.x E.b d_Cov_setShares_63 ?_
      refine lv_iconst (v := 0) E.x E.b d_Cov_setShares_64 (by decide) ?_
      refine va_mmax E.x E.b (E.2.2.1.trans hl.1.symm) E.o (E.w _ k1202) (E.w _ k560) (E.w _ k25) (E.w _ k561) (Nat.le_trans (by decide) E.2.2.2.2.2.2.1) (Nat.le_trans (Nat.le_of_ble_eq_true rfl) E.2.2.2.2.2.2.2.1) (Nat.zero_le _) (Nat.zero_le _) d_Cov_setShares_65 ?_
      refine wi_e (v := imax ((64 - o24) - 29) 0) rfl ?_
      obtain ⟨y25, e_y25, h⟩ := lt_some h
      refine wi_e (v := y25) e_y25 ?_
      refine lv_istore_n (lv' := [(3, .int y25), (0, .ref (ad 66)), (1, .long v1)]) E.x E.b d_Cov_setShares_68 rfl hl (by decide) rfl (fun ls hl => ?_)
      refine lv_aload_n E.x E.b d_Cov_setShares_69 rfl (lv_at hl 1 rfl) ?_
      refine lv_lconst (v := 0) E.x E.b d_Cov_setShares_70 (by decide) ?_
      obtain ⟨σ26, e_σ26, h⟩ := lt_some h
      refine pC_Cov_shares E w k341 e_σ26 d_Cov_setShares_71 (fun H locs w => ?_)
      refine lv_iconst (v := 0) E.x E.b d_Cov_setShares_74 (by decide) ?_
      refine lv_istore (lv' := [(4, .int 0), (3, .int y25), (0, .ref (ad 66)), (1, .long v1)]) E.x E.b d_Cov_setShares_75 hl (by decide) rfl (fun ls hl => ?_)
      exact lt_Cov_setShares_77 E hret o 100000 σ26 y25 0 _ _ _ h w (lv_sub hl [2, 1, 0] rfl)
    ·
      replace h := ifF c h
      refine lv_aload_n E.x E.b d_Cov_setShares_9 rfl (lv_at hl 0 rfl) ?_
      refine gC_Cov_share E w k339 d_Cov_setShares_10 ?_
      refine lv_iload_n E.x E.b d_Cov_setShares_13 rfl (lv_at hl 2 rfl) ?_
      refine lv_aload_n E.x E.b d_Cov_setShares_14 rfl (lv_at hl 0 rfl) ?_
      refine gC_Cov_weight E w k338 d_Cov_setShares_15 ?_
      refine lv_iload_n E.x E.b d_Cov_setShares_18 rfl (lv_at hl 2 rfl) ?_
      obtain ⟨c27, h⟩ := ck_some h
      refine lalC_5 E w c27 d_Cov_setShares_19 ?_
      refine lv_aload_n E.x E.b d_Cov_setShares_20 rfl (lv_at hl 0 rfl) ?_
      refine gC_Cov_shape E w k332 d_Cov_setShares_21 ?_
      refine gC_Sha_nearness E w k297 d_Cov_setShares_24 ?_
      refine lv_aload_n E.x E.b d_Cov_setShares_27 rfl (lv_at hl 0 rfl) ?_
      refine gC_Cov_who E w k333 d_Cov_setShares_28 ?_
      refine lv_iload_n E.x E.b d_Cov_setShares_31 rfl (lv_at hl 2 rfl) ?_
      obtain ⟨c28, h⟩ := ck_some h
      refine ialC E w (k := 28) (by decide) c28 d_Cov_setShares_32 ?_
      obtain ⟨c29, h⟩ := ck_some h
      refine ialC E w (k := 27) (by decide) c29 d_Cov_setShares_33 ?_
      refine lv_i2l (v := (σ.2.2.1 27 (σ.2.2.1 28 v3.toNatClampNeg).toNatClampNeg).toInt64) E.x E.b d_Cov_setShares_34 rfl ?_
      refine lv_lmul E.x E.b d_Cov_setShares_35 ?_
      obtain ⟨c30, h⟩ := ck_some h
      obtain ⟨σ31, e_σ31, h⟩ := lt_some h
      refine lasC_6 E w c30 e_σ31 d_Cov_setShares_36 (fun H locs w => ?_)
      refine lv_lload_n E.x E.b d_Cov_setShares_37 rfl (lv_at hl 1 rfl) ?_
      refine lv_aload_n E.x E.b d_Cov_setShares_38 rfl (lv_at hl 0 rfl) ?_
      refine gC_Cov_share E w k339 d_Cov_setShares_39 ?_
      refine lv_iload_n E.x E.b d_Cov_setShares_42 rfl (lv_at hl 2 rfl) ?_
      obtain ⟨c32, h⟩ := ck_some h
      refine lalC_6 E w c32 d_Cov_setShares_43 ?_
      refine va_mmax_long E.x E.b (E.2.2.1.trans hl.1.symm) E.o (E.w _ k1225) (E.w _ k1226) (E.w _ k25) (E.w _ k1227) (Nat.le_trans (by decide) E.2.2.2.2.2.2.1) (Nat.le_trans (Nat.le_of_ble_eq_true rfl) E.2.2.2.2.2.2.2.1) (Nat.zero_le _) (Nat.zero_le _) d_Cov_setShares_44 ?_
      refine wl_e (v := lmax v1 (σ31.2.2.2.1 6 v3.toNatClampNeg)) rfl ?_
      obtain ⟨y33, e_y33, h⟩ := lt_some h
      refine wl_e (v := y33) e_y33 ?_
      refine lv_lstore_n (lv' := [(1, .long y33), (0, .ref (ad 66)), (3, .int v3)]) E.x E.b d_Cov_setShares_47 rfl hl (by decide) rfl (fun ls hl => ?_)
      obtain ⟨y34, e_y34, h⟩ := lt_some h
      refine lv_iinc (v := y34) (lv' := [(3, .int y34), (1, .long y33), (0, .ref (ad 66))]) E.x E.b d_Cov_setShares_48 hl (k := 2) rfl (e_y34) (by decide) rfl (fun ls hl => ?_)
      refine lv_goto (tgt := 4) E.x E.b d_Cov_setShares_51 (by decide) ?_
      exact hr_4 σ31 y33 y34 _ _ _ h w (lv_sub hl [2, 1, 0] rfl)
def F_Cov_setShares (σ : Sg) : Option (Sg) := L_Cov_setShares_4 100000 σ 0 0
set_option maxRecDepth 10000 in
set_option maxHeartbeats 4000000 in
theorem c_Cov_setShares (l : Launch) (D : va_G) (τ : ClassId × ClassId × ClassId) (B : Nat) (σ : Sg) (ad : Nat → Nat) (o : Sg) (h : F_Cov_setShares σ = some o) : MV l y_Cov_setShares (Cond.code y_Cov_setShares prog_4_method_10_code 5 none) 2 D τ B [.ref (ad 66)] (wdC τ σ ad) (wdC τ o ad) := by
  refine en_v (by decide) (Nat.le_of_ble_eq_true rfl) ?_
  intro p e R s m args below meth c H locs ls A E hret w hl
  have E : Cx p R s m args meth c prog_4_method_10_code 5 "DrawingMachine$Covering" 2 D τ B A := E
  have hl : lv_has ls 5 [(0, .ref (ad 66))] := hl
  refine lv_lconst (v := 0) E.x E.b d_Cov_setShares_0 (by decide) ?_
  refine lv_lstore_n (lv' := [(1, .long 0), (0, .ref (ad 66))]) E.x E.b d_Cov_setShares_1 rfl hl (by decide) rfl (fun ls hl => ?_)
  refine lv_iconst (v := 0) E.x E.b d_Cov_setShares_2 (by decide) ?_
  refine lv_istore_n (lv' := [(3, .int 0), (1, .long 0), (0, .ref (ad 66))]) E.x E.b d_Cov_setShares_3 rfl hl (by decide) rfl (fun ls hl => ?_)
  exact lt_Cov_setShares_4 E hret o 100000 σ 0 0 _ _ _ h w (lv_sub hl [2, 1, 0] rfl)
theorem clV_Cov_setShares {p : Program} {l : Launch} {e : Env} {R : Room} {s : State} {m : MethodId} {args : Array Value} {below : List Frame} {meth : Method} {c : Code} {H : Heap} {locs : List Loc} {Q : State → Prop} {cc : ByteArray} {nL pc lev : Nat} {own : String} {D : va_G} {τ : ClassId × ClassId × ClassId} {B : Nat} {A : Nat → Prop} {σ : Sg} {ad : Nat → Nat} {ls : Array Slot} {rest : List Value} (E : Cx p R s m args meth c cc nL own lev D τ B A) (w : Wd s D A (wdC τ σ ad) H locs) {o : Sg} (h : F_Cov_setShares σ = some o) {index : Nat} (hlk : Cond.methodLink own index y_Cov_setShares ∈ tw) (hlev : 2 < lev) (hsz : ls.size = nL) (hr : (rest.map fun v => v.category).sum ≤ 8) (hd : decode cc pc = .ok (.invokevirtual index, 3)) (kk : ∀ (H1 : Heap) (locs1 : List Loc), Wd s D A (wdC τ o ad) H1 locs1 → W p l e R s m args below meth c H1 locs1 0 0 Q (F0 m (pc + 3) ls (rest))) : W p l e R s m args below meth c H locs 0 0 Q (F0 m pc ls (.ref (ad 66) :: rest)) :=
  cr_v w E.C (va_runV (As := []) (rest := rest) E.fix (c_Cov_setShares l D τ B σ ad o h H.size) (cwV 0 E.w (tw_pre (tw_good k1224) (l := [_, _, _, _]) (List.forall_mem_cons.mpr ⟨hlk, List.forall_mem_cons.mpr ⟨k1223, List.forall_mem_cons.mpr ⟨ks29, List.forall_mem_cons.mpr ⟨k12, fun _ h => absurd h List.not_mem_nil⟩⟩⟩⟩)) rfl rfl rfl (by decide +kernel) (E.rm hlev (by decide))) (wd_preV w E.C [] rcC_Cov rfl) rfl rfl hsz rfl (lv_room hr) hd ⟨Nat.zero_le _, Nat.zero_le _⟩) kk

theorem d_Cov_valueThere_0 : decode prog_4_method_11_code 0 = .ok (.lconst 0, 1) := by decide +kernel
theorem d_Cov_valueThere_1 : decode prog_4_method_11_code 1 = .ok (.lstore_n 2, 1) := by decide +kernel
theorem d_Cov_valueThere_2 : decode prog_4_method_11_code 2 = .ok (.iconst 0, 1) := by decide +kernel
theorem d_Cov_valueThere_3 : decode prog_4_method_11_code 3 = .ok (.istore 4, 2) := by decide +kernel
theorem d_Cov_valueThere_5 : decode prog_4_method_11_code 5 = .ok (.iload 4, 2) := by decide +kernel
theorem d_Cov_valueThere_7 : decode prog_4_method_11_code 7 = .ok (.iconst 3, 1) := by decide +kernel
theorem d_Cov_valueThere_8 : decode prog_4_method_11_code 8 = .ok (.if_icmp .ge 38, 3) := by decide +kernel
theorem d_Cov_valueThere_11 : decode prog_4_method_11_code 11 = .ok (.lload_n 2, 1) := by decide +kernel
theorem d_Cov_valueThere_12 : decode prog_4_method_11_code 12 = .ok (.aload_n 0, 1) := by decide +kernel
theorem d_Cov_valueThere_13 : decode prog_4_method_11_code 13 = .ok (.getfield 31, 3) := by decide +kernel
theorem d_Cov_valueThere_16 : decode prog_4_method_11_code 16 = .ok (.iload 4, 2) := by decide +kernel
theorem d_Cov_valueThere_18 : decode prog_4_method_11_code 18 = .ok (.laload, 1) := by decide +kernel
theorem d_Cov_valueThere_19 : decode prog_4_method_11_code 19 = .ok (.aload_n 0, 1) := by decide +kernel
theorem d_Cov_valueThere_20 : decode prog_4_method_11_code 20 = .ok (.getfield 34, 3) := by decide +kernel
theorem d_Cov_valueThere_23 : decode prog_4_method_11_code 23 = .ok (.getfield 118, 3) := by decide +kernel
theorem d_Cov_valueThere_26 : decode prog_4_method_11_code 26 = .ok (.aload_n 0, 1) := by decide +kernel
theorem d_Cov_valueThere_27 : decode prog_4_method_11_code 27 = .ok (.getfield 9, 3) := by decide +kernel
theorem d_Cov_valueThere_30 : decode prog_4_method_11_code 30 = .ok (.iload 4, 2) := by decide +kernel
theorem d_Cov_valueThere_32 : decode prog_4_method_11_code 32 = .ok (.iaload, 1) := by decide +kernel
theorem d_Cov_valueThere_33 : decode prog_4_method_11_code 33 = .ok (.aaload, 1) := by decide +kernel
theorem d_Cov_valueThere_34 : decode prog_4_method_11_code 34 = .ok (.iload_n 1, 1) := by decide +kernel
theorem d_Cov_valueThere_35 : decode prog_4_method_11_code 35 = .ok (.iaload, 1) := by decide +kernel
theorem d_Cov_valueThere_36 : decode prog_4_method_11_code 36 = .ok (.i2l, 1) := by decide +kernel
theorem d_Cov_valueThere_37 : decode prog_4_method_11_code 37 = .ok (.lmul, 1) := by decide +kernel
theorem d_Cov_valueThere_38 : decode prog_4_method_11_code 38 = .ok (.ladd, 1) := by decide +kernel
theorem d_Cov_valueThere_39 : decode prog_4_method_11_code 39 = .ok (.lstore_n 2, 1) := by decide +kernel
theorem d_Cov_valueThere_40 : decode prog_4_method_11_code 40 = .ok (.iinc 4 1, 3) := by decide +kernel
theorem d_Cov_valueThere_43 : decode prog_4_method_11_code 43 = .ok (.goto (-38), 3) := by decide +kernel
theorem d_Cov_valueThere_46 : decode prog_4_method_11_code 46 = .ok (.aload_n 0, 1) := by decide +kernel
theorem d_Cov_valueThere_47 : decode prog_4_method_11_code 47 = .ok (.getfield 115, 3) := by decide +kernel
theorem d_Cov_valueThere_50 : decode prog_4_method_11_code 50 = .ok (.lconst 0, 1) := by decide +kernel
theorem d_Cov_valueThere_51 : decode prog_4_method_11_code 51 = .ok (.lcmp, 1) := by decide +kernel
theorem d_Cov_valueThere_52 : decode prog_4_method_11_code 52 = .ok (.ifCond .ne 7, 3) := by decide +kernel
theorem d_Cov_valueThere_55 : decode prog_4_method_11_code 55 = .ok (.iconst 0, 1) := by decide +kernel
theorem d_Cov_valueThere_56 : decode prog_4_method_11_code 56 = .ok (.goto 12, 3) := by decide +kernel
theorem d_Cov_valueThere_59 : decode prog_4_method_11_code 59 = .ok (.lload_n 2, 1) := by decide +kernel
theorem d_Cov_valueThere_60 : decode prog_4_method_11_code 60 = .ok (.aload_n 0, 1) := by decide +kernel
theorem d_Cov_valueThere_61 : decode prog_4_method_11_code 61 = .ok (.getfield 115, 3) := by decide +kernel
theorem d_Cov_valueThere_64 : decode prog_4_method_11_code 64 = .ok (.invokestatic 122, 3) := by decide +kernel
theorem d_Cov_valueThere_67 : decode prog_4_method_11_code 67 = .ok (.l2i, 1) := by decide +kernel
theorem d_Cov_valueThere_68 : decode prog_4_method_11_code 68 = .ok (.ireturn, 1) := by decide +kernel
def F_Cov_valueThere_68 (σ : Sg) (s0 : Int32) : Option (Int32) := some s0
set_option maxRecDepth 10000 in
set_option maxHeartbeats 4000000 in
theorem bt_Cov_valueThere_68 {p : Program} {l : Launch} {e : Env} {R : Room} {s : State} {m : MethodId} {args : Array Value} {below : List Frame} {meth : Method} {c : Code} {D : va_G} {τ : ClassId × ClassId × ClassId} {B : Nat} {A : Nat → Prop} {ad : Nat → Nat} (E : Cx p R s m args meth c prog_4_method_11_code 5 "DrawingMachine$Covering" 0 D τ B A) (hret : meth.sig.returnType = (some .int)) (o : Int32) (σ : Sg) (s0 : Int32) (h : F_Cov_valueThere_68 σ s0 = some o) {H : Heap} {locs : List Loc} {ls : Array Slot} (w : Wd s D A (wdC τ σ ad) H locs) (hl : lv_has ls 5 []) : W p l e R s m args below meth c H locs 0 0 (QI below args s A D τ (wdC τ σ ad) o) (F0 m 68 ls [.int s0]) := by
  obtain rfl := Option.some.inj h
  exact rt_i E w hret d_Cov_valueThere_68
def L_Cov_valueThere_5 : Nat → Sg → Int32 → Int64 → Int32 → Option (Int32)
  | 0, _, _, _, _ => none
  | n + 1, σ, v1, v2, v4 => if 3 ≤ v4 then (if (σ.2.1 3) = 0 then (F_Cov_valueThere_68 σ 0) else (ck (¬ (σ.2.1 3) = 0) (F_Cov_valueThere_68 σ ((fdiv v2 (σ.2.1 3)).toInt32)))) else (ck (inb v4 3) (lt (σ.2.2.2.2 5) (fun nn14 => ck (nn14 < 2) (ck (inb v4 3) (ck (inb (σ.2.2.1 28 v4.toNatClampNeg) 8) (lt (31 + 8 * nn14 + (σ.2.2.1 28 v4.toNatClampNeg).toNatClampNeg) (fun ar_18 => ck (ar_18 < 47) (ck (inb v1 (lenC σ ar_18)) (lt (v2 + ((σ.2.2.2.1 6 v4.toNatClampNeg) * ((σ.2.2.1 ar_18 v1.toNatClampNeg).toInt64))) (fun y21 => lt (v4 + 1) (fun y22 => L_Cov_valueThere_5 n σ v1 y21 y22)))))))))))
set_option maxRecDepth 10000 in
set_option maxHeartbeats 4000000 in
theorem lt_Cov_valueThere_5 {p : Program} {l : Launch} {e : Env} {R : Room} {s : State} {m : MethodId} {args : Array Value} {below : List Frame} {meth : Method} {c : Code} {D : va_G} {τ : ClassId × ClassId × ClassId} {B : Nat} {A : Nat → Prop} {ad : Nat → Nat} (E : Cx p R s m args meth c prog_4_method_11_code 5 "DrawingMachine$Covering" 0 D τ B A) (hret : meth.sig.returnType = (some .int)) (o : Int32) (σ : Sg) : ∀ (n : Nat) (v1 : Int32) (v2 : Int64) (v4 : Int32) (H : Heap) (locs : List Loc) (ls : Array Slot), L_Cov_valueThere_5 n σ v1 v2 v4 = some o → Wd s D A (wdC τ σ ad) H locs → lv_has ls 5 [(0, .ref (ad 66)), (1, .int v1), (2, .long v2), (4, .int v4)] → W p l e R s m args below meth c H locs 0 0 (QI below args s A D τ (wdC τ σ ad) o) (F0 m 5 ls []) := by
  intro n
  induction n with
  | zero =>
    intro v1 v2 v4 H locs ls h w hl
    cases h
  | succ n hr_5 =>
    intro v1 v2 v4 H locs ls h w hl
    refine lv_iload E.x E.b d_Cov_valueThere_5 (lv_at hl 3 rfl) ?_
    refine lv_iconst (v := 3) E.x E.b d_Cov_valueThere_7 (by decide) ?_
    refine lv_icmp_ge (tgt := 46) E.x E.b d_Cov_valueThere_8 (by decide) (fun c => ?_) (fun c => ?_)
    ·
      replace h := ifT c h
      refine lv_aload_n E.x E.b d_Cov_valueThere_46 rfl (lv_at hl 0 rfl) ?_
      refine gC_Cov_shares E w k341 d_Cov_valueThere_47 ?_
      refine lv_lconst (v := 0) E.x E.b d_Cov_valueThere_50 (by decide) ?_
      refine W.lcmp E.x E.b d_Cov_valueThere_51 ?_
      refine lv_if_ne (tgt := 59) E.x E.b d_Cov_valueThere_52 (by decide) (fun c => ?_) (fun c => ?_)
      ·
        replace h := ifF (fun h9 => c (lgc_eq.mpr h9)) h
        refine lv_lload_n E.x E.b d_Cov_valueThere_59 rfl (lv_at hl 2 rfl) ?_
        refine lv_aload_n E.x E.b d_Cov_valueThere_60 rfl (lv_at hl 0 rfl) ?_
        refine gC_Cov_shares E w k341 d_Cov_valueThere_61 ?_
        obtain ⟨c12, h⟩ := ck_some h
        refine r_law (As := [.long v2, .long (σ.2.1 3)]) (v0 := .long (fdiv v2 (σ.2.1 3))) E (Jvm.Free.JP.Math_floorDiv_JJ.law l v2 (σ.2.1 3)) k1240 k1109 k25 k1110 (by decide) hl.1 rfl (fun _ => ⟨rfl, c12⟩) (Nat.le_of_ble_eq_true rfl) d_Cov_valueThere_64 ?_
        refine lv_l2i (v := (fdiv v2 (σ.2.1 3)).toInt32) E.x E.b d_Cov_valueThere_67 rfl ?_
        exact bt_Cov_valueThere_68 E hret o σ ((fdiv v2 (σ.2.1 3)).toInt32) h w (lv_sub hl [] rfl)
      ·
        replace h := ifT (lgc_eq.mp c) h
        refine lv_iconst (v := 0) E.x E.b d_Cov_valueThere_55 (by decide) ?_
        refine lv_goto (tgt := 68) E.x E.b d_Cov_valueThere_56 (by decide) ?_
        exact bt_Cov_valueThere_68 E hret o σ 0 h w (lv_sub hl [] rfl)
    ·
      replace h := ifF c h
      refine lv_lload_n E.x E.b d_Cov_valueThere_11 rfl (lv_at hl 2 rfl) ?_
      refine lv_aload_n E.x E.b d_Cov_valueThere_12 rfl (lv_at hl 0 rfl) ?_
      refine gC_Cov_share E w k339 d_Cov_valueThere_13 ?_
      refine lv_iload E.x E.b d_Cov_valueThere_16 (lv_at hl 3 rfl) ?_
      obtain ⟨c13, h⟩ := ck_some h
      refine lalC_6 E w c13 d_Cov_valueThere_18 ?_
      refine lv_aload_n E.x E.b d_Cov_valueThere_19 rfl (lv_at hl 0 rfl) ?_
      refine gC_Cov_shape E w k332 d_Cov_valueThere_20 ?_
      refine gC_Sha_corners E w k289 d_Cov_valueThere_23 ?_
      obtain ⟨nn14, e_nn14, h⟩ := lt_some h
      refine wr_e (v := ad (54 + nn14)) (by rw [e_nn14]) ?_
      obtain ⟨c15, h⟩ := ck_some h
      refine lv_aload_n E.x E.b d_Cov_valueThere_26 rfl (lv_at hl 0 rfl) ?_
      refine gC_Cov_who E w k333 d_Cov_valueThere_27 ?_
      refine lv_iload E.x E.b d_Cov_valueThere_30 (lv_at hl 3 rfl) ?_
      obtain ⟨c16, h⟩ := ck_some h
      refine ialC E w (k := 28) (by decide) c16 d_Cov_valueThere_32 ?_
      obtain ⟨c17, h⟩ := ck_some h
      refine aalC E w (v := nn14) c15 c17 d_Cov_valueThere_33 ?_
      obtain ⟨ar_18, e_ar_18, h⟩ := lt_some h
      refine wr_e (v := ad ar_18) (by rw [e_ar_18]) ?_
      obtain ⟨c19, h⟩ := ck_some h
      refine lv_iload_n E.x E.b d_Cov_valueThere_34 rfl (lv_at hl 1 rfl) ?_
      obtain ⟨c20, h⟩ := ck_some h
      refine ialC E w (k := ar_18) c19 c20 d_Cov_valueThere_35 ?_
      refine lv_i2l (v := (σ.2.2.1 ar_18 v1.toNatClampNeg).toInt64) E.x E.b d_Cov_valueThere_36 rfl ?_
      refine lv_lmul E.x E.b d_Cov_valueThere_37 ?_
      refine lv_ladd E.x E.b d_Cov_valueThere_38 ?_
      obtain ⟨y21, e_y21, h⟩ := lt_some h
      refine wl_e (v := y21) e_y21 ?_
      refine lv_lstore_n (lv' := [(2, .long y21), (0, .ref (ad 66)), (1, .int v1), (4, .int v4)]) E.x E.b d_Cov_valueThere_39 rfl hl (by decide) rfl (fun ls hl => ?_)
      obtain ⟨y22, e_y22, h⟩ := lt_some h
      refine lv_iinc (v := y22) (lv' := [(4, .int y22), (2, .long y21), (0, .ref (ad 66)), (1, .int v1)]) E.x E.b d_Cov_valueThere_40 hl (k := 3) rfl (e_y22) (by decide) rfl (fun ls hl => ?_)
      refine lv_goto (tgt := 5) E.x E.b d_Cov_valueThere_43 (by decide) ?_
      exact hr_5 v1 y21 y22 _ _ _ h w (lv_sub hl [2, 3, 1, 0] rfl)
def F_Cov_valueThere (σ : Sg) (x0 : Int32) : Option (Int32) := L_Cov_valueThere_5 100000 σ x0 0 0
set_option maxRecDepth 10000 in
set_option maxHeartbeats 4000000 in
theorem c_Cov_valueThere (l : Launch) (D : va_G) (τ : ClassId × ClassId × ClassId) (B : Nat) (σ : Sg) (ad : Nat → Nat) (x0 : Int32) (o : Int32) (h : F_Cov_valueThere σ x0 = some o) : MI l y_Cov_valueThere (Cond.code y_Cov_valueThere prog_4_method_11_code 5 (some .int)) 0 D τ B [.ref (ad 66), .int x0] (wdC τ σ ad) (wdC τ σ ad) o := by
  refine en_i (by decide) (Nat.le_of_ble_eq_true rfl) ?_
  intro p e R s m args below meth c H locs ls A E hret w hl
  have E : Cx p R s m args meth c prog_4_method_11_code 5 "DrawingMachine$Covering" 0 D τ B A := E
  have hl : lv_has ls 5 [(0, .ref (ad 66)), (1, .int x0)] := hl
  refine lv_lconst (v := 0) E.x E.b d_Cov_valueThere_0 (by decide) ?_
  refine lv_lstore_n (lv' := [(2, .long 0), (0, .ref (ad 66)), (1, .int x0)]) E.x E.b d_Cov_valueThere_1 rfl hl (by decide) rfl (fun ls hl => ?_)
  refine lv_iconst (v := 0) E.x E.b d_Cov_valueThere_2 (by decide) ?_
  refine lv_istore (lv' := [(4, .int 0), (2, .long 0), (0, .ref (ad 66)), (1, .int x0)]) E.x E.b d_Cov_valueThere_3 hl (by decide) rfl (fun ls hl => ?_)
  exact lt_Cov_valueThere_5 E hret o σ 100000 x0 0 0 _ _ _ h w (lv_sub hl [2, 3, 1, 0] rfl)
theorem clV_Cov_valueThere {p : Program} {l : Launch} {e : Env} {R : Room} {s : State} {m : MethodId} {args : Array Value} {below : List Frame} {meth : Method} {c : Code} {H : Heap} {locs : List Loc} {Q : State → Prop} {cc : ByteArray} {nL pc lev : Nat} {own : String} {D : va_G} {τ : ClassId × ClassId × ClassId} {B : Nat} {A : Nat → Prop} {σ : Sg} {ad : Nat → Nat} {ls : Array Slot} {rest : List Value} (E : Cx p R s m args meth c cc nL own lev D τ B A) (w : Wd s D A (wdC τ σ ad) H locs) {x0 : Int32} {o : Int32} (h : F_Cov_valueThere σ x0 = some o) {index : Nat} (hlk : Cond.methodLink own index y_Cov_valueThere ∈ tw) (hlev : 0 < lev) (hsz : ls.size = nL) (hr : (rest.map fun v => v.category).sum ≤ 8) (hd : decode cc pc = .ok (.invokevirtual index, 3)) (kk : ∀ (H1 : Heap) (locs1 : List Loc), Wd s D A (wdC τ σ ad) H1 locs1 → W p l e R s m args below meth c H1 locs1 0 0 Q (F0 m (pc + 3) ls (.int o :: rest))) : W p l e R s m args below meth c H locs 0 0 Q (F0 m pc ls (.int x0 :: .ref (ad 66) :: rest)) :=
  cr_i w E.C (va_runV (As := [.int x0]) (rest := rest) E.fix (c_Cov_valueThere l D τ B σ ad x0 o h H.size) (cwV 1 E.w (tw_pre (tw_good k1239) (l := [_, _, _, _]) (List.forall_mem_cons.mpr ⟨hlk, List.forall_mem_cons.mpr ⟨k1238, List.forall_mem_cons.mpr ⟨ks30, List.forall_mem_cons.mpr ⟨k12, fun _ h => absurd h List.not_mem_nil⟩⟩⟩⟩)) rfl rfl rfl (by decide +kernel) (E.rm hlev (by decide))) (wd_preV w E.C [.int x0] rcC_Cov rfl) rfl rfl hsz rfl (lv_room hr) hd ⟨Nat.zero_le _, Nat.zero_le _⟩) kk

theorem d_Prg_readsIn_0 : decode prog_8_method_2_code 0 = .ok (.aload_n 0, 1) := by decide +kernel
theorem d_Prg_readsIn_1 : decode prog_8_method_2_code 1 = .ok (.getfield 13, 3) := by decide +kernel
theorem d_Prg_readsIn_4 : decode prog_8_method_2_code 4 = .ok (.iload_n 1, 1) := by decide +kernel
theorem d_Prg_readsIn_5 : decode prog_8_method_2_code 5 = .ok (.ishr, 1) := by decide +kernel
theorem d_Prg_readsIn_6 : decode prog_8_method_2_code 6 = .ok (.iconst 1, 1) := by decide +kernel
theorem d_Prg_readsIn_7 : decode prog_8_method_2_code 7 = .ok (.iand, 1) := by decide +kernel
theorem d_Prg_readsIn_8 : decode prog_8_method_2_code 8 = .ok (.ifCond .eq 7, 3) := by decide +kernel
theorem d_Prg_readsIn_11 : decode prog_8_method_2_code 11 = .ok (.iconst 1, 1) := by decide +kernel
theorem d_Prg_readsIn_12 : decode prog_8_method_2_code 12 = .ok (.goto 4, 3) := by decide +kernel
theorem d_Prg_readsIn_15 : decode prog_8_method_2_code 15 = .ok (.iconst 0, 1) := by decide +kernel
theorem d_Prg_readsIn_16 : decode prog_8_method_2_code 16 = .ok (.ireturn, 1) := by decide +kernel
def F_Prg_readsIn_16 (σ : Sg) (s0 : Int32) : Option (Int32) := ck (s0 = 0 ∨ s0 = 1) (some s0)
set_option maxRecDepth 10000 in
set_option maxHeartbeats 4000000 in
theorem bt_Prg_readsIn_16 {p : Program} {l : Launch} {e : Env} {R : Room} {s : State} {m : MethodId} {args : Array Value} {below : List Frame} {meth : Method} {c : Code} {D : va_G} {τ : ClassId × ClassId × ClassId} {B : Nat} {A : Nat → Prop} {ad : Nat → Nat} (E : Cx p R s m args meth c prog_8_method_2_code 2 "DrawingMachine$Program" 0 D τ B A) (hret : meth.sig.returnType = (some .boolean)) (o : Int32) (σ : Sg) (s0 : Int32) (h : F_Prg_readsIn_16 σ s0 = some o) {H : Heap} {locs : List Loc} {ls : Array Slot} (w : Wd s D A (wdC τ σ ad) H locs) (hl : lv_has ls 2 []) : W p l e R s m args below meth c H locs 0 0 (QI below args s A D τ (wdC τ σ ad) o) (F0 m 16 ls [.int s0]) := by
  obtain ⟨c2, h⟩ := ck_some h
  obtain rfl := Option.some.inj h
  exact rt_z E w hret c2 d_Prg_readsIn_16
def F_Prg_readsIn (σ : Sg) (p0 : Nat) (x0 : Int32) : Option (Int32) := ck (p0 < 3) (if (((σ.1 (24 + 3 * p0)) >>> (x0 &&& 31)) &&& 1) = 0 then (F_Prg_readsIn_16 σ 0) else (F_Prg_readsIn_16 σ 1))
set_option maxRecDepth 10000 in
set_option maxHeartbeats 4000000 in
theorem c_Prg_readsIn (l : Launch) (D : va_G) (τ : ClassId × ClassId × ClassId) (B : Nat) (σ : Sg) (ad : Nat → Nat) (p0 : Nat) (x0 : Int32) (o : Int32) (h : F_Prg_readsIn σ p0 x0 = some o) : MI l y_Prg_readsIn (Cond.code y_Prg_readsIn prog_8_method_2_code 2 (some .boolean)) 0 D τ B [.ref (ad (67 + p0)), .int x0] (wdC τ σ ad) (wdC τ σ ad) o := by
  refine en_i (by decide) (Nat.le_of_ble_eq_true rfl) ?_
  intro p e R s m args below meth c H locs ls A E hret w hl
  have E : Cx p R s m args meth c prog_8_method_2_code 2 "DrawingMachine$Program" 0 D τ B A := E
  have hl : lv_has ls 2 [(0, .ref (ad (67 + p0))), (1, .int x0)] := hl
  obtain ⟨c3, h⟩ := ck_some h
  refine lv_aload_n E.x E.b d_Prg_readsIn_0 rfl (lv_at hl 0 rfl) ?_
  refine gC_Prg_reads E w (pid := p0) c3 k419 d_Prg_readsIn_1 ?_
  refine lv_iload_n E.x E.b d_Prg_readsIn_4 rfl (lv_at hl 1 rfl) ?_
  refine lv_ishr E.x E.b d_Prg_readsIn_5 ?_
  refine lv_iconst (v := 1) E.x E.b d_Prg_readsIn_6 (by decide) ?_
  refine lv_iand E.x E.b d_Prg_readsIn_7 ?_
  refine lv_if_eq (tgt := 15) E.x E.b d_Prg_readsIn_8 (by decide) (fun c => ?_) (fun c => ?_)
  ·
    replace h := ifT c h
    refine lv_iconst (v := 0) E.x E.b d_Prg_readsIn_15 (by decide) ?_
    exact bt_Prg_readsIn_16 E hret o σ 0 h w (lv_sub hl [] rfl)
  ·
    replace h := ifF c h
    refine lv_iconst (v := 1) E.x E.b d_Prg_readsIn_11 (by decide) ?_
    refine lv_goto (tgt := 16) E.x E.b d_Prg_readsIn_12 (by decide) ?_
    exact bt_Prg_readsIn_16 E hret o σ 1 h w (lv_sub hl [] rfl)
theorem clV_Prg_readsIn {p : Program} {l : Launch} {e : Env} {R : Room} {s : State} {m : MethodId} {args : Array Value} {below : List Frame} {meth : Method} {c : Code} {H : Heap} {locs : List Loc} {Q : State → Prop} {cc : ByteArray} {nL pc lev : Nat} {own : String} {D : va_G} {τ : ClassId × ClassId × ClassId} {B : Nat} {A : Nat → Prop} {σ : Sg} {ad : Nat → Nat} {ls : Array Slot} {rest : List Value} (E : Cx p R s m args meth c cc nL own lev D τ B A) (w : Wd s D A (wdC τ σ ad) H locs) {p0 : Nat} {x0 : Int32} {o : Int32} (h : F_Prg_readsIn σ p0 x0 = some o) {index : Nat} (hlk : Cond.methodLink own index y_Prg_readsIn ∈ tw) (hlev : 0 < lev) (hsz : ls.size = nL) (hr : (rest.map fun v => v.category).sum ≤ 8) (hd : decode cc pc = .ok (.invokevirtual index, 3)) (kk : ∀ (H1 : Heap) (locs1 : List Loc), Wd s D A (wdC τ σ ad) H1 locs1 → W p l e R s m args below meth c H1 locs1 0 0 Q (F0 m (pc + 3) ls (.int o :: rest))) : W p l e R s m args below meth c H locs 0 0 Q (F0 m pc ls (.int x0 :: .ref (ad (67 + p0)) :: rest)) :=
  cr_i w E.C (va_runV (As := [.int x0]) (rest := rest) E.fix (c_Prg_readsIn l D τ B σ ad p0 x0 o h H.size) (cwV 1 E.w (tw_pre (tw_good k1014) (l := [_, _, _, _]) (List.forall_mem_cons.mpr ⟨hlk, List.forall_mem_cons.mpr ⟨k1012, List.forall_mem_cons.mpr ⟨k1013, List.forall_mem_cons.mpr ⟨k13, fun _ h => absurd h List.not_mem_nil⟩⟩⟩⟩)) rfl rfl rfl (by decide +kernel) (E.rm hlev (by decide))) (wd_preV w E.C [.int x0] (rcC_Prg (ck_some h).1) rfl) rfl rfl hsz rfl (lv_room hr) hd ⟨Nat.zero_le _, Nat.zero_le _⟩) kk

theorem d_Cov_load_0 : decode prog_4_method_9_code 0 = .ok (.aload_n 0, 1) := by decide +kernel
theorem d_Cov_load_1 : decode prog_4_method_9_code 1 = .ok (.invokevirtual 90, 3) := by decide +kernel
theorem d_Cov_load_4 : decode prog_4_method_9_code 4 = .ok (.iconst 1, 1) := by decide +kernel
theorem d_Cov_load_5 : decode prog_4_method_9_code 5 = .ok (.istore_n 3, 1) := by decide +kernel
theorem d_Cov_load_6 : decode prog_4_method_9_code 6 = .ok (.iload_n 3, 1) := by decide +kernel
theorem d_Cov_load_7 : decode prog_4_method_9_code 7 = .ok (.bipush 8, 2) := by decide +kernel
theorem d_Cov_load_9 : decode prog_4_method_9_code 9 = .ok (.if_icmp .ge 51, 3) := by decide +kernel
theorem d_Cov_load_12 : decode prog_4_method_9_code 12 = .ok (.aload_n 1, 1) := by decide +kernel
theorem d_Cov_load_13 : decode prog_4_method_9_code 13 = .ok (.iload_n 3, 1) := by decide +kernel
theorem d_Cov_load_14 : decode prog_4_method_9_code 14 = .ok (.invokevirtual 93, 3) := by decide +kernel
theorem d_Cov_load_17 : decode prog_4_method_9_code 17 = .ok (.ifCond .eq 37, 3) := by decide +kernel
theorem d_Cov_load_20 : decode prog_4_method_9_code 20 = .ok (.iconst 4, 1) := by decide +kernel
theorem d_Cov_load_21 : decode prog_4_method_9_code 21 = .ok (.iload_n 3, 1) := by decide +kernel
theorem d_Cov_load_22 : decode prog_4_method_9_code 22 = .ok (.imul, 1) := by decide +kernel
theorem d_Cov_load_23 : decode prog_4_method_9_code 23 = .ok (.istore 4, 2) := by decide +kernel
theorem d_Cov_load_25 : decode prog_4_method_9_code 25 = .ok (.iload 4, 2) := by decide +kernel
theorem d_Cov_load_27 : decode prog_4_method_9_code 27 = .ok (.iconst 4, 1) := by decide +kernel
theorem d_Cov_load_28 : decode prog_4_method_9_code 28 = .ok (.iload_n 3, 1) := by decide +kernel
theorem d_Cov_load_29 : decode prog_4_method_9_code 29 = .ok (.imul, 1) := by decide +kernel
theorem d_Cov_load_30 : decode prog_4_method_9_code 30 = .ok (.iconst 4, 1) := by decide +kernel
theorem d_Cov_load_31 : decode prog_4_method_9_code 31 = .ok (.iadd, 1) := by decide +kernel
theorem d_Cov_load_32 : decode prog_4_method_9_code 32 = .ok (.if_icmp .ge 22, 3) := by decide +kernel
theorem d_Cov_load_35 : decode prog_4_method_9_code 35 = .ok (.aload_n 2, 1) := by decide +kernel
theorem d_Cov_load_36 : decode prog_4_method_9_code 36 = .ok (.bipush 64, 2) := by decide +kernel
theorem d_Cov_load_38 : decode prog_4_method_9_code 38 = .ok (.iload 4, 2) := by decide +kernel
theorem d_Cov_load_40 : decode prog_4_method_9_code 40 = .ok (.iadd, 1) := by decide +kernel
theorem d_Cov_load_41 : decode prog_4_method_9_code 41 = .ok (.aload_n 0, 1) := by decide +kernel
theorem d_Cov_load_42 : decode prog_4_method_9_code 42 = .ok (.iload 4, 2) := by decide +kernel
theorem d_Cov_load_44 : decode prog_4_method_9_code 44 = .ok (.invokevirtual 99, 3) := by decide +kernel
theorem d_Cov_load_47 : decode prog_4_method_9_code 47 = .ok (.iastore, 1) := by decide +kernel
theorem d_Cov_load_48 : decode prog_4_method_9_code 48 = .ok (.iinc 4 1, 3) := by decide +kernel
theorem d_Cov_load_51 : decode prog_4_method_9_code 51 = .ok (.goto (-26), 3) := by decide +kernel
theorem d_Cov_load_54 : decode prog_4_method_9_code 54 = .ok (.iinc 3 1, 3) := by decide +kernel
theorem d_Cov_load_57 : decode prog_4_method_9_code 57 = .ok (.goto (-51), 3) := by decide +kernel
theorem d_Cov_load_60 : decode prog_4_method_9_code 60 = .ok (.return_, 1) := by decide +kernel
def F_Cov_load_54 (rc_6 : Sg → Nat → Nat → Int32 → Option (Sg)) (σ : Sg) (v1 : Nat) (v2 : Nat) (v3 : Int32) : Option (Sg) := ck (v1 < 3) (ck (v2 < 47) (lt (v3 + 1) (fun y11 => rc_6 σ v1 v2 y11)))
set_option maxRecDepth 10000 in
set_option maxHeartbeats 4000000 in
theorem bt_Cov_load_54 {p : Program} {l : Launch} {e : Env} {R : Room} {s : State} {m : MethodId} {args : Array Value} {below : List Frame} {meth : Method} {c : Code} {D : va_G} {τ : ClassId × ClassId × ClassId} {B : Nat} {A : Nat → Prop} {ad : Nat → Nat} (E : Cx p R s m args meth c prog_4_method_9_code 5 "DrawingMachine$Covering" 3 D τ B A) (hret : meth.sig.returnType = none) (o : Sg) (rc_6 : Sg → Nat → Nat → Int32 → Option (Sg)) (hr_6 : ∀ (σ : Sg) (v1 : Nat) (v2 : Nat) (v3 : Int32) (H : Heap) (locs : List Loc) (ls : Array Slot), rc_6 σ v1 v2 v3 = some o → Wd s D A (wdC τ σ ad) H locs → lv_has ls 5 [(0, .ref (ad 66)), (1, .ref (ad (67 + v1))), (2, .ref (ad v2)), (3, .int v3)] → W p l e R s m args below meth c H locs 0 0 (QV below args s A D τ (wdC τ o ad)) (F0 m 6 ls [])) (σ : Sg) (v1 : Nat) (v2 : Nat) (v3 : Int32) (h : F_Cov_load_54 rc_6 σ v1 v2 v3 = some o) {H : Heap} {locs : List Loc} {ls : Array Slot} (w : Wd s D A (wdC τ σ ad) H locs) (hl : lv_has ls 5 [(0, .ref (ad 66)), (1, .ref (ad (67 + v1))), (2, .ref (ad v2)), (3, .int v3)]) : W p l e R s m args below meth c H locs 0 0 (QV below args s A D τ (wdC τ o ad)) (F0 m 54 ls []) := by
  obtain ⟨c9, h⟩ := ck_some h
  obtain ⟨c10, h⟩ := ck_some h
  obtain ⟨y11, e_y11, h⟩ := lt_some h
  refine lv_iinc (v := y11) (lv' := [(3, .int y11), (0, .ref (ad 66)), (1, .ref (ad (67 + v1))), (2, .ref (ad v2))]) E.x E.b d_Cov_load_54 hl (k := 3) rfl (e_y11) (by decide) rfl (fun ls hl => ?_)
  refine lv_goto (tgt := 6) E.x E.b d_Cov_load_57 (by decide) ?_
  exact hr_6 σ v1 v2 y11 _ _ _ h w (lv_sub hl [1, 2, 3, 0] rfl)
def L_Cov_load_25 (rc_6 : Sg → Nat → Nat → Int32 → Option (Sg)) : Nat → Sg → Nat → Nat → Int32 → Int32 → Option (Sg)
  | 0, _, _, _, _, _ => none
  | n + 1, σ, v1, v2, v3, v4 => ck (v1 < 3) (ck (v2 < 47) (if ((4 * v3) + 4) ≤ v4 then (F_Cov_load_54 rc_6 σ v1 v2 v3) else (bd (F_Cov_valueThere σ v4) (fun o14 => ck (inb (64 + v4) (lenC σ v2)) (lt (sA σ v2 (upd (σ.2.2.1 v2) (64 + v4).toNatClampNeg o14)) (fun σ16 => lt (v4 + 1) (fun y17 => L_Cov_load_25 rc_6 n σ16 v1 v2 v3 y17)))))))
set_option maxRecDepth 10000 in
set_option maxHeartbeats 4000000 in
theorem lt_Cov_load_25 {p : Program} {l : Launch} {e : Env} {R : Room} {s : State} {m : MethodId} {args : Array Value} {below : List Frame} {meth : Method} {c : Code} {D : va_G} {τ : ClassId × ClassId × ClassId} {B : Nat} {A : Nat → Prop} {ad : Nat → Nat} (E : Cx p R s m args meth c prog_4_method_9_code 5 "DrawingMachine$Covering" 3 D τ B A) (hret : meth.sig.returnType = none) (o : Sg) (rc_6 : Sg → Nat → Nat → Int32 → Option (Sg)) (hr_6 : ∀ (σ : Sg) (v1 : Nat) (v2 : Nat) (v3 : Int32) (H : Heap) (locs : List Loc) (ls : Array Slot), rc_6 σ v1 v2 v3 = some o → Wd s D A (wdC τ σ ad) H locs → lv_has ls 5 [(0, .ref (ad 66)), (1, .ref (ad (67 + v1))), (2, .ref (ad v2)), (3, .int v3)] → W p l e R s m args below meth c H locs 0 0 (QV below args s A D τ (wdC τ o ad)) (F0 m 6 ls [])) : ∀ (n : Nat) (σ : Sg) (v1 : Nat) (v2 : Nat) (v3 : Int32) (v4 : Int32) (H : Heap) (locs : List Loc) (ls : Array Slot), L_Cov_load_25 rc_6 n σ v1 v2 v3 v4 = some o → Wd s D A (wdC τ σ ad) H locs → lv_has ls 5 [(0, .ref (ad 66)), (1, .ref (ad (67 + v1))), (2, .ref (ad v2)), (3, .int v3), (4, .int v4)] → W p l e R s m args below meth c H locs 0 0 (QV below args s A D τ (wdC τ o ad)) (F0 m 25 ls []) := by
  intro n
  induction n with
  | zero =>
    intro σ v1 v2 v3 v4 H locs ls h w hl
    cases h
  | succ n hr_25 =>
    intro σ v1 v2 v3 v4 H locs ls h w hl
    obtain ⟨c12, h⟩ := ck_some h
    obtain ⟨c13, h⟩ := ck_some h
    refine lv_iload E.x E.b d_Cov_load_25 (lv_at hl 4 rfl) ?_
    refine lv_iconst (v := 4) E.x E.b d_Cov_load_27 (by decide) ?_
    refine lv_iload_n E.x E.b d_Cov_load_28 rfl (lv_at hl 3 rfl) ?_
    refine lv_imul E.x E.b d_Cov_load_29 ?_
    refine lv_iconst (v := 4) E.x E.b d_Cov_load_30 (by decide) ?_
    refine lv_iadd E.x E.b d_Cov_load_31 ?_
    refine lv_icmp_ge (tgt := 54) E.x E.b d_Cov_load_32 (by decide) (fun c => ?_) (fun c => ?_)
    ·
      replace h := ifT c h
      exact bt_Cov_load_54 E hret o rc_6 hr_6 σ v1 v2 v3 h w (lv_sub hl [0, 1, 2, 3] rfl)
    ·
      replace h := ifF c h
      refine lv_aload_n E.x E.b d_Cov_load_35 rfl (lv_at hl 2 rfl) ?_
      refine lv_bipush (v := 64) E.x E.b d_Cov_load_36 (by decide) ?_
      refine lv_iload E.x E.b d_Cov_load_38 (lv_at hl 4 rfl) ?_
      refine lv_iadd E.x E.b d_Cov_load_40 ?_
      refine lv_aload_n E.x E.b d_Cov_load_41 rfl (lv_at hl 0 rfl) ?_
      refine lv_iload E.x E.b d_Cov_load_42 (lv_at hl 4 rfl) ?_
      obtain ⟨o14, h_o14, h⟩ := bd_some h
      refine clV_Cov_valueThere E w (x0 := v4) h_o14 k1236 (by decide) hl.1 (Nat.le_of_ble_eq_true rfl) d_Cov_load_44 (fun H locs w => ?_)
      obtain ⟨c15, h⟩ := ck_some h
      obtain ⟨σ16, e_σ16, h⟩ := lt_some h
      refine iasC E w (k := v2) c13 c15 e_σ16 d_Cov_load_47 (fun H locs w => ?_)
      obtain ⟨y17, e_y17, h⟩ := lt_some h
      refine lv_iinc (v := y17) (lv' := [(4, .int y17), (0, .ref (ad 66)), (1, .ref (ad (67 + v1))), (2, .ref (ad v2)), (3, .int v3)]) E.x E.b d_Cov_load_48 hl (k := 4) rfl (e_y17) (by decide) rfl (fun ls hl => ?_)
      refine lv_goto (tgt := 25) E.x E.b d_Cov_load_51 (by decide) ?_
      exact hr_25 σ16 v1 v2 v3 y17 _ _ _ h w (lv_sub hl [1, 2, 3, 4, 0] rfl)
def L_Cov_load_6 : Nat → Sg → Nat → Nat → Int32 → Option (Sg)
  | 0, _, _, _, _ => none
  | n + 1, σ, v1, v2, v3 => ck (v1 < 3) (ck (v2 < 47) (if 8 ≤ v3 then (some σ) else (bd (F_Prg_readsIn σ v1 v3) (fun o20 => if o20 = 0 then (F_Cov_load_54 (L_Cov_load_6 n) σ v1 v2 v3) else (lt (4 * v3) (fun y21 => L_Cov_load_25 (L_Cov_load_6 n) 100000 σ v1 v2 v3 y21))))))
set_option maxRecDepth 10000 in
set_option maxHeartbeats 4000000 in
theorem lt_Cov_load_6 {p : Program} {l : Launch} {e : Env} {R : Room} {s : State} {m : MethodId} {args : Array Value} {below : List Frame} {meth : Method} {c : Code} {D : va_G} {τ : ClassId × ClassId × ClassId} {B : Nat} {A : Nat → Prop} {ad : Nat → Nat} (E : Cx p R s m args meth c prog_4_method_9_code 5 "DrawingMachine$Covering" 3 D τ B A) (hret : meth.sig.returnType = none) (o : Sg) : ∀ (n : Nat) (σ : Sg) (v1 : Nat) (v2 : Nat) (v3 : Int32) (H : Heap) (locs : List Loc) (ls : Array Slot), L_Cov_load_6 n σ v1 v2 v3 = some o → Wd s D A (wdC τ σ ad) H locs → lv_has ls 5 [(0, .ref (ad 66)), (1, .ref (ad (67 + v1))), (2, .ref (ad v2)), (3, .int v3)] → W p l e R s m args below meth c H locs 0 0 (QV below args s A D τ (wdC τ o ad)) (F0 m 6 ls []) := by
  intro n
  induction n with
  | zero =>
    intro σ v1 v2 v3 H locs ls h w hl
    cases h
  | succ n hr_6 =>
    intro σ v1 v2 v3 H locs ls h w hl
    obtain ⟨c18, h⟩ := ck_some h
    obtain ⟨c19, h⟩ := ck_some h
    refine lv_iload_n E.x E.b d_Cov_load_6 rfl (lv_at hl 3 rfl) ?_
    refine lv_bipush (v := 8) E.x E.b d_Cov_load_7 (by decide) ?_
    refine lv_icmp_ge (tgt := 60) E.x E.b d_Cov_load_9 (by decide) (fun c => ?_) (fun c => ?_)
    ·
      replace h := ifT c h
      obtain rfl := Option.some.inj h
      exact rt_v E w hret d_Cov_load_60
    ·
      replace h := ifF c h
      refine lv_aload_n E.x E.b d_Cov_load_12 rfl (lv_at hl 1 rfl) ?_
      refine lv_iload_n E.x E.b d_Cov_load_13 rfl (lv_at hl 3 rfl) ?_
      obtain ⟨o20, h_o20, h⟩ := bd_some h
      refine clV_Prg_readsIn E w (p0 := v1) (x0 := v3) h_o20 k1235 (by decide) hl.1 (Nat.le_of_ble_eq_true rfl) d_Cov_load_14 (fun H locs w => ?_)
      refine lv_if_eq (tgt := 54) E.x E.b d_Cov_load_17 (by decide) (fun c => ?_) (fun c => ?_)
      ·
        replace h := ifT c h
        exact bt_Cov_load_54 E hret o (L_Cov_load_6 n) hr_6 σ v1 v2 v3 h w (lv_sub hl [0, 1, 2, 3] rfl)
      ·
        replace h := ifF c h
        refine lv_iconst (v := 4) E.x E.b d_Cov_load_20 (by decide) ?_
        refine lv_iload_n E.x E.b d_Cov_load_21 rfl (lv_at hl 3 rfl) ?_
        refine lv_imul E.x E.b d_Cov_load_22 ?_
        obtain ⟨y21, e_y21, h⟩ := lt_some h
        refine wi_e (v := y21) e_y21 ?_
        refine lv_istore (lv' := [(4, .int y21), (0, .ref (ad 66)), (1, .ref (ad (67 + v1))), (2, .ref (ad v2)), (3, .int v3)]) E.x E.b d_Cov_load_23 hl (by decide) rfl (fun ls hl => ?_)
        exact lt_Cov_load_25 E hret o (L_Cov_load_6 n) hr_6 100000 σ v1 v2 v3 y21 _ _ _ h w (lv_sub hl [1, 2, 3, 4, 0] rfl)
def F_Cov_load (σ : Sg) (p1 : Nat) (ar1 : Nat) : Option (Sg) := ck (p1 < 3) (ck (ar1 < 47) (bd (F_Cov_setShares σ) (fun o24 => L_Cov_load_6 100000 o24 p1 ar1 1)))
set_option maxRecDepth 10000 in
set_option maxHeartbeats 4000000 in
theorem c_Cov_load (l : Launch) (D : va_G) (τ : ClassId × ClassId × ClassId) (B : Nat) (σ : Sg) (ad : Nat → Nat) (p1 : Nat) (ar1 : Nat) (o : Sg) (h : F_Cov_load σ p1 ar1 = some o) : MV l y_Cov_load (Cond.code y_Cov_load prog_4_method_9_code 5 none) 3 D τ B [.ref (ad 66), .ref (ad (67 + p1)), .ref (ad ar1)] (wdC τ σ ad) (wdC τ o ad) := by
  refine en_v (by decide) (Nat.le_of_ble_eq_true rfl) ?_
  intro p e R s m args below meth c H locs ls A E hret w hl
  have E : Cx p R s m args meth c prog_4_method_9_code 5 "DrawingMachine$Covering" 3 D τ B A := E
  have hl : lv_has ls 5 [(0, .ref (ad 66)), (1, .ref (ad (67 + p1))), (2, .ref (ad ar1))] := hl
  obtain ⟨c22, h⟩ := ck_some h
  obtain ⟨c23, h⟩ := ck_some h
  refine lv_aload_n E.x E.b d_Cov_load_0 rfl (lv_at hl 0 rfl) ?_
  obtain ⟨o24, h_o24, h⟩ := bd_some h
  refine clV_Cov_setShares E w h_o24 k1221 (by decide) hl.1 (Nat.le_of_ble_eq_true rfl) d_Cov_load_1 (fun H locs w => ?_)
  refine lv_iconst (v := 1) E.x E.b d_Cov_load_4 (by decide) ?_
  refine lv_istore_n (lv' := [(3, .int 1), (0, .ref (ad 66)), (1, .ref (ad (67 + p1))), (2, .ref (ad ar1))]) E.x E.b d_Cov_load_5 rfl hl (by decide) rfl (fun ls hl => ?_)
  exact lt_Cov_load_6 E hret o 100000 o24 p1 ar1 1 _ _ _ h w (lv_sub hl [1, 2, 3, 0] rfl)
theorem clV_Cov_load {p : Program} {l : Launch} {e : Env} {R : Room} {s : State} {m : MethodId} {args : Array Value} {below : List Frame} {meth : Method} {c : Code} {H : Heap} {locs : List Loc} {Q : State → Prop} {cc : ByteArray} {nL pc lev : Nat} {own : String} {D : va_G} {τ : ClassId × ClassId × ClassId} {B : Nat} {A : Nat → Prop} {σ : Sg} {ad : Nat → Nat} {ls : Array Slot} {rest : List Value} (E : Cx p R s m args meth c cc nL own lev D τ B A) (w : Wd s D A (wdC τ σ ad) H locs) {p1 : Nat} {ar1 : Nat} {o : Sg} (h : F_Cov_load σ p1 ar1 = some o) {index : Nat} (hlk : Cond.methodLink own index y_Cov_load ∈ tw) (hlev : 3 < lev) (hsz : ls.size = nL) (hr : (rest.map fun v => v.category).sum ≤ 8) (hd : decode cc pc = .ok (.invokevirtual index, 3)) (kk : ∀ (H1 : Heap) (locs1 : List Loc), Wd s D A (wdC τ o ad) H1 locs1 → W p l e R s m args below meth c H1 locs1 0 0 Q (F0 m (pc + 3) ls (rest))) : W p l e R s m args below meth c H locs 0 0 Q (F0 m pc ls (.ref (ad ar1) :: .ref (ad (67 + p1)) :: .ref (ad 66) :: rest)) :=
  cr_v w E.C (va_runV (As := [.ref (ad (67 + p1)), .ref (ad ar1)]) (rest := rest) E.fix (c_Cov_load l D τ B σ ad p1 ar1 o h H.size) (cwV 2 E.w (tw_pre (tw_good k1220) (l := [_, _, _, _]) (List.forall_mem_cons.mpr ⟨hlk, List.forall_mem_cons.mpr ⟨k1218, List.forall_mem_cons.mpr ⟨k1219, List.forall_mem_cons.mpr ⟨k12, fun _ h => absurd h List.not_mem_nil⟩⟩⟩⟩)) rfl rfl rfl (by decide +kernel) (E.rm hlev (by decide))) (wd_preV w E.C [.ref (ad (67 + p1)), .ref (ad ar1)] rcC_Cov rfl) rfl rfl hsz rfl (lv_room hr) hd ⟨Nat.zero_le _, Nat.zero_le _⟩) kk

theorem d_Cov_greatestOf_0 : decode prog_4_method_5_code 0 = .ok (.aload_n 1, 1) := by decide +kernel
theorem d_Cov_greatestOf_1 : decode prog_4_method_5_code 1 = .ok (.aload_n 0, 1) := by decide +kernel
theorem d_Cov_greatestOf_2 : decode prog_4_method_5_code 2 = .ok (.getfield 9, 3) := by decide +kernel
theorem d_Cov_greatestOf_5 : decode prog_4_method_5_code 5 = .ok (.iconst 0, 1) := by decide +kernel
theorem d_Cov_greatestOf_6 : decode prog_4_method_5_code 6 = .ok (.iaload, 1) := by decide +kernel
theorem d_Cov_greatestOf_7 : decode prog_4_method_5_code 7 = .ok (.iaload, 1) := by decide +kernel
theorem d_Cov_greatestOf_8 : decode prog_4_method_5_code 8 = .ok (.aload_n 1, 1) := by decide +kernel
theorem d_Cov_greatestOf_9 : decode prog_4_method_5_code 9 = .ok (.aload_n 0, 1) := by decide +kernel
theorem d_Cov_greatestOf_10 : decode prog_4_method_5_code 10 = .ok (.getfield 9, 3) := by decide +kernel
theorem d_Cov_greatestOf_13 : decode prog_4_method_5_code 13 = .ok (.iconst 1, 1) := by decide +kernel
theorem d_Cov_greatestOf_14 : decode prog_4_method_5_code 14 = .ok (.iaload, 1) := by decide +kernel
theorem d_Cov_greatestOf_15 : decode prog_4_method_5_code 15 = .ok (.iaload, 1) := by decide +kernel
theorem d_Cov_greatestOf_16 : decode prog_4_method_5_code 16 = .ok (.aload_n 1, 1) := by decide +kernel
theorem d_Cov_greatestOf_17 : decode prog_4_method_5_code 17 = .ok (.aload_n 0, 1) := by decide +kernel
theorem d_Cov_greatestOf_18 : decode prog_4_method_5_code 18 = .ok (.getfield 9, 3) := by decide +kernel
theorem d_Cov_greatestOf_21 : decode prog_4_method_5_code 21 = .ok (.iconst 2, 1) := by decide +kernel
theorem d_Cov_greatestOf_22 : decode prog_4_method_5_code 22 = .ok (.iaload, 1) := by decide +kernel
theorem d_Cov_greatestOf_23 : decode prog_4_method_5_code 23 = .ok (.iaload, 1) := by decide +kernel
theorem d_Cov_greatestOf_24 : decode prog_4_method_5_code 24 = .ok (.invokestatic 58, 3) := by decide +kernel
theorem d_Cov_greatestOf_27 : decode prog_4_method_5_code 27 = .ok (.invokestatic 58, 3) := by decide +kernel
theorem d_Cov_greatestOf_30 : decode prog_4_method_5_code 30 = .ok (.ireturn, 1) := by decide +kernel
def F_Cov_greatestOf (σ : Sg) (ar0 : Nat) : Option (Int32) := ck (ar0 < 47) (ck (inb (σ.2.2.1 28 0) (lenC σ ar0)) (ck (inb (σ.2.2.1 28 1) (lenC σ ar0)) (ck (inb (σ.2.2.1 28 2) (lenC σ ar0)) (some (imax (σ.2.2.1 ar0 (σ.2.2.1 28 0).toNatClampNeg) (imax (σ.2.2.1 ar0 (σ.2.2.1 28 1).toNatClampNeg) (σ.2.2.1 ar0 (σ.2.2.1 28 2).toNatClampNeg)))))))
set_option maxRecDepth 10000 in
set_option maxHeartbeats 4000000 in
theorem c_Cov_greatestOf (l : Launch) (D : va_G) (τ : ClassId × ClassId × ClassId) (B : Nat) (σ : Sg) (ad : Nat → Nat) (ar0 : Nat) (o : Int32) (h : F_Cov_greatestOf σ ar0 = some o) : MI l y_Cov_greatestOf (Cond.code y_Cov_greatestOf prog_4_method_5_code 2 (some .int)) 0 D τ B [.ref (ad 66), .ref (ad ar0)] (wdC τ σ ad) (wdC τ σ ad) o := by
  refine en_i (by decide) (Nat.le_of_ble_eq_true rfl) ?_
  intro p e R s m args below meth c H locs ls A E hret w hl
  have E : Cx p R s m args meth c prog_4_method_5_code 2 "DrawingMachine$Covering" 0 D τ B A := E
  have hl : lv_has ls 2 [(0, .ref (ad 66)), (1, .ref (ad ar0))] := hl
  obtain ⟨c4, h⟩ := ck_some h
  refine lv_aload_n E.x E.b d_Cov_greatestOf_0 rfl (lv_at hl 1 rfl) ?_
  refine lv_aload_n E.x E.b d_Cov_greatestOf_1 rfl (lv_at hl 0 rfl) ?_
  refine gC_Cov_who E w k333 d_Cov_greatestOf_2 ?_
  refine lv_iconst (v := 0) E.x E.b d_Cov_greatestOf_5 (by decide) ?_
  refine ialC E w (k := 28) (by decide) (show inb 0 3 by decide) d_Cov_greatestOf_6 ?_
  refine wi_e (v := σ.2.2.1 28 0) rfl ?_
  obtain ⟨c5, h⟩ := ck_some h
  refine ialC E w (k := ar0) c4 c5 d_Cov_greatestOf_7 ?_
  refine lv_aload_n E.x E.b d_Cov_greatestOf_8 rfl (lv_at hl 1 rfl) ?_
  refine lv_aload_n E.x E.b d_Cov_greatestOf_9 rfl (lv_at hl 0 rfl) ?_
  refine gC_Cov_who E w k333 d_Cov_greatestOf_10 ?_
  refine lv_iconst (v := 1) E.x E.b d_Cov_greatestOf_13 (by decide) ?_
  refine ialC E w (k := 28) (by decide) (show inb 1 3 by decide) d_Cov_greatestOf_14 ?_
  refine wi_e (v := σ.2.2.1 28 1) rfl ?_
  obtain ⟨c6, h⟩ := ck_some h
  refine ialC E w (k := ar0) c4 c6 d_Cov_greatestOf_15 ?_
  refine lv_aload_n E.x E.b d_Cov_greatestOf_16 rfl (lv_at hl 1 rfl) ?_
  refine lv_aload_n E.x E.b d_Cov_greatestOf_17 rfl (lv_at hl 0 rfl) ?_
  refine gC_Cov_who E w k333 d_Cov_greatestOf_18 ?_
  refine lv_iconst (v := 2) E.x E.b d_Cov_greatestOf_21 (by decide) ?_
  refine ialC E w (k := 28) (by decide) (show inb 2 3 by decide) d_Cov_greatestOf_22 ?_
  refine wi_e (v := σ.2.2.1 28 2) rfl ?_
  obtain ⟨c7, h⟩ := ck_some h
  refine ialC E w (k := ar0) c4 c7 d_Cov_greatestOf_23 ?_
  refine va_mmax E.x E.b (E.2.2.1.trans hl.1.symm) E.o (E.w _ k1202) (E.w _ k560) (E.w _ k25) (E.w _ k561) (Nat.le_trans (by decide) E.2.2.2.2.2.2.1) (Nat.le_trans (Nat.le_of_ble_eq_true rfl) E.2.2.2.2.2.2.2.1) (Nat.zero_le _) (Nat.zero_le _) d_Cov_greatestOf_24 ?_
  refine wi_e (v := imax (σ.2.2.1 ar0 (σ.2.2.1 28 1).toNatClampNeg) (σ.2.2.1 ar0 (σ.2.2.1 28 2).toNatClampNeg)) rfl ?_
  refine va_mmax E.x E.b (E.2.2.1.trans hl.1.symm) E.o (E.w _ k1202) (E.w _ k560) (E.w _ k25) (E.w _ k561) (Nat.le_trans (by decide) E.2.2.2.2.2.2.1) (Nat.le_trans (Nat.le_of_ble_eq_true rfl) E.2.2.2.2.2.2.2.1) (Nat.zero_le _) (Nat.zero_le _) d_Cov_greatestOf_27 ?_
  refine wi_e (v := imax (σ.2.2.1 ar0 (σ.2.2.1 28 0).toNatClampNeg) (imax (σ.2.2.1 ar0 (σ.2.2.1 28 1).toNatClampNeg) (σ.2.2.1 ar0 (σ.2.2.1 28 2).toNatClampNeg))) rfl ?_
  obtain rfl := Option.some.inj h
  exact rt_i E w hret d_Cov_greatestOf_30
theorem clV_Cov_greatestOf {p : Program} {l : Launch} {e : Env} {R : Room} {s : State} {m : MethodId} {args : Array Value} {below : List Frame} {meth : Method} {c : Code} {H : Heap} {locs : List Loc} {Q : State → Prop} {cc : ByteArray} {nL pc lev : Nat} {own : String} {D : va_G} {τ : ClassId × ClassId × ClassId} {B : Nat} {A : Nat → Prop} {σ : Sg} {ad : Nat → Nat} {ls : Array Slot} {rest : List Value} (E : Cx p R s m args meth c cc nL own lev D τ B A) (w : Wd s D A (wdC τ σ ad) H locs) {ar0 : Nat} {o : Int32} (h : F_Cov_greatestOf σ ar0 = some o) {index : Nat} (hlk : Cond.methodLink own index y_Cov_greatestOf ∈ tw) (hlev : 0 < lev) (hsz : ls.size = nL) (hr : (rest.map fun v => v.category).sum ≤ 8) (hd : decode cc pc = .ok (.invokevirtual index, 3)) (kk : ∀ (H1 : Heap) (locs1 : List Loc), Wd s D A (wdC τ σ ad) H1 locs1 → W p l e R s m args below meth c H1 locs1 0 0 Q (F0 m (pc + 3) ls (.int o :: rest))) : W p l e R s m args below meth c H locs 0 0 Q (F0 m pc ls (.ref (ad ar0) :: .ref (ad 66) :: rest)) :=
  cr_i w E.C (va_runV (As := [.ref (ad ar0)]) (rest := rest) E.fix (c_Cov_greatestOf l D τ B σ ad ar0 o h H.size) (cwV 1 E.w (tw_pre (tw_good k1206) (l := [_, _, _, _]) (List.forall_mem_cons.mpr ⟨hlk, List.forall_mem_cons.mpr ⟨k1205, List.forall_mem_cons.mpr ⟨ks28, List.forall_mem_cons.mpr ⟨k12, fun _ h => absurd h List.not_mem_nil⟩⟩⟩⟩)) rfl rfl rfl (by decide +kernel) (E.rm hlev (by decide))) (wd_preV w E.C [.ref (ad ar0)] rcC_Cov rfl) rfl rfl hsz rfl (lv_room hr) hd ⟨Nat.zero_le _, Nat.zero_le _⟩) kk

theorem d_Cov_leastOf_0 : decode prog_4_method_4_code 0 = .ok (.aload_n 1, 1) := by decide +kernel
theorem d_Cov_leastOf_1 : decode prog_4_method_4_code 1 = .ok (.aload_n 0, 1) := by decide +kernel
theorem d_Cov_leastOf_2 : decode prog_4_method_4_code 2 = .ok (.getfield 9, 3) := by decide +kernel
theorem d_Cov_leastOf_5 : decode prog_4_method_4_code 5 = .ok (.iconst 0, 1) := by decide +kernel
theorem d_Cov_leastOf_6 : decode prog_4_method_4_code 6 = .ok (.iaload, 1) := by decide +kernel
theorem d_Cov_leastOf_7 : decode prog_4_method_4_code 7 = .ok (.iaload, 1) := by decide +kernel
theorem d_Cov_leastOf_8 : decode prog_4_method_4_code 8 = .ok (.aload_n 1, 1) := by decide +kernel
theorem d_Cov_leastOf_9 : decode prog_4_method_4_code 9 = .ok (.aload_n 0, 1) := by decide +kernel
theorem d_Cov_leastOf_10 : decode prog_4_method_4_code 10 = .ok (.getfield 9, 3) := by decide +kernel
theorem d_Cov_leastOf_13 : decode prog_4_method_4_code 13 = .ok (.iconst 1, 1) := by decide +kernel
theorem d_Cov_leastOf_14 : decode prog_4_method_4_code 14 = .ok (.iaload, 1) := by decide +kernel
theorem d_Cov_leastOf_15 : decode prog_4_method_4_code 15 = .ok (.iaload, 1) := by decide +kernel
theorem d_Cov_leastOf_16 : decode prog_4_method_4_code 16 = .ok (.aload_n 1, 1) := by decide +kernel
theorem d_Cov_leastOf_17 : decode prog_4_method_4_code 17 = .ok (.aload_n 0, 1) := by decide +kernel
theorem d_Cov_leastOf_18 : decode prog_4_method_4_code 18 = .ok (.getfield 9, 3) := by decide +kernel
theorem d_Cov_leastOf_21 : decode prog_4_method_4_code 21 = .ok (.iconst 2, 1) := by decide +kernel
theorem d_Cov_leastOf_22 : decode prog_4_method_4_code 22 = .ok (.iaload, 1) := by decide +kernel
theorem d_Cov_leastOf_23 : decode prog_4_method_4_code 23 = .ok (.iaload, 1) := by decide +kernel
theorem d_Cov_leastOf_24 : decode prog_4_method_4_code 24 = .ok (.invokestatic 71, 3) := by decide +kernel
theorem d_Cov_leastOf_27 : decode prog_4_method_4_code 27 = .ok (.invokestatic 71, 3) := by decide +kernel
theorem d_Cov_leastOf_30 : decode prog_4_method_4_code 30 = .ok (.ireturn, 1) := by decide +kernel
def F_Cov_leastOf (σ : Sg) (ar0 : Nat) : Option (Int32) := ck (ar0 < 47) (ck (inb (σ.2.2.1 28 0) (lenC σ ar0)) (ck (inb (σ.2.2.1 28 1) (lenC σ ar0)) (ck (inb (σ.2.2.1 28 2) (lenC σ ar0)) (some (imin (σ.2.2.1 ar0 (σ.2.2.1 28 0).toNatClampNeg) (imin (σ.2.2.1 ar0 (σ.2.2.1 28 1).toNatClampNeg) (σ.2.2.1 ar0 (σ.2.2.1 28 2).toNatClampNeg)))))))
set_option maxRecDepth 10000 in
set_option maxHeartbeats 4000000 in
theorem c_Cov_leastOf (l : Launch) (D : va_G) (τ : ClassId × ClassId × ClassId) (B : Nat) (σ : Sg) (ad : Nat → Nat) (ar0 : Nat) (o : Int32) (h : F_Cov_leastOf σ ar0 = some o) : MI l y_Cov_leastOf (Cond.code y_Cov_leastOf prog_4_method_4_code 2 (some .int)) 0 D τ B [.ref (ad 66), .ref (ad ar0)] (wdC τ σ ad) (wdC τ σ ad) o := by
  refine en_i (by decide) (Nat.le_of_ble_eq_true rfl) ?_
  intro p e R s m args below meth c H locs ls A E hret w hl
  have E : Cx p R s m args meth c prog_4_method_4_code 2 "DrawingMachine$Covering" 0 D τ B A := E
  have hl : lv_has ls 2 [(0, .ref (ad 66)), (1, .ref (ad ar0))] := hl
  obtain ⟨c4, h⟩ := ck_some h
  refine lv_aload_n E.x E.b d_Cov_leastOf_0 rfl (lv_at hl 1 rfl) ?_
  refine lv_aload_n E.x E.b d_Cov_leastOf_1 rfl (lv_at hl 0 rfl) ?_
  refine gC_Cov_who E w k333 d_Cov_leastOf_2 ?_
  refine lv_iconst (v := 0) E.x E.b d_Cov_leastOf_5 (by decide) ?_
  refine ialC E w (k := 28) (by decide) (show inb 0 3 by decide) d_Cov_leastOf_6 ?_
  refine wi_e (v := σ.2.2.1 28 0) rfl ?_
  obtain ⟨c5, h⟩ := ck_some h
  refine ialC E w (k := ar0) c4 c5 d_Cov_leastOf_7 ?_
  refine lv_aload_n E.x E.b d_Cov_leastOf_8 rfl (lv_at hl 1 rfl) ?_
  refine lv_aload_n E.x E.b d_Cov_leastOf_9 rfl (lv_at hl 0 rfl) ?_
  refine gC_Cov_who E w k333 d_Cov_leastOf_10 ?_
  refine lv_iconst (v := 1) E.x E.b d_Cov_leastOf_13 (by decide) ?_
  refine ialC E w (k := 28) (by decide) (show inb 1 3 by decide) d_Cov_leastOf_14 ?_
  refine wi_e (v := σ.2.2.1 28 1) rfl ?_
  obtain ⟨c6, h⟩ := ck_some h
  refine ialC E w (k := ar0) c4 c6 d_Cov_leastOf_15 ?_
  refine lv_aload_n E.x E.b d_Cov_leastOf_16 rfl (lv_at hl 1 rfl) ?_
  refine lv_aload_n E.x E.b d_Cov_leastOf_17 rfl (lv_at hl 0 rfl) ?_
  refine gC_Cov_who E w k333 d_Cov_leastOf_18 ?_
  refine lv_iconst (v := 2) E.x E.b d_Cov_leastOf_21 (by decide) ?_
  refine ialC E w (k := 28) (by decide) (show inb 2 3 by decide) d_Cov_leastOf_22 ?_
  refine wi_e (v := σ.2.2.1 28 2) rfl ?_
  obtain ⟨c7, h⟩ := ck_some h
  refine ialC E w (k := ar0) c4 c7 d_Cov_leastOf_23 ?_
  refine va_mmin E.x E.b (E.2.2.1.trans hl.1.symm) E.o (E.w _ k1201) (E.w _ k563) (E.w _ k25) (E.w _ k564) (Nat.le_trans (by decide) E.2.2.2.2.2.2.1) (Nat.le_trans (Nat.le_of_ble_eq_true rfl) E.2.2.2.2.2.2.2.1) (Nat.zero_le _) (Nat.zero_le _) d_Cov_leastOf_24 ?_
  refine wi_e (v := imin (σ.2.2.1 ar0 (σ.2.2.1 28 1).toNatClampNeg) (σ.2.2.1 ar0 (σ.2.2.1 28 2).toNatClampNeg)) rfl ?_
  refine va_mmin E.x E.b (E.2.2.1.trans hl.1.symm) E.o (E.w _ k1201) (E.w _ k563) (E.w _ k25) (E.w _ k564) (Nat.le_trans (by decide) E.2.2.2.2.2.2.1) (Nat.le_trans (Nat.le_of_ble_eq_true rfl) E.2.2.2.2.2.2.2.1) (Nat.zero_le _) (Nat.zero_le _) d_Cov_leastOf_27 ?_
  refine wi_e (v := imin (σ.2.2.1 ar0 (σ.2.2.1 28 0).toNatClampNeg) (imin (σ.2.2.1 ar0 (σ.2.2.1 28 1).toNatClampNeg) (σ.2.2.1 ar0 (σ.2.2.1 28 2).toNatClampNeg))) rfl ?_
  obtain rfl := Option.some.inj h
  exact rt_i E w hret d_Cov_leastOf_30
theorem clV_Cov_leastOf {p : Program} {l : Launch} {e : Env} {R : Room} {s : State} {m : MethodId} {args : Array Value} {below : List Frame} {meth : Method} {c : Code} {H : Heap} {locs : List Loc} {Q : State → Prop} {cc : ByteArray} {nL pc lev : Nat} {own : String} {D : va_G} {τ : ClassId × ClassId × ClassId} {B : Nat} {A : Nat → Prop} {σ : Sg} {ad : Nat → Nat} {ls : Array Slot} {rest : List Value} (E : Cx p R s m args meth c cc nL own lev D τ B A) (w : Wd s D A (wdC τ σ ad) H locs) {ar0 : Nat} {o : Int32} (h : F_Cov_leastOf σ ar0 = some o) {index : Nat} (hlk : Cond.methodLink own index y_Cov_leastOf ∈ tw) (hlev : 0 < lev) (hsz : ls.size = nL) (hr : (rest.map fun v => v.category).sum ≤ 8) (hd : decode cc pc = .ok (.invokevirtual index, 3)) (kk : ∀ (H1 : Heap) (locs1 : List Loc), Wd s D A (wdC τ σ ad) H1 locs1 → W p l e R s m args below meth c H1 locs1 0 0 Q (F0 m (pc + 3) ls (.int o :: rest))) : W p l e R s m args below meth c H locs 0 0 Q (F0 m pc ls (.ref (ad ar0) :: .ref (ad 66) :: rest)) :=
  cr_i w E.C (va_runV (As := [.ref (ad ar0)]) (rest := rest) E.fix (c_Cov_leastOf l D τ B σ ad ar0 o h H.size) (cwV 1 E.w (tw_pre (tw_good k1200) (l := [_, _, _, _]) (List.forall_mem_cons.mpr ⟨hlk, List.forall_mem_cons.mpr ⟨k1199, List.forall_mem_cons.mpr ⟨ks27, List.forall_mem_cons.mpr ⟨k12, fun _ h => absurd h List.not_mem_nil⟩⟩⟩⟩)) rfl rfl rfl (by decide +kernel) (E.rm hlev (by decide))) (wd_preV w E.C [.ref (ad ar0)] rcC_Cov rfl) rfl rfl hsz rfl (lv_room hr) hd ⟨Nat.zero_le _, Nat.zero_le _⟩) kk

theorem d_Cov_setEdge_0 : decode prog_4_method_6_code 0 = .ok (.aload_n 0, 1) := by decide +kernel
theorem d_Cov_setEdge_1 : decode prog_4_method_6_code 1 = .ok (.getfield 34, 3) := by decide +kernel
theorem d_Cov_setEdge_4 : decode prog_4_method_6_code 4 = .ok (.getfield 38, 3) := by decide +kernel
theorem d_Cov_setEdge_7 : decode prog_4_method_6_code 7 = .ok (.iload_n 3, 1) := by decide +kernel
theorem d_Cov_setEdge_8 : decode prog_4_method_6_code 8 = .ok (.iaload, 1) := by decide +kernel
theorem d_Cov_setEdge_9 : decode prog_4_method_6_code 9 = .ok (.aload_n 0, 1) := by decide +kernel
theorem d_Cov_setEdge_10 : decode prog_4_method_6_code 10 = .ok (.getfield 34, 3) := by decide +kernel
theorem d_Cov_setEdge_13 : decode prog_4_method_6_code 13 = .ok (.getfield 38, 3) := by decide +kernel
theorem d_Cov_setEdge_16 : decode prog_4_method_6_code 16 = .ok (.iload_n 2, 1) := by decide +kernel
theorem d_Cov_setEdge_17 : decode prog_4_method_6_code 17 = .ok (.iaload, 1) := by decide +kernel
theorem d_Cov_setEdge_18 : decode prog_4_method_6_code 18 = .ok (.isub, 1) := by decide +kernel
theorem d_Cov_setEdge_19 : decode prog_4_method_6_code 19 = .ok (.i2l, 1) := by decide +kernel
theorem d_Cov_setEdge_20 : decode prog_4_method_6_code 20 = .ok (.lstore 4, 2) := by decide +kernel
theorem d_Cov_setEdge_22 : decode prog_4_method_6_code 22 = .ok (.aload_n 0, 1) := by decide +kernel
theorem d_Cov_setEdge_23 : decode prog_4_method_6_code 23 = .ok (.getfield 34, 3) := by decide +kernel
theorem d_Cov_setEdge_26 : decode prog_4_method_6_code 26 = .ok (.getfield 43, 3) := by decide +kernel
theorem d_Cov_setEdge_29 : decode prog_4_method_6_code 29 = .ok (.iload_n 3, 1) := by decide +kernel
theorem d_Cov_setEdge_30 : decode prog_4_method_6_code 30 = .ok (.iaload, 1) := by decide +kernel
theorem d_Cov_setEdge_31 : decode prog_4_method_6_code 31 = .ok (.aload_n 0, 1) := by decide +kernel
theorem d_Cov_setEdge_32 : decode prog_4_method_6_code 32 = .ok (.getfield 34, 3) := by decide +kernel
theorem d_Cov_setEdge_35 : decode prog_4_method_6_code 35 = .ok (.getfield 43, 3) := by decide +kernel
theorem d_Cov_setEdge_38 : decode prog_4_method_6_code 38 = .ok (.iload_n 2, 1) := by decide +kernel
theorem d_Cov_setEdge_39 : decode prog_4_method_6_code 39 = .ok (.iaload, 1) := by decide +kernel
theorem d_Cov_setEdge_40 : decode prog_4_method_6_code 40 = .ok (.isub, 1) := by decide +kernel
theorem d_Cov_setEdge_41 : decode prog_4_method_6_code 41 = .ok (.i2l, 1) := by decide +kernel
theorem d_Cov_setEdge_42 : decode prog_4_method_6_code 42 = .ok (.lstore 6, 2) := by decide +kernel
theorem d_Cov_setEdge_44 : decode prog_4_method_6_code 44 = .ok (.aload_n 0, 1) := by decide +kernel
theorem d_Cov_setEdge_45 : decode prog_4_method_6_code 45 = .ok (.getfield 15, 3) := by decide +kernel
theorem d_Cov_setEdge_48 : decode prog_4_method_6_code 48 = .ok (.iload_n 1, 1) := by decide +kernel
theorem d_Cov_setEdge_49 : decode prog_4_method_6_code 49 = .ok (.ldc2_w 83, 3) := by decide +kernel
theorem d_Cov_setEdge_52 : decode prog_4_method_6_code 52 = .ok (.lload 6, 2) := by decide +kernel
theorem d_Cov_setEdge_54 : decode prog_4_method_6_code 54 = .ok (.lmul, 1) := by decide +kernel
theorem d_Cov_setEdge_55 : decode prog_4_method_6_code 55 = .ok (.lastore, 1) := by decide +kernel
theorem d_Cov_setEdge_56 : decode prog_4_method_6_code 56 = .ok (.aload_n 0, 1) := by decide +kernel
theorem d_Cov_setEdge_57 : decode prog_4_method_6_code 57 = .ok (.getfield 19, 3) := by decide +kernel
theorem d_Cov_setEdge_60 : decode prog_4_method_6_code 60 = .ok (.iload_n 1, 1) := by decide +kernel
theorem d_Cov_setEdge_61 : decode prog_4_method_6_code 61 = .ok (.ldc2_w 85, 3) := by decide +kernel
theorem d_Cov_setEdge_64 : decode prog_4_method_6_code 64 = .ok (.lload 4, 2) := by decide +kernel
theorem d_Cov_setEdge_66 : decode prog_4_method_6_code 66 = .ok (.lmul, 1) := by decide +kernel
theorem d_Cov_setEdge_67 : decode prog_4_method_6_code 67 = .ok (.lastore, 1) := by decide +kernel
theorem d_Cov_setEdge_68 : decode prog_4_method_6_code 68 = .ok (.aload_n 0, 1) := by decide +kernel
theorem d_Cov_setEdge_69 : decode prog_4_method_6_code 69 = .ok (.getfield 22, 3) := by decide +kernel
theorem d_Cov_setEdge_72 : decode prog_4_method_6_code 72 = .ok (.iload_n 1, 1) := by decide +kernel
theorem d_Cov_setEdge_73 : decode prog_4_method_6_code 73 = .ok (.lload 4, 2) := by decide +kernel
theorem d_Cov_setEdge_75 : decode prog_4_method_6_code 75 = .ok (.bipush 8, 2) := by decide +kernel
theorem d_Cov_setEdge_77 : decode prog_4_method_6_code 77 = .ok (.aload_n 0, 1) := by decide +kernel
theorem d_Cov_setEdge_78 : decode prog_4_method_6_code 78 = .ok (.getfield 34, 3) := by decide +kernel
theorem d_Cov_setEdge_81 : decode prog_4_method_6_code 81 = .ok (.getfield 43, 3) := by decide +kernel
theorem d_Cov_setEdge_84 : decode prog_4_method_6_code 84 = .ok (.iload_n 2, 1) := by decide +kernel
theorem d_Cov_setEdge_85 : decode prog_4_method_6_code 85 = .ok (.iaload, 1) := by decide +kernel
theorem d_Cov_setEdge_86 : decode prog_4_method_6_code 86 = .ok (.isub, 1) := by decide +kernel
theorem d_Cov_setEdge_87 : decode prog_4_method_6_code 87 = .ok (.i2l, 1) := by decide +kernel
theorem d_Cov_setEdge_88 : decode prog_4_method_6_code 88 = .ok (.lmul, 1) := by decide +kernel
theorem d_Cov_setEdge_89 : decode prog_4_method_6_code 89 = .ok (.lload 6, 2) := by decide +kernel
theorem d_Cov_setEdge_91 : decode prog_4_method_6_code 91 = .ok (.bipush 8, 2) := by decide +kernel
theorem d_Cov_setEdge_93 : decode prog_4_method_6_code 93 = .ok (.aload_n 0, 1) := by decide +kernel
theorem d_Cov_setEdge_94 : decode prog_4_method_6_code 94 = .ok (.getfield 34, 3) := by decide +kernel
theorem d_Cov_setEdge_97 : decode prog_4_method_6_code 97 = .ok (.getfield 38, 3) := by decide +kernel
theorem d_Cov_setEdge_100 : decode prog_4_method_6_code 100 = .ok (.iload_n 2, 1) := by decide +kernel
theorem d_Cov_setEdge_101 : decode prog_4_method_6_code 101 = .ok (.iaload, 1) := by decide +kernel
theorem d_Cov_setEdge_102 : decode prog_4_method_6_code 102 = .ok (.isub, 1) := by decide +kernel
theorem d_Cov_setEdge_103 : decode prog_4_method_6_code 103 = .ok (.i2l, 1) := by decide +kernel
theorem d_Cov_setEdge_104 : decode prog_4_method_6_code 104 = .ok (.lmul, 1) := by decide +kernel
theorem d_Cov_setEdge_105 : decode prog_4_method_6_code 105 = .ok (.lsub, 1) := by decide +kernel
theorem d_Cov_setEdge_106 : decode prog_4_method_6_code 106 = .ok (.lastore, 1) := by decide +kernel
theorem d_Cov_setEdge_107 : decode prog_4_method_6_code 107 = .ok (.lload 6, 2) := by decide +kernel
theorem d_Cov_setEdge_109 : decode prog_4_method_6_code 109 = .ok (.lconst 0, 1) := by decide +kernel
theorem d_Cov_setEdge_110 : decode prog_4_method_6_code 110 = .ok (.lcmp, 1) := by decide +kernel
theorem d_Cov_setEdge_111 : decode prog_4_method_6_code 111 = .ok (.ifCond .ne 10, 3) := by decide +kernel
theorem d_Cov_setEdge_114 : decode prog_4_method_6_code 114 = .ok (.lload 4, 2) := by decide +kernel
theorem d_Cov_setEdge_116 : decode prog_4_method_6_code 116 = .ok (.lconst 0, 1) := by decide +kernel
theorem d_Cov_setEdge_117 : decode prog_4_method_6_code 117 = .ok (.lcmp, 1) := by decide +kernel
theorem d_Cov_setEdge_118 : decode prog_4_method_6_code 118 = .ok (.ifCond .gt 10, 3) := by decide +kernel
theorem d_Cov_setEdge_121 : decode prog_4_method_6_code 121 = .ok (.lload 6, 2) := by decide +kernel
theorem d_Cov_setEdge_123 : decode prog_4_method_6_code 123 = .ok (.lconst 0, 1) := by decide +kernel
theorem d_Cov_setEdge_124 : decode prog_4_method_6_code 124 = .ok (.lcmp, 1) := by decide +kernel
theorem d_Cov_setEdge_125 : decode prog_4_method_6_code 125 = .ok (.ifCond .ge 7, 3) := by decide +kernel
theorem d_Cov_setEdge_128 : decode prog_4_method_6_code 128 = .ok (.iconst 1, 1) := by decide +kernel
theorem d_Cov_setEdge_129 : decode prog_4_method_6_code 129 = .ok (.goto 4, 3) := by decide +kernel
theorem d_Cov_setEdge_132 : decode prog_4_method_6_code 132 = .ok (.iconst 0, 1) := by decide +kernel
theorem d_Cov_setEdge_133 : decode prog_4_method_6_code 133 = .ok (.istore 8, 2) := by decide +kernel
theorem d_Cov_setEdge_135 : decode prog_4_method_6_code 135 = .ok (.aload_n 0, 1) := by decide +kernel
theorem d_Cov_setEdge_136 : decode prog_4_method_6_code 136 = .ok (.getfield 25, 3) := by decide +kernel
theorem d_Cov_setEdge_139 : decode prog_4_method_6_code 139 = .ok (.iload_n 1, 1) := by decide +kernel
theorem d_Cov_setEdge_140 : decode prog_4_method_6_code 140 = .ok (.iload 8, 2) := by decide +kernel
theorem d_Cov_setEdge_142 : decode prog_4_method_6_code 142 = .ok (.ifCond .eq 7, 3) := by decide +kernel
theorem d_Cov_setEdge_145 : decode prog_4_method_6_code 145 = .ok (.lconst 0, 1) := by decide +kernel
theorem d_Cov_setEdge_146 : decode prog_4_method_6_code 146 = .ok (.goto 4, 3) := by decide +kernel
theorem d_Cov_setEdge_149 : decode prog_4_method_6_code 149 = .ok (.lconst 1, 1) := by decide +kernel
theorem d_Cov_setEdge_150 : decode prog_4_method_6_code 150 = .ok (.lastore, 1) := by decide +kernel
theorem d_Cov_setEdge_151 : decode prog_4_method_6_code 151 = .ok (.return_, 1) := by decide +kernel
def F_Cov_setEdge_150 (σ : Sg) (s1 : Int32) (s2 : Int64) : Option (Sg) := ck (inb s1 3) (lt (sB σ 4 (vp_updL (σ.2.2.2.1 4) s1.toNatClampNeg s2)) (fun σ18 => some σ18))
set_option maxRecDepth 10000 in
set_option maxHeartbeats 4000000 in
theorem bt_Cov_setEdge_150 {p : Program} {l : Launch} {e : Env} {R : Room} {s : State} {m : MethodId} {args : Array Value} {below : List Frame} {meth : Method} {c : Code} {D : va_G} {τ : ClassId × ClassId × ClassId} {B : Nat} {A : Nat → Prop} {ad : Nat → Nat} (E : Cx p R s m args meth c prog_4_method_6_code 9 "DrawingMachine$Covering" 0 D τ B A) (hret : meth.sig.returnType = none) (o : Sg) (σ : Sg) (s1 : Int32) (s2 : Int64) (h : F_Cov_setEdge_150 σ s1 s2 = some o) {H : Heap} {locs : List Loc} {ls : Array Slot} (w : Wd s D A (wdC τ σ ad) H locs) (hl : lv_has ls 9 []) : W p l e R s m args below meth c H locs 0 0 (QV below args s A D τ (wdC τ o ad)) (F0 m 150 ls [.long s2, .int s1, .ref (ad 51)]) := by
  obtain ⟨c17, h⟩ := ck_some h
  obtain ⟨σ18, e_σ18, h⟩ := lt_some h
  refine lasC_4 E w c17 e_σ18 d_Cov_setEdge_150 (fun H locs w => ?_)
  obtain rfl := Option.some.inj h
  exact rt_v E w hret d_Cov_setEdge_151
def F_Cov_setEdge_133 (σ : Sg) (v1 : Int32) (s0 : Int32) : Option (Sg) := if s0 = 0 then (F_Cov_setEdge_150 σ v1 1) else (F_Cov_setEdge_150 σ v1 0)
set_option maxRecDepth 10000 in
set_option maxHeartbeats 4000000 in
theorem bt_Cov_setEdge_133 {p : Program} {l : Launch} {e : Env} {R : Room} {s : State} {m : MethodId} {args : Array Value} {below : List Frame} {meth : Method} {c : Code} {D : va_G} {τ : ClassId × ClassId × ClassId} {B : Nat} {A : Nat → Prop} {ad : Nat → Nat} (E : Cx p R s m args meth c prog_4_method_6_code 9 "DrawingMachine$Covering" 0 D τ B A) (hret : meth.sig.returnType = none) (o : Sg) (σ : Sg) (v1 : Int32) (s0 : Int32) (h : F_Cov_setEdge_133 σ v1 s0 = some o) {H : Heap} {locs : List Loc} {ls : Array Slot} (w : Wd s D A (wdC τ σ ad) H locs) (hl : lv_has ls 9 [(0, .ref (ad 66)), (1, .int v1)]) : W p l e R s m args below meth c H locs 0 0 (QV below args s A D τ (wdC τ o ad)) (F0 m 133 ls [.int s0]) := by
  refine lv_istore (lv' := [(8, .int s0), (0, .ref (ad 66)), (1, .int v1)]) E.x E.b d_Cov_setEdge_133 hl (by decide) rfl (fun ls hl => ?_)
  refine lv_aload_n E.x E.b d_Cov_setEdge_135 rfl (lv_at hl 1 rfl) ?_
  refine gC_Cov_least E w k337 d_Cov_setEdge_136 ?_
  refine lv_iload_n E.x E.b d_Cov_setEdge_139 rfl (lv_at hl 2 rfl) ?_
  refine lv_iload E.x E.b d_Cov_setEdge_140 (lv_at hl 0 rfl) ?_
  refine lv_if_eq (tgt := 149) E.x E.b d_Cov_setEdge_142 (by decide) (fun c => ?_) (fun c => ?_)
  ·
    replace h := ifT c h
    refine lv_lconst (v := 1) E.x E.b d_Cov_setEdge_149 (by decide) ?_
    exact bt_Cov_setEdge_150 E hret o σ v1 1 h w (lv_sub hl [] rfl)
  ·
    replace h := ifF c h
    refine lv_lconst (v := 0) E.x E.b d_Cov_setEdge_145 (by decide) ?_
    refine lv_goto (tgt := 150) E.x E.b d_Cov_setEdge_146 (by decide) ?_
    exact bt_Cov_setEdge_150 E hret o σ v1 0 h w (lv_sub hl [] rfl)
def F_Cov_setEdge_128 (σ : Sg) (v1 : Int32) : Option (Sg) := F_Cov_setEdge_133 σ v1 1
set_option maxRecDepth 10000 in
set_option maxHeartbeats 4000000 in
theorem bt_Cov_setEdge_128 {p : Program} {l : Launch} {e : Env} {R : Room} {s : State} {m : MethodId} {args : Array Value} {below : List Frame} {meth : Method} {c : Code} {D : va_G} {τ : ClassId × ClassId × ClassId} {B : Nat} {A : Nat → Prop} {ad : Nat → Nat} (E : Cx p R s m args meth c prog_4_method_6_code 9 "DrawingMachine$Covering" 0 D τ B A) (hret : meth.sig.returnType = none) (o : Sg) (σ : Sg) (v1 : Int32) (h : F_Cov_setEdge_128 σ v1 = some o) {H : Heap} {locs : List Loc} {ls : Array Slot} (w : Wd s D A (wdC τ σ ad) H locs) (hl : lv_has ls 9 [(0, .ref (ad 66)), (1, .int v1)]) : W p l e R s m args below meth c H locs 0 0 (QV below args s A D τ (wdC τ o ad)) (F0 m 128 ls []) := by
  refine lv_iconst (v := 1) E.x E.b d_Cov_setEdge_128 (by decide) ?_
  refine lv_goto (tgt := 133) E.x E.b d_Cov_setEdge_129 (by decide) ?_
  exact bt_Cov_setEdge_133 E hret o σ v1 1 h w (lv_sub hl [0, 1] rfl)
def F_Cov_setEdge_121 (σ : Sg) (v1 : Int32) (v6 : Int64) : Option (Sg) := if 0 ≤ v6 then (F_Cov_setEdge_133 σ v1 0) else (F_Cov_setEdge_128 σ v1)
set_option maxRecDepth 10000 in
set_option maxHeartbeats 4000000 in
theorem bt_Cov_setEdge_121 {p : Program} {l : Launch} {e : Env} {R : Room} {s : State} {m : MethodId} {args : Array Value} {below : List Frame} {meth : Method} {c : Code} {D : va_G} {τ : ClassId × ClassId × ClassId} {B : Nat} {A : Nat → Prop} {ad : Nat → Nat} (E : Cx p R s m args meth c prog_4_method_6_code 9 "DrawingMachine$Covering" 0 D τ B A) (hret : meth.sig.returnType = none) (o : Sg) (σ : Sg) (v1 : Int32) (v6 : Int64) (h : F_Cov_setEdge_121 σ v1 v6 = some o) {H : Heap} {locs : List Loc} {ls : Array Slot} (w : Wd s D A (wdC τ σ ad) H locs) (hl : lv_has ls 9 [(0, .ref (ad 66)), (1, .int v1), (6, .long v6)]) : W p l e R s m args below meth c H locs 0 0 (QV below args s A D τ (wdC τ o ad)) (F0 m 121 ls []) := by
  refine lv_lload E.x E.b d_Cov_setEdge_121 (lv_at hl 2 rfl) ?_
  refine lv_lconst (v := 0) E.x E.b d_Cov_setEdge_123 (by decide) ?_
  refine W.lcmp E.x E.b d_Cov_setEdge_124 ?_
  refine lv_if_ge (tgt := 132) E.x E.b d_Cov_setEdge_125 (by decide) (fun c => ?_) (fun c => ?_)
  ·
    replace h := ifT (lgc_ge.mp c) h
    refine lv_iconst (v := 0) E.x E.b d_Cov_setEdge_132 (by decide) ?_
    exact bt_Cov_setEdge_133 E hret o σ v1 0 h w (lv_sub hl [0, 1] rfl)
  ·
    replace h := ifF (fun h9 => c (lgc_ge.mpr h9)) h
    exact bt_Cov_setEdge_128 E hret o σ v1 h w (lv_sub hl [0, 1] rfl)
def F_Cov_setEdge (σ : Sg) (x0 : Int32) (x1 : Int32) (x2 : Int32) : Option (Sg) := ck (inb x2 8) (ck (inb x1 8) (lt (((σ.2.2.1 24 x2.toNatClampNeg) - (σ.2.2.1 24 x1.toNatClampNeg)).toInt64) (fun y21 => ck (inb x2 8) (ck (inb x1 8) (lt (((σ.2.2.1 25 x2.toNatClampNeg) - (σ.2.2.1 25 x1.toNatClampNeg)).toInt64) (fun y24 => ck (inb x0 3) (lt (sB σ 1 (vp_updL (σ.2.2.2.1 1) x0.toNatClampNeg ((-16) * y24))) (fun σ26 => ck (inb x0 3) (lt (sB σ26 2 (vp_updL (σ26.2.2.2.1 2) x0.toNatClampNeg (16 * y21))) (fun σ28 => ck (inb x1 8) (ck (inb x1 8) (ck (inb x0 3) (lt (sB σ28 3 (vp_updL (σ28.2.2.2.1 3) x0.toNatClampNeg ((y21 * ((8 - (σ28.2.2.1 25 x1.toNatClampNeg)).toInt64)) - (y24 * ((8 - (σ28.2.2.1 24 x1.toNatClampNeg)).toInt64))))) (fun σ32 => if y24 = 0 then (if 0 < y21 then (F_Cov_setEdge_128 σ32 x0) else (F_Cov_setEdge_121 σ32 x0 y24)) else (F_Cov_setEdge_121 σ32 x0 y24)))))))))))))))
set_option maxRecDepth 10000 in
set_option maxHeartbeats 4000000 in
theorem c_Cov_setEdge (l : Launch) (D : va_G) (τ : ClassId × ClassId × ClassId) (B : Nat) (σ : Sg) (ad : Nat → Nat) (x0 : Int32) (x1 : Int32) (x2 : Int32) (o : Sg) (h : F_Cov_setEdge σ x0 x1 x2 = some o) : MV l y_Cov_setEdge (Cond.code y_Cov_setEdge prog_4_method_6_code 9 none) 0 D τ B [.ref (ad 66), .int x0, .int x1, .int x2] (wdC τ σ ad) (wdC τ o ad) := by
  refine en_v (by decide) (Nat.le_of_ble_eq_true rfl) ?_
  intro p e R s m args below meth c H locs ls A E hret w hl
  have E : Cx p R s m args meth c prog_4_method_6_code 9 "DrawingMachine$Covering" 0 D τ B A := E
  have hl : lv_has ls 9 [(0, .ref (ad 66)), (1, .int x0), (2, .int x1), (3, .int x2)] := hl
  refine lv_aload_n E.x E.b d_Cov_setEdge_0 rfl (lv_at hl 0 rfl) ?_
  refine gC_Cov_shape E w k332 d_Cov_setEdge_1 ?_
  refine gC_Sha_x E w k291 d_Cov_setEdge_4 ?_
  refine lv_iload_n E.x E.b d_Cov_setEdge_7 rfl (lv_at hl 3 rfl) ?_
  obtain ⟨c19, h⟩ := ck_some h
  refine ialC E w (k := 24) (by decide) c19 d_Cov_setEdge_8 ?_
  refine lv_aload_n E.x E.b d_Cov_setEdge_9 rfl (lv_at hl 0 rfl) ?_
  refine gC_Cov_shape E w k332 d_Cov_setEdge_10 ?_
  refine gC_Sha_x E w k291 d_Cov_setEdge_13 ?_
  refine lv_iload_n E.x E.b d_Cov_setEdge_16 rfl (lv_at hl 2 rfl) ?_
  obtain ⟨c20, h⟩ := ck_some h
  refine ialC E w (k := 24) (by decide) c20 d_Cov_setEdge_17 ?_
  refine lv_isub E.x E.b d_Cov_setEdge_18 ?_
  refine lv_i2l (v := ((σ.2.2.1 24 x2.toNatClampNeg) - (σ.2.2.1 24 x1.toNatClampNeg)).toInt64) E.x E.b d_Cov_setEdge_19 rfl ?_
  obtain ⟨y21, e_y21, h⟩ := lt_some h
  refine wl_e (v := y21) e_y21 ?_
  refine lv_lstore (lv' := [(4, .long y21), (0, .ref (ad 66)), (1, .int x0), (2, .int x1), (3, .int x2)]) E.x E.b d_Cov_setEdge_20 hl (by decide) rfl (fun ls hl => ?_)
  refine lv_aload_n E.x E.b d_Cov_setEdge_22 rfl (lv_at hl 1 rfl) ?_
  refine gC_Cov_shape E w k332 d_Cov_setEdge_23 ?_
  refine gC_Sha_y E w k293 d_Cov_setEdge_26 ?_
  refine lv_iload_n E.x E.b d_Cov_setEdge_29 rfl (lv_at hl 4 rfl) ?_
  obtain ⟨c22, h⟩ := ck_some h
  refine ialC E w (k := 25) (by decide) c22 d_Cov_setEdge_30 ?_
  refine lv_aload_n E.x E.b d_Cov_setEdge_31 rfl (lv_at hl 1 rfl) ?_
  refine gC_Cov_shape E w k332 d_Cov_setEdge_32 ?_
  refine gC_Sha_y E w k293 d_Cov_setEdge_35 ?_
  refine lv_iload_n E.x E.b d_Cov_setEdge_38 rfl (lv_at hl 3 rfl) ?_
  obtain ⟨c23, h⟩ := ck_some h
  refine ialC E w (k := 25) (by decide) c23 d_Cov_setEdge_39 ?_
  refine lv_isub E.x E.b d_Cov_setEdge_40 ?_
  refine lv_i2l (v := ((σ.2.2.1 25 x2.toNatClampNeg) - (σ.2.2.1 25 x1.toNatClampNeg)).toInt64) E.x E.b d_Cov_setEdge_41 rfl ?_
  obtain ⟨y24, e_y24, h⟩ := lt_some h
  refine wl_e (v := y24) e_y24 ?_
  refine lv_lstore (lv' := [(6, .long y24), (4, .long y21), (0, .ref (ad 66)), (1, .int x0), (2, .int x1), (3, .int x2)]) E.x E.b d_Cov_setEdge_42 hl (by decide) rfl (fun ls hl => ?_)
  refine lv_aload_n E.x E.b d_Cov_setEdge_44 rfl (lv_at hl 2 rfl) ?_
  refine gC_Cov_along E w k334 d_Cov_setEdge_45 ?_
  refine lv_iload_n E.x E.b d_Cov_setEdge_48 rfl (lv_at hl 3 rfl) ?_
  refine lv_ldc2 (v := (-16)) E.x E.b E.o (E.w _ k1195) d_Cov_setEdge_49 ?_
  refine lv_lload E.x E.b d_Cov_setEdge_52 (lv_at hl 0 rfl) ?_
  refine lv_lmul E.x E.b d_Cov_setEdge_54 ?_
  obtain ⟨c25, h⟩ := ck_some h
  obtain ⟨σ26, e_σ26, h⟩ := lt_some h
  refine lasC_1 E w c25 e_σ26 d_Cov_setEdge_55 (fun H locs w => ?_)
  refine lv_aload_n E.x E.b d_Cov_setEdge_56 rfl (lv_at hl 2 rfl) ?_
  refine gC_Cov_down E w k335 d_Cov_setEdge_57 ?_
  refine lv_iload_n E.x E.b d_Cov_setEdge_60 rfl (lv_at hl 3 rfl) ?_
  refine lv_ldc2 (v := 16) E.x E.b E.o (E.w _ k1196) d_Cov_setEdge_61 ?_
  refine lv_lload E.x E.b d_Cov_setEdge_64 (lv_at hl 1 rfl) ?_
  refine lv_lmul E.x E.b d_Cov_setEdge_66 ?_
  obtain ⟨c27, h⟩ := ck_some h
  obtain ⟨σ28, e_σ28, h⟩ := lt_some h
  refine lasC_2 E w c27 e_σ28 d_Cov_setEdge_67 (fun H locs w => ?_)
  refine lv_aload_n E.x E.b d_Cov_setEdge_68 rfl (lv_at hl 2 rfl) ?_
  refine gC_Cov_start E w k336 d_Cov_setEdge_69 ?_
  refine lv_iload_n E.x E.b d_Cov_setEdge_72 rfl (lv_at hl 3 rfl) ?_
  refine lv_lload E.x E.b d_Cov_setEdge_73 (lv_at hl 1 rfl) ?_
  refine lv_bipush (v := 8) E.x E.b d_Cov_setEdge_75 (by decide) ?_
  refine lv_aload_n E.x E.b d_Cov_setEdge_77 rfl (lv_at hl 2 rfl) ?_
  refine gC_Cov_shape E w k332 d_Cov_setEdge_78 ?_
  refine gC_Sha_y E w k293 d_Cov_setEdge_81 ?_
  refine lv_iload_n E.x E.b d_Cov_setEdge_84 rfl (lv_at hl 4 rfl) ?_
  obtain ⟨c29, h⟩ := ck_some h
  refine ialC E w (k := 25) (by decide) c29 d_Cov_setEdge_85 ?_
  refine lv_isub E.x E.b d_Cov_setEdge_86 ?_
  refine lv_i2l (v := (8 - (σ28.2.2.1 25 x1.toNatClampNeg)).toInt64) E.x E.b d_Cov_setEdge_87 rfl ?_
  refine lv_lmul E.x E.b d_Cov_setEdge_88 ?_
  refine lv_lload E.x E.b d_Cov_setEdge_89 (lv_at hl 0 rfl) ?_
  refine lv_bipush (v := 8) E.x E.b d_Cov_setEdge_91 (by decide) ?_
  refine lv_aload_n E.x E.b d_Cov_setEdge_93 rfl (lv_at hl 2 rfl) ?_
  refine gC_Cov_shape E w k332 d_Cov_setEdge_94 ?_
  refine gC_Sha_x E w k291 d_Cov_setEdge_97 ?_
  refine lv_iload_n E.x E.b d_Cov_setEdge_100 rfl (lv_at hl 4 rfl) ?_
  obtain ⟨c30, h⟩ := ck_some h
  refine ialC E w (k := 24) (by decide) c30 d_Cov_setEdge_101 ?_
  refine lv_isub E.x E.b d_Cov_setEdge_102 ?_
  refine lv_i2l (v := (8 - (σ28.2.2.1 24 x1.toNatClampNeg)).toInt64) E.x E.b d_Cov_setEdge_103 rfl ?_
  refine lv_lmul E.x E.b d_Cov_setEdge_104 ?_
  refine lv_lsub E.x E.b d_Cov_setEdge_105 ?_
  obtain ⟨c31, h⟩ := ck_some h
  obtain ⟨σ32, e_σ32, h⟩ := lt_some h
  refine lasC_3 E w c31 e_σ32 d_Cov_setEdge_106 (fun H locs w => ?_)
  refine lv_lload E.x E.b d_Cov_setEdge_107 (lv_at hl 0 rfl) ?_
  refine lv_lconst (v := 0) E.x E.b d_Cov_setEdge_109 (by decide) ?_
  refine W.lcmp E.x E.b d_Cov_setEdge_110 ?_
  refine lv_if_ne (tgt := 121) E.x E.b d_Cov_setEdge_111 (by decide) (fun c => ?_) (fun c => ?_)
  ·
    replace h := ifF (fun h9 => c (lgc_eq.mpr h9)) h
    exact bt_Cov_setEdge_121 E hret o σ32 x0 y24 h w (lv_sub hl [2, 3, 0] rfl)
  ·
    replace h := ifT (lgc_eq.mp c) h
    refine lv_lload E.x E.b d_Cov_setEdge_114 (lv_at hl 1 rfl) ?_
    refine lv_lconst (v := 0) E.x E.b d_Cov_setEdge_116 (by decide) ?_
    refine W.lcmp E.x E.b d_Cov_setEdge_117 ?_
    refine lv_if_gt (tgt := 128) E.x E.b d_Cov_setEdge_118 (by decide) (fun c => ?_) (fun c => ?_)
    ·
      replace h := ifT (lgc_gt.mp c) h
      exact bt_Cov_setEdge_128 E hret o σ32 x0 h w (lv_sub hl [2, 3] rfl)
    ·
      replace h := ifF (fun h9 => c (lgc_gt.mpr h9)) h
      exact bt_Cov_setEdge_121 E hret o σ32 x0 y24 h w (lv_sub hl [2, 3, 0] rfl)
theorem clV_Cov_setEdge {p : Program} {l : Launch} {e : Env} {R : Room} {s : State} {m : MethodId} {args : Array Value} {below : List Frame} {meth : Method} {c : Code} {H : Heap} {locs : List Loc} {Q : State → Prop} {cc : ByteArray} {nL pc lev : Nat} {own : String} {D : va_G} {τ : ClassId × ClassId × ClassId} {B : Nat} {A : Nat → Prop} {σ : Sg} {ad : Nat → Nat} {ls : Array Slot} {rest : List Value} (E : Cx p R s m args meth c cc nL own lev D τ B A) (w : Wd s D A (wdC τ σ ad) H locs) {x0 : Int32} {x1 : Int32} {x2 : Int32} {o : Sg} (h : F_Cov_setEdge σ x0 x1 x2 = some o) {index : Nat} (hlk : Cond.methodLink own index y_Cov_setEdge ∈ tw) (hlev : 0 < lev) (hsz : ls.size = nL) (hr : (rest.map fun v => v.category).sum ≤ 8) (hd : decode cc pc = .ok (.invokevirtual index, 3)) (kk : ∀ (H1 : Heap) (locs1 : List Loc), Wd s D A (wdC τ o ad) H1 locs1 → W p l e R s m args below meth c H1 locs1 0 0 Q (F0 m (pc + 3) ls (rest))) : W p l e R s m args below meth c H locs 0 0 Q (F0 m pc ls (.int x2 :: .int x1 :: .int x0 :: .ref (ad 66) :: rest)) :=
  cr_v w E.C (va_runV (As := [.int x0, .int x1, .int x2]) (rest := rest) E.fix (c_Cov_setEdge l D τ B σ ad x0 x1 x2 o h H.size) (cwV 3 E.w (tw_pre (tw_good k1194) (l := [_, _, _, _]) (List.forall_mem_cons.mpr ⟨hlk, List.forall_mem_cons.mpr ⟨k1193, List.forall_mem_cons.mpr ⟨ks26, List.forall_mem_cons.mpr ⟨k12, fun _ h => absurd h List.not_mem_nil⟩⟩⟩⟩)) rfl rfl rfl (by decide +kernel) (E.rm hlev (by decide))) (wd_preV w E.C [.int x0, .int x1, .int x2] rcC_Cov rfl) rfl rfl hsz rfl (lv_room hr) hd ⟨Nat.zero_le _, Nat.zero_le _⟩) kk

theorem d_Cov_makeReady_0 : decode prog_4_method_3_code 0 = .ok (.aload_n 0, 1) := by decide +kernel
theorem d_Cov_makeReady_1 : decode prog_4_method_3_code 1 = .ok (.getfield 34, 3) := by decide +kernel
theorem d_Cov_makeReady_4 : decode prog_4_method_3_code 4 = .ok (.getfield 38, 3) := by decide +kernel
theorem d_Cov_makeReady_7 : decode prog_4_method_3_code 7 = .ok (.astore_n 3, 1) := by decide +kernel
theorem d_Cov_makeReady_8 : decode prog_4_method_3_code 8 = .ok (.aload_n 0, 1) := by decide +kernel
theorem d_Cov_makeReady_9 : decode prog_4_method_3_code 9 = .ok (.getfield 34, 3) := by decide +kernel
theorem d_Cov_makeReady_12 : decode prog_4_method_3_code 12 = .ok (.getfield 43, 3) := by decide +kernel
theorem d_Cov_makeReady_15 : decode prog_4_method_3_code 15 = .ok (.astore 4, 2) := by decide +kernel
theorem d_Cov_makeReady_17 : decode prog_4_method_3_code 17 = .ok (.iconst 0, 1) := by decide +kernel
theorem d_Cov_makeReady_18 : decode prog_4_method_3_code 18 = .ok (.istore 5, 2) := by decide +kernel
theorem d_Cov_makeReady_20 : decode prog_4_method_3_code 20 = .ok (.iload 5, 2) := by decide +kernel
theorem d_Cov_makeReady_22 : decode prog_4_method_3_code 22 = .ok (.iconst 3, 1) := by decide +kernel
theorem d_Cov_makeReady_23 : decode prog_4_method_3_code 23 = .ok (.if_icmp .ge 37, 3) := by decide +kernel
theorem d_Cov_makeReady_26 : decode prog_4_method_3_code 26 = .ok (.aload_n 0, 1) := by decide +kernel
theorem d_Cov_makeReady_27 : decode prog_4_method_3_code 27 = .ok (.iload 5, 2) := by decide +kernel
theorem d_Cov_makeReady_29 : decode prog_4_method_3_code 29 = .ok (.aload_n 0, 1) := by decide +kernel
theorem d_Cov_makeReady_30 : decode prog_4_method_3_code 30 = .ok (.getfield 9, 3) := by decide +kernel
theorem d_Cov_makeReady_33 : decode prog_4_method_3_code 33 = .ok (.iload 5, 2) := by decide +kernel
theorem d_Cov_makeReady_35 : decode prog_4_method_3_code 35 = .ok (.iconst 1, 1) := by decide +kernel
theorem d_Cov_makeReady_36 : decode prog_4_method_3_code 36 = .ok (.iadd, 1) := by decide +kernel
theorem d_Cov_makeReady_37 : decode prog_4_method_3_code 37 = .ok (.iconst 3, 1) := by decide +kernel
theorem d_Cov_makeReady_38 : decode prog_4_method_3_code 38 = .ok (.irem, 1) := by decide +kernel
theorem d_Cov_makeReady_39 : decode prog_4_method_3_code 39 = .ok (.iaload, 1) := by decide +kernel
theorem d_Cov_makeReady_40 : decode prog_4_method_3_code 40 = .ok (.aload_n 0, 1) := by decide +kernel
theorem d_Cov_makeReady_41 : decode prog_4_method_3_code 41 = .ok (.getfield 9, 3) := by decide +kernel
theorem d_Cov_makeReady_44 : decode prog_4_method_3_code 44 = .ok (.iload 5, 2) := by decide +kernel
theorem d_Cov_makeReady_46 : decode prog_4_method_3_code 46 = .ok (.iconst 2, 1) := by decide +kernel
theorem d_Cov_makeReady_47 : decode prog_4_method_3_code 47 = .ok (.iadd, 1) := by decide +kernel
theorem d_Cov_makeReady_48 : decode prog_4_method_3_code 48 = .ok (.iconst 3, 1) := by decide +kernel
theorem d_Cov_makeReady_49 : decode prog_4_method_3_code 49 = .ok (.irem, 1) := by decide +kernel
theorem d_Cov_makeReady_50 : decode prog_4_method_3_code 50 = .ok (.iaload, 1) := by decide +kernel
theorem d_Cov_makeReady_51 : decode prog_4_method_3_code 51 = .ok (.invokevirtual 50, 3) := by decide +kernel
theorem d_Cov_makeReady_54 : decode prog_4_method_3_code 54 = .ok (.iinc 5 1, 3) := by decide +kernel
theorem d_Cov_makeReady_57 : decode prog_4_method_3_code 57 = .ok (.goto (-37), 3) := by decide +kernel
theorem d_Cov_makeReady_60 : decode prog_4_method_3_code 60 = .ok (.aload_n 0, 1) := by decide +kernel
theorem d_Cov_makeReady_61 : decode prog_4_method_3_code 61 = .ok (.aload_n 0, 1) := by decide +kernel
theorem d_Cov_makeReady_62 : decode prog_4_method_3_code 62 = .ok (.aload_n 3, 1) := by decide +kernel
theorem d_Cov_makeReady_63 : decode prog_4_method_3_code 63 = .ok (.invokevirtual 54, 3) := by decide +kernel
theorem d_Cov_makeReady_66 : decode prog_4_method_3_code 66 = .ok (.bipush 7, 2) := by decide +kernel
theorem d_Cov_makeReady_68 : decode prog_4_method_3_code 68 = .ok (.iadd, 1) := by decide +kernel
theorem d_Cov_makeReady_69 : decode prog_4_method_3_code 69 = .ok (.iconst 4, 1) := by decide +kernel
theorem d_Cov_makeReady_70 : decode prog_4_method_3_code 70 = .ok (.ishr, 1) := by decide +kernel
theorem d_Cov_makeReady_71 : decode prog_4_method_3_code 71 = .ok (.iconst 0, 1) := by decide +kernel
theorem d_Cov_makeReady_72 : decode prog_4_method_3_code 72 = .ok (.invokestatic 58, 3) := by decide +kernel
theorem d_Cov_makeReady_75 : decode prog_4_method_3_code 75 = .ok (.putfield 64, 3) := by decide +kernel
theorem d_Cov_makeReady_78 : decode prog_4_method_3_code 78 = .ok (.aload_n 0, 1) := by decide +kernel
theorem d_Cov_makeReady_79 : decode prog_4_method_3_code 79 = .ok (.aload_n 0, 1) := by decide +kernel
theorem d_Cov_makeReady_80 : decode prog_4_method_3_code 80 = .ok (.aload_n 3, 1) := by decide +kernel
theorem d_Cov_makeReady_81 : decode prog_4_method_3_code 81 = .ok (.invokevirtual 68, 3) := by decide +kernel
theorem d_Cov_makeReady_84 : decode prog_4_method_3_code 84 = .ok (.bipush 8, 2) := by decide +kernel
theorem d_Cov_makeReady_86 : decode prog_4_method_3_code 86 = .ok (.isub, 1) := by decide +kernel
theorem d_Cov_makeReady_87 : decode prog_4_method_3_code 87 = .ok (.iconst 4, 1) := by decide +kernel
theorem d_Cov_makeReady_88 : decode prog_4_method_3_code 88 = .ok (.ishr, 1) := by decide +kernel
theorem d_Cov_makeReady_89 : decode prog_4_method_3_code 89 = .ok (.iload_n 1, 1) := by decide +kernel
theorem d_Cov_makeReady_90 : decode prog_4_method_3_code 90 = .ok (.iconst 1, 1) := by decide +kernel
theorem d_Cov_makeReady_91 : decode prog_4_method_3_code 91 = .ok (.isub, 1) := by decide +kernel
theorem d_Cov_makeReady_92 : decode prog_4_method_3_code 92 = .ok (.invokestatic 71, 3) := by decide +kernel
theorem d_Cov_makeReady_95 : decode prog_4_method_3_code 95 = .ok (.putfield 74, 3) := by decide +kernel
theorem d_Cov_makeReady_98 : decode prog_4_method_3_code 98 = .ok (.aload_n 0, 1) := by decide +kernel
theorem d_Cov_makeReady_99 : decode prog_4_method_3_code 99 = .ok (.aload_n 0, 1) := by decide +kernel
theorem d_Cov_makeReady_100 : decode prog_4_method_3_code 100 = .ok (.aload 4, 2) := by decide +kernel
theorem d_Cov_makeReady_102 : decode prog_4_method_3_code 102 = .ok (.invokevirtual 54, 3) := by decide +kernel
theorem d_Cov_makeReady_105 : decode prog_4_method_3_code 105 = .ok (.bipush 7, 2) := by decide +kernel
theorem d_Cov_makeReady_107 : decode prog_4_method_3_code 107 = .ok (.iadd, 1) := by decide +kernel
theorem d_Cov_makeReady_108 : decode prog_4_method_3_code 108 = .ok (.iconst 4, 1) := by decide +kernel
theorem d_Cov_makeReady_109 : decode prog_4_method_3_code 109 = .ok (.ishr, 1) := by decide +kernel
theorem d_Cov_makeReady_110 : decode prog_4_method_3_code 110 = .ok (.iconst 0, 1) := by decide +kernel
theorem d_Cov_makeReady_111 : decode prog_4_method_3_code 111 = .ok (.invokestatic 58, 3) := by decide +kernel
theorem d_Cov_makeReady_114 : decode prog_4_method_3_code 114 = .ok (.putfield 77, 3) := by decide +kernel
theorem d_Cov_makeReady_117 : decode prog_4_method_3_code 117 = .ok (.aload_n 0, 1) := by decide +kernel
theorem d_Cov_makeReady_118 : decode prog_4_method_3_code 118 = .ok (.aload_n 0, 1) := by decide +kernel
theorem d_Cov_makeReady_119 : decode prog_4_method_3_code 119 = .ok (.aload 4, 2) := by decide +kernel
theorem d_Cov_makeReady_121 : decode prog_4_method_3_code 121 = .ok (.invokevirtual 68, 3) := by decide +kernel
theorem d_Cov_makeReady_124 : decode prog_4_method_3_code 124 = .ok (.bipush 8, 2) := by decide +kernel
theorem d_Cov_makeReady_126 : decode prog_4_method_3_code 126 = .ok (.isub, 1) := by decide +kernel
theorem d_Cov_makeReady_127 : decode prog_4_method_3_code 127 = .ok (.iconst 4, 1) := by decide +kernel
theorem d_Cov_makeReady_128 : decode prog_4_method_3_code 128 = .ok (.ishr, 1) := by decide +kernel
theorem d_Cov_makeReady_129 : decode prog_4_method_3_code 129 = .ok (.iload_n 2, 1) := by decide +kernel
theorem d_Cov_makeReady_130 : decode prog_4_method_3_code 130 = .ok (.iconst 1, 1) := by decide +kernel
theorem d_Cov_makeReady_131 : decode prog_4_method_3_code 131 = .ok (.isub, 1) := by decide +kernel
theorem d_Cov_makeReady_132 : decode prog_4_method_3_code 132 = .ok (.invokestatic 71, 3) := by decide +kernel
theorem d_Cov_makeReady_135 : decode prog_4_method_3_code 135 = .ok (.putfield 80, 3) := by decide +kernel
theorem d_Cov_makeReady_138 : decode prog_4_method_3_code 138 = .ok (.return_, 1) := by decide +kernel
def L_Cov_makeReady_20 : Nat → Sg → Int32 → Int32 → Int32 → Option (Sg)
  | 0, _, _, _, _ => none
  | n + 1, σ, v1, v2, v5 => if 3 ≤ v5 then (bd (F_Cov_leastOf σ 24) (fun o13 => lt (sI σ 18 (imax ((o13 + 7) >>> 4) 0)) (fun σ14 => bd (F_Cov_greatestOf σ14 24) (fun o15 => lt (sI σ14 19 (imin ((o15 - 8) >>> 4) (v1 - 1))) (fun σ16 => bd (F_Cov_leastOf σ16 25) (fun o17 => lt (sI σ16 20 (imax ((o17 + 7) >>> 4) 0)) (fun σ18 => bd (F_Cov_greatestOf σ18 25) (fun o19 => lt (sI σ18 21 (imin ((o19 - 8) >>> 4) (v2 - 1))) (fun σ20 => some σ20))))))))) else (ck (inb (irem (v5 + 1) 3) 3) (ck (inb (irem (v5 + 2) 3) 3) (bd (F_Cov_setEdge σ v5 (σ.2.2.1 28 (irem (v5 + 1) 3).toNatClampNeg) (σ.2.2.1 28 (irem (v5 + 2) 3).toNatClampNeg)) (fun o23 => lt (v5 + 1) (fun y24 => L_Cov_makeReady_20 n o23 v1 v2 y24)))))
set_option maxRecDepth 10000 in
set_option maxHeartbeats 4000000 in
theorem lt_Cov_makeReady_20 {p : Program} {l : Launch} {e : Env} {R : Room} {s : State} {m : MethodId} {args : Array Value} {below : List Frame} {meth : Method} {c : Code} {D : va_G} {τ : ClassId × ClassId × ClassId} {B : Nat} {A : Nat → Prop} {ad : Nat → Nat} (E : Cx p R s m args meth c prog_4_method_3_code 6 "DrawingMachine$Covering" 1 D τ B A) (hret : meth.sig.returnType = none) (o : Sg) : ∀ (n : Nat) (σ : Sg) (v1 : Int32) (v2 : Int32) (v5 : Int32) (H : Heap) (locs : List Loc) (ls : Array Slot), L_Cov_makeReady_20 n σ v1 v2 v5 = some o → Wd s D A (wdC τ σ ad) H locs → lv_has ls 6 [(0, .ref (ad 66)), (1, .int v1), (2, .int v2), (3, .ref (ad 24)), (4, .ref (ad 25)), (5, .int v5)] → W p l e R s m args below meth c H locs 0 0 (QV below args s A D τ (wdC τ o ad)) (F0 m 20 ls []) := by
  intro n
  induction n with
  | zero =>
    intro σ v1 v2 v5 H locs ls h w hl
    cases h
  | succ n hr_20 =>
    intro σ v1 v2 v5 H locs ls h w hl
    refine lv_iload E.x E.b d_Cov_makeReady_20 (lv_at hl 5 rfl) ?_
    refine lv_iconst (v := 3) E.x E.b d_Cov_makeReady_22 (by decide) ?_
    refine lv_icmp_ge (tgt := 60) E.x E.b d_Cov_makeReady_23 (by decide) (fun c => ?_) (fun c => ?_)
    ·
      replace h := ifT c h
      refine lv_aload_n E.x E.b d_Cov_makeReady_60 rfl (lv_at hl 0 rfl) ?_
      refine lv_aload_n E.x E.b d_Cov_makeReady_61 rfl (lv_at hl 0 rfl) ?_
      refine lv_aload_n E.x E.b d_Cov_makeReady_62 rfl (lv_at hl 3 rfl) ?_
      obtain ⟨o13, h_o13, h⟩ := bd_some h
      refine clV_Cov_leastOf E w (ar0 := 24) h_o13 k1197 (by decide) hl.1 (Nat.le_of_ble_eq_true rfl) d_Cov_makeReady_63 (fun H locs w => ?_)
      refine lv_bipush (v := 7) E.x E.b d_Cov_makeReady_66 (by decide) ?_
      refine lv_iadd E.x E.b d_Cov_makeReady_68 ?_
      refine lv_iconst (v := 4) E.x E.b d_Cov_makeReady_69 (by decide) ?_
      refine lv_ishr E.x E.b d_Cov_makeReady_70 ?_
      refine wi_e (v := (o13 + 7) >>> 4) rfl ?_
      refine lv_iconst (v := 0) E.x E.b d_Cov_makeReady_71 (by decide) ?_
      refine va_mmax E.x E.b (E.2.2.1.trans hl.1.symm) E.o (E.w _ k1202) (E.w _ k560) (E.w _ k25) (E.w _ k561) (Nat.le_trans (by decide) E.2.2.2.2.2.2.1) (Nat.le_trans (Nat.le_of_ble_eq_true rfl) E.2.2.2.2.2.2.2.1) (Nat.zero_le _) (Nat.zero_le _) d_Cov_makeReady_72 ?_
      refine wi_e (v := imax ((o13 + 7) >>> 4) 0) rfl ?_
      obtain ⟨σ14, e_σ14, h⟩ := lt_some h
      refine pC_Cov_left E w k324 e_σ14 d_Cov_makeReady_75 (fun H locs w => ?_)
      refine lv_aload_n E.x E.b d_Cov_makeReady_78 rfl (lv_at hl 0 rfl) ?_
      refine lv_aload_n E.x E.b d_Cov_makeReady_79 rfl (lv_at hl 0 rfl) ?_
      refine lv_aload_n E.x E.b d_Cov_makeReady_80 rfl (lv_at hl 3 rfl) ?_
      obtain ⟨o15, h_o15, h⟩ := bd_some h
      refine clV_Cov_greatestOf E w (ar0 := 24) h_o15 k1203 (by decide) hl.1 (Nat.le_of_ble_eq_true rfl) d_Cov_makeReady_81 (fun H locs w => ?_)
      refine lv_bipush (v := 8) E.x E.b d_Cov_makeReady_84 (by decide) ?_
      refine lv_isub E.x E.b d_Cov_makeReady_86 ?_
      refine lv_iconst (v := 4) E.x E.b d_Cov_makeReady_87 (by decide) ?_
      refine lv_ishr E.x E.b d_Cov_makeReady_88 ?_
      refine wi_e (v := (o15 - 8) >>> 4) rfl ?_
      refine lv_iload_n E.x E.b d_Cov_makeReady_89 rfl (lv_at hl 1 rfl) ?_
      refine lv_iconst (v := 1) E.x E.b d_Cov_makeReady_90 (by decide) ?_
      refine lv_isub E.x E.b d_Cov_makeReady_91 ?_
      refine va_mmin E.x E.b (E.2.2.1.trans hl.1.symm) E.o (E.w _ k1201) (E.w _ k563) (E.w _ k25) (E.w _ k564) (Nat.le_trans (by decide) E.2.2.2.2.2.2.1) (Nat.le_trans (Nat.le_of_ble_eq_true rfl) E.2.2.2.2.2.2.2.1) (Nat.zero_le _) (Nat.zero_le _) d_Cov_makeReady_92 ?_
      refine wi_e (v := imin ((o15 - 8) >>> 4) (v1 - 1)) rfl ?_
      obtain ⟨σ16, e_σ16, h⟩ := lt_some h
      refine pC_Cov_right E w k326 e_σ16 d_Cov_makeReady_95 (fun H locs w => ?_)
      refine lv_aload_n E.x E.b d_Cov_makeReady_98 rfl (lv_at hl 0 rfl) ?_
      refine lv_aload_n E.x E.b d_Cov_makeReady_99 rfl (lv_at hl 0 rfl) ?_
      refine lv_aload E.x E.b d_Cov_makeReady_100 (lv_at hl 4 rfl) ?_
      obtain ⟨o17, h_o17, h⟩ := bd_some h
      refine clV_Cov_leastOf E w (ar0 := 25) h_o17 k1197 (by decide) hl.1 (Nat.le_of_ble_eq_true rfl) d_Cov_makeReady_102 (fun H locs w => ?_)
      refine lv_bipush (v := 7) E.x E.b d_Cov_makeReady_105 (by decide) ?_
      refine lv_iadd E.x E.b d_Cov_makeReady_107 ?_
      refine lv_iconst (v := 4) E.x E.b d_Cov_makeReady_108 (by decide) ?_
      refine lv_ishr E.x E.b d_Cov_makeReady_109 ?_
      refine wi_e (v := (o17 + 7) >>> 4) rfl ?_
      refine lv_iconst (v := 0) E.x E.b d_Cov_makeReady_110 (by decide) ?_
      refine va_mmax E.x E.b (E.2.2.1.trans hl.1.symm) E.o (E.w _ k1202) (E.w _ k560) (E.w _ k25) (E.w _ k561) (Nat.le_trans (by decide) E.2.2.2.2.2.2.1) (Nat.le_trans (Nat.le_of_ble_eq_true rfl) E.2.2.2.2.2.2.2.1) (Nat.zero_le _) (Nat.zero_le _) d_Cov_makeReady_111 ?_
      refine wi_e (v := imax ((o17 + 7) >>> 4) 0) rfl ?_
      obtain ⟨σ18, e_σ18, h⟩ := lt_some h
      refine pC_Cov_top E w k328 e_σ18 d_Cov_makeReady_114 (fun H locs w => ?_)
      refine lv_aload_n E.x E.b d_Cov_makeReady_117 rfl (lv_at hl 0 rfl) ?_
      refine lv_aload_n E.x E.b d_Cov_makeReady_118 rfl (lv_at hl 0 rfl) ?_
      refine lv_aload E.x E.b d_Cov_makeReady_119 (lv_at hl 4 rfl) ?_
      obtain ⟨o19, h_o19, h⟩ := bd_some h
      refine clV_Cov_greatestOf E w (ar0 := 25) h_o19 k1203 (by decide) hl.1 (Nat.le_of_ble_eq_true rfl) d_Cov_makeReady_121 (fun H locs w => ?_)
      refine lv_bipush (v := 8) E.x E.b d_Cov_makeReady_124 (by decide) ?_
      refine lv_isub E.x E.b d_Cov_makeReady_126 ?_
      refine lv_iconst (v := 4) E.x E.b d_Cov_makeReady_127 (by decide) ?_
      refine lv_ishr E.x E.b d_Cov_makeReady_128 ?_
      refine wi_e (v := (o19 - 8) >>> 4) rfl ?_
      refine lv_iload_n E.x E.b d_Cov_makeReady_129 rfl (lv_at hl 2 rfl) ?_
      refine lv_iconst (v := 1) E.x E.b d_Cov_makeReady_130 (by decide) ?_
      refine lv_isub E.x E.b d_Cov_makeReady_131 ?_
      refine va_mmin E.x E.b (E.2.2.1.trans hl.1.symm) E.o (E.w _ k1201) (E.w _ k563) (E.w _ k25) (E.w _ k564) (Nat.le_trans (by decide) E.2.2.2.2.2.2.1) (Nat.le_trans (Nat.le_of_ble_eq_true rfl) E.2.2.2.2.2.2.2.1) (Nat.zero_le _) (Nat.zero_le _) d_Cov_makeReady_132 ?_
      refine wi_e (v := imin ((o19 - 8) >>> 4) (v2 - 1)) rfl ?_
      obtain ⟨σ20, e_σ20, h⟩ := lt_some h
      refine pC_Cov_bottom E w k330 e_σ20 d_Cov_makeReady_135 (fun H locs w => ?_)
      obtain rfl := Option.some.inj h
      exact rt_v E w hret d_Cov_makeReady_138
    ·
      replace h := ifF c h
      refine lv_aload_n E.x E.b d_Cov_makeReady_26 rfl (lv_at hl 0 rfl) ?_
      refine lv_iload E.x E.b d_Cov_makeReady_27 (lv_at hl 5 rfl) ?_
      refine lv_aload_n E.x E.b d_Cov_makeReady_29 rfl (lv_at hl 0 rfl) ?_
      refine gC_Cov_who E w k333 d_Cov_makeReady_30 ?_
      refine lv_iload E.x E.b d_Cov_makeReady_33 (lv_at hl 5 rfl) ?_
      refine lv_iconst (v := 1) E.x E.b d_Cov_makeReady_35 (by decide) ?_
      refine lv_iadd E.x E.b d_Cov_makeReady_36 ?_
      refine lv_iconst (v := 3) E.x E.b d_Cov_makeReady_37 (by decide) ?_
      refine lv_irem E.x E.b d_Cov_makeReady_38 (by decide) ?_
      refine wi_e (v := irem (v5 + 1) 3) rfl ?_
      obtain ⟨c21, h⟩ := ck_some h
      refine ialC E w (k := 28) (by decide) c21 d_Cov_makeReady_39 ?_
      refine lv_aload_n E.x E.b d_Cov_makeReady_40 rfl (lv_at hl 0 rfl) ?_
      refine gC_Cov_who E w k333 d_Cov_makeReady_41 ?_
      refine lv_iload E.x E.b d_Cov_makeReady_44 (lv_at hl 5 rfl) ?_
      refine lv_iconst (v := 2) E.x E.b d_Cov_makeReady_46 (by decide) ?_
      refine lv_iadd E.x E.b d_Cov_makeReady_47 ?_
      refine lv_iconst (v := 3) E.x E.b d_Cov_makeReady_48 (by decide) ?_
      refine lv_irem E.x E.b d_Cov_makeReady_49 (by decide) ?_
      refine wi_e (v := irem (v5 + 2) 3) rfl ?_
      obtain ⟨c22, h⟩ := ck_some h
      refine ialC E w (k := 28) (by decide) c22 d_Cov_makeReady_50 ?_
      obtain ⟨o23, h_o23, h⟩ := bd_some h
      refine clV_Cov_setEdge E w (x0 := v5) (x1 := (σ.2.2.1 28 (irem (v5 + 1) 3).toNatClampNeg)) (x2 := (σ.2.2.1 28 (irem (v5 + 2) 3).toNatClampNeg)) h_o23 k1191 (by decide) hl.1 (Nat.le_of_ble_eq_true rfl) d_Cov_makeReady_51 (fun H locs w => ?_)
      obtain ⟨y24, e_y24, h⟩ := lt_some h
      refine lv_iinc (v := y24) (lv' := [(5, .int y24), (0, .ref (ad 66)), (1, .int v1), (2, .int v2), (3, .ref (ad 24)), (4, .ref (ad 25))]) E.x E.b d_Cov_makeReady_54 hl (k := 5) rfl (e_y24) (by decide) rfl (fun ls hl => ?_)
      refine lv_goto (tgt := 20) E.x E.b d_Cov_makeReady_57 (by decide) ?_
      exact hr_20 o23 v1 v2 y24 _ _ _ h w (lv_sub hl [1, 2, 3, 4, 5, 0] rfl)
def F_Cov_makeReady (σ : Sg) (x0 : Int32) (x1 : Int32) : Option (Sg) := L_Cov_makeReady_20 100000 σ x0 x1 0
set_option maxRecDepth 10000 in
set_option maxHeartbeats 4000000 in
theorem c_Cov_makeReady (l : Launch) (D : va_G) (τ : ClassId × ClassId × ClassId) (B : Nat) (σ : Sg) (ad : Nat → Nat) (x0 : Int32) (x1 : Int32) (o : Sg) (h : F_Cov_makeReady σ x0 x1 = some o) : MV l y_Cov_makeReady (Cond.code y_Cov_makeReady prog_4_method_3_code 6 none) 1 D τ B [.ref (ad 66), .int x0, .int x1] (wdC τ σ ad) (wdC τ o ad) := by
  refine en_v (by decide) (Nat.le_of_ble_eq_true rfl) ?_
  intro p e R s m args below meth c H locs ls A E hret w hl
  have E : Cx p R s m args meth c prog_4_method_3_code 6 "DrawingMachine$Covering" 1 D τ B A := E
  have hl : lv_has ls 6 [(0, .ref (ad 66)), (1, .int x0), (2, .int x1)] := hl
  refine lv_aload_n E.x E.b d_Cov_makeReady_0 rfl (lv_at hl 0 rfl) ?_
  refine gC_Cov_shape E w k332 d_Cov_makeReady_1 ?_
  refine gC_Sha_x E w k291 d_Cov_makeReady_4 ?_
  refine lv_astore_n (lv' := [(3, .ref (ad 24)), (0, .ref (ad 66)), (1, .int x0), (2, .int x1)]) E.x E.b d_Cov_makeReady_7 rfl hl (by decide) rfl (fun ls hl => ?_)
  refine lv_aload_n E.x E.b d_Cov_makeReady_8 rfl (lv_at hl 1 rfl) ?_
  refine gC_Cov_shape E w k332 d_Cov_makeReady_9 ?_
  refine gC_Sha_y E w k293 d_Cov_makeReady_12 ?_
  refine lv_astore (lv' := [(4, .ref (ad 25)), (3, .ref (ad 24)), (0, .ref (ad 66)), (1, .int x0), (2, .int x1)]) E.x E.b d_Cov_makeReady_15 hl (by decide) rfl (fun ls hl => ?_)
  refine lv_iconst (v := 0) E.x E.b d_Cov_makeReady_17 (by decide) ?_
  refine lv_istore (lv' := [(5, .int 0), (4, .ref (ad 25)), (3, .ref (ad 24)), (0, .ref (ad 66)), (1, .int x0), (2, .int x1)]) E.x E.b d_Cov_makeReady_18 hl (by decide) rfl (fun ls hl => ?_)
  exact lt_Cov_makeReady_20 E hret o 100000 σ x0 x1 0 _ _ _ h w (lv_sub hl [3, 4, 5, 2, 1, 0] rfl)
theorem clV_Cov_makeReady {p : Program} {l : Launch} {e : Env} {R : Room} {s : State} {m : MethodId} {args : Array Value} {below : List Frame} {meth : Method} {c : Code} {H : Heap} {locs : List Loc} {Q : State → Prop} {cc : ByteArray} {nL pc lev : Nat} {own : String} {D : va_G} {τ : ClassId × ClassId × ClassId} {B : Nat} {A : Nat → Prop} {σ : Sg} {ad : Nat → Nat} {ls : Array Slot} {rest : List Value} (E : Cx p R s m args meth c cc nL own lev D τ B A) (w : Wd s D A (wdC τ σ ad) H locs) {x0 : Int32} {x1 : Int32} {o : Sg} (h : F_Cov_makeReady σ x0 x1 = some o) {index : Nat} (hlk : Cond.methodLink own index y_Cov_makeReady ∈ tw) (hlev : 1 < lev) (hsz : ls.size = nL) (hr : (rest.map fun v => v.category).sum ≤ 8) (hd : decode cc pc = .ok (.invokevirtual index, 3)) (kk : ∀ (H1 : Heap) (locs1 : List Loc), Wd s D A (wdC τ o ad) H1 locs1 → W p l e R s m args below meth c H1 locs1 0 0 Q (F0 m (pc + 3) ls (rest))) : W p l e R s m args below meth c H locs 0 0 Q (F0 m pc ls (.int x1 :: .int x0 :: .ref (ad 66) :: rest)) :=
  cr_v w E.C (va_runV (As := [.int x0, .int x1]) (rest := rest) E.fix (c_Cov_makeReady l D τ B σ ad x0 x1 o h H.size) (cwV 2 E.w (tw_pre (tw_good k1190) (l := [_, _, _, _]) (List.forall_mem_cons.mpr ⟨hlk, List.forall_mem_cons.mpr ⟨k1188, List.forall_mem_cons.mpr ⟨k1189, List.forall_mem_cons.mpr ⟨k12, fun _ h => absurd h List.not_mem_nil⟩⟩⟩⟩)) rfl rfl rfl (by decide +kernel) (E.rm hlev (by decide))) (wd_preV w E.C [.int x0, .int x1] rcC_Cov rfl) rfl rfl hsz rfl (lv_room hr) hd ⟨Nat.zero_le _, Nat.zero_le _⟩) kk

theorem d_Drw_colourOf_0 : decode prog_5_method_8_code 0 = .ok (.iconst 0, 1) := by decide +kernel
theorem d_Drw_colourOf_1 : decode prog_5_method_8_code 1 = .ok (.istore_n 1, 1) := by decide +kernel
theorem d_Drw_colourOf_2 : decode prog_5_method_8_code 2 = .ok (.iconst 0, 1) := by decide +kernel
theorem d_Drw_colourOf_3 : decode prog_5_method_8_code 3 = .ok (.istore_n 2, 1) := by decide +kernel
theorem d_Drw_colourOf_4 : decode prog_5_method_8_code 4 = .ok (.iload_n 2, 1) := by decide +kernel
theorem d_Drw_colourOf_5 : decode prog_5_method_8_code 5 = .ok (.iconst 4, 1) := by decide +kernel
theorem d_Drw_colourOf_6 : decode prog_5_method_8_code 6 = .ok (.if_icmp .ge 43, 3) := by decide +kernel
theorem d_Drw_colourOf_9 : decode prog_5_method_8_code 9 = .ok (.aload_n 0, 1) := by decide +kernel
theorem d_Drw_colourOf_10 : decode prog_5_method_8_code 10 = .ok (.sipush 228, 3) := by decide +kernel
theorem d_Drw_colourOf_13 : decode prog_5_method_8_code 13 = .ok (.iload_n 2, 1) := by decide +kernel
theorem d_Drw_colourOf_14 : decode prog_5_method_8_code 14 = .ok (.iadd, 1) := by decide +kernel
theorem d_Drw_colourOf_15 : decode prog_5_method_8_code 15 = .ok (.iaload, 1) := by decide +kernel
theorem d_Drw_colourOf_16 : decode prog_5_method_8_code 16 = .ok (.i2l, 1) := by decide +kernel
theorem d_Drw_colourOf_17 : decode prog_5_method_8_code 17 = .ok (.iconst 0, 1) := by decide +kernel
theorem d_Drw_colourOf_18 : decode prog_5_method_8_code 18 = .ok (.ldc 179, 2) := by decide +kernel
theorem d_Drw_colourOf_20 : decode prog_5_method_8_code 20 = .ok (.invokestatic 196, 3) := by decide +kernel
theorem d_Drw_colourOf_23 : decode prog_5_method_8_code 23 = .ok (.istore_n 3, 1) := by decide +kernel
theorem d_Drw_colourOf_24 : decode prog_5_method_8_code 24 = .ok (.iload_n 1, 1) := by decide +kernel
theorem d_Drw_colourOf_25 : decode prog_5_method_8_code 25 = .ok (.sipush 255, 3) := by decide +kernel
theorem d_Drw_colourOf_28 : decode prog_5_method_8_code 28 = .ok (.iload_n 3, 1) := by decide +kernel
theorem d_Drw_colourOf_29 : decode prog_5_method_8_code 29 = .ok (.imul, 1) := by decide +kernel
theorem d_Drw_colourOf_30 : decode prog_5_method_8_code 30 = .ok (.ldc 180, 2) := by decide +kernel
theorem d_Drw_colourOf_32 : decode prog_5_method_8_code 32 = .ok (.iadd, 1) := by decide +kernel
theorem d_Drw_colourOf_33 : decode prog_5_method_8_code 33 = .ok (.bipush 16, 2) := by decide +kernel
theorem d_Drw_colourOf_35 : decode prog_5_method_8_code 35 = .ok (.ishr, 1) := by decide +kernel
theorem d_Drw_colourOf_36 : decode prog_5_method_8_code 36 = .ok (.bipush 8, 2) := by decide +kernel
theorem d_Drw_colourOf_38 : decode prog_5_method_8_code 38 = .ok (.iload_n 2, 1) := by decide +kernel
theorem d_Drw_colourOf_39 : decode prog_5_method_8_code 39 = .ok (.imul, 1) := by decide +kernel
theorem d_Drw_colourOf_40 : decode prog_5_method_8_code 40 = .ok (.ishl, 1) := by decide +kernel
theorem d_Drw_colourOf_41 : decode prog_5_method_8_code 41 = .ok (.ior, 1) := by decide +kernel
theorem d_Drw_colourOf_42 : decode prog_5_method_8_code 42 = .ok (.istore_n 1, 1) := by decide +kernel
theorem d_Drw_colourOf_43 : decode prog_5_method_8_code 43 = .ok (.iinc 2 1, 3) := by decide +kernel
theorem d_Drw_colourOf_46 : decode prog_5_method_8_code 46 = .ok (.goto (-42), 3) := by decide +kernel
theorem d_Drw_colourOf_49 : decode prog_5_method_8_code 49 = .ok (.iload_n 1, 1) := by decide +kernel
theorem d_Drw_colourOf_50 : decode prog_5_method_8_code 50 = .ok (.ireturn, 1) := by decide +kernel
def L_Drw_colourOf_4 : Nat → Sg → Nat → Int32 → Int32 → Option (Int32)
  | 0, _, _, _, _ => none
  | n + 1, σ, v0, v1, v2 => ck (v0 < 47) (if 4 ≤ v2 then (some v1) else (ck (inb (228 + v2) (lenC σ v0)) (bd (F_DM_within ((σ.2.2.1 v0 (228 + v2).toNatClampNeg).toInt64) 0 65536) (fun o7 => lt (v1 ||| ((((255 * o7) + 32768) >>> 16) <<< ((8 * v2) &&& 31))) (fun y8 => lt (v2 + 1) (fun y9 => L_Drw_colourOf_4 n σ v0 y8 y9))))))
set_option maxRecDepth 10000 in
set_option maxHeartbeats 4000000 in
theorem lt_Drw_colourOf_4 {p : Program} {l : Launch} {e : Env} {R : Room} {s : State} {m : MethodId} {args : Array Value} {below : List Frame} {meth : Method} {c : Code} {D : va_G} {τ : ClassId × ClassId × ClassId} {B : Nat} {A : Nat → Prop} {ad : Nat → Nat} (E : Cx p R s m args meth c prog_5_method_8_code 4 "DrawingMachine$Drawing" 1 D τ B A) (hret : meth.sig.returnType = (some .int)) (o : Int32) (σ : Sg) : ∀ (n : Nat) (v0 : Nat) (v1 : Int32) (v2 : Int32) (H : Heap) (locs : List Loc) (ls : Array Slot), L_Drw_colourOf_4 n σ v0 v1 v2 = some o → Wd s D A (wdC τ σ ad) H locs → lv_has ls 4 [(0, .ref (ad v0)), (1, .int v1), (2, .int v2)] → W p l e R s m args below meth c H locs 0 0 (QI below args s A D τ (wdC τ σ ad) o) (F0 m 4 ls []) := by
  intro n
  induction n with
  | zero =>
    intro v0 v1 v2 H locs ls h w hl
    cases h
  | succ n hr_4 =>
    intro v0 v1 v2 H locs ls h w hl
    obtain ⟨c5, h⟩ := ck_some h
    refine lv_iload_n E.x E.b d_Drw_colourOf_4 rfl (lv_at hl 2 rfl) ?_
    refine lv_iconst (v := 4) E.x E.b d_Drw_colourOf_5 (by decide) ?_
    refine lv_icmp_ge (tgt := 49) E.x E.b d_Drw_colourOf_6 (by decide) (fun c => ?_) (fun c => ?_)
    ·
      replace h := ifT c h
      refine lv_iload_n E.x E.b d_Drw_colourOf_49 rfl (lv_at hl 1 rfl) ?_
      obtain rfl := Option.some.inj h
      exact rt_i E w hret d_Drw_colourOf_50
    ·
      replace h := ifF c h
      refine lv_aload_n E.x E.b d_Drw_colourOf_9 rfl (lv_at hl 0 rfl) ?_
      refine lv_sipush (v := 228) E.x E.b d_Drw_colourOf_10 (by decide) ?_
      refine lv_iload_n E.x E.b d_Drw_colourOf_13 rfl (lv_at hl 2 rfl) ?_
      refine lv_iadd E.x E.b d_Drw_colourOf_14 ?_
      obtain ⟨c6, h⟩ := ck_some h
      refine ialC E w (k := v0) c5 c6 d_Drw_colourOf_15 ?_
      refine lv_i2l (v := (σ.2.2.1 v0 (228 + v2).toNatClampNeg).toInt64) E.x E.b d_Drw_colourOf_16 rfl ?_
      refine lv_iconst (v := 0) E.x E.b d_Drw_colourOf_17 (by decide) ?_
      refine lv_ldc (v := 65536) E.x E.b E.o (E.w _ k1215) d_Drw_colourOf_18 ?_
      obtain ⟨o7, h_o7, h⟩ := bd_some h
      refine clSN_DM_within E w (x0 := ((σ.2.2.1 v0 (228 + v2).toNatClampNeg).toInt64)) (x1 := 0) (x2 := 65536) h_o7 n1244 (by decide) hl.1 (Nat.le_of_ble_eq_true rfl) d_Drw_colourOf_20 (fun H locs w => ?_)
      refine lv_istore_n (lv' := [(3, .int o7), (0, .ref (ad v0)), (1, .int v1), (2, .int v2)]) E.x E.b d_Drw_colourOf_23 rfl hl (by decide) rfl (fun ls hl => ?_)
      refine lv_iload_n E.x E.b d_Drw_colourOf_24 rfl (lv_at hl 2 rfl) ?_
      refine lv_sipush (v := 255) E.x E.b d_Drw_colourOf_25 (by decide) ?_
      refine lv_iload_n E.x E.b d_Drw_colourOf_28 rfl (lv_at hl 0 rfl) ?_
      refine lv_imul E.x E.b d_Drw_colourOf_29 ?_
      refine lv_ldc (v := 32768) E.x E.b E.o (E.w _ k1216) d_Drw_colourOf_30 ?_
      refine lv_iadd E.x E.b d_Drw_colourOf_32 ?_
      refine lv_bipush (v := 16) E.x E.b d_Drw_colourOf_33 (by decide) ?_
      refine lv_ishr E.x E.b d_Drw_colourOf_35 ?_
      refine wi_e (v := ((255 * o7) + 32768) >>> 16) rfl ?_
      refine lv_bipush (v := 8) E.x E.b d_Drw_colourOf_36 (by decide) ?_
      refine lv_iload_n E.x E.b d_Drw_colourOf_38 rfl (lv_at hl 3 rfl) ?_
      refine lv_imul E.x E.b d_Drw_colourOf_39 ?_
      refine lv_ishl E.x E.b d_Drw_colourOf_40 ?_
      refine lv_ior E.x E.b d_Drw_colourOf_41 ?_
      obtain ⟨y8, e_y8, h⟩ := lt_some h
      refine wi_e (v := y8) e_y8 ?_
      refine lv_istore_n (lv' := [(1, .int y8), (3, .int o7), (0, .ref (ad v0)), (2, .int v2)]) E.x E.b d_Drw_colourOf_42 rfl hl (by decide) rfl (fun ls hl => ?_)
      obtain ⟨y9, e_y9, h⟩ := lt_some h
      refine lv_iinc (v := y9) (lv' := [(2, .int y9), (1, .int y8), (3, .int o7), (0, .ref (ad v0))]) E.x E.b d_Drw_colourOf_43 hl (k := 3) rfl (e_y9) (by decide) rfl (fun ls hl => ?_)
      refine lv_goto (tgt := 4) E.x E.b d_Drw_colourOf_46 (by decide) ?_
      exact hr_4 v0 y8 y9 _ _ _ h w (lv_sub hl [3, 1, 0] rfl)
def F_Drw_colourOf (σ : Sg) (ar0 : Nat) : Option (Int32) := ck (ar0 < 47) (L_Drw_colourOf_4 100000 σ ar0 0 0)
set_option maxRecDepth 10000 in
set_option maxHeartbeats 4000000 in
theorem c_Drw_colourOf (l : Launch) (D : va_G) (τ : ClassId × ClassId × ClassId) (B : Nat) (σ : Sg) (ad : Nat → Nat) (ar0 : Nat) (o : Int32) (h : F_Drw_colourOf σ ar0 = some o) : MI l y_Drw_colourOf (Cond.code y_Drw_colourOf prog_5_method_8_code 4 (some .int)) 1 D τ B [.ref (ad ar0)] (wdC τ σ ad) (wdC τ σ ad) o := by
  refine en_i (by decide) (Nat.le_of_ble_eq_true rfl) ?_
  intro p e R s m args below meth c H locs ls A E hret w hl
  have E : Cx p R s m args meth c prog_5_method_8_code 4 "DrawingMachine$Drawing" 1 D τ B A := E
  have hl : lv_has ls 4 [(0, .ref (ad ar0))] := hl
  obtain ⟨c10, h⟩ := ck_some h
  refine lv_iconst (v := 0) E.x E.b d_Drw_colourOf_0 (by decide) ?_
  refine lv_istore_n (lv' := [(1, .int 0), (0, .ref (ad ar0))]) E.x E.b d_Drw_colourOf_1 rfl hl (by decide) rfl (fun ls hl => ?_)
  refine lv_iconst (v := 0) E.x E.b d_Drw_colourOf_2 (by decide) ?_
  refine lv_istore_n (lv' := [(2, .int 0), (1, .int 0), (0, .ref (ad ar0))]) E.x E.b d_Drw_colourOf_3 rfl hl (by decide) rfl (fun ls hl => ?_)
  exact lt_Drw_colourOf_4 E hret o σ 100000 ar0 0 0 _ _ _ h w (lv_sub hl [2, 1, 0] rfl)
theorem clS_Drw_colourOf {p : Program} {l : Launch} {e : Env} {R : Room} {s : State} {m : MethodId} {args : Array Value} {below : List Frame} {meth : Method} {c : Code} {H : Heap} {locs : List Loc} {Q : State → Prop} {cc : ByteArray} {nL pc lev : Nat} {own : String} {D : va_G} {τ : ClassId × ClassId × ClassId} {B : Nat} {A : Nat → Prop} {σ : Sg} {ad : Nat → Nat} {ls : Array Slot} {rest : List Value} (E : Cx p R s m args meth c cc nL own lev D τ B A) (w : Wd s D A (wdC τ σ ad) H locs) {ar0 : Nat} {o : Int32} (h : F_Drw_colourOf σ ar0 = some o) {index : Nat} (hlk : Cond.methodLink own index y_Drw_colourOf ∈ tw) (hlev : 1 < lev) (hsz : ls.size = nL) (hr : (rest.map fun v => v.category).sum ≤ 8) (hd : decode cc pc = .ok (.invokestatic index, 3)) (kk : ∀ (H1 : Heap) (locs1 : List Loc), Wd s D A (wdC τ σ ad) H1 locs1 → W p l e R s m args below meth c H1 locs1 0 0 Q (F0 m (pc + 3) ls (.int o :: rest))) : W p l e R s m args below meth c H locs 0 0 Q (F0 m pc ls (.ref (ad ar0) :: rest)) :=
  cr_i w E.C (va_runS (As := [.ref (ad ar0)]) (rest := rest) E.fix (c_Drw_colourOf l D τ B σ ad ar0 o h H.size) (va_cwS 1 E.w (tw_pre (tw_good k1243) (l := [_, _, _]) (List.forall_mem_cons.mpr ⟨hlk, List.forall_mem_cons.mpr ⟨k1242, List.forall_mem_cons.mpr ⟨k7, fun _ h => absurd h List.not_mem_nil⟩⟩⟩)) rfl rfl rfl (by decide +kernel) (E.rm hlev (by decide))) (wd_pre w E.C [.ref (ad ar0)]) rfl rfl hsz rfl (lv_room hr) hd ⟨Nat.zero_le _, Nat.zero_le _⟩) kk
