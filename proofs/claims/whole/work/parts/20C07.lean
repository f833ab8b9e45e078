theorem d_Pro_setTarget_0 : decode prog_7_method_5_code 0 = .ok (.iload_n 1, 1) := by decide +kernel
theorem d_Pro_setTarget_1 : decode prog_7_method_5_code 1 = .ok (.bipush 6, 2) := by decide +kernel
theorem d_Pro_setTarget_3 : decode prog_7_method_5_code 3 = .ok (.iushr, 1) := by decide +kernel
theorem d_Pro_setTarget_4 : decode prog_7_method_5_code 4 = .ok (.iconst 3, 1) := by decide +kernel
theorem d_Pro_setTarget_5 : decode prog_7_method_5_code 5 = .ok (.iand, 1) := by decide +kernel
theorem d_Pro_setTarget_6 : decode prog_7_method_5_code 6 = .ok (.ifCond .ne 7, 3) := by decide +kernel
theorem d_Pro_setTarget_9 : decode prog_7_method_5_code 9 = .ok (.iconst 0, 1) := by decide +kernel
theorem d_Pro_setTarget_10 : decode prog_7_method_5_code 10 = .ok (.goto 6, 3) := by decide +kernel
theorem d_Pro_setTarget_13 : decode prog_7_method_5_code 13 = .ok (.sipush 228, 3) := by decide +kernel
theorem d_Pro_setTarget_16 : decode prog_7_method_5_code 16 = .ok (.iconst 4, 1) := by decide +kernel
theorem d_Pro_setTarget_17 : decode prog_7_method_5_code 17 = .ok (.iload_n 1, 1) := by decide +kernel
theorem d_Pro_setTarget_18 : decode prog_7_method_5_code 18 = .ok (.bipush 8, 2) := by decide +kernel
theorem d_Pro_setTarget_20 : decode prog_7_method_5_code 20 = .ok (.iushr, 1) := by decide +kernel
theorem d_Pro_setTarget_21 : decode prog_7_method_5_code 21 = .ok (.bipush 15, 2) := by decide +kernel
theorem d_Pro_setTarget_23 : decode prog_7_method_5_code 23 = .ok (.iand, 1) := by decide +kernel
theorem d_Pro_setTarget_24 : decode prog_7_method_5_code 24 = .ok (.imul, 1) := by decide +kernel
theorem d_Pro_setTarget_25 : decode prog_7_method_5_code 25 = .ok (.iadd, 1) := by decide +kernel
theorem d_Pro_setTarget_26 : decode prog_7_method_5_code 26 = .ok (.istore_n 2, 1) := by decide +kernel
theorem d_Pro_setTarget_27 : decode prog_7_method_5_code 27 = .ok (.iload_n 1, 1) := by decide +kernel
theorem d_Pro_setTarget_28 : decode prog_7_method_5_code 28 = .ok (.bipush 16, 2) := by decide +kernel
theorem d_Pro_setTarget_30 : decode prog_7_method_5_code 30 = .ok (.iushr, 1) := by decide +kernel
theorem d_Pro_setTarget_31 : decode prog_7_method_5_code 31 = .ok (.iconst 1, 1) := by decide +kernel
theorem d_Pro_setTarget_32 : decode prog_7_method_5_code 32 = .ok (.iand, 1) := by decide +kernel
theorem d_Pro_setTarget_33 : decode prog_7_method_5_code 33 = .ok (.ifCond .eq 7, 3) := by decide +kernel
theorem d_Pro_setTarget_36 : decode prog_7_method_5_code 36 = .ok (.iconst 1, 1) := by decide +kernel
theorem d_Pro_setTarget_37 : decode prog_7_method_5_code 37 = .ok (.goto 4, 3) := by decide +kernel
theorem d_Pro_setTarget_40 : decode prog_7_method_5_code 40 = .ok (.iconst 0, 1) := by decide +kernel
theorem d_Pro_setTarget_41 : decode prog_7_method_5_code 41 = .ok (.istore_n 3, 1) := by decide +kernel
theorem d_Pro_setTarget_42 : decode prog_7_method_5_code 42 = .ok (.iconst 0, 1) := by decide +kernel
theorem d_Pro_setTarget_43 : decode prog_7_method_5_code 43 = .ok (.istore 4, 2) := by decide +kernel
theorem d_Pro_setTarget_45 : decode prog_7_method_5_code 45 = .ok (.iload 4, 2) := by decide +kernel
theorem d_Pro_setTarget_47 : decode prog_7_method_5_code 47 = .ok (.iconst 4, 1) := by decide +kernel
theorem d_Pro_setTarget_48 : decode prog_7_method_5_code 48 = .ok (.if_icmp .ge 58, 3) := by decide +kernel
theorem d_Pro_setTarget_51 : decode prog_7_method_5_code 51 = .ok (.iload_n 1, 1) := by decide +kernel
theorem d_Pro_setTarget_52 : decode prog_7_method_5_code 52 = .ok (.bipush 12, 2) := by decide +kernel
theorem d_Pro_setTarget_54 : decode prog_7_method_5_code 54 = .ok (.iload 4, 2) := by decide +kernel
theorem d_Pro_setTarget_56 : decode prog_7_method_5_code 56 = .ok (.iadd, 1) := by decide +kernel
theorem d_Pro_setTarget_57 : decode prog_7_method_5_code 57 = .ok (.iushr, 1) := by decide +kernel
theorem d_Pro_setTarget_58 : decode prog_7_method_5_code 58 = .ok (.iconst 1, 1) := by decide +kernel
theorem d_Pro_setTarget_59 : decode prog_7_method_5_code 59 = .ok (.iand, 1) := by decide +kernel
theorem d_Pro_setTarget_60 : decode prog_7_method_5_code 60 = .ok (.ifCond .eq 40, 3) := by decide +kernel
theorem d_Pro_setTarget_63 : decode prog_7_method_5_code 63 = .ok (.aload_n 0, 1) := by decide +kernel
theorem d_Pro_setTarget_64 : decode prog_7_method_5_code 64 = .ok (.getfield 9, 3) := by decide +kernel
theorem d_Pro_setTarget_67 : decode prog_7_method_5_code 67 = .ok (.iload_n 2, 1) := by decide +kernel
theorem d_Pro_setTarget_68 : decode prog_7_method_5_code 68 = .ok (.iload 4, 2) := by decide +kernel
theorem d_Pro_setTarget_70 : decode prog_7_method_5_code 70 = .ok (.iadd, 1) := by decide +kernel
theorem d_Pro_setTarget_71 : decode prog_7_method_5_code 71 = .ok (.iload_n 3, 1) := by decide +kernel
theorem d_Pro_setTarget_72 : decode prog_7_method_5_code 72 = .ok (.ifCond .eq 20, 3) := by decide +kernel
theorem d_Pro_setTarget_75 : decode prog_7_method_5_code 75 = .ok (.aload_n 0, 1) := by decide +kernel
theorem d_Pro_setTarget_76 : decode prog_7_method_5_code 76 = .ok (.getfield 24, 3) := by decide +kernel
theorem d_Pro_setTarget_79 : decode prog_7_method_5_code 79 = .ok (.iload 4, 2) := by decide +kernel
theorem d_Pro_setTarget_81 : decode prog_7_method_5_code 81 = .ok (.iaload, 1) := by decide +kernel
theorem d_Pro_setTarget_82 : decode prog_7_method_5_code 82 = .ok (.i2l, 1) := by decide +kernel
theorem d_Pro_setTarget_83 : decode prog_7_method_5_code 83 = .ok (.iconst 0, 1) := by decide +kernel
theorem d_Pro_setTarget_84 : decode prog_7_method_5_code 84 = .ok (.ldc 51, 2) := by decide +kernel
theorem d_Pro_setTarget_86 : decode prog_7_method_5_code 86 = .ok (.invokestatic 87, 3) := by decide +kernel
theorem d_Pro_setTarget_89 : decode prog_7_method_5_code 89 = .ok (.goto 10, 3) := by decide +kernel
theorem d_Pro_setTarget_92 : decode prog_7_method_5_code 92 = .ok (.aload_n 0, 1) := by decide +kernel
theorem d_Pro_setTarget_93 : decode prog_7_method_5_code 93 = .ok (.getfield 24, 3) := by decide +kernel
theorem d_Pro_setTarget_96 : decode prog_7_method_5_code 96 = .ok (.iload 4, 2) := by decide +kernel
theorem d_Pro_setTarget_98 : decode prog_7_method_5_code 98 = .ok (.iaload, 1) := by decide +kernel
theorem d_Pro_setTarget_99 : decode prog_7_method_5_code 99 = .ok (.iastore, 1) := by decide +kernel
theorem d_Pro_setTarget_100 : decode prog_7_method_5_code 100 = .ok (.iinc 4 1, 3) := by decide +kernel
theorem d_Pro_setTarget_103 : decode prog_7_method_5_code 103 = .ok (.goto (-58), 3) := by decide +kernel
theorem d_Pro_setTarget_106 : decode prog_7_method_5_code 106 = .ok (.return_, 1) := by decide +kernel
def F_Pro_setTarget_100 (rc_45 : Sg → Int32 → Int32 → Int32 → Int32 → Option (Sg)) (σ : Sg) (v1 : Int32) (v2 : Int32) (v3 : Int32) (v4 : Int32) : Option (Sg) := lt (v4 + 1) (fun y8 => rc_45 σ v1 v2 v3 y8)
set_option maxRecDepth 10000 in
set_option maxHeartbeats 4000000 in
theorem bt_Pro_setTarget_100 {p : Program} {l : Launch} {e : Env} {R : Room} {s : State} {m : MethodId} {args : Array Value} {below : List Frame} {meth : Method} {c : Code} {D : va_G} {τ : ClassId × ClassId × ClassId} {B : Nat} {A : Nat → Prop} {ad : Nat → Nat} (E : Cx p R s m args meth c prog_7_method_5_code 5 "DrawingMachine$Processor" 1 D τ B A) (hret : meth.sig.returnType = none) (o : Sg) (rc_45 : Sg → Int32 → Int32 → Int32 → Int32 → Option (Sg)) (hr_45 : ∀ (σ : Sg) (v1 : Int32) (v2 : Int32) (v3 : Int32) (v4 : Int32) (H : Heap) (locs : List Loc) (ls : Array Slot), rc_45 σ v1 v2 v3 v4 = some o → Wd s D A (wdC τ σ ad) H locs → lv_has ls 5 [(0, .ref (ad 62)), (1, .int v1), (2, .int v2), (3, .int v3), (4, .int v4)] → W p l e R s m args below meth c H locs 0 0 (QV below args s A D τ (wdC τ o ad)) (F0 m 45 ls [])) (σ : Sg) (v1 : Int32) (v2 : Int32) (v3 : Int32) (v4 : Int32) (h : F_Pro_setTarget_100 rc_45 σ v1 v2 v3 v4 = some o) {H : Heap} {locs : List Loc} {ls : Array Slot} (w : Wd s D A (wdC τ σ ad) H locs) (hl : lv_has ls 5 [(0, .ref (ad 62)), (1, .int v1), (2, .int v2), (3, .int v3), (4, .int v4)]) : W p l e R s m args below meth c H locs 0 0 (QV below args s A D τ (wdC τ o ad)) (F0 m 100 ls []) := by
  obtain ⟨y8, e_y8, h⟩ := lt_some h
  refine lv_iinc (v := y8) (lv' := [(4, .int y8), (0, .ref (ad 62)), (1, .int v1), (2, .int v2), (3, .int v3)]) E.x E.b d_Pro_setTarget_100 hl (k := 4) rfl (e_y8) (by decide) rfl (fun ls hl => ?_)
  refine lv_goto (tgt := 45) E.x E.b d_Pro_setTarget_103 (by decide) ?_
  exact hr_45 σ v1 v2 v3 y8 _ _ _ h w (lv_sub hl [1, 2, 3, 4, 0] rfl)
def F_Pro_setTarget_99 (rc_45 : Sg → Int32 → Int32 → Int32 → Int32 → Option (Sg)) (σ : Sg) (v1 : Int32) (v2 : Int32) (v3 : Int32) (v4 : Int32) (s1 : Int32) (s2 : Int32) : Option (Sg) := ck (inb s1 260) (lt (sA σ 10 (upd (σ.2.2.1 10) s1.toNatClampNeg s2)) (fun σ10 => F_Pro_setTarget_100 rc_45 σ10 v1 v2 v3 v4))
set_option maxRecDepth 10000 in
set_option maxHeartbeats 4000000 in
theorem bt_Pro_setTarget_99 {p : Program} {l : Launch} {e : Env} {R : Room} {s : State} {m : MethodId} {args : Array Value} {below : List Frame} {meth : Method} {c : Code} {D : va_G} {τ : ClassId × ClassId × ClassId} {B : Nat} {A : Nat → Prop} {ad : Nat → Nat} (E : Cx p R s m args meth c prog_7_method_5_code 5 "DrawingMachine$Processor" 1 D τ B A) (hret : meth.sig.returnType = none) (o : Sg) (rc_45 : Sg → Int32 → Int32 → Int32 → Int32 → Option (Sg)) (hr_45 : ∀ (σ : Sg) (v1 : Int32) (v2 : Int32) (v3 : Int32) (v4 : Int32) (H : Heap) (locs : List Loc) (ls : Array Slot), rc_45 σ v1 v2 v3 v4 = some o → Wd s D A (wdC τ σ ad) H locs → lv_has ls 5 [(0, .ref (ad 62)), (1, .int v1), (2, .int v2), (3, .int v3), (4, .int v4)] → W p l e R s m args below meth c H locs 0 0 (QV below args s A D τ (wdC τ o ad)) (F0 m 45 ls [])) (σ : Sg) (v1 : Int32) (v2 : Int32) (v3 : Int32) (v4 : Int32) (s1 : Int32) (s2 : Int32) (h : F_Pro_setTarget_99 rc_45 σ v1 v2 v3 v4 s1 s2 = some o) {H : Heap} {locs : List Loc} {ls : Array Slot} (w : Wd s D A (wdC τ σ ad) H locs) (hl : lv_has ls 5 [(0, .ref (ad 62)), (1, .int v1), (2, .int v2), (3, .int v3), (4, .int v4)]) : W p l e R s m args below meth c H locs 0 0 (QV below args s A D τ (wdC τ o ad)) (F0 m 99 ls [.int s2, .int s1, .ref (ad 10)]) := by
  obtain ⟨c9, h⟩ := ck_some h
  obtain ⟨σ10, e_σ10, h⟩ := lt_some h
  refine iasC E w (k := 10) (by decide) c9 e_σ10 d_Pro_setTarget_99 (fun H locs w => ?_)
  exact bt_Pro_setTarget_100 E hret o rc_45 hr_45 σ10 v1 v2 v3 v4 h w (lv_sub hl [0, 1, 2, 3, 4] rfl)
def L_Pro_setTarget_45 : Nat → Sg → Int32 → Int32 → Int32 → Int32 → Option (Sg)
  | 0, _, _, _, _, _ => none
  | n + 1, σ, v1, v2, v3, v4 => if 4 ≤ v4 then (some σ) else (if ((ushr v1 (12 + v4)) &&& 1) = 0 then (F_Pro_setTarget_100 (L_Pro_setTarget_45 n) σ v1 v2 v3 v4) else (if v3 = 0 then (ck (inb v4 4) (F_Pro_setTarget_99 (L_Pro_setTarget_45 n) σ v1 v2 v3 v4 (v2 + v4) (σ.2.2.1 14 v4.toNatClampNeg))) else (ck (inb v4 4) (bd (F_DM_within ((σ.2.2.1 14 v4.toNatClampNeg).toInt64) 0 65536) (fun o13 => F_Pro_setTarget_99 (L_Pro_setTarget_45 n) σ v1 v2 v3 v4 (v2 + v4) o13)))))
set_option maxRecDepth 10000 in
set_option maxHeartbeats 4000000 in
theorem lt_Pro_setTarget_45 {p : Program} {l : Launch} {e : Env} {R : Room} {s : State} {m : MethodId} {args : Array Value} {below : List Frame} {meth : Method} {c : Code} {D : va_G} {τ : ClassId × ClassId × ClassId} {B : Nat} {A : Nat → Prop} {ad : Nat → Nat} (E : Cx p R s m args meth c prog_7_method_5_code 5 "DrawingMachine$Processor" 1 D τ B A) (hret : meth.sig.returnType = none) (o : Sg) : ∀ (n : Nat) (σ : Sg) (v1 : Int32) (v2 : Int32) (v3 : Int32) (v4 : Int32) (H : Heap) (locs : List Loc) (ls : Array Slot), L_Pro_setTarget_45 n σ v1 v2 v3 v4 = some o → Wd s D A (wdC τ σ ad) H locs → lv_has ls 5 [(0, .ref (ad 62)), (1, .int v1), (2, .int v2), (3, .int v3), (4, .int v4)] → W p l e R s m args below meth c H locs 0 0 (QV below args s A D τ (wdC τ o ad)) (F0 m 45 ls []) := by
  intro n
  induction n with
  | zero =>
    intro σ v1 v2 v3 v4 H locs ls h w hl
    cases h
  | succ n hr_45 =>
    intro σ v1 v2 v3 v4 H locs ls h w hl
    refine lv_iload E.x E.b d_Pro_setTarget_45 (lv_at hl 4 rfl) ?_
    refine lv_iconst (v := 4) E.x E.b d_Pro_setTarget_47 (by decide) ?_
    refine lv_icmp_ge (tgt := 106) E.x E.b d_Pro_setTarget_48 (by decide) (fun c => ?_) (fun c => ?_)
    ·
      replace h := ifT c h
      obtain rfl := Option.some.inj h
      exact rt_v E w hret d_Pro_setTarget_106
    ·
      replace h := ifF c h
      refine lv_iload_n E.x E.b d_Pro_setTarget_51 rfl (lv_at hl 1 rfl) ?_
      refine lv_bipush (v := 12) E.x E.b d_Pro_setTarget_52 (by decide) ?_
      refine lv_iload E.x E.b d_Pro_setTarget_54 (lv_at hl 4 rfl) ?_
      refine lv_iadd E.x E.b d_Pro_setTarget_56 ?_
      refine lv_iushr (v := ushr v1 (12 + v4)) E.x E.b d_Pro_setTarget_57 rfl ?_
      refine lv_iconst (v := 1) E.x E.b d_Pro_setTarget_58 (by decide) ?_
      refine lv_iand E.x E.b d_Pro_setTarget_59 ?_
      refine lv_if_eq (tgt := 100) E.x E.b d_Pro_setTarget_60 (by decide) (fun c => ?_) (fun c => ?_)
      ·
        replace h := ifT c h
        exact bt_Pro_setTarget_100 E hret o (L_Pro_setTarget_45 n) hr_45 σ v1 v2 v3 v4 h w (lv_sub hl [0, 1, 2, 3, 4] rfl)
      ·
        replace h := ifF c h
        refine lv_aload_n E.x E.b d_Pro_setTarget_63 rfl (lv_at hl 0 rfl) ?_
        refine gC_Pro_bank E w k236 d_Pro_setTarget_64 ?_
        refine lv_iload_n E.x E.b d_Pro_setTarget_67 rfl (lv_at hl 2 rfl) ?_
        refine lv_iload E.x E.b d_Pro_setTarget_68 (lv_at hl 4 rfl) ?_
        refine lv_iadd E.x E.b d_Pro_setTarget_70 ?_
        refine lv_iload_n E.x E.b d_Pro_setTarget_71 rfl (lv_at hl 3 rfl) ?_
        refine lv_if_eq (tgt := 92) E.x E.b d_Pro_setTarget_72 (by decide) (fun c => ?_) (fun c => ?_)
        ·
          replace h := ifT c h
          refine lv_aload_n E.x E.b d_Pro_setTarget_92 rfl (lv_at hl 0 rfl) ?_
          refine gC_Pro_result E w k243 d_Pro_setTarget_93 ?_
          refine lv_iload E.x E.b d_Pro_setTarget_96 (lv_at hl 4 rfl) ?_
          obtain ⟨c11, h⟩ := ck_some h
          refine ialC E w (k := 14) (by decide) c11 d_Pro_setTarget_98 ?_
          exact bt_Pro_setTarget_99 E hret o (L_Pro_setTarget_45 n) hr_45 σ v1 v2 v3 v4 (v2 + v4) (σ.2.2.1 14 v4.toNatClampNeg) h w (lv_sub hl [0, 1, 2, 3, 4] rfl)
        ·
          replace h := ifF c h
          refine lv_aload_n E.x E.b d_Pro_setTarget_75 rfl (lv_at hl 0 rfl) ?_
          refine gC_Pro_result E w k243 d_Pro_setTarget_76 ?_
          refine lv_iload E.x E.b d_Pro_setTarget_79 (lv_at hl 4 rfl) ?_
          obtain ⟨c12, h⟩ := ck_some h
          refine ialC E w (k := 14) (by decide) c12 d_Pro_setTarget_81 ?_
          refine lv_i2l (v := (σ.2.2.1 14 v4.toNatClampNeg).toInt64) E.x E.b d_Pro_setTarget_82 rfl ?_
          refine lv_iconst (v := 0) E.x E.b d_Pro_setTarget_83 (by decide) ?_
          refine lv_ldc (v := 65536) E.x E.b E.o (E.w _ k1029) d_Pro_setTarget_84 ?_
          obtain ⟨o13, h_o13, h⟩ := bd_some h
          refine clSN_DM_within E w (x0 := ((σ.2.2.1 14 v4.toNatClampNeg).toInt64)) (x1 := 0) (x2 := 65536) h_o13 n1086 (by decide) hl.1 (Nat.le_of_ble_eq_true rfl) d_Pro_setTarget_86 (fun H locs w => ?_)
          refine lv_goto (tgt := 99) E.x E.b d_Pro_setTarget_89 (by decide) ?_
          exact bt_Pro_setTarget_99 E hret o (L_Pro_setTarget_45 n) hr_45 σ v1 v2 v3 v4 (v2 + v4) o13 h w (lv_sub hl [0, 1, 2, 3, 4] rfl)
def F_Pro_setTarget_41 (σ : Sg) (v1 : Int32) (v2 : Int32) (s0 : Int32) : Option (Sg) := L_Pro_setTarget_45 100000 σ v1 v2 s0 0
set_option maxRecDepth 10000 in
set_option maxHeartbeats 4000000 in
theorem bt_Pro_setTarget_41 {p : Program} {l : Launch} {e : Env} {R : Room} {s : State} {m : MethodId} {args : Array Value} {below : List Frame} {meth : Method} {c : Code} {D : va_G} {τ : ClassId × ClassId × ClassId} {B : Nat} {A : Nat → Prop} {ad : Nat → Nat} (E : Cx p R s m args meth c prog_7_method_5_code 5 "DrawingMachine$Processor" 1 D τ B A) (hret : meth.sig.returnType = none) (o : Sg) (σ : Sg) (v1 : Int32) (v2 : Int32) (s0 : Int32) (h : F_Pro_setTarget_41 σ v1 v2 s0 = some o) {H : Heap} {locs : List Loc} {ls : Array Slot} (w : Wd s D A (wdC τ σ ad) H locs) (hl : lv_has ls 5 [(0, .ref (ad 62)), (1, .int v1), (2, .int v2)]) : W p l e R s m args below meth c H locs 0 0 (QV below args s A D τ (wdC τ o ad)) (F0 m 41 ls [.int s0]) := by
  refine lv_istore_n (lv' := [(3, .int s0), (0, .ref (ad 62)), (1, .int v1), (2, .int v2)]) E.x E.b d_Pro_setTarget_41 rfl hl (by decide) rfl (fun ls hl => ?_)
  refine lv_iconst (v := 0) E.x E.b d_Pro_setTarget_42 (by decide) ?_
  refine lv_istore (lv' := [(4, .int 0), (3, .int s0), (0, .ref (ad 62)), (1, .int v1), (2, .int v2)]) E.x E.b d_Pro_setTarget_43 hl (by decide) rfl (fun ls hl => ?_)
  exact lt_Pro_setTarget_45 E hret o 100000 σ v1 v2 s0 0 _ _ _ h w (lv_sub hl [2, 3, 4, 1, 0] rfl)
def F_Pro_setTarget_16 (σ : Sg) (v1 : Int32) (s0 : Int32) : Option (Sg) := lt (s0 + (4 * ((ushr v1 8) &&& 15))) (fun y14 => if ((ushr v1 16) &&& 1) = 0 then (F_Pro_setTarget_41 σ v1 y14 0) else (F_Pro_setTarget_41 σ v1 y14 1))
set_option maxRecDepth 10000 in
set_option maxHeartbeats 4000000 in
theorem bt_Pro_setTarget_16 {p : Program} {l : Launch} {e : Env} {R : Room} {s : State} {m : MethodId} {args : Array Value} {below : List Frame} {meth : Method} {c : Code} {D : va_G} {τ : ClassId × ClassId × ClassId} {B : Nat} {A : Nat → Prop} {ad : Nat → Nat} (E : Cx p R s m args meth c prog_7_method_5_code 5 "DrawingMachine$Processor" 1 D τ B A) (hret : meth.sig.returnType = none) (o : Sg) (σ : Sg) (v1 : Int32) (s0 : Int32) (h : F_Pro_setTarget_16 σ v1 s0 = some o) {H : Heap} {locs : List Loc} {ls : Array Slot} (w : Wd s D A (wdC τ σ ad) H locs) (hl : lv_has ls 5 [(0, .ref (ad 62)), (1, .int v1)]) : W p l e R s m args below meth c H locs 0 0 (QV below args s A D τ (wdC τ o ad)) (F0 m 16 ls [.int s0]) := by
  refine lv_iconst (v := 4) E.x E.b d_Pro_setTarget_16 (by decide) ?_
  refine lv_iload_n E.x E.b d_Pro_setTarget_17 rfl (lv_at hl 1 rfl) ?_
  refine lv_bipush (v := 8) E.x E.b d_Pro_setTarget_18 (by decide) ?_
  refine lv_iushr (v := ushr v1 8) E.x E.b d_Pro_setTarget_20 rfl ?_
  refine lv_bipush (v := 15) E.x E.b d_Pro_setTarget_21 (by decide) ?_
  refine lv_iand E.x E.b d_Pro_setTarget_23 ?_
  refine lv_imul E.x E.b d_Pro_setTarget_24 ?_
  refine lv_iadd E.x E.b d_Pro_setTarget_25 ?_
  obtain ⟨y14, e_y14, h⟩ := lt_some h
  refine wi_e (v := y14) e_y14 ?_
  refine lv_istore_n (lv' := [(2, .int y14), (0, .ref (ad 62)), (1, .int v1)]) E.x E.b d_Pro_setTarget_26 rfl hl (by decide) rfl (fun ls hl => ?_)
  refine lv_iload_n E.x E.b d_Pro_setTarget_27 rfl (lv_at hl 2 rfl) ?_
  refine lv_bipush (v := 16) E.x E.b d_Pro_setTarget_28 (by decide) ?_
  refine lv_iushr (v := ushr v1 16) E.x E.b d_Pro_setTarget_30 rfl ?_
  refine lv_iconst (v := 1) E.x E.b d_Pro_setTarget_31 (by decide) ?_
  refine lv_iand E.x E.b d_Pro_setTarget_32 ?_
  refine lv_if_eq (tgt := 40) E.x E.b d_Pro_setTarget_33 (by decide) (fun c => ?_) (fun c => ?_)
  ·
    replace h := ifT c h
    refine lv_iconst (v := 0) E.x E.b d_Pro_setTarget_40 (by decide) ?_
    exact bt_Pro_setTarget_41 E hret o σ v1 y14 0 h w (lv_sub hl [1, 2, 0] rfl)
  ·
    replace h := ifF c h
    refine lv_iconst (v := 1) E.x E.b d_Pro_setTarget_36 (by decide) ?_
    refine lv_goto (tgt := 41) E.x E.b d_Pro_setTarget_37 (by decide) ?_
    exact bt_Pro_setTarget_41 E hret o σ v1 y14 1 h w (lv_sub hl [1, 2, 0] rfl)
def F_Pro_setTarget (σ : Sg) (x0 : Int32) : Option (Sg) := if ((ushr x0 6) &&& 3) = 0 then (F_Pro_setTarget_16 σ x0 0) else (F_Pro_setTarget_16 σ x0 228)
set_option maxRecDepth 10000 in
set_option maxHeartbeats 4000000 in
theorem c_Pro_setTarget (l : Launch) (D : va_G) (τ : ClassId × ClassId × ClassId) (B : Nat) (σ : Sg) (ad : Nat → Nat) (x0 : Int32) (o : Sg) (h : F_Pro_setTarget σ x0 = some o) : MV l y_Pro_setTarget (Cond.code y_Pro_setTarget prog_7_method_5_code 5 none) 1 D τ B [.ref (ad 62), .int x0] (wdC τ σ ad) (wdC τ o ad) := by
  refine en_v (by decide) (Nat.le_of_ble_eq_true rfl) ?_
  intro p e R s m args below meth c H locs ls A E hret w hl
  have E : Cx p R s m args meth c prog_7_method_5_code 5 "DrawingMachine$Processor" 1 D τ B A := E
  have hl : lv_has ls 5 [(0, .ref (ad 62)), (1, .int x0)] := hl
  refine lv_iload_n E.x E.b d_Pro_setTarget_0 rfl (lv_at hl 1 rfl) ?_
  refine lv_bipush (v := 6) E.x E.b d_Pro_setTarget_1 (by decide) ?_
  refine lv_iushr (v := ushr x0 6) E.x E.b d_Pro_setTarget_3 rfl ?_
  refine lv_iconst (v := 3) E.x E.b d_Pro_setTarget_4 (by decide) ?_
  refine lv_iand E.x E.b d_Pro_setTarget_5 ?_
  refine lv_if_ne (tgt := 13) E.x E.b d_Pro_setTarget_6 (by decide) (fun c => ?_) (fun c => ?_)
  ·
    replace h := ifF c h
    refine lv_sipush (v := 228) E.x E.b d_Pro_setTarget_13 (by decide) ?_
    exact bt_Pro_setTarget_16 E hret o σ x0 228 h w (lv_sub hl [0, 1] rfl)
  ·
    replace h := ifT c h
    refine lv_iconst (v := 0) E.x E.b d_Pro_setTarget_9 (by decide) ?_
    refine lv_goto (tgt := 16) E.x E.b d_Pro_setTarget_10 (by decide) ?_
    exact bt_Pro_setTarget_16 E hret o σ x0 0 h w (lv_sub hl [0, 1] rfl)
theorem clV_Pro_setTarget {p : Program} {l : Launch} {e : Env} {R : Room} {s : State} {m : MethodId} {args : Array Value} {below : List Frame} {meth : Method} {c : Code} {H : Heap} {locs : List Loc} {Q : State → Prop} {cc : ByteArray} {nL pc lev : Nat} {own : String} {D : va_G} {τ : ClassId × ClassId × ClassId} {B : Nat} {A : Nat → Prop} {σ : Sg} {ad : Nat → Nat} {ls : Array Slot} {rest : List Value} (E : Cx p R s m args meth c cc nL own lev D τ B A) (w : Wd s D A (wdC τ σ ad) H locs) {x0 : Int32} {o : Sg} (h : F_Pro_setTarget σ x0 = some o) {index : Nat} (hlk : Cond.methodLink own index y_Pro_setTarget ∈ tw) (hlev : 1 < lev) (hsz : ls.size = nL) (hr : (rest.map fun v => v.category).sum ≤ 8) (hd : decode cc pc = .ok (.invokevirtual index, 3)) (kk : ∀ (H1 : Heap) (locs1 : List Loc), Wd s D A (wdC τ o ad) H1 locs1 → W p l e R s m args below meth c H1 locs1 0 0 Q (F0 m (pc + 3) ls (rest))) : W p l e R s m args below meth c H locs 0 0 Q (F0 m pc ls (.int x0 :: .ref (ad 62) :: rest)) :=
  cr_v w E.C (va_runV (As := [.int x0]) (rest := rest) E.fix (c_Pro_setTarget l D τ B σ ad x0 o h H.size) (cwV 1 E.w (tw_pre (tw_good k1085) (l := [_, _, _, _]) (List.forall_mem_cons.mpr ⟨hlk, List.forall_mem_cons.mpr ⟨k1084, List.forall_mem_cons.mpr ⟨ks16, List.forall_mem_cons.mpr ⟨k8, fun _ h => absurd h List.not_mem_nil⟩⟩⟩⟩)) rfl rfl rfl (by decide +kernel) (E.rm hlev (by decide))) (wd_preV w E.C [.int x0] rcC_Pro rfl) rfl rfl hsz rfl (lv_room hr) hd ⟨Nat.zero_le _, Nat.zero_le _⟩) kk

theorem d_Tex_mix_0 : decode prog_10_method_8_code 0 = .ok (.iconst 0, 1) := by decide +kernel
theorem d_Tex_mix_1 : decode prog_10_method_8_code 1 = .ok (.istore_n 3, 1) := by decide +kernel
theorem d_Tex_mix_2 : decode prog_10_method_8_code 2 = .ok (.iload_n 3, 1) := by decide +kernel
theorem d_Tex_mix_3 : decode prog_10_method_8_code 3 = .ok (.iconst 4, 1) := by decide +kernel
theorem d_Tex_mix_4 : decode prog_10_method_8_code 4 = .ok (.if_icmp .ge 31, 3) := by decide +kernel
theorem d_Tex_mix_7 : decode prog_10_method_8_code 7 = .ok (.aload_n 0, 1) := by decide +kernel
theorem d_Tex_mix_8 : decode prog_10_method_8_code 8 = .ok (.iload_n 3, 1) := by decide +kernel
theorem d_Tex_mix_9 : decode prog_10_method_8_code 9 = .ok (.dup2, 1) := by decide +kernel
theorem d_Tex_mix_10 : decode prog_10_method_8_code 10 = .ok (.iaload, 1) := by decide +kernel
theorem d_Tex_mix_11 : decode prog_10_method_8_code 11 = .ok (.aload_n 1, 1) := by decide +kernel
theorem d_Tex_mix_12 : decode prog_10_method_8_code 12 = .ok (.iload_n 3, 1) := by decide +kernel
theorem d_Tex_mix_13 : decode prog_10_method_8_code 13 = .ok (.iaload, 1) := by decide +kernel
theorem d_Tex_mix_14 : decode prog_10_method_8_code 14 = .ok (.i2l, 1) := by decide +kernel
theorem d_Tex_mix_15 : decode prog_10_method_8_code 15 = .ok (.aload_n 0, 1) := by decide +kernel
theorem d_Tex_mix_16 : decode prog_10_method_8_code 16 = .ok (.iload_n 3, 1) := by decide +kernel
theorem d_Tex_mix_17 : decode prog_10_method_8_code 17 = .ok (.iaload, 1) := by decide +kernel
theorem d_Tex_mix_18 : decode prog_10_method_8_code 18 = .ok (.i2l, 1) := by decide +kernel
theorem d_Tex_mix_19 : decode prog_10_method_8_code 19 = .ok (.lsub, 1) := by decide +kernel
theorem d_Tex_mix_20 : decode prog_10_method_8_code 20 = .ok (.iload_n 2, 1) := by decide +kernel
theorem d_Tex_mix_21 : decode prog_10_method_8_code 21 = .ok (.i2l, 1) := by decide +kernel
theorem d_Tex_mix_22 : decode prog_10_method_8_code 22 = .ok (.lmul, 1) := by decide +kernel
theorem d_Tex_mix_23 : decode prog_10_method_8_code 23 = .ok (.bipush 16, 2) := by decide +kernel
theorem d_Tex_mix_25 : decode prog_10_method_8_code 25 = .ok (.lshr, 1) := by decide +kernel
theorem d_Tex_mix_26 : decode prog_10_method_8_code 26 = .ok (.l2i, 1) := by decide +kernel
theorem d_Tex_mix_27 : decode prog_10_method_8_code 27 = .ok (.iadd, 1) := by decide +kernel
theorem d_Tex_mix_28 : decode prog_10_method_8_code 28 = .ok (.iastore, 1) := by decide +kernel
theorem d_Tex_mix_29 : decode prog_10_method_8_code 29 = .ok (.iinc 3 1, 3) := by decide +kernel
theorem d_Tex_mix_32 : decode prog_10_method_8_code 32 = .ok (.goto (-30), 3) := by decide +kernel
theorem d_Tex_mix_35 : decode prog_10_method_8_code 35 = .ok (.return_, 1) := by decide +kernel
def L_Tex_mix_2 : Nat → Sg → Nat → Nat → Int32 → Int32 → Option (Sg)
  | 0, _, _, _, _, _ => none
  | n + 1, σ, v0, v1, v2, v3 => ck (v0 < 47) (ck (v1 < 47) (if 4 ≤ v3 then (some σ) else (ck (inb v3 (lenC σ v0)) (ck (inb v3 (lenC σ v1)) (ck (inb v3 (lenC σ v0)) (ck (inb v3 (lenC σ v0)) (lt (sA σ v0 (upd (σ.2.2.1 v0) v3.toNatClampNeg ((σ.2.2.1 v0 v3.toNatClampNeg) + ((lshr ((((σ.2.2.1 v1 v3.toNatClampNeg).toInt64) - ((σ.2.2.1 v0 v3.toNatClampNeg).toInt64)) * v2.toInt64) 16).toInt32)))) (fun σ13 => lt (v3 + 1) (fun y14 => L_Tex_mix_2 n σ13 v0 v1 v2 y14)))))))))
set_option maxRecDepth 10000 in
set_option maxHeartbeats 4000000 in
theorem lt_Tex_mix_2 {p : Program} {l : Launch} {e : Env} {R : Room} {s : State} {m : MethodId} {args : Array Value} {below : List Frame} {meth : Method} {c : Code} {D : va_G} {τ : ClassId × ClassId × ClassId} {B : Nat} {A : Nat → Prop} {ad : Nat → Nat} (E : Cx p R s m args meth c prog_10_method_8_code 4 "DrawingMachine$Textures" 0 D τ B A) (hret : meth.sig.returnType = none) (o : Sg) : ∀ (n : Nat) (σ : Sg) (v0 : Nat) (v1 : Nat) (v2 : Int32) (v3 : Int32) (H : Heap) (locs : List Loc) (ls : Array Slot), L_Tex_mix_2 n σ v0 v1 v2 v3 = some o → Wd s D A (wdC τ σ ad) H locs → lv_has ls 4 [(0, .ref (ad v0)), (1, .ref (ad v1)), (2, .int v2), (3, .int v3)] → W p l e R s m args below meth c H locs 0 0 (QV below args s A D τ (wdC τ o ad)) (F0 m 2 ls []) := by
  intro n
  induction n with
  | zero =>
    intro σ v0 v1 v2 v3 H locs ls h w hl
    cases h
  | succ n hr_2 =>
    intro σ v0 v1 v2 v3 H locs ls h w hl
    obtain ⟨c7, h⟩ := ck_some h
    obtain ⟨c8, h⟩ := ck_some h
    refine lv_iload_n E.x E.b d_Tex_mix_2 rfl (lv_at hl 3 rfl) ?_
    refine lv_iconst (v := 4) E.x E.b d_Tex_mix_3 (by decide) ?_
    refine lv_icmp_ge (tgt := 35) E.x E.b d_Tex_mix_4 (by decide) (fun c => ?_) (fun c => ?_)
    ·
      replace h := ifT c h
      obtain rfl := Option.some.inj h
      exact rt_v E w hret d_Tex_mix_35
    ·
      replace h := ifF c h
      refine lv_aload_n E.x E.b d_Tex_mix_7 rfl (lv_at hl 0 rfl) ?_
      refine lv_iload_n E.x E.b d_Tex_mix_8 rfl (lv_at hl 3 rfl) ?_
      refine lv_dup2_11 E.x E.b d_Tex_mix_9 rfl rfl ?_
      obtain ⟨c9, h⟩ := ck_some h
      refine ialC E w (k := v0) c7 c9 d_Tex_mix_10 ?_
      refine lv_aload_n E.x E.b d_Tex_mix_11 rfl (lv_at hl 1 rfl) ?_
      refine lv_iload_n E.x E.b d_Tex_mix_12 rfl (lv_at hl 3 rfl) ?_
      obtain ⟨c10, h⟩ := ck_some h
      refine ialC E w (k := v1) c8 c10 d_Tex_mix_13 ?_
      refine lv_i2l (v := (σ.2.2.1 v1 v3.toNatClampNeg).toInt64) E.x E.b d_Tex_mix_14 rfl ?_
      refine lv_aload_n E.x E.b d_Tex_mix_15 rfl (lv_at hl 0 rfl) ?_
      refine lv_iload_n E.x E.b d_Tex_mix_16 rfl (lv_at hl 3 rfl) ?_
      obtain ⟨c11, h⟩ := ck_some h
      refine ialC E w (k := v0) c7 c11 d_Tex_mix_17 ?_
      refine lv_i2l (v := (σ.2.2.1 v0 v3.toNatClampNeg).toInt64) E.x E.b d_Tex_mix_18 rfl ?_
      refine lv_lsub E.x E.b d_Tex_mix_19 ?_
      refine lv_iload_n E.x E.b d_Tex_mix_20 rfl (lv_at hl 2 rfl) ?_
      refine lv_i2l (v := v2.toInt64) E.x E.b d_Tex_mix_21 rfl ?_
      refine lv_lmul E.x E.b d_Tex_mix_22 ?_
      refine lv_bipush (v := 16) E.x E.b d_Tex_mix_23 (by decide) ?_
      refine lv_lshr (v := lshr ((((σ.2.2.1 v1 v3.toNatClampNeg).toInt64) - ((σ.2.2.1 v0 v3.toNatClampNeg).toInt64)) * v2.toInt64) 16) E.x E.b d_Tex_mix_25 rfl ?_
      refine lv_l2i (v := (lshr ((((σ.2.2.1 v1 v3.toNatClampNeg).toInt64) - ((σ.2.2.1 v0 v3.toNatClampNeg).toInt64)) * v2.toInt64) 16).toInt32) E.x E.b d_Tex_mix_26 rfl ?_
      refine lv_iadd E.x E.b d_Tex_mix_27 ?_
      obtain ⟨c12, h⟩ := ck_some h
      obtain ⟨σ13, e_σ13, h⟩ := lt_some h
      refine iasC E w (k := v0) c7 c12 e_σ13 d_Tex_mix_28 (fun H locs w => ?_)
      obtain ⟨y14, e_y14, h⟩ := lt_some h
      refine lv_iinc (v := y14) (lv' := [(3, .int y14), (0, .ref (ad v0)), (1, .ref (ad v1)), (2, .int v2)]) E.x E.b d_Tex_mix_29 hl (k := 3) rfl (e_y14) (by decide) rfl (fun ls hl => ?_)
      refine lv_goto (tgt := 2) E.x E.b d_Tex_mix_32 (by decide) ?_
      exact hr_2 σ13 v0 v1 v2 y14 _ _ _ h w (lv_sub hl [1, 2, 3, 0] rfl)
def F_Tex_mix (σ : Sg) (ar0 : Nat) (ar1 : Nat) (x2 : Int32) : Option (Sg) := ck (ar0 < 47) (ck (ar1 < 47) (L_Tex_mix_2 100000 σ ar0 ar1 x2 0))
set_option maxRecDepth 10000 in
set_option maxHeartbeats 4000000 in
theorem c_Tex_mix (l : Launch) (D : va_G) (τ : ClassId × ClassId × ClassId) (B : Nat) (σ : Sg) (ad : Nat → Nat) (ar0 : Nat) (ar1 : Nat) (x2 : Int32) (o : Sg) (h : F_Tex_mix σ ar0 ar1 x2 = some o) : MV l y_Tex_mix (Cond.code y_Tex_mix prog_10_method_8_code 4 none) 0 D τ B [.ref (ad ar0), .ref (ad ar1), .int x2] (wdC τ σ ad) (wdC τ o ad) := by
  refine en_v (by decide) (Nat.le_of_ble_eq_true rfl) ?_
  intro p e R s m args below meth c H locs ls A E hret w hl
  have E : Cx p R s m args meth c prog_10_method_8_code 4 "DrawingMachine$Textures" 0 D τ B A := E
  have hl : lv_has ls 4 [(0, .ref (ad ar0)), (1, .ref (ad ar1)), (2, .int x2)] := hl
  obtain ⟨c15, h⟩ := ck_some h
  obtain ⟨c16, h⟩ := ck_some h
  refine lv_iconst (v := 0) E.x E.b d_Tex_mix_0 (by decide) ?_
  refine lv_istore_n (lv' := [(3, .int 0), (0, .ref (ad ar0)), (1, .ref (ad ar1)), (2, .int x2)]) E.x E.b d_Tex_mix_1 rfl hl (by decide) rfl (fun ls hl => ?_)
  exact lt_Tex_mix_2 E hret o 100000 σ ar0 ar1 x2 0 _ _ _ h w (lv_sub hl [1, 2, 3, 0] rfl)
theorem clS_Tex_mix {p : Program} {l : Launch} {e : Env} {R : Room} {s : State} {m : MethodId} {args : Array Value} {below : List Frame} {meth : Method} {c : Code} {H : Heap} {locs : List Loc} {Q : State → Prop} {cc : ByteArray} {nL pc lev : Nat} {own : String} {D : va_G} {τ : ClassId × ClassId × ClassId} {B : Nat} {A : Nat → Prop} {σ : Sg} {ad : Nat → Nat} {ls : Array Slot} {rest : List Value} (E : Cx p R s m args meth c cc nL own lev D τ B A) (w : Wd s D A (wdC τ σ ad) H locs) {ar0 : Nat} {ar1 : Nat} {x2 : Int32} {o : Sg} (h : F_Tex_mix σ ar0 ar1 x2 = some o) {index : Nat} (hlk : Cond.methodLink own index y_Tex_mix ∈ tw) (hlev : 0 < lev) (hsz : ls.size = nL) (hr : (rest.map fun v => v.category).sum ≤ 8) (hd : decode cc pc = .ok (.invokestatic index, 3)) (kk : ∀ (H1 : Heap) (locs1 : List Loc), Wd s D A (wdC τ o ad) H1 locs1 → W p l e R s m args below meth c H1 locs1 0 0 Q (F0 m (pc + 3) ls (rest))) : W p l e R s m args below meth c H locs 0 0 Q (F0 m pc ls (.int x2 :: .ref (ad ar1) :: .ref (ad ar0) :: rest)) :=
  cr_v w E.C (va_runS (As := [.ref (ad ar0), .ref (ad ar1), .int x2]) (rest := rest) E.fix (c_Tex_mix l D τ B σ ad ar0 ar1 x2 o h H.size) (va_cwS 3 E.w (tw_pre (tw_good k1081) (l := [_, _, _]) (List.forall_mem_cons.mpr ⟨hlk, List.forall_mem_cons.mpr ⟨k1080, List.forall_mem_cons.mpr ⟨k9, fun _ h => absurd h List.not_mem_nil⟩⟩⟩)) rfl rfl rfl (by decide +kernel) (E.rm hlev (by decide))) (wd_pre w E.C [.ref (ad ar0), .ref (ad ar1), .int x2]) rfl rfl hsz rfl (lv_room hr) hd ⟨Nat.zero_le _, Nat.zero_le _⟩) kk

theorem d_Tex_readTexel_0 : decode prog_10_method_7_code 0 = .ok (.iload_n 2, 1) := by decide +kernel
theorem d_Tex_readTexel_1 : decode prog_10_method_7_code 1 = .ok (.iconst (-1), 1) := by decide +kernel
theorem d_Tex_readTexel_2 : decode prog_10_method_7_code 2 = .ok (.if_icmp .eq 8, 3) := by decide +kernel
theorem d_Tex_readTexel_5 : decode prog_10_method_7_code 5 = .ok (.iload_n 3, 1) := by decide +kernel
theorem d_Tex_readTexel_6 : decode prog_10_method_7_code 6 = .ok (.iconst (-1), 1) := by decide +kernel
theorem d_Tex_readTexel_7 : decode prog_10_method_7_code 7 = .ok (.if_icmp .ne 22, 3) := by decide +kernel
theorem d_Tex_readTexel_10 : decode prog_10_method_7_code 10 = .ok (.aload_n 0, 1) := by decide +kernel
theorem d_Tex_readTexel_11 : decode prog_10_method_7_code 11 = .ok (.getfield 32, 3) := by decide +kernel
theorem d_Tex_readTexel_14 : decode prog_10_method_7_code 14 = .ok (.sipush 229, 3) := by decide +kernel
theorem d_Tex_readTexel_17 : decode prog_10_method_7_code 17 = .ok (.iconst 4, 1) := by decide +kernel
theorem d_Tex_readTexel_18 : decode prog_10_method_7_code 18 = .ok (.iload_n 1, 1) := by decide +kernel
theorem d_Tex_readTexel_19 : decode prog_10_method_7_code 19 = .ok (.imul, 1) := by decide +kernel
theorem d_Tex_readTexel_20 : decode prog_10_method_7_code 20 = .ok (.iadd, 1) := by decide +kernel
theorem d_Tex_readTexel_21 : decode prog_10_method_7_code 21 = .ok (.aload 4, 2) := by decide +kernel
theorem d_Tex_readTexel_23 : decode prog_10_method_7_code 23 = .ok (.iconst 0, 1) := by decide +kernel
theorem d_Tex_readTexel_24 : decode prog_10_method_7_code 24 = .ok (.iconst 4, 1) := by decide +kernel
theorem d_Tex_readTexel_25 : decode prog_10_method_7_code 25 = .ok (.invokestatic 70, 3) := by decide +kernel
theorem d_Tex_readTexel_28 : decode prog_10_method_7_code 28 = .ok (.return_, 1) := by decide +kernel
theorem d_Tex_readTexel_29 : decode prog_10_method_7_code 29 = .ok (.aload_n 0, 1) := by decide +kernel
theorem d_Tex_readTexel_30 : decode prog_10_method_7_code 30 = .ok (.getfield 32, 3) := by decide +kernel
theorem d_Tex_readTexel_33 : decode prog_10_method_7_code 33 = .ok (.sipush 170, 3) := by decide +kernel
theorem d_Tex_readTexel_36 : decode prog_10_method_7_code 36 = .ok (.iconst 5, 1) := by decide +kernel
theorem d_Tex_readTexel_37 : decode prog_10_method_7_code 37 = .ok (.iload_n 1, 1) := by decide +kernel
theorem d_Tex_readTexel_38 : decode prog_10_method_7_code 38 = .ok (.imul, 1) := by decide +kernel
theorem d_Tex_readTexel_39 : decode prog_10_method_7_code 39 = .ok (.iadd, 1) := by decide +kernel
theorem d_Tex_readTexel_40 : decode prog_10_method_7_code 40 = .ok (.iconst 4, 1) := by decide +kernel
theorem d_Tex_readTexel_41 : decode prog_10_method_7_code 41 = .ok (.iadd, 1) := by decide +kernel
theorem d_Tex_readTexel_42 : decode prog_10_method_7_code 42 = .ok (.iaload, 1) := by decide +kernel
theorem d_Tex_readTexel_43 : decode prog_10_method_7_code 43 = .ok (.istore 5, 2) := by decide +kernel
theorem d_Tex_readTexel_45 : decode prog_10_method_7_code 45 = .ok (.iload_n 3, 1) := by decide +kernel
theorem d_Tex_readTexel_46 : decode prog_10_method_7_code 46 = .ok (.iload_n 2, 1) := by decide +kernel
theorem d_Tex_readTexel_47 : decode prog_10_method_7_code 47 = .ok (.iadd, 1) := by decide +kernel
theorem d_Tex_readTexel_48 : decode prog_10_method_7_code 48 = .ok (.getstatic 76, 3) := by decide +kernel
theorem d_Tex_readTexel_51 : decode prog_10_method_7_code 51 = .ok (.iload 5, 2) := by decide +kernel
theorem d_Tex_readTexel_53 : decode prog_10_method_7_code 53 = .ok (.iaload, 1) := by decide +kernel
theorem d_Tex_readTexel_54 : decode prog_10_method_7_code 54 = .ok (.imul, 1) := by decide +kernel
theorem d_Tex_readTexel_55 : decode prog_10_method_7_code 55 = .ok (.istore 6, 2) := by decide +kernel
theorem d_Tex_readTexel_57 : decode prog_10_method_7_code 57 = .ok (.aload_n 0, 1) := by decide +kernel
theorem d_Tex_readTexel_58 : decode prog_10_method_7_code 58 = .ok (.getfield 24, 3) := by decide +kernel
theorem d_Tex_readTexel_61 : decode prog_10_method_7_code 61 = .ok (.aload_n 0, 1) := by decide +kernel
theorem d_Tex_readTexel_62 : decode prog_10_method_7_code 62 = .ok (.getfield 32, 3) := by decide +kernel
theorem d_Tex_readTexel_65 : decode prog_10_method_7_code 65 = .ok (.sipush 170, 3) := by decide +kernel
theorem d_Tex_readTexel_68 : decode prog_10_method_7_code 68 = .ok (.iconst 5, 1) := by decide +kernel
theorem d_Tex_readTexel_69 : decode prog_10_method_7_code 69 = .ok (.iload_n 1, 1) := by decide +kernel
theorem d_Tex_readTexel_70 : decode prog_10_method_7_code 70 = .ok (.imul, 1) := by decide +kernel
theorem d_Tex_readTexel_71 : decode prog_10_method_7_code 71 = .ok (.iadd, 1) := by decide +kernel
theorem d_Tex_readTexel_72 : decode prog_10_method_7_code 72 = .ok (.iaload, 1) := by decide +kernel
theorem d_Tex_readTexel_73 : decode prog_10_method_7_code 73 = .ok (.iload 6, 2) := by decide +kernel
theorem d_Tex_readTexel_75 : decode prog_10_method_7_code 75 = .ok (.iconst 5, 1) := by decide +kernel
theorem d_Tex_readTexel_76 : decode prog_10_method_7_code 76 = .ok (.ishr, 1) := by decide +kernel
theorem d_Tex_readTexel_77 : decode prog_10_method_7_code 77 = .ok (.iadd, 1) := by decide +kernel
theorem d_Tex_readTexel_78 : decode prog_10_method_7_code 78 = .ok (.i2l, 1) := by decide +kernel
theorem d_Tex_readTexel_79 : decode prog_10_method_7_code 79 = .ok (.invokestatic 79, 3) := by decide +kernel
theorem d_Tex_readTexel_82 : decode prog_10_method_7_code 82 = .ok (.iload 6, 2) := by decide +kernel
theorem d_Tex_readTexel_84 : decode prog_10_method_7_code 84 = .ok (.bipush 31, 2) := by decide +kernel
theorem d_Tex_readTexel_86 : decode prog_10_method_7_code 86 = .ok (.iand, 1) := by decide +kernel
theorem d_Tex_readTexel_87 : decode prog_10_method_7_code 87 = .ok (.iushr, 1) := by decide +kernel
theorem d_Tex_readTexel_88 : decode prog_10_method_7_code 88 = .ok (.istore 7, 2) := by decide +kernel
theorem d_Tex_readTexel_90 : decode prog_10_method_7_code 90 = .ok (.iconst 0, 1) := by decide +kernel
theorem d_Tex_readTexel_91 : decode prog_10_method_7_code 91 = .ok (.istore 8, 2) := by decide +kernel
theorem d_Tex_readTexel_93 : decode prog_10_method_7_code 93 = .ok (.iload 8, 2) := by decide +kernel
theorem d_Tex_readTexel_95 : decode prog_10_method_7_code 95 = .ok (.iconst 4, 1) := by decide +kernel
theorem d_Tex_readTexel_96 : decode prog_10_method_7_code 96 = .ok (.if_icmp .ge 88, 3) := by decide +kernel
theorem d_Tex_readTexel_99 : decode prog_10_method_7_code 99 = .ok (.iconst 1, 1) := by decide +kernel
theorem d_Tex_readTexel_100 : decode prog_10_method_7_code 100 = .ok (.getstatic 83, 3) := by decide +kernel
theorem d_Tex_readTexel_103 : decode prog_10_method_7_code 103 = .ok (.iconst 4, 1) := by decide +kernel
theorem d_Tex_readTexel_104 : decode prog_10_method_7_code 104 = .ok (.iload 5, 2) := by decide +kernel
theorem d_Tex_readTexel_106 : decode prog_10_method_7_code 106 = .ok (.imul, 1) := by decide +kernel
theorem d_Tex_readTexel_107 : decode prog_10_method_7_code 107 = .ok (.iload 8, 2) := by decide +kernel
theorem d_Tex_readTexel_109 : decode prog_10_method_7_code 109 = .ok (.iadd, 1) := by decide +kernel
theorem d_Tex_readTexel_110 : decode prog_10_method_7_code 110 = .ok (.iaload, 1) := by decide +kernel
theorem d_Tex_readTexel_111 : decode prog_10_method_7_code 111 = .ok (.ishl, 1) := by decide +kernel
theorem d_Tex_readTexel_112 : decode prog_10_method_7_code 112 = .ok (.iconst 1, 1) := by decide +kernel
theorem d_Tex_readTexel_113 : decode prog_10_method_7_code 113 = .ok (.isub, 1) := by decide +kernel
theorem d_Tex_readTexel_114 : decode prog_10_method_7_code 114 = .ok (.istore 9, 2) := by decide +kernel
theorem d_Tex_readTexel_116 : decode prog_10_method_7_code 116 = .ok (.iload 7, 2) := by decide +kernel
theorem d_Tex_readTexel_118 : decode prog_10_method_7_code 118 = .ok (.getstatic 86, 3) := by decide +kernel
theorem d_Tex_readTexel_121 : decode prog_10_method_7_code 121 = .ok (.iconst 4, 1) := by decide +kernel
theorem d_Tex_readTexel_122 : decode prog_10_method_7_code 122 = .ok (.iload 5, 2) := by decide +kernel
theorem d_Tex_readTexel_124 : decode prog_10_method_7_code 124 = .ok (.imul, 1) := by decide +kernel
theorem d_Tex_readTexel_125 : decode prog_10_method_7_code 125 = .ok (.iload 8, 2) := by decide +kernel
theorem d_Tex_readTexel_127 : decode prog_10_method_7_code 127 = .ok (.iadd, 1) := by decide +kernel
theorem d_Tex_readTexel_128 : decode prog_10_method_7_code 128 = .ok (.iaload, 1) := by decide +kernel
theorem d_Tex_readTexel_129 : decode prog_10_method_7_code 129 = .ok (.iushr, 1) := by decide +kernel
theorem d_Tex_readTexel_130 : decode prog_10_method_7_code 130 = .ok (.iload 9, 2) := by decide +kernel
theorem d_Tex_readTexel_132 : decode prog_10_method_7_code 132 = .ok (.iand, 1) := by decide +kernel
theorem d_Tex_readTexel_133 : decode prog_10_method_7_code 133 = .ok (.istore 10, 2) := by decide +kernel
theorem d_Tex_readTexel_135 : decode prog_10_method_7_code 135 = .ok (.iload 9, 2) := by decide +kernel
theorem d_Tex_readTexel_137 : decode prog_10_method_7_code 137 = .ok (.ifCond .ne 23, 3) := by decide +kernel
theorem d_Tex_readTexel_140 : decode prog_10_method_7_code 140 = .ok (.aload 4, 2) := by decide +kernel
theorem d_Tex_readTexel_142 : decode prog_10_method_7_code 142 = .ok (.iload 8, 2) := by decide +kernel
theorem d_Tex_readTexel_144 : decode prog_10_method_7_code 144 = .ok (.iload 8, 2) := by decide +kernel
theorem d_Tex_readTexel_146 : decode prog_10_method_7_code 146 = .ok (.iconst 3, 1) := by decide +kernel
theorem d_Tex_readTexel_147 : decode prog_10_method_7_code 147 = .ok (.if_icmp .ne 8, 3) := by decide +kernel
theorem d_Tex_readTexel_150 : decode prog_10_method_7_code 150 = .ok (.ldc 33, 2) := by decide +kernel
theorem d_Tex_readTexel_152 : decode prog_10_method_7_code 152 = .ok (.goto 4, 3) := by decide +kernel
theorem d_Tex_readTexel_155 : decode prog_10_method_7_code 155 = .ok (.iconst 0, 1) := by decide +kernel
theorem d_Tex_readTexel_156 : decode prog_10_method_7_code 156 = .ok (.iastore, 1) := by decide +kernel
theorem d_Tex_readTexel_157 : decode prog_10_method_7_code 157 = .ok (.goto 21, 3) := by decide +kernel
theorem d_Tex_readTexel_160 : decode prog_10_method_7_code 160 = .ok (.aload 4, 2) := by decide +kernel
theorem d_Tex_readTexel_162 : decode prog_10_method_7_code 162 = .ok (.iload 8, 2) := by decide +kernel
theorem d_Tex_readTexel_164 : decode prog_10_method_7_code 164 = .ok (.ldc 89, 2) := by decide +kernel
theorem d_Tex_readTexel_166 : decode prog_10_method_7_code 166 = .ok (.iload 10, 2) := by decide +kernel
theorem d_Tex_readTexel_168 : decode prog_10_method_7_code 168 = .ok (.imul, 1) := by decide +kernel
theorem d_Tex_readTexel_169 : decode prog_10_method_7_code 169 = .ok (.iload 9, 2) := by decide +kernel
theorem d_Tex_readTexel_171 : decode prog_10_method_7_code 171 = .ok (.iadd, 1) := by decide +kernel
theorem d_Tex_readTexel_172 : decode prog_10_method_7_code 172 = .ok (.iconst 2, 1) := by decide +kernel
theorem d_Tex_readTexel_173 : decode prog_10_method_7_code 173 = .ok (.iload 9, 2) := by decide +kernel
theorem d_Tex_readTexel_175 : decode prog_10_method_7_code 175 = .ok (.imul, 1) := by decide +kernel
theorem d_Tex_readTexel_176 : decode prog_10_method_7_code 176 = .ok (.idiv, 1) := by decide +kernel
theorem d_Tex_readTexel_177 : decode prog_10_method_7_code 177 = .ok (.iastore, 1) := by decide +kernel
theorem d_Tex_readTexel_178 : decode prog_10_method_7_code 178 = .ok (.iinc 8 1, 3) := by decide +kernel
theorem d_Tex_readTexel_181 : decode prog_10_method_7_code 181 = .ok (.goto (-88), 3) := by decide +kernel
theorem d_Tex_readTexel_184 : decode prog_10_method_7_code 184 = .ok (.return_, 1) := by decide +kernel
def F_Tex_readTexel_178 (rc_93 : Sg → Nat → Int32 → Int32 → Int32 → Option (Sg)) (σ : Sg) (v4 : Nat) (v5 : Int32) (v7 : Int32) (v8 : Int32) : Option (Sg) := ck (v4 < 47) (lt (v8 + 1) (fun y24 => rc_93 σ v4 v5 v7 y24))
set_option maxRecDepth 10000 in
set_option maxHeartbeats 4000000 in
theorem bt_Tex_readTexel_178 {p : Program} {l : Launch} {e : Env} {R : Room} {s : State} {m : MethodId} {args : Array Value} {below : List Frame} {meth : Method} {c : Code} {D : va_G} {τ : ClassId × ClassId × ClassId} {B : Nat} {A : Nat → Prop} {ad : Nat → Nat} (E : Cx p R s m args meth c prog_10_method_7_code 11 "DrawingMachine$Textures" 1 D τ B A) (hret : meth.sig.returnType = none) (o : Sg) (rc_93 : Sg → Nat → Int32 → Int32 → Int32 → Option (Sg)) (hr_93 : ∀ (σ : Sg) (v4 : Nat) (v5 : Int32) (v7 : Int32) (v8 : Int32) (H : Heap) (locs : List Loc) (ls : Array Slot), rc_93 σ v4 v5 v7 v8 = some o → Wd s D A (wdC τ σ ad) H locs → lv_has ls 11 [(4, .ref (ad v4)), (5, .int v5), (7, .int v7), (8, .int v8)] → W p l e R s m args below meth c H locs 0 0 (QV below args s A D τ (wdC τ o ad)) (F0 m 93 ls [])) (σ : Sg) (v4 : Nat) (v5 : Int32) (v7 : Int32) (v8 : Int32) (h : F_Tex_readTexel_178 rc_93 σ v4 v5 v7 v8 = some o) {H : Heap} {locs : List Loc} {ls : Array Slot} (w : Wd s D A (wdC τ σ ad) H locs) (hl : lv_has ls 11 [(4, .ref (ad v4)), (5, .int v5), (7, .int v7), (8, .int v8)]) : W p l e R s m args below meth c H locs 0 0 (QV below args s A D τ (wdC τ o ad)) (F0 m 178 ls []) := by
  obtain ⟨c23, h⟩ := ck_some h
  obtain ⟨y24, e_y24, h⟩ := lt_some h
  refine lv_iinc (v := y24) (lv' := [(8, .int y24), (4, .ref (ad v4)), (5, .int v5), (7, .int v7)]) E.x E.b d_Tex_readTexel_178 hl (k := 3) rfl (e_y24) (by decide) rfl (fun ls hl => ?_)
  refine lv_goto (tgt := 93) E.x E.b d_Tex_readTexel_181 (by decide) ?_
  exact hr_93 σ v4 v5 v7 y24 _ _ _ h w (lv_sub hl [1, 2, 3, 0] rfl)
def F_Tex_readTexel_156 (rc_93 : Sg → Nat → Int32 → Int32 → Int32 → Option (Sg)) (σ : Sg) (v4 : Nat) (v5 : Int32) (v7 : Int32) (v8 : Int32) (s0 : Nat) (s1 : Int32) (s2 : Int32) : Option (Sg) := ck (v4 < 47) (ck (s0 < 47) (ck (inb s1 (lenC σ s0)) (lt (sA σ s0 (upd (σ.2.2.1 s0) s1.toNatClampNeg s2)) (fun σ28 => F_Tex_readTexel_178 rc_93 σ28 v4 v5 v7 v8))))
set_option maxRecDepth 10000 in
set_option maxHeartbeats 4000000 in
theorem bt_Tex_readTexel_156 {p : Program} {l : Launch} {e : Env} {R : Room} {s : State} {m : MethodId} {args : Array Value} {below : List Frame} {meth : Method} {c : Code} {D : va_G} {τ : ClassId × ClassId × ClassId} {B : Nat} {A : Nat → Prop} {ad : Nat → Nat} (E : Cx p R s m args meth c prog_10_method_7_code 11 "DrawingMachine$Textures" 1 D τ B A) (hret : meth.sig.returnType = none) (o : Sg) (rc_93 : Sg → Nat → Int32 → Int32 → Int32 → Option (Sg)) (hr_93 : ∀ (σ : Sg) (v4 : Nat) (v5 : Int32) (v7 : Int32) (v8 : Int32) (H : Heap) (locs : List Loc) (ls : Array Slot), rc_93 σ v4 v5 v7 v8 = some o → Wd s D A (wdC τ σ ad) H locs → lv_has ls 11 [(4, .ref (ad v4)), (5, .int v5), (7, .int v7), (8, .int v8)] → W p l e R s m args below meth c H locs 0 0 (QV below args s A D τ (wdC τ o ad)) (F0 m 93 ls [])) (σ : Sg) (v4 : Nat) (v5 : Int32) (v7 : Int32) (v8 : Int32) (s0 : Nat) (s1 : Int32) (s2 : Int32) (h : F_Tex_readTexel_156 rc_93 σ v4 v5 v7 v8 s0 s1 s2 = some o) {H : Heap} {locs : List Loc} {ls : Array Slot} (w : Wd s D A (wdC τ σ ad) H locs) (hl : lv_has ls 11 [(4, .ref (ad v4)), (5, .int v5), (7, .int v7), (8, .int v8)]) : W p l e R s m args below meth c H locs 0 0 (QV below args s A D τ (wdC τ o ad)) (F0 m 156 ls [.int s2, .int s1, .ref (ad s0)]) := by
  obtain ⟨c25, h⟩ := ck_some h
  obtain ⟨c26, h⟩ := ck_some h
  obtain ⟨c27, h⟩ := ck_some h
  obtain ⟨σ28, e_σ28, h⟩ := lt_some h
  refine iasC E w (k := s0) c26 c27 e_σ28 d_Tex_readTexel_156 (fun H locs w => ?_)
  refine lv_goto (tgt := 178) E.x E.b d_Tex_readTexel_157 (by decide) ?_
  exact bt_Tex_readTexel_178 E hret o rc_93 hr_93 σ28 v4 v5 v7 v8 h w (lv_sub hl [0, 1, 2, 3] rfl)
def L_Tex_readTexel_93 : Nat → Sg → Nat → Int32 → Int32 → Int32 → Option (Sg)
  | 0, _, _, _, _, _ => none
  | n + 1, σ, v4, v5, v7, v8 => ck (v4 < 47) (if 4 ≤ v8 then (some σ) else (ck (inb ((4 * v5) + v8) 32) (lt ((1 <<< ((tb_CHANNEL_BITS ((4 * v5) + v8).toNatClampNeg) &&& 31)) - 1) (fun y32 => ck (inb ((4 * v5) + v8) 32) (lt ((ushr v7 (tb_CHANNEL_SHIFT ((4 * v5) + v8).toNatClampNeg)) &&& y32) (fun y35 => if y32 = 0 then (if v8 = 3 then (F_Tex_readTexel_156 (L_Tex_readTexel_93 n) σ v4 v5 v7 v8 v4 v8 65536) else (F_Tex_readTexel_156 (L_Tex_readTexel_93 n) σ v4 v5 v7 v8 v4 v8 0)) else (ck (¬ (2 * y32) = 0) (ck (inb v8 (lenC σ v4)) (lt (sA σ v4 (upd (σ.2.2.1 v4) v8.toNatClampNeg (((131072 * y35) + y32) / (2 * y32)))) (fun σ38 => F_Tex_readTexel_178 (L_Tex_readTexel_93 n) σ38 v4 v5 v7 v8))))))))))
set_option maxRecDepth 10000 in
set_option maxHeartbeats 4000000 in
theorem lt_Tex_readTexel_93 {p : Program} {l : Launch} {e : Env} {R : Room} {s : State} {m : MethodId} {args : Array Value} {below : List Frame} {meth : Method} {c : Code} {D : va_G} {τ : ClassId × ClassId × ClassId} {B : Nat} {A : Nat → Prop} {ad : Nat → Nat} (E : Cx p R s m args meth c prog_10_method_7_code 11 "DrawingMachine$Textures" 1 D τ B A) (hret : meth.sig.returnType = none) (o : Sg) : ∀ (n : Nat) (σ : Sg) (v4 : Nat) (v5 : Int32) (v7 : Int32) (v8 : Int32) (H : Heap) (locs : List Loc) (ls : Array Slot), L_Tex_readTexel_93 n σ v4 v5 v7 v8 = some o → Wd s D A (wdC τ σ ad) H locs → lv_has ls 11 [(4, .ref (ad v4)), (5, .int v5), (7, .int v7), (8, .int v8)] → W p l e R s m args below meth c H locs 0 0 (QV below args s A D τ (wdC τ o ad)) (F0 m 93 ls []) := by
  intro n
  induction n with
  | zero =>
    intro σ v4 v5 v7 v8 H locs ls h w hl
    cases h
  | succ n hr_93 =>
    intro σ v4 v5 v7 v8 H locs ls h w hl
    obtain ⟨c29, h⟩ := ck_some h
    refine lv_iload E.x E.b d_Tex_readTexel_93 (lv_at hl 3 rfl) ?_
    refine lv_iconst (v := 4) E.x E.b d_Tex_readTexel_95 (by decide) ?_
    refine lv_icmp_ge (tgt := 184) E.x E.b d_Tex_readTexel_96 (by decide) (fun c => ?_) (fun c => ?_)
    ·
      replace h := ifT c h
      obtain rfl := Option.some.inj h
      exact rt_v E w hret d_Tex_readTexel_184
    ·
      replace h := ifF c h
      refine lv_iconst (v := 1) E.x E.b d_Tex_readTexel_99 (by decide) ?_
      refine r_tab (n := "CHANNEL_BITS") E w (by decide) n1073 d_Tex_readTexel_100 (fun t30 h_t30 => ?_)
      refine lv_iconst (v := 4) E.x E.b d_Tex_readTexel_103 (by decide) ?_
      refine lv_iload E.x E.b d_Tex_readTexel_104 (lv_at hl 1 rfl) ?_
      refine lv_imul E.x E.b d_Tex_readTexel_106 ?_
      refine lv_iload E.x E.b d_Tex_readTexel_107 (lv_at hl 3 rfl) ?_
      refine lv_iadd E.x E.b d_Tex_readTexel_109 ?_
      obtain ⟨c31, h⟩ := ck_some h
      refine r_tld (f := fun j => tb_CHANNEL_BITS j) E w h_t30 c31 d_Tex_readTexel_110 ?_
      refine lv_ishl E.x E.b d_Tex_readTexel_111 ?_
      refine lv_iconst (v := 1) E.x E.b d_Tex_readTexel_112 (by decide) ?_
      refine lv_isub E.x E.b d_Tex_readTexel_113 ?_
      obtain ⟨y32, e_y32, h⟩ := lt_some h
      refine wi_e (v := y32) e_y32 ?_
      refine lv_istore (lv' := [(9, .int y32), (4, .ref (ad v4)), (5, .int v5), (7, .int v7), (8, .int v8)]) E.x E.b d_Tex_readTexel_114 hl (by decide) rfl (fun ls hl => ?_)
      refine lv_iload E.x E.b d_Tex_readTexel_116 (lv_at hl 3 rfl) ?_
      refine r_tab (n := "CHANNEL_SHIFT") E w (by decide) n1075 d_Tex_readTexel_118 (fun t33 h_t33 => ?_)
      refine lv_iconst (v := 4) E.x E.b d_Tex_readTexel_121 (by decide) ?_
      refine lv_iload E.x E.b d_Tex_readTexel_122 (lv_at hl 2 rfl) ?_
      refine lv_imul E.x E.b d_Tex_readTexel_124 ?_
      refine lv_iload E.x E.b d_Tex_readTexel_125 (lv_at hl 4 rfl) ?_
      refine lv_iadd E.x E.b d_Tex_readTexel_127 ?_
      obtain ⟨c34, h⟩ := ck_some h
      refine r_tld (f := fun j => tb_CHANNEL_SHIFT j) E w h_t33 c34 d_Tex_readTexel_128 ?_
      refine lv_iushr (v := ushr v7 (tb_CHANNEL_SHIFT ((4 * v5) + v8).toNatClampNeg)) E.x E.b d_Tex_readTexel_129 rfl ?_
      refine lv_iload E.x E.b d_Tex_readTexel_130 (lv_at hl 0 rfl) ?_
      refine lv_iand E.x E.b d_Tex_readTexel_132 ?_
      obtain ⟨y35, e_y35, h⟩ := lt_some h
      refine wi_e (v := y35) e_y35 ?_
      refine lv_istore (lv' := [(10, .int y35), (9, .int y32), (4, .ref (ad v4)), (5, .int v5), (7, .int v7), (8, .int v8)]) E.x E.b d_Tex_readTexel_133 hl (by decide) rfl (fun ls hl => ?_)
      refine lv_iload E.x E.b d_Tex_readTexel_135 (lv_at hl 1 rfl) ?_
      refine lv_if_ne (tgt := 160) E.x E.b d_Tex_readTexel_137 (by decide) (fun c => ?_) (fun c => ?_)
      ·
        replace h := ifF c h
        refine lv_aload E.x E.b d_Tex_readTexel_160 (lv_at hl 2 rfl) ?_
        refine lv_iload E.x E.b d_Tex_readTexel_162 (lv_at hl 5 rfl) ?_
        refine lv_ldc (v := 131072) E.x E.b E.o (E.w _ k1077) d_Tex_readTexel_164 ?_
        refine lv_iload E.x E.b d_Tex_readTexel_166 (lv_at hl 0 rfl) ?_
        refine lv_imul E.x E.b d_Tex_readTexel_168 ?_
        refine lv_iload E.x E.b d_Tex_readTexel_169 (lv_at hl 1 rfl) ?_
        refine lv_iadd E.x E.b d_Tex_readTexel_171 ?_
        refine lv_iconst (v := 2) E.x E.b d_Tex_readTexel_172 (by decide) ?_
        refine lv_iload E.x E.b d_Tex_readTexel_173 (lv_at hl 1 rfl) ?_
        refine lv_imul E.x E.b d_Tex_readTexel_175 ?_
        obtain ⟨c36, h⟩ := ck_some h
        refine lv_idiv E.x E.b d_Tex_readTexel_176 c36 ?_
        obtain ⟨c37, h⟩ := ck_some h
        obtain ⟨σ38, e_σ38, h⟩ := lt_some h
        refine iasC E w (k := v4) c29 c37 e_σ38 d_Tex_readTexel_177 (fun H locs w => ?_)
        exact bt_Tex_readTexel_178 E hret o (L_Tex_readTexel_93 n) hr_93 σ38 v4 v5 v7 v8 h w (lv_sub hl [2, 3, 4, 5] rfl)
      ·
        replace h := ifT c h
        refine lv_aload E.x E.b d_Tex_readTexel_140 (lv_at hl 2 rfl) ?_
        refine lv_iload E.x E.b d_Tex_readTexel_142 (lv_at hl 5 rfl) ?_
        refine lv_iload E.x E.b d_Tex_readTexel_144 (lv_at hl 5 rfl) ?_
        refine lv_iconst (v := 3) E.x E.b d_Tex_readTexel_146 (by decide) ?_
        refine lv_icmp_ne (tgt := 155) E.x E.b d_Tex_readTexel_147 (by decide) (fun c => ?_) (fun c => ?_)
        ·
          replace h := ifF c h
          refine lv_iconst (v := 0) E.x E.b d_Tex_readTexel_155 (by decide) ?_
          exact bt_Tex_readTexel_156 E hret o (L_Tex_readTexel_93 n) hr_93 σ v4 v5 v7 v8 v4 v8 0 h w (lv_sub hl [2, 3, 4, 5] rfl)
        ·
          replace h := ifT c h
          refine lv_ldc (v := 65536) E.x E.b E.o (E.w _ k1047) d_Tex_readTexel_150 ?_
          refine lv_goto (tgt := 156) E.x E.b d_Tex_readTexel_152 (by decide) ?_
          exact bt_Tex_readTexel_156 E hret o (L_Tex_readTexel_93 n) hr_93 σ v4 v5 v7 v8 v4 v8 65536 h w (lv_sub hl [2, 3, 4, 5] rfl)
def F_Tex_readTexel_10 (σ : Sg) (v1 : Int32) (v4 : Nat) : Option (Sg) := ck (v4 < 47) (ck (cpok (229 + (4 * v1)) 0 4 245 (lenC σ v4)) (lt (sA σ v4 (va_cpy (σ.2.2.1 1) (σ.2.2.1 v4) (229 + (4 * v1)).toNatClampNeg (0 : Int32).toNatClampNeg (4 : Int32).toNatClampNeg)) (fun σ41 => some σ41)))
set_option maxRecDepth 10000 in
set_option maxHeartbeats 4000000 in
theorem bt_Tex_readTexel_10 {p : Program} {l : Launch} {e : Env} {R : Room} {s : State} {m : MethodId} {args : Array Value} {below : List Frame} {meth : Method} {c : Code} {D : va_G} {τ : ClassId × ClassId × ClassId} {B : Nat} {A : Nat → Prop} {ad : Nat → Nat} (E : Cx p R s m args meth c prog_10_method_7_code 11 "DrawingMachine$Textures" 1 D τ B A) (hret : meth.sig.returnType = none) (o : Sg) (σ : Sg) (v1 : Int32) (v4 : Nat) (h : F_Tex_readTexel_10 σ v1 v4 = some o) {H : Heap} {locs : List Loc} {ls : Array Slot} (w : Wd s D A (wdC τ σ ad) H locs) (hl : lv_has ls 11 [(0, .ref (ad 63)), (1, .int v1), (4, .ref (ad v4))]) : W p l e R s m args below meth c H locs 0 0 (QV below args s A D τ (wdC τ o ad)) (F0 m 10 ls []) := by
  obtain ⟨c39, h⟩ := ck_some h
  refine lv_aload_n E.x E.b d_Tex_readTexel_10 rfl (lv_at hl 0 rfl) ?_
  refine gC_Tex_kept E w k218 d_Tex_readTexel_11 ?_
  refine lv_sipush (v := 229) E.x E.b d_Tex_readTexel_14 (by decide) ?_
  refine lv_iconst (v := 4) E.x E.b d_Tex_readTexel_17 (by decide) ?_
  refine lv_iload_n E.x E.b d_Tex_readTexel_18 rfl (lv_at hl 1 rfl) ?_
  refine lv_imul E.x E.b d_Tex_readTexel_19 ?_
  refine lv_iadd E.x E.b d_Tex_readTexel_20 ?_
  refine lv_aload E.x E.b d_Tex_readTexel_21 (lv_at hl 2 rfl) ?_
  refine lv_iconst (v := 0) E.x E.b d_Tex_readTexel_23 (by decide) ?_
  refine lv_iconst (v := 4) E.x E.b d_Tex_readTexel_24 (by decide) ?_
  obtain ⟨c40, h⟩ := ck_some h
  obtain ⟨σ41, e_σ41, h⟩ := lt_some h
  refine cpyC E w hl.1 k1069 k645 k644 k31 (k0 := 1) (k1 := v4) (by decide) c39 c40 e_σ41 (Nat.le_of_ble_eq_true rfl) d_Tex_readTexel_25 (fun H locs w => ?_)
  obtain rfl := Option.some.inj h
  exact rt_v E w hret d_Tex_readTexel_28
def F_Tex_readTexel (σ : Sg) (x0 : Int32) (x1 : Int32) (x2 : Int32) (ar3 : Nat) : Option (Sg) := ck (ar3 < 47) (if x1 = (-1) then (F_Tex_readTexel_10 σ x0 ar3) else (if x2 = (-1) then (F_Tex_readTexel_10 σ x0 ar3) else (ck (inb ((170 + (5 * x0)) + 4) 245) (lt (σ.2.2.1 1 ((170 + (5 * x0)) + 4).toNatClampNeg) (fun y44 => ck (inb y44 8) (lt ((x2 + x1) * (tb_TEXEL_BITS y44.toNatClampNeg)) (fun y47 => ck (inb (170 + (5 * x0)) 245) (bd (F_DM_wordOf σ 0 (((σ.2.2.1 1 (170 + (5 * x0)).toNatClampNeg) + (y47 >>> 5)).toInt64)) (fun o49 => lt (ushr o49 (y47 &&& 31)) (fun y50 => L_Tex_readTexel_93 100000 σ ar3 y44 y50 0))))))))))
set_option maxRecDepth 10000 in
set_option maxHeartbeats 4000000 in
theorem c_Tex_readTexel (l : Launch) (D : va_G) (τ : ClassId × ClassId × ClassId) (B : Nat) (σ : Sg) (ad : Nat → Nat) (x0 : Int32) (x1 : Int32) (x2 : Int32) (ar3 : Nat) (o : Sg) (h : F_Tex_readTexel σ x0 x1 x2 ar3 = some o) : MV l y_Tex_readTexel (Cond.code y_Tex_readTexel prog_10_method_7_code 11 none) 1 D τ B [.ref (ad 63), .int x0, .int x1, .int x2, .ref (ad ar3)] (wdC τ σ ad) (wdC τ o ad) := by
  refine en_v (by decide) (Nat.le_of_ble_eq_true rfl) ?_
  intro p e R s m args below meth c H locs ls A E hret w hl
  have E : Cx p R s m args meth c prog_10_method_7_code 11 "DrawingMachine$Textures" 1 D τ B A := E
  have hl : lv_has ls 11 [(0, .ref (ad 63)), (1, .int x0), (2, .int x1), (3, .int x2), (4, .ref (ad ar3))] := hl
  obtain ⟨c42, h⟩ := ck_some h
  refine lv_iload_n E.x E.b d_Tex_readTexel_0 rfl (lv_at hl 2 rfl) ?_
  refine lv_iconst (v := (-1)) E.x E.b d_Tex_readTexel_1 (by decide) ?_
  refine lv_icmp_eq (tgt := 10) E.x E.b d_Tex_readTexel_2 (by decide) (fun c => ?_) (fun c => ?_)
  ·
    replace h := ifT c h
    exact bt_Tex_readTexel_10 E hret o σ x0 ar3 h w (lv_sub hl [0, 1, 4] rfl)
  ·
    replace h := ifF c h
    refine lv_iload_n E.x E.b d_Tex_readTexel_5 rfl (lv_at hl 3 rfl) ?_
    refine lv_iconst (v := (-1)) E.x E.b d_Tex_readTexel_6 (by decide) ?_
    refine lv_icmp_ne (tgt := 29) E.x E.b d_Tex_readTexel_7 (by decide) (fun c => ?_) (fun c => ?_)
    ·
      replace h := ifF c h
      refine lv_aload_n E.x E.b d_Tex_readTexel_29 rfl (lv_at hl 0 rfl) ?_
      refine gC_Tex_kept E w k218 d_Tex_readTexel_30 ?_
      refine lv_sipush (v := 170) E.x E.b d_Tex_readTexel_33 (by decide) ?_
      refine lv_iconst (v := 5) E.x E.b d_Tex_readTexel_36 (by decide) ?_
      refine lv_iload_n E.x E.b d_Tex_readTexel_37 rfl (lv_at hl 1 rfl) ?_
      refine lv_imul E.x E.b d_Tex_readTexel_38 ?_
      refine lv_iadd E.x E.b d_Tex_readTexel_39 ?_
      refine lv_iconst (v := 4) E.x E.b d_Tex_readTexel_40 (by decide) ?_
      refine lv_iadd E.x E.b d_Tex_readTexel_41 ?_
      obtain ⟨c43, h⟩ := ck_some h
      refine ialC E w (k := 1) (by decide) c43 d_Tex_readTexel_42 ?_
      obtain ⟨y44, e_y44, h⟩ := lt_some h
      refine wi_e (v := y44) e_y44 ?_
      refine lv_istore (lv' := [(5, .int y44), (0, .ref (ad 63)), (1, .int x0), (2, .int x1), (3, .int x2), (4, .ref (ad ar3))]) E.x E.b d_Tex_readTexel_43 hl (by decide) rfl (fun ls hl => ?_)
      refine lv_iload_n E.x E.b d_Tex_readTexel_45 rfl (lv_at hl 4 rfl) ?_
      refine lv_iload_n E.x E.b d_Tex_readTexel_46 rfl (lv_at hl 3 rfl) ?_
      refine lv_iadd E.x E.b d_Tex_readTexel_47 ?_
      refine r_tab (n := "TEXEL_BITS") E w (by decide) n1070 d_Tex_readTexel_48 (fun t45 h_t45 => ?_)
      refine lv_iload E.x E.b d_Tex_readTexel_51 (lv_at hl 0 rfl) ?_
      obtain ⟨c46, h⟩ := ck_some h
      refine r_tld (f := fun j => tb_TEXEL_BITS j) E w h_t45 c46 d_Tex_readTexel_53 ?_
      refine lv_imul E.x E.b d_Tex_readTexel_54 ?_
      obtain ⟨y47, e_y47, h⟩ := lt_some h
      refine wi_e (v := y47) e_y47 ?_
      refine lv_istore (lv' := [(6, .int y47), (5, .int y44), (0, .ref (ad 63)), (1, .int x0), (2, .int x1), (3, .int x2), (4, .ref (ad ar3))]) E.x E.b d_Tex_readTexel_55 hl (by decide) rfl (fun ls hl => ?_)
      refine lv_aload_n E.x E.b d_Tex_readTexel_57 rfl (lv_at hl 2 rfl) ?_
      refine gC_Tex_memory E w k217 d_Tex_readTexel_58 ?_
      refine lv_aload_n E.x E.b d_Tex_readTexel_61 rfl (lv_at hl 2 rfl) ?_
      refine gC_Tex_kept E w k218 d_Tex_readTexel_62 ?_
      refine lv_sipush (v := 170) E.x E.b d_Tex_readTexel_65 (by decide) ?_
      refine lv_iconst (v := 5) E.x E.b d_Tex_readTexel_68 (by decide) ?_
      refine lv_iload_n E.x E.b d_Tex_readTexel_69 rfl (lv_at hl 3 rfl) ?_
      refine lv_imul E.x E.b d_Tex_readTexel_70 ?_
      refine lv_iadd E.x E.b d_Tex_readTexel_71 ?_
      obtain ⟨c48, h⟩ := ck_some h
      refine ialC E w (k := 1) (by decide) c48 d_Tex_readTexel_72 ?_
      refine lv_iload E.x E.b d_Tex_readTexel_73 (lv_at hl 0 rfl) ?_
      refine lv_iconst (v := 5) E.x E.b d_Tex_readTexel_75 (by decide) ?_
      refine lv_ishr E.x E.b d_Tex_readTexel_76 ?_
      refine wi_e (v := y47 >>> 5) rfl ?_
      refine lv_iadd E.x E.b d_Tex_readTexel_77 ?_
      refine lv_i2l (v := ((σ.2.2.1 1 (170 + (5 * x0)).toNatClampNeg) + (y47 >>> 5)).toInt64) E.x E.b d_Tex_readTexel_78 rfl ?_
      obtain ⟨o49, h_o49, h⟩ := bd_some h
      refine clSN_DM_wordOf E w (ar0 := 0) (x1 := (((σ.2.2.1 1 (170 + (5 * x0)).toNatClampNeg) + (y47 >>> 5)).toInt64)) h_o49 n1072 (by decide) hl.1 (Nat.le_of_ble_eq_true rfl) d_Tex_readTexel_79 (fun H locs w => ?_)
      refine lv_iload E.x E.b d_Tex_readTexel_82 (lv_at hl 0 rfl) ?_
      refine lv_bipush (v := 31) E.x E.b d_Tex_readTexel_84 (by decide) ?_
      refine lv_iand E.x E.b d_Tex_readTexel_86 ?_
      refine lv_iushr (v := ushr o49 (y47 &&& 31)) E.x E.b d_Tex_readTexel_87 rfl ?_
      obtain ⟨y50, e_y50, h⟩ := lt_some h
      refine wi_e (v := y50) e_y50 ?_
      refine lv_istore (lv' := [(7, .int y50), (6, .int y47), (5, .int y44), (0, .ref (ad 63)), (1, .int x0), (2, .int x1), (3, .int x2), (4, .ref (ad ar3))]) E.x E.b d_Tex_readTexel_88 hl (by decide) rfl (fun ls hl => ?_)
      refine lv_iconst (v := 0) E.x E.b d_Tex_readTexel_90 (by decide) ?_
      refine lv_istore (lv' := [(8, .int 0), (7, .int y50), (6, .int y47), (5, .int y44), (0, .ref (ad 63)), (1, .int x0), (2, .int x1), (3, .int x2), (4, .ref (ad ar3))]) E.x E.b d_Tex_readTexel_91 hl (by decide) rfl (fun ls hl => ?_)
      exact lt_Tex_readTexel_93 E hret o 100000 σ ar3 y44 y50 0 _ _ _ h w (lv_sub hl [8, 3, 1, 0] rfl)
    ·
      replace h := ifT c h
      exact bt_Tex_readTexel_10 E hret o σ x0 ar3 h w (lv_sub hl [0, 1, 4] rfl)
theorem clV_Tex_readTexel {p : Program} {l : Launch} {e : Env} {R : Room} {s : State} {m : MethodId} {args : Array Value} {below : List Frame} {meth : Method} {c : Code} {H : Heap} {locs : List Loc} {Q : State → Prop} {cc : ByteArray} {nL pc lev : Nat} {own : String} {D : va_G} {τ : ClassId × ClassId × ClassId} {B : Nat} {A : Nat → Prop} {σ : Sg} {ad : Nat → Nat} {ls : Array Slot} {rest : List Value} (E : Cx p R s m args meth c cc nL own lev D τ B A) (w : Wd s D A (wdC τ σ ad) H locs) {x0 : Int32} {x1 : Int32} {x2 : Int32} {ar3 : Nat} {o : Sg} (h : F_Tex_readTexel σ x0 x1 x2 ar3 = some o) {index : Nat} (hlk : Cond.methodLink own index y_Tex_readTexel ∈ tw) (hlev : 1 < lev) (hsz : ls.size = nL) (hr : (rest.map fun v => v.category).sum ≤ 8) (hd : decode cc pc = .ok (.invokevirtual index, 3)) (kk : ∀ (H1 : Heap) (locs1 : List Loc), Wd s D A (wdC τ o ad) H1 locs1 → W p l e R s m args below meth c H1 locs1 0 0 Q (F0 m (pc + 3) ls (rest))) : W p l e R s m args below meth c H locs 0 0 Q (F0 m pc ls (.ref (ad ar3) :: .int x2 :: .int x1 :: .int x0 :: .ref (ad 63) :: rest)) :=
  cr_v w E.C (va_runV (As := [.int x0, .int x1, .int x2, .ref (ad ar3)]) (rest := rest) E.fix (c_Tex_readTexel l D τ B σ ad x0 x1 x2 ar3 o h H.size) (cwV 4 E.w (tw_pre (tw_good k1068) (l := [_, _, _, _]) (List.forall_mem_cons.mpr ⟨hlk, List.forall_mem_cons.mpr ⟨k1067, List.forall_mem_cons.mpr ⟨ks15, List.forall_mem_cons.mpr ⟨k9, fun _ h => absurd h List.not_mem_nil⟩⟩⟩⟩)) rfl rfl rfl (by decide +kernel) (E.rm hlev (by decide))) (wd_preV w E.C [.int x0, .int x1, .int x2, .ref (ad ar3)] rcC_Tex rfl) rfl rfl hsz rfl (lv_room hr) hd ⟨Nat.zero_le _, Nat.zero_le _⟩) kk

theorem d_Tex_rowAt_0 : decode prog_10_method_5_code 0 = .ok (.iload_n 1, 1) := by decide +kernel
theorem d_Tex_rowAt_1 : decode prog_10_method_5_code 1 = .ok (.iconst (-1), 1) := by decide +kernel
theorem d_Tex_rowAt_2 : decode prog_10_method_5_code 2 = .ok (.if_icmp .ne 7, 3) := by decide +kernel
theorem d_Tex_rowAt_5 : decode prog_10_method_5_code 5 = .ok (.iconst (-1), 1) := by decide +kernel
theorem d_Tex_rowAt_6 : decode prog_10_method_5_code 6 = .ok (.goto 8, 3) := by decide +kernel
theorem d_Tex_rowAt_9 : decode prog_10_method_5_code 9 = .ok (.iload_n 0, 1) := by decide +kernel
theorem d_Tex_rowAt_10 : decode prog_10_method_5_code 10 = .ok (.iload_n 1, 1) := by decide +kernel
theorem d_Tex_rowAt_11 : decode prog_10_method_5_code 11 = .ok (.iload_n 2, 1) := by decide +kernel
theorem d_Tex_rowAt_12 : decode prog_10_method_5_code 12 = .ok (.ishl, 1) := by decide +kernel
theorem d_Tex_rowAt_13 : decode prog_10_method_5_code 13 = .ok (.iadd, 1) := by decide +kernel
theorem d_Tex_rowAt_14 : decode prog_10_method_5_code 14 = .ok (.ireturn, 1) := by decide +kernel
def F_Tex_rowAt_14  (s0 : Int32) : Option (Int32) := some s0
set_option maxRecDepth 10000 in
set_option maxHeartbeats 4000000 in
theorem bt_Tex_rowAt_14 {p : Program} {l : Launch} {e : Env} {R : Room} {s : State} {m : MethodId} {args : Array Value} {below : List Frame} {meth : Method} {c : Code} {D : va_G} {τ : ClassId × ClassId × ClassId} {B : Nat} {A : Nat → Prop} {ad : Nat → Nat} {σ0 : Sg} (E : Cx p R s m args meth c prog_10_method_5_code 3 "DrawingMachine$Textures" 0 D τ B A) (hret : meth.sig.returnType = (some .int)) (o : Int32) (s0 : Int32) (h : F_Tex_rowAt_14 s0 = some o) {H : Heap} {locs : List Loc} {ls : Array Slot} (w : Wd s D A (wdC τ σ0 ad) H locs) (hl : lv_has ls 3 []) : W p l e R s m args below meth c H locs 0 0 (QI below args s A D τ (wdC τ σ0 ad) o) (F0 m 14 ls [.int s0]) := by
  obtain rfl := Option.some.inj h
  exact rt_i E w hret d_Tex_rowAt_14
def F_Tex_rowAt  (x0 : Int32) (x1 : Int32) (x2 : Int32) : Option (Int32) := if x1 = (-1) then (F_Tex_rowAt_14 (-1)) else (F_Tex_rowAt_14 (x0 + (x1 <<< (x2 &&& 31))))
set_option maxRecDepth 10000 in
set_option maxHeartbeats 4000000 in
theorem c_Tex_rowAt (l : Launch) (D : va_G) (τ : ClassId × ClassId × ClassId) (B : Nat) (σ0 : Sg) (ad : Nat → Nat) (x0 : Int32) (x1 : Int32) (x2 : Int32) (o : Int32) (h : F_Tex_rowAt x0 x1 x2 = some o) : MI l y_Tex_rowAt (Cond.code y_Tex_rowAt prog_10_method_5_code 3 (some .int)) 0 D τ B [.int x0, .int x1, .int x2] (wdC τ σ0 ad) (wdC τ σ0 ad) o := by
  refine en_i (by decide) (Nat.le_of_ble_eq_true rfl) ?_
  intro p e R s m args below meth c H locs ls A E hret w hl
  have E : Cx p R s m args meth c prog_10_method_5_code 3 "DrawingMachine$Textures" 0 D τ B A := E
  have hl : lv_has ls 3 [(0, .int x0), (1, .int x1), (2, .int x2)] := hl
  refine lv_iload_n E.x E.b d_Tex_rowAt_0 rfl (lv_at hl 1 rfl) ?_
  refine lv_iconst (v := (-1)) E.x E.b d_Tex_rowAt_1 (by decide) ?_
  refine lv_icmp_ne (tgt := 9) E.x E.b d_Tex_rowAt_2 (by decide) (fun c => ?_) (fun c => ?_)
  ·
    replace h := ifF c h
    refine lv_iload_n E.x E.b d_Tex_rowAt_9 rfl (lv_at hl 0 rfl) ?_
    refine lv_iload_n E.x E.b d_Tex_rowAt_10 rfl (lv_at hl 1 rfl) ?_
    refine lv_iload_n E.x E.b d_Tex_rowAt_11 rfl (lv_at hl 2 rfl) ?_
    refine lv_ishl E.x E.b d_Tex_rowAt_12 ?_
    refine lv_iadd E.x E.b d_Tex_rowAt_13 ?_
    exact bt_Tex_rowAt_14 E hret o (x0 + (x1 <<< (x2 &&& 31))) h w (lv_sub hl [] rfl)
  ·
    replace h := ifT c h
    refine lv_iconst (v := (-1)) E.x E.b d_Tex_rowAt_5 (by decide) ?_
    refine lv_goto (tgt := 14) E.x E.b d_Tex_rowAt_6 (by decide) ?_
    exact bt_Tex_rowAt_14 E hret o (-1) h w (lv_sub hl [] rfl)
theorem clS_Tex_rowAt {p : Program} {l : Launch} {e : Env} {R : Room} {s : State} {m : MethodId} {args : Array Value} {below : List Frame} {meth : Method} {c : Code} {H : Heap} {locs : List Loc} {Q : State → Prop} {cc : ByteArray} {nL pc lev : Nat} {own : String} {D : va_G} {τ : ClassId × ClassId × ClassId} {B : Nat} {A : Nat → Prop} {σ : Sg} {ad : Nat → Nat} {ls : Array Slot} {rest : List Value} (E : Cx p R s m args meth c cc nL own lev D τ B A) (w : Wd s D A (wdC τ σ ad) H locs) {x0 : Int32} {x1 : Int32} {x2 : Int32} {o : Int32} (h : F_Tex_rowAt x0 x1 x2 = some o) {index : Nat} (hlk : Cond.methodLink own index y_Tex_rowAt ∈ tw) (hlev : 0 < lev) (hsz : ls.size = nL) (hr : (rest.map fun v => v.category).sum ≤ 8) (hd : decode cc pc = .ok (.invokestatic index, 3)) (kk : ∀ (H1 : Heap) (locs1 : List Loc), Wd s D A (wdC τ σ ad) H1 locs1 → W p l e R s m args below meth c H1 locs1 0 0 Q (F0 m (pc + 3) ls (.int o :: rest))) : W p l e R s m args below meth c H locs 0 0 Q (F0 m pc ls (.int x2 :: .int x1 :: .int x0 :: rest)) :=
  cr_i w E.C (va_runS (As := [.int x0, .int x1, .int x2]) (rest := rest) E.fix (c_Tex_rowAt l D τ B σ ad x0 x1 x2 o h H.size) (va_cwS 3 E.w (tw_pre (tw_good k1064) (l := [_, _, _]) (List.forall_mem_cons.mpr ⟨hlk, List.forall_mem_cons.mpr ⟨k1063, List.forall_mem_cons.mpr ⟨k9, fun _ h => absurd h List.not_mem_nil⟩⟩⟩)) rfl rfl rfl (by decide +kernel) (E.rm hlev (by decide))) (wd_pre w E.C [.int x0, .int x1, .int x2]) rfl rfl hsz rfl (lv_room hr) hd ⟨Nat.zero_le _, Nat.zero_le _⟩) kk

theorem d_Tex_texelsAbove_0 : decode prog_10_method_4_code 0 = .ok (.iconst 0, 1) := by decide +kernel
theorem d_Tex_texelsAbove_1 : decode prog_10_method_4_code 1 = .ok (.istore_n 3, 1) := by decide +kernel
theorem d_Tex_texelsAbove_2 : decode prog_10_method_4_code 2 = .ok (.iconst 0, 1) := by decide +kernel
theorem d_Tex_texelsAbove_3 : decode prog_10_method_4_code 3 = .ok (.istore 4, 2) := by decide +kernel
theorem d_Tex_texelsAbove_5 : decode prog_10_method_4_code 5 = .ok (.iload 4, 2) := by decide +kernel
theorem d_Tex_texelsAbove_7 : decode prog_10_method_4_code 7 = .ok (.iload_n 2, 1) := by decide +kernel
theorem d_Tex_texelsAbove_8 : decode prog_10_method_4_code 8 = .ok (.if_icmp .ge 31, 3) := by decide +kernel
theorem d_Tex_texelsAbove_11 : decode prog_10_method_4_code 11 = .ok (.iload_n 3, 1) := by decide +kernel
theorem d_Tex_texelsAbove_12 : decode prog_10_method_4_code 12 = .ok (.iconst 1, 1) := by decide +kernel
theorem d_Tex_texelsAbove_13 : decode prog_10_method_4_code 13 = .ok (.iload_n 0, 1) := by decide +kernel
theorem d_Tex_texelsAbove_14 : decode prog_10_method_4_code 14 = .ok (.iload 4, 2) := by decide +kernel
theorem d_Tex_texelsAbove_16 : decode prog_10_method_4_code 16 = .ok (.isub, 1) := by decide +kernel
theorem d_Tex_texelsAbove_17 : decode prog_10_method_4_code 17 = .ok (.iconst 0, 1) := by decide +kernel
theorem d_Tex_texelsAbove_18 : decode prog_10_method_4_code 18 = .ok (.invokestatic 47, 3) := by decide +kernel
theorem d_Tex_texelsAbove_21 : decode prog_10_method_4_code 21 = .ok (.iload_n 1, 1) := by decide +kernel
theorem d_Tex_texelsAbove_22 : decode prog_10_method_4_code 22 = .ok (.iload 4, 2) := by decide +kernel
theorem d_Tex_texelsAbove_24 : decode prog_10_method_4_code 24 = .ok (.isub, 1) := by decide +kernel
theorem d_Tex_texelsAbove_25 : decode prog_10_method_4_code 25 = .ok (.iconst 0, 1) := by decide +kernel
theorem d_Tex_texelsAbove_26 : decode prog_10_method_4_code 26 = .ok (.invokestatic 47, 3) := by decide +kernel
theorem d_Tex_texelsAbove_29 : decode prog_10_method_4_code 29 = .ok (.iadd, 1) := by decide +kernel
theorem d_Tex_texelsAbove_30 : decode prog_10_method_4_code 30 = .ok (.ishl, 1) := by decide +kernel
theorem d_Tex_texelsAbove_31 : decode prog_10_method_4_code 31 = .ok (.iadd, 1) := by decide +kernel
theorem d_Tex_texelsAbove_32 : decode prog_10_method_4_code 32 = .ok (.istore_n 3, 1) := by decide +kernel
theorem d_Tex_texelsAbove_33 : decode prog_10_method_4_code 33 = .ok (.iinc 4 1, 3) := by decide +kernel
theorem d_Tex_texelsAbove_36 : decode prog_10_method_4_code 36 = .ok (.goto (-31), 3) := by decide +kernel
theorem d_Tex_texelsAbove_39 : decode prog_10_method_4_code 39 = .ok (.iload_n 3, 1) := by decide +kernel
theorem d_Tex_texelsAbove_40 : decode prog_10_method_4_code 40 = .ok (.ireturn, 1) := by decide +kernel
def L_Tex_texelsAbove_5 : Nat → Int32 → Int32 → Int32 → Int32 → Int32 → Option (Int32)
  | 0, _, _, _, _, _ => none
  | n + 1, v0, v1, v2, v3, v4 => if v2 ≤ v4 then (some v3) else (lt (v3 + (1 <<< (((imax (v0 - v4) 0) + (imax (v1 - v4) 0)) &&& 31))) (fun y3 => lt (v4 + 1) (fun y4 => L_Tex_texelsAbove_5 n v0 v1 v2 y3 y4)))
set_option maxRecDepth 10000 in
set_option maxHeartbeats 4000000 in
theorem lt_Tex_texelsAbove_5 {p : Program} {l : Launch} {e : Env} {R : Room} {s : State} {m : MethodId} {args : Array Value} {below : List Frame} {meth : Method} {c : Code} {D : va_G} {τ : ClassId × ClassId × ClassId} {B : Nat} {A : Nat → Prop} {ad : Nat → Nat} {σ0 : Sg} (E : Cx p R s m args meth c prog_10_method_4_code 5 "DrawingMachine$Textures" 0 D τ B A) (hret : meth.sig.returnType = (some .int)) (o : Int32) : ∀ (n : Nat) (v0 : Int32) (v1 : Int32) (v2 : Int32) (v3 : Int32) (v4 : Int32) (H : Heap) (locs : List Loc) (ls : Array Slot), L_Tex_texelsAbove_5 n v0 v1 v2 v3 v4 = some o → Wd s D A (wdC τ σ0 ad) H locs → lv_has ls 5 [(0, .int v0), (1, .int v1), (2, .int v2), (3, .int v3), (4, .int v4)] → W p l e R s m args below meth c H locs 0 0 (QI below args s A D τ (wdC τ σ0 ad) o) (F0 m 5 ls []) := by
  intro n
  induction n with
  | zero =>
    intro v0 v1 v2 v3 v4 H locs ls h w hl
    cases h
  | succ n hr_5 =>
    intro v0 v1 v2 v3 v4 H locs ls h w hl
    refine lv_iload E.x E.b d_Tex_texelsAbove_5 (lv_at hl 4 rfl) ?_
    refine lv_iload_n E.x E.b d_Tex_texelsAbove_7 rfl (lv_at hl 2 rfl) ?_
    refine lv_icmp_ge (tgt := 39) E.x E.b d_Tex_texelsAbove_8 (by decide) (fun c => ?_) (fun c => ?_)
    ·
      replace h := ifT c h
      refine lv_iload_n E.x E.b d_Tex_texelsAbove_39 rfl (lv_at hl 3 rfl) ?_
      obtain rfl := Option.some.inj h
      exact rt_i E w hret d_Tex_texelsAbove_40
    ·
      replace h := ifF c h
      refine lv_iload_n E.x E.b d_Tex_texelsAbove_11 rfl (lv_at hl 3 rfl) ?_
      refine lv_iconst (v := 1) E.x E.b d_Tex_texelsAbove_12 (by decide) ?_
      refine lv_iload_n E.x E.b d_Tex_texelsAbove_13 rfl (lv_at hl 0 rfl) ?_
      refine lv_iload E.x E.b d_Tex_texelsAbove_14 (lv_at hl 4 rfl) ?_
      refine lv_isub E.x E.b d_Tex_texelsAbove_16 ?_
      refine lv_iconst (v := 0) E.x E.b d_Tex_texelsAbove_17 (by decide) ?_
      refine va_mmax E.x E.b (E.2.2.1.trans hl.1.symm) E.o (E.w _ k1054) (E.w _ k560) (E.w _ k25) (E.w _ k561) (Nat.le_trans (by decide) E.2.2.2.2.2.2.1) (Nat.le_trans (Nat.le_of_ble_eq_true rfl) E.2.2.2.2.2.2.2.1) (Nat.zero_le _) (Nat.zero_le _) d_Tex_texelsAbove_18 ?_
      refine wi_e (v := imax (v0 - v4) 0) rfl ?_
      refine lv_iload_n E.x E.b d_Tex_texelsAbove_21 rfl (lv_at hl 1 rfl) ?_
      refine lv_iload E.x E.b d_Tex_texelsAbove_22 (lv_at hl 4 rfl) ?_
      refine lv_isub E.x E.b d_Tex_texelsAbove_24 ?_
      refine lv_iconst (v := 0) E.x E.b d_Tex_texelsAbove_25 (by decide) ?_
      refine va_mmax E.x E.b (E.2.2.1.trans hl.1.symm) E.o (E.w _ k1054) (E.w _ k560) (E.w _ k25) (E.w _ k561) (Nat.le_trans (by decide) E.2.2.2.2.2.2.1) (Nat.le_trans (Nat.le_of_ble_eq_true rfl) E.2.2.2.2.2.2.2.1) (Nat.zero_le _) (Nat.zero_le _) d_Tex_texelsAbove_26 ?_
      refine wi_e (v := imax (v1 - v4) 0) rfl ?_
      refine lv_iadd E.x E.b d_Tex_texelsAbove_29 ?_
      refine lv_ishl E.x E.b d_Tex_texelsAbove_30 ?_
      refine lv_iadd E.x E.b d_Tex_texelsAbove_31 ?_
      obtain ⟨y3, e_y3, h⟩ := lt_some h
      refine wi_e (v := y3) e_y3 ?_
      refine lv_istore_n (lv' := [(3, .int y3), (0, .int v0), (1, .int v1), (2, .int v2), (4, .int v4)]) E.x E.b d_Tex_texelsAbove_32 rfl hl (by decide) rfl (fun ls hl => ?_)
      obtain ⟨y4, e_y4, h⟩ := lt_some h
      refine lv_iinc (v := y4) (lv' := [(4, .int y4), (3, .int y3), (0, .int v0), (1, .int v1), (2, .int v2)]) E.x E.b d_Tex_texelsAbove_33 hl (k := 4) rfl (e_y4) (by decide) rfl (fun ls hl => ?_)
      refine lv_goto (tgt := 5) E.x E.b d_Tex_texelsAbove_36 (by decide) ?_
      exact hr_5 v0 v1 v2 y3 y4 _ _ _ h w (lv_sub hl [2, 3, 4, 1, 0] rfl)
def F_Tex_texelsAbove  (x0 : Int32) (x1 : Int32) (x2 : Int32) : Option (Int32) := L_Tex_texelsAbove_5 100000 x0 x1 x2 0 0
set_option maxRecDepth 10000 in
set_option maxHeartbeats 4000000 in
theorem c_Tex_texelsAbove (l : Launch) (D : va_G) (τ : ClassId × ClassId × ClassId) (B : Nat) (σ0 : Sg) (ad : Nat → Nat) (x0 : Int32) (x1 : Int32) (x2 : Int32) (o : Int32) (h : F_Tex_texelsAbove x0 x1 x2 = some o) : MI l y_Tex_texelsAbove (Cond.code y_Tex_texelsAbove prog_10_method_4_code 5 (some .int)) 0 D τ B [.int x0, .int x1, .int x2] (wdC τ σ0 ad) (wdC τ σ0 ad) o := by
  refine en_i (by decide) (Nat.le_of_ble_eq_true rfl) ?_
  intro p e R s m args below meth c H locs ls A E hret w hl
  have E : Cx p R s m args meth c prog_10_method_4_code 5 "DrawingMachine$Textures" 0 D τ B A := E
  have hl : lv_has ls 5 [(0, .int x0), (1, .int x1), (2, .int x2)] := hl
  refine lv_iconst (v := 0) E.x E.b d_Tex_texelsAbove_0 (by decide) ?_
  refine lv_istore_n (lv' := [(3, .int 0), (0, .int x0), (1, .int x1), (2, .int x2)]) E.x E.b d_Tex_texelsAbove_1 rfl hl (by decide) rfl (fun ls hl => ?_)
  refine lv_iconst (v := 0) E.x E.b d_Tex_texelsAbove_2 (by decide) ?_
  refine lv_istore (lv' := [(4, .int 0), (3, .int 0), (0, .int x0), (1, .int x1), (2, .int x2)]) E.x E.b d_Tex_texelsAbove_3 hl (by decide) rfl (fun ls hl => ?_)
  exact lt_Tex_texelsAbove_5 E hret o 100000 x0 x1 x2 0 0 _ _ _ h w (lv_sub hl [2, 3, 4, 1, 0] rfl)
theorem clS_Tex_texelsAbove {p : Program} {l : Launch} {e : Env} {R : Room} {s : State} {m : MethodId} {args : Array Value} {below : List Frame} {meth : Method} {c : Code} {H : Heap} {locs : List Loc} {Q : State → Prop} {cc : ByteArray} {nL pc lev : Nat} {own : String} {D : va_G} {τ : ClassId × ClassId × ClassId} {B : Nat} {A : Nat → Prop} {σ : Sg} {ad : Nat → Nat} {ls : Array Slot} {rest : List Value} (E : Cx p R s m args meth c cc nL own lev D τ B A) (w : Wd s D A (wdC τ σ ad) H locs) {x0 : Int32} {x1 : Int32} {x2 : Int32} {o : Int32} (h : F_Tex_texelsAbove x0 x1 x2 = some o) {index : Nat} (hlk : Cond.methodLink own index y_Tex_texelsAbove ∈ tw) (hlev : 0 < lev) (hsz : ls.size = nL) (hr : (rest.map fun v => v.category).sum ≤ 8) (hd : decode cc pc = .ok (.invokestatic index, 3)) (kk : ∀ (H1 : Heap) (locs1 : List Loc), Wd s D A (wdC τ σ ad) H1 locs1 → W p l e R s m args below meth c H1 locs1 0 0 Q (F0 m (pc + 3) ls (.int o :: rest))) : W p l e R s m args below meth c H locs 0 0 Q (F0 m pc ls (.int x2 :: .int x1 :: .int x0 :: rest)) :=
  cr_i w E.C (va_runS (As := [.int x0, .int x1, .int x2]) (rest := rest) E.fix (c_Tex_texelsAbove l D τ B σ ad x0 x1 x2 o h H.size) (va_cwS 3 E.w (tw_pre (tw_good k1057) (l := [_, _, _]) (List.forall_mem_cons.mpr ⟨hlk, List.forall_mem_cons.mpr ⟨k1056, List.forall_mem_cons.mpr ⟨k9, fun _ h => absurd h List.not_mem_nil⟩⟩⟩)) rfl rfl rfl (by decide +kernel) (E.rm hlev (by decide))) (wd_pre w E.C [.int x0, .int x1, .int x2]) rfl rfl hsz rfl (lv_room hr) hd ⟨Nat.zero_le _, Nat.zero_le _⟩) kk

theorem d_Tex_wrapped_0 : decode prog_10_method_6_code 0 = .ok (.iload_n 0, 1) := by decide +kernel
theorem d_Tex_wrapped_1 : decode prog_10_method_6_code 1 = .ok (.tableswitch 68 0 2 #[27, 33, 43], 27) := by decide +kernel
theorem d_Tex_wrapped_28 : decode prog_10_method_6_code 28 = .ok (.iload_n 1, 1) := by decide +kernel
theorem d_Tex_wrapped_29 : decode prog_10_method_6_code 29 = .ok (.iload_n 2, 1) := by decide +kernel
theorem d_Tex_wrapped_30 : decode prog_10_method_6_code 30 = .ok (.iconst 1, 1) := by decide +kernel
theorem d_Tex_wrapped_31 : decode prog_10_method_6_code 31 = .ok (.isub, 1) := by decide +kernel
theorem d_Tex_wrapped_32 : decode prog_10_method_6_code 32 = .ok (.iand, 1) := by decide +kernel
theorem d_Tex_wrapped_33 : decode prog_10_method_6_code 33 = .ok (.ireturn, 1) := by decide +kernel
theorem d_Tex_wrapped_34 : decode prog_10_method_6_code 34 = .ok (.iload_n 1, 1) := by decide +kernel
theorem d_Tex_wrapped_35 : decode prog_10_method_6_code 35 = .ok (.i2l, 1) := by decide +kernel
theorem d_Tex_wrapped_36 : decode prog_10_method_6_code 36 = .ok (.iconst 0, 1) := by decide +kernel
theorem d_Tex_wrapped_37 : decode prog_10_method_6_code 37 = .ok (.iload_n 2, 1) := by decide +kernel
theorem d_Tex_wrapped_38 : decode prog_10_method_6_code 38 = .ok (.iconst 1, 1) := by decide +kernel
theorem d_Tex_wrapped_39 : decode prog_10_method_6_code 39 = .ok (.isub, 1) := by decide +kernel
theorem d_Tex_wrapped_40 : decode prog_10_method_6_code 40 = .ok (.invokestatic 34, 3) := by decide +kernel
theorem d_Tex_wrapped_43 : decode prog_10_method_6_code 43 = .ok (.ireturn, 1) := by decide +kernel
theorem d_Tex_wrapped_44 : decode prog_10_method_6_code 44 = .ok (.iload_n 1, 1) := by decide +kernel
theorem d_Tex_wrapped_45 : decode prog_10_method_6_code 45 = .ok (.iconst 2, 1) := by decide +kernel
theorem d_Tex_wrapped_46 : decode prog_10_method_6_code 46 = .ok (.iload_n 2, 1) := by decide +kernel
theorem d_Tex_wrapped_47 : decode prog_10_method_6_code 47 = .ok (.imul, 1) := by decide +kernel
theorem d_Tex_wrapped_48 : decode prog_10_method_6_code 48 = .ok (.iconst 1, 1) := by decide +kernel
theorem d_Tex_wrapped_49 : decode prog_10_method_6_code 49 = .ok (.isub, 1) := by decide +kernel
theorem d_Tex_wrapped_50 : decode prog_10_method_6_code 50 = .ok (.iand, 1) := by decide +kernel
theorem d_Tex_wrapped_51 : decode prog_10_method_6_code 51 = .ok (.istore_n 3, 1) := by decide +kernel
theorem d_Tex_wrapped_52 : decode prog_10_method_6_code 52 = .ok (.iload_n 3, 1) := by decide +kernel
theorem d_Tex_wrapped_53 : decode prog_10_method_6_code 53 = .ok (.iload_n 2, 1) := by decide +kernel
theorem d_Tex_wrapped_54 : decode prog_10_method_6_code 54 = .ok (.if_icmp .ge 7, 3) := by decide +kernel
theorem d_Tex_wrapped_57 : decode prog_10_method_6_code 57 = .ok (.iload_n 3, 1) := by decide +kernel
theorem d_Tex_wrapped_58 : decode prog_10_method_6_code 58 = .ok (.goto 10, 3) := by decide +kernel
theorem d_Tex_wrapped_61 : decode prog_10_method_6_code 61 = .ok (.iconst 2, 1) := by decide +kernel
theorem d_Tex_wrapped_62 : decode prog_10_method_6_code 62 = .ok (.iload_n 2, 1) := by decide +kernel
theorem d_Tex_wrapped_63 : decode prog_10_method_6_code 63 = .ok (.imul, 1) := by decide +kernel
theorem d_Tex_wrapped_64 : decode prog_10_method_6_code 64 = .ok (.iconst 1, 1) := by decide +kernel
theorem d_Tex_wrapped_65 : decode prog_10_method_6_code 65 = .ok (.isub, 1) := by decide +kernel
theorem d_Tex_wrapped_66 : decode prog_10_method_6_code 66 = .ok (.iload_n 3, 1) := by decide +kernel
theorem d_Tex_wrapped_67 : decode prog_10_method_6_code 67 = .ok (.isub, 1) := by decide +kernel
theorem d_Tex_wrapped_68 : decode prog_10_method_6_code 68 = .ok (.ireturn, 1) := by decide +kernel
theorem d_Tex_wrapped_69 : decode prog_10_method_6_code 69 = .ok (.iload_n 1, 1) := by decide +kernel
theorem d_Tex_wrapped_70 : decode prog_10_method_6_code 70 = .ok (.ifCond .lt 12, 3) := by decide +kernel
theorem d_Tex_wrapped_73 : decode prog_10_method_6_code 73 = .ok (.iload_n 1, 1) := by decide +kernel
theorem d_Tex_wrapped_74 : decode prog_10_method_6_code 74 = .ok (.iload_n 2, 1) := by decide +kernel
theorem d_Tex_wrapped_75 : decode prog_10_method_6_code 75 = .ok (.if_icmp .ge 7, 3) := by decide +kernel
theorem d_Tex_wrapped_78 : decode prog_10_method_6_code 78 = .ok (.iload_n 1, 1) := by decide +kernel
theorem d_Tex_wrapped_79 : decode prog_10_method_6_code 79 = .ok (.goto 4, 3) := by decide +kernel
theorem d_Tex_wrapped_82 : decode prog_10_method_6_code 82 = .ok (.iconst (-1), 1) := by decide +kernel
theorem d_Tex_wrapped_83 : decode prog_10_method_6_code 83 = .ok (.ireturn, 1) := by decide +kernel
def F_Tex_wrapped_83  (s0 : Int32) : Option (Int32) := some s0
set_option maxRecDepth 10000 in
set_option maxHeartbeats 4000000 in
theorem bt_Tex_wrapped_83 {p : Program} {l : Launch} {e : Env} {R : Room} {s : State} {m : MethodId} {args : Array Value} {below : List Frame} {meth : Method} {c : Code} {D : va_G} {τ : ClassId × ClassId × ClassId} {B : Nat} {A : Nat → Prop} {ad : Nat → Nat} {σ0 : Sg} (E : Cx p R s m args meth c prog_10_method_6_code 4 "DrawingMachine$Textures" 1 D τ B A) (hret : meth.sig.returnType = (some .int)) (o : Int32) (s0 : Int32) (h : F_Tex_wrapped_83 s0 = some o) {H : Heap} {locs : List Loc} {ls : Array Slot} (w : Wd s D A (wdC τ σ0 ad) H locs) (hl : lv_has ls 4 []) : W p l e R s m args below meth c H locs 0 0 (QI below args s A D τ (wdC τ σ0 ad) o) (F0 m 83 ls [.int s0]) := by
  obtain rfl := Option.some.inj h
  exact rt_i E w hret d_Tex_wrapped_83
def F_Tex_wrapped_82  : Option (Int32) := F_Tex_wrapped_83 (-1)
set_option maxRecDepth 10000 in
set_option maxHeartbeats 4000000 in
theorem bt_Tex_wrapped_82 {p : Program} {l : Launch} {e : Env} {R : Room} {s : State} {m : MethodId} {args : Array Value} {below : List Frame} {meth : Method} {c : Code} {D : va_G} {τ : ClassId × ClassId × ClassId} {B : Nat} {A : Nat → Prop} {ad : Nat → Nat} {σ0 : Sg} (E : Cx p R s m args meth c prog_10_method_6_code 4 "DrawingMachine$Textures" 1 D τ B A) (hret : meth.sig.returnType = (some .int)) (o : Int32) (h : F_Tex_wrapped_82 = some o) {H : Heap} {locs : List Loc} {ls : Array Slot} (w : Wd s D A (wdC τ σ0 ad) H locs) (hl : lv_has ls 4 []) : W p l e R s m args below meth c H locs 0 0 (QI below args s A D τ (wdC τ σ0 ad) o) (F0 m 82 ls []) := by
  refine lv_iconst (v := (-1)) E.x E.b d_Tex_wrapped_82 (by decide) ?_
  exact bt_Tex_wrapped_83 E hret o (-1) h w (lv_sub hl [] rfl)
def F_Tex_wrapped_68  (s0 : Int32) : Option (Int32) := some s0
set_option maxRecDepth 10000 in
set_option maxHeartbeats 4000000 in
theorem bt_Tex_wrapped_68 {p : Program} {l : Launch} {e : Env} {R : Room} {s : State} {m : MethodId} {args : Array Value} {below : List Frame} {meth : Method} {c : Code} {D : va_G} {τ : ClassId × ClassId × ClassId} {B : Nat} {A : Nat → Prop} {ad : Nat → Nat} {σ0 : Sg} (E : Cx p R s m args meth c prog_10_method_6_code 4 "DrawingMachine$Textures" 1 D τ B A) (hret : meth.sig.returnType = (some .int)) (o : Int32) (s0 : Int32) (h : F_Tex_wrapped_68 s0 = some o) {H : Heap} {locs : List Loc} {ls : Array Slot} (w : Wd s D A (wdC τ σ0 ad) H locs) (hl : lv_has ls 4 []) : W p l e R s m args below meth c H locs 0 0 (QI below args s A D τ (wdC τ σ0 ad) o) (F0 m 68 ls [.int s0]) := by
  obtain rfl := Option.some.inj h
  exact rt_i E w hret d_Tex_wrapped_68
def F_Tex_wrapped  (x0 : Int32) (x1 : Int32) (x2 : Int32) : Option (Int32) := if x0 = 0 then (some (x1 &&& (x2 - 1))) else (if x0 = 1 then (bd (F_DM_within x1.toInt64 0 (x2 - 1)) (fun o8 => some o8)) else (if x0 = 2 then (lt (x1 &&& ((2 * x2) - 1)) (fun y10 => if x2 ≤ y10 then (F_Tex_wrapped_68 (((2 * x2) - 1) - y10)) else (F_Tex_wrapped_68 y10))) else (if x1 < 0 then (F_Tex_wrapped_82) else (if x2 ≤ x1 then (F_Tex_wrapped_82) else (F_Tex_wrapped_83 x1)))))
set_option maxRecDepth 10000 in
set_option maxHeartbeats 4000000 in
theorem c_Tex_wrapped (l : Launch) (D : va_G) (τ : ClassId × ClassId × ClassId) (B : Nat) (σ0 : Sg) (ad : Nat → Nat) (x0 : Int32) (x1 : Int32) (x2 : Int32) (o : Int32) (h : F_Tex_wrapped x0 x1 x2 = some o) : MI l y_Tex_wrapped (Cond.code y_Tex_wrapped prog_10_method_6_code 4 (some .int)) 1 D τ B [.int x0, .int x1, .int x2] (wdC τ σ0 ad) (wdC τ σ0 ad) o := by
  refine en_i (by decide) (Nat.le_of_ble_eq_true rfl) ?_
  intro p e R s m args below meth c H locs ls A E hret w hl
  have E : Cx p R s m args meth c prog_10_method_6_code 4 "DrawingMachine$Textures" 1 D τ B A := E
  have hl : lv_has ls 4 [(0, .int x0), (1, .int x1), (2, .int x2)] := hl
  refine lv_iload_n E.x E.b d_Tex_wrapped_0 rfl (lv_at hl 0 rfl) ?_
  by_cases q6 : x0 = 0
  ·
    replace h := ifT q6 h
    refine wi_e (v := 0) q6 ?_
    refine lv_tableIn (off := 27) (tgt := 28) E.x E.b d_Tex_wrapped_1 (by decide) (by decide) (by decide) (by decide) ?_
    refine lv_iload_n E.x E.b d_Tex_wrapped_28 rfl (lv_at hl 1 rfl) ?_
    refine lv_iload_n E.x E.b d_Tex_wrapped_29 rfl (lv_at hl 2 rfl) ?_
    refine lv_iconst (v := 1) E.x E.b d_Tex_wrapped_30 (by decide) ?_
    refine lv_isub E.x E.b d_Tex_wrapped_31 ?_
    refine lv_iand E.x E.b d_Tex_wrapped_32 ?_
    obtain rfl := Option.some.inj h
    exact rt_i E w hret d_Tex_wrapped_33
  replace h := ifF q6 h
  replace q6 := ne_ti (k := 0) (by decide) q6
  by_cases q7 : x0 = 1
  ·
    replace h := ifT q7 h
    refine wi_e (v := 1) q7 ?_
    refine lv_tableIn (off := 33) (tgt := 34) E.x E.b d_Tex_wrapped_1 (by decide) (by decide) (by decide) (by decide) ?_
    refine lv_iload_n E.x E.b d_Tex_wrapped_34 rfl (lv_at hl 1 rfl) ?_
    refine lv_i2l (v := x1.toInt64) E.x E.b d_Tex_wrapped_35 rfl ?_
    refine lv_iconst (v := 0) E.x E.b d_Tex_wrapped_36 (by decide) ?_
    refine lv_iload_n E.x E.b d_Tex_wrapped_37 rfl (lv_at hl 2 rfl) ?_
    refine lv_iconst (v := 1) E.x E.b d_Tex_wrapped_38 (by decide) ?_
    refine lv_isub E.x E.b d_Tex_wrapped_39 ?_
    obtain ⟨o8, h_o8, h⟩ := bd_some h
    refine clSN_DM_within E w (x0 := x1.toInt64) (x1 := 0) (x2 := (x2 - 1)) h_o8 n1048 (by decide) hl.1 (Nat.le_of_ble_eq_true rfl) d_Tex_wrapped_40 (fun H locs w => ?_)
    obtain rfl := Option.some.inj h
    exact rt_i E w hret d_Tex_wrapped_43
  replace h := ifF q7 h
  replace q7 := ne_ti (k := 1) (by decide) q7
  by_cases q9 : x0 = 2
  ·
    replace h := ifT q9 h
    refine wi_e (v := 2) q9 ?_
    refine lv_tableIn (off := 43) (tgt := 44) E.x E.b d_Tex_wrapped_1 (by decide) (by decide) (by decide) (by decide) ?_
    refine lv_iload_n E.x E.b d_Tex_wrapped_44 rfl (lv_at hl 1 rfl) ?_
    refine lv_iconst (v := 2) E.x E.b d_Tex_wrapped_45 (by decide) ?_
    refine lv_iload_n E.x E.b d_Tex_wrapped_46 rfl (lv_at hl 2 rfl) ?_
    refine lv_imul E.x E.b d_Tex_wrapped_47 ?_
    refine lv_iconst (v := 1) E.x E.b d_Tex_wrapped_48 (by decide) ?_
    refine lv_isub E.x E.b d_Tex_wrapped_49 ?_
    refine lv_iand E.x E.b d_Tex_wrapped_50 ?_
    obtain ⟨y10, e_y10, h⟩ := lt_some h
    refine wi_e (v := y10) e_y10 ?_
    refine lv_istore_n (lv' := [(3, .int y10), (0, .int x0), (1, .int x1), (2, .int x2)]) E.x E.b d_Tex_wrapped_51 rfl hl (by decide) rfl (fun ls hl => ?_)
    refine lv_iload_n E.x E.b d_Tex_wrapped_52 rfl (lv_at hl 0 rfl) ?_
    refine lv_iload_n E.x E.b d_Tex_wrapped_53 rfl (lv_at hl 3 rfl) ?_
    refine lv_icmp_ge (tgt := 61) E.x E.b d_Tex_wrapped_54 (by decide) (fun c => ?_) (fun c => ?_)
    ·
      replace h := ifT c h
      refine lv_iconst (v := 2) E.x E.b d_Tex_wrapped_61 (by decide) ?_
      refine lv_iload_n E.x E.b d_Tex_wrapped_62 rfl (lv_at hl 3 rfl) ?_
      refine lv_imul E.x E.b d_Tex_wrapped_63 ?_
      refine lv_iconst (v := 1) E.x E.b d_Tex_wrapped_64 (by decide) ?_
      refine lv_isub E.x E.b d_Tex_wrapped_65 ?_
      refine lv_iload_n E.x E.b d_Tex_wrapped_66 rfl (lv_at hl 0 rfl) ?_
      refine lv_isub E.x E.b d_Tex_wrapped_67 ?_
      exact bt_Tex_wrapped_68 E hret o (((2 * x2) - 1) - y10) h w (lv_sub hl [] rfl)
    ·
      replace h := ifF c h
      refine lv_iload_n E.x E.b d_Tex_wrapped_57 rfl (lv_at hl 0 rfl) ?_
      refine lv_goto (tgt := 68) E.x E.b d_Tex_wrapped_58 (by decide) ?_
      exact bt_Tex_wrapped_68 E hret o y10 h w (lv_sub hl [] rfl)
  replace h := ifF q9 h
  replace q9 := ne_ti (k := 2) (by decide) q9
  refine lv_tableOut (tgt := 69) E.x E.b d_Tex_wrapped_1 (by omega) (by decide) ?_
  refine lv_iload_n E.x E.b d_Tex_wrapped_69 rfl (lv_at hl 1 rfl) ?_
  refine lv_if_lt (tgt := 82) E.x E.b d_Tex_wrapped_70 (by decide) (fun c => ?_) (fun c => ?_)
  ·
    replace h := ifT c h
    exact bt_Tex_wrapped_82 E hret o h w (lv_sub hl [] rfl)
  ·
    replace h := ifF c h
    refine lv_iload_n E.x E.b d_Tex_wrapped_73 rfl (lv_at hl 1 rfl) ?_
    refine lv_iload_n E.x E.b d_Tex_wrapped_74 rfl (lv_at hl 2 rfl) ?_
    refine lv_icmp_ge (tgt := 82) E.x E.b d_Tex_wrapped_75 (by decide) (fun c => ?_) (fun c => ?_)
    ·
      replace h := ifT c h
      exact bt_Tex_wrapped_82 E hret o h w (lv_sub hl [] rfl)
    ·
      replace h := ifF c h
      refine lv_iload_n E.x E.b d_Tex_wrapped_78 rfl (lv_at hl 1 rfl) ?_
      refine lv_goto (tgt := 83) E.x E.b d_Tex_wrapped_79 (by decide) ?_
      exact bt_Tex_wrapped_83 E hret o x1 h w (lv_sub hl [] rfl)
theorem clS_Tex_wrapped {p : Program} {l : Launch} {e : Env} {R : Room} {s : State} {m : MethodId} {args : Array Value} {below : List Frame} {meth : Method} {c : Code} {H : Heap} {locs : List Loc} {Q : State → Prop} {cc : ByteArray} {nL pc lev : Nat} {own : String} {D : va_G} {τ : ClassId × ClassId × ClassId} {B : Nat} {A : Nat → Prop} {σ : Sg} {ad : Nat → Nat} {ls : Array Slot} {rest : List Value} (E : Cx p R s m args meth c cc nL own lev D τ B A) (w : Wd s D A (wdC τ σ ad) H locs) {x0 : Int32} {x1 : Int32} {x2 : Int32} {o : Int32} (h : F_Tex_wrapped x0 x1 x2 = some o) {index : Nat} (hlk : Cond.methodLink own index y_Tex_wrapped ∈ tw) (hlev : 1 < lev) (hsz : ls.size = nL) (hr : (rest.map fun v => v.category).sum ≤ 8) (hd : decode cc pc = .ok (.invokestatic index, 3)) (kk : ∀ (H1 : Heap) (locs1 : List Loc), Wd s D A (wdC τ σ ad) H1 locs1 → W p l e R s m args below meth c H1 locs1 0 0 Q (F0 m (pc + 3) ls (.int o :: rest))) : W p l e R s m args below meth c H locs 0 0 Q (F0 m pc ls (.int x2 :: .int x1 :: .int x0 :: rest)) :=
  cr_i w E.C (va_runS (As := [.int x0, .int x1, .int x2]) (rest := rest) E.fix (c_Tex_wrapped l D τ B σ ad x0 x1 x2 o h H.size) (va_cwS 3 E.w (tw_pre (tw_good k1061) (l := [_, _, _]) (List.forall_mem_cons.mpr ⟨hlk, List.forall_mem_cons.mpr ⟨k1060, List.forall_mem_cons.mpr ⟨k9, fun _ h => absurd h List.not_mem_nil⟩⟩⟩)) rfl rfl rfl (by decide +kernel) (E.rm hlev (by decide))) (wd_pre w E.C [.int x0, .int x1, .int x2]) rfl rfl hsz rfl (lv_room hr) hd ⟨Nat.zero_le _, Nat.zero_le _⟩) kk

theorem d_Tex_readLevel_0 : decode prog_10_method_3_code 0 = .ok (.sipush 170, 3) := by decide +kernel
theorem d_Tex_readLevel_3 : decode prog_10_method_3_code 3 = .ok (.iconst 5, 1) := by decide +kernel
theorem d_Tex_readLevel_4 : decode prog_10_method_3_code 4 = .ok (.iload_n 1, 1) := by decide +kernel
theorem d_Tex_readLevel_5 : decode prog_10_method_3_code 5 = .ok (.imul, 1) := by decide +kernel
theorem d_Tex_readLevel_6 : decode prog_10_method_3_code 6 = .ok (.iadd, 1) := by decide +kernel
theorem d_Tex_readLevel_7 : decode prog_10_method_3_code 7 = .ok (.istore 6, 2) := by decide +kernel
theorem d_Tex_readLevel_9 : decode prog_10_method_3_code 9 = .ok (.aload_n 0, 1) := by decide +kernel
theorem d_Tex_readLevel_10 : decode prog_10_method_3_code 10 = .ok (.getfield 32, 3) := by decide +kernel
theorem d_Tex_readLevel_13 : decode prog_10_method_3_code 13 = .ok (.iload 6, 2) := by decide +kernel
theorem d_Tex_readLevel_15 : decode prog_10_method_3_code 15 = .ok (.iconst 1, 1) := by decide +kernel
theorem d_Tex_readLevel_16 : decode prog_10_method_3_code 16 = .ok (.iadd, 1) := by decide +kernel
theorem d_Tex_readLevel_17 : decode prog_10_method_3_code 17 = .ok (.iaload, 1) := by decide +kernel
theorem d_Tex_readLevel_18 : decode prog_10_method_3_code 18 = .ok (.iload_n 2, 1) := by decide +kernel
theorem d_Tex_readLevel_19 : decode prog_10_method_3_code 19 = .ok (.isub, 1) := by decide +kernel
theorem d_Tex_readLevel_20 : decode prog_10_method_3_code 20 = .ok (.iconst 0, 1) := by decide +kernel
theorem d_Tex_readLevel_21 : decode prog_10_method_3_code 21 = .ok (.invokestatic 47, 3) := by decide +kernel
theorem d_Tex_readLevel_24 : decode prog_10_method_3_code 24 = .ok (.istore 7, 2) := by decide +kernel
theorem d_Tex_readLevel_26 : decode prog_10_method_3_code 26 = .ok (.aload_n 0, 1) := by decide +kernel
theorem d_Tex_readLevel_27 : decode prog_10_method_3_code 27 = .ok (.getfield 32, 3) := by decide +kernel
theorem d_Tex_readLevel_30 : decode prog_10_method_3_code 30 = .ok (.iload 6, 2) := by decide +kernel
theorem d_Tex_readLevel_32 : decode prog_10_method_3_code 32 = .ok (.iconst 2, 1) := by decide +kernel
theorem d_Tex_readLevel_33 : decode prog_10_method_3_code 33 = .ok (.iadd, 1) := by decide +kernel
theorem d_Tex_readLevel_34 : decode prog_10_method_3_code 34 = .ok (.iaload, 1) := by decide +kernel
theorem d_Tex_readLevel_35 : decode prog_10_method_3_code 35 = .ok (.iload_n 2, 1) := by decide +kernel
theorem d_Tex_readLevel_36 : decode prog_10_method_3_code 36 = .ok (.isub, 1) := by decide +kernel
theorem d_Tex_readLevel_37 : decode prog_10_method_3_code 37 = .ok (.iconst 0, 1) := by decide +kernel
theorem d_Tex_readLevel_38 : decode prog_10_method_3_code 38 = .ok (.invokestatic 47, 3) := by decide +kernel
theorem d_Tex_readLevel_41 : decode prog_10_method_3_code 41 = .ok (.istore 8, 2) := by decide +kernel
theorem d_Tex_readLevel_43 : decode prog_10_method_3_code 43 = .ok (.aload_n 0, 1) := by decide +kernel
theorem d_Tex_readLevel_44 : decode prog_10_method_3_code 44 = .ok (.getfield 32, 3) := by decide +kernel
theorem d_Tex_readLevel_47 : decode prog_10_method_3_code 47 = .ok (.iload 6, 2) := by decide +kernel
theorem d_Tex_readLevel_49 : decode prog_10_method_3_code 49 = .ok (.iconst 1, 1) := by decide +kernel
theorem d_Tex_readLevel_50 : decode prog_10_method_3_code 50 = .ok (.iadd, 1) := by decide +kernel
theorem d_Tex_readLevel_51 : decode prog_10_method_3_code 51 = .ok (.iaload, 1) := by decide +kernel
theorem d_Tex_readLevel_52 : decode prog_10_method_3_code 52 = .ok (.aload_n 0, 1) := by decide +kernel
theorem d_Tex_readLevel_53 : decode prog_10_method_3_code 53 = .ok (.getfield 32, 3) := by decide +kernel
theorem d_Tex_readLevel_56 : decode prog_10_method_3_code 56 = .ok (.iload 6, 2) := by decide +kernel
theorem d_Tex_readLevel_58 : decode prog_10_method_3_code 58 = .ok (.iconst 2, 1) := by decide +kernel
theorem d_Tex_readLevel_59 : decode prog_10_method_3_code 59 = .ok (.iadd, 1) := by decide +kernel
theorem d_Tex_readLevel_60 : decode prog_10_method_3_code 60 = .ok (.iaload, 1) := by decide +kernel
theorem d_Tex_readLevel_61 : decode prog_10_method_3_code 61 = .ok (.iload_n 2, 1) := by decide +kernel
theorem d_Tex_readLevel_62 : decode prog_10_method_3_code 62 = .ok (.invokestatic 53, 3) := by decide +kernel
theorem d_Tex_readLevel_65 : decode prog_10_method_3_code 65 = .ok (.istore 9, 2) := by decide +kernel
theorem d_Tex_readLevel_67 : decode prog_10_method_3_code 67 = .ok (.aload_n 0, 1) := by decide +kernel
theorem d_Tex_readLevel_68 : decode prog_10_method_3_code 68 = .ok (.getfield 32, 3) := by decide +kernel
theorem d_Tex_readLevel_71 : decode prog_10_method_3_code 71 = .ok (.sipush 217, 3) := by decide +kernel
theorem d_Tex_readLevel_74 : decode prog_10_method_3_code 74 = .ok (.iconst 3, 1) := by decide +kernel
theorem d_Tex_readLevel_75 : decode prog_10_method_3_code 75 = .ok (.iload_n 1, 1) := by decide +kernel
theorem d_Tex_readLevel_76 : decode prog_10_method_3_code 76 = .ok (.imul, 1) := by decide +kernel
theorem d_Tex_readLevel_77 : decode prog_10_method_3_code 77 = .ok (.iadd, 1) := by decide +kernel
theorem d_Tex_readLevel_78 : decode prog_10_method_3_code 78 = .ok (.iaload, 1) := by decide +kernel
theorem d_Tex_readLevel_79 : decode prog_10_method_3_code 79 = .ok (.istore 10, 2) := by decide +kernel
theorem d_Tex_readLevel_81 : decode prog_10_method_3_code 81 = .ok (.aload_n 0, 1) := by decide +kernel
theorem d_Tex_readLevel_82 : decode prog_10_method_3_code 82 = .ok (.getfield 32, 3) := by decide +kernel
theorem d_Tex_readLevel_85 : decode prog_10_method_3_code 85 = .ok (.sipush 217, 3) := by decide +kernel
theorem d_Tex_readLevel_88 : decode prog_10_method_3_code 88 = .ok (.iconst 3, 1) := by decide +kernel
theorem d_Tex_readLevel_89 : decode prog_10_method_3_code 89 = .ok (.iload_n 1, 1) := by decide +kernel
theorem d_Tex_readLevel_90 : decode prog_10_method_3_code 90 = .ok (.imul, 1) := by decide +kernel
theorem d_Tex_readLevel_91 : decode prog_10_method_3_code 91 = .ok (.iadd, 1) := by decide +kernel
theorem d_Tex_readLevel_92 : decode prog_10_method_3_code 92 = .ok (.iconst 1, 1) := by decide +kernel
theorem d_Tex_readLevel_93 : decode prog_10_method_3_code 93 = .ok (.iadd, 1) := by decide +kernel
theorem d_Tex_readLevel_94 : decode prog_10_method_3_code 94 = .ok (.iaload, 1) := by decide +kernel
theorem d_Tex_readLevel_95 : decode prog_10_method_3_code 95 = .ok (.istore 11, 2) := by decide +kernel
theorem d_Tex_readLevel_97 : decode prog_10_method_3_code 97 = .ok (.aload_n 0, 1) := by decide +kernel
theorem d_Tex_readLevel_98 : decode prog_10_method_3_code 98 = .ok (.getfield 32, 3) := by decide +kernel
theorem d_Tex_readLevel_101 : decode prog_10_method_3_code 101 = .ok (.sipush 217, 3) := by decide +kernel
theorem d_Tex_readLevel_104 : decode prog_10_method_3_code 104 = .ok (.iconst 3, 1) := by decide +kernel
theorem d_Tex_readLevel_105 : decode prog_10_method_3_code 105 = .ok (.iload_n 1, 1) := by decide +kernel
theorem d_Tex_readLevel_106 : decode prog_10_method_3_code 106 = .ok (.imul, 1) := by decide +kernel
theorem d_Tex_readLevel_107 : decode prog_10_method_3_code 107 = .ok (.iadd, 1) := by decide +kernel
theorem d_Tex_readLevel_108 : decode prog_10_method_3_code 108 = .ok (.iconst 2, 1) := by decide +kernel
theorem d_Tex_readLevel_109 : decode prog_10_method_3_code 109 = .ok (.iadd, 1) := by decide +kernel
theorem d_Tex_readLevel_110 : decode prog_10_method_3_code 110 = .ok (.iaload, 1) := by decide +kernel
theorem d_Tex_readLevel_111 : decode prog_10_method_3_code 111 = .ok (.iconst 1, 1) := by decide +kernel
theorem d_Tex_readLevel_112 : decode prog_10_method_3_code 112 = .ok (.iand, 1) := by decide +kernel
theorem d_Tex_readLevel_113 : decode prog_10_method_3_code 113 = .ok (.ifCond .eq 7, 3) := by decide +kernel
theorem d_Tex_readLevel_116 : decode prog_10_method_3_code 116 = .ok (.iconst 1, 1) := by decide +kernel
theorem d_Tex_readLevel_117 : decode prog_10_method_3_code 117 = .ok (.goto 4, 3) := by decide +kernel
theorem d_Tex_readLevel_120 : decode prog_10_method_3_code 120 = .ok (.iconst 0, 1) := by decide +kernel
theorem d_Tex_readLevel_121 : decode prog_10_method_3_code 121 = .ok (.istore 12, 2) := by decide +kernel
theorem d_Tex_readLevel_123 : decode prog_10_method_3_code 123 = .ok (.iload_n 3, 1) := by decide +kernel
theorem d_Tex_readLevel_124 : decode prog_10_method_3_code 124 = .ok (.i2l, 1) := by decide +kernel
theorem d_Tex_readLevel_125 : decode prog_10_method_3_code 125 = .ok (.iload 7, 2) := by decide +kernel
theorem d_Tex_readLevel_127 : decode prog_10_method_3_code 127 = .ok (.lshl, 1) := by decide +kernel
theorem d_Tex_readLevel_128 : decode prog_10_method_3_code 128 = .ok (.iload 12, 2) := by decide +kernel
theorem d_Tex_readLevel_130 : decode prog_10_method_3_code 130 = .ok (.ifCond .eq 8, 3) := by decide +kernel
theorem d_Tex_readLevel_133 : decode prog_10_method_3_code 133 = .ok (.ldc 57, 2) := by decide +kernel
theorem d_Tex_readLevel_135 : decode prog_10_method_3_code 135 = .ok (.goto 4, 3) := by decide +kernel
theorem d_Tex_readLevel_138 : decode prog_10_method_3_code 138 = .ok (.iconst 0, 1) := by decide +kernel
theorem d_Tex_readLevel_139 : decode prog_10_method_3_code 139 = .ok (.i2l, 1) := by decide +kernel
theorem d_Tex_readLevel_140 : decode prog_10_method_3_code 140 = .ok (.lsub, 1) := by decide +kernel
theorem d_Tex_readLevel_141 : decode prog_10_method_3_code 141 = .ok (.lstore 13, 2) := by decide +kernel
theorem d_Tex_readLevel_143 : decode prog_10_method_3_code 143 = .ok (.iload 4, 2) := by decide +kernel
theorem d_Tex_readLevel_145 : decode prog_10_method_3_code 145 = .ok (.i2l, 1) := by decide +kernel
theorem d_Tex_readLevel_146 : decode prog_10_method_3_code 146 = .ok (.iload 8, 2) := by decide +kernel
theorem d_Tex_readLevel_148 : decode prog_10_method_3_code 148 = .ok (.lshl, 1) := by decide +kernel
theorem d_Tex_readLevel_149 : decode prog_10_method_3_code 149 = .ok (.iload 12, 2) := by decide +kernel
theorem d_Tex_readLevel_151 : decode prog_10_method_3_code 151 = .ok (.ifCond .eq 8, 3) := by decide +kernel
theorem d_Tex_readLevel_154 : decode prog_10_method_3_code 154 = .ok (.ldc 57, 2) := by decide +kernel
theorem d_Tex_readLevel_156 : decode prog_10_method_3_code 156 = .ok (.goto 4, 3) := by decide +kernel
theorem d_Tex_readLevel_159 : decode prog_10_method_3_code 159 = .ok (.iconst 0, 1) := by decide +kernel
theorem d_Tex_readLevel_160 : decode prog_10_method_3_code 160 = .ok (.i2l, 1) := by decide +kernel
theorem d_Tex_readLevel_161 : decode prog_10_method_3_code 161 = .ok (.lsub, 1) := by decide +kernel
theorem d_Tex_readLevel_162 : decode prog_10_method_3_code 162 = .ok (.lstore 15, 2) := by decide +kernel
theorem d_Tex_readLevel_164 : decode prog_10_method_3_code 164 = .ok (.lload 13, 2) := by decide +kernel
theorem d_Tex_readLevel_166 : decode prog_10_method_3_code 166 = .ok (.bipush 16, 2) := by decide +kernel
theorem d_Tex_readLevel_168 : decode prog_10_method_3_code 168 = .ok (.lshr, 1) := by decide +kernel
theorem d_Tex_readLevel_169 : decode prog_10_method_3_code 169 = .ok (.l2i, 1) := by decide +kernel
theorem d_Tex_readLevel_170 : decode prog_10_method_3_code 170 = .ok (.istore 17, 2) := by decide +kernel
theorem d_Tex_readLevel_172 : decode prog_10_method_3_code 172 = .ok (.lload 15, 2) := by decide +kernel
theorem d_Tex_readLevel_174 : decode prog_10_method_3_code 174 = .ok (.bipush 16, 2) := by decide +kernel
theorem d_Tex_readLevel_176 : decode prog_10_method_3_code 176 = .ok (.lshr, 1) := by decide +kernel
theorem d_Tex_readLevel_177 : decode prog_10_method_3_code 177 = .ok (.l2i, 1) := by decide +kernel
theorem d_Tex_readLevel_178 : decode prog_10_method_3_code 178 = .ok (.istore 18, 2) := by decide +kernel
theorem d_Tex_readLevel_180 : decode prog_10_method_3_code 180 = .ok (.iload 10, 2) := by decide +kernel
theorem d_Tex_readLevel_182 : decode prog_10_method_3_code 182 = .ok (.iload 17, 2) := by decide +kernel
theorem d_Tex_readLevel_184 : decode prog_10_method_3_code 184 = .ok (.iconst 1, 1) := by decide +kernel
theorem d_Tex_readLevel_185 : decode prog_10_method_3_code 185 = .ok (.iload 7, 2) := by decide +kernel
theorem d_Tex_readLevel_187 : decode prog_10_method_3_code 187 = .ok (.ishl, 1) := by decide +kernel
theorem d_Tex_readLevel_188 : decode prog_10_method_3_code 188 = .ok (.invokestatic 58, 3) := by decide +kernel
theorem d_Tex_readLevel_191 : decode prog_10_method_3_code 191 = .ok (.istore 19, 2) := by decide +kernel
theorem d_Tex_readLevel_193 : decode prog_10_method_3_code 193 = .ok (.iload 9, 2) := by decide +kernel
theorem d_Tex_readLevel_195 : decode prog_10_method_3_code 195 = .ok (.iload 11, 2) := by decide +kernel
theorem d_Tex_readLevel_197 : decode prog_10_method_3_code 197 = .ok (.iload 18, 2) := by decide +kernel
theorem d_Tex_readLevel_199 : decode prog_10_method_3_code 199 = .ok (.iconst 1, 1) := by decide +kernel
theorem d_Tex_readLevel_200 : decode prog_10_method_3_code 200 = .ok (.iload 8, 2) := by decide +kernel
theorem d_Tex_readLevel_202 : decode prog_10_method_3_code 202 = .ok (.ishl, 1) := by decide +kernel
theorem d_Tex_readLevel_203 : decode prog_10_method_3_code 203 = .ok (.invokestatic 58, 3) := by decide +kernel
theorem d_Tex_readLevel_206 : decode prog_10_method_3_code 206 = .ok (.iload 7, 2) := by decide +kernel
theorem d_Tex_readLevel_208 : decode prog_10_method_3_code 208 = .ok (.invokestatic 61, 3) := by decide +kernel
theorem d_Tex_readLevel_211 : decode prog_10_method_3_code 211 = .ok (.istore 20, 2) := by decide +kernel
theorem d_Tex_readLevel_213 : decode prog_10_method_3_code 213 = .ok (.aload_n 0, 1) := by decide +kernel
theorem d_Tex_readLevel_214 : decode prog_10_method_3_code 214 = .ok (.iload_n 1, 1) := by decide +kernel
theorem d_Tex_readLevel_215 : decode prog_10_method_3_code 215 = .ok (.iload 19, 2) := by decide +kernel
theorem d_Tex_readLevel_217 : decode prog_10_method_3_code 217 = .ok (.iload 20, 2) := by decide +kernel
theorem d_Tex_readLevel_219 : decode prog_10_method_3_code 219 = .ok (.aload 5, 2) := by decide +kernel
theorem d_Tex_readLevel_221 : decode prog_10_method_3_code 221 = .ok (.invokevirtual 64, 3) := by decide +kernel
theorem d_Tex_readLevel_224 : decode prog_10_method_3_code 224 = .ok (.iload 12, 2) := by decide +kernel
theorem d_Tex_readLevel_226 : decode prog_10_method_3_code 226 = .ok (.ifCond .eq 128, 3) := by decide +kernel
theorem d_Tex_readLevel_229 : decode prog_10_method_3_code 229 = .ok (.iload 10, 2) := by decide +kernel
theorem d_Tex_readLevel_231 : decode prog_10_method_3_code 231 = .ok (.iload 17, 2) := by decide +kernel
theorem d_Tex_readLevel_233 : decode prog_10_method_3_code 233 = .ok (.iconst 1, 1) := by decide +kernel
theorem d_Tex_readLevel_234 : decode prog_10_method_3_code 234 = .ok (.iadd, 1) := by decide +kernel
theorem d_Tex_readLevel_235 : decode prog_10_method_3_code 235 = .ok (.iconst 1, 1) := by decide +kernel
theorem d_Tex_readLevel_236 : decode prog_10_method_3_code 236 = .ok (.iload 7, 2) := by decide +kernel
theorem d_Tex_readLevel_238 : decode prog_10_method_3_code 238 = .ok (.ishl, 1) := by decide +kernel
theorem d_Tex_readLevel_239 : decode prog_10_method_3_code 239 = .ok (.invokestatic 58, 3) := by decide +kernel
theorem d_Tex_readLevel_242 : decode prog_10_method_3_code 242 = .ok (.istore 21, 2) := by decide +kernel
theorem d_Tex_readLevel_244 : decode prog_10_method_3_code 244 = .ok (.iload 9, 2) := by decide +kernel
theorem d_Tex_readLevel_246 : decode prog_10_method_3_code 246 = .ok (.iload 11, 2) := by decide +kernel
theorem d_Tex_readLevel_248 : decode prog_10_method_3_code 248 = .ok (.iload 18, 2) := by decide +kernel
theorem d_Tex_readLevel_250 : decode prog_10_method_3_code 250 = .ok (.iconst 1, 1) := by decide +kernel
theorem d_Tex_readLevel_251 : decode prog_10_method_3_code 251 = .ok (.iadd, 1) := by decide +kernel
theorem d_Tex_readLevel_252 : decode prog_10_method_3_code 252 = .ok (.iconst 1, 1) := by decide +kernel
theorem d_Tex_readLevel_253 : decode prog_10_method_3_code 253 = .ok (.iload 8, 2) := by decide +kernel
theorem d_Tex_readLevel_255 : decode prog_10_method_3_code 255 = .ok (.ishl, 1) := by decide +kernel
theorem d_Tex_readLevel_256 : decode prog_10_method_3_code 256 = .ok (.invokestatic 58, 3) := by decide +kernel
theorem d_Tex_readLevel_259 : decode prog_10_method_3_code 259 = .ok (.iload 7, 2) := by decide +kernel
theorem d_Tex_readLevel_261 : decode prog_10_method_3_code 261 = .ok (.invokestatic 61, 3) := by decide +kernel
theorem d_Tex_readLevel_264 : decode prog_10_method_3_code 264 = .ok (.istore 22, 2) := by decide +kernel
theorem d_Tex_readLevel_266 : decode prog_10_method_3_code 266 = .ok (.aload_n 0, 1) := by decide +kernel
theorem d_Tex_readLevel_267 : decode prog_10_method_3_code 267 = .ok (.iload_n 1, 1) := by decide +kernel
theorem d_Tex_readLevel_268 : decode prog_10_method_3_code 268 = .ok (.iload 21, 2) := by decide +kernel
theorem d_Tex_readLevel_270 : decode prog_10_method_3_code 270 = .ok (.iload 20, 2) := by decide +kernel
theorem d_Tex_readLevel_272 : decode prog_10_method_3_code 272 = .ok (.aload_n 0, 1) := by decide +kernel
theorem d_Tex_readLevel_273 : decode prog_10_method_3_code 273 = .ok (.getfield 15, 3) := by decide +kernel
theorem d_Tex_readLevel_276 : decode prog_10_method_3_code 276 = .ok (.invokevirtual 64, 3) := by decide +kernel
theorem d_Tex_readLevel_279 : decode prog_10_method_3_code 279 = .ok (.aload_n 0, 1) := by decide +kernel
theorem d_Tex_readLevel_280 : decode prog_10_method_3_code 280 = .ok (.iload_n 1, 1) := by decide +kernel
theorem d_Tex_readLevel_281 : decode prog_10_method_3_code 281 = .ok (.iload 19, 2) := by decide +kernel
theorem d_Tex_readLevel_283 : decode prog_10_method_3_code 283 = .ok (.iload 22, 2) := by decide +kernel
theorem d_Tex_readLevel_285 : decode prog_10_method_3_code 285 = .ok (.aload_n 0, 1) := by decide +kernel
theorem d_Tex_readLevel_286 : decode prog_10_method_3_code 286 = .ok (.getfield 18, 3) := by decide +kernel
theorem d_Tex_readLevel_289 : decode prog_10_method_3_code 289 = .ok (.invokevirtual 64, 3) := by decide +kernel
theorem d_Tex_readLevel_292 : decode prog_10_method_3_code 292 = .ok (.aload_n 0, 1) := by decide +kernel
theorem d_Tex_readLevel_293 : decode prog_10_method_3_code 293 = .ok (.iload_n 1, 1) := by decide +kernel
theorem d_Tex_readLevel_294 : decode prog_10_method_3_code 294 = .ok (.iload 21, 2) := by decide +kernel
theorem d_Tex_readLevel_296 : decode prog_10_method_3_code 296 = .ok (.iload 22, 2) := by decide +kernel
theorem d_Tex_readLevel_298 : decode prog_10_method_3_code 298 = .ok (.aload_n 0, 1) := by decide +kernel
theorem d_Tex_readLevel_299 : decode prog_10_method_3_code 299 = .ok (.getfield 21, 3) := by decide +kernel
theorem d_Tex_readLevel_302 : decode prog_10_method_3_code 302 = .ok (.invokevirtual 64, 3) := by decide +kernel
theorem d_Tex_readLevel_305 : decode prog_10_method_3_code 305 = .ok (.lload 13, 2) := by decide +kernel
theorem d_Tex_readLevel_307 : decode prog_10_method_3_code 307 = .ok (.ldc2_w 68, 3) := by decide +kernel
theorem d_Tex_readLevel_310 : decode prog_10_method_3_code 310 = .ok (.land, 1) := by decide +kernel
theorem d_Tex_readLevel_311 : decode prog_10_method_3_code 311 = .ok (.l2i, 1) := by decide +kernel
theorem d_Tex_readLevel_312 : decode prog_10_method_3_code 312 = .ok (.istore 23, 2) := by decide +kernel
theorem d_Tex_readLevel_314 : decode prog_10_method_3_code 314 = .ok (.aload 5, 2) := by decide +kernel
theorem d_Tex_readLevel_316 : decode prog_10_method_3_code 316 = .ok (.aload_n 0, 1) := by decide +kernel
theorem d_Tex_readLevel_317 : decode prog_10_method_3_code 317 = .ok (.getfield 15, 3) := by decide +kernel
theorem d_Tex_readLevel_320 : decode prog_10_method_3_code 320 = .ok (.iload 23, 2) := by decide +kernel
theorem d_Tex_readLevel_322 : decode prog_10_method_3_code 322 = .ok (.invokestatic 43, 3) := by decide +kernel
theorem d_Tex_readLevel_325 : decode prog_10_method_3_code 325 = .ok (.aload_n 0, 1) := by decide +kernel
theorem d_Tex_readLevel_326 : decode prog_10_method_3_code 326 = .ok (.getfield 18, 3) := by decide +kernel
theorem d_Tex_readLevel_329 : decode prog_10_method_3_code 329 = .ok (.aload_n 0, 1) := by decide +kernel
theorem d_Tex_readLevel_330 : decode prog_10_method_3_code 330 = .ok (.getfield 21, 3) := by decide +kernel
theorem d_Tex_readLevel_333 : decode prog_10_method_3_code 333 = .ok (.iload 23, 2) := by decide +kernel
theorem d_Tex_readLevel_335 : decode prog_10_method_3_code 335 = .ok (.invokestatic 43, 3) := by decide +kernel
theorem d_Tex_readLevel_338 : decode prog_10_method_3_code 338 = .ok (.aload 5, 2) := by decide +kernel
theorem d_Tex_readLevel_340 : decode prog_10_method_3_code 340 = .ok (.aload_n 0, 1) := by decide +kernel
theorem d_Tex_readLevel_341 : decode prog_10_method_3_code 341 = .ok (.getfield 18, 3) := by decide +kernel
theorem d_Tex_readLevel_344 : decode prog_10_method_3_code 344 = .ok (.lload 15, 2) := by decide +kernel
theorem d_Tex_readLevel_346 : decode prog_10_method_3_code 346 = .ok (.ldc2_w 68, 3) := by decide +kernel
theorem d_Tex_readLevel_349 : decode prog_10_method_3_code 349 = .ok (.land, 1) := by decide +kernel
theorem d_Tex_readLevel_350 : decode prog_10_method_3_code 350 = .ok (.l2i, 1) := by decide +kernel
theorem d_Tex_readLevel_351 : decode prog_10_method_3_code 351 = .ok (.invokestatic 43, 3) := by decide +kernel
theorem d_Tex_readLevel_354 : decode prog_10_method_3_code 354 = .ok (.return_, 1) := by decide +kernel
def F_Tex_readLevel_354 (σ : Sg) : Option (Sg) := some σ
set_option maxRecDepth 10000 in
set_option maxHeartbeats 4000000 in
theorem bt_Tex_readLevel_354 {p : Program} {l : Launch} {e : Env} {R : Room} {s : State} {m : MethodId} {args : Array Value} {below : List Frame} {meth : Method} {c : Code} {D : va_G} {τ : ClassId × ClassId × ClassId} {B : Nat} {A : Nat → Prop} {ad : Nat → Nat} (E : Cx p R s m args meth c prog_10_method_3_code 24 "DrawingMachine$Textures" 2 D τ B A) (hret : meth.sig.returnType = none) (o : Sg) (σ : Sg) (h : F_Tex_readLevel_354 σ = some o) {H : Heap} {locs : List Loc} {ls : Array Slot} (w : Wd s D A (wdC τ σ ad) H locs) (hl : lv_has ls 24 []) : W p l e R s m args below meth c H locs 0 0 (QV below args s A D τ (wdC τ o ad)) (F0 m 354 ls []) := by
  obtain rfl := Option.some.inj h
  exact rt_v E w hret d_Tex_readLevel_354
def F_Tex_readLevel_160 (σ : Sg) (v1 : Int32) (v5 : Nat) (v7 : Int32) (v8 : Int32) (v9 : Int32) (v10 : Int32) (v11 : Int32) (v12 : Int32) (v13 : Int64) (s0 : Int64) (s1 : Int32) : Option (Sg) := ck (v5 < 47) (lt (s0 - s1.toInt64) (fun y33 => lt ((lshr v13 16).toInt32) (fun y34 => lt ((lshr y33 16).toInt32) (fun y35 => bd (F_Tex_wrapped v10 y34 (1 <<< (v7 &&& 31))) (fun o36 => bd (F_Tex_wrapped v11 y35 (1 <<< (v8 &&& 31))) (fun o37 => bd (F_Tex_rowAt v9 o37 v7) (fun o38 => bd (F_Tex_readTexel σ v1 o36 o38 v5) (fun o39 => if v12 = 0 then (F_Tex_readLevel_354 o39) else (bd (F_Tex_wrapped v10 (y34 + 1) (1 <<< (v7 &&& 31))) (fun o40 => bd (F_Tex_wrapped v11 (y35 + 1) (1 <<< (v8 &&& 31))) (fun o41 => bd (F_Tex_rowAt v9 o41 v7) (fun o42 => bd (F_Tex_readTexel o39 v1 o40 o38 18) (fun o43 => bd (F_Tex_readTexel o43 v1 o36 o42 19) (fun o44 => bd (F_Tex_readTexel o44 v1 o40 o42 20) (fun o45 => lt ((v13 &&& 65535).toInt32) (fun y46 => bd (F_Tex_mix o45 v5 18 y46) (fun o47 => bd (F_Tex_mix o47 19 20 y46) (fun o48 => bd (F_Tex_mix o48 v5 19 ((y33 &&& 65535).toInt32)) (fun o49 => F_Tex_readLevel_354 o49)))))))))))))))))))
set_option maxRecDepth 10000 in
set_option maxHeartbeats 4000000 in
theorem bt_Tex_readLevel_160 {p : Program} {l : Launch} {e : Env} {R : Room} {s : State} {m : MethodId} {args : Array Value} {below : List Frame} {meth : Method} {c : Code} {D : va_G} {τ : ClassId × ClassId × ClassId} {B : Nat} {A : Nat → Prop} {ad : Nat → Nat} (E : Cx p R s m args meth c prog_10_method_3_code 24 "DrawingMachine$Textures" 2 D τ B A) (hret : meth.sig.returnType = none) (o : Sg) (σ : Sg) (v1 : Int32) (v5 : Nat) (v7 : Int32) (v8 : Int32) (v9 : Int32) (v10 : Int32) (v11 : Int32) (v12 : Int32) (v13 : Int64) (s0 : Int64) (s1 : Int32) (h : F_Tex_readLevel_160 σ v1 v5 v7 v8 v9 v10 v11 v12 v13 s0 s1 = some o) {H : Heap} {locs : List Loc} {ls : Array Slot} (w : Wd s D A (wdC τ σ ad) H locs) (hl : lv_has ls 24 [(0, .ref (ad 63)), (1, .int v1), (5, .ref (ad v5)), (7, .int v7), (8, .int v8), (9, .int v9), (10, .int v10), (11, .int v11), (12, .int v12), (13, .long v13)]) : W p l e R s m args below meth c H locs 0 0 (QV below args s A D τ (wdC τ o ad)) (F0 m 160 ls [.int s1, .long s0]) := by
  obtain ⟨c32, h⟩ := ck_some h
  refine lv_i2l (v := s1.toInt64) E.x E.b d_Tex_readLevel_160 rfl ?_
  refine lv_lsub E.x E.b d_Tex_readLevel_161 ?_
  obtain ⟨y33, e_y33, h⟩ := lt_some h
  refine wl_e (v := y33) e_y33 ?_
  refine lv_lstore (lv' := [(15, .long y33), (0, .ref (ad 63)), (1, .int v1), (5, .ref (ad v5)), (7, .int v7), (8, .int v8), (9, .int v9), (10, .int v10), (11, .int v11), (12, .int v12), (13, .long v13)]) E.x E.b d_Tex_readLevel_162 hl (by decide) rfl (fun ls hl => ?_)
  refine lv_lload E.x E.b d_Tex_readLevel_164 (lv_at hl 10 rfl) ?_
  refine lv_bipush (v := 16) E.x E.b d_Tex_readLevel_166 (by decide) ?_
  refine lv_lshr (v := lshr v13 16) E.x E.b d_Tex_readLevel_168 rfl ?_
  refine lv_l2i (v := (lshr v13 16).toInt32) E.x E.b d_Tex_readLevel_169 rfl ?_
  obtain ⟨y34, e_y34, h⟩ := lt_some h
  refine wi_e (v := y34) e_y34 ?_
  refine lv_istore (lv' := [(17, .int y34), (15, .long y33), (0, .ref (ad 63)), (1, .int v1), (5, .ref (ad v5)), (7, .int v7), (8, .int v8), (9, .int v9), (10, .int v10), (11, .int v11), (12, .int v12), (13, .long v13)]) E.x E.b d_Tex_readLevel_170 hl (by decide) rfl (fun ls hl => ?_)
  refine lv_lload E.x E.b d_Tex_readLevel_172 (lv_at hl 1 rfl) ?_
  refine lv_bipush (v := 16) E.x E.b d_Tex_readLevel_174 (by decide) ?_
  refine lv_lshr (v := lshr y33 16) E.x E.b d_Tex_readLevel_176 rfl ?_
  refine lv_l2i (v := (lshr y33 16).toInt32) E.x E.b d_Tex_readLevel_177 rfl ?_
  obtain ⟨y35, e_y35, h⟩ := lt_some h
  refine wi_e (v := y35) e_y35 ?_
  refine lv_istore (lv' := [(18, .int y35), (17, .int y34), (15, .long y33), (0, .ref (ad 63)), (1, .int v1), (5, .ref (ad v5)), (7, .int v7), (8, .int v8), (9, .int v9), (10, .int v10), (11, .int v11), (12, .int v12), (13, .long v13)]) E.x E.b d_Tex_readLevel_178 hl (by decide) rfl (fun ls hl => ?_)
  refine lv_iload E.x E.b d_Tex_readLevel_180 (lv_at hl 9 rfl) ?_
  refine lv_iload E.x E.b d_Tex_readLevel_182 (lv_at hl 1 rfl) ?_
  refine lv_iconst (v := 1) E.x E.b d_Tex_readLevel_184 (by decide) ?_
  refine lv_iload E.x E.b d_Tex_readLevel_185 (lv_at hl 6 rfl) ?_
  refine lv_ishl E.x E.b d_Tex_readLevel_187 ?_
  obtain ⟨o36, h_o36, h⟩ := bd_some h
  refine clS_Tex_wrapped E w (x0 := v10) (x1 := y34) (x2 := (1 <<< (v7 &&& 31))) h_o36 k1059 (by decide) hl.1 (Nat.le_of_ble_eq_true rfl) d_Tex_readLevel_188 (fun H locs w => ?_)
  refine lv_istore (lv' := [(19, .int o36), (18, .int y35), (17, .int y34), (15, .long y33), (0, .ref (ad 63)), (1, .int v1), (5, .ref (ad v5)), (7, .int v7), (8, .int v8), (9, .int v9), (10, .int v10), (11, .int v11), (12, .int v12), (13, .long v13)]) E.x E.b d_Tex_readLevel_191 hl (by decide) rfl (fun ls hl => ?_)
  refine lv_iload E.x E.b d_Tex_readLevel_193 (lv_at hl 9 rfl) ?_
  refine lv_iload E.x E.b d_Tex_readLevel_195 (lv_at hl 11 rfl) ?_
  refine lv_iload E.x E.b d_Tex_readLevel_197 (lv_at hl 1 rfl) ?_
  refine lv_iconst (v := 1) E.x E.b d_Tex_readLevel_199 (by decide) ?_
  refine lv_iload E.x E.b d_Tex_readLevel_200 (lv_at hl 8 rfl) ?_
  refine lv_ishl E.x E.b d_Tex_readLevel_202 ?_
  obtain ⟨o37, h_o37, h⟩ := bd_some h
  refine clS_Tex_wrapped E w (x0 := v11) (x1 := y35) (x2 := (1 <<< (v8 &&& 31))) h_o37 k1059 (by decide) hl.1 (Nat.le_of_ble_eq_true rfl) d_Tex_readLevel_203 (fun H locs w => ?_)
  refine lv_iload E.x E.b d_Tex_readLevel_206 (lv_at hl 7 rfl) ?_
  obtain ⟨o38, h_o38, h⟩ := bd_some h
  refine clS_Tex_rowAt E w (x0 := v9) (x1 := o37) (x2 := v7) h_o38 k1062 (by decide) hl.1 (Nat.le_of_ble_eq_true rfl) d_Tex_readLevel_208 (fun H locs w => ?_)
  refine lv_istore (lv' := [(20, .int o38), (19, .int o36), (18, .int y35), (17, .int y34), (15, .long y33), (0, .ref (ad 63)), (1, .int v1), (5, .ref (ad v5)), (7, .int v7), (8, .int v8), (9, .int v9), (10, .int v10), (11, .int v11), (12, .int v12), (13, .long v13)]) E.x E.b d_Tex_readLevel_211 hl (by decide) rfl (fun ls hl => ?_)
  refine lv_aload_n E.x E.b d_Tex_readLevel_213 rfl (lv_at hl 5 rfl) ?_
  refine lv_iload_n E.x E.b d_Tex_readLevel_214 rfl (lv_at hl 6 rfl) ?_
  refine lv_iload E.x E.b d_Tex_readLevel_215 (lv_at hl 1 rfl) ?_
  refine lv_iload E.x E.b d_Tex_readLevel_217 (lv_at hl 0 rfl) ?_
  refine lv_aload E.x E.b d_Tex_readLevel_219 (lv_at hl 7 rfl) ?_
  obtain ⟨o39, h_o39, h⟩ := bd_some h
  refine clV_Tex_readTexel E w (x0 := v1) (x1 := o36) (x2 := o38) (ar3 := v5) h_o39 k1065 (by decide) hl.1 (Nat.le_of_ble_eq_true rfl) d_Tex_readLevel_221 (fun H locs w => ?_)
  refine lv_iload E.x E.b d_Tex_readLevel_224 (lv_at hl 13 rfl) ?_
  refine lv_if_eq (tgt := 354) E.x E.b d_Tex_readLevel_226 (by decide) (fun c => ?_) (fun c => ?_)
  ·
    replace h := ifT c h
    exact bt_Tex_readLevel_354 E hret o o39 h w (lv_sub hl [] rfl)
  ·
    replace h := ifF c h
    refine lv_iload E.x E.b d_Tex_readLevel_229 (lv_at hl 11 rfl) ?_
    refine lv_iload E.x E.b d_Tex_readLevel_231 (lv_at hl 3 rfl) ?_
    refine lv_iconst (v := 1) E.x E.b d_Tex_readLevel_233 (by decide) ?_
    refine lv_iadd E.x E.b d_Tex_readLevel_234 ?_
    refine lv_iconst (v := 1) E.x E.b d_Tex_readLevel_235 (by decide) ?_
    refine lv_iload E.x E.b d_Tex_readLevel_236 (lv_at hl 8 rfl) ?_
    refine lv_ishl E.x E.b d_Tex_readLevel_238 ?_
    obtain ⟨o40, h_o40, h⟩ := bd_some h
    refine clS_Tex_wrapped E w (x0 := v10) (x1 := (y34 + 1)) (x2 := (1 <<< (v7 &&& 31))) h_o40 k1059 (by decide) hl.1 (Nat.le_of_ble_eq_true rfl) d_Tex_readLevel_239 (fun H locs w => ?_)
    refine lv_istore (lv' := [(21, .int o40), (20, .int o38), (19, .int o36), (18, .int y35), (17, .int y34), (15, .long y33), (0, .ref (ad 63)), (1, .int v1), (5, .ref (ad v5)), (7, .int v7), (8, .int v8), (9, .int v9), (10, .int v10), (11, .int v11), (12, .int v12), (13, .long v13)]) E.x E.b d_Tex_readLevel_242 hl (by decide) rfl (fun ls hl => ?_)
    refine lv_iload E.x E.b d_Tex_readLevel_244 (lv_at hl 11 rfl) ?_
    refine lv_iload E.x E.b d_Tex_readLevel_246 (lv_at hl 13 rfl) ?_
    refine lv_iload E.x E.b d_Tex_readLevel_248 (lv_at hl 3 rfl) ?_
    refine lv_iconst (v := 1) E.x E.b d_Tex_readLevel_250 (by decide) ?_
    refine lv_iadd E.x E.b d_Tex_readLevel_251 ?_
    refine lv_iconst (v := 1) E.x E.b d_Tex_readLevel_252 (by decide) ?_
    refine lv_iload E.x E.b d_Tex_readLevel_253 (lv_at hl 10 rfl) ?_
    refine lv_ishl E.x E.b d_Tex_readLevel_255 ?_
    obtain ⟨o41, h_o41, h⟩ := bd_some h
    refine clS_Tex_wrapped E w (x0 := v11) (x1 := (y35 + 1)) (x2 := (1 <<< (v8 &&& 31))) h_o41 k1059 (by decide) hl.1 (Nat.le_of_ble_eq_true rfl) d_Tex_readLevel_256 (fun H locs w => ?_)
    refine lv_iload E.x E.b d_Tex_readLevel_259 (lv_at hl 9 rfl) ?_
    obtain ⟨o42, h_o42, h⟩ := bd_some h
    refine clS_Tex_rowAt E w (x0 := v9) (x1 := o41) (x2 := v7) h_o42 k1062 (by decide) hl.1 (Nat.le_of_ble_eq_true rfl) d_Tex_readLevel_261 (fun H locs w => ?_)
    refine lv_istore (lv' := [(22, .int o42), (21, .int o40), (20, .int o38), (19, .int o36), (18, .int y35), (17, .int y34), (15, .long y33), (0, .ref (ad 63)), (1, .int v1), (5, .ref (ad v5)), (7, .int v7), (8, .int v8), (9, .int v9), (10, .int v10), (11, .int v11), (12, .int v12), (13, .long v13)]) E.x E.b d_Tex_readLevel_264 hl (by decide) rfl (fun ls hl => ?_)
    refine lv_aload_n E.x E.b d_Tex_readLevel_266 rfl (lv_at hl 7 rfl) ?_
    refine lv_iload_n E.x E.b d_Tex_readLevel_267 rfl (lv_at hl 8 rfl) ?_
    refine lv_iload E.x E.b d_Tex_readLevel_268 (lv_at hl 1 rfl) ?_
    refine lv_iload E.x E.b d_Tex_readLevel_270 (lv_at hl 2 rfl) ?_
    refine lv_aload_n E.x E.b d_Tex_readLevel_272 rfl (lv_at hl 7 rfl) ?_
    refine gC_Tex_beside E w k220 d_Tex_readLevel_273 ?_
    obtain ⟨o43, h_o43, h⟩ := bd_some h
    refine clV_Tex_readTexel E w (x0 := v1) (x1 := o40) (x2 := o38) (ar3 := 18) h_o43 k1065 (by decide) hl.1 (Nat.le_of_ble_eq_true rfl) d_Tex_readLevel_276 (fun H locs w => ?_)
    refine lv_aload_n E.x E.b d_Tex_readLevel_279 rfl (lv_at hl 7 rfl) ?_
    refine lv_iload_n E.x E.b d_Tex_readLevel_280 rfl (lv_at hl 8 rfl) ?_
    refine lv_iload E.x E.b d_Tex_readLevel_281 (lv_at hl 3 rfl) ?_
    refine lv_iload E.x E.b d_Tex_readLevel_283 (lv_at hl 0 rfl) ?_
    refine lv_aload_n E.x E.b d_Tex_readLevel_285 rfl (lv_at hl 7 rfl) ?_
    refine gC_Tex_below E w k221 d_Tex_readLevel_286 ?_
    obtain ⟨o44, h_o44, h⟩ := bd_some h
    refine clV_Tex_readTexel E w (x0 := v1) (x1 := o36) (x2 := o42) (ar3 := 19) h_o44 k1065 (by decide) hl.1 (Nat.le_of_ble_eq_true rfl) d_Tex_readLevel_289 (fun H locs w => ?_)
    refine lv_aload_n E.x E.b d_Tex_readLevel_292 rfl (lv_at hl 7 rfl) ?_
    refine lv_iload_n E.x E.b d_Tex_readLevel_293 rfl (lv_at hl 8 rfl) ?_
    refine lv_iload E.x E.b d_Tex_readLevel_294 (lv_at hl 1 rfl) ?_
    refine lv_iload E.x E.b d_Tex_readLevel_296 (lv_at hl 0 rfl) ?_
    refine lv_aload_n E.x E.b d_Tex_readLevel_298 rfl (lv_at hl 7 rfl) ?_
    refine gC_Tex_belowBeside E w k222 d_Tex_readLevel_299 ?_
    obtain ⟨o45, h_o45, h⟩ := bd_some h
    refine clV_Tex_readTexel E w (x0 := v1) (x1 := o40) (x2 := o42) (ar3 := 20) h_o45 k1065 (by decide) hl.1 (Nat.le_of_ble_eq_true rfl) d_Tex_readLevel_302 (fun H locs w => ?_)
    refine lv_lload E.x E.b d_Tex_readLevel_305 (lv_at hl 16 rfl) ?_
    refine lv_ldc2 (v := 65535) E.x E.b E.o (E.w _ k1078) d_Tex_readLevel_307 ?_
    refine lv_land E.x E.b d_Tex_readLevel_310 ?_
    refine lv_l2i (v := (v13 &&& 65535).toInt32) E.x E.b d_Tex_readLevel_311 rfl ?_
    obtain ⟨y46, e_y46, h⟩ := lt_some h
    refine wi_e (v := y46) e_y46 ?_
    refine lv_istore (lv' := [(23, .int y46), (22, .int o42), (21, .int o40), (20, .int o38), (19, .int o36), (18, .int y35), (17, .int y34), (15, .long y33), (0, .ref (ad 63)), (1, .int v1), (5, .ref (ad v5)), (7, .int v7), (8, .int v8), (9, .int v9), (10, .int v10), (11, .int v11), (12, .int v12), (13, .long v13)]) E.x E.b d_Tex_readLevel_312 hl (by decide) rfl (fun ls hl => ?_)
    refine lv_aload E.x E.b d_Tex_readLevel_314 (lv_at hl 10 rfl) ?_
    refine lv_aload_n E.x E.b d_Tex_readLevel_316 rfl (lv_at hl 8 rfl) ?_
    refine gC_Tex_beside E w k220 d_Tex_readLevel_317 ?_
    refine lv_iload E.x E.b d_Tex_readLevel_320 (lv_at hl 0 rfl) ?_
    obtain ⟨o47, h_o47, h⟩ := bd_some h
    refine clS_Tex_mix E w (ar0 := v5) (ar1 := 18) (x2 := y46) h_o47 k1079 (by decide) hl.1 (Nat.le_of_ble_eq_true rfl) d_Tex_readLevel_322 (fun H locs w => ?_)
    refine lv_aload_n E.x E.b d_Tex_readLevel_325 rfl (lv_at hl 8 rfl) ?_
    refine gC_Tex_below E w k221 d_Tex_readLevel_326 ?_
    refine lv_aload_n E.x E.b d_Tex_readLevel_329 rfl (lv_at hl 8 rfl) ?_
    refine gC_Tex_belowBeside E w k222 d_Tex_readLevel_330 ?_
    refine lv_iload E.x E.b d_Tex_readLevel_333 (lv_at hl 0 rfl) ?_
    obtain ⟨o48, h_o48, h⟩ := bd_some h
    refine clS_Tex_mix E w (ar0 := 19) (ar1 := 20) (x2 := y46) h_o48 k1079 (by decide) hl.1 (Nat.le_of_ble_eq_true rfl) d_Tex_readLevel_335 (fun H locs w => ?_)
    refine lv_aload E.x E.b d_Tex_readLevel_338 (lv_at hl 10 rfl) ?_
    refine lv_aload_n E.x E.b d_Tex_readLevel_340 rfl (lv_at hl 8 rfl) ?_
    refine gC_Tex_below E w k221 d_Tex_readLevel_341 ?_
    refine lv_lload E.x E.b d_Tex_readLevel_344 (lv_at hl 7 rfl) ?_
    refine lv_ldc2 (v := 65535) E.x E.b E.o (E.w _ k1078) d_Tex_readLevel_346 ?_
    refine lv_land E.x E.b d_Tex_readLevel_349 ?_
    refine lv_l2i (v := (y33 &&& 65535).toInt32) E.x E.b d_Tex_readLevel_350 rfl ?_
    obtain ⟨o49, h_o49, h⟩ := bd_some h
    refine clS_Tex_mix E w (ar0 := v5) (ar1 := 19) (x2 := ((y33 &&& 65535).toInt32)) h_o49 k1079 (by decide) hl.1 (Nat.le_of_ble_eq_true rfl) d_Tex_readLevel_351 (fun H locs w => ?_)
    exact bt_Tex_readLevel_354 E hret o o49 h w (lv_sub hl [] rfl)
def F_Tex_readLevel_139 (σ : Sg) (v1 : Int32) (v4 : Int32) (v5 : Nat) (v7 : Int32) (v8 : Int32) (v9 : Int32) (v10 : Int32) (v11 : Int32) (v12 : Int32) (s0 : Int64) (s1 : Int32) : Option (Sg) := ck (v5 < 47) (lt (s0 - s1.toInt64) (fun y51 => if v12 = 0 then (F_Tex_readLevel_160 σ v1 v5 v7 v8 v9 v10 v11 v12 y51 (lshl v4.toInt64 v8) 0) else (F_Tex_readLevel_160 σ v1 v5 v7 v8 v9 v10 v11 v12 y51 (lshl v4.toInt64 v8) 32768)))
set_option maxRecDepth 10000 in
set_option maxHeartbeats 4000000 in
theorem bt_Tex_readLevel_139 {p : Program} {l : Launch} {e : Env} {R : Room} {s : State} {m : MethodId} {args : Array Value} {below : List Frame} {meth : Method} {c : Code} {D : va_G} {τ : ClassId × ClassId × ClassId} {B : Nat} {A : Nat → Prop} {ad : Nat → Nat} (E : Cx p R s m args meth c prog_10_method_3_code 24 "DrawingMachine$Textures" 2 D τ B A) (hret : meth.sig.returnType = none) (o : Sg) (σ : Sg) (v1 : Int32) (v4 : Int32) (v5 : Nat) (v7 : Int32) (v8 : Int32) (v9 : Int32) (v10 : Int32) (v11 : Int32) (v12 : Int32) (s0 : Int64) (s1 : Int32) (h : F_Tex_readLevel_139 σ v1 v4 v5 v7 v8 v9 v10 v11 v12 s0 s1 = some o) {H : Heap} {locs : List Loc} {ls : Array Slot} (w : Wd s D A (wdC τ σ ad) H locs) (hl : lv_has ls 24 [(0, .ref (ad 63)), (1, .int v1), (4, .int v4), (5, .ref (ad v5)), (7, .int v7), (8, .int v8), (9, .int v9), (10, .int v10), (11, .int v11), (12, .int v12)]) : W p l e R s m args below meth c H locs 0 0 (QV below args s A D τ (wdC τ o ad)) (F0 m 139 ls [.int s1, .long s0]) := by
  obtain ⟨c50, h⟩ := ck_some h
  refine lv_i2l (v := s1.toInt64) E.x E.b d_Tex_readLevel_139 rfl ?_
  refine lv_lsub E.x E.b d_Tex_readLevel_140 ?_
  obtain ⟨y51, e_y51, h⟩ := lt_some h
  refine wl_e (v := y51) e_y51 ?_
  refine lv_lstore (lv' := [(13, .long y51), (0, .ref (ad 63)), (1, .int v1), (4, .int v4), (5, .ref (ad v5)), (7, .int v7), (8, .int v8), (9, .int v9), (10, .int v10), (11, .int v11), (12, .int v12)]) E.x E.b d_Tex_readLevel_141 hl (by decide) rfl (fun ls hl => ?_)
  refine lv_iload E.x E.b d_Tex_readLevel_143 (lv_at hl 3 rfl) ?_
  refine lv_i2l (v := v4.toInt64) E.x E.b d_Tex_readLevel_145 rfl ?_
  refine lv_iload E.x E.b d_Tex_readLevel_146 (lv_at hl 6 rfl) ?_
  refine lv_lshl (v := lshl v4.toInt64 v8) E.x E.b d_Tex_readLevel_148 rfl ?_
  refine lv_iload E.x E.b d_Tex_readLevel_149 (lv_at hl 10 rfl) ?_
  refine lv_if_eq (tgt := 159) E.x E.b d_Tex_readLevel_151 (by decide) (fun c => ?_) (fun c => ?_)
  ·
    replace h := ifT c h
    refine lv_iconst (v := 0) E.x E.b d_Tex_readLevel_159 (by decide) ?_
    exact bt_Tex_readLevel_160 E hret o σ v1 v5 v7 v8 v9 v10 v11 v12 y51 (lshl v4.toInt64 v8) 0 h w (lv_sub hl [1, 2, 4, 5, 6, 7, 8, 9, 10, 0] rfl)
  ·
    replace h := ifF c h
    refine lv_ldc (v := 32768) E.x E.b E.o (E.w _ k1058) d_Tex_readLevel_154 ?_
    refine lv_goto (tgt := 160) E.x E.b d_Tex_readLevel_156 (by decide) ?_
    exact bt_Tex_readLevel_160 E hret o σ v1 v5 v7 v8 v9 v10 v11 v12 y51 (lshl v4.toInt64 v8) 32768 h w (lv_sub hl [1, 2, 4, 5, 6, 7, 8, 9, 10, 0] rfl)
def F_Tex_readLevel_121 (σ : Sg) (v1 : Int32) (v3 : Int32) (v4 : Int32) (v5 : Nat) (v7 : Int32) (v8 : Int32) (v9 : Int32) (v10 : Int32) (v11 : Int32) (s0 : Int32) : Option (Sg) := ck (v5 < 47) (if s0 = 0 then (F_Tex_readLevel_139 σ v1 v4 v5 v7 v8 v9 v10 v11 s0 (lshl v3.toInt64 v7) 0) else (F_Tex_readLevel_139 σ v1 v4 v5 v7 v8 v9 v10 v11 s0 (lshl v3.toInt64 v7) 32768))
set_option maxRecDepth 10000 in
set_option maxHeartbeats 4000000 in
theorem bt_Tex_readLevel_121 {p : Program} {l : Launch} {e : Env} {R : Room} {s : State} {m : MethodId} {args : Array Value} {below : List Frame} {meth : Method} {c : Code} {D : va_G} {τ : ClassId × ClassId × ClassId} {B : Nat} {A : Nat → Prop} {ad : Nat → Nat} (E : Cx p R s m args meth c prog_10_method_3_code 24 "DrawingMachine$Textures" 2 D τ B A) (hret : meth.sig.returnType = none) (o : Sg) (σ : Sg) (v1 : Int32) (v3 : Int32) (v4 : Int32) (v5 : Nat) (v7 : Int32) (v8 : Int32) (v9 : Int32) (v10 : Int32) (v11 : Int32) (s0 : Int32) (h : F_Tex_readLevel_121 σ v1 v3 v4 v5 v7 v8 v9 v10 v11 s0 = some o) {H : Heap} {locs : List Loc} {ls : Array Slot} (w : Wd s D A (wdC τ σ ad) H locs) (hl : lv_has ls 24 [(0, .ref (ad 63)), (1, .int v1), (3, .int v3), (4, .int v4), (5, .ref (ad v5)), (7, .int v7), (8, .int v8), (9, .int v9), (10, .int v10), (11, .int v11)]) : W p l e R s m args below meth c H locs 0 0 (QV below args s A D τ (wdC τ o ad)) (F0 m 121 ls [.int s0]) := by
  obtain ⟨c52, h⟩ := ck_some h
  refine lv_istore (lv' := [(12, .int s0), (0, .ref (ad 63)), (1, .int v1), (3, .int v3), (4, .int v4), (5, .ref (ad v5)), (7, .int v7), (8, .int v8), (9, .int v9), (10, .int v10), (11, .int v11)]) E.x E.b d_Tex_readLevel_121 hl (by decide) rfl (fun ls hl => ?_)
  refine lv_iload_n E.x E.b d_Tex_readLevel_123 rfl (lv_at hl 3 rfl) ?_
  refine lv_i2l (v := v3.toInt64) E.x E.b d_Tex_readLevel_124 rfl ?_
  refine lv_iload E.x E.b d_Tex_readLevel_125 (lv_at hl 6 rfl) ?_
  refine lv_lshl (v := lshl v3.toInt64 v7) E.x E.b d_Tex_readLevel_127 rfl ?_
  refine lv_iload E.x E.b d_Tex_readLevel_128 (lv_at hl 0 rfl) ?_
  refine lv_if_eq (tgt := 138) E.x E.b d_Tex_readLevel_130 (by decide) (fun c => ?_) (fun c => ?_)
  ·
    replace h := ifT c h
    refine lv_iconst (v := 0) E.x E.b d_Tex_readLevel_138 (by decide) ?_
    exact bt_Tex_readLevel_139 E hret o σ v1 v4 v5 v7 v8 v9 v10 v11 s0 (lshl v3.toInt64 v7) 0 h w (lv_sub hl [1, 2, 4, 5, 6, 7, 8, 9, 10, 0] rfl)
  ·
    replace h := ifF c h
    refine lv_ldc (v := 32768) E.x E.b E.o (E.w _ k1058) d_Tex_readLevel_133 ?_
    refine lv_goto (tgt := 139) E.x E.b d_Tex_readLevel_135 (by decide) ?_
    exact bt_Tex_readLevel_139 E hret o σ v1 v4 v5 v7 v8 v9 v10 v11 s0 (lshl v3.toInt64 v7) 32768 h w (lv_sub hl [1, 2, 4, 5, 6, 7, 8, 9, 10, 0] rfl)
def F_Tex_readLevel (σ : Sg) (x0 : Int32) (x1 : Int32) (x2 : Int32) (x3 : Int32) (ar4 : Nat) : Option (Sg) := ck (ar4 < 47) (lt (170 + (5 * x0)) (fun y54 => ck (inb (y54 + 1) 245) (lt (imax ((σ.2.2.1 1 (y54 + 1).toNatClampNeg) - x1) 0) (fun y56 => ck (inb (y54 + 2) 245) (lt (imax ((σ.2.2.1 1 (y54 + 2).toNatClampNeg) - x1) 0) (fun y58 => ck (inb (y54 + 1) 245) (ck (inb (y54 + 2) 245) (bd (F_Tex_texelsAbove (σ.2.2.1 1 (y54 + 1).toNatClampNeg) (σ.2.2.1 1 (y54 + 2).toNatClampNeg) x1) (fun o61 => ck (inb (217 + (3 * x0)) 245) (lt (σ.2.2.1 1 (217 + (3 * x0)).toNatClampNeg) (fun y63 => ck (inb ((217 + (3 * x0)) + 1) 245) (lt (σ.2.2.1 1 ((217 + (3 * x0)) + 1).toNatClampNeg) (fun y65 => ck (inb ((217 + (3 * x0)) + 2) 245) (if ((σ.2.2.1 1 ((217 + (3 * x0)) + 2).toNatClampNeg) &&& 1) = 0 then (F_Tex_readLevel_121 σ x0 x2 x3 ar4 y56 y58 o61 y63 y65 0) else (F_Tex_readLevel_121 σ x0 x2 x3 ar4 y56 y58 o61 y63 y65 1)))))))))))))))
set_option maxRecDepth 10000 in
set_option maxHeartbeats 4000000 in
theorem c_Tex_readLevel (l : Launch) (D : va_G) (τ : ClassId × ClassId × ClassId) (B : Nat) (σ : Sg) (ad : Nat → Nat) (x0 : Int32) (x1 : Int32) (x2 : Int32) (x3 : Int32) (ar4 : Nat) (o : Sg) (h : F_Tex_readLevel σ x0 x1 x2 x3 ar4 = some o) : MV l y_Tex_readLevel (Cond.code y_Tex_readLevel prog_10_method_3_code 24 none) 2 D τ B [.ref (ad 63), .int x0, .int x1, .int x2, .int x3, .ref (ad ar4)] (wdC τ σ ad) (wdC τ o ad) := by
  refine en_v (by decide) (Nat.le_of_ble_eq_true rfl) ?_
  intro p e R s m args below meth c H locs ls A E hret w hl
  have E : Cx p R s m args meth c prog_10_method_3_code 24 "DrawingMachine$Textures" 2 D τ B A := E
  have hl : lv_has ls 24 [(0, .ref (ad 63)), (1, .int x0), (2, .int x1), (3, .int x2), (4, .int x3), (5, .ref (ad ar4))] := hl
  obtain ⟨c53, h⟩ := ck_some h
  refine lv_sipush (v := 170) E.x E.b d_Tex_readLevel_0 (by decide) ?_
  refine lv_iconst (v := 5) E.x E.b d_Tex_readLevel_3 (by decide) ?_
  refine lv_iload_n E.x E.b d_Tex_readLevel_4 rfl (lv_at hl 1 rfl) ?_
  refine lv_imul E.x E.b d_Tex_readLevel_5 ?_
  refine lv_iadd E.x E.b d_Tex_readLevel_6 ?_
  obtain ⟨y54, e_y54, h⟩ := lt_some h
  refine wi_e (v := y54) e_y54 ?_
  refine lv_istore (lv' := [(6, .int y54), (0, .ref (ad 63)), (1, .int x0), (2, .int x1), (3, .int x2), (4, .int x3), (5, .ref (ad ar4))]) E.x E.b d_Tex_readLevel_7 hl (by decide) rfl (fun ls hl => ?_)
  refine lv_aload_n E.x E.b d_Tex_readLevel_9 rfl (lv_at hl 1 rfl) ?_
  refine gC_Tex_kept E w k218 d_Tex_readLevel_10 ?_
  refine lv_iload E.x E.b d_Tex_readLevel_13 (lv_at hl 0 rfl) ?_
  refine lv_iconst (v := 1) E.x E.b d_Tex_readLevel_15 (by decide) ?_
  refine lv_iadd E.x E.b d_Tex_readLevel_16 ?_
  obtain ⟨c55, h⟩ := ck_some h
  refine ialC E w (k := 1) (by decide) c55 d_Tex_readLevel_17 ?_
  refine lv_iload_n E.x E.b d_Tex_readLevel_18 rfl (lv_at hl 3 rfl) ?_
  refine lv_isub E.x E.b d_Tex_readLevel_19 ?_
  refine lv_iconst (v := 0) E.x E.b d_Tex_readLevel_20 (by decide) ?_
  refine va_mmax E.x E.b (E.2.2.1.trans hl.1.symm) E.o (E.w _ k1054) (E.w _ k560) (E.w _ k25) (E.w _ k561) (Nat.le_trans (by decide) E.2.2.2.2.2.2.1) (Nat.le_trans (Nat.le_of_ble_eq_true rfl) E.2.2.2.2.2.2.2.1) (Nat.zero_le _) (Nat.zero_le _) d_Tex_readLevel_21 ?_
  refine wi_e (v := imax ((σ.2.2.1 1 (y54 + 1).toNatClampNeg) - x1) 0) rfl ?_
  obtain ⟨y56, e_y56, h⟩ := lt_some h
  refine wi_e (v := y56) e_y56 ?_
  refine lv_istore (lv' := [(7, .int y56), (6, .int y54), (0, .ref (ad 63)), (1, .int x0), (2, .int x1), (3, .int x2), (4, .int x3), (5, .ref (ad ar4))]) E.x E.b d_Tex_readLevel_24 hl (by decide) rfl (fun ls hl => ?_)
  refine lv_aload_n E.x E.b d_Tex_readLevel_26 rfl (lv_at hl 2 rfl) ?_
  refine gC_Tex_kept E w k218 d_Tex_readLevel_27 ?_
  refine lv_iload E.x E.b d_Tex_readLevel_30 (lv_at hl 1 rfl) ?_
  refine lv_iconst (v := 2) E.x E.b d_Tex_readLevel_32 (by decide) ?_
  refine lv_iadd E.x E.b d_Tex_readLevel_33 ?_
  obtain ⟨c57, h⟩ := ck_some h
  refine ialC E w (k := 1) (by decide) c57 d_Tex_readLevel_34 ?_
  refine lv_iload_n E.x E.b d_Tex_readLevel_35 rfl (lv_at hl 4 rfl) ?_
  refine lv_isub E.x E.b d_Tex_readLevel_36 ?_
  refine lv_iconst (v := 0) E.x E.b d_Tex_readLevel_37 (by decide) ?_
  refine va_mmax E.x E.b (E.2.2.1.trans hl.1.symm) E.o (E.w _ k1054) (E.w _ k560) (E.w _ k25) (E.w _ k561) (Nat.le_trans (by decide) E.2.2.2.2.2.2.1) (Nat.le_trans (Nat.le_of_ble_eq_true rfl) E.2.2.2.2.2.2.2.1) (Nat.zero_le _) (Nat.zero_le _) d_Tex_readLevel_38 ?_
  refine wi_e (v := imax ((σ.2.2.1 1 (y54 + 2).toNatClampNeg) - x1) 0) rfl ?_
  obtain ⟨y58, e_y58, h⟩ := lt_some h
  refine wi_e (v := y58) e_y58 ?_
  refine lv_istore (lv' := [(8, .int y58), (7, .int y56), (6, .int y54), (0, .ref (ad 63)), (1, .int x0), (2, .int x1), (3, .int x2), (4, .int x3), (5, .ref (ad ar4))]) E.x E.b d_Tex_readLevel_41 hl (by decide) rfl (fun ls hl => ?_)
  refine lv_aload_n E.x E.b d_Tex_readLevel_43 rfl (lv_at hl 3 rfl) ?_
  refine gC_Tex_kept E w k218 d_Tex_readLevel_44 ?_
  refine lv_iload E.x E.b d_Tex_readLevel_47 (lv_at hl 2 rfl) ?_
  refine lv_iconst (v := 1) E.x E.b d_Tex_readLevel_49 (by decide) ?_
  refine lv_iadd E.x E.b d_Tex_readLevel_50 ?_
  obtain ⟨c59, h⟩ := ck_some h
  refine ialC E w (k := 1) (by decide) c59 d_Tex_readLevel_51 ?_
  refine lv_aload_n E.x E.b d_Tex_readLevel_52 rfl (lv_at hl 3 rfl) ?_
  refine gC_Tex_kept E w k218 d_Tex_readLevel_53 ?_
  refine lv_iload E.x E.b d_Tex_readLevel_56 (lv_at hl 2 rfl) ?_
  refine lv_iconst (v := 2) E.x E.b d_Tex_readLevel_58 (by decide) ?_
  refine lv_iadd E.x E.b d_Tex_readLevel_59 ?_
  obtain ⟨c60, h⟩ := ck_some h
  refine ialC E w (k := 1) (by decide) c60 d_Tex_readLevel_60 ?_
  refine lv_iload_n E.x E.b d_Tex_readLevel_61 rfl (lv_at hl 5 rfl) ?_
  obtain ⟨o61, h_o61, h⟩ := bd_some h
  refine clS_Tex_texelsAbove E w (x0 := (σ.2.2.1 1 (y54 + 1).toNatClampNeg)) (x1 := (σ.2.2.1 1 (y54 + 2).toNatClampNeg)) (x2 := x1) h_o61 k1055 (by decide) hl.1 (Nat.le_of_ble_eq_true rfl) d_Tex_readLevel_62 (fun H locs w => ?_)
  refine lv_istore (lv' := [(9, .int o61), (8, .int y58), (7, .int y56), (6, .int y54), (0, .ref (ad 63)), (1, .int x0), (2, .int x1), (3, .int x2), (4, .int x3), (5, .ref (ad ar4))]) E.x E.b d_Tex_readLevel_65 hl (by decide) rfl (fun ls hl => ?_)
  refine lv_aload_n E.x E.b d_Tex_readLevel_67 rfl (lv_at hl 4 rfl) ?_
  refine gC_Tex_kept E w k218 d_Tex_readLevel_68 ?_
  refine lv_sipush (v := 217) E.x E.b d_Tex_readLevel_71 (by decide) ?_
  refine lv_iconst (v := 3) E.x E.b d_Tex_readLevel_74 (by decide) ?_
  refine lv_iload_n E.x E.b d_Tex_readLevel_75 rfl (lv_at hl 5 rfl) ?_
  refine lv_imul E.x E.b d_Tex_readLevel_76 ?_
  refine lv_iadd E.x E.b d_Tex_readLevel_77 ?_
  obtain ⟨c62, h⟩ := ck_some h
  refine ialC E w (k := 1) (by decide) c62 d_Tex_readLevel_78 ?_
  obtain ⟨y63, e_y63, h⟩ := lt_some h
  refine wi_e (v := y63) e_y63 ?_
  refine lv_istore (lv' := [(10, .int y63), (9, .int o61), (8, .int y58), (7, .int y56), (6, .int y54), (0, .ref (ad 63)), (1, .int x0), (2, .int x1), (3, .int x2), (4, .int x3), (5, .ref (ad ar4))]) E.x E.b d_Tex_readLevel_79 hl (by decide) rfl (fun ls hl => ?_)
  refine lv_aload_n E.x E.b d_Tex_readLevel_81 rfl (lv_at hl 5 rfl) ?_
  refine gC_Tex_kept E w k218 d_Tex_readLevel_82 ?_
  refine lv_sipush (v := 217) E.x E.b d_Tex_readLevel_85 (by decide) ?_
  refine lv_iconst (v := 3) E.x E.b d_Tex_readLevel_88 (by decide) ?_
  refine lv_iload_n E.x E.b d_Tex_readLevel_89 rfl (lv_at hl 6 rfl) ?_
  refine lv_imul E.x E.b d_Tex_readLevel_90 ?_
  refine lv_iadd E.x E.b d_Tex_readLevel_91 ?_
  refine lv_iconst (v := 1) E.x E.b d_Tex_readLevel_92 (by decide) ?_
  refine lv_iadd E.x E.b d_Tex_readLevel_93 ?_
  obtain ⟨c64, h⟩ := ck_some h
  refine ialC E w (k := 1) (by decide) c64 d_Tex_readLevel_94 ?_
  obtain ⟨y65, e_y65, h⟩ := lt_some h
  refine wi_e (v := y65) e_y65 ?_
  refine lv_istore (lv' := [(11, .int y65), (10, .int y63), (9, .int o61), (8, .int y58), (7, .int y56), (6, .int y54), (0, .ref (ad 63)), (1, .int x0), (2, .int x1), (3, .int x2), (4, .int x3), (5, .ref (ad ar4))]) E.x E.b d_Tex_readLevel_95 hl (by decide) rfl (fun ls hl => ?_)
  refine lv_aload_n E.x E.b d_Tex_readLevel_97 rfl (lv_at hl 6 rfl) ?_
  refine gC_Tex_kept E w k218 d_Tex_readLevel_98 ?_
  refine lv_sipush (v := 217) E.x E.b d_Tex_readLevel_101 (by decide) ?_
  refine lv_iconst (v := 3) E.x E.b d_Tex_readLevel_104 (by decide) ?_
  refine lv_iload_n E.x E.b d_Tex_readLevel_105 rfl (lv_at hl 7 rfl) ?_
  refine lv_imul E.x E.b d_Tex_readLevel_106 ?_
  refine lv_iadd E.x E.b d_Tex_readLevel_107 ?_
  refine lv_iconst (v := 2) E.x E.b d_Tex_readLevel_108 (by decide) ?_
  refine lv_iadd E.x E.b d_Tex_readLevel_109 ?_
  obtain ⟨c66, h⟩ := ck_some h
  refine ialC E w (k := 1) (by decide) c66 d_Tex_readLevel_110 ?_
  refine lv_iconst (v := 1) E.x E.b d_Tex_readLevel_111 (by decide) ?_
  refine lv_iand E.x E.b d_Tex_readLevel_112 ?_
  refine lv_if_eq (tgt := 120) E.x E.b d_Tex_readLevel_113 (by decide) (fun c => ?_) (fun c => ?_)
  ·
    replace h := ifT c h
    refine lv_iconst (v := 0) E.x E.b d_Tex_readLevel_120 (by decide) ?_
    exact bt_Tex_readLevel_121 E hret o σ x0 x2 x3 ar4 y56 y58 o61 y63 y65 0 h w (lv_sub hl [6, 7, 9, 10, 11, 4, 3, 2, 1, 0] rfl)
  ·
    replace h := ifF c h
    refine lv_iconst (v := 1) E.x E.b d_Tex_readLevel_116 (by decide) ?_
    refine lv_goto (tgt := 121) E.x E.b d_Tex_readLevel_117 (by decide) ?_
    exact bt_Tex_readLevel_121 E hret o σ x0 x2 x3 ar4 y56 y58 o61 y63 y65 1 h w (lv_sub hl [6, 7, 9, 10, 11, 4, 3, 2, 1, 0] rfl)
theorem clV_Tex_readLevel {p : Program} {l : Launch} {e : Env} {R : Room} {s : State} {m : MethodId} {args : Array Value} {below : List Frame} {meth : Method} {c : Code} {H : Heap} {locs : List Loc} {Q : State → Prop} {cc : ByteArray} {nL pc lev : Nat} {own : String} {D : va_G} {τ : ClassId × ClassId × ClassId} {B : Nat} {A : Nat → Prop} {σ : Sg} {ad : Nat → Nat} {ls : Array Slot} {rest : List Value} (E : Cx p R s m args meth c cc nL own lev D τ B A) (w : Wd s D A (wdC τ σ ad) H locs) {x0 : Int32} {x1 : Int32} {x2 : Int32} {x3 : Int32} {ar4 : Nat} {o : Sg} (h : F_Tex_readLevel σ x0 x1 x2 x3 ar4 = some o) {index : Nat} (hlk : Cond.methodLink own index y_Tex_readLevel ∈ tw) (hlev : 2 < lev) (hsz : ls.size = nL) (hr : (rest.map fun v => v.category).sum ≤ 8) (hd : decode cc pc = .ok (.invokevirtual index, 3)) (kk : ∀ (H1 : Heap) (locs1 : List Loc), Wd s D A (wdC τ o ad) H1 locs1 → W p l e R s m args below meth c H1 locs1 0 0 Q (F0 m (pc + 3) ls (rest))) : W p l e R s m args below meth c H locs 0 0 Q (F0 m pc ls (.ref (ad ar4) :: .int x3 :: .int x2 :: .int x1 :: .int x0 :: .ref (ad 63) :: rest)) :=
  cr_v w E.C (va_runV (As := [.int x0, .int x1, .int x2, .int x3, .ref (ad ar4)]) (rest := rest) E.fix (c_Tex_readLevel l D τ B σ ad x0 x1 x2 x3 ar4 o h H.size) (cwV 5 E.w (tw_pre (tw_good k1053) (l := [_, _, _, _]) (List.forall_mem_cons.mpr ⟨hlk, List.forall_mem_cons.mpr ⟨k1052, List.forall_mem_cons.mpr ⟨ks14, List.forall_mem_cons.mpr ⟨k9, fun _ h => absurd h List.not_mem_nil⟩⟩⟩⟩)) rfl rfl rfl (by decide +kernel) (E.rm hlev (by decide))) (wd_preV w E.C [.int x0, .int x1, .int x2, .int x3, .ref (ad ar4)] rcC_Tex rfl) rfl rfl hsz rfl (lv_room hr) hd ⟨Nat.zero_le _, Nat.zero_le _⟩) kk

theorem d_Tex_read_0 : decode prog_10_method_2_code 0 = .ok (.aload_n 0, 1) := by decide +kernel
theorem d_Tex_read_1 : decode prog_10_method_2_code 1 = .ok (.getfield 32, 3) := by decide +kernel
theorem d_Tex_read_4 : decode prog_10_method_2_code 4 = .ok (.sipush 170, 3) := by decide +kernel
theorem d_Tex_read_7 : decode prog_10_method_2_code 7 = .ok (.iconst 5, 1) := by decide +kernel
theorem d_Tex_read_8 : decode prog_10_method_2_code 8 = .ok (.iload_n 1, 1) := by decide +kernel
theorem d_Tex_read_9 : decode prog_10_method_2_code 9 = .ok (.imul, 1) := by decide +kernel
theorem d_Tex_read_10 : decode prog_10_method_2_code 10 = .ok (.iadd, 1) := by decide +kernel
theorem d_Tex_read_11 : decode prog_10_method_2_code 11 = .ok (.iconst 3, 1) := by decide +kernel
theorem d_Tex_read_12 : decode prog_10_method_2_code 12 = .ok (.iadd, 1) := by decide +kernel
theorem d_Tex_read_13 : decode prog_10_method_2_code 13 = .ok (.iaload, 1) := by decide +kernel
theorem d_Tex_read_14 : decode prog_10_method_2_code 14 = .ok (.istore 6, 2) := by decide +kernel
theorem d_Tex_read_16 : decode prog_10_method_2_code 16 = .ok (.aload_n 0, 1) := by decide +kernel
theorem d_Tex_read_17 : decode prog_10_method_2_code 17 = .ok (.getfield 32, 3) := by decide +kernel
theorem d_Tex_read_20 : decode prog_10_method_2_code 20 = .ok (.sipush 217, 3) := by decide +kernel
theorem d_Tex_read_23 : decode prog_10_method_2_code 23 = .ok (.iconst 3, 1) := by decide +kernel
theorem d_Tex_read_24 : decode prog_10_method_2_code 24 = .ok (.iload_n 1, 1) := by decide +kernel
theorem d_Tex_read_25 : decode prog_10_method_2_code 25 = .ok (.imul, 1) := by decide +kernel
theorem d_Tex_read_26 : decode prog_10_method_2_code 26 = .ok (.iadd, 1) := by decide +kernel
theorem d_Tex_read_27 : decode prog_10_method_2_code 27 = .ok (.iconst 2, 1) := by decide +kernel
theorem d_Tex_read_28 : decode prog_10_method_2_code 28 = .ok (.iadd, 1) := by decide +kernel
theorem d_Tex_read_29 : decode prog_10_method_2_code 29 = .ok (.iaload, 1) := by decide +kernel
theorem d_Tex_read_30 : decode prog_10_method_2_code 30 = .ok (.istore 7, 2) := by decide +kernel
theorem d_Tex_read_32 : decode prog_10_method_2_code 32 = .ok (.iload 4, 2) := by decide +kernel
theorem d_Tex_read_34 : decode prog_10_method_2_code 34 = .ok (.i2l, 1) := by decide +kernel
theorem d_Tex_read_35 : decode prog_10_method_2_code 35 = .ok (.iconst 0, 1) := by decide +kernel
theorem d_Tex_read_36 : decode prog_10_method_2_code 36 = .ok (.ldc 33, 2) := by decide +kernel
theorem d_Tex_read_38 : decode prog_10_method_2_code 38 = .ok (.iload 6, 2) := by decide +kernel
theorem d_Tex_read_40 : decode prog_10_method_2_code 40 = .ok (.iconst 1, 1) := by decide +kernel
theorem d_Tex_read_41 : decode prog_10_method_2_code 41 = .ok (.isub, 1) := by decide +kernel
theorem d_Tex_read_42 : decode prog_10_method_2_code 42 = .ok (.imul, 1) := by decide +kernel
theorem d_Tex_read_43 : decode prog_10_method_2_code 43 = .ok (.invokestatic 34, 3) := by decide +kernel
theorem d_Tex_read_46 : decode prog_10_method_2_code 46 = .ok (.istore 8, 2) := by decide +kernel
theorem d_Tex_read_48 : decode prog_10_method_2_code 48 = .ok (.iload 8, 2) := by decide +kernel
theorem d_Tex_read_50 : decode prog_10_method_2_code 50 = .ok (.bipush 16, 2) := by decide +kernel
theorem d_Tex_read_52 : decode prog_10_method_2_code 52 = .ok (.ishr, 1) := by decide +kernel
theorem d_Tex_read_53 : decode prog_10_method_2_code 53 = .ok (.istore 9, 2) := by decide +kernel
theorem d_Tex_read_55 : decode prog_10_method_2_code 55 = .ok (.iload 8, 2) := by decide +kernel
theorem d_Tex_read_57 : decode prog_10_method_2_code 57 = .ok (.ldc 38, 2) := by decide +kernel
theorem d_Tex_read_59 : decode prog_10_method_2_code 59 = .ok (.iand, 1) := by decide +kernel
theorem d_Tex_read_60 : decode prog_10_method_2_code 60 = .ok (.istore 10, 2) := by decide +kernel
theorem d_Tex_read_62 : decode prog_10_method_2_code 62 = .ok (.aload_n 0, 1) := by decide +kernel
theorem d_Tex_read_63 : decode prog_10_method_2_code 63 = .ok (.iload_n 1, 1) := by decide +kernel
theorem d_Tex_read_64 : decode prog_10_method_2_code 64 = .ok (.iload 9, 2) := by decide +kernel
theorem d_Tex_read_66 : decode prog_10_method_2_code 66 = .ok (.iload_n 2, 1) := by decide +kernel
theorem d_Tex_read_67 : decode prog_10_method_2_code 67 = .ok (.iload_n 3, 1) := by decide +kernel
theorem d_Tex_read_68 : decode prog_10_method_2_code 68 = .ok (.aload 5, 2) := by decide +kernel
theorem d_Tex_read_70 : decode prog_10_method_2_code 70 = .ok (.invokevirtual 39, 3) := by decide +kernel
theorem d_Tex_read_73 : decode prog_10_method_2_code 73 = .ok (.iload 7, 2) := by decide +kernel
theorem d_Tex_read_75 : decode prog_10_method_2_code 75 = .ok (.iconst 2, 1) := by decide +kernel
theorem d_Tex_read_76 : decode prog_10_method_2_code 76 = .ok (.if_icmp .lt 34, 3) := by decide +kernel
theorem d_Tex_read_79 : decode prog_10_method_2_code 79 = .ok (.iload 10, 2) := by decide +kernel
theorem d_Tex_read_81 : decode prog_10_method_2_code 81 = .ok (.ifCond .le 29, 3) := by decide +kernel
theorem d_Tex_read_84 : decode prog_10_method_2_code 84 = .ok (.aload_n 0, 1) := by decide +kernel
theorem d_Tex_read_85 : decode prog_10_method_2_code 85 = .ok (.iload_n 1, 1) := by decide +kernel
theorem d_Tex_read_86 : decode prog_10_method_2_code 86 = .ok (.iload 9, 2) := by decide +kernel
theorem d_Tex_read_88 : decode prog_10_method_2_code 88 = .ok (.iconst 1, 1) := by decide +kernel
theorem d_Tex_read_89 : decode prog_10_method_2_code 89 = .ok (.iadd, 1) := by decide +kernel
theorem d_Tex_read_90 : decode prog_10_method_2_code 90 = .ok (.iload_n 2, 1) := by decide +kernel
theorem d_Tex_read_91 : decode prog_10_method_2_code 91 = .ok (.iload_n 3, 1) := by decide +kernel
theorem d_Tex_read_92 : decode prog_10_method_2_code 92 = .ok (.aload_n 0, 1) := by decide +kernel
theorem d_Tex_read_93 : decode prog_10_method_2_code 93 = .ok (.getfield 9, 3) := by decide +kernel
theorem d_Tex_read_96 : decode prog_10_method_2_code 96 = .ok (.invokevirtual 39, 3) := by decide +kernel
theorem d_Tex_read_99 : decode prog_10_method_2_code 99 = .ok (.aload 5, 2) := by decide +kernel
theorem d_Tex_read_101 : decode prog_10_method_2_code 101 = .ok (.aload_n 0, 1) := by decide +kernel
theorem d_Tex_read_102 : decode prog_10_method_2_code 102 = .ok (.getfield 9, 3) := by decide +kernel
theorem d_Tex_read_105 : decode prog_10_method_2_code 105 = .ok (.iload 10, 2) := by decide +kernel
theorem d_Tex_read_107 : decode prog_10_method_2_code 107 = .ok (.invokestatic 43, 3) := by decide +kernel
theorem d_Tex_read_110 : decode prog_10_method_2_code 110 = .ok (.return_, 1) := by decide +kernel
def F_Tex_read_110 (σ : Sg) : Option (Sg) := some σ
set_option maxRecDepth 10000 in
set_option maxHeartbeats 4000000 in
theorem bt_Tex_read_110 {p : Program} {l : Launch} {e : Env} {R : Room} {s : State} {m : MethodId} {args : Array Value} {below : List Frame} {meth : Method} {c : Code} {D : va_G} {τ : ClassId × ClassId × ClassId} {B : Nat} {A : Nat → Prop} {ad : Nat → Nat} (E : Cx p R s m args meth c prog_10_method_2_code 11 "DrawingMachine$Textures" 3 D τ B A) (hret : meth.sig.returnType = none) (o : Sg) (σ : Sg) (h : F_Tex_read_110 σ = some o) {H : Heap} {locs : List Loc} {ls : Array Slot} (w : Wd s D A (wdC τ σ ad) H locs) (hl : lv_has ls 11 []) : W p l e R s m args below meth c H locs 0 0 (QV below args s A D τ (wdC τ o ad)) (F0 m 110 ls []) := by
  obtain rfl := Option.some.inj h
  exact rt_v E w hret d_Tex_read_110
def F_Tex_read (σ : Sg) (x0 : Int32) (x1 : Int32) (x2 : Int32) (x3 : Int32) (ar4 : Nat) : Option (Sg) := ck (ar4 < 47) (ck (inb ((170 + (5 * x0)) + 3) 245) (lt (σ.2.2.1 1 ((170 + (5 * x0)) + 3).toNatClampNeg) (fun y13 => ck (inb ((217 + (3 * x0)) + 2) 245) (lt (σ.2.2.1 1 ((217 + (3 * x0)) + 2).toNatClampNeg) (fun y15 => bd (F_DM_within x3.toInt64 0 (65536 * (y13 - 1))) (fun o16 => lt (o16 >>> 16) (fun y17 => lt (o16 &&& 65535) (fun y18 => bd (F_Tex_readLevel σ x0 y17 x1 x2 ar4) (fun o19 => if y15 < 2 then (F_Tex_read_110 o19) else (if y18 ≤ 0 then (F_Tex_read_110 o19) else (bd (F_Tex_readLevel o19 x0 (y17 + 1) x1 x2 17) (fun o20 => bd (F_Tex_mix o20 ar4 17 y18) (fun o21 => F_Tex_read_110 o21)))))))))))))
set_option maxRecDepth 10000 in
set_option maxHeartbeats 4000000 in
theorem c_Tex_read (l : Launch) (D : va_G) (τ : ClassId × ClassId × ClassId) (B : Nat) (σ : Sg) (ad : Nat → Nat) (x0 : Int32) (x1 : Int32) (x2 : Int32) (x3 : Int32) (ar4 : Nat) (o : Sg) (h : F_Tex_read σ x0 x1 x2 x3 ar4 = some o) : MV l y_Tex_read (Cond.code y_Tex_read prog_10_method_2_code 11 none) 3 D τ B [.ref (ad 63), .int x0, .int x1, .int x2, .int x3, .ref (ad ar4)] (wdC τ σ ad) (wdC τ o ad) := by
  refine en_v (by decide) (Nat.le_of_ble_eq_true rfl) ?_
  intro p e R s m args below meth c H locs ls A E hret w hl
  have E : Cx p R s m args meth c prog_10_method_2_code 11 "DrawingMachine$Textures" 3 D τ B A := E
  have hl : lv_has ls 11 [(0, .ref (ad 63)), (1, .int x0), (2, .int x1), (3, .int x2), (4, .int x3), (5, .ref (ad ar4))] := hl
  obtain ⟨c11, h⟩ := ck_some h
  refine lv_aload_n E.x E.b d_Tex_read_0 rfl (lv_at hl 0 rfl) ?_
  refine gC_Tex_kept E w k218 d_Tex_read_1 ?_
  refine lv_sipush (v := 170) E.x E.b d_Tex_read_4 (by decide) ?_
  refine lv_iconst (v := 5) E.x E.b d_Tex_read_7 (by decide) ?_
  refine lv_iload_n E.x E.b d_Tex_read_8 rfl (lv_at hl 1 rfl) ?_
  refine lv_imul E.x E.b d_Tex_read_9 ?_
  refine lv_iadd E.x E.b d_Tex_read_10 ?_
  refine lv_iconst (v := 3) E.x E.b d_Tex_read_11 (by decide) ?_
  refine lv_iadd E.x E.b d_Tex_read_12 ?_
  obtain ⟨c12, h⟩ := ck_some h
  refine ialC E w (k := 1) (by decide) c12 d_Tex_read_13 ?_
  obtain ⟨y13, e_y13, h⟩ := lt_some h
  refine wi_e (v := y13) e_y13 ?_
  refine lv_istore (lv' := [(6, .int y13), (0, .ref (ad 63)), (1, .int x0), (2, .int x1), (3, .int x2), (4, .int x3), (5, .ref (ad ar4))]) E.x E.b d_Tex_read_14 hl (by decide) rfl (fun ls hl => ?_)
  refine lv_aload_n E.x E.b d_Tex_read_16 rfl (lv_at hl 1 rfl) ?_
  refine gC_Tex_kept E w k218 d_Tex_read_17 ?_
  refine lv_sipush (v := 217) E.x E.b d_Tex_read_20 (by decide) ?_
  refine lv_iconst (v := 3) E.x E.b d_Tex_read_23 (by decide) ?_
  refine lv_iload_n E.x E.b d_Tex_read_24 rfl (lv_at hl 2 rfl) ?_
  refine lv_imul E.x E.b d_Tex_read_25 ?_
  refine lv_iadd E.x E.b d_Tex_read_26 ?_
  refine lv_iconst (v := 2) E.x E.b d_Tex_read_27 (by decide) ?_
  refine lv_iadd E.x E.b d_Tex_read_28 ?_
  obtain ⟨c14, h⟩ := ck_some h
  refine ialC E w (k := 1) (by decide) c14 d_Tex_read_29 ?_
  obtain ⟨y15, e_y15, h⟩ := lt_some h
  refine wi_e (v := y15) e_y15 ?_
  refine lv_istore (lv' := [(7, .int y15), (6, .int y13), (0, .ref (ad 63)), (1, .int x0), (2, .int x1), (3, .int x2), (4, .int x3), (5, .ref (ad ar4))]) E.x E.b d_Tex_read_30 hl (by decide) rfl (fun ls hl => ?_)
  refine lv_iload E.x E.b d_Tex_read_32 (lv_at hl 6 rfl) ?_
  refine lv_i2l (v := x3.toInt64) E.x E.b d_Tex_read_34 rfl ?_
  refine lv_iconst (v := 0) E.x E.b d_Tex_read_35 (by decide) ?_
  refine lv_ldc (v := 65536) E.x E.b E.o (E.w _ k1047) d_Tex_read_36 ?_
  refine lv_iload E.x E.b d_Tex_read_38 (lv_at hl 1 rfl) ?_
  refine lv_iconst (v := 1) E.x E.b d_Tex_read_40 (by decide) ?_
  refine lv_isub E.x E.b d_Tex_read_41 ?_
  refine lv_imul E.x E.b d_Tex_read_42 ?_
  obtain ⟨o16, h_o16, h⟩ := bd_some h
  refine clSN_DM_within E w (x0 := x3.toInt64) (x1 := 0) (x2 := (65536 * (y13 - 1))) h_o16 n1048 (by decide) hl.1 (Nat.le_of_ble_eq_true rfl) d_Tex_read_43 (fun H locs w => ?_)
  refine lv_istore (lv' := [(8, .int o16), (7, .int y15), (6, .int y13), (0, .ref (ad 63)), (1, .int x0), (2, .int x1), (3, .int x2), (4, .int x3), (5, .ref (ad ar4))]) E.x E.b d_Tex_read_46 hl (by decide) rfl (fun ls hl => ?_)
  refine lv_iload E.x E.b d_Tex_read_48 (lv_at hl 0 rfl) ?_
  refine lv_bipush (v := 16) E.x E.b d_Tex_read_50 (by decide) ?_
  refine lv_ishr E.x E.b d_Tex_read_52 ?_
  refine wi_e (v := o16 >>> 16) rfl ?_
  obtain ⟨y17, e_y17, h⟩ := lt_some h
  refine wi_e (v := y17) e_y17 ?_
  refine lv_istore (lv' := [(9, .int y17), (8, .int o16), (7, .int y15), (6, .int y13), (0, .ref (ad 63)), (1, .int x0), (2, .int x1), (3, .int x2), (4, .int x3), (5, .ref (ad ar4))]) E.x E.b d_Tex_read_53 hl (by decide) rfl (fun ls hl => ?_)
  refine lv_iload E.x E.b d_Tex_read_55 (lv_at hl 1 rfl) ?_
  refine lv_ldc (v := 65535) E.x E.b E.o (E.w _ k1049) d_Tex_read_57 ?_
  refine lv_iand E.x E.b d_Tex_read_59 ?_
  obtain ⟨y18, e_y18, h⟩ := lt_some h
  refine wi_e (v := y18) e_y18 ?_
  refine lv_istore (lv' := [(10, .int y18), (9, .int y17), (8, .int o16), (7, .int y15), (6, .int y13), (0, .ref (ad 63)), (1, .int x0), (2, .int x1), (3, .int x2), (4, .int x3), (5, .ref (ad ar4))]) E.x E.b d_Tex_read_60 hl (by decide) rfl (fun ls hl => ?_)
  refine lv_aload_n E.x E.b d_Tex_read_62 rfl (lv_at hl 5 rfl) ?_
  refine lv_iload_n E.x E.b d_Tex_read_63 rfl (lv_at hl 6 rfl) ?_
  refine lv_iload E.x E.b d_Tex_read_64 (lv_at hl 1 rfl) ?_
  refine lv_iload_n E.x E.b d_Tex_read_66 rfl (lv_at hl 7 rfl) ?_
  refine lv_iload_n E.x E.b d_Tex_read_67 rfl (lv_at hl 8 rfl) ?_
  refine lv_aload E.x E.b d_Tex_read_68 (lv_at hl 10 rfl) ?_
  obtain ⟨o19, h_o19, h⟩ := bd_some h
  refine clV_Tex_readLevel E w (x0 := x0) (x1 := y17) (x2 := x1) (x3 := x2) (ar4 := ar4) h_o19 k1050 (by decide) hl.1 (Nat.le_of_ble_eq_true rfl) d_Tex_read_70 (fun H locs w => ?_)
  refine lv_iload E.x E.b d_Tex_read_73 (lv_at hl 3 rfl) ?_
  refine lv_iconst (v := 2) E.x E.b d_Tex_read_75 (by decide) ?_
  refine lv_icmp_lt (tgt := 110) E.x E.b d_Tex_read_76 (by decide) (fun c => ?_) (fun c => ?_)
  ·
    replace h := ifT c h
    exact bt_Tex_read_110 E hret o o19 h w (lv_sub hl [] rfl)
  ·
    replace h := ifF c h
    refine lv_iload E.x E.b d_Tex_read_79 (lv_at hl 0 rfl) ?_
    refine lv_if_le (tgt := 110) E.x E.b d_Tex_read_81 (by decide) (fun c => ?_) (fun c => ?_)
    ·
      replace h := ifT c h
      exact bt_Tex_read_110 E hret o o19 h w (lv_sub hl [] rfl)
    ·
      replace h := ifF c h
      refine lv_aload_n E.x E.b d_Tex_read_84 rfl (lv_at hl 5 rfl) ?_
      refine lv_iload_n E.x E.b d_Tex_read_85 rfl (lv_at hl 6 rfl) ?_
      refine lv_iload E.x E.b d_Tex_read_86 (lv_at hl 1 rfl) ?_
      refine lv_iconst (v := 1) E.x E.b d_Tex_read_88 (by decide) ?_
      refine lv_iadd E.x E.b d_Tex_read_89 ?_
      refine lv_iload_n E.x E.b d_Tex_read_90 rfl (lv_at hl 7 rfl) ?_
      refine lv_iload_n E.x E.b d_Tex_read_91 rfl (lv_at hl 8 rfl) ?_
      refine lv_aload_n E.x E.b d_Tex_read_92 rfl (lv_at hl 5 rfl) ?_
      refine gC_Tex_nextLevel E w k219 d_Tex_read_93 ?_
      obtain ⟨o20, h_o20, h⟩ := bd_some h
      refine clV_Tex_readLevel E w (x0 := x0) (x1 := (y17 + 1)) (x2 := x1) (x3 := x2) (ar4 := 17) h_o20 k1050 (by decide) hl.1 (Nat.le_of_ble_eq_true rfl) d_Tex_read_96 (fun H locs w => ?_)
      refine lv_aload E.x E.b d_Tex_read_99 (lv_at hl 10 rfl) ?_
      refine lv_aload_n E.x E.b d_Tex_read_101 rfl (lv_at hl 5 rfl) ?_
      refine gC_Tex_nextLevel E w k219 d_Tex_read_102 ?_
      refine lv_iload E.x E.b d_Tex_read_105 (lv_at hl 0 rfl) ?_
      obtain ⟨o21, h_o21, h⟩ := bd_some h
      refine clS_Tex_mix E w (ar0 := ar4) (ar1 := 17) (x2 := y18) h_o21 k1079 (by decide) hl.1 (Nat.le_of_ble_eq_true rfl) d_Tex_read_107 (fun H locs w => ?_)
      exact bt_Tex_read_110 E hret o o21 h w (lv_sub hl [] rfl)
theorem clV_Tex_read {p : Program} {l : Launch} {e : Env} {R : Room} {s : State} {m : MethodId} {args : Array Value} {below : List Frame} {meth : Method} {c : Code} {H : Heap} {locs : List Loc} {Q : State → Prop} {cc : ByteArray} {nL pc lev : Nat} {own : String} {D : va_G} {τ : ClassId × ClassId × ClassId} {B : Nat} {A : Nat → Prop} {σ : Sg} {ad : Nat → Nat} {ls : Array Slot} {rest : List Value} (E : Cx p R s m args meth c cc nL own lev D τ B A) (w : Wd s D A (wdC τ σ ad) H locs) {x0 : Int32} {x1 : Int32} {x2 : Int32} {x3 : Int32} {ar4 : Nat} {o : Sg} (h : F_Tex_read σ x0 x1 x2 x3 ar4 = some o) {index : Nat} (hlk : Cond.methodLink own index y_Tex_read ∈ tw) (hlev : 3 < lev) (hsz : ls.size = nL) (hr : (rest.map fun v => v.category).sum ≤ 8) (hd : decode cc pc = .ok (.invokevirtual index, 3)) (kk : ∀ (H1 : Heap) (locs1 : List Loc), Wd s D A (wdC τ o ad) H1 locs1 → W p l e R s m args below meth c H1 locs1 0 0 Q (F0 m (pc + 3) ls (rest))) : W p l e R s m args below meth c H locs 0 0 Q (F0 m pc ls (.ref (ad ar4) :: .int x3 :: .int x2 :: .int x1 :: .int x0 :: .ref (ad 63) :: rest)) :=
  cr_v w E.C (va_runV (As := [.int x0, .int x1, .int x2, .int x3, .ref (ad ar4)]) (rest := rest) E.fix (c_Tex_read l D τ B σ ad x0 x1 x2 x3 ar4 o h H.size) (cwV 5 E.w (tw_pre (tw_good k1046) (l := [_, _, _, _]) (List.forall_mem_cons.mpr ⟨hlk, List.forall_mem_cons.mpr ⟨k1044, List.forall_mem_cons.mpr ⟨k1045, List.forall_mem_cons.mpr ⟨k9, fun _ h => absurd h List.not_mem_nil⟩⟩⟩⟩)) rfl rfl rfl (by decide +kernel) (E.rm hlev (by decide))) (wd_preV w E.C [.int x0, .int x1, .int x2, .int x3, .ref (ad ar4)] rcC_Tex rfl) rfl rfl hsz rfl (lv_room hr) hd ⟨Nat.zero_le _, Nat.zero_le _⟩) kk
