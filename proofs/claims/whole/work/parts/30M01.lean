theorem d_Mod_frame_0 : decode prog_14_method_5_code 0 = .ok (.iload_n 1, 1) := by decide +kernel
theorem d_Mod_frame_1 : decode prog_14_method_5_code 1 = .ok (.i2l, 1) := by decide +kernel
theorem d_Mod_frame_2 : decode prog_14_method_5_code 2 = .ok (.lconst 1, 1) := by decide +kernel
theorem d_Mod_frame_3 : decode prog_14_method_5_code 3 = .ok (.ldc2_w 88, 3) := by decide +kernel
theorem d_Mod_frame_6 : decode prog_14_method_5_code 6 = .ok (.invokestatic 90, 3) := by decide +kernel
theorem d_Mod_frame_9 : decode prog_14_method_5_code 9 = .ok (.ifCond .eq 43, 3) := by decide +kernel
theorem d_Mod_frame_12 : decode prog_14_method_5_code 12 = .ok (.iload_n 2, 1) := by decide +kernel
theorem d_Mod_frame_13 : decode prog_14_method_5_code 13 = .ok (.i2l, 1) := by decide +kernel
theorem d_Mod_frame_14 : decode prog_14_method_5_code 14 = .ok (.lconst 1, 1) := by decide +kernel
theorem d_Mod_frame_15 : decode prog_14_method_5_code 15 = .ok (.ldc2_w 88, 3) := by decide +kernel
theorem d_Mod_frame_18 : decode prog_14_method_5_code 18 = .ok (.invokestatic 90, 3) := by decide +kernel
theorem d_Mod_frame_21 : decode prog_14_method_5_code 21 = .ok (.ifCond .eq 31, 3) := by decide +kernel
theorem d_Mod_frame_24 : decode prog_14_method_5_code 24 = .ok (.iload_n 3, 1) := by decide +kernel
theorem d_Mod_frame_25 : decode prog_14_method_5_code 25 = .ok (.bipush 8, 2) := by decide +kernel
theorem d_Mod_frame_27 : decode prog_14_method_5_code 27 = .ok (.if_icmp .eq 21, 3) := by decide +kernel
theorem d_Mod_frame_30 : decode prog_14_method_5_code 30 = .ok (.iload_n 3, 1) := by decide +kernel
theorem d_Mod_frame_31 : decode prog_14_method_5_code 31 = .ok (.bipush 16, 2) := by decide +kernel
theorem d_Mod_frame_33 : decode prog_14_method_5_code 33 = .ok (.if_icmp .eq 15, 3) := by decide +kernel
theorem d_Mod_frame_36 : decode prog_14_method_5_code 36 = .ok (.iload_n 3, 1) := by decide +kernel
theorem d_Mod_frame_37 : decode prog_14_method_5_code 37 = .ok (.bipush 32, 2) := by decide +kernel
theorem d_Mod_frame_39 : decode prog_14_method_5_code 39 = .ok (.if_icmp .eq 9, 3) := by decide +kernel
theorem d_Mod_frame_42 : decode prog_14_method_5_code 42 = .ok (.iload_n 3, 1) := by decide +kernel
theorem d_Mod_frame_43 : decode prog_14_method_5_code 43 = .ok (.bipush 64, 2) := by decide +kernel
theorem d_Mod_frame_45 : decode prog_14_method_5_code 45 = .ok (.if_icmp .ne 7, 3) := by decide +kernel
theorem d_Mod_frame_48 : decode prog_14_method_5_code 48 = .ok (.iconst 1, 1) := by decide +kernel
theorem d_Mod_frame_49 : decode prog_14_method_5_code 49 = .ok (.goto 4, 3) := by decide +kernel
theorem d_Mod_frame_52 : decode prog_14_method_5_code 52 = .ok (.iconst 0, 1) := by decide +kernel
theorem d_Mod_frame_53 : decode prog_14_method_5_code 53 = .ok (.istore 4, 2) := by decide +kernel
theorem d_Mod_frame_55 : decode prog_14_method_5_code 55 = .ok (.aload_n 0, 1) := by decide +kernel
theorem d_Mod_frame_56 : decode prog_14_method_5_code 56 = .ok (.iload 4, 2) := by decide +kernel
theorem d_Mod_frame_58 : decode prog_14_method_5_code 58 = .ok (.ifCond .ne 7, 3) := by decide +kernel
theorem d_Mod_frame_61 : decode prog_14_method_5_code 61 = .ok (.iconst 1, 1) := by decide +kernel
theorem d_Mod_frame_62 : decode prog_14_method_5_code 62 = .ok (.goto 4, 3) := by decide +kernel
theorem d_Mod_frame_65 : decode prog_14_method_5_code 65 = .ok (.iconst 0, 1) := by decide +kernel
theorem d_Mod_frame_66 : decode prog_14_method_5_code 66 = .ok (.iconst 0, 1) := by decide +kernel
theorem d_Mod_frame_67 : decode prog_14_method_5_code 67 = .ok (.invokevirtual 94, 3) := by decide +kernel
theorem d_Mod_frame_70 : decode prog_14_method_5_code 70 = .ok (.ifCond .eq 5, 3) := by decide +kernel
theorem d_Mod_frame_73 : decode prog_14_method_5_code 73 = .ok (.iconst 0, 1) := by decide +kernel
theorem d_Mod_frame_74 : decode prog_14_method_5_code 74 = .ok (.ireturn, 1) := by decide +kernel
theorem d_Mod_frame_75 : decode prog_14_method_5_code 75 = .ok (.aload_n 0, 1) := by decide +kernel
theorem d_Mod_frame_76 : decode prog_14_method_5_code 76 = .ok (.iload_n 1, 1) := by decide +kernel
theorem d_Mod_frame_77 : decode prog_14_method_5_code 77 = .ok (.putfield 7, 3) := by decide +kernel
theorem d_Mod_frame_80 : decode prog_14_method_5_code 80 = .ok (.aload_n 0, 1) := by decide +kernel
theorem d_Mod_frame_81 : decode prog_14_method_5_code 81 = .ok (.iload_n 2, 1) := by decide +kernel
theorem d_Mod_frame_82 : decode prog_14_method_5_code 82 = .ok (.putfield 13, 3) := by decide +kernel
theorem d_Mod_frame_85 : decode prog_14_method_5_code 85 = .ok (.aload_n 0, 1) := by decide +kernel
theorem d_Mod_frame_86 : decode prog_14_method_5_code 86 = .ok (.getfield 19, 3) := by decide +kernel
theorem d_Mod_frame_89 : decode prog_14_method_5_code 89 = .ok (.iload_n 1, 1) := by decide +kernel
theorem d_Mod_frame_90 : decode prog_14_method_5_code 90 = .ok (.iload_n 2, 1) := by decide +kernel
theorem d_Mod_frame_91 : decode prog_14_method_5_code 91 = .ok (.invokevirtual 98, 3) := by decide +kernel
theorem d_Mod_frame_94 : decode prog_14_method_5_code 94 = .ok (.aload_n 0, 1) := by decide +kernel
theorem d_Mod_frame_95 : decode prog_14_method_5_code 95 = .ok (.getfield 65, 3) := by decide +kernel
theorem d_Mod_frame_98 : decode prog_14_method_5_code 98 = .ok (.iconst 0, 1) := by decide +kernel
theorem d_Mod_frame_99 : decode prog_14_method_5_code 99 = .ok (.iconst 0, 1) := by decide +kernel
theorem d_Mod_frame_100 : decode prog_14_method_5_code 100 = .ok (.iload_n 1, 1) := by decide +kernel
theorem d_Mod_frame_101 : decode prog_14_method_5_code 101 = .ok (.iload_n 2, 1) := by decide +kernel
theorem d_Mod_frame_102 : decode prog_14_method_5_code 102 = .ok (.invokevirtual 102, 3) := by decide +kernel
theorem d_Mod_frame_105 : decode prog_14_method_5_code 105 = .ok (.iload_n 1, 1) := by decide +kernel
theorem d_Mod_frame_106 : decode prog_14_method_5_code 106 = .ok (.iload_n 3, 1) := by decide +kernel
theorem d_Mod_frame_107 : decode prog_14_method_5_code 107 = .ok (.iadd, 1) := by decide +kernel
theorem d_Mod_frame_108 : decode prog_14_method_5_code 108 = .ok (.iconst 1, 1) := by decide +kernel
theorem d_Mod_frame_109 : decode prog_14_method_5_code 109 = .ok (.isub, 1) := by decide +kernel
theorem d_Mod_frame_110 : decode prog_14_method_5_code 110 = .ok (.iload_n 3, 1) := by decide +kernel
theorem d_Mod_frame_111 : decode prog_14_method_5_code 111 = .ok (.idiv, 1) := by decide +kernel
theorem d_Mod_frame_112 : decode prog_14_method_5_code 112 = .ok (.iload_n 2, 1) := by decide +kernel
theorem d_Mod_frame_113 : decode prog_14_method_5_code 113 = .ok (.iload_n 3, 1) := by decide +kernel
theorem d_Mod_frame_114 : decode prog_14_method_5_code 114 = .ok (.iadd, 1) := by decide +kernel
theorem d_Mod_frame_115 : decode prog_14_method_5_code 115 = .ok (.iconst 1, 1) := by decide +kernel
theorem d_Mod_frame_116 : decode prog_14_method_5_code 116 = .ok (.isub, 1) := by decide +kernel
theorem d_Mod_frame_117 : decode prog_14_method_5_code 117 = .ok (.iload_n 3, 1) := by decide +kernel
theorem d_Mod_frame_118 : decode prog_14_method_5_code 118 = .ok (.idiv, 1) := by decide +kernel
theorem d_Mod_frame_119 : decode prog_14_method_5_code 119 = .ok (.imul, 1) := by decide +kernel
theorem d_Mod_frame_120 : decode prog_14_method_5_code 120 = .ok (.ireturn, 1) := by decide +kernel
def F_Mod_frame_66 (σ : Sg) (v1 : Int32) (v2 : Int32) (v3 : Int32) (s1 : Int32) : Option (Sg × Int32) := bd (F_Mod_refuse σ s1 0) (fun o10 => if o10.2 = 0 then (lt (sI o10.1 1 v1) (fun σ11 => lt (sI σ11 2 v2) (fun σ12 => bd (F_Cmd_frame σ12 v1 v2) (fun o13 => bd (F_Ptm_frame o13 0 0 v1 v2) (fun o14 => ck (¬ v3 = 0) (ck (¬ v3 = 0) (some (o14, (((v1 + v3) - 1) / v3) * (((v2 + v3) - 1) / v3))))))))) else (some (o10.1, 0)))
set_option maxRecDepth 10000 in
set_option maxHeartbeats 4000000 in
theorem bt_Mod_frame_66 {p : Program} {l : Launch} {e : Env} {R : Room} {s : State} {m : MethodId} {args : Array Value} {below : List Frame} {meth : Method} {c : Code} {D : va_G} {τ : ClassId × ClassId × ClassId} {B : Nat} {A : Nat → Prop} {ad : Nat → Nat} (E : Cx p R s m args meth c prog_14_method_5_code 5 "DrawingMachineModel" 2 D τ B A) (hret : meth.sig.returnType = (some .int)) (o : Sg × Int32) (σ : Sg) (v1 : Int32) (v2 : Int32) (v3 : Int32) (s1 : Int32) (h : F_Mod_frame_66 σ v1 v2 v3 s1 = some o) {H : Heap} {locs : List Loc} {ls : Array Slot} (w : Wd s D A (wdM τ σ ad) H locs) (hl : lv_has ls 5 [(0, .ref (ad 59)), (1, .int v1), (2, .int v2), (3, .int v3)]) : W p l e R s m args below meth c H locs 0 0 (QI below args s A D τ (wdM τ o.1 ad) o.2) (F0 m 66 ls [.int s1, .ref (ad 59)]) := by
  refine lv_iconst (v := 0) E.x E.b d_Mod_frame_66 (by decide) ?_
  obtain ⟨o10, h_o10, h⟩ := bd_some h
  refine clV_Mod_refuse E w (x0 := s1) (x1 := 0) h_o10 k1835 (by decide) hl.1 (Nat.le_of_ble_eq_true rfl) d_Mod_frame_67 (fun H locs w => ?_)
  refine lv_if_eq (tgt := 75) E.x E.b d_Mod_frame_70 (by decide) (fun c => ?_) (fun c => ?_)
  ·
    replace h := ifT c h
    refine lv_aload_n E.x E.b d_Mod_frame_75 rfl (lv_at hl 0 rfl) ?_
    refine lv_iload_n E.x E.b d_Mod_frame_76 rfl (lv_at hl 1 rfl) ?_
    obtain ⟨σ11, e_σ11, h⟩ := lt_some h
    refine pM_Mod_wide E w k1766 e_σ11 d_Mod_frame_77 (fun H locs w => ?_)
    refine lv_aload_n E.x E.b d_Mod_frame_80 rfl (lv_at hl 0 rfl) ?_
    refine lv_iload_n E.x E.b d_Mod_frame_81 rfl (lv_at hl 2 rfl) ?_
    obtain ⟨σ12, e_σ12, h⟩ := lt_some h
    refine pM_Mod_high E w k1767 e_σ12 d_Mod_frame_82 (fun H locs w => ?_)
    refine lv_aload_n E.x E.b d_Mod_frame_85 rfl (lv_at hl 0 rfl) ?_
    refine gM_Mod_commands E w k1768 d_Mod_frame_86 ?_
    refine lv_iload_n E.x E.b d_Mod_frame_89 rfl (lv_at hl 1 rfl) ?_
    refine lv_iload_n E.x E.b d_Mod_frame_90 rfl (lv_at hl 2 rfl) ?_
    obtain ⟨o13, h_o13, h⟩ := bd_some h
    refine clV_Cmd_frame E w (x0 := v1) (x1 := v2) h_o13 k1839 (by decide) hl.1 (Nat.le_of_ble_eq_true rfl) d_Mod_frame_91 (fun H locs w => ?_)
    refine lv_aload_n E.x E.b d_Mod_frame_94 rfl (lv_at hl 0 rfl) ?_
    refine gM_Mod_tests E w k1774 d_Mod_frame_95 ?_
    refine lv_iconst (v := 0) E.x E.b d_Mod_frame_98 (by decide) ?_
    refine lv_iconst (v := 0) E.x E.b d_Mod_frame_99 (by decide) ?_
    refine lv_iload_n E.x E.b d_Mod_frame_100 rfl (lv_at hl 1 rfl) ?_
    refine lv_iload_n E.x E.b d_Mod_frame_101 rfl (lv_at hl 2 rfl) ?_
    obtain ⟨o14, h_o14, h⟩ := bd_some h
    refine clV_Ptm_frame E w (x0 := 0) (x1 := 0) (x2 := v1) (x3 := v2) h_o14 k1851 (by decide) hl.1 (Nat.le_of_ble_eq_true rfl) d_Mod_frame_102 (fun H locs w => ?_)
    refine lv_iload_n E.x E.b d_Mod_frame_105 rfl (lv_at hl 1 rfl) ?_
    refine lv_iload_n E.x E.b d_Mod_frame_106 rfl (lv_at hl 3 rfl) ?_
    refine lv_iadd E.x E.b d_Mod_frame_107 ?_
    refine lv_iconst (v := 1) E.x E.b d_Mod_frame_108 (by decide) ?_
    refine lv_isub E.x E.b d_Mod_frame_109 ?_
    refine lv_iload_n E.x E.b d_Mod_frame_110 rfl (lv_at hl 3 rfl) ?_
    obtain ⟨c15, h⟩ := ck_some h
    refine lv_idiv E.x E.b d_Mod_frame_111 c15 ?_
    refine lv_iload_n E.x E.b d_Mod_frame_112 rfl (lv_at hl 2 rfl) ?_
    refine lv_iload_n E.x E.b d_Mod_frame_113 rfl (lv_at hl 3 rfl) ?_
    refine lv_iadd E.x E.b d_Mod_frame_114 ?_
    refine lv_iconst (v := 1) E.x E.b d_Mod_frame_115 (by decide) ?_
    refine lv_isub E.x E.b d_Mod_frame_116 ?_
    refine lv_iload_n E.x E.b d_Mod_frame_117 rfl (lv_at hl 3 rfl) ?_
    obtain ⟨c16, h⟩ := ck_some h
    refine lv_idiv E.x E.b d_Mod_frame_118 c16 ?_
    refine lv_imul E.x E.b d_Mod_frame_119 ?_
    obtain rfl := Option.some.inj h
    exact rt_i E w hret d_Mod_frame_120
  ·
    replace h := ifF c h
    refine lv_iconst (v := 0) E.x E.b d_Mod_frame_73 (by decide) ?_
    obtain rfl := Option.some.inj h
    exact rt_i E w hret d_Mod_frame_74
def F_Mod_frame_53 (σ : Sg) (v1 : Int32) (v2 : Int32) (v3 : Int32) (s0 : Int32) : Option (Sg × Int32) := if s0 = 0 then (F_Mod_frame_66 σ v1 v2 v3 1) else (F_Mod_frame_66 σ v1 v2 v3 0)
set_option maxRecDepth 10000 in
set_option maxHeartbeats 4000000 in
theorem bt_Mod_frame_53 {p : Program} {l : Launch} {e : Env} {R : Room} {s : State} {m : MethodId} {args : Array Value} {below : List Frame} {meth : Method} {c : Code} {D : va_G} {τ : ClassId × ClassId × ClassId} {B : Nat} {A : Nat → Prop} {ad : Nat → Nat} (E : Cx p R s m args meth c prog_14_method_5_code 5 "DrawingMachineModel" 2 D τ B A) (hret : meth.sig.returnType = (some .int)) (o : Sg × Int32) (σ : Sg) (v1 : Int32) (v2 : Int32) (v3 : Int32) (s0 : Int32) (h : F_Mod_frame_53 σ v1 v2 v3 s0 = some o) {H : Heap} {locs : List Loc} {ls : Array Slot} (w : Wd s D A (wdM τ σ ad) H locs) (hl : lv_has ls 5 [(0, .ref (ad 59)), (1, .int v1), (2, .int v2), (3, .int v3)]) : W p l e R s m args below meth c H locs 0 0 (QI below args s A D τ (wdM τ o.1 ad) o.2) (F0 m 53 ls [.int s0]) := by
  refine lv_istore (lv' := [(4, .int s0), (0, .ref (ad 59)), (1, .int v1), (2, .int v2), (3, .int v3)]) E.x E.b d_Mod_frame_53 hl (by decide) rfl (fun ls hl => ?_)
  refine lv_aload_n E.x E.b d_Mod_frame_55 rfl (lv_at hl 1 rfl) ?_
  refine lv_iload E.x E.b d_Mod_frame_56 (lv_at hl 0 rfl) ?_
  refine lv_if_ne (tgt := 65) E.x E.b d_Mod_frame_58 (by decide) (fun c => ?_) (fun c => ?_)
  ·
    replace h := ifF c h
    refine lv_iconst (v := 0) E.x E.b d_Mod_frame_65 (by decide) ?_
    exact bt_Mod_frame_66 E hret o σ v1 v2 v3 0 h w (lv_sub hl [1, 2, 3, 4] rfl)
  ·
    replace h := ifT c h
    refine lv_iconst (v := 1) E.x E.b d_Mod_frame_61 (by decide) ?_
    refine lv_goto (tgt := 66) E.x E.b d_Mod_frame_62 (by decide) ?_
    exact bt_Mod_frame_66 E hret o σ v1 v2 v3 1 h w (lv_sub hl [1, 2, 3, 4] rfl)
def F_Mod_frame_52 (σ : Sg) (v1 : Int32) (v2 : Int32) (v3 : Int32) : Option (Sg × Int32) := F_Mod_frame_53 σ v1 v2 v3 0
set_option maxRecDepth 10000 in
set_option maxHeartbeats 4000000 in
theorem bt_Mod_frame_52 {p : Program} {l : Launch} {e : Env} {R : Room} {s : State} {m : MethodId} {args : Array Value} {below : List Frame} {meth : Method} {c : Code} {D : va_G} {τ : ClassId × ClassId × ClassId} {B : Nat} {A : Nat → Prop} {ad : Nat → Nat} (E : Cx p R s m args meth c prog_14_method_5_code 5 "DrawingMachineModel" 2 D τ B A) (hret : meth.sig.returnType = (some .int)) (o : Sg × Int32) (σ : Sg) (v1 : Int32) (v2 : Int32) (v3 : Int32) (h : F_Mod_frame_52 σ v1 v2 v3 = some o) {H : Heap} {locs : List Loc} {ls : Array Slot} (w : Wd s D A (wdM τ σ ad) H locs) (hl : lv_has ls 5 [(0, .ref (ad 59)), (1, .int v1), (2, .int v2), (3, .int v3)]) : W p l e R s m args below meth c H locs 0 0 (QI below args s A D τ (wdM τ o.1 ad) o.2) (F0 m 52 ls []) := by
  refine lv_iconst (v := 0) E.x E.b d_Mod_frame_52 (by decide) ?_
  exact bt_Mod_frame_53 E hret o σ v1 v2 v3 0 h w (lv_sub hl [0, 1, 2, 3] rfl)
def F_Mod_frame_48 (σ : Sg) (v1 : Int32) (v2 : Int32) (v3 : Int32) : Option (Sg × Int32) := F_Mod_frame_53 σ v1 v2 v3 1
set_option maxRecDepth 10000 in
set_option maxHeartbeats 4000000 in
theorem bt_Mod_frame_48 {p : Program} {l : Launch} {e : Env} {R : Room} {s : State} {m : MethodId} {args : Array Value} {below : List Frame} {meth : Method} {c : Code} {D : va_G} {τ : ClassId × ClassId × ClassId} {B : Nat} {A : Nat → Prop} {ad : Nat → Nat} (E : Cx p R s m args meth c prog_14_method_5_code 5 "DrawingMachineModel" 2 D τ B A) (hret : meth.sig.returnType = (some .int)) (o : Sg × Int32) (σ : Sg) (v1 : Int32) (v2 : Int32) (v3 : Int32) (h : F_Mod_frame_48 σ v1 v2 v3 = some o) {H : Heap} {locs : List Loc} {ls : Array Slot} (w : Wd s D A (wdM τ σ ad) H locs) (hl : lv_has ls 5 [(0, .ref (ad 59)), (1, .int v1), (2, .int v2), (3, .int v3)]) : W p l e R s m args below meth c H locs 0 0 (QI below args s A D τ (wdM τ o.1 ad) o.2) (F0 m 48 ls []) := by
  refine lv_iconst (v := 1) E.x E.b d_Mod_frame_48 (by decide) ?_
  refine lv_goto (tgt := 53) E.x E.b d_Mod_frame_49 (by decide) ?_
  exact bt_Mod_frame_53 E hret o σ v1 v2 v3 1 h w (lv_sub hl [0, 1, 2, 3] rfl)
def F_Mod_frame (σ : Sg) (x0 : Int32) (x1 : Int32) (x2 : Int32) : Option (Sg × Int32) := bd (F_Mod_in x0.toInt64 1 128) (fun o17 => if o17 = 0 then (F_Mod_frame_52 σ x0 x1 x2) else (bd (F_Mod_in x1.toInt64 1 128) (fun o18 => if o18 = 0 then (F_Mod_frame_52 σ x0 x1 x2) else (if x2 = 8 then (F_Mod_frame_48 σ x0 x1 x2) else (if x2 = 16 then (F_Mod_frame_48 σ x0 x1 x2) else (if x2 = 32 then (F_Mod_frame_48 σ x0 x1 x2) else (if x2 = 64 then (F_Mod_frame_48 σ x0 x1 x2) else (F_Mod_frame_52 σ x0 x1 x2))))))))
set_option maxRecDepth 10000 in
set_option maxHeartbeats 4000000 in
theorem c_Mod_frame (l : Launch) (D : va_G) (τ : ClassId × ClassId × ClassId) (B : Nat) (σ : Sg) (ad : Nat → Nat) (x0 : Int32) (x1 : Int32) (x2 : Int32) (o : Sg × Int32) (h : F_Mod_frame σ x0 x1 x2 = some o) : MI l y_Mod_frame (Cond.code y_Mod_frame prog_14_method_5_code 5 (some .int)) 2 D τ B [.ref (ad 59), .int x0, .int x1, .int x2] (wdM τ σ ad) (wdM τ o.1 ad) o.2 := by
  refine en_i (by decide) (Nat.le_of_ble_eq_true rfl) ?_
  intro p e R s m args below meth c H locs ls A E hret w hl
  have E : Cx p R s m args meth c prog_14_method_5_code 5 "DrawingMachineModel" 2 D τ B A := E
  have hl : lv_has ls 5 [(0, .ref (ad 59)), (1, .int x0), (2, .int x1), (3, .int x2)] := hl
  refine lv_iload_n E.x E.b d_Mod_frame_0 rfl (lv_at hl 1 rfl) ?_
  refine lv_i2l (v := x0.toInt64) E.x E.b d_Mod_frame_1 rfl ?_
  refine lv_lconst (v := 1) E.x E.b d_Mod_frame_2 (by decide) ?_
  refine lv_ldc2 (v := 128) E.x E.b E.o (E.w _ k1831) d_Mod_frame_3 ?_
  obtain ⟨o17, h_o17, h⟩ := bd_some h
  refine clS_Mod_in E w (x0 := x0.toInt64) (x1 := 1) (x2 := 128) h_o17 k1832 (by decide) hl.1 (Nat.le_of_ble_eq_true rfl) d_Mod_frame_6 (fun H locs w => ?_)
  refine lv_if_eq (tgt := 52) E.x E.b d_Mod_frame_9 (by decide) (fun c => ?_) (fun c => ?_)
  ·
    replace h := ifT c h
    exact bt_Mod_frame_52 E hret o σ x0 x1 x2 h w (lv_sub hl [0, 1, 2, 3] rfl)
  ·
    replace h := ifF c h
    refine lv_iload_n E.x E.b d_Mod_frame_12 rfl (lv_at hl 2 rfl) ?_
    refine lv_i2l (v := x1.toInt64) E.x E.b d_Mod_frame_13 rfl ?_
    refine lv_lconst (v := 1) E.x E.b d_Mod_frame_14 (by decide) ?_
    refine lv_ldc2 (v := 128) E.x E.b E.o (E.w _ k1831) d_Mod_frame_15 ?_
    obtain ⟨o18, h_o18, h⟩ := bd_some h
    refine clS_Mod_in E w (x0 := x1.toInt64) (x1 := 1) (x2 := 128) h_o18 k1832 (by decide) hl.1 (Nat.le_of_ble_eq_true rfl) d_Mod_frame_18 (fun H locs w => ?_)
    refine lv_if_eq (tgt := 52) E.x E.b d_Mod_frame_21 (by decide) (fun c => ?_) (fun c => ?_)
    ·
      replace h := ifT c h
      exact bt_Mod_frame_52 E hret o σ x0 x1 x2 h w (lv_sub hl [0, 1, 2, 3] rfl)
    ·
      replace h := ifF c h
      refine lv_iload_n E.x E.b d_Mod_frame_24 rfl (lv_at hl 3 rfl) ?_
      refine lv_bipush (v := 8) E.x E.b d_Mod_frame_25 (by decide) ?_
      refine lv_icmp_eq (tgt := 48) E.x E.b d_Mod_frame_27 (by decide) (fun c => ?_) (fun c => ?_)
      ·
        replace h := ifT c h
        exact bt_Mod_frame_48 E hret o σ x0 x1 x2 h w (lv_sub hl [0, 1, 2, 3] rfl)
      ·
        replace h := ifF c h
        refine lv_iload_n E.x E.b d_Mod_frame_30 rfl (lv_at hl 3 rfl) ?_
        refine lv_bipush (v := 16) E.x E.b d_Mod_frame_31 (by decide) ?_
        refine lv_icmp_eq (tgt := 48) E.x E.b d_Mod_frame_33 (by decide) (fun c => ?_) (fun c => ?_)
        ·
          replace h := ifT c h
          exact bt_Mod_frame_48 E hret o σ x0 x1 x2 h w (lv_sub hl [0, 1, 2, 3] rfl)
        ·
          replace h := ifF c h
          refine lv_iload_n E.x E.b d_Mod_frame_36 rfl (lv_at hl 3 rfl) ?_
          refine lv_bipush (v := 32) E.x E.b d_Mod_frame_37 (by decide) ?_
          refine lv_icmp_eq (tgt := 48) E.x E.b d_Mod_frame_39 (by decide) (fun c => ?_) (fun c => ?_)
          ·
            replace h := ifT c h
            exact bt_Mod_frame_48 E hret o σ x0 x1 x2 h w (lv_sub hl [0, 1, 2, 3] rfl)
          ·
            replace h := ifF c h
            refine lv_iload_n E.x E.b d_Mod_frame_42 rfl (lv_at hl 3 rfl) ?_
            refine lv_bipush (v := 64) E.x E.b d_Mod_frame_43 (by decide) ?_
            refine lv_icmp_ne (tgt := 52) E.x E.b d_Mod_frame_45 (by decide) (fun c => ?_) (fun c => ?_)
            ·
              replace h := ifF c h
              exact bt_Mod_frame_52 E hret o σ x0 x1 x2 h w (lv_sub hl [0, 1, 2, 3] rfl)
            ·
              replace h := ifT c h
              exact bt_Mod_frame_48 E hret o σ x0 x1 x2 h w (lv_sub hl [0, 1, 2, 3] rfl)

theorem d_Cmd_word_0 : decode prog_15_method_13_code 0 = .ok (.aload_n 0, 1) := by decide +kernel
theorem d_Cmd_word_1 : decode prog_15_method_13_code 1 = .ok (.iload_n 1, 1) := by decide +kernel
theorem d_Cmd_word_2 : decode prog_15_method_13_code 2 = .ok (.i2l, 1) := by decide +kernel
theorem d_Cmd_word_3 : decode prog_15_method_13_code 3 = .ok (.lconst 0, 1) := by decide +kernel
theorem d_Cmd_word_4 : decode prog_15_method_13_code 4 = .ok (.ldc2_w 118, 3) := by decide +kernel
theorem d_Cmd_word_7 : decode prog_15_method_13_code 7 = .ok (.invokestatic 51, 3) := by decide +kernel
theorem d_Cmd_word_10 : decode prog_15_method_13_code 10 = .ok (.ifCond .ne 7, 3) := by decide +kernel
theorem d_Cmd_word_13 : decode prog_15_method_13_code 13 = .ok (.iconst 1, 1) := by decide +kernel
theorem d_Cmd_word_14 : decode prog_15_method_13_code 14 = .ok (.goto 4, 3) := by decide +kernel
theorem d_Cmd_word_17 : decode prog_15_method_13_code 17 = .ok (.iconst 0, 1) := by decide +kernel
theorem d_Cmd_word_18 : decode prog_15_method_13_code 18 = .ok (.invokevirtual 120, 3) := by decide +kernel
theorem d_Cmd_word_21 : decode prog_15_method_13_code 21 = .ok (.ifCond .eq 5, 3) := by decide +kernel
theorem d_Cmd_word_24 : decode prog_15_method_13_code 24 = .ok (.iconst 0, 1) := by decide +kernel
theorem d_Cmd_word_25 : decode prog_15_method_13_code 25 = .ok (.ireturn, 1) := by decide +kernel
theorem d_Cmd_word_26 : decode prog_15_method_13_code 26 = .ok (.aload_n 0, 1) := by decide +kernel
theorem d_Cmd_word_27 : decode prog_15_method_13_code 27 = .ok (.getfield 7, 3) := by decide +kernel
theorem d_Cmd_word_30 : decode prog_15_method_13_code 30 = .ok (.iload_n 1, 1) := by decide +kernel
theorem d_Cmd_word_31 : decode prog_15_method_13_code 31 = .ok (.iaload, 1) := by decide +kernel
theorem d_Cmd_word_32 : decode prog_15_method_13_code 32 = .ok (.istore_n 3, 1) := by decide +kernel
theorem d_Cmd_word_33 : decode prog_15_method_13_code 33 = .ok (.aload_n 0, 1) := by decide +kernel
theorem d_Cmd_word_34 : decode prog_15_method_13_code 34 = .ok (.getfield 7, 3) := by decide +kernel
theorem d_Cmd_word_37 : decode prog_15_method_13_code 37 = .ok (.iload_n 1, 1) := by decide +kernel
theorem d_Cmd_word_38 : decode prog_15_method_13_code 38 = .ok (.iload_n 2, 1) := by decide +kernel
theorem d_Cmd_word_39 : decode prog_15_method_13_code 39 = .ok (.iastore, 1) := by decide +kernel
theorem d_Cmd_word_40 : decode prog_15_method_13_code 40 = .ok (.iload_n 3, 1) := by decide +kernel
theorem d_Cmd_word_41 : decode prog_15_method_13_code 41 = .ok (.ireturn, 1) := by decide +kernel
def F_Cmd_word_18 (σ : Sg) (v1 : Int32) (v2 : Int32) (s1 : Int32) : Option (Sg × Int32) := bd (F_Cmd_refuse σ s1) (fun o7 => if o7.2 = 0 then (ck (inb v1 4096) (lt (o7.1.2.2.1 0 v1.toNatClampNeg) (fun y9 => ck (inb v1 4096) (lt (sA o7.1 0 (upd (o7.1.2.2.1 0) v1.toNatClampNeg v2)) (fun σ11 => some (σ11, y9)))))) else (some (o7.1, 0)))
set_option maxRecDepth 10000 in
set_option maxHeartbeats 4000000 in
theorem bt_Cmd_word_18 {p : Program} {l : Launch} {e : Env} {R : Room} {s : State} {m : MethodId} {args : Array Value} {below : List Frame} {meth : Method} {c : Code} {D : va_G} {τ : ClassId × ClassId × ClassId} {B : Nat} {A : Nat → Prop} {ad : Nat → Nat} (E : Cx p R s m args meth c prog_15_method_13_code 4 "DrawingMachineModel$DrawCommandsModel" 1 D τ B A) (hret : meth.sig.returnType = (some .int)) (o : Sg × Int32) (σ : Sg) (v1 : Int32) (v2 : Int32) (s1 : Int32) (h : F_Cmd_word_18 σ v1 v2 s1 = some o) {H : Heap} {locs : List Loc} {ls : Array Slot} (w : Wd s D A (wdM τ σ ad) H locs) (hl : lv_has ls 4 [(0, .ref (ad 60)), (1, .int v1), (2, .int v2)]) : W p l e R s m args below meth c H locs 0 0 (QI below args s A D τ (wdM τ o.1 ad) o.2) (F0 m 18 ls [.int s1, .ref (ad 60)]) := by
  obtain ⟨o7, h_o7, h⟩ := bd_some h
  refine clV_Cmd_refuse E w (x0 := s1) h_o7 k1847 (by decide) hl.1 (Nat.le_of_ble_eq_true rfl) d_Cmd_word_18 (fun H locs w => ?_)
  refine lv_if_eq (tgt := 26) E.x E.b d_Cmd_word_21 (by decide) (fun c => ?_) (fun c => ?_)
  ·
    replace h := ifT c h
    refine lv_aload_n E.x E.b d_Cmd_word_26 rfl (lv_at hl 0 rfl) ?_
    refine gM_Cmd_memory E w k1444 d_Cmd_word_27 ?_
    refine lv_iload_n E.x E.b d_Cmd_word_30 rfl (lv_at hl 1 rfl) ?_
    obtain ⟨c8, h⟩ := ck_some h
    refine ialM E w (k := 0) (by decide) c8 d_Cmd_word_31 ?_
    obtain ⟨y9, e_y9, h⟩ := lt_some h
    refine wi_e (v := y9) e_y9 ?_
    refine lv_istore_n (lv' := [(3, .int y9), (0, .ref (ad 60)), (1, .int v1), (2, .int v2)]) E.x E.b d_Cmd_word_32 rfl hl (by decide) rfl (fun ls hl => ?_)
    refine lv_aload_n E.x E.b d_Cmd_word_33 rfl (lv_at hl 1 rfl) ?_
    refine gM_Cmd_memory E w k1444 d_Cmd_word_34 ?_
    refine lv_iload_n E.x E.b d_Cmd_word_37 rfl (lv_at hl 2 rfl) ?_
    refine lv_iload_n E.x E.b d_Cmd_word_38 rfl (lv_at hl 3 rfl) ?_
    obtain ⟨c10, h⟩ := ck_some h
    obtain ⟨σ11, e_σ11, h⟩ := lt_some h
    refine iasM E w (k := 0) (by decide) c10 e_σ11 d_Cmd_word_39 (fun H locs w => ?_)
    refine lv_iload_n E.x E.b d_Cmd_word_40 rfl (lv_at hl 0 rfl) ?_
    obtain rfl := Option.some.inj h
    exact rt_i E w hret d_Cmd_word_41
  ·
    replace h := ifF c h
    refine lv_iconst (v := 0) E.x E.b d_Cmd_word_24 (by decide) ?_
    obtain rfl := Option.some.inj h
    exact rt_i E w hret d_Cmd_word_25
def F_Cmd_word (σ : Sg) (x0 : Int32) (x1 : Int32) : Option (Sg × Int32) := bd (F_Cmd_in x0.toInt64 0 4095) (fun o12 => if o12 = 0 then (F_Cmd_word_18 σ x0 x1 1) else (F_Cmd_word_18 σ x0 x1 0))
set_option maxRecDepth 10000 in
set_option maxHeartbeats 4000000 in
theorem c_Cmd_word (l : Launch) (D : va_G) (τ : ClassId × ClassId × ClassId) (B : Nat) (σ : Sg) (ad : Nat → Nat) (x0 : Int32) (x1 : Int32) (o : Sg × Int32) (h : F_Cmd_word σ x0 x1 = some o) : MI l y_Cmd_word (Cond.code y_Cmd_word prog_15_method_13_code 4 (some .int)) 1 D τ B [.ref (ad 60), .int x0, .int x1] (wdM τ σ ad) (wdM τ o.1 ad) o.2 := by
  refine en_i (by decide) (Nat.le_of_ble_eq_true rfl) ?_
  intro p e R s m args below meth c H locs ls A E hret w hl
  have E : Cx p R s m args meth c prog_15_method_13_code 4 "DrawingMachineModel$DrawCommandsModel" 1 D τ B A := E
  have hl : lv_has ls 4 [(0, .ref (ad 60)), (1, .int x0), (2, .int x1)] := hl
  refine lv_aload_n E.x E.b d_Cmd_word_0 rfl (lv_at hl 0 rfl) ?_
  refine lv_iload_n E.x E.b d_Cmd_word_1 rfl (lv_at hl 1 rfl) ?_
  refine lv_i2l (v := x0.toInt64) E.x E.b d_Cmd_word_2 rfl ?_
  refine lv_lconst (v := 0) E.x E.b d_Cmd_word_3 (by decide) ?_
  refine lv_ldc2 (v := 4095) E.x E.b E.o (E.w _ k1871) d_Cmd_word_4 ?_
  obtain ⟨o12, h_o12, h⟩ := bd_some h
  refine clS_Cmd_in E w (x0 := x0.toInt64) (x1 := 0) (x2 := 4095) h_o12 k1844 (by decide) hl.1 (Nat.le_of_ble_eq_true rfl) d_Cmd_word_7 (fun H locs w => ?_)
  refine lv_if_ne (tgt := 17) E.x E.b d_Cmd_word_10 (by decide) (fun c => ?_) (fun c => ?_)
  ·
    replace h := ifF c h
    refine lv_iconst (v := 0) E.x E.b d_Cmd_word_17 (by decide) ?_
    exact bt_Cmd_word_18 E hret o σ x0 x1 0 h w (lv_sub hl [0, 1, 2] rfl)
  ·
    replace h := ifT c h
    refine lv_iconst (v := 1) E.x E.b d_Cmd_word_13 (by decide) ?_
    refine lv_goto (tgt := 18) E.x E.b d_Cmd_word_14 (by decide) ?_
    exact bt_Cmd_word_18 E hret o σ x0 x1 1 h w (lv_sub hl [0, 1, 2] rfl)
theorem clV_Cmd_word {p : Program} {l : Launch} {e : Env} {R : Room} {s : State} {m : MethodId} {args : Array Value} {below : List Frame} {meth : Method} {c : Code} {H : Heap} {locs : List Loc} {Q : State → Prop} {cc : ByteArray} {nL pc lev : Nat} {own : String} {D : va_G} {τ : ClassId × ClassId × ClassId} {B : Nat} {A : Nat → Prop} {σ : Sg} {ad : Nat → Nat} {ls : Array Slot} {rest : List Value} (E : Cx p R s m args meth c cc nL own lev D τ B A) (w : Wd s D A (wdM τ σ ad) H locs) {x0 : Int32} {x1 : Int32} {o : Sg × Int32} (h : F_Cmd_word σ x0 x1 = some o) {index : Nat} (hlk : Cond.methodLink own index y_Cmd_word ∈ tw) (hlev : 1 < lev) (hsz : ls.size = nL) (hr : (rest.map fun v => v.category).sum ≤ 8) (hd : decode cc pc = .ok (.invokevirtual index, 3)) (kk : ∀ (H1 : Heap) (locs1 : List Loc), Wd s D A (wdM τ o.1 ad) H1 locs1 → W p l e R s m args below meth c H1 locs1 0 0 Q (F0 m (pc + 3) ls (.int o.2 :: rest))) : W p l e R s m args below meth c H locs 0 0 Q (F0 m pc ls (.int x1 :: .int x0 :: .ref (ad 60) :: rest)) :=
  cr_i w E.C (va_runV (As := [.int x0, .int x1]) (rest := rest) E.fix (c_Cmd_word l D τ B σ ad x0 x1 o h H.size) (cwV 2 E.w (tw_pre (tw_good k1870) (l := [_, _, _, _]) (List.forall_mem_cons.mpr ⟨hlk, List.forall_mem_cons.mpr ⟨k1868, List.forall_mem_cons.mpr ⟨k1869, List.forall_mem_cons.mpr ⟨k15, fun _ h => absurd h List.not_mem_nil⟩⟩⟩⟩)) rfl rfl rfl (by decide +kernel) (E.rm hlev (by decide))) (wd_preV w E.C [.int x0, .int x1] rcM_Cmd rfl) rfl rfl hsz rfl (lv_room hr) hd ⟨Nat.zero_le _, Nat.zero_le _⟩) kk

theorem d_Mod_word_0 : decode prog_14_method_6_code 0 = .ok (.aload_n 0, 1) := by decide +kernel
theorem d_Mod_word_1 : decode prog_14_method_6_code 1 = .ok (.iload_n 1, 1) := by decide +kernel
theorem d_Mod_word_2 : decode prog_14_method_6_code 2 = .ok (.i2l, 1) := by decide +kernel
theorem d_Mod_word_3 : decode prog_14_method_6_code 3 = .ok (.lconst 0, 1) := by decide +kernel
theorem d_Mod_word_4 : decode prog_14_method_6_code 4 = .ok (.ldc2_w 105, 3) := by decide +kernel
theorem d_Mod_word_7 : decode prog_14_method_6_code 7 = .ok (.invokestatic 90, 3) := by decide +kernel
theorem d_Mod_word_10 : decode prog_14_method_6_code 10 = .ok (.ifCond .ne 7, 3) := by decide +kernel
theorem d_Mod_word_13 : decode prog_14_method_6_code 13 = .ok (.iconst 1, 1) := by decide +kernel
theorem d_Mod_word_14 : decode prog_14_method_6_code 14 = .ok (.goto 4, 3) := by decide +kernel
theorem d_Mod_word_17 : decode prog_14_method_6_code 17 = .ok (.iconst 0, 1) := by decide +kernel
theorem d_Mod_word_18 : decode prog_14_method_6_code 18 = .ok (.iconst 0, 1) := by decide +kernel
theorem d_Mod_word_19 : decode prog_14_method_6_code 19 = .ok (.invokevirtual 94, 3) := by decide +kernel
theorem d_Mod_word_22 : decode prog_14_method_6_code 22 = .ok (.ifCond .eq 5, 3) := by decide +kernel
theorem d_Mod_word_25 : decode prog_14_method_6_code 25 = .ok (.iconst 0, 1) := by decide +kernel
theorem d_Mod_word_26 : decode prog_14_method_6_code 26 = .ok (.ireturn, 1) := by decide +kernel
theorem d_Mod_word_27 : decode prog_14_method_6_code 27 = .ok (.aload_n 0, 1) := by decide +kernel
theorem d_Mod_word_28 : decode prog_14_method_6_code 28 = .ok (.getfield 19, 3) := by decide +kernel
theorem d_Mod_word_31 : decode prog_14_method_6_code 31 = .ok (.iload_n 1, 1) := by decide +kernel
theorem d_Mod_word_32 : decode prog_14_method_6_code 32 = .ok (.iload_n 2, 1) := by decide +kernel
theorem d_Mod_word_33 : decode prog_14_method_6_code 33 = .ok (.invokevirtual 107, 3) := by decide +kernel
theorem d_Mod_word_36 : decode prog_14_method_6_code 36 = .ok (.ireturn, 1) := by decide +kernel
def F_Mod_word_18 (σ : Sg) (v1 : Int32) (v2 : Int32) (s1 : Int32) : Option (Sg × Int32) := bd (F_Mod_refuse σ s1 0) (fun o4 => if o4.2 = 0 then (bd (F_Cmd_word o4.1 v1 v2) (fun o5 => some (o5.1, o5.2))) else (some (o4.1, 0)))
set_option maxRecDepth 10000 in
set_option maxHeartbeats 4000000 in
theorem bt_Mod_word_18 {p : Program} {l : Launch} {e : Env} {R : Room} {s : State} {m : MethodId} {args : Array Value} {below : List Frame} {meth : Method} {c : Code} {D : va_G} {τ : ClassId × ClassId × ClassId} {B : Nat} {A : Nat → Prop} {ad : Nat → Nat} (E : Cx p R s m args meth c prog_14_method_6_code 3 "DrawingMachineModel" 2 D τ B A) (hret : meth.sig.returnType = (some .int)) (o : Sg × Int32) (σ : Sg) (v1 : Int32) (v2 : Int32) (s1 : Int32) (h : F_Mod_word_18 σ v1 v2 s1 = some o) {H : Heap} {locs : List Loc} {ls : Array Slot} (w : Wd s D A (wdM τ σ ad) H locs) (hl : lv_has ls 3 [(0, .ref (ad 59)), (1, .int v1), (2, .int v2)]) : W p l e R s m args below meth c H locs 0 0 (QI below args s A D τ (wdM τ o.1 ad) o.2) (F0 m 18 ls [.int s1, .ref (ad 59)]) := by
  refine lv_iconst (v := 0) E.x E.b d_Mod_word_18 (by decide) ?_
  obtain ⟨o4, h_o4, h⟩ := bd_some h
  refine clV_Mod_refuse E w (x0 := s1) (x1 := 0) h_o4 k1835 (by decide) hl.1 (Nat.le_of_ble_eq_true rfl) d_Mod_word_19 (fun H locs w => ?_)
  refine lv_if_eq (tgt := 27) E.x E.b d_Mod_word_22 (by decide) (fun c => ?_) (fun c => ?_)
  ·
    replace h := ifT c h
    refine lv_aload_n E.x E.b d_Mod_word_27 rfl (lv_at hl 0 rfl) ?_
    refine gM_Mod_commands E w k1768 d_Mod_word_28 ?_
    refine lv_iload_n E.x E.b d_Mod_word_31 rfl (lv_at hl 1 rfl) ?_
    refine lv_iload_n E.x E.b d_Mod_word_32 rfl (lv_at hl 2 rfl) ?_
    obtain ⟨o5, h_o5, h⟩ := bd_some h
    refine clV_Cmd_word E w (x0 := v1) (x1 := v2) h_o5 k1867 (by decide) hl.1 (Nat.le_of_ble_eq_true rfl) d_Mod_word_33 (fun H locs w => ?_)
    obtain rfl := Option.some.inj h
    exact rt_i E w hret d_Mod_word_36
  ·
    replace h := ifF c h
    refine lv_iconst (v := 0) E.x E.b d_Mod_word_25 (by decide) ?_
    obtain rfl := Option.some.inj h
    exact rt_i E w hret d_Mod_word_26
def F_Mod_word (σ : Sg) (x0 : Int32) (x1 : Int32) : Option (Sg × Int32) := bd (F_Mod_in x0.toInt64 0 4095) (fun o6 => if o6 = 0 then (F_Mod_word_18 σ x0 x1 1) else (F_Mod_word_18 σ x0 x1 0))
set_option maxRecDepth 10000 in
set_option maxHeartbeats 4000000 in
theorem c_Mod_word (l : Launch) (D : va_G) (τ : ClassId × ClassId × ClassId) (B : Nat) (σ : Sg) (ad : Nat → Nat) (x0 : Int32) (x1 : Int32) (o : Sg × Int32) (h : F_Mod_word σ x0 x1 = some o) : MI l y_Mod_word (Cond.code y_Mod_word prog_14_method_6_code 3 (some .int)) 2 D τ B [.ref (ad 59), .int x0, .int x1] (wdM τ σ ad) (wdM τ o.1 ad) o.2 := by
  refine en_i (by decide) (Nat.le_of_ble_eq_true rfl) ?_
  intro p e R s m args below meth c H locs ls A E hret w hl
  have E : Cx p R s m args meth c prog_14_method_6_code 3 "DrawingMachineModel" 2 D τ B A := E
  have hl : lv_has ls 3 [(0, .ref (ad 59)), (1, .int x0), (2, .int x1)] := hl
  refine lv_aload_n E.x E.b d_Mod_word_0 rfl (lv_at hl 0 rfl) ?_
  refine lv_iload_n E.x E.b d_Mod_word_1 rfl (lv_at hl 1 rfl) ?_
  refine lv_i2l (v := x0.toInt64) E.x E.b d_Mod_word_2 rfl ?_
  refine lv_lconst (v := 0) E.x E.b d_Mod_word_3 (by decide) ?_
  refine lv_ldc2 (v := 4095) E.x E.b E.o (E.w _ k1866) d_Mod_word_4 ?_
  obtain ⟨o6, h_o6, h⟩ := bd_some h
  refine clS_Mod_in E w (x0 := x0.toInt64) (x1 := 0) (x2 := 4095) h_o6 k1832 (by decide) hl.1 (Nat.le_of_ble_eq_true rfl) d_Mod_word_7 (fun H locs w => ?_)
  refine lv_if_ne (tgt := 17) E.x E.b d_Mod_word_10 (by decide) (fun c => ?_) (fun c => ?_)
  ·
    replace h := ifF c h
    refine lv_iconst (v := 0) E.x E.b d_Mod_word_17 (by decide) ?_
    exact bt_Mod_word_18 E hret o σ x0 x1 0 h w (lv_sub hl [0, 1, 2] rfl)
  ·
    replace h := ifT c h
    refine lv_iconst (v := 1) E.x E.b d_Mod_word_13 (by decide) ?_
    refine lv_goto (tgt := 18) E.x E.b d_Mod_word_14 (by decide) ?_
    exact bt_Mod_word_18 E hret o σ x0 x1 1 h w (lv_sub hl [0, 1, 2] rfl)

theorem d_Mod_look_0 : decode prog_14_method_7_code 0 = .ok (.aload_n 0, 1) := by decide +kernel
theorem d_Mod_look_1 : decode prog_14_method_7_code 1 = .ok (.iload_n 1, 1) := by decide +kernel
theorem d_Mod_look_2 : decode prog_14_method_7_code 2 = .ok (.i2l, 1) := by decide +kernel
theorem d_Mod_look_3 : decode prog_14_method_7_code 3 = .ok (.lconst 0, 1) := by decide +kernel
theorem d_Mod_look_4 : decode prog_14_method_7_code 4 = .ok (.ldc2_w 105, 3) := by decide +kernel
theorem d_Mod_look_7 : decode prog_14_method_7_code 7 = .ok (.invokestatic 90, 3) := by decide +kernel
theorem d_Mod_look_10 : decode prog_14_method_7_code 10 = .ok (.ifCond .ne 7, 3) := by decide +kernel
theorem d_Mod_look_13 : decode prog_14_method_7_code 13 = .ok (.iconst 1, 1) := by decide +kernel
theorem d_Mod_look_14 : decode prog_14_method_7_code 14 = .ok (.goto 4, 3) := by decide +kernel
theorem d_Mod_look_17 : decode prog_14_method_7_code 17 = .ok (.iconst 0, 1) := by decide +kernel
theorem d_Mod_look_18 : decode prog_14_method_7_code 18 = .ok (.iconst 0, 1) := by decide +kernel
theorem d_Mod_look_19 : decode prog_14_method_7_code 19 = .ok (.invokevirtual 94, 3) := by decide +kernel
theorem d_Mod_look_22 : decode prog_14_method_7_code 22 = .ok (.ifCond .eq 5, 3) := by decide +kernel
theorem d_Mod_look_25 : decode prog_14_method_7_code 25 = .ok (.iconst 0, 1) := by decide +kernel
theorem d_Mod_look_26 : decode prog_14_method_7_code 26 = .ok (.ireturn, 1) := by decide +kernel
theorem d_Mod_look_27 : decode prog_14_method_7_code 27 = .ok (.aload_n 0, 1) := by decide +kernel
theorem d_Mod_look_28 : decode prog_14_method_7_code 28 = .ok (.getfield 19, 3) := by decide +kernel
theorem d_Mod_look_31 : decode prog_14_method_7_code 31 = .ok (.getfield 25, 3) := by decide +kernel
theorem d_Mod_look_34 : decode prog_14_method_7_code 34 = .ok (.iload_n 1, 1) := by decide +kernel
theorem d_Mod_look_35 : decode prog_14_method_7_code 35 = .ok (.iaload, 1) := by decide +kernel
theorem d_Mod_look_36 : decode prog_14_method_7_code 36 = .ok (.ireturn, 1) := by decide +kernel
def F_Mod_look_18 (σ : Sg) (v1 : Int32) (s1 : Int32) : Option (Sg × Int32) := bd (F_Mod_refuse σ s1 0) (fun o4 => if o4.2 = 0 then (ck (inb v1 4096) (some (o4.1, o4.1.2.2.1 0 v1.toNatClampNeg))) else (some (o4.1, 0)))
set_option maxRecDepth 10000 in
set_option maxHeartbeats 4000000 in
theorem bt_Mod_look_18 {p : Program} {l : Launch} {e : Env} {R : Room} {s : State} {m : MethodId} {args : Array Value} {below : List Frame} {meth : Method} {c : Code} {D : va_G} {τ : ClassId × ClassId × ClassId} {B : Nat} {A : Nat → Prop} {ad : Nat → Nat} (E : Cx p R s m args meth c prog_14_method_7_code 2 "DrawingMachineModel" 1 D τ B A) (hret : meth.sig.returnType = (some .int)) (o : Sg × Int32) (σ : Sg) (v1 : Int32) (s1 : Int32) (h : F_Mod_look_18 σ v1 s1 = some o) {H : Heap} {locs : List Loc} {ls : Array Slot} (w : Wd s D A (wdM τ σ ad) H locs) (hl : lv_has ls 2 [(0, .ref (ad 59)), (1, .int v1)]) : W p l e R s m args below meth c H locs 0 0 (QI below args s A D τ (wdM τ o.1 ad) o.2) (F0 m 18 ls [.int s1, .ref (ad 59)]) := by
  refine lv_iconst (v := 0) E.x E.b d_Mod_look_18 (by decide) ?_
  obtain ⟨o4, h_o4, h⟩ := bd_some h
  refine clV_Mod_refuse E w (x0 := s1) (x1 := 0) h_o4 k1835 (by decide) hl.1 (Nat.le_of_ble_eq_true rfl) d_Mod_look_19 (fun H locs w => ?_)
  refine lv_if_eq (tgt := 27) E.x E.b d_Mod_look_22 (by decide) (fun c => ?_) (fun c => ?_)
  ·
    replace h := ifT c h
    refine lv_aload_n E.x E.b d_Mod_look_27 rfl (lv_at hl 0 rfl) ?_
    refine gM_Mod_commands E w k1768 d_Mod_look_28 ?_
    refine gNM_Cmd_memory E w n1445 d_Mod_look_31 ?_
    refine lv_iload_n E.x E.b d_Mod_look_34 rfl (lv_at hl 1 rfl) ?_
    obtain ⟨c5, h⟩ := ck_some h
    refine ialM E w (k := 0) (by decide) c5 d_Mod_look_35 ?_
    obtain rfl := Option.some.inj h
    exact rt_i E w hret d_Mod_look_36
  ·
    replace h := ifF c h
    refine lv_iconst (v := 0) E.x E.b d_Mod_look_25 (by decide) ?_
    obtain rfl := Option.some.inj h
    exact rt_i E w hret d_Mod_look_26
def F_Mod_look (σ : Sg) (x0 : Int32) : Option (Sg × Int32) := bd (F_Mod_in x0.toInt64 0 4095) (fun o6 => if o6 = 0 then (F_Mod_look_18 σ x0 1) else (F_Mod_look_18 σ x0 0))
set_option maxRecDepth 10000 in
set_option maxHeartbeats 4000000 in
theorem c_Mod_look (l : Launch) (D : va_G) (τ : ClassId × ClassId × ClassId) (B : Nat) (σ : Sg) (ad : Nat → Nat) (x0 : Int32) (o : Sg × Int32) (h : F_Mod_look σ x0 = some o) : MI l y_Mod_look (Cond.code y_Mod_look prog_14_method_7_code 2 (some .int)) 1 D τ B [.ref (ad 59), .int x0] (wdM τ σ ad) (wdM τ o.1 ad) o.2 := by
  refine en_i (by decide) (Nat.le_of_ble_eq_true rfl) ?_
  intro p e R s m args below meth c H locs ls A E hret w hl
  have E : Cx p R s m args meth c prog_14_method_7_code 2 "DrawingMachineModel" 1 D τ B A := E
  have hl : lv_has ls 2 [(0, .ref (ad 59)), (1, .int x0)] := hl
  refine lv_aload_n E.x E.b d_Mod_look_0 rfl (lv_at hl 0 rfl) ?_
  refine lv_iload_n E.x E.b d_Mod_look_1 rfl (lv_at hl 1 rfl) ?_
  refine lv_i2l (v := x0.toInt64) E.x E.b d_Mod_look_2 rfl ?_
  refine lv_lconst (v := 0) E.x E.b d_Mod_look_3 (by decide) ?_
  refine lv_ldc2 (v := 4095) E.x E.b E.o (E.w _ k1866) d_Mod_look_4 ?_
  obtain ⟨o6, h_o6, h⟩ := bd_some h
  refine clS_Mod_in E w (x0 := x0.toInt64) (x1 := 0) (x2 := 4095) h_o6 k1832 (by decide) hl.1 (Nat.le_of_ble_eq_true rfl) d_Mod_look_7 (fun H locs w => ?_)
  refine lv_if_ne (tgt := 17) E.x E.b d_Mod_look_10 (by decide) (fun c => ?_) (fun c => ?_)
  ·
    replace h := ifF c h
    refine lv_iconst (v := 0) E.x E.b d_Mod_look_17 (by decide) ?_
    exact bt_Mod_look_18 E hret o σ x0 0 h w (lv_sub hl [0, 1] rfl)
  ·
    replace h := ifT c h
    refine lv_iconst (v := 1) E.x E.b d_Mod_look_13 (by decide) ?_
    refine lv_goto (tgt := 18) E.x E.b d_Mod_look_14 (by decide) ?_
    exact bt_Mod_look_18 E hret o σ x0 1 h w (lv_sub hl [0, 1] rfl)

theorem d_Cmd_put_0 : decode prog_15_method_15_code 0 = .ok (.aload_n 0, 1) := by decide +kernel
theorem d_Cmd_put_1 : decode prog_15_method_15_code 1 = .ok (.aload_n 0, 1) := by decide +kernel
theorem d_Cmd_put_2 : decode prog_15_method_15_code 2 = .ok (.getfield 124, 3) := by decide +kernel
theorem d_Cmd_put_5 : decode prog_15_method_15_code 5 = .ok (.sipush 4096, 3) := by decide +kernel
theorem d_Cmd_put_8 : decode prog_15_method_15_code 8 = .ok (.if_icmp .ne 7, 3) := by decide +kernel
theorem d_Cmd_put_11 : decode prog_15_method_15_code 11 = .ok (.iconst 1, 1) := by decide +kernel
theorem d_Cmd_put_12 : decode prog_15_method_15_code 12 = .ok (.goto 4, 3) := by decide +kernel
theorem d_Cmd_put_15 : decode prog_15_method_15_code 15 = .ok (.iconst 0, 1) := by decide +kernel
theorem d_Cmd_put_16 : decode prog_15_method_15_code 16 = .ok (.invokevirtual 120, 3) := by decide +kernel
theorem d_Cmd_put_19 : decode prog_15_method_15_code 19 = .ok (.ifCond .eq 5, 3) := by decide +kernel
theorem d_Cmd_put_22 : decode prog_15_method_15_code 22 = .ok (.iconst 0, 1) := by decide +kernel
theorem d_Cmd_put_23 : decode prog_15_method_15_code 23 = .ok (.ireturn, 1) := by decide +kernel
theorem d_Cmd_put_24 : decode prog_15_method_15_code 24 = .ok (.aload_n 0, 1) := by decide +kernel
theorem d_Cmd_put_25 : decode prog_15_method_15_code 25 = .ok (.getfield 20, 3) := by decide +kernel
theorem d_Cmd_put_28 : decode prog_15_method_15_code 28 = .ok (.aload_n 0, 1) := by decide +kernel
theorem d_Cmd_put_29 : decode prog_15_method_15_code 29 = .ok (.getfield 124, 3) := by decide +kernel
theorem d_Cmd_put_32 : decode prog_15_method_15_code 32 = .ok (.iload_n 1, 1) := by decide +kernel
theorem d_Cmd_put_33 : decode prog_15_method_15_code 33 = .ok (.iastore, 1) := by decide +kernel
theorem d_Cmd_put_34 : decode prog_15_method_15_code 34 = .ok (.aload_n 0, 1) := by decide +kernel
theorem d_Cmd_put_35 : decode prog_15_method_15_code 35 = .ok (.dup, 1) := by decide +kernel
theorem d_Cmd_put_36 : decode prog_15_method_15_code 36 = .ok (.getfield 124, 3) := by decide +kernel
theorem d_Cmd_put_39 : decode prog_15_method_15_code 39 = .ok (.iconst 1, 1) := by decide +kernel
theorem d_Cmd_put_40 : decode prog_15_method_15_code 40 = .ok (.iadd, 1) := by decide +kernel
theorem d_Cmd_put_41 : decode prog_15_method_15_code 41 = .ok (.putfield 124, 3) := by decide +kernel
theorem d_Cmd_put_44 : decode prog_15_method_15_code 44 = .ok (.aload_n 0, 1) := by decide +kernel
theorem d_Cmd_put_45 : decode prog_15_method_15_code 45 = .ok (.getfield 124, 3) := by decide +kernel
theorem d_Cmd_put_48 : decode prog_15_method_15_code 48 = .ok (.ireturn, 1) := by decide +kernel
def F_Cmd_put_16 (σ : Sg) (v1 : Int32) (s1 : Int32) : Option (Sg × Int32) := bd (F_Cmd_refuse σ s1) (fun o5 => if o5.2 = 0 then (ck (inb (o5.1.1 10) 4096) (lt (sA o5.1 1 (upd (o5.1.2.2.1 1) (o5.1.1 10).toNatClampNeg v1)) (fun σ7 => lt (sI σ7 10 ((σ7.1 10) + 1)) (fun σ8 => some (σ8, σ8.1 10))))) else (some (o5.1, 0)))
set_option maxRecDepth 10000 in
set_option maxHeartbeats 4000000 in
theorem bt_Cmd_put_16 {p : Program} {l : Launch} {e : Env} {R : Room} {s : State} {m : MethodId} {args : Array Value} {below : List Frame} {meth : Method} {c : Code} {D : va_G} {τ : ClassId × ClassId × ClassId} {B : Nat} {A : Nat → Prop} {ad : Nat → Nat} (E : Cx p R s m args meth c prog_15_method_15_code 2 "DrawingMachineModel$DrawCommandsModel" 1 D τ B A) (hret : meth.sig.returnType = (some .int)) (o : Sg × Int32) (σ : Sg) (v1 : Int32) (s1 : Int32) (h : F_Cmd_put_16 σ v1 s1 = some o) {H : Heap} {locs : List Loc} {ls : Array Slot} (w : Wd s D A (wdM τ σ ad) H locs) (hl : lv_has ls 2 [(0, .ref (ad 60)), (1, .int v1)]) : W p l e R s m args below meth c H locs 0 0 (QI below args s A D τ (wdM τ o.1 ad) o.2) (F0 m 16 ls [.int s1, .ref (ad 60)]) := by
  obtain ⟨o5, h_o5, h⟩ := bd_some h
  refine clV_Cmd_refuse E w (x0 := s1) h_o5 k1847 (by decide) hl.1 (Nat.le_of_ble_eq_true rfl) d_Cmd_put_16 (fun H locs w => ?_)
  refine lv_if_eq (tgt := 24) E.x E.b d_Cmd_put_19 (by decide) (fun c => ?_) (fun c => ?_)
  ·
    replace h := ifT c h
    refine lv_aload_n E.x E.b d_Cmd_put_24 rfl (lv_at hl 0 rfl) ?_
    refine gM_Cmd_stream E w k1448 d_Cmd_put_25 ?_
    refine lv_aload_n E.x E.b d_Cmd_put_28 rfl (lv_at hl 0 rfl) ?_
    refine gM_Cmd_size E w k1450 d_Cmd_put_29 ?_
    refine lv_iload_n E.x E.b d_Cmd_put_32 rfl (lv_at hl 1 rfl) ?_
    obtain ⟨c6, h⟩ := ck_some h
    obtain ⟨σ7, e_σ7, h⟩ := lt_some h
    refine iasM E w (k := 1) (by decide) c6 e_σ7 d_Cmd_put_33 (fun H locs w => ?_)
    refine lv_aload_n E.x E.b d_Cmd_put_34 rfl (lv_at hl 0 rfl) ?_
    refine lv_dup E.x E.b d_Cmd_put_35 rfl ?_
    refine gM_Cmd_size E w k1450 d_Cmd_put_36 ?_
    refine lv_iconst (v := 1) E.x E.b d_Cmd_put_39 (by decide) ?_
    refine lv_iadd E.x E.b d_Cmd_put_40 ?_
    obtain ⟨σ8, e_σ8, h⟩ := lt_some h
    refine pM_Cmd_size E w k1450 e_σ8 d_Cmd_put_41 (fun H locs w => ?_)
    refine lv_aload_n E.x E.b d_Cmd_put_44 rfl (lv_at hl 0 rfl) ?_
    refine gM_Cmd_size E w k1450 d_Cmd_put_45 ?_
    obtain rfl := Option.some.inj h
    exact rt_i E w hret d_Cmd_put_48
  ·
    replace h := ifF c h
    refine lv_iconst (v := 0) E.x E.b d_Cmd_put_22 (by decide) ?_
    obtain rfl := Option.some.inj h
    exact rt_i E w hret d_Cmd_put_23
def F_Cmd_put (σ : Sg) (x0 : Int32) : Option (Sg × Int32) := if (σ.1 10) = 4096 then (F_Cmd_put_16 σ x0 1) else (F_Cmd_put_16 σ x0 0)
set_option maxRecDepth 10000 in
set_option maxHeartbeats 4000000 in
theorem c_Cmd_put (l : Launch) (D : va_G) (τ : ClassId × ClassId × ClassId) (B : Nat) (σ : Sg) (ad : Nat → Nat) (x0 : Int32) (o : Sg × Int32) (h : F_Cmd_put σ x0 = some o) : MI l y_Cmd_put (Cond.code y_Cmd_put prog_15_method_15_code 2 (some .int)) 1 D τ B [.ref (ad 60), .int x0] (wdM τ σ ad) (wdM τ o.1 ad) o.2 := by
  refine en_i (by decide) (Nat.le_of_ble_eq_true rfl) ?_
  intro p e R s m args below meth c H locs ls A E hret w hl
  have E : Cx p R s m args meth c prog_15_method_15_code 2 "DrawingMachineModel$DrawCommandsModel" 1 D τ B A := E
  have hl : lv_has ls 2 [(0, .ref (ad 60)), (1, .int x0)] := hl
  refine lv_aload_n E.x E.b d_Cmd_put_0 rfl (lv_at hl 0 rfl) ?_
  refine lv_aload_n E.x E.b d_Cmd_put_1 rfl (lv_at hl 0 rfl) ?_
  refine gM_Cmd_size E w k1450 d_Cmd_put_2 ?_
  refine lv_sipush (v := 4096) E.x E.b d_Cmd_put_5 (by decide) ?_
  refine lv_icmp_ne (tgt := 15) E.x E.b d_Cmd_put_8 (by decide) (fun c => ?_) (fun c => ?_)
  ·
    replace h := ifF c h
    refine lv_iconst (v := 0) E.x E.b d_Cmd_put_15 (by decide) ?_
    exact bt_Cmd_put_16 E hret o σ x0 0 h w (lv_sub hl [0, 1] rfl)
  ·
    replace h := ifT c h
    refine lv_iconst (v := 1) E.x E.b d_Cmd_put_11 (by decide) ?_
    refine lv_goto (tgt := 16) E.x E.b d_Cmd_put_12 (by decide) ?_
    exact bt_Cmd_put_16 E hret o σ x0 1 h w (lv_sub hl [0, 1] rfl)
theorem clV_Cmd_put {p : Program} {l : Launch} {e : Env} {R : Room} {s : State} {m : MethodId} {args : Array Value} {below : List Frame} {meth : Method} {c : Code} {H : Heap} {locs : List Loc} {Q : State → Prop} {cc : ByteArray} {nL pc lev : Nat} {own : String} {D : va_G} {τ : ClassId × ClassId × ClassId} {B : Nat} {A : Nat → Prop} {σ : Sg} {ad : Nat → Nat} {ls : Array Slot} {rest : List Value} (E : Cx p R s m args meth c cc nL own lev D τ B A) (w : Wd s D A (wdM τ σ ad) H locs) {x0 : Int32} {o : Sg × Int32} (h : F_Cmd_put σ x0 = some o) {index : Nat} (hlk : Cond.methodLink own index y_Cmd_put ∈ tw) (hlev : 1 < lev) (hsz : ls.size = nL) (hr : (rest.map fun v => v.category).sum ≤ 8) (hd : decode cc pc = .ok (.invokevirtual index, 3)) (kk : ∀ (H1 : Heap) (locs1 : List Loc), Wd s D A (wdM τ o.1 ad) H1 locs1 → W p l e R s m args below meth c H1 locs1 0 0 Q (F0 m (pc + 3) ls (.int o.2 :: rest))) : W p l e R s m args below meth c H locs 0 0 Q (F0 m pc ls (.int x0 :: .ref (ad 60) :: rest)) :=
  cr_i w E.C (va_runV (As := [.int x0]) (rest := rest) E.fix (c_Cmd_put l D τ B σ ad x0 o h H.size) (cwV 1 E.w (tw_pre (tw_good k1883) (l := [_, _, _, _]) (List.forall_mem_cons.mpr ⟨hlk, List.forall_mem_cons.mpr ⟨k1881, List.forall_mem_cons.mpr ⟨k1882, List.forall_mem_cons.mpr ⟨k15, fun _ h => absurd h List.not_mem_nil⟩⟩⟩⟩)) rfl rfl rfl (by decide +kernel) (E.rm hlev (by decide))) (wd_preV w E.C [.int x0] rcM_Cmd rfl) rfl rfl hsz rfl (lv_room hr) hd ⟨Nat.zero_le _, Nat.zero_le _⟩) kk

theorem d_Mod_feed_0 : decode prog_14_method_8_code 0 = .ok (.aload_n 0, 1) := by decide +kernel
theorem d_Mod_feed_1 : decode prog_14_method_8_code 1 = .ok (.aload_n 0, 1) := by decide +kernel
theorem d_Mod_feed_2 : decode prog_14_method_8_code 2 = .ok (.getfield 19, 3) := by decide +kernel
theorem d_Mod_feed_5 : decode prog_14_method_8_code 5 = .ok (.getfield 111, 3) := by decide +kernel
theorem d_Mod_feed_8 : decode prog_14_method_8_code 8 = .ok (.sipush 4091, 3) := by decide +kernel
theorem d_Mod_feed_11 : decode prog_14_method_8_code 11 = .ok (.if_icmp .le 7, 3) := by decide +kernel
theorem d_Mod_feed_14 : decode prog_14_method_8_code 14 = .ok (.iconst 1, 1) := by decide +kernel
theorem d_Mod_feed_15 : decode prog_14_method_8_code 15 = .ok (.goto 4, 3) := by decide +kernel
theorem d_Mod_feed_18 : decode prog_14_method_8_code 18 = .ok (.iconst 0, 1) := by decide +kernel
theorem d_Mod_feed_19 : decode prog_14_method_8_code 19 = .ok (.iconst 0, 1) := by decide +kernel
theorem d_Mod_feed_20 : decode prog_14_method_8_code 20 = .ok (.invokevirtual 94, 3) := by decide +kernel
theorem d_Mod_feed_23 : decode prog_14_method_8_code 23 = .ok (.ifCond .eq 5, 3) := by decide +kernel
theorem d_Mod_feed_26 : decode prog_14_method_8_code 26 = .ok (.iconst 0, 1) := by decide +kernel
theorem d_Mod_feed_27 : decode prog_14_method_8_code 27 = .ok (.ireturn, 1) := by decide +kernel
theorem d_Mod_feed_28 : decode prog_14_method_8_code 28 = .ok (.aload_n 0, 1) := by decide +kernel
theorem d_Mod_feed_29 : decode prog_14_method_8_code 29 = .ok (.getfield 19, 3) := by decide +kernel
theorem d_Mod_feed_32 : decode prog_14_method_8_code 32 = .ok (.iload_n 1, 1) := by decide +kernel
theorem d_Mod_feed_33 : decode prog_14_method_8_code 33 = .ok (.invokevirtual 114, 3) := by decide +kernel
theorem d_Mod_feed_36 : decode prog_14_method_8_code 36 = .ok (.pop, 1) := by decide +kernel
theorem d_Mod_feed_37 : decode prog_14_method_8_code 37 = .ok (.aload_n 0, 1) := by decide +kernel
theorem d_Mod_feed_38 : decode prog_14_method_8_code 38 = .ok (.getfield 19, 3) := by decide +kernel
theorem d_Mod_feed_41 : decode prog_14_method_8_code 41 = .ok (.iload_n 2, 1) := by decide +kernel
theorem d_Mod_feed_42 : decode prog_14_method_8_code 42 = .ok (.invokevirtual 114, 3) := by decide +kernel
theorem d_Mod_feed_45 : decode prog_14_method_8_code 45 = .ok (.pop, 1) := by decide +kernel
theorem d_Mod_feed_46 : decode prog_14_method_8_code 46 = .ok (.aload_n 0, 1) := by decide +kernel
theorem d_Mod_feed_47 : decode prog_14_method_8_code 47 = .ok (.getfield 19, 3) := by decide +kernel
theorem d_Mod_feed_50 : decode prog_14_method_8_code 50 = .ok (.iload_n 3, 1) := by decide +kernel
theorem d_Mod_feed_51 : decode prog_14_method_8_code 51 = .ok (.invokevirtual 114, 3) := by decide +kernel
theorem d_Mod_feed_54 : decode prog_14_method_8_code 54 = .ok (.pop, 1) := by decide +kernel
theorem d_Mod_feed_55 : decode prog_14_method_8_code 55 = .ok (.aload_n 0, 1) := by decide +kernel
theorem d_Mod_feed_56 : decode prog_14_method_8_code 56 = .ok (.getfield 19, 3) := by decide +kernel
theorem d_Mod_feed_59 : decode prog_14_method_8_code 59 = .ok (.iload 4, 2) := by decide +kernel
theorem d_Mod_feed_61 : decode prog_14_method_8_code 61 = .ok (.invokevirtual 114, 3) := by decide +kernel
theorem d_Mod_feed_64 : decode prog_14_method_8_code 64 = .ok (.pop, 1) := by decide +kernel
theorem d_Mod_feed_65 : decode prog_14_method_8_code 65 = .ok (.aload_n 0, 1) := by decide +kernel
theorem d_Mod_feed_66 : decode prog_14_method_8_code 66 = .ok (.getfield 19, 3) := by decide +kernel
theorem d_Mod_feed_69 : decode prog_14_method_8_code 69 = .ok (.iload 5, 2) := by decide +kernel
theorem d_Mod_feed_71 : decode prog_14_method_8_code 71 = .ok (.invokevirtual 114, 3) := by decide +kernel
theorem d_Mod_feed_74 : decode prog_14_method_8_code 74 = .ok (.ireturn, 1) := by decide +kernel
def F_Mod_feed_19 (σ : Sg) (v1 : Int32) (v2 : Int32) (v3 : Int32) (v4 : Int32) (v5 : Int32) (s1 : Int32) : Option (Sg × Int32) := bd (F_Mod_refuse σ s1 0) (fun o7 => if o7.2 = 0 then (bd (F_Cmd_put o7.1 v1) (fun o8 => bd (F_Cmd_put o8.1 v2) (fun o9 => bd (F_Cmd_put o9.1 v3) (fun o10 => bd (F_Cmd_put o10.1 v4) (fun o11 => bd (F_Cmd_put o11.1 v5) (fun o12 => some (o12.1, o12.2))))))) else (some (o7.1, 0)))
set_option maxRecDepth 10000 in
set_option maxHeartbeats 4000000 in
theorem bt_Mod_feed_19 {p : Program} {l : Launch} {e : Env} {R : Room} {s : State} {m : MethodId} {args : Array Value} {below : List Frame} {meth : Method} {c : Code} {D : va_G} {τ : ClassId × ClassId × ClassId} {B : Nat} {A : Nat → Prop} {ad : Nat → Nat} (E : Cx p R s m args meth c prog_14_method_8_code 6 "DrawingMachineModel" 2 D τ B A) (hret : meth.sig.returnType = (some .int)) (o : Sg × Int32) (σ : Sg) (v1 : Int32) (v2 : Int32) (v3 : Int32) (v4 : Int32) (v5 : Int32) (s1 : Int32) (h : F_Mod_feed_19 σ v1 v2 v3 v4 v5 s1 = some o) {H : Heap} {locs : List Loc} {ls : Array Slot} (w : Wd s D A (wdM τ σ ad) H locs) (hl : lv_has ls 6 [(0, .ref (ad 59)), (1, .int v1), (2, .int v2), (3, .int v3), (4, .int v4), (5, .int v5)]) : W p l e R s m args below meth c H locs 0 0 (QI below args s A D τ (wdM τ o.1 ad) o.2) (F0 m 19 ls [.int s1, .ref (ad 59)]) := by
  refine lv_iconst (v := 0) E.x E.b d_Mod_feed_19 (by decide) ?_
  obtain ⟨o7, h_o7, h⟩ := bd_some h
  refine clV_Mod_refuse E w (x0 := s1) (x1 := 0) h_o7 k1835 (by decide) hl.1 (Nat.le_of_ble_eq_true rfl) d_Mod_feed_20 (fun H locs w => ?_)
  refine lv_if_eq (tgt := 28) E.x E.b d_Mod_feed_23 (by decide) (fun c => ?_) (fun c => ?_)
  ·
    replace h := ifT c h
    refine lv_aload_n E.x E.b d_Mod_feed_28 rfl (lv_at hl 0 rfl) ?_
    refine gM_Mod_commands E w k1768 d_Mod_feed_29 ?_
    refine lv_iload_n E.x E.b d_Mod_feed_32 rfl (lv_at hl 1 rfl) ?_
    obtain ⟨o8, h_o8, h⟩ := bd_some h
    refine clV_Cmd_put E w (x0 := v1) h_o8 k1880 (by decide) hl.1 (Nat.le_of_ble_eq_true rfl) d_Mod_feed_33 (fun H locs w => ?_)
    refine lv_pop E.x E.b d_Mod_feed_36 rfl ?_
    refine lv_aload_n E.x E.b d_Mod_feed_37 rfl (lv_at hl 0 rfl) ?_
    refine gM_Mod_commands E w k1768 d_Mod_feed_38 ?_
    refine lv_iload_n E.x E.b d_Mod_feed_41 rfl (lv_at hl 2 rfl) ?_
    obtain ⟨o9, h_o9, h⟩ := bd_some h
    refine clV_Cmd_put E w (x0 := v2) h_o9 k1880 (by decide) hl.1 (Nat.le_of_ble_eq_true rfl) d_Mod_feed_42 (fun H locs w => ?_)
    refine lv_pop E.x E.b d_Mod_feed_45 rfl ?_
    refine lv_aload_n E.x E.b d_Mod_feed_46 rfl (lv_at hl 0 rfl) ?_
    refine gM_Mod_commands E w k1768 d_Mod_feed_47 ?_
    refine lv_iload_n E.x E.b d_Mod_feed_50 rfl (lv_at hl 3 rfl) ?_
    obtain ⟨o10, h_o10, h⟩ := bd_some h
    refine clV_Cmd_put E w (x0 := v3) h_o10 k1880 (by decide) hl.1 (Nat.le_of_ble_eq_true rfl) d_Mod_feed_51 (fun H locs w => ?_)
    refine lv_pop E.x E.b d_Mod_feed_54 rfl ?_
    refine lv_aload_n E.x E.b d_Mod_feed_55 rfl (lv_at hl 0 rfl) ?_
    refine gM_Mod_commands E w k1768 d_Mod_feed_56 ?_
    refine lv_iload E.x E.b d_Mod_feed_59 (lv_at hl 4 rfl) ?_
    obtain ⟨o11, h_o11, h⟩ := bd_some h
    refine clV_Cmd_put E w (x0 := v4) h_o11 k1880 (by decide) hl.1 (Nat.le_of_ble_eq_true rfl) d_Mod_feed_61 (fun H locs w => ?_)
    refine lv_pop E.x E.b d_Mod_feed_64 rfl ?_
    refine lv_aload_n E.x E.b d_Mod_feed_65 rfl (lv_at hl 0 rfl) ?_
    refine gM_Mod_commands E w k1768 d_Mod_feed_66 ?_
    refine lv_iload E.x E.b d_Mod_feed_69 (lv_at hl 5 rfl) ?_
    obtain ⟨o12, h_o12, h⟩ := bd_some h
    refine clV_Cmd_put E w (x0 := v5) h_o12 k1880 (by decide) hl.1 (Nat.le_of_ble_eq_true rfl) d_Mod_feed_71 (fun H locs w => ?_)
    obtain rfl := Option.some.inj h
    exact rt_i E w hret d_Mod_feed_74
  ·
    replace h := ifF c h
    refine lv_iconst (v := 0) E.x E.b d_Mod_feed_26 (by decide) ?_
    obtain rfl := Option.some.inj h
    exact rt_i E w hret d_Mod_feed_27
def F_Mod_feed (σ : Sg) (x0 : Int32) (x1 : Int32) (x2 : Int32) (x3 : Int32) (x4 : Int32) : Option (Sg × Int32) := if (σ.1 10) ≤ 4091 then (F_Mod_feed_19 σ x0 x1 x2 x3 x4 0) else (F_Mod_feed_19 σ x0 x1 x2 x3 x4 1)
set_option maxRecDepth 10000 in
set_option maxHeartbeats 4000000 in
theorem c_Mod_feed (l : Launch) (D : va_G) (τ : ClassId × ClassId × ClassId) (B : Nat) (σ : Sg) (ad : Nat → Nat) (x0 : Int32) (x1 : Int32) (x2 : Int32) (x3 : Int32) (x4 : Int32) (o : Sg × Int32) (h : F_Mod_feed σ x0 x1 x2 x3 x4 = some o) : MI l y_Mod_feed (Cond.code y_Mod_feed prog_14_method_8_code 6 (some .int)) 2 D τ B [.ref (ad 59), .int x0, .int x1, .int x2, .int x3, .int x4] (wdM τ σ ad) (wdM τ o.1 ad) o.2 := by
  refine en_i (by decide) (Nat.le_of_ble_eq_true rfl) ?_
  intro p e R s m args below meth c H locs ls A E hret w hl
  have E : Cx p R s m args meth c prog_14_method_8_code 6 "DrawingMachineModel" 2 D τ B A := E
  have hl : lv_has ls 6 [(0, .ref (ad 59)), (1, .int x0), (2, .int x1), (3, .int x2), (4, .int x3), (5, .int x4)] := hl
  refine lv_aload_n E.x E.b d_Mod_feed_0 rfl (lv_at hl 0 rfl) ?_
  refine lv_aload_n E.x E.b d_Mod_feed_1 rfl (lv_at hl 0 rfl) ?_
  refine gM_Mod_commands E w k1768 d_Mod_feed_2 ?_
  refine gNM_Cmd_size E w n1449 d_Mod_feed_5 ?_
  refine lv_sipush (v := 4091) E.x E.b d_Mod_feed_8 (by decide) ?_
  refine lv_icmp_le (tgt := 18) E.x E.b d_Mod_feed_11 (by decide) (fun c => ?_) (fun c => ?_)
  ·
    replace h := ifT c h
    refine lv_iconst (v := 0) E.x E.b d_Mod_feed_18 (by decide) ?_
    exact bt_Mod_feed_19 E hret o σ x0 x1 x2 x3 x4 0 h w (lv_sub hl [0, 1, 2, 3, 4, 5] rfl)
  ·
    replace h := ifF c h
    refine lv_iconst (v := 1) E.x E.b d_Mod_feed_14 (by decide) ?_
    refine lv_goto (tgt := 19) E.x E.b d_Mod_feed_15 (by decide) ?_
    exact bt_Mod_feed_19 E hret o σ x0 x1 x2 x3 x4 1 h w (lv_sub hl [0, 1, 2, 3, 4, 5] rfl)

theorem d_Cmd_anew_0 : decode prog_15_method_16_code 0 = .ok (.aload_n 0, 1) := by decide +kernel
theorem d_Cmd_anew_1 : decode prog_15_method_16_code 1 = .ok (.iconst 0, 1) := by decide +kernel
theorem d_Cmd_anew_2 : decode prog_15_method_16_code 2 = .ok (.putfield 127, 3) := by decide +kernel
theorem d_Cmd_anew_5 : decode prog_15_method_16_code 5 = .ok (.aload_n 0, 1) := by decide +kernel
theorem d_Cmd_anew_6 : decode prog_15_method_16_code 6 = .ok (.iconst 0, 1) := by decide +kernel
theorem d_Cmd_anew_7 : decode prog_15_method_16_code 7 = .ok (.putfield 130, 3) := by decide +kernel
theorem d_Cmd_anew_10 : decode prog_15_method_16_code 10 = .ok (.aload_n 0, 1) := by decide +kernel
theorem d_Cmd_anew_11 : decode prog_15_method_16_code 11 = .ok (.iconst 0, 1) := by decide +kernel
theorem d_Cmd_anew_12 : decode prog_15_method_16_code 12 = .ok (.putfield 133, 3) := by decide +kernel
theorem d_Cmd_anew_15 : decode prog_15_method_16_code 15 = .ok (.aload_n 0, 1) := by decide +kernel
theorem d_Cmd_anew_16 : decode prog_15_method_16_code 16 = .ok (.iconst 0, 1) := by decide +kernel
theorem d_Cmd_anew_17 : decode prog_15_method_16_code 17 = .ok (.putfield 137, 3) := by decide +kernel
theorem d_Cmd_anew_20 : decode prog_15_method_16_code 20 = .ok (.aload_n 0, 1) := by decide +kernel
theorem d_Cmd_anew_21 : decode prog_15_method_16_code 21 = .ok (.iconst (-1), 1) := by decide +kernel
theorem d_Cmd_anew_22 : decode prog_15_method_16_code 22 = .ok (.putfield 26, 3) := by decide +kernel
theorem d_Cmd_anew_25 : decode prog_15_method_16_code 25 = .ok (.aload_n 0, 1) := by decide +kernel
theorem d_Cmd_anew_26 : decode prog_15_method_16_code 26 = .ok (.iconst (-1), 1) := by decide +kernel
theorem d_Cmd_anew_27 : decode prog_15_method_16_code 27 = .ok (.putfield 29, 3) := by decide +kernel
theorem d_Cmd_anew_30 : decode prog_15_method_16_code 30 = .ok (.aload_n 0, 1) := by decide +kernel
theorem d_Cmd_anew_31 : decode prog_15_method_16_code 31 = .ok (.iconst 0, 1) := by decide +kernel
theorem d_Cmd_anew_32 : decode prog_15_method_16_code 32 = .ok (.putfield 140, 3) := by decide +kernel
theorem d_Cmd_anew_35 : decode prog_15_method_16_code 35 = .ok (.aload_n 0, 1) := by decide +kernel
theorem d_Cmd_anew_36 : decode prog_15_method_16_code 36 = .ok (.iconst (-1), 1) := by decide +kernel
theorem d_Cmd_anew_37 : decode prog_15_method_16_code 37 = .ok (.putfield 32, 3) := by decide +kernel
theorem d_Cmd_anew_40 : decode prog_15_method_16_code 40 = .ok (.aload_n 0, 1) := by decide +kernel
theorem d_Cmd_anew_41 : decode prog_15_method_16_code 41 = .ok (.iconst 0, 1) := by decide +kernel
theorem d_Cmd_anew_42 : decode prog_15_method_16_code 42 = .ok (.putfield 143, 3) := by decide +kernel
theorem d_Cmd_anew_45 : decode prog_15_method_16_code 45 = .ok (.return_, 1) := by decide +kernel
def F_Cmd_anew (σ : Sg) : Option (Sg) := lt (sI σ 11 0) (fun σ10 => lt (sI σ10 12 0) (fun σ11 => lt (sI σ11 13 0) (fun σ12 => lt (sI σ12 14 0) (fun σ13 => lt (sI σ13 15 (-1)) (fun σ14 => lt (sI σ14 16 (-1)) (fun σ15 => lt (sI σ15 17 0) (fun σ16 => lt (sI σ16 18 (-1)) (fun σ17 => lt (sI σ17 19 0) (fun σ18 => some σ18)))))))))
set_option maxRecDepth 10000 in
set_option maxHeartbeats 4000000 in
theorem c_Cmd_anew (l : Launch) (D : va_G) (τ : ClassId × ClassId × ClassId) (B : Nat) (σ : Sg) (ad : Nat → Nat) (o : Sg) (h : F_Cmd_anew σ = some o) : MV l y_Cmd_anew (Cond.code y_Cmd_anew prog_15_method_16_code 1 none) 0 D τ B [.ref (ad 60)] (wdM τ σ ad) (wdM τ o ad) := by
  refine en_v (by decide) (Nat.le_of_ble_eq_true rfl) ?_
  intro p e R s m args below meth c H locs ls A E hret w hl
  have E : Cx p R s m args meth c prog_15_method_16_code 1 "DrawingMachineModel$DrawCommandsModel" 0 D τ B A := E
  have hl : lv_has ls 1 [(0, .ref (ad 60))] := hl
  refine lv_aload_n E.x E.b d_Cmd_anew_0 rfl (lv_at hl 0 rfl) ?_
  refine lv_iconst (v := 0) E.x E.b d_Cmd_anew_1 (by decide) ?_
  obtain ⟨σ10, e_σ10, h⟩ := lt_some h
  refine pM_Cmd_at E w k1451 e_σ10 d_Cmd_anew_2 (fun H locs w => ?_)
  refine lv_aload_n E.x E.b d_Cmd_anew_5 rfl (lv_at hl 0 rfl) ?_
  refine lv_iconst (v := 0) E.x E.b d_Cmd_anew_6 (by decide) ?_
  obtain ⟨σ11, e_σ11, h⟩ := lt_some h
  refine pM_Cmd_depth E w k1452 e_σ11 d_Cmd_anew_7 (fun H locs w => ?_)
  refine lv_aload_n E.x E.b d_Cmd_anew_10 rfl (lv_at hl 0 rfl) ?_
  refine lv_iconst (v := 0) E.x E.b d_Cmd_anew_11 (by decide) ?_
  obtain ⟨σ12, e_σ12, h⟩ := lt_some h
  refine pM_Cmd_over E w k1455 (by decide) e_σ12 d_Cmd_anew_12 (fun H locs w => ?_)
  refine lv_aload_n E.x E.b d_Cmd_anew_15 rfl (lv_at hl 0 rfl) ?_
  refine lv_iconst (v := 0) E.x E.b d_Cmd_anew_16 (by decide) ?_
  obtain ⟨σ13, e_σ13, h⟩ := lt_some h
  refine pM_Cmd_refusal E w k1457 e_σ13 d_Cmd_anew_17 (fun H locs w => ?_)
  refine lv_aload_n E.x E.b d_Cmd_anew_20 rfl (lv_at hl 0 rfl) ?_
  refine lv_iconst (v := (-1)) E.x E.b d_Cmd_anew_21 (by decide) ?_
  obtain ⟨σ14, e_σ14, h⟩ := lt_some h
  refine pM_Cmd_place E w k1458 e_σ14 d_Cmd_anew_22 (fun H locs w => ?_)
  refine lv_aload_n E.x E.b d_Cmd_anew_25 rfl (lv_at hl 0 rfl) ?_
  refine lv_iconst (v := (-1)) E.x E.b d_Cmd_anew_26 (by decide) ?_
  obtain ⟨σ15, e_σ15, h⟩ := lt_some h
  refine pM_Cmd_deep E w k1459 e_σ15 d_Cmd_anew_27 (fun H locs w => ?_)
  refine lv_aload_n E.x E.b d_Cmd_anew_30 rfl (lv_at hl 0 rfl) ?_
  refine lv_iconst (v := 0) E.x E.b d_Cmd_anew_31 (by decide) ?_
  obtain ⟨σ16, e_σ16, h⟩ := lt_some h
  refine pM_Cmd_done E w k1461 e_σ16 d_Cmd_anew_32 (fun H locs w => ?_)
  refine lv_aload_n E.x E.b d_Cmd_anew_35 rfl (lv_at hl 0 rfl) ?_
  refine lv_iconst (v := (-1)) E.x E.b d_Cmd_anew_36 (by decide) ?_
  obtain ⟨σ17, e_σ17, h⟩ := lt_some h
  refine pM_Cmd_query E w k1462 e_σ17 d_Cmd_anew_37 (fun H locs w => ?_)
  refine lv_aload_n E.x E.b d_Cmd_anew_40 rfl (lv_at hl 0 rfl) ?_
  refine lv_iconst (v := 0) E.x E.b d_Cmd_anew_41 (by decide) ?_
  obtain ⟨σ18, e_σ18, h⟩ := lt_some h
  refine pM_Cmd_arguments E w k1465 e_σ18 d_Cmd_anew_42 (fun H locs w => ?_)
  obtain rfl := Option.some.inj h
  exact rt_v E w hret d_Cmd_anew_45
theorem clV_Cmd_anew {p : Program} {l : Launch} {e : Env} {R : Room} {s : State} {m : MethodId} {args : Array Value} {below : List Frame} {meth : Method} {c : Code} {H : Heap} {locs : List Loc} {Q : State → Prop} {cc : ByteArray} {nL pc lev : Nat} {own : String} {D : va_G} {τ : ClassId × ClassId × ClassId} {B : Nat} {A : Nat → Prop} {σ : Sg} {ad : Nat → Nat} {ls : Array Slot} {rest : List Value} (E : Cx p R s m args meth c cc nL own lev D τ B A) (w : Wd s D A (wdM τ σ ad) H locs) {o : Sg} (h : F_Cmd_anew σ = some o) {index : Nat} (hlk : Cond.methodLink own index y_Cmd_anew ∈ tw) (hlev : 0 < lev) (hsz : ls.size = nL) (hr : (rest.map fun v => v.category).sum ≤ 8) (hd : decode cc pc = .ok (.invokevirtual index, 3)) (kk : ∀ (H1 : Heap) (locs1 : List Loc), Wd s D A (wdM τ o ad) H1 locs1 → W p l e R s m args below meth c H1 locs1 0 0 Q (F0 m (pc + 3) ls (rest))) : W p l e R s m args below meth c H locs 0 0 Q (F0 m pc ls (.ref (ad 60) :: rest)) :=
  cr_v w E.C (va_runV (As := []) (rest := rest) E.fix (c_Cmd_anew l D τ B σ ad o h H.size) (cwV 0 E.w (tw_pre (tw_good k1895) (l := [_, _, _, _]) (List.forall_mem_cons.mpr ⟨hlk, List.forall_mem_cons.mpr ⟨k1894, List.forall_mem_cons.mpr ⟨ks47, List.forall_mem_cons.mpr ⟨k15, fun _ h => absurd h List.not_mem_nil⟩⟩⟩⟩)) rfl rfl rfl (by decide +kernel) (E.rm hlev (by decide))) (wd_preV w E.C [] rcM_Cmd rfl) rfl rfl hsz rfl (lv_room hr) hd ⟨Nat.zero_le _, Nat.zero_le _⟩) kk

theorem d_Cmd_begin_0 : decode prog_15_method_18_code 0 = .ok (.aload_n 0, 1) := by decide +kernel
theorem d_Cmd_begin_1 : decode prog_15_method_18_code 1 = .ok (.iconst 0, 1) := by decide +kernel
theorem d_Cmd_begin_2 : decode prog_15_method_18_code 2 = .ok (.putfield 44, 3) := by decide +kernel
theorem d_Cmd_begin_5 : decode prog_15_method_18_code 5 = .ok (.aload_n 0, 1) := by decide +kernel
theorem d_Cmd_begin_6 : decode prog_15_method_18_code 6 = .ok (.invokevirtual 146, 3) := by decide +kernel
theorem d_Cmd_begin_9 : decode prog_15_method_18_code 9 = .ok (.iload_n 1, 1) := by decide +kernel
theorem d_Cmd_begin_10 : decode prog_15_method_18_code 10 = .ok (.ifCond .ne 7, 3) := by decide +kernel
theorem d_Cmd_begin_13 : decode prog_15_method_18_code 13 = .ok (.aload_n 0, 1) := by decide +kernel
theorem d_Cmd_begin_14 : decode prog_15_method_18_code 14 = .ok (.invokevirtual 41, 3) := by decide +kernel
theorem d_Cmd_begin_17 : decode prog_15_method_18_code 17 = .ok (.return_, 1) := by decide +kernel
def F_Cmd_begin_17 (σ : Sg) : Option (Sg) := some σ
set_option maxRecDepth 10000 in
set_option maxHeartbeats 4000000 in
theorem bt_Cmd_begin_17 {p : Program} {l : Launch} {e : Env} {R : Room} {s : State} {m : MethodId} {args : Array Value} {below : List Frame} {meth : Method} {c : Code} {D : va_G} {τ : ClassId × ClassId × ClassId} {B : Nat} {A : Nat → Prop} {ad : Nat → Nat} (E : Cx p R s m args meth c prog_15_method_18_code 2 "DrawingMachineModel$DrawCommandsModel" 3 D τ B A) (hret : meth.sig.returnType = none) (o : Sg) (σ : Sg) (h : F_Cmd_begin_17 σ = some o) {H : Heap} {locs : List Loc} {ls : Array Slot} (w : Wd s D A (wdM τ σ ad) H locs) (hl : lv_has ls 2 []) : W p l e R s m args below meth c H locs 0 0 (QV below args s A D τ (wdM τ o ad)) (F0 m 17 ls []) := by
  obtain rfl := Option.some.inj h
  exact rt_v E w hret d_Cmd_begin_17
def F_Cmd_begin (σ : Sg) (x0 : Int32) : Option (Sg) := lt (sI σ 7 0) (fun σ4 => bd (F_Cmd_anew σ4) (fun o5 => if x0 = 0 then (bd (F_Cmd_nothingTold o5) (fun o6 => F_Cmd_begin_17 o6)) else (F_Cmd_begin_17 o5)))
set_option maxRecDepth 10000 in
set_option maxHeartbeats 4000000 in
theorem c_Cmd_begin (l : Launch) (D : va_G) (τ : ClassId × ClassId × ClassId) (B : Nat) (σ : Sg) (ad : Nat → Nat) (x0 : Int32) (o : Sg) (h : F_Cmd_begin σ x0 = some o) : MV l y_Cmd_begin (Cond.code y_Cmd_begin prog_15_method_18_code 2 none) 3 D τ B [.ref (ad 60), .int x0] (wdM τ σ ad) (wdM τ o ad) := by
  refine en_v (by decide) (Nat.le_of_ble_eq_true rfl) ?_
  intro p e R s m args below meth c H locs ls A E hret w hl
  have E : Cx p R s m args meth c prog_15_method_18_code 2 "DrawingMachineModel$DrawCommandsModel" 3 D τ B A := E
  have hl : lv_has ls 2 [(0, .ref (ad 60)), (1, .int x0)] := hl
  refine lv_aload_n E.x E.b d_Cmd_begin_0 rfl (lv_at hl 0 rfl) ?_
  refine lv_iconst (v := 0) E.x E.b d_Cmd_begin_1 (by decide) ?_
  obtain ⟨σ4, e_σ4, h⟩ := lt_some h
  refine pM_Cmd_thrown E w k1443 e_σ4 d_Cmd_begin_2 (fun H locs w => ?_)
  refine lv_aload_n E.x E.b d_Cmd_begin_5 rfl (lv_at hl 0 rfl) ?_
  obtain ⟨o5, h_o5, h⟩ := bd_some h
  refine clV_Cmd_anew E w h_o5 k1892 (by decide) hl.1 (Nat.le_of_ble_eq_true rfl) d_Cmd_begin_6 (fun H locs w => ?_)
  refine lv_iload_n E.x E.b d_Cmd_begin_9 rfl (lv_at hl 1 rfl) ?_
  refine lv_if_ne (tgt := 17) E.x E.b d_Cmd_begin_10 (by decide) (fun c => ?_) (fun c => ?_)
  ·
    replace h := ifF c h
    exact bt_Cmd_begin_17 E hret o o5 h w (lv_sub hl [] rfl)
  ·
    replace h := ifT c h
    refine lv_aload_n E.x E.b d_Cmd_begin_13 rfl (lv_at hl 0 rfl) ?_
    obtain ⟨o6, h_o6, h⟩ := bd_some h
    refine clV_Cmd_nothingTold E w h_o6 k1429 (by decide) hl.1 (Nat.le_of_ble_eq_true rfl) d_Cmd_begin_14 (fun H locs w => ?_)
    exact bt_Cmd_begin_17 E hret o o6 h w (lv_sub hl [] rfl)
theorem clV_Cmd_begin {p : Program} {l : Launch} {e : Env} {R : Room} {s : State} {m : MethodId} {args : Array Value} {below : List Frame} {meth : Method} {c : Code} {H : Heap} {locs : List Loc} {Q : State → Prop} {cc : ByteArray} {nL pc lev : Nat} {own : String} {D : va_G} {τ : ClassId × ClassId × ClassId} {B : Nat} {A : Nat → Prop} {σ : Sg} {ad : Nat → Nat} {ls : Array Slot} {rest : List Value} (E : Cx p R s m args meth c cc nL own lev D τ B A) (w : Wd s D A (wdM τ σ ad) H locs) {x0 : Int32} {o : Sg} (h : F_Cmd_begin σ x0 = some o) {index : Nat} (hlk : Cond.methodLink own index y_Cmd_begin ∈ tw) (hlev : 3 < lev) (hsz : ls.size = nL) (hr : (rest.map fun v => v.category).sum ≤ 8) (hd : decode cc pc = .ok (.invokevirtual index, 3)) (kk : ∀ (H1 : Heap) (locs1 : List Loc), Wd s D A (wdM τ o ad) H1 locs1 → W p l e R s m args below meth c H1 locs1 0 0 Q (F0 m (pc + 3) ls (rest))) : W p l e R s m args below meth c H locs 0 0 Q (F0 m pc ls (.int x0 :: .ref (ad 60) :: rest)) :=
  cr_v w E.C (va_runV (As := [.int x0]) (rest := rest) E.fix (c_Cmd_begin l D τ B σ ad x0 o h H.size) (cwV 1 E.w (tw_pre (tw_good k1891) (l := [_, _, _, _]) (List.forall_mem_cons.mpr ⟨hlk, List.forall_mem_cons.mpr ⟨k1889, List.forall_mem_cons.mpr ⟨k1890, List.forall_mem_cons.mpr ⟨k15, fun _ h => absurd h List.not_mem_nil⟩⟩⟩⟩)) rfl rfl rfl (by decide +kernel) (E.rm hlev (by decide))) (wd_preV w E.C [.int x0] rcM_Cmd rfl) rfl rfl hsz rfl (lv_room hr) hd ⟨Nat.zero_le _, Nat.zero_le _⟩) kk

theorem d_Mod_end_0 : decode prog_14_method_9_code 0 = .ok (.aload_n 0, 1) := by decide +kernel
theorem d_Mod_end_1 : decode prog_14_method_9_code 1 = .ok (.iload_n 1, 1) := by decide +kernel
theorem d_Mod_end_2 : decode prog_14_method_9_code 2 = .ok (.i2l, 1) := by decide +kernel
theorem d_Mod_end_3 : decode prog_14_method_9_code 3 = .ok (.lconst 0, 1) := by decide +kernel
theorem d_Mod_end_4 : decode prog_14_method_9_code 4 = .ok (.aload_n 0, 1) := by decide +kernel
theorem d_Mod_end_5 : decode prog_14_method_9_code 5 = .ok (.getfield 19, 3) := by decide +kernel
theorem d_Mod_end_8 : decode prog_14_method_9_code 8 = .ok (.getfield 111, 3) := by decide +kernel
theorem d_Mod_end_11 : decode prog_14_method_9_code 11 = .ok (.i2l, 1) := by decide +kernel
theorem d_Mod_end_12 : decode prog_14_method_9_code 12 = .ok (.invokestatic 90, 3) := by decide +kernel
theorem d_Mod_end_15 : decode prog_14_method_9_code 15 = .ok (.ifCond .ne 7, 3) := by decide +kernel
theorem d_Mod_end_18 : decode prog_14_method_9_code 18 = .ok (.iconst 1, 1) := by decide +kernel
theorem d_Mod_end_19 : decode prog_14_method_9_code 19 = .ok (.goto 4, 3) := by decide +kernel
theorem d_Mod_end_22 : decode prog_14_method_9_code 22 = .ok (.iconst 0, 1) := by decide +kernel
theorem d_Mod_end_23 : decode prog_14_method_9_code 23 = .ok (.iconst 0, 1) := by decide +kernel
theorem d_Mod_end_24 : decode prog_14_method_9_code 24 = .ok (.invokevirtual 94, 3) := by decide +kernel
theorem d_Mod_end_27 : decode prog_14_method_9_code 27 = .ok (.ifCond .eq 4, 3) := by decide +kernel
theorem d_Mod_end_30 : decode prog_14_method_9_code 30 = .ok (.return_, 1) := by decide +kernel
theorem d_Mod_end_31 : decode prog_14_method_9_code 31 = .ok (.aload_n 0, 1) := by decide +kernel
theorem d_Mod_end_32 : decode prog_14_method_9_code 32 = .ok (.getfield 19, 3) := by decide +kernel
theorem d_Mod_end_35 : decode prog_14_method_9_code 35 = .ok (.iload_n 1, 1) := by decide +kernel
theorem d_Mod_end_36 : decode prog_14_method_9_code 36 = .ok (.putfield 111, 3) := by decide +kernel
theorem d_Mod_end_39 : decode prog_14_method_9_code 39 = .ok (.aload_n 0, 1) := by decide +kernel
theorem d_Mod_end_40 : decode prog_14_method_9_code 40 = .ok (.getfield 19, 3) := by decide +kernel
theorem d_Mod_end_43 : decode prog_14_method_9_code 43 = .ok (.iconst 1, 1) := by decide +kernel
theorem d_Mod_end_44 : decode prog_14_method_9_code 44 = .ok (.invokevirtual 118, 3) := by decide +kernel
theorem d_Mod_end_47 : decode prog_14_method_9_code 47 = .ok (.aload_n 0, 1) := by decide +kernel
theorem d_Mod_end_48 : decode prog_14_method_9_code 48 = .ok (.lconst 0, 1) := by decide +kernel
theorem d_Mod_end_49 : decode prog_14_method_9_code 49 = .ok (.putfield 122, 3) := by decide +kernel
theorem d_Mod_end_52 : decode prog_14_method_9_code 52 = .ok (.return_, 1) := by decide +kernel
def F_Mod_end_23 (σ : Sg) (v1 : Int32) (s1 : Int32) : Option (Sg) := bd (F_Mod_refuse σ s1 0) (fun o6 => if o6.2 = 0 then (lt (sI o6.1 10 v1) (fun σ7 => bd (F_Cmd_begin σ7 1) (fun o8 => lt (sJ o8 0 0) (fun σ9 => some σ9)))) else (some o6.1))
set_option maxRecDepth 10000 in
set_option maxHeartbeats 4000000 in
theorem bt_Mod_end_23 {p : Program} {l : Launch} {e : Env} {R : Room} {s : State} {m : MethodId} {args : Array Value} {below : List Frame} {meth : Method} {c : Code} {D : va_G} {τ : ClassId × ClassId × ClassId} {B : Nat} {A : Nat → Prop} {ad : Nat → Nat} (E : Cx p R s m args meth c prog_14_method_9_code 2 "DrawingMachineModel" 4 D τ B A) (hret : meth.sig.returnType = none) (o : Sg) (σ : Sg) (v1 : Int32) (s1 : Int32) (h : F_Mod_end_23 σ v1 s1 = some o) {H : Heap} {locs : List Loc} {ls : Array Slot} (w : Wd s D A (wdM τ σ ad) H locs) (hl : lv_has ls 2 [(0, .ref (ad 59)), (1, .int v1)]) : W p l e R s m args below meth c H locs 0 0 (QV below args s A D τ (wdM τ o ad)) (F0 m 23 ls [.int s1, .ref (ad 59)]) := by
  refine lv_iconst (v := 0) E.x E.b d_Mod_end_23 (by decide) ?_
  obtain ⟨o6, h_o6, h⟩ := bd_some h
  refine clV_Mod_refuse E w (x0 := s1) (x1 := 0) h_o6 k1835 (by decide) hl.1 (Nat.le_of_ble_eq_true rfl) d_Mod_end_24 (fun H locs w => ?_)
  refine lv_if_eq (tgt := 31) E.x E.b d_Mod_end_27 (by decide) (fun c => ?_) (fun c => ?_)
  ·
    replace h := ifT c h
    refine lv_aload_n E.x E.b d_Mod_end_31 rfl (lv_at hl 0 rfl) ?_
    refine gM_Mod_commands E w k1768 d_Mod_end_32 ?_
    refine lv_iload_n E.x E.b d_Mod_end_35 rfl (lv_at hl 1 rfl) ?_
    obtain ⟨σ7, e_σ7, h⟩ := lt_some h
    refine pNM_Cmd_size E w n1449 e_σ7 d_Mod_end_36 (fun H locs w => ?_)
    refine lv_aload_n E.x E.b d_Mod_end_39 rfl (lv_at hl 0 rfl) ?_
    refine gM_Mod_commands E w k1768 d_Mod_end_40 ?_
    refine lv_iconst (v := 1) E.x E.b d_Mod_end_43 (by decide) ?_
    obtain ⟨o8, h_o8, h⟩ := bd_some h
    refine clV_Cmd_begin E w (x0 := 1) h_o8 k1888 (by decide) hl.1 (Nat.le_of_ble_eq_true rfl) d_Mod_end_44 (fun H locs w => ?_)
    refine lv_aload_n E.x E.b d_Mod_end_47 rfl (lv_at hl 0 rfl) ?_
    refine lv_lconst (v := 0) E.x E.b d_Mod_end_48 (by decide) ?_
    obtain ⟨σ9, e_σ9, h⟩ := lt_some h
    refine pM_Mod_work E w k1779 e_σ9 d_Mod_end_49 (fun H locs w => ?_)
    obtain rfl := Option.some.inj h
    exact rt_v E w hret d_Mod_end_52
  ·
    replace h := ifF c h
    obtain rfl := Option.some.inj h
    exact rt_v E w hret d_Mod_end_30
def F_Mod_end (σ : Sg) (x0 : Int32) : Option (Sg) := bd (F_Mod_in x0.toInt64 0 ((σ.1 10).toInt64)) (fun o10 => if o10 = 0 then (F_Mod_end_23 σ x0 1) else (F_Mod_end_23 σ x0 0))
set_option maxRecDepth 10000 in
set_option maxHeartbeats 4000000 in
theorem c_Mod_end (l : Launch) (D : va_G) (τ : ClassId × ClassId × ClassId) (B : Nat) (σ : Sg) (ad : Nat → Nat) (x0 : Int32) (o : Sg) (h : F_Mod_end σ x0 = some o) : MV l y_Mod_end (Cond.code y_Mod_end prog_14_method_9_code 2 none) 4 D τ B [.ref (ad 59), .int x0] (wdM τ σ ad) (wdM τ o ad) := by
  refine en_v (by decide) (Nat.le_of_ble_eq_true rfl) ?_
  intro p e R s m args below meth c H locs ls A E hret w hl
  have E : Cx p R s m args meth c prog_14_method_9_code 2 "DrawingMachineModel" 4 D τ B A := E
  have hl : lv_has ls 2 [(0, .ref (ad 59)), (1, .int x0)] := hl
  refine lv_aload_n E.x E.b d_Mod_end_0 rfl (lv_at hl 0 rfl) ?_
  refine lv_iload_n E.x E.b d_Mod_end_1 rfl (lv_at hl 1 rfl) ?_
  refine lv_i2l (v := x0.toInt64) E.x E.b d_Mod_end_2 rfl ?_
  refine lv_lconst (v := 0) E.x E.b d_Mod_end_3 (by decide) ?_
  refine lv_aload_n E.x E.b d_Mod_end_4 rfl (lv_at hl 0 rfl) ?_
  refine gM_Mod_commands E w k1768 d_Mod_end_5 ?_
  refine gNM_Cmd_size E w n1449 d_Mod_end_8 ?_
  refine lv_i2l (v := (σ.1 10).toInt64) E.x E.b d_Mod_end_11 rfl ?_
  obtain ⟨o10, h_o10, h⟩ := bd_some h
  refine clS_Mod_in E w (x0 := x0.toInt64) (x1 := 0) (x2 := ((σ.1 10).toInt64)) h_o10 k1832 (by decide) hl.1 (Nat.le_of_ble_eq_true rfl) d_Mod_end_12 (fun H locs w => ?_)
  refine lv_if_ne (tgt := 22) E.x E.b d_Mod_end_15 (by decide) (fun c => ?_) (fun c => ?_)
  ·
    replace h := ifF c h
    refine lv_iconst (v := 0) E.x E.b d_Mod_end_22 (by decide) ?_
    exact bt_Mod_end_23 E hret o σ x0 0 h w (lv_sub hl [0, 1] rfl)
  ·
    replace h := ifT c h
    refine lv_iconst (v := 1) E.x E.b d_Mod_end_18 (by decide) ?_
    refine lv_goto (tgt := 23) E.x E.b d_Mod_end_19 (by decide) ?_
    exact bt_Mod_end_23 E hret o σ x0 1 h w (lv_sub hl [0, 1] rfl)

theorem d_Mod_begin_0 : decode prog_14_method_10_code 0 = .ok (.aload_n 0, 1) := by decide +kernel
theorem d_Mod_begin_1 : decode prog_14_method_10_code 1 = .ok (.iconst 0, 1) := by decide +kernel
theorem d_Mod_begin_2 : decode prog_14_method_10_code 2 = .ok (.putfield 85, 3) := by decide +kernel
theorem d_Mod_begin_5 : decode prog_14_method_10_code 5 = .ok (.aload_n 0, 1) := by decide +kernel
theorem d_Mod_begin_6 : decode prog_14_method_10_code 6 = .ok (.getfield 19, 3) := by decide +kernel
theorem d_Mod_begin_9 : decode prog_14_method_10_code 9 = .ok (.iload_n 1, 1) := by decide +kernel
theorem d_Mod_begin_10 : decode prog_14_method_10_code 10 = .ok (.invokevirtual 118, 3) := by decide +kernel
theorem d_Mod_begin_13 : decode prog_14_method_10_code 13 = .ok (.aload_n 0, 1) := by decide +kernel
theorem d_Mod_begin_14 : decode prog_14_method_10_code 14 = .ok (.lconst 0, 1) := by decide +kernel
theorem d_Mod_begin_15 : decode prog_14_method_10_code 15 = .ok (.putfield 122, 3) := by decide +kernel
theorem d_Mod_begin_18 : decode prog_14_method_10_code 18 = .ok (.return_, 1) := by decide +kernel
def F_Mod_begin (σ : Sg) (x0 : Int32) : Option (Sg) := lt (sI σ 0 0) (fun σ4 => bd (F_Cmd_begin σ4 x0) (fun o5 => lt (sJ o5 0 0) (fun σ6 => some σ6)))
set_option maxRecDepth 10000 in
set_option maxHeartbeats 4000000 in
theorem c_Mod_begin (l : Launch) (D : va_G) (τ : ClassId × ClassId × ClassId) (B : Nat) (σ : Sg) (ad : Nat → Nat) (x0 : Int32) (o : Sg) (h : F_Mod_begin σ x0 = some o) : MV l y_Mod_begin (Cond.code y_Mod_begin prog_14_method_10_code 2 none) 4 D τ B [.ref (ad 59), .int x0] (wdM τ σ ad) (wdM τ o ad) := by
  refine en_v (by decide) (Nat.le_of_ble_eq_true rfl) ?_
  intro p e R s m args below meth c H locs ls A E hret w hl
  have E : Cx p R s m args meth c prog_14_method_10_code 2 "DrawingMachineModel" 4 D τ B A := E
  have hl : lv_has ls 2 [(0, .ref (ad 59)), (1, .int x0)] := hl
  refine lv_aload_n E.x E.b d_Mod_begin_0 rfl (lv_at hl 0 rfl) ?_
  refine lv_iconst (v := 0) E.x E.b d_Mod_begin_1 (by decide) ?_
  obtain ⟨σ4, e_σ4, h⟩ := lt_some h
  refine pM_Mod_thrown E w k1765 e_σ4 d_Mod_begin_2 (fun H locs w => ?_)
  refine lv_aload_n E.x E.b d_Mod_begin_5 rfl (lv_at hl 0 rfl) ?_
  refine gM_Mod_commands E w k1768 d_Mod_begin_6 ?_
  refine lv_iload_n E.x E.b d_Mod_begin_9 rfl (lv_at hl 1 rfl) ?_
  obtain ⟨o5, h_o5, h⟩ := bd_some h
  refine clV_Cmd_begin E w (x0 := x0) h_o5 k1888 (by decide) hl.1 (Nat.le_of_ble_eq_true rfl) d_Mod_begin_10 (fun H locs w => ?_)
  refine lv_aload_n E.x E.b d_Mod_begin_13 rfl (lv_at hl 0 rfl) ?_
  refine lv_lconst (v := 0) E.x E.b d_Mod_begin_14 (by decide) ?_
  obtain ⟨σ6, e_σ6, h⟩ := lt_some h
  refine pM_Mod_work E w k1779 e_σ6 d_Mod_begin_15 (fun H locs w => ?_)
  obtain rfl := Option.some.inj h
  exact rt_v E w hret d_Mod_begin_18

theorem d_Ptm_show_0 : decode prog_17_method_27_code 0 = .ok (.iload_n 2, 1) := by decide +kernel
theorem d_Ptm_show_1 : decode prog_17_method_27_code 1 = .ok (.ifCond .le 24, 3) := by decide +kernel
theorem d_Ptm_show_4 : decode prog_17_method_27_code 4 = .ok (.iload_n 2, 1) := by decide +kernel
theorem d_Ptm_show_5 : decode prog_17_method_27_code 5 = .ok (.iconst 1, 1) := by decide +kernel
theorem d_Ptm_show_6 : decode prog_17_method_27_code 6 = .ok (.if_icmp .ne 12, 3) := by decide +kernel
theorem d_Ptm_show_9 : decode prog_17_method_27_code 9 = .ok (.aload_n 0, 1) := by decide +kernel
theorem d_Ptm_show_10 : decode prog_17_method_27_code 10 = .ok (.getfield 21, 3) := by decide +kernel
theorem d_Ptm_show_13 : decode prog_17_method_27_code 13 = .ok (.iload_n 1, 1) := by decide +kernel
theorem d_Ptm_show_14 : decode prog_17_method_27_code 14 = .ok (.iaload, 1) := by decide +kernel
theorem d_Ptm_show_15 : decode prog_17_method_27_code 15 = .ok (.goto 9, 3) := by decide +kernel
theorem d_Ptm_show_18 : decode prog_17_method_27_code 18 = .ok (.aload_n 0, 1) := by decide +kernel
theorem d_Ptm_show_19 : decode prog_17_method_27_code 19 = .ok (.getfield 24, 3) := by decide +kernel
theorem d_Ptm_show_22 : decode prog_17_method_27_code 22 = .ok (.iload_n 1, 1) := by decide +kernel
theorem d_Ptm_show_23 : decode prog_17_method_27_code 23 = .ok (.iaload, 1) := by decide +kernel
theorem d_Ptm_show_24 : decode prog_17_method_27_code 24 = .ok (.ireturn, 1) := by decide +kernel
theorem d_Ptm_show_25 : decode prog_17_method_27_code 25 = .ok (.iconst 0, 1) := by decide +kernel
theorem d_Ptm_show_26 : decode prog_17_method_27_code 26 = .ok (.istore_n 3, 1) := by decide +kernel
theorem d_Ptm_show_27 : decode prog_17_method_27_code 27 = .ok (.iconst 0, 1) := by decide +kernel
theorem d_Ptm_show_28 : decode prog_17_method_27_code 28 = .ok (.istore 4, 2) := by decide +kernel
theorem d_Ptm_show_30 : decode prog_17_method_27_code 30 = .ok (.iload 4, 2) := by decide +kernel
theorem d_Ptm_show_32 : decode prog_17_method_27_code 32 = .ok (.iconst 4, 1) := by decide +kernel
theorem d_Ptm_show_33 : decode prog_17_method_27_code 33 = .ok (.if_icmp .ge 29, 3) := by decide +kernel
theorem d_Ptm_show_36 : decode prog_17_method_27_code 36 = .ok (.iload_n 3, 1) := by decide +kernel
theorem d_Ptm_show_37 : decode prog_17_method_27_code 37 = .ok (.aload_n 0, 1) := by decide +kernel
theorem d_Ptm_show_38 : decode prog_17_method_27_code 38 = .ok (.getfield 17, 3) := by decide +kernel
theorem d_Ptm_show_41 : decode prog_17_method_27_code 41 = .ok (.iconst 4, 1) := by decide +kernel
theorem d_Ptm_show_42 : decode prog_17_method_27_code 42 = .ok (.iload_n 1, 1) := by decide +kernel
theorem d_Ptm_show_43 : decode prog_17_method_27_code 43 = .ok (.imul, 1) := by decide +kernel
theorem d_Ptm_show_44 : decode prog_17_method_27_code 44 = .ok (.iload 4, 2) := by decide +kernel
theorem d_Ptm_show_46 : decode prog_17_method_27_code 46 = .ok (.iadd, 1) := by decide +kernel
theorem d_Ptm_show_47 : decode prog_17_method_27_code 47 = .ok (.iaload, 1) := by decide +kernel
theorem d_Ptm_show_48 : decode prog_17_method_27_code 48 = .ok (.bipush 8, 2) := by decide +kernel
theorem d_Ptm_show_50 : decode prog_17_method_27_code 50 = .ok (.iload 4, 2) := by decide +kernel
theorem d_Ptm_show_52 : decode prog_17_method_27_code 52 = .ok (.imul, 1) := by decide +kernel
theorem d_Ptm_show_53 : decode prog_17_method_27_code 53 = .ok (.ishl, 1) := by decide +kernel
theorem d_Ptm_show_54 : decode prog_17_method_27_code 54 = .ok (.ior, 1) := by decide +kernel
theorem d_Ptm_show_55 : decode prog_17_method_27_code 55 = .ok (.istore_n 3, 1) := by decide +kernel
theorem d_Ptm_show_56 : decode prog_17_method_27_code 56 = .ok (.iinc 4 1, 3) := by decide +kernel
theorem d_Ptm_show_59 : decode prog_17_method_27_code 59 = .ok (.goto (-29), 3) := by decide +kernel
theorem d_Ptm_show_62 : decode prog_17_method_27_code 62 = .ok (.iload_n 3, 1) := by decide +kernel
theorem d_Ptm_show_63 : decode prog_17_method_27_code 63 = .ok (.ireturn, 1) := by decide +kernel
def L_Ptm_show_30 : Nat → Sg → Int32 → Int32 → Int32 → Option (Int32)
  | 0, _, _, _, _ => none
  | n + 1, σ, v1, v3, v4 => if 4 ≤ v4 then (some v3) else (ck (inb ((4 * v1) + v4) 65536) (lt (v3 ||| ((σ.2.2.1 45 ((4 * v1) + v4).toNatClampNeg) <<< ((8 * v4) &&& 31))) (fun y7 => lt (v4 + 1) (fun y8 => L_Ptm_show_30 n σ v1 y7 y8))))
set_option maxRecDepth 10000 in
set_option maxHeartbeats 4000000 in
theorem lt_Ptm_show_30 {p : Program} {l : Launch} {e : Env} {R : Room} {s : State} {m : MethodId} {args : Array Value} {below : List Frame} {meth : Method} {c : Code} {D : va_G} {τ : ClassId × ClassId × ClassId} {B : Nat} {A : Nat → Prop} {ad : Nat → Nat} (E : Cx p R s m args meth c prog_17_method_27_code 5 "DrawingMachineModel$PlaceTestsModel" 0 D τ B A) (hret : meth.sig.returnType = (some .int)) (o : Int32) (σ : Sg) : ∀ (n : Nat) (v1 : Int32) (v3 : Int32) (v4 : Int32) (H : Heap) (locs : List Loc) (ls : Array Slot), L_Ptm_show_30 n σ v1 v3 v4 = some o → Wd s D A (wdM τ σ ad) H locs → lv_has ls 5 [(0, .ref (ad 64)), (1, .int v1), (3, .int v3), (4, .int v4)] → W p l e R s m args below meth c H locs 0 0 (QI below args s A D τ (wdM τ σ ad) o) (F0 m 30 ls []) := by
  intro n
  induction n with
  | zero =>
    intro v1 v3 v4 H locs ls h w hl
    cases h
  | succ n hr_30 =>
    intro v1 v3 v4 H locs ls h w hl
    refine lv_iload E.x E.b d_Ptm_show_30 (lv_at hl 3 rfl) ?_
    refine lv_iconst (v := 4) E.x E.b d_Ptm_show_32 (by decide) ?_
    refine lv_icmp_ge (tgt := 62) E.x E.b d_Ptm_show_33 (by decide) (fun c => ?_) (fun c => ?_)
    ·
      replace h := ifT c h
      refine lv_iload_n E.x E.b d_Ptm_show_62 rfl (lv_at hl 2 rfl) ?_
      obtain rfl := Option.some.inj h
      exact rt_i E w hret d_Ptm_show_63
    ·
      replace h := ifF c h
      refine lv_iload_n E.x E.b d_Ptm_show_36 rfl (lv_at hl 2 rfl) ?_
      refine lv_aload_n E.x E.b d_Ptm_show_37 rfl (lv_at hl 0 rfl) ?_
      refine gM_Ptm_channels E w k1703 d_Ptm_show_38 ?_
      refine lv_iconst (v := 4) E.x E.b d_Ptm_show_41 (by decide) ?_
      refine lv_iload_n E.x E.b d_Ptm_show_42 rfl (lv_at hl 1 rfl) ?_
      refine lv_imul E.x E.b d_Ptm_show_43 ?_
      refine lv_iload E.x E.b d_Ptm_show_44 (lv_at hl 3 rfl) ?_
      refine lv_iadd E.x E.b d_Ptm_show_46 ?_
      obtain ⟨c6, h⟩ := ck_some h
      refine ialM E w (k := 45) (by decide) c6 d_Ptm_show_47 ?_
      refine lv_bipush (v := 8) E.x E.b d_Ptm_show_48 (by decide) ?_
      refine lv_iload E.x E.b d_Ptm_show_50 (lv_at hl 3 rfl) ?_
      refine lv_imul E.x E.b d_Ptm_show_52 ?_
      refine lv_ishl E.x E.b d_Ptm_show_53 ?_
      refine lv_ior E.x E.b d_Ptm_show_54 ?_
      obtain ⟨y7, e_y7, h⟩ := lt_some h
      refine wi_e (v := y7) e_y7 ?_
      refine lv_istore_n (lv' := [(3, .int y7), (0, .ref (ad 64)), (1, .int v1), (4, .int v4)]) E.x E.b d_Ptm_show_55 rfl hl (by decide) rfl (fun ls hl => ?_)
      obtain ⟨y8, e_y8, h⟩ := lt_some h
      refine lv_iinc (v := y8) (lv' := [(4, .int y8), (3, .int y7), (0, .ref (ad 64)), (1, .int v1)]) E.x E.b d_Ptm_show_56 hl (k := 3) rfl (e_y8) (by decide) rfl (fun ls hl => ?_)
      refine lv_goto (tgt := 30) E.x E.b d_Ptm_show_59 (by decide) ?_
      exact hr_30 v1 y7 y8 _ _ _ h w (lv_sub hl [2, 3, 1, 0] rfl)
def F_Ptm_show_24 (σ : Sg) (s0 : Int32) : Option (Int32) := some s0
set_option maxRecDepth 10000 in
set_option maxHeartbeats 4000000 in
theorem bt_Ptm_show_24 {p : Program} {l : Launch} {e : Env} {R : Room} {s : State} {m : MethodId} {args : Array Value} {below : List Frame} {meth : Method} {c : Code} {D : va_G} {τ : ClassId × ClassId × ClassId} {B : Nat} {A : Nat → Prop} {ad : Nat → Nat} (E : Cx p R s m args meth c prog_17_method_27_code 5 "DrawingMachineModel$PlaceTestsModel" 0 D τ B A) (hret : meth.sig.returnType = (some .int)) (o : Int32) (σ : Sg) (s0 : Int32) (h : F_Ptm_show_24 σ s0 = some o) {H : Heap} {locs : List Loc} {ls : Array Slot} (w : Wd s D A (wdM τ σ ad) H locs) (hl : lv_has ls 5 []) : W p l e R s m args below meth c H locs 0 0 (QI below args s A D τ (wdM τ σ ad) o) (F0 m 24 ls [.int s0]) := by
  obtain rfl := Option.some.inj h
  exact rt_i E w hret d_Ptm_show_24
def F_Ptm_show (σ : Sg) (x0 : Int32) (x1 : Int32) : Option (Int32) := if x1 ≤ 0 then (L_Ptm_show_30 100000 σ x0 0 0) else (if x1 = 1 then (ck (inb x0 16384) (F_Ptm_show_24 σ (σ.2.2.1 46 x0.toNatClampNeg))) else (ck (inb x0 16384) (F_Ptm_show_24 σ (σ.2.2.1 47 x0.toNatClampNeg))))
set_option maxRecDepth 10000 in
set_option maxHeartbeats 4000000 in
theorem c_Ptm_show (l : Launch) (D : va_G) (τ : ClassId × ClassId × ClassId) (B : Nat) (σ : Sg) (ad : Nat → Nat) (x0 : Int32) (x1 : Int32) (o : Int32) (h : F_Ptm_show σ x0 x1 = some o) : MI l y_Ptm_show (Cond.code y_Ptm_show prog_17_method_27_code 5 (some .int)) 0 D τ B [.ref (ad 64), .int x0, .int x1] (wdM τ σ ad) (wdM τ σ ad) o := by
  refine en_i (by decide) (Nat.le_of_ble_eq_true rfl) ?_
  intro p e R s m args below meth c H locs ls A E hret w hl
  have E : Cx p R s m args meth c prog_17_method_27_code 5 "DrawingMachineModel$PlaceTestsModel" 0 D τ B A := E
  have hl : lv_has ls 5 [(0, .ref (ad 64)), (1, .int x0), (2, .int x1)] := hl
  refine lv_iload_n E.x E.b d_Ptm_show_0 rfl (lv_at hl 2 rfl) ?_
  refine lv_if_le (tgt := 25) E.x E.b d_Ptm_show_1 (by decide) (fun c => ?_) (fun c => ?_)
  ·
    replace h := ifT c h
    refine lv_iconst (v := 0) E.x E.b d_Ptm_show_25 (by decide) ?_
    refine lv_istore_n (lv' := [(3, .int 0), (0, .ref (ad 64)), (1, .int x0), (2, .int x1)]) E.x E.b d_Ptm_show_26 rfl hl (by decide) rfl (fun ls hl => ?_)
    refine lv_iconst (v := 0) E.x E.b d_Ptm_show_27 (by decide) ?_
    refine lv_istore (lv' := [(4, .int 0), (3, .int 0), (0, .ref (ad 64)), (1, .int x0), (2, .int x1)]) E.x E.b d_Ptm_show_28 hl (by decide) rfl (fun ls hl => ?_)
    exact lt_Ptm_show_30 E hret o σ 100000 x0 0 0 _ _ _ h w (lv_sub hl [2, 3, 1, 0] rfl)
  ·
    replace h := ifF c h
    refine lv_iload_n E.x E.b d_Ptm_show_4 rfl (lv_at hl 2 rfl) ?_
    refine lv_iconst (v := 1) E.x E.b d_Ptm_show_5 (by decide) ?_
    refine lv_icmp_ne (tgt := 18) E.x E.b d_Ptm_show_6 (by decide) (fun c => ?_) (fun c => ?_)
    ·
      replace h := ifF c h
      refine lv_aload_n E.x E.b d_Ptm_show_18 rfl (lv_at hl 0 rfl) ?_
      refine gM_Ptm_stencils E w k1705 d_Ptm_show_19 ?_
      refine lv_iload_n E.x E.b d_Ptm_show_22 rfl (lv_at hl 1 rfl) ?_
      obtain ⟨c9, h⟩ := ck_some h
      refine ialM E w (k := 47) (by decide) c9 d_Ptm_show_23 ?_
      exact bt_Ptm_show_24 E hret o σ (σ.2.2.1 47 x0.toNatClampNeg) h w (lv_sub hl [] rfl)
    ·
      replace h := ifT c h
      refine lv_aload_n E.x E.b d_Ptm_show_9 rfl (lv_at hl 0 rfl) ?_
      refine gM_Ptm_depths E w k1704 d_Ptm_show_10 ?_
      refine lv_iload_n E.x E.b d_Ptm_show_13 rfl (lv_at hl 1 rfl) ?_
      obtain ⟨c10, h⟩ := ck_some h
      refine ialM E w (k := 46) (by decide) c10 d_Ptm_show_14 ?_
      refine lv_goto (tgt := 24) E.x E.b d_Ptm_show_15 (by decide) ?_
      exact bt_Ptm_show_24 E hret o σ (σ.2.2.1 46 x0.toNatClampNeg) h w (lv_sub hl [] rfl)
theorem clV_Ptm_show {p : Program} {l : Launch} {e : Env} {R : Room} {s : State} {m : MethodId} {args : Array Value} {below : List Frame} {meth : Method} {c : Code} {H : Heap} {locs : List Loc} {Q : State → Prop} {cc : ByteArray} {nL pc lev : Nat} {own : String} {D : va_G} {τ : ClassId × ClassId × ClassId} {B : Nat} {A : Nat → Prop} {σ : Sg} {ad : Nat → Nat} {ls : Array Slot} {rest : List Value} (E : Cx p R s m args meth c cc nL own lev D τ B A) (w : Wd s D A (wdM τ σ ad) H locs) {x0 : Int32} {x1 : Int32} {o : Int32} (h : F_Ptm_show σ x0 x1 = some o) {index : Nat} (hlk : Cond.methodLink own index y_Ptm_show ∈ tw) (hlev : 0 < lev) (hsz : ls.size = nL) (hr : (rest.map fun v => v.category).sum ≤ 8) (hd : decode cc pc = .ok (.invokevirtual index, 3)) (kk : ∀ (H1 : Heap) (locs1 : List Loc), Wd s D A (wdM τ σ ad) H1 locs1 → W p l e R s m args below meth c H1 locs1 0 0 Q (F0 m (pc + 3) ls (.int o :: rest))) : W p l e R s m args below meth c H locs 0 0 Q (F0 m pc ls (.int x1 :: .int x0 :: .ref (ad 64) :: rest)) :=
  cr_i w E.C (va_runV (As := [.int x0, .int x1]) (rest := rest) E.fix (c_Ptm_show l D τ B σ ad x0 x1 o h H.size) (cwV 2 E.w (tw_pre (tw_good k2484) (l := [_, _, _, _]) (List.forall_mem_cons.mpr ⟨hlk, List.forall_mem_cons.mpr ⟨k2483, List.forall_mem_cons.mpr ⟨ks116, List.forall_mem_cons.mpr ⟨k20, fun _ h => absurd h List.not_mem_nil⟩⟩⟩⟩)) rfl rfl rfl (by decide +kernel) (E.rm hlev (by decide))) (wd_preV w E.C [.int x0, .int x1] rcM_Ptm rfl) rfl rfl hsz rfl (lv_room hr) hd ⟨Nat.zero_le _, Nat.zero_le _⟩) kk
theorem clVN_Ptm_show {p : Program} {l : Launch} {e : Env} {R : Room} {s : State} {m : MethodId} {args : Array Value} {below : List Frame} {meth : Method} {c : Code} {H : Heap} {locs : List Loc} {Q : State → Prop} {cc : ByteArray} {nL pc lev : Nat} {own : String} {D : va_G} {τ : ClassId × ClassId × ClassId} {B : Nat} {A : Nat → Prop} {σ : Sg} {ad : Nat → Nat} {ls : Array Slot} {rest : List Value} (E : Cx p R s m args meth c cc nL own lev D τ B A) (w : Wd s D A (wdM τ σ ad) H locs) {x0 : Int32} {x1 : Int32} {o : Int32} (h : F_Ptm_show σ x0 x1 = some o) {index : Nat} {host : String} (hlk : Cond.methodLinkNest own index y_Ptm_show host ∈ nw) (hlev : 0 < lev) (hsz : ls.size = nL) (hr : (rest.map fun v => v.category).sum ≤ 8) (hd : decode cc pc = .ok (.invokevirtual index, 3)) (kk : ∀ (H1 : Heap) (locs1 : List Loc), Wd s D A (wdM τ σ ad) H1 locs1 → W p l e R s m args below meth c H1 locs1 0 0 Q (F0 m (pc + 3) ls (.int o :: rest))) : W p l e R s m args below meth c H locs 0 0 Q (F0 m pc ls (.int x1 :: .int x0 :: .ref (ad 64) :: rest)) :=
  cr_i w E.C (va_runVN (As := [.int x0, .int x1]) (rest := rest) E.fix (c_Ptm_show l D τ B σ ad x0 x1 o h H.size) ⟨va_cnB 2 E.w (tw_good k2484) rfl rfl rfl (E.C.2.1.1 _ hlk) (E.w _ k20) (by decide +kernel) (E.rm hlev (by decide)), E.w _ k2483, E.w _ ks116⟩ (wd_preV w E.C [.int x0, .int x1] rcM_Ptm rfl) rfl rfl hsz rfl (lv_room hr) hd ⟨Nat.zero_le _, Nat.zero_le _⟩) kk

theorem d_Mod_copy_0 : decode prog_14_method_17_code 0 = .ok (.aload_n 0, 1) := by decide +kernel
theorem d_Mod_copy_1 : decode prog_14_method_17_code 1 = .ok (.getfield 19, 3) := by decide +kernel
theorem d_Mod_copy_4 : decode prog_14_method_17_code 4 = .ok (.getfield 150, 3) := by decide +kernel
theorem d_Mod_copy_7 : decode prog_14_method_17_code 7 = .ok (.astore_n 1, 1) := by decide +kernel
theorem d_Mod_copy_8 : decode prog_14_method_17_code 8 = .ok (.aload_n 1, 1) := by decide +kernel
theorem d_Mod_copy_9 : decode prog_14_method_17_code 9 = .ok (.iconst 4, 1) := by decide +kernel
theorem d_Mod_copy_10 : decode prog_14_method_17_code 10 = .ok (.iaload, 1) := by decide +kernel
theorem d_Mod_copy_11 : decode prog_14_method_17_code 11 = .ok (.istore_n 2, 1) := by decide +kernel
theorem d_Mod_copy_12 : decode prog_14_method_17_code 12 = .ok (.aload_n 1, 1) := by decide +kernel
theorem d_Mod_copy_13 : decode prog_14_method_17_code 13 = .ok (.iconst 1, 1) := by decide +kernel
theorem d_Mod_copy_14 : decode prog_14_method_17_code 14 = .ok (.iaload, 1) := by decide +kernel
theorem d_Mod_copy_15 : decode prog_14_method_17_code 15 = .ok (.istore_n 3, 1) := by decide +kernel
theorem d_Mod_copy_16 : decode prog_14_method_17_code 16 = .ok (.iload_n 3, 1) := by decide +kernel
theorem d_Mod_copy_17 : decode prog_14_method_17_code 17 = .ok (.aload_n 1, 1) := by decide +kernel
theorem d_Mod_copy_18 : decode prog_14_method_17_code 18 = .ok (.iconst 1, 1) := by decide +kernel
theorem d_Mod_copy_19 : decode prog_14_method_17_code 19 = .ok (.iaload, 1) := by decide +kernel
theorem d_Mod_copy_20 : decode prog_14_method_17_code 20 = .ok (.aload_n 1, 1) := by decide +kernel
theorem d_Mod_copy_21 : decode prog_14_method_17_code 21 = .ok (.iconst 3, 1) := by decide +kernel
theorem d_Mod_copy_22 : decode prog_14_method_17_code 22 = .ok (.iaload, 1) := by decide +kernel
theorem d_Mod_copy_23 : decode prog_14_method_17_code 23 = .ok (.iadd, 1) := by decide +kernel
theorem d_Mod_copy_24 : decode prog_14_method_17_code 24 = .ok (.if_icmp .ge 63, 3) := by decide +kernel
theorem d_Mod_copy_27 : decode prog_14_method_17_code 27 = .ok (.aload_n 1, 1) := by decide +kernel
theorem d_Mod_copy_28 : decode prog_14_method_17_code 28 = .ok (.iconst 0, 1) := by decide +kernel
theorem d_Mod_copy_29 : decode prog_14_method_17_code 29 = .ok (.iaload, 1) := by decide +kernel
theorem d_Mod_copy_30 : decode prog_14_method_17_code 30 = .ok (.istore 4, 2) := by decide +kernel
theorem d_Mod_copy_32 : decode prog_14_method_17_code 32 = .ok (.iload 4, 2) := by decide +kernel
theorem d_Mod_copy_34 : decode prog_14_method_17_code 34 = .ok (.aload_n 1, 1) := by decide +kernel
theorem d_Mod_copy_35 : decode prog_14_method_17_code 35 = .ok (.iconst 0, 1) := by decide +kernel
theorem d_Mod_copy_36 : decode prog_14_method_17_code 36 = .ok (.iaload, 1) := by decide +kernel
theorem d_Mod_copy_37 : decode prog_14_method_17_code 37 = .ok (.aload_n 1, 1) := by decide +kernel
theorem d_Mod_copy_38 : decode prog_14_method_17_code 38 = .ok (.iconst 2, 1) := by decide +kernel
theorem d_Mod_copy_39 : decode prog_14_method_17_code 39 = .ok (.iaload, 1) := by decide +kernel
theorem d_Mod_copy_40 : decode prog_14_method_17_code 40 = .ok (.iadd, 1) := by decide +kernel
theorem d_Mod_copy_41 : decode prog_14_method_17_code 41 = .ok (.if_icmp .ge 40, 3) := by decide +kernel
theorem d_Mod_copy_44 : decode prog_14_method_17_code 44 = .ok (.aload_n 0, 1) := by decide +kernel
theorem d_Mod_copy_45 : decode prog_14_method_17_code 45 = .ok (.getfield 19, 3) := by decide +kernel
theorem d_Mod_copy_48 : decode prog_14_method_17_code 48 = .ok (.getfield 25, 3) := by decide +kernel
theorem d_Mod_copy_51 : decode prog_14_method_17_code 51 = .ok (.iload_n 2, 1) := by decide +kernel
theorem d_Mod_copy_52 : decode prog_14_method_17_code 52 = .ok (.aload_n 0, 1) := by decide +kernel
theorem d_Mod_copy_53 : decode prog_14_method_17_code 53 = .ok (.getfield 65, 3) := by decide +kernel
theorem d_Mod_copy_56 : decode prog_14_method_17_code 56 = .ok (.iload_n 3, 1) := by decide +kernel
theorem d_Mod_copy_57 : decode prog_14_method_17_code 57 = .ok (.aload_n 0, 1) := by decide +kernel
theorem d_Mod_copy_58 : decode prog_14_method_17_code 58 = .ok (.getfield 7, 3) := by decide +kernel
theorem d_Mod_copy_61 : decode prog_14_method_17_code 61 = .ok (.imul, 1) := by decide +kernel
theorem d_Mod_copy_62 : decode prog_14_method_17_code 62 = .ok (.iload 4, 2) := by decide +kernel
theorem d_Mod_copy_64 : decode prog_14_method_17_code 64 = .ok (.iadd, 1) := by decide +kernel
theorem d_Mod_copy_65 : decode prog_14_method_17_code 65 = .ok (.aload_n 1, 1) := by decide +kernel
theorem d_Mod_copy_66 : decode prog_14_method_17_code 66 = .ok (.iconst 5, 1) := by decide +kernel
theorem d_Mod_copy_67 : decode prog_14_method_17_code 67 = .ok (.iaload, 1) := by decide +kernel
theorem d_Mod_copy_68 : decode prog_14_method_17_code 68 = .ok (.invokevirtual 208, 3) := by decide +kernel
theorem d_Mod_copy_71 : decode prog_14_method_17_code 71 = .ok (.iastore, 1) := by decide +kernel
theorem d_Mod_copy_72 : decode prog_14_method_17_code 72 = .ok (.iinc 2 1, 3) := by decide +kernel
theorem d_Mod_copy_75 : decode prog_14_method_17_code 75 = .ok (.iinc 4 1, 3) := by decide +kernel
theorem d_Mod_copy_78 : decode prog_14_method_17_code 78 = .ok (.goto (-46), 3) := by decide +kernel
theorem d_Mod_copy_81 : decode prog_14_method_17_code 81 = .ok (.iinc 3 1, 3) := by decide +kernel
theorem d_Mod_copy_84 : decode prog_14_method_17_code 84 = .ok (.goto (-68), 3) := by decide +kernel
theorem d_Mod_copy_87 : decode prog_14_method_17_code 87 = .ok (.return_, 1) := by decide +kernel
def L_Mod_copy_32 (rc_16 : Sg → Int32 → Int32 → Option (Sg)) : Nat → Sg → Int32 → Int32 → Int32 → Option (Sg)
  | 0, _, _, _, _ => none
  | n + 1, σ, v2, v3, v4 => if ((σ.2.2.1 3 0) + (σ.2.2.1 3 2)) ≤ v4 then (lt (v3 + 1) (fun y10 => rc_16 σ v2 y10)) else (bd (F_Ptm_show σ ((v3 * (σ.1 1)) + v4) (σ.2.2.1 3 5)) (fun o11 => ck (inb v2 4096) (lt (sA σ 0 (upd (σ.2.2.1 0) v2.toNatClampNeg o11)) (fun σ13 => lt (v2 + 1) (fun y14 => lt (v4 + 1) (fun y15 => L_Mod_copy_32 rc_16 n σ13 y14 v3 y15))))))
set_option maxRecDepth 10000 in
set_option maxHeartbeats 4000000 in
theorem lt_Mod_copy_32 {p : Program} {l : Launch} {e : Env} {R : Room} {s : State} {m : MethodId} {args : Array Value} {below : List Frame} {meth : Method} {c : Code} {D : va_G} {τ : ClassId × ClassId × ClassId} {B : Nat} {A : Nat → Prop} {ad : Nat → Nat} (E : Cx p R s m args meth c prog_14_method_17_code 5 "DrawingMachineModel" 1 D τ B A) (hret : meth.sig.returnType = none) (o : Sg) (rc_16 : Sg → Int32 → Int32 → Option (Sg)) (hr_16 : ∀ (σ : Sg) (v2 : Int32) (v3 : Int32) (H : Heap) (locs : List Loc) (ls : Array Slot), rc_16 σ v2 v3 = some o → Wd s D A (wdM τ σ ad) H locs → lv_has ls 5 [(0, .ref (ad 59)), (1, .ref (ad 3)), (2, .int v2), (3, .int v3)] → W p l e R s m args below meth c H locs 0 0 (QV below args s A D τ (wdM τ o ad)) (F0 m 16 ls [])) : ∀ (n : Nat) (σ : Sg) (v2 : Int32) (v3 : Int32) (v4 : Int32) (H : Heap) (locs : List Loc) (ls : Array Slot), L_Mod_copy_32 rc_16 n σ v2 v3 v4 = some o → Wd s D A (wdM τ σ ad) H locs → lv_has ls 5 [(0, .ref (ad 59)), (1, .ref (ad 3)), (2, .int v2), (3, .int v3), (4, .int v4)] → W p l e R s m args below meth c H locs 0 0 (QV below args s A D τ (wdM τ o ad)) (F0 m 32 ls []) := by
  intro n
  induction n with
  | zero =>
    intro σ v2 v3 v4 H locs ls h w hl
    cases h
  | succ n hr_32 =>
    intro σ v2 v3 v4 H locs ls h w hl
    refine lv_iload E.x E.b d_Mod_copy_32 (lv_at hl 4 rfl) ?_
    refine lv_aload_n E.x E.b d_Mod_copy_34 rfl (lv_at hl 1 rfl) ?_
    refine lv_iconst (v := 0) E.x E.b d_Mod_copy_35 (by decide) ?_
    refine ialM E w (k := 3) (by decide) (show inb 0 300 by decide) d_Mod_copy_36 ?_
    refine wi_e (v := σ.2.2.1 3 0) rfl ?_
    refine lv_aload_n E.x E.b d_Mod_copy_37 rfl (lv_at hl 1 rfl) ?_
    refine lv_iconst (v := 2) E.x E.b d_Mod_copy_38 (by decide) ?_
    refine ialM E w (k := 3) (by decide) (show inb 2 300 by decide) d_Mod_copy_39 ?_
    refine wi_e (v := σ.2.2.1 3 2) rfl ?_
    refine lv_iadd E.x E.b d_Mod_copy_40 ?_
    refine lv_icmp_ge (tgt := 81) E.x E.b d_Mod_copy_41 (by decide) (fun c => ?_) (fun c => ?_)
    ·
      replace h := ifT c h
      obtain ⟨y10, e_y10, h⟩ := lt_some h
      refine lv_iinc (v := y10) (lv' := [(3, .int y10), (0, .ref (ad 59)), (1, .ref (ad 3)), (2, .int v2), (4, .int v4)]) E.x E.b d_Mod_copy_81 hl (k := 3) rfl (e_y10) (by decide) rfl (fun ls hl => ?_)
      refine lv_goto (tgt := 16) E.x E.b d_Mod_copy_84 (by decide) ?_
      exact hr_16 σ v2 y10 _ _ _ h w (lv_sub hl [1, 2, 3, 0] rfl)
    ·
      replace h := ifF c h
      refine lv_aload_n E.x E.b d_Mod_copy_44 rfl (lv_at hl 0 rfl) ?_
      refine gM_Mod_commands E w k1768 d_Mod_copy_45 ?_
      refine gNM_Cmd_memory E w n1445 d_Mod_copy_48 ?_
      refine lv_iload_n E.x E.b d_Mod_copy_51 rfl (lv_at hl 2 rfl) ?_
      refine lv_aload_n E.x E.b d_Mod_copy_52 rfl (lv_at hl 0 rfl) ?_
      refine gM_Mod_tests E w k1774 d_Mod_copy_53 ?_
      refine lv_iload_n E.x E.b d_Mod_copy_56 rfl (lv_at hl 3 rfl) ?_
      refine lv_aload_n E.x E.b d_Mod_copy_57 rfl (lv_at hl 0 rfl) ?_
      refine gM_Mod_wide E w k1766 d_Mod_copy_58 ?_
      refine lv_imul E.x E.b d_Mod_copy_61 ?_
      refine lv_iload E.x E.b d_Mod_copy_62 (lv_at hl 4 rfl) ?_
      refine lv_iadd E.x E.b d_Mod_copy_64 ?_
      refine lv_aload_n E.x E.b d_Mod_copy_65 rfl (lv_at hl 1 rfl) ?_
      refine lv_iconst (v := 5) E.x E.b d_Mod_copy_66 (by decide) ?_
      refine ialM E w (k := 3) (by decide) (show inb 5 300 by decide) d_Mod_copy_67 ?_
      refine wi_e (v := σ.2.2.1 3 5) rfl ?_
      obtain ⟨o11, h_o11, h⟩ := bd_some h
      refine clVN_Ptm_show E w (x0 := ((v3 * (σ.1 1)) + v4)) (x1 := (σ.2.2.1 3 5)) h_o11 n2481 (by decide) hl.1 (Nat.le_of_ble_eq_true rfl) d_Mod_copy_68 (fun H locs w => ?_)
      obtain ⟨c12, h⟩ := ck_some h
      obtain ⟨σ13, e_σ13, h⟩ := lt_some h
      refine iasM E w (k := 0) (by decide) c12 e_σ13 d_Mod_copy_71 (fun H locs w => ?_)
      obtain ⟨y14, e_y14, h⟩ := lt_some h
      refine lv_iinc (v := y14) (lv' := [(2, .int y14), (0, .ref (ad 59)), (1, .ref (ad 3)), (3, .int v3), (4, .int v4)]) E.x E.b d_Mod_copy_72 hl (k := 2) rfl (e_y14) (by decide) rfl (fun ls hl => ?_)
      obtain ⟨y15, e_y15, h⟩ := lt_some h
      refine lv_iinc (v := y15) (lv' := [(4, .int y15), (2, .int y14), (0, .ref (ad 59)), (1, .ref (ad 3)), (3, .int v3)]) E.x E.b d_Mod_copy_75 hl (k := 4) rfl (e_y15) (by decide) rfl (fun ls hl => ?_)
      refine lv_goto (tgt := 32) E.x E.b d_Mod_copy_78 (by decide) ?_
      exact hr_32 σ13 y14 v3 y15 _ _ _ h w (lv_sub hl [2, 3, 1, 4, 0] rfl)
def L_Mod_copy_16 : Nat → Sg → Int32 → Int32 → Option (Sg)
  | 0, _, _, _ => none
  | n + 1, σ, v2, v3 => if ((σ.2.2.1 3 1) + (σ.2.2.1 3 3)) ≤ v3 then (some σ) else (lt (σ.2.2.1 3 0) (fun y16 => L_Mod_copy_32 (L_Mod_copy_16 n) 100000 σ v2 v3 y16))
set_option maxRecDepth 10000 in
set_option maxHeartbeats 4000000 in
theorem lt_Mod_copy_16 {p : Program} {l : Launch} {e : Env} {R : Room} {s : State} {m : MethodId} {args : Array Value} {below : List Frame} {meth : Method} {c : Code} {D : va_G} {τ : ClassId × ClassId × ClassId} {B : Nat} {A : Nat → Prop} {ad : Nat → Nat} (E : Cx p R s m args meth c prog_14_method_17_code 5 "DrawingMachineModel" 1 D τ B A) (hret : meth.sig.returnType = none) (o : Sg) : ∀ (n : Nat) (σ : Sg) (v2 : Int32) (v3 : Int32) (H : Heap) (locs : List Loc) (ls : Array Slot), L_Mod_copy_16 n σ v2 v3 = some o → Wd s D A (wdM τ σ ad) H locs → lv_has ls 5 [(0, .ref (ad 59)), (1, .ref (ad 3)), (2, .int v2), (3, .int v3)] → W p l e R s m args below meth c H locs 0 0 (QV below args s A D τ (wdM τ o ad)) (F0 m 16 ls []) := by
  intro n
  induction n with
  | zero =>
    intro σ v2 v3 H locs ls h w hl
    cases h
  | succ n hr_16 =>
    intro σ v2 v3 H locs ls h w hl
    refine lv_iload_n E.x E.b d_Mod_copy_16 rfl (lv_at hl 3 rfl) ?_
    refine lv_aload_n E.x E.b d_Mod_copy_17 rfl (lv_at hl 1 rfl) ?_
    refine lv_iconst (v := 1) E.x E.b d_Mod_copy_18 (by decide) ?_
    refine ialM E w (k := 3) (by decide) (show inb 1 300 by decide) d_Mod_copy_19 ?_
    refine wi_e (v := σ.2.2.1 3 1) rfl ?_
    refine lv_aload_n E.x E.b d_Mod_copy_20 rfl (lv_at hl 1 rfl) ?_
    refine lv_iconst (v := 3) E.x E.b d_Mod_copy_21 (by decide) ?_
    refine ialM E w (k := 3) (by decide) (show inb 3 300 by decide) d_Mod_copy_22 ?_
    refine wi_e (v := σ.2.2.1 3 3) rfl ?_
    refine lv_iadd E.x E.b d_Mod_copy_23 ?_
    refine lv_icmp_ge (tgt := 87) E.x E.b d_Mod_copy_24 (by decide) (fun c => ?_) (fun c => ?_)
    ·
      replace h := ifT c h
      obtain rfl := Option.some.inj h
      exact rt_v E w hret d_Mod_copy_87
    ·
      replace h := ifF c h
      refine lv_aload_n E.x E.b d_Mod_copy_27 rfl (lv_at hl 1 rfl) ?_
      refine lv_iconst (v := 0) E.x E.b d_Mod_copy_28 (by decide) ?_
      refine ialM E w (k := 3) (by decide) (show inb 0 300 by decide) d_Mod_copy_29 ?_
      refine wi_e (v := σ.2.2.1 3 0) rfl ?_
      obtain ⟨y16, e_y16, h⟩ := lt_some h
      refine wi_e (v := y16) e_y16 ?_
      refine lv_istore (lv' := [(4, .int y16), (0, .ref (ad 59)), (1, .ref (ad 3)), (2, .int v2), (3, .int v3)]) E.x E.b d_Mod_copy_30 hl (by decide) rfl (fun ls hl => ?_)
      exact lt_Mod_copy_32 E hret o (L_Mod_copy_16 n) hr_16 100000 σ v2 v3 y16 _ _ _ h w (lv_sub hl [1, 2, 3, 4, 0] rfl)
def F_Mod_copy (σ : Sg) : Option (Sg) := lt (σ.2.2.1 3 4) (fun y17 => lt (σ.2.2.1 3 1) (fun y18 => L_Mod_copy_16 100000 σ y17 y18))
set_option maxRecDepth 10000 in
set_option maxHeartbeats 4000000 in
theorem c_Mod_copy (l : Launch) (D : va_G) (τ : ClassId × ClassId × ClassId) (B : Nat) (σ : Sg) (ad : Nat → Nat) (o : Sg) (h : F_Mod_copy σ = some o) : MV l y_Mod_copy (Cond.code y_Mod_copy prog_14_method_17_code 5 none) 1 D τ B [.ref (ad 59)] (wdM τ σ ad) (wdM τ o ad) := by
  refine en_v (by decide) (Nat.le_of_ble_eq_true rfl) ?_
  intro p e R s m args below meth c H locs ls A E hret w hl
  have E : Cx p R s m args meth c prog_14_method_17_code 5 "DrawingMachineModel" 1 D τ B A := E
  have hl : lv_has ls 5 [(0, .ref (ad 59))] := hl
  refine lv_aload_n E.x E.b d_Mod_copy_0 rfl (lv_at hl 0 rfl) ?_
  refine gM_Mod_commands E w k1768 d_Mod_copy_1 ?_
  refine gNM_Cmd_argument E w n1467 d_Mod_copy_4 ?_
  refine lv_astore_n (lv' := [(1, .ref (ad 3)), (0, .ref (ad 59))]) E.x E.b d_Mod_copy_7 rfl hl (by decide) rfl (fun ls hl => ?_)
  refine lv_aload_n E.x E.b d_Mod_copy_8 rfl (lv_at hl 0 rfl) ?_
  refine lv_iconst (v := 4) E.x E.b d_Mod_copy_9 (by decide) ?_
  refine ialM E w (k := 3) (by decide) (show inb 4 300 by decide) d_Mod_copy_10 ?_
  refine wi_e (v := σ.2.2.1 3 4) rfl ?_
  obtain ⟨y17, e_y17, h⟩ := lt_some h
  refine wi_e (v := y17) e_y17 ?_
  refine lv_istore_n (lv' := [(2, .int y17), (1, .ref (ad 3)), (0, .ref (ad 59))]) E.x E.b d_Mod_copy_11 rfl hl (by decide) rfl (fun ls hl => ?_)
  refine lv_aload_n E.x E.b d_Mod_copy_12 rfl (lv_at hl 1 rfl) ?_
  refine lv_iconst (v := 1) E.x E.b d_Mod_copy_13 (by decide) ?_
  refine ialM E w (k := 3) (by decide) (show inb 1 300 by decide) d_Mod_copy_14 ?_
  refine wi_e (v := σ.2.2.1 3 1) rfl ?_
  obtain ⟨y18, e_y18, h⟩ := lt_some h
  refine wi_e (v := y18) e_y18 ?_
  refine lv_istore_n (lv' := [(3, .int y18), (2, .int y17), (1, .ref (ad 3)), (0, .ref (ad 59))]) E.x E.b d_Mod_copy_15 rfl hl (by decide) rfl (fun ls hl => ?_)
  exact lt_Mod_copy_16 E hret o 100000 σ y17 y18 _ _ _ h w (lv_sub hl [3, 2, 1, 0] rfl)
theorem clV_Mod_copy {p : Program} {l : Launch} {e : Env} {R : Room} {s : State} {m : MethodId} {args : Array Value} {below : List Frame} {meth : Method} {c : Code} {H : Heap} {locs : List Loc} {Q : State → Prop} {cc : ByteArray} {nL pc lev : Nat} {own : String} {D : va_G} {τ : ClassId × ClassId × ClassId} {B : Nat} {A : Nat → Prop} {σ : Sg} {ad : Nat → Nat} {ls : Array Slot} {rest : List Value} (E : Cx p R s m args meth c cc nL own lev D τ B A) (w : Wd s D A (wdM τ σ ad) H locs) {o : Sg} (h : F_Mod_copy σ = some o) {index : Nat} (hlk : Cond.methodLink own index y_Mod_copy ∈ tw) (hlev : 1 < lev) (hsz : ls.size = nL) (hr : (rest.map fun v => v.category).sum ≤ 8) (hd : decode cc pc = .ok (.invokevirtual index, 3)) (kk : ∀ (H1 : Heap) (locs1 : List Loc), Wd s D A (wdM τ o ad) H1 locs1 → W p l e R s m args below meth c H1 locs1 0 0 Q (F0 m (pc + 3) ls (rest))) : W p l e R s m args below meth c H locs 0 0 Q (F0 m pc ls (.ref (ad 59) :: rest)) :=
  cr_v w E.C (va_runV (As := []) (rest := rest) E.fix (c_Mod_copy l D τ B σ ad o h H.size) (cwV 0 E.w (tw_pre (tw_good k2480) (l := [_, _, _, _]) (List.forall_mem_cons.mpr ⟨hlk, List.forall_mem_cons.mpr ⟨k2479, List.forall_mem_cons.mpr ⟨ks115, List.forall_mem_cons.mpr ⟨k14, fun _ h => absurd h List.not_mem_nil⟩⟩⟩⟩)) rfl rfl rfl (by decide +kernel) (E.rm hlev (by decide))) (wd_preV w E.C [] rcM_Mod rfl) rfl rfl hsz rfl (lv_room hr) hd ⟨Nat.zero_le _, Nat.zero_le _⟩) kk

theorem d_Shm_hasTarget_0 : decode prog_18_method_5_code 0 = .ok (.iload_n 0, 1) := by decide +kernel
theorem d_Shm_hasTarget_1 : decode prog_18_method_5_code 1 = .ok (.ifCond .le 9, 3) := by decide +kernel
theorem d_Shm_hasTarget_4 : decode prog_18_method_5_code 4 = .ok (.iload_n 0, 1) := by decide +kernel
theorem d_Shm_hasTarget_5 : decode prog_18_method_5_code 5 = .ok (.bipush 34, 2) := by decide +kernel
theorem d_Shm_hasTarget_7 : decode prog_18_method_5_code 7 = .ok (.if_icmp .lt 9, 3) := by decide +kernel
theorem d_Shm_hasTarget_10 : decode prog_18_method_5_code 10 = .ok (.iload_n 0, 1) := by decide +kernel
theorem d_Shm_hasTarget_11 : decode prog_18_method_5_code 11 = .ok (.bipush 38, 2) := by decide +kernel
theorem d_Shm_hasTarget_13 : decode prog_18_method_5_code 13 = .ok (.if_icmp .le 7, 3) := by decide +kernel
theorem d_Shm_hasTarget_16 : decode prog_18_method_5_code 16 = .ok (.iconst 1, 1) := by decide +kernel
theorem d_Shm_hasTarget_17 : decode prog_18_method_5_code 17 = .ok (.goto 4, 3) := by decide +kernel
theorem d_Shm_hasTarget_20 : decode prog_18_method_5_code 20 = .ok (.iconst 0, 1) := by decide +kernel
theorem d_Shm_hasTarget_21 : decode prog_18_method_5_code 21 = .ok (.ireturn, 1) := by decide +kernel
def F_Shm_hasTarget_21  (s0 : Int32) : Option (Int32) := ck (s0 = 0 ∨ s0 = 1) (some s0)
set_option maxRecDepth 10000 in
set_option maxHeartbeats 4000000 in
theorem bt_Shm_hasTarget_21 {p : Program} {l : Launch} {e : Env} {R : Room} {s : State} {m : MethodId} {args : Array Value} {below : List Frame} {meth : Method} {c : Code} {D : va_G} {τ : ClassId × ClassId × ClassId} {B : Nat} {A : Nat → Prop} {ad : Nat → Nat} {σ0 : Sg} (E : Cx p R s m args meth c prog_18_method_5_code 1 "DrawingMachineModel$ShaderMachineModel" 0 D τ B A) (hret : meth.sig.returnType = (some .boolean)) (o : Int32) (s0 : Int32) (h : F_Shm_hasTarget_21 s0 = some o) {H : Heap} {locs : List Loc} {ls : Array Slot} (w : Wd s D A (wdM τ σ0 ad) H locs) (hl : lv_has ls 1 []) : W p l e R s m args below meth c H locs 0 0 (QI below args s A D τ (wdM τ σ0 ad) o) (F0 m 21 ls [.int s0]) := by
  obtain ⟨c2, h⟩ := ck_some h
  obtain rfl := Option.some.inj h
  exact rt_z E w hret c2 d_Shm_hasTarget_21
def F_Shm_hasTarget_16  : Option (Int32) := F_Shm_hasTarget_21 1
set_option maxRecDepth 10000 in
set_option maxHeartbeats 4000000 in
theorem bt_Shm_hasTarget_16 {p : Program} {l : Launch} {e : Env} {R : Room} {s : State} {m : MethodId} {args : Array Value} {below : List Frame} {meth : Method} {c : Code} {D : va_G} {τ : ClassId × ClassId × ClassId} {B : Nat} {A : Nat → Prop} {ad : Nat → Nat} {σ0 : Sg} (E : Cx p R s m args meth c prog_18_method_5_code 1 "DrawingMachineModel$ShaderMachineModel" 0 D τ B A) (hret : meth.sig.returnType = (some .boolean)) (o : Int32) (h : F_Shm_hasTarget_16 = some o) {H : Heap} {locs : List Loc} {ls : Array Slot} (w : Wd s D A (wdM τ σ0 ad) H locs) (hl : lv_has ls 1 []) : W p l e R s m args below meth c H locs 0 0 (QI below args s A D τ (wdM τ σ0 ad) o) (F0 m 16 ls []) := by
  refine lv_iconst (v := 1) E.x E.b d_Shm_hasTarget_16 (by decide) ?_
  refine lv_goto (tgt := 21) E.x E.b d_Shm_hasTarget_17 (by decide) ?_
  exact bt_Shm_hasTarget_21 E hret o 1 h w (lv_sub hl [] rfl)
def F_Shm_hasTarget_10  (v0 : Int32) : Option (Int32) := if v0 ≤ 38 then (F_Shm_hasTarget_21 0) else (F_Shm_hasTarget_16)
set_option maxRecDepth 10000 in
set_option maxHeartbeats 4000000 in
theorem bt_Shm_hasTarget_10 {p : Program} {l : Launch} {e : Env} {R : Room} {s : State} {m : MethodId} {args : Array Value} {below : List Frame} {meth : Method} {c : Code} {D : va_G} {τ : ClassId × ClassId × ClassId} {B : Nat} {A : Nat → Prop} {ad : Nat → Nat} {σ0 : Sg} (E : Cx p R s m args meth c prog_18_method_5_code 1 "DrawingMachineModel$ShaderMachineModel" 0 D τ B A) (hret : meth.sig.returnType = (some .boolean)) (o : Int32) (v0 : Int32) (h : F_Shm_hasTarget_10 v0 = some o) {H : Heap} {locs : List Loc} {ls : Array Slot} (w : Wd s D A (wdM τ σ0 ad) H locs) (hl : lv_has ls 1 [(0, .int v0)]) : W p l e R s m args below meth c H locs 0 0 (QI below args s A D τ (wdM τ σ0 ad) o) (F0 m 10 ls []) := by
  refine lv_iload_n E.x E.b d_Shm_hasTarget_10 rfl (lv_at hl 0 rfl) ?_
  refine lv_bipush (v := 38) E.x E.b d_Shm_hasTarget_11 (by decide) ?_
  refine lv_icmp_le (tgt := 20) E.x E.b d_Shm_hasTarget_13 (by decide) (fun c => ?_) (fun c => ?_)
  ·
    replace h := ifT c h
    refine lv_iconst (v := 0) E.x E.b d_Shm_hasTarget_20 (by decide) ?_
    exact bt_Shm_hasTarget_21 E hret o 0 h w (lv_sub hl [] rfl)
  ·
    replace h := ifF c h
    exact bt_Shm_hasTarget_16 E hret o h w (lv_sub hl [] rfl)
def F_Shm_hasTarget  (x0 : Int32) : Option (Int32) := if x0 ≤ 0 then (F_Shm_hasTarget_10 x0) else (if x0 < 34 then (F_Shm_hasTarget_16) else (F_Shm_hasTarget_10 x0))
set_option maxRecDepth 10000 in
set_option maxHeartbeats 4000000 in
theorem c_Shm_hasTarget (l : Launch) (D : va_G) (τ : ClassId × ClassId × ClassId) (B : Nat) (σ0 : Sg) (ad : Nat → Nat) (x0 : Int32) (o : Int32) (h : F_Shm_hasTarget x0 = some o) : MI l y_Shm_hasTarget (Cond.code y_Shm_hasTarget prog_18_method_5_code 1 (some .boolean)) 0 D τ B [.int x0] (wdM τ σ0 ad) (wdM τ σ0 ad) o := by
  refine en_i (by decide) (Nat.le_of_ble_eq_true rfl) ?_
  intro p e R s m args below meth c H locs ls A E hret w hl
  have E : Cx p R s m args meth c prog_18_method_5_code 1 "DrawingMachineModel$ShaderMachineModel" 0 D τ B A := E
  have hl : lv_has ls 1 [(0, .int x0)] := hl
  refine lv_iload_n E.x E.b d_Shm_hasTarget_0 rfl (lv_at hl 0 rfl) ?_
  refine lv_if_le (tgt := 10) E.x E.b d_Shm_hasTarget_1 (by decide) (fun c => ?_) (fun c => ?_)
  ·
    replace h := ifT c h
    exact bt_Shm_hasTarget_10 E hret o x0 h w (lv_sub hl [0] rfl)
  ·
    replace h := ifF c h
    refine lv_iload_n E.x E.b d_Shm_hasTarget_4 rfl (lv_at hl 0 rfl) ?_
    refine lv_bipush (v := 34) E.x E.b d_Shm_hasTarget_5 (by decide) ?_
    refine lv_icmp_lt (tgt := 16) E.x E.b d_Shm_hasTarget_7 (by decide) (fun c => ?_) (fun c => ?_)
    ·
      replace h := ifT c h
      exact bt_Shm_hasTarget_16 E hret o h w (lv_sub hl [] rfl)
    ·
      replace h := ifF c h
      exact bt_Shm_hasTarget_10 E hret o x0 h w (lv_sub hl [0] rfl)
theorem clS_Shm_hasTarget {p : Program} {l : Launch} {e : Env} {R : Room} {s : State} {m : MethodId} {args : Array Value} {below : List Frame} {meth : Method} {c : Code} {H : Heap} {locs : List Loc} {Q : State → Prop} {cc : ByteArray} {nL pc lev : Nat} {own : String} {D : va_G} {τ : ClassId × ClassId × ClassId} {B : Nat} {A : Nat → Prop} {σ : Sg} {ad : Nat → Nat} {ls : Array Slot} {rest : List Value} (E : Cx p R s m args meth c cc nL own lev D τ B A) (w : Wd s D A (wdM τ σ ad) H locs) {x0 : Int32} {o : Int32} (h : F_Shm_hasTarget x0 = some o) {index : Nat} (hlk : Cond.methodLink own index y_Shm_hasTarget ∈ tw) (hlev : 0 < lev) (hsz : ls.size = nL) (hr : (rest.map fun v => v.category).sum ≤ 8) (hd : decode cc pc = .ok (.invokestatic index, 3)) (kk : ∀ (H1 : Heap) (locs1 : List Loc), Wd s D A (wdM τ σ ad) H1 locs1 → W p l e R s m args below meth c H1 locs1 0 0 Q (F0 m (pc + 3) ls (.int o :: rest))) : W p l e R s m args below meth c H locs 0 0 Q (F0 m pc ls (.int x0 :: rest)) :=
  cr_i w E.C (va_runS (As := [.int x0]) (rest := rest) E.fix (c_Shm_hasTarget l D τ B σ ad x0 o h H.size) (va_cwS 1 E.w (tw_pre (tw_good k2107) (l := [_, _, _]) (List.forall_mem_cons.mpr ⟨hlk, List.forall_mem_cons.mpr ⟨k2106, List.forall_mem_cons.mpr ⟨k17, fun _ h => absurd h List.not_mem_nil⟩⟩⟩)) rfl rfl rfl (by decide +kernel) (E.rm hlev (by decide))) (wd_pre w E.C [.int x0]) rfl rfl hsz rfl (lv_room hr) hd ⟨Nat.zero_le _, Nat.zero_le _⟩) kk

theorem d_Shm_kindOf_0 : decode prog_18_method_2_code 0 = .ok (.aload_n 0, 1) := by decide +kernel
theorem d_Shm_kindOf_1 : decode prog_18_method_2_code 1 = .ok (.iconst 3, 1) := by decide +kernel
theorem d_Shm_kindOf_2 : decode prog_18_method_2_code 2 = .ok (.iload_n 1, 1) := by decide +kernel
theorem d_Shm_kindOf_3 : decode prog_18_method_2_code 3 = .ok (.imul, 1) := by decide +kernel
theorem d_Shm_kindOf_4 : decode prog_18_method_2_code 4 = .ok (.iaload, 1) := by decide +kernel
theorem d_Shm_kindOf_5 : decode prog_18_method_2_code 5 = .ok (.bipush 63, 2) := by decide +kernel
theorem d_Shm_kindOf_7 : decode prog_18_method_2_code 7 = .ok (.iand, 1) := by decide +kernel
theorem d_Shm_kindOf_8 : decode prog_18_method_2_code 8 = .ok (.ireturn, 1) := by decide +kernel
def F_Shm_kindOf (σ : Sg) (ar0 : Nat) (x1 : Int32) : Option (Int32) := ck (ar0 < 58) (ck (inb (3 * x1) (lenM σ ar0)) (some ((σ.2.2.1 ar0 (3 * x1).toNatClampNeg) &&& 63)))
set_option maxRecDepth 10000 in
set_option maxHeartbeats 4000000 in
theorem c_Shm_kindOf (l : Launch) (D : va_G) (τ : ClassId × ClassId × ClassId) (B : Nat) (σ : Sg) (ad : Nat → Nat) (ar0 : Nat) (x1 : Int32) (o : Int32) (h : F_Shm_kindOf σ ar0 x1 = some o) : MI l y_Shm_kindOf (Cond.code y_Shm_kindOf prog_18_method_2_code 2 (some .int)) 0 D τ B [.ref (ad ar0), .int x1] (wdM τ σ ad) (wdM τ σ ad) o := by
  refine en_i (by decide) (Nat.le_of_ble_eq_true rfl) ?_
  intro p e R s m args below meth c H locs ls A E hret w hl
  have E : Cx p R s m args meth c prog_18_method_2_code 2 "DrawingMachineModel$ShaderMachineModel" 0 D τ B A := E
  have hl : lv_has ls 2 [(0, .ref (ad ar0)), (1, .int x1)] := hl
  obtain ⟨c2, h⟩ := ck_some h
  refine lv_aload_n E.x E.b d_Shm_kindOf_0 rfl (lv_at hl 0 rfl) ?_
  refine lv_iconst (v := 3) E.x E.b d_Shm_kindOf_1 (by decide) ?_
  refine lv_iload_n E.x E.b d_Shm_kindOf_2 rfl (lv_at hl 1 rfl) ?_
  refine lv_imul E.x E.b d_Shm_kindOf_3 ?_
  obtain ⟨c3, h⟩ := ck_some h
  refine ialM E w (k := ar0) c2 c3 d_Shm_kindOf_4 ?_
  refine lv_bipush (v := 63) E.x E.b d_Shm_kindOf_5 (by decide) ?_
  refine lv_iand E.x E.b d_Shm_kindOf_7 ?_
  obtain rfl := Option.some.inj h
  exact rt_i E w hret d_Shm_kindOf_8
theorem clS_Shm_kindOf {p : Program} {l : Launch} {e : Env} {R : Room} {s : State} {m : MethodId} {args : Array Value} {below : List Frame} {meth : Method} {c : Code} {H : Heap} {locs : List Loc} {Q : State → Prop} {cc : ByteArray} {nL pc lev : Nat} {own : String} {D : va_G} {τ : ClassId × ClassId × ClassId} {B : Nat} {A : Nat → Prop} {σ : Sg} {ad : Nat → Nat} {ls : Array Slot} {rest : List Value} (E : Cx p R s m args meth c cc nL own lev D τ B A) (w : Wd s D A (wdM τ σ ad) H locs) {ar0 : Nat} {x1 : Int32} {o : Int32} (h : F_Shm_kindOf σ ar0 x1 = some o) {index : Nat} (hlk : Cond.methodLink own index y_Shm_kindOf ∈ tw) (hlev : 0 < lev) (hsz : ls.size = nL) (hr : (rest.map fun v => v.category).sum ≤ 8) (hd : decode cc pc = .ok (.invokestatic index, 3)) (kk : ∀ (H1 : Heap) (locs1 : List Loc), Wd s D A (wdM τ σ ad) H1 locs1 → W p l e R s m args below meth c H1 locs1 0 0 Q (F0 m (pc + 3) ls (.int o :: rest))) : W p l e R s m args below meth c H locs 0 0 Q (F0 m pc ls (.int x1 :: .ref (ad ar0) :: rest)) :=
  cr_i w E.C (va_runS (As := [.ref (ad ar0), .int x1]) (rest := rest) E.fix (c_Shm_kindOf l D τ B σ ad ar0 x1 o h H.size) (va_cwS 2 E.w (tw_pre (tw_good k2101) (l := [_, _, _]) (List.forall_mem_cons.mpr ⟨hlk, List.forall_mem_cons.mpr ⟨k2100, List.forall_mem_cons.mpr ⟨k17, fun _ h => absurd h List.not_mem_nil⟩⟩⟩)) rfl rfl rfl (by decide +kernel) (E.rm hlev (by decide))) (wd_pre w E.C [.ref (ad ar0), .int x1]) rfl rfl hsz rfl (lv_room hr) hd ⟨Nat.zero_le _, Nat.zero_le _⟩) kk

theorem d_Shm_numberOf_0 : decode prog_18_method_3_code 0 = .ok (.aload_n 0, 1) := by decide +kernel
theorem d_Shm_numberOf_1 : decode prog_18_method_3_code 1 = .ok (.iconst 3, 1) := by decide +kernel
theorem d_Shm_numberOf_2 : decode prog_18_method_3_code 2 = .ok (.iload_n 1, 1) := by decide +kernel
theorem d_Shm_numberOf_3 : decode prog_18_method_3_code 3 = .ok (.imul, 1) := by decide +kernel
theorem d_Shm_numberOf_4 : decode prog_18_method_3_code 4 = .ok (.iaload, 1) := by decide +kernel
theorem d_Shm_numberOf_5 : decode prog_18_method_3_code 5 = .ok (.bipush 17, 2) := by decide +kernel
theorem d_Shm_numberOf_7 : decode prog_18_method_3_code 7 = .ok (.iushr, 1) := by decide +kernel
theorem d_Shm_numberOf_8 : decode prog_18_method_3_code 8 = .ok (.ireturn, 1) := by decide +kernel
def F_Shm_numberOf (σ : Sg) (ar0 : Nat) (x1 : Int32) : Option (Int32) := ck (ar0 < 58) (ck (inb (3 * x1) (lenM σ ar0)) (some (ushr (σ.2.2.1 ar0 (3 * x1).toNatClampNeg) 17)))
set_option maxRecDepth 10000 in
set_option maxHeartbeats 4000000 in
theorem c_Shm_numberOf (l : Launch) (D : va_G) (τ : ClassId × ClassId × ClassId) (B : Nat) (σ : Sg) (ad : Nat → Nat) (ar0 : Nat) (x1 : Int32) (o : Int32) (h : F_Shm_numberOf σ ar0 x1 = some o) : MI l y_Shm_numberOf (Cond.code y_Shm_numberOf prog_18_method_3_code 2 (some .int)) 0 D τ B [.ref (ad ar0), .int x1] (wdM τ σ ad) (wdM τ σ ad) o := by
  refine en_i (by decide) (Nat.le_of_ble_eq_true rfl) ?_
  intro p e R s m args below meth c H locs ls A E hret w hl
  have E : Cx p R s m args meth c prog_18_method_3_code 2 "DrawingMachineModel$ShaderMachineModel" 0 D τ B A := E
  have hl : lv_has ls 2 [(0, .ref (ad ar0)), (1, .int x1)] := hl
  obtain ⟨c2, h⟩ := ck_some h
  refine lv_aload_n E.x E.b d_Shm_numberOf_0 rfl (lv_at hl 0 rfl) ?_
  refine lv_iconst (v := 3) E.x E.b d_Shm_numberOf_1 (by decide) ?_
  refine lv_iload_n E.x E.b d_Shm_numberOf_2 rfl (lv_at hl 1 rfl) ?_
  refine lv_imul E.x E.b d_Shm_numberOf_3 ?_
  obtain ⟨c3, h⟩ := ck_some h
  refine ialM E w (k := ar0) c2 c3 d_Shm_numberOf_4 ?_
  refine lv_bipush (v := 17) E.x E.b d_Shm_numberOf_5 (by decide) ?_
  refine lv_iushr (v := ushr (σ.2.2.1 ar0 (3 * x1).toNatClampNeg) 17) E.x E.b d_Shm_numberOf_7 rfl ?_
  obtain rfl := Option.some.inj h
  exact rt_i E w hret d_Shm_numberOf_8
theorem clS_Shm_numberOf {p : Program} {l : Launch} {e : Env} {R : Room} {s : State} {m : MethodId} {args : Array Value} {below : List Frame} {meth : Method} {c : Code} {H : Heap} {locs : List Loc} {Q : State → Prop} {cc : ByteArray} {nL pc lev : Nat} {own : String} {D : va_G} {τ : ClassId × ClassId × ClassId} {B : Nat} {A : Nat → Prop} {σ : Sg} {ad : Nat → Nat} {ls : Array Slot} {rest : List Value} (E : Cx p R s m args meth c cc nL own lev D τ B A) (w : Wd s D A (wdM τ σ ad) H locs) {ar0 : Nat} {x1 : Int32} {o : Int32} (h : F_Shm_numberOf σ ar0 x1 = some o) {index : Nat} (hlk : Cond.methodLink own index y_Shm_numberOf ∈ tw) (hlev : 0 < lev) (hsz : ls.size = nL) (hr : (rest.map fun v => v.category).sum ≤ 8) (hd : decode cc pc = .ok (.invokestatic index, 3)) (kk : ∀ (H1 : Heap) (locs1 : List Loc), Wd s D A (wdM τ σ ad) H1 locs1 → W p l e R s m args below meth c H1 locs1 0 0 Q (F0 m (pc + 3) ls (.int o :: rest))) : W p l e R s m args below meth c H locs 0 0 Q (F0 m pc ls (.int x1 :: .ref (ad ar0) :: rest)) :=
  cr_i w E.C (va_runS (As := [.ref (ad ar0), .int x1]) (rest := rest) E.fix (c_Shm_numberOf l D τ B σ ad ar0 x1 o h H.size) (va_cwS 2 E.w (tw_pre (tw_good k2126) (l := [_, _, _]) (List.forall_mem_cons.mpr ⟨hlk, List.forall_mem_cons.mpr ⟨k2125, List.forall_mem_cons.mpr ⟨k17, fun _ h => absurd h List.not_mem_nil⟩⟩⟩)) rfl rfl rfl (by decide +kernel) (E.rm hlev (by decide))) (wd_pre w E.C [.ref (ad ar0), .int x1]) rfl rfl hsz rfl (lv_room hr) hd ⟨Nat.zero_le _, Nat.zero_le _⟩) kk

theorem d_Shm_greatest_0 : decode prog_18_method_22_code 0 = .ok (.lconst 0, 1) := by decide +kernel
theorem d_Shm_greatest_1 : decode prog_18_method_22_code 1 = .ok (.lstore_n 2, 1) := by decide +kernel
theorem d_Shm_greatest_2 : decode prog_18_method_22_code 2 = .ok (.ldc2_w 135, 3) := by decide +kernel
theorem d_Shm_greatest_5 : decode prog_18_method_22_code 5 = .ok (.lstore 4, 2) := by decide +kernel
theorem d_Shm_greatest_7 : decode prog_18_method_22_code 7 = .ok (.lload 4, 2) := by decide +kernel
theorem d_Shm_greatest_9 : decode prog_18_method_22_code 9 = .ok (.lconst 0, 1) := by decide +kernel
theorem d_Shm_greatest_10 : decode prog_18_method_22_code 10 = .ok (.lcmp, 1) := by decide +kernel
theorem d_Shm_greatest_11 : decode prog_18_method_22_code 11 = .ok (.ifCond .le 35, 3) := by decide +kernel
theorem d_Shm_greatest_14 : decode prog_18_method_22_code 14 = .ok (.lload_n 2, 1) := by decide +kernel
theorem d_Shm_greatest_15 : decode prog_18_method_22_code 15 = .ok (.lload 4, 2) := by decide +kernel
theorem d_Shm_greatest_17 : decode prog_18_method_22_code 17 = .ok (.ladd, 1) := by decide +kernel
theorem d_Shm_greatest_18 : decode prog_18_method_22_code 18 = .ok (.lload_n 2, 1) := by decide +kernel
theorem d_Shm_greatest_19 : decode prog_18_method_22_code 19 = .ok (.lload 4, 2) := by decide +kernel
theorem d_Shm_greatest_21 : decode prog_18_method_22_code 21 = .ok (.ladd, 1) := by decide +kernel
theorem d_Shm_greatest_22 : decode prog_18_method_22_code 22 = .ok (.lmul, 1) := by decide +kernel
theorem d_Shm_greatest_23 : decode prog_18_method_22_code 23 = .ok (.lload_n 0, 1) := by decide +kernel
theorem d_Shm_greatest_24 : decode prog_18_method_22_code 24 = .ok (.lcmp, 1) := by decide +kernel
theorem d_Shm_greatest_25 : decode prog_18_method_22_code 25 = .ok (.ifCond .gt 10, 3) := by decide +kernel
theorem d_Shm_greatest_28 : decode prog_18_method_22_code 28 = .ok (.lload_n 2, 1) := by decide +kernel
theorem d_Shm_greatest_29 : decode prog_18_method_22_code 29 = .ok (.lload 4, 2) := by decide +kernel
theorem d_Shm_greatest_31 : decode prog_18_method_22_code 31 = .ok (.ladd, 1) := by decide +kernel
theorem d_Shm_greatest_32 : decode prog_18_method_22_code 32 = .ok (.goto 4, 3) := by decide +kernel
theorem d_Shm_greatest_35 : decode prog_18_method_22_code 35 = .ok (.lload_n 2, 1) := by decide +kernel
theorem d_Shm_greatest_36 : decode prog_18_method_22_code 36 = .ok (.lstore_n 2, 1) := by decide +kernel
theorem d_Shm_greatest_37 : decode prog_18_method_22_code 37 = .ok (.lload 4, 2) := by decide +kernel
theorem d_Shm_greatest_39 : decode prog_18_method_22_code 39 = .ok (.iconst 1, 1) := by decide +kernel
theorem d_Shm_greatest_40 : decode prog_18_method_22_code 40 = .ok (.lshr, 1) := by decide +kernel
theorem d_Shm_greatest_41 : decode prog_18_method_22_code 41 = .ok (.lstore 4, 2) := by decide +kernel
theorem d_Shm_greatest_43 : decode prog_18_method_22_code 43 = .ok (.goto (-36), 3) := by decide +kernel
theorem d_Shm_greatest_46 : decode prog_18_method_22_code 46 = .ok (.lload_n 2, 1) := by decide +kernel
theorem d_Shm_greatest_47 : decode prog_18_method_22_code 47 = .ok (.l2i, 1) := by decide +kernel
theorem d_Shm_greatest_48 : decode prog_18_method_22_code 48 = .ok (.ireturn, 1) := by decide +kernel
def F_Shm_greatest_36 (rc_7 : Int64 → Int64 → Int64 → Option (Int32))  (v0 : Int64) (v4 : Int64) (s0 : Int64) : Option (Int32) := lt (lshr v4 1) (fun y2 => rc_7 v0 s0 y2)
set_option maxRecDepth 10000 in
set_option maxHeartbeats 4000000 in
theorem bt_Shm_greatest_36 {p : Program} {l : Launch} {e : Env} {R : Room} {s : State} {m : MethodId} {args : Array Value} {below : List Frame} {meth : Method} {c : Code} {D : va_G} {τ : ClassId × ClassId × ClassId} {B : Nat} {A : Nat → Prop} {ad : Nat → Nat} {σ0 : Sg} (E : Cx p R s m args meth c prog_18_method_22_code 6 "DrawingMachineModel$ShaderMachineModel" 0 D τ B A) (hret : meth.sig.returnType = (some .int)) (o : Int32) (rc_7 : Int64 → Int64 → Int64 → Option (Int32)) (hr_7 : ∀ (v0 : Int64) (v2 : Int64) (v4 : Int64) (H : Heap) (locs : List Loc) (ls : Array Slot), rc_7 v0 v2 v4 = some o → Wd s D A (wdM τ σ0 ad) H locs → lv_has ls 6 [(0, .long v0), (2, .long v2), (4, .long v4)] → W p l e R s m args below meth c H locs 0 0 (QI below args s A D τ (wdM τ σ0 ad) o) (F0 m 7 ls [])) (v0 : Int64) (v4 : Int64) (s0 : Int64) (h : F_Shm_greatest_36 rc_7 v0 v4 s0 = some o) {H : Heap} {locs : List Loc} {ls : Array Slot} (w : Wd s D A (wdM τ σ0 ad) H locs) (hl : lv_has ls 6 [(0, .long v0), (4, .long v4)]) : W p l e R s m args below meth c H locs 0 0 (QI below args s A D τ (wdM τ σ0 ad) o) (F0 m 36 ls [.long s0]) := by
  refine lv_lstore_n (lv' := [(2, .long s0), (0, .long v0), (4, .long v4)]) E.x E.b d_Shm_greatest_36 rfl hl (by decide) rfl (fun ls hl => ?_)
  refine lv_lload E.x E.b d_Shm_greatest_37 (lv_at hl 2 rfl) ?_
  refine lv_iconst (v := 1) E.x E.b d_Shm_greatest_39 (by decide) ?_
  refine lv_lshr (v := lshr v4 1) E.x E.b d_Shm_greatest_40 rfl ?_
  obtain ⟨y2, e_y2, h⟩ := lt_some h
  refine wl_e (v := y2) e_y2 ?_
  refine lv_lstore (lv' := [(4, .long y2), (2, .long s0), (0, .long v0)]) E.x E.b d_Shm_greatest_41 hl (by decide) rfl (fun ls hl => ?_)
  refine lv_goto (tgt := 7) E.x E.b d_Shm_greatest_43 (by decide) ?_
  exact hr_7 v0 s0 y2 _ _ _ h w (lv_sub hl [2, 1, 0] rfl)
def L_Shm_greatest_7 : Nat → Int64 → Int64 → Int64 → Option (Int32)
  | 0, _, _, _ => none
  | n + 1, v0, v2, v4 => if v4 ≤ 0 then (some v2.toInt32) else (if v0 < ((v2 + v4) * (v2 + v4)) then (F_Shm_greatest_36 (L_Shm_greatest_7 n) v0 v4 v2) else (F_Shm_greatest_36 (L_Shm_greatest_7 n) v0 v4 (v2 + v4)))
set_option maxRecDepth 10000 in
set_option maxHeartbeats 4000000 in
theorem lt_Shm_greatest_7 {p : Program} {l : Launch} {e : Env} {R : Room} {s : State} {m : MethodId} {args : Array Value} {below : List Frame} {meth : Method} {c : Code} {D : va_G} {τ : ClassId × ClassId × ClassId} {B : Nat} {A : Nat → Prop} {ad : Nat → Nat} {σ0 : Sg} (E : Cx p R s m args meth c prog_18_method_22_code 6 "DrawingMachineModel$ShaderMachineModel" 0 D τ B A) (hret : meth.sig.returnType = (some .int)) (o : Int32) : ∀ (n : Nat) (v0 : Int64) (v2 : Int64) (v4 : Int64) (H : Heap) (locs : List Loc) (ls : Array Slot), L_Shm_greatest_7 n v0 v2 v4 = some o → Wd s D A (wdM τ σ0 ad) H locs → lv_has ls 6 [(0, .long v0), (2, .long v2), (4, .long v4)] → W p l e R s m args below meth c H locs 0 0 (QI below args s A D τ (wdM τ σ0 ad) o) (F0 m 7 ls []) := by
  intro n
  induction n with
  | zero =>
    intro v0 v2 v4 H locs ls h w hl
    cases h
  | succ n hr_7 =>
    intro v0 v2 v4 H locs ls h w hl
    refine lv_lload E.x E.b d_Shm_greatest_7 (lv_at hl 2 rfl) ?_
    refine lv_lconst (v := 0) E.x E.b d_Shm_greatest_9 (by decide) ?_
    refine W.lcmp E.x E.b d_Shm_greatest_10 ?_
    refine lv_if_le (tgt := 46) E.x E.b d_Shm_greatest_11 (by decide) (fun c => ?_) (fun c => ?_)
    ·
      replace h := ifT (lgc_le.mp c) h
      refine lv_lload_n E.x E.b d_Shm_greatest_46 rfl (lv_at hl 1 rfl) ?_
      refine lv_l2i (v := v2.toInt32) E.x E.b d_Shm_greatest_47 rfl ?_
      obtain rfl := Option.some.inj h
      exact rt_i E w hret d_Shm_greatest_48
    ·
      replace h := ifF (fun h9 => c (lgc_le.mpr h9)) h
      refine lv_lload_n E.x E.b d_Shm_greatest_14 rfl (lv_at hl 1 rfl) ?_
      refine lv_lload E.x E.b d_Shm_greatest_15 (lv_at hl 2 rfl) ?_
      refine lv_ladd E.x E.b d_Shm_greatest_17 ?_
      refine lv_lload_n E.x E.b d_Shm_greatest_18 rfl (lv_at hl 1 rfl) ?_
      refine lv_lload E.x E.b d_Shm_greatest_19 (lv_at hl 2 rfl) ?_
      refine lv_ladd E.x E.b d_Shm_greatest_21 ?_
      refine lv_lmul E.x E.b d_Shm_greatest_22 ?_
      refine lv_lload_n E.x E.b d_Shm_greatest_23 rfl (lv_at hl 0 rfl) ?_
      refine W.lcmp E.x E.b d_Shm_greatest_24 ?_
      refine lv_if_gt (tgt := 35) E.x E.b d_Shm_greatest_25 (by decide) (fun c => ?_) (fun c => ?_)
      ·
        replace h := ifT (lgc_gt.mp c) h
        refine lv_lload_n E.x E.b d_Shm_greatest_35 rfl (lv_at hl 1 rfl) ?_
        exact bt_Shm_greatest_36 E hret o (L_Shm_greatest_7 n) hr_7 v0 v4 v2 h w (lv_sub hl [0, 2] rfl)
      ·
        replace h := ifF (fun h9 => c (lgc_gt.mpr h9)) h
        refine lv_lload_n E.x E.b d_Shm_greatest_28 rfl (lv_at hl 1 rfl) ?_
        refine lv_lload E.x E.b d_Shm_greatest_29 (lv_at hl 2 rfl) ?_
        refine lv_ladd E.x E.b d_Shm_greatest_31 ?_
        refine lv_goto (tgt := 36) E.x E.b d_Shm_greatest_32 (by decide) ?_
        exact bt_Shm_greatest_36 E hret o (L_Shm_greatest_7 n) hr_7 v0 v4 (v2 + v4) h w (lv_sub hl [0, 2] rfl)
def F_Shm_greatest  (x0 : Int64) : Option (Int32) := L_Shm_greatest_7 100000 x0 0 16777216
set_option maxRecDepth 10000 in
set_option maxHeartbeats 4000000 in
theorem c_Shm_greatest (l : Launch) (D : va_G) (τ : ClassId × ClassId × ClassId) (B : Nat) (σ0 : Sg) (ad : Nat → Nat) (x0 : Int64) (o : Int32) (h : F_Shm_greatest x0 = some o) : MI l y_Shm_greatest (Cond.code y_Shm_greatest prog_18_method_22_code 6 (some .int)) 0 D τ B [.long x0] (wdM τ σ0 ad) (wdM τ σ0 ad) o := by
  refine en_i (by decide) (Nat.le_of_ble_eq_true rfl) ?_
  intro p e R s m args below meth c H locs ls A E hret w hl
  have E : Cx p R s m args meth c prog_18_method_22_code 6 "DrawingMachineModel$ShaderMachineModel" 0 D τ B A := E
  have hl : lv_has ls 6 [(0, .long x0)] := hl
  refine lv_lconst (v := 0) E.x E.b d_Shm_greatest_0 (by decide) ?_
  refine lv_lstore_n (lv' := [(2, .long 0), (0, .long x0)]) E.x E.b d_Shm_greatest_1 rfl hl (by decide) rfl (fun ls hl => ?_)
  refine lv_ldc2 (v := 16777216) E.x E.b E.o (E.w _ k2226) d_Shm_greatest_2 ?_
  refine lv_lstore (lv' := [(4, .long 16777216), (2, .long 0), (0, .long x0)]) E.x E.b d_Shm_greatest_5 hl (by decide) rfl (fun ls hl => ?_)
  exact lt_Shm_greatest_7 E hret o 100000 x0 0 16777216 _ _ _ h w (lv_sub hl [2, 1, 0] rfl)
theorem clS_Shm_greatest {p : Program} {l : Launch} {e : Env} {R : Room} {s : State} {m : MethodId} {args : Array Value} {below : List Frame} {meth : Method} {c : Code} {H : Heap} {locs : List Loc} {Q : State → Prop} {cc : ByteArray} {nL pc lev : Nat} {own : String} {D : va_G} {τ : ClassId × ClassId × ClassId} {B : Nat} {A : Nat → Prop} {σ : Sg} {ad : Nat → Nat} {ls : Array Slot} {rest : List Value} (E : Cx p R s m args meth c cc nL own lev D τ B A) (w : Wd s D A (wdM τ σ ad) H locs) {x0 : Int64} {o : Int32} (h : F_Shm_greatest x0 = some o) {index : Nat} (hlk : Cond.methodLink own index y_Shm_greatest ∈ tw) (hlev : 0 < lev) (hsz : ls.size = nL) (hr : (rest.map fun v => v.category).sum ≤ 8) (hd : decode cc pc = .ok (.invokestatic index, 3)) (kk : ∀ (H1 : Heap) (locs1 : List Loc), Wd s D A (wdM τ σ ad) H1 locs1 → W p l e R s m args below meth c H1 locs1 0 0 Q (F0 m (pc + 3) ls (.int o :: rest))) : W p l e R s m args below meth c H locs 0 0 Q (F0 m pc ls (.long x0 :: rest)) :=
  cr_i w E.C (va_runS (As := [.long x0]) (rest := rest) E.fix (c_Shm_greatest l D τ B σ ad x0 o h H.size) (va_cwS 1 E.w (tw_pre (tw_good k2225) (l := [_, _, _]) (List.forall_mem_cons.mpr ⟨hlk, List.forall_mem_cons.mpr ⟨k2224, List.forall_mem_cons.mpr ⟨k17, fun _ h => absurd h List.not_mem_nil⟩⟩⟩)) rfl rfl rfl (by decide +kernel) (E.rm hlev (by decide))) (wd_pre w E.C [.long x0]) rfl rfl hsz rfl (lv_room hr) hd ⟨Nat.zero_le _, Nat.zero_le _⟩) kk

theorem d_Shm_product_0 : decode prog_18_method_20_code 0 = .ok (.iload_n 0, 1) := by decide +kernel
theorem d_Shm_product_1 : decode prog_18_method_20_code 1 = .ok (.i2l, 1) := by decide +kernel
theorem d_Shm_product_2 : decode prog_18_method_20_code 2 = .ok (.iload_n 1, 1) := by decide +kernel
theorem d_Shm_product_3 : decode prog_18_method_20_code 3 = .ok (.i2l, 1) := by decide +kernel
theorem d_Shm_product_4 : decode prog_18_method_20_code 4 = .ok (.lmul, 1) := by decide +kernel
theorem d_Shm_product_5 : decode prog_18_method_20_code 5 = .ok (.bipush 16, 2) := by decide +kernel
theorem d_Shm_product_7 : decode prog_18_method_20_code 7 = .ok (.lshr, 1) := by decide +kernel
theorem d_Shm_product_8 : decode prog_18_method_20_code 8 = .ok (.l2i, 1) := by decide +kernel
theorem d_Shm_product_9 : decode prog_18_method_20_code 9 = .ok (.ireturn, 1) := by decide +kernel
def F_Shm_product  (x0 : Int32) (x1 : Int32) : Option (Int32) := some ((lshr (x0.toInt64 * x1.toInt64) 16).toInt32)
set_option maxRecDepth 10000 in
set_option maxHeartbeats 4000000 in
theorem c_Shm_product (l : Launch) (D : va_G) (τ : ClassId × ClassId × ClassId) (B : Nat) (σ0 : Sg) (ad : Nat → Nat) (x0 : Int32) (x1 : Int32) (o : Int32) (h : F_Shm_product x0 x1 = some o) : MI l y_Shm_product (Cond.code y_Shm_product prog_18_method_20_code 2 (some .int)) 0 D τ B [.int x0, .int x1] (wdM τ σ0 ad) (wdM τ σ0 ad) o := by
  refine en_i (by decide) (Nat.le_of_ble_eq_true rfl) ?_
  intro p e R s m args below meth c H locs ls A E hret w hl
  have E : Cx p R s m args meth c prog_18_method_20_code 2 "DrawingMachineModel$ShaderMachineModel" 0 D τ B A := E
  have hl : lv_has ls 2 [(0, .int x0), (1, .int x1)] := hl
  refine lv_iload_n E.x E.b d_Shm_product_0 rfl (lv_at hl 0 rfl) ?_
  refine lv_i2l (v := x0.toInt64) E.x E.b d_Shm_product_1 rfl ?_
  refine lv_iload_n E.x E.b d_Shm_product_2 rfl (lv_at hl 1 rfl) ?_
  refine lv_i2l (v := x1.toInt64) E.x E.b d_Shm_product_3 rfl ?_
  refine lv_lmul E.x E.b d_Shm_product_4 ?_
  refine lv_bipush (v := 16) E.x E.b d_Shm_product_5 (by decide) ?_
  refine lv_lshr (v := lshr (x0.toInt64 * x1.toInt64) 16) E.x E.b d_Shm_product_7 rfl ?_
  refine lv_l2i (v := (lshr (x0.toInt64 * x1.toInt64) 16).toInt32) E.x E.b d_Shm_product_8 rfl ?_
  obtain rfl := Option.some.inj h
  exact rt_i E w hret d_Shm_product_9
theorem clS_Shm_product {p : Program} {l : Launch} {e : Env} {R : Room} {s : State} {m : MethodId} {args : Array Value} {below : List Frame} {meth : Method} {c : Code} {H : Heap} {locs : List Loc} {Q : State → Prop} {cc : ByteArray} {nL pc lev : Nat} {own : String} {D : va_G} {τ : ClassId × ClassId × ClassId} {B : Nat} {A : Nat → Prop} {σ : Sg} {ad : Nat → Nat} {ls : Array Slot} {rest : List Value} (E : Cx p R s m args meth c cc nL own lev D τ B A) (w : Wd s D A (wdM τ σ ad) H locs) {x0 : Int32} {x1 : Int32} {o : Int32} (h : F_Shm_product x0 x1 = some o) {index : Nat} (hlk : Cond.methodLink own index y_Shm_product ∈ tw) (hlev : 0 < lev) (hsz : ls.size = nL) (hr : (rest.map fun v => v.category).sum ≤ 8) (hd : decode cc pc = .ok (.invokestatic index, 3)) (kk : ∀ (H1 : Heap) (locs1 : List Loc), Wd s D A (wdM τ σ ad) H1 locs1 → W p l e R s m args below meth c H1 locs1 0 0 Q (F0 m (pc + 3) ls (.int o :: rest))) : W p l e R s m args below meth c H locs 0 0 Q (F0 m pc ls (.int x1 :: .int x0 :: rest)) :=
  cr_i w E.C (va_runS (As := [.int x0, .int x1]) (rest := rest) E.fix (c_Shm_product l D τ B σ ad x0 x1 o h H.size) (va_cwS 2 E.w (tw_pre (tw_good k2212) (l := [_, _, _]) (List.forall_mem_cons.mpr ⟨hlk, List.forall_mem_cons.mpr ⟨k2211, List.forall_mem_cons.mpr ⟨k17, fun _ h => absurd h List.not_mem_nil⟩⟩⟩)) rfl rfl rfl (by decide +kernel) (E.rm hlev (by decide))) (wd_pre w E.C [.int x0, .int x1]) rfl rfl hsz rfl (lv_room hr) hd ⟨Nat.zero_le _, Nat.zero_le _⟩) kk

theorem d_Txm_in_0 : decode prog_19_method_3_code 0 = .ok (.iload_n 0, 1) := by decide +kernel
theorem d_Txm_in_1 : decode prog_19_method_3_code 1 = .ok (.iload_n 1, 1) := by decide +kernel
theorem d_Txm_in_2 : decode prog_19_method_3_code 2 = .ok (.if_icmp .lt 12, 3) := by decide +kernel
theorem d_Txm_in_5 : decode prog_19_method_3_code 5 = .ok (.iload_n 0, 1) := by decide +kernel
theorem d_Txm_in_6 : decode prog_19_method_3_code 6 = .ok (.iload_n 2, 1) := by decide +kernel
theorem d_Txm_in_7 : decode prog_19_method_3_code 7 = .ok (.if_icmp .gt 7, 3) := by decide +kernel
theorem d_Txm_in_10 : decode prog_19_method_3_code 10 = .ok (.iconst 1, 1) := by decide +kernel
theorem d_Txm_in_11 : decode prog_19_method_3_code 11 = .ok (.goto 4, 3) := by decide +kernel
theorem d_Txm_in_14 : decode prog_19_method_3_code 14 = .ok (.iconst 0, 1) := by decide +kernel
theorem d_Txm_in_15 : decode prog_19_method_3_code 15 = .ok (.ireturn, 1) := by decide +kernel
def F_Txm_in_15  (s0 : Int32) : Option (Int32) := ck (s0 = 0 ∨ s0 = 1) (some s0)
set_option maxRecDepth 10000 in
set_option maxHeartbeats 4000000 in
theorem bt_Txm_in_15 {p : Program} {l : Launch} {e : Env} {R : Room} {s : State} {m : MethodId} {args : Array Value} {below : List Frame} {meth : Method} {c : Code} {D : va_G} {τ : ClassId × ClassId × ClassId} {B : Nat} {A : Nat → Prop} {ad : Nat → Nat} {σ0 : Sg} (E : Cx p R s m args meth c prog_19_method_3_code 3 "DrawingMachineModel$TextureUnitsModel" 0 D τ B A) (hret : meth.sig.returnType = (some .boolean)) (o : Int32) (s0 : Int32) (h : F_Txm_in_15 s0 = some o) {H : Heap} {locs : List Loc} {ls : Array Slot} (w : Wd s D A (wdM τ σ0 ad) H locs) (hl : lv_has ls 3 []) : W p l e R s m args below meth c H locs 0 0 (QI below args s A D τ (wdM τ σ0 ad) o) (F0 m 15 ls [.int s0]) := by
  obtain ⟨c2, h⟩ := ck_some h
  obtain rfl := Option.some.inj h
  exact rt_z E w hret c2 d_Txm_in_15
def F_Txm_in_14  : Option (Int32) := F_Txm_in_15 0
set_option maxRecDepth 10000 in
set_option maxHeartbeats 4000000 in
theorem bt_Txm_in_14 {p : Program} {l : Launch} {e : Env} {R : Room} {s : State} {m : MethodId} {args : Array Value} {below : List Frame} {meth : Method} {c : Code} {D : va_G} {τ : ClassId × ClassId × ClassId} {B : Nat} {A : Nat → Prop} {ad : Nat → Nat} {σ0 : Sg} (E : Cx p R s m args meth c prog_19_method_3_code 3 "DrawingMachineModel$TextureUnitsModel" 0 D τ B A) (hret : meth.sig.returnType = (some .boolean)) (o : Int32) (h : F_Txm_in_14 = some o) {H : Heap} {locs : List Loc} {ls : Array Slot} (w : Wd s D A (wdM τ σ0 ad) H locs) (hl : lv_has ls 3 []) : W p l e R s m args below meth c H locs 0 0 (QI below args s A D τ (wdM τ σ0 ad) o) (F0 m 14 ls []) := by
  refine lv_iconst (v := 0) E.x E.b d_Txm_in_14 (by decide) ?_
  exact bt_Txm_in_15 E hret o 0 h w (lv_sub hl [] rfl)
def F_Txm_in  (x0 : Int32) (x1 : Int32) (x2 : Int32) : Option (Int32) := if x0 < x1 then (F_Txm_in_14) else (if x2 < x0 then (F_Txm_in_14) else (F_Txm_in_15 1))
set_option maxRecDepth 10000 in
set_option maxHeartbeats 4000000 in
theorem c_Txm_in (l : Launch) (D : va_G) (τ : ClassId × ClassId × ClassId) (B : Nat) (σ0 : Sg) (ad : Nat → Nat) (x0 : Int32) (x1 : Int32) (x2 : Int32) (o : Int32) (h : F_Txm_in x0 x1 x2 = some o) : MI l y_Txm_in (Cond.code y_Txm_in prog_19_method_3_code 3 (some .boolean)) 0 D τ B [.int x0, .int x1, .int x2] (wdM τ σ0 ad) (wdM τ σ0 ad) o := by
  refine en_i (by decide) (Nat.le_of_ble_eq_true rfl) ?_
  intro p e R s m args below meth c H locs ls A E hret w hl
  have E : Cx p R s m args meth c prog_19_method_3_code 3 "DrawingMachineModel$TextureUnitsModel" 0 D τ B A := E
  have hl : lv_has ls 3 [(0, .int x0), (1, .int x1), (2, .int x2)] := hl
  refine lv_iload_n E.x E.b d_Txm_in_0 rfl (lv_at hl 0 rfl) ?_
  refine lv_iload_n E.x E.b d_Txm_in_1 rfl (lv_at hl 1 rfl) ?_
  refine lv_icmp_lt (tgt := 14) E.x E.b d_Txm_in_2 (by decide) (fun c => ?_) (fun c => ?_)
  ·
    replace h := ifT c h
    exact bt_Txm_in_14 E hret o h w (lv_sub hl [] rfl)
  ·
    replace h := ifF c h
    refine lv_iload_n E.x E.b d_Txm_in_5 rfl (lv_at hl 0 rfl) ?_
    refine lv_iload_n E.x E.b d_Txm_in_6 rfl (lv_at hl 2 rfl) ?_
    refine lv_icmp_gt (tgt := 14) E.x E.b d_Txm_in_7 (by decide) (fun c => ?_) (fun c => ?_)
    ·
      replace h := ifT c h
      exact bt_Txm_in_14 E hret o h w (lv_sub hl [] rfl)
    ·
      replace h := ifF c h
      refine lv_iconst (v := 1) E.x E.b d_Txm_in_10 (by decide) ?_
      refine lv_goto (tgt := 15) E.x E.b d_Txm_in_11 (by decide) ?_
      exact bt_Txm_in_15 E hret o 1 h w (lv_sub hl [] rfl)
theorem clS_Txm_in {p : Program} {l : Launch} {e : Env} {R : Room} {s : State} {m : MethodId} {args : Array Value} {below : List Frame} {meth : Method} {c : Code} {H : Heap} {locs : List Loc} {Q : State → Prop} {cc : ByteArray} {nL pc lev : Nat} {own : String} {D : va_G} {τ : ClassId × ClassId × ClassId} {B : Nat} {A : Nat → Prop} {σ : Sg} {ad : Nat → Nat} {ls : Array Slot} {rest : List Value} (E : Cx p R s m args meth c cc nL own lev D τ B A) (w : Wd s D A (wdM τ σ ad) H locs) {x0 : Int32} {x1 : Int32} {x2 : Int32} {o : Int32} (h : F_Txm_in x0 x1 x2 = some o) {index : Nat} (hlk : Cond.methodLink own index y_Txm_in ∈ tw) (hlev : 0 < lev) (hsz : ls.size = nL) (hr : (rest.map fun v => v.category).sum ≤ 8) (hd : decode cc pc = .ok (.invokestatic index, 3)) (kk : ∀ (H1 : Heap) (locs1 : List Loc), Wd s D A (wdM τ σ ad) H1 locs1 → W p l e R s m args below meth c H1 locs1 0 0 Q (F0 m (pc + 3) ls (.int o :: rest))) : W p l e R s m args below meth c H locs 0 0 Q (F0 m pc ls (.int x2 :: .int x1 :: .int x0 :: rest)) :=
  cr_i w E.C (va_runS (As := [.int x0, .int x1, .int x2]) (rest := rest) E.fix (c_Txm_in l D τ B σ ad x0 x1 x2 o h H.size) (va_cwS 3 E.w (tw_pre (tw_good k2046) (l := [_, _, _]) (List.forall_mem_cons.mpr ⟨hlk, List.forall_mem_cons.mpr ⟨k2045, List.forall_mem_cons.mpr ⟨k16, fun _ h => absurd h List.not_mem_nil⟩⟩⟩)) rfl rfl rfl (by decide +kernel) (E.rm hlev (by decide))) (wd_pre w E.C [.int x0, .int x1, .int x2]) rfl rfl hsz rfl (lv_room hr) hd ⟨Nat.zero_le _, Nat.zero_le _⟩) kk

theorem d_Txm_refuse_0 : decode prog_19_method_2_code 0 = .ok (.aload_n 0, 1) := by decide +kernel
theorem d_Txm_refuse_1 : decode prog_19_method_2_code 1 = .ok (.iload_n 1, 1) := by decide +kernel
theorem d_Txm_refuse_2 : decode prog_19_method_2_code 2 = .ok (.ifCond .eq 7, 3) := by decide +kernel
theorem d_Txm_refuse_5 : decode prog_19_method_2_code 5 = .ok (.iconst 1, 1) := by decide +kernel
theorem d_Txm_refuse_6 : decode prog_19_method_2_code 6 = .ok (.goto 12, 3) := by decide +kernel
theorem d_Txm_refuse_9 : decode prog_19_method_2_code 9 = .ok (.iload_n 2, 1) := by decide +kernel
theorem d_Txm_refuse_10 : decode prog_19_method_2_code 10 = .ok (.ifCond .eq 7, 3) := by decide +kernel
theorem d_Txm_refuse_13 : decode prog_19_method_2_code 13 = .ok (.iconst 2, 1) := by decide +kernel
theorem d_Txm_refuse_14 : decode prog_19_method_2_code 14 = .ok (.goto 4, 3) := by decide +kernel
theorem d_Txm_refuse_17 : decode prog_19_method_2_code 17 = .ok (.iconst 0, 1) := by decide +kernel
theorem d_Txm_refuse_18 : decode prog_19_method_2_code 18 = .ok (.putfield 40, 3) := by decide +kernel
theorem d_Txm_refuse_21 : decode prog_19_method_2_code 21 = .ok (.aload_n 0, 1) := by decide +kernel
theorem d_Txm_refuse_22 : decode prog_19_method_2_code 22 = .ok (.getfield 40, 3) := by decide +kernel
theorem d_Txm_refuse_25 : decode prog_19_method_2_code 25 = .ok (.ifCond .le 7, 3) := by decide +kernel
theorem d_Txm_refuse_28 : decode prog_19_method_2_code 28 = .ok (.iconst 1, 1) := by decide +kernel
theorem d_Txm_refuse_29 : decode prog_19_method_2_code 29 = .ok (.goto 4, 3) := by decide +kernel
theorem d_Txm_refuse_32 : decode prog_19_method_2_code 32 = .ok (.iconst 0, 1) := by decide +kernel
theorem d_Txm_refuse_33 : decode prog_19_method_2_code 33 = .ok (.ireturn, 1) := by decide +kernel
def F_Txm_refuse_33 (σ : Sg) (s0 : Int32) : Option (Sg × Int32) := ck (s0 = 0 ∨ s0 = 1) (some (σ, s0))
set_option maxRecDepth 10000 in
set_option maxHeartbeats 4000000 in
theorem bt_Txm_refuse_33 {p : Program} {l : Launch} {e : Env} {R : Room} {s : State} {m : MethodId} {args : Array Value} {below : List Frame} {meth : Method} {c : Code} {D : va_G} {τ : ClassId × ClassId × ClassId} {B : Nat} {A : Nat → Prop} {ad : Nat → Nat} (E : Cx p R s m args meth c prog_19_method_2_code 3 "DrawingMachineModel$TextureUnitsModel" 0 D τ B A) (hret : meth.sig.returnType = (some .boolean)) (o : Sg × Int32) (σ : Sg) (s0 : Int32) (h : F_Txm_refuse_33 σ s0 = some o) {H : Heap} {locs : List Loc} {ls : Array Slot} (w : Wd s D A (wdM τ σ ad) H locs) (hl : lv_has ls 3 []) : W p l e R s m args below meth c H locs 0 0 (QI below args s A D τ (wdM τ o.1 ad) o.2) (F0 m 33 ls [.int s0]) := by
  obtain ⟨c3, h⟩ := ck_some h
  obtain rfl := Option.some.inj h
  exact rt_z E w hret c3 d_Txm_refuse_33
def F_Txm_refuse_18 (σ : Sg) (s1 : Int32) : Option (Sg × Int32) := lt (sI σ 20 s1) (fun σ4 => if (σ4.1 20) ≤ 0 then (F_Txm_refuse_33 σ4 0) else (F_Txm_refuse_33 σ4 1))
set_option maxRecDepth 10000 in
set_option maxHeartbeats 4000000 in
theorem bt_Txm_refuse_18 {p : Program} {l : Launch} {e : Env} {R : Room} {s : State} {m : MethodId} {args : Array Value} {below : List Frame} {meth : Method} {c : Code} {D : va_G} {τ : ClassId × ClassId × ClassId} {B : Nat} {A : Nat → Prop} {ad : Nat → Nat} (E : Cx p R s m args meth c prog_19_method_2_code 3 "DrawingMachineModel$TextureUnitsModel" 0 D τ B A) (hret : meth.sig.returnType = (some .boolean)) (o : Sg × Int32) (σ : Sg) (s1 : Int32) (h : F_Txm_refuse_18 σ s1 = some o) {H : Heap} {locs : List Loc} {ls : Array Slot} (w : Wd s D A (wdM τ σ ad) H locs) (hl : lv_has ls 3 [(0, .ref (ad 61))]) : W p l e R s m args below meth c H locs 0 0 (QI below args s A D τ (wdM τ o.1 ad) o.2) (F0 m 18 ls [.int s1, .ref (ad 61)]) := by
  obtain ⟨σ4, e_σ4, h⟩ := lt_some h
  refine pM_Txm_thrown E w k1513 e_σ4 d_Txm_refuse_18 (fun H locs w => ?_)
  refine lv_aload_n E.x E.b d_Txm_refuse_21 rfl (lv_at hl 0 rfl) ?_
  refine gM_Txm_thrown E w k1513 d_Txm_refuse_22 ?_
  refine lv_if_le (tgt := 32) E.x E.b d_Txm_refuse_25 (by decide) (fun c => ?_) (fun c => ?_)
  ·
    replace h := ifT c h
    refine lv_iconst (v := 0) E.x E.b d_Txm_refuse_32 (by decide) ?_
    exact bt_Txm_refuse_33 E hret o σ4 0 h w (lv_sub hl [] rfl)
  ·
    replace h := ifF c h
    refine lv_iconst (v := 1) E.x E.b d_Txm_refuse_28 (by decide) ?_
    refine lv_goto (tgt := 33) E.x E.b d_Txm_refuse_29 (by decide) ?_
    exact bt_Txm_refuse_33 E hret o σ4 1 h w (lv_sub hl [] rfl)
def F_Txm_refuse (σ : Sg) (x0 : Int32) (x1 : Int32) : Option (Sg × Int32) := if x0 = 0 then (if x1 = 0 then (F_Txm_refuse_18 σ 0) else (F_Txm_refuse_18 σ 2)) else (F_Txm_refuse_18 σ 1)
set_option maxRecDepth 10000 in
set_option maxHeartbeats 4000000 in
theorem c_Txm_refuse (l : Launch) (D : va_G) (τ : ClassId × ClassId × ClassId) (B : Nat) (σ : Sg) (ad : Nat → Nat) (x0 : Int32) (x1 : Int32) (o : Sg × Int32) (h : F_Txm_refuse σ x0 x1 = some o) : MI l y_Txm_refuse (Cond.code y_Txm_refuse prog_19_method_2_code 3 (some .boolean)) 0 D τ B [.ref (ad 61), .int x0, .int x1] (wdM τ σ ad) (wdM τ o.1 ad) o.2 := by
  refine en_i (by decide) (Nat.le_of_ble_eq_true rfl) ?_
  intro p e R s m args below meth c H locs ls A E hret w hl
  have E : Cx p R s m args meth c prog_19_method_2_code 3 "DrawingMachineModel$TextureUnitsModel" 0 D τ B A := E
  have hl : lv_has ls 3 [(0, .ref (ad 61)), (1, .int x0), (2, .int x1)] := hl
  refine lv_aload_n E.x E.b d_Txm_refuse_0 rfl (lv_at hl 0 rfl) ?_
  refine lv_iload_n E.x E.b d_Txm_refuse_1 rfl (lv_at hl 1 rfl) ?_
  refine lv_if_eq (tgt := 9) E.x E.b d_Txm_refuse_2 (by decide) (fun c => ?_) (fun c => ?_)
  ·
    replace h := ifT c h
    refine lv_iload_n E.x E.b d_Txm_refuse_9 rfl (lv_at hl 2 rfl) ?_
    refine lv_if_eq (tgt := 17) E.x E.b d_Txm_refuse_10 (by decide) (fun c => ?_) (fun c => ?_)
    ·
      replace h := ifT c h
      refine lv_iconst (v := 0) E.x E.b d_Txm_refuse_17 (by decide) ?_
      exact bt_Txm_refuse_18 E hret o σ 0 h w (lv_sub hl [0] rfl)
    ·
      replace h := ifF c h
      refine lv_iconst (v := 2) E.x E.b d_Txm_refuse_13 (by decide) ?_
      refine lv_goto (tgt := 18) E.x E.b d_Txm_refuse_14 (by decide) ?_
      exact bt_Txm_refuse_18 E hret o σ 2 h w (lv_sub hl [0] rfl)
  ·
    replace h := ifF c h
    refine lv_iconst (v := 1) E.x E.b d_Txm_refuse_5 (by decide) ?_
    refine lv_goto (tgt := 18) E.x E.b d_Txm_refuse_6 (by decide) ?_
    exact bt_Txm_refuse_18 E hret o σ 1 h w (lv_sub hl [0] rfl)
theorem clV_Txm_refuse {p : Program} {l : Launch} {e : Env} {R : Room} {s : State} {m : MethodId} {args : Array Value} {below : List Frame} {meth : Method} {c : Code} {H : Heap} {locs : List Loc} {Q : State → Prop} {cc : ByteArray} {nL pc lev : Nat} {own : String} {D : va_G} {τ : ClassId × ClassId × ClassId} {B : Nat} {A : Nat → Prop} {σ : Sg} {ad : Nat → Nat} {ls : Array Slot} {rest : List Value} (E : Cx p R s m args meth c cc nL own lev D τ B A) (w : Wd s D A (wdM τ σ ad) H locs) {x0 : Int32} {x1 : Int32} {o : Sg × Int32} (h : F_Txm_refuse σ x0 x1 = some o) {index : Nat} (hlk : Cond.methodLink own index y_Txm_refuse ∈ tw) (hlev : 0 < lev) (hsz : ls.size = nL) (hr : (rest.map fun v => v.category).sum ≤ 8) (hd : decode cc pc = .ok (.invokevirtual index, 3)) (kk : ∀ (H1 : Heap) (locs1 : List Loc), Wd s D A (wdM τ o.1 ad) H1 locs1 → W p l e R s m args below meth c H1 locs1 0 0 Q (F0 m (pc + 3) ls (.int o.2 :: rest))) : W p l e R s m args below meth c H locs 0 0 Q (F0 m pc ls (.int x1 :: .int x0 :: .ref (ad 61) :: rest)) :=
  cr_i w E.C (va_runV (As := [.int x0, .int x1]) (rest := rest) E.fix (c_Txm_refuse l D τ B σ ad x0 x1 o h H.size) (cwV 2 E.w (tw_pre (tw_good k2050) (l := [_, _, _, _]) (List.forall_mem_cons.mpr ⟨hlk, List.forall_mem_cons.mpr ⟨k2049, List.forall_mem_cons.mpr ⟨ks61, List.forall_mem_cons.mpr ⟨k16, fun _ h => absurd h List.not_mem_nil⟩⟩⟩⟩)) rfl rfl rfl (by decide +kernel) (E.rm hlev (by decide))) (wd_preV w E.C [.int x0, .int x1] rcM_Txm rfl) rfl rfl hsz rfl (lv_room hr) hd ⟨Nat.zero_le _, Nat.zero_le _⟩) kk
