theorem d_Shm_put_0 : decode prog_18_method_28_code 0 = .ok (.iconst 0, 1) := by decide +kernel
theorem d_Shm_put_1 : decode prog_18_method_28_code 1 = .ok (.istore_n 3, 1) := by decide +kernel
theorem d_Shm_put_2 : decode prog_18_method_28_code 2 = .ok (.iload_n 3, 1) := by decide +kernel
theorem d_Shm_put_3 : decode prog_18_method_28_code 3 = .ok (.iconst 4, 1) := by decide +kernel
theorem d_Shm_put_4 : decode prog_18_method_28_code 4 = .ok (.if_icmp .ge 60, 3) := by decide +kernel
theorem d_Shm_put_7 : decode prog_18_method_28_code 7 = .ok (.aload_n 0, 1) := by decide +kernel
theorem d_Shm_put_8 : decode prog_18_method_28_code 8 = .ok (.iload_n 2, 1) := by decide +kernel
theorem d_Shm_put_9 : decode prog_18_method_28_code 9 = .ok (.iload_n 3, 1) := by decide +kernel
theorem d_Shm_put_10 : decode prog_18_method_28_code 10 = .ok (.invokevirtual 171, 3) := by decide +kernel
theorem d_Shm_put_13 : decode prog_18_method_28_code 13 = .ok (.istore 4, 2) := by decide +kernel
theorem d_Shm_put_15 : decode prog_18_method_28_code 15 = .ok (.aload_n 0, 1) := by decide +kernel
theorem d_Shm_put_16 : decode prog_18_method_28_code 16 = .ok (.getfield 35, 3) := by decide +kernel
theorem d_Shm_put_19 : decode prog_18_method_28_code 19 = .ok (.iload_n 3, 1) := by decide +kernel
theorem d_Shm_put_20 : decode prog_18_method_28_code 20 = .ok (.iload_n 1, 1) := by decide +kernel
theorem d_Shm_put_21 : decode prog_18_method_28_code 21 = .ok (.bipush 16, 2) := by decide +kernel
theorem d_Shm_put_23 : decode prog_18_method_28_code 23 = .ok (.ishr, 1) := by decide +kernel
theorem d_Shm_put_24 : decode prog_18_method_28_code 24 = .ok (.iconst 1, 1) := by decide +kernel
theorem d_Shm_put_25 : decode prog_18_method_28_code 25 = .ok (.iand, 1) := by decide +kernel
theorem d_Shm_put_26 : decode prog_18_method_28_code 26 = .ok (.ifCond .ne 8, 3) := by decide +kernel
theorem d_Shm_put_29 : decode prog_18_method_28_code 29 = .ok (.iload 4, 2) := by decide +kernel
theorem d_Shm_put_31 : decode prog_18_method_28_code 31 = .ok (.goto 26, 3) := by decide +kernel
theorem d_Shm_put_34 : decode prog_18_method_28_code 34 = .ok (.iload 4, 2) := by decide +kernel
theorem d_Shm_put_36 : decode prog_18_method_28_code 36 = .ok (.ifCond .ge 7, 3) := by decide +kernel
theorem d_Shm_put_39 : decode prog_18_method_28_code 39 = .ok (.iconst 0, 1) := by decide +kernel
theorem d_Shm_put_40 : decode prog_18_method_28_code 40 = .ok (.goto 17, 3) := by decide +kernel
theorem d_Shm_put_43 : decode prog_18_method_28_code 43 = .ok (.iload 4, 2) := by decide +kernel
theorem d_Shm_put_45 : decode prog_18_method_28_code 45 = .ok (.ldc 150, 2) := by decide +kernel
theorem d_Shm_put_47 : decode prog_18_method_28_code 47 = .ok (.if_icmp .le 8, 3) := by decide +kernel
theorem d_Shm_put_50 : decode prog_18_method_28_code 50 = .ok (.ldc 150, 2) := by decide +kernel
theorem d_Shm_put_52 : decode prog_18_method_28_code 52 = .ok (.goto 5, 3) := by decide +kernel
theorem d_Shm_put_55 : decode prog_18_method_28_code 55 = .ok (.iload 4, 2) := by decide +kernel
theorem d_Shm_put_57 : decode prog_18_method_28_code 57 = .ok (.iastore, 1) := by decide +kernel
theorem d_Shm_put_58 : decode prog_18_method_28_code 58 = .ok (.iinc 3 1, 3) := by decide +kernel
theorem d_Shm_put_61 : decode prog_18_method_28_code 61 = .ok (.goto (-59), 3) := by decide +kernel
theorem d_Shm_put_64 : decode prog_18_method_28_code 64 = .ok (.iconst 0, 1) := by decide +kernel
theorem d_Shm_put_65 : decode prog_18_method_28_code 65 = .ok (.istore_n 3, 1) := by decide +kernel
theorem d_Shm_put_66 : decode prog_18_method_28_code 66 = .ok (.iload_n 3, 1) := by decide +kernel
theorem d_Shm_put_67 : decode prog_18_method_28_code 67 = .ok (.iconst 4, 1) := by decide +kernel
theorem d_Shm_put_68 : decode prog_18_method_28_code 68 = .ok (.if_icmp .ge 72, 3) := by decide +kernel
theorem d_Shm_put_71 : decode prog_18_method_28_code 71 = .ok (.iload_n 1, 1) := by decide +kernel
theorem d_Shm_put_72 : decode prog_18_method_28_code 72 = .ok (.bipush 12, 2) := by decide +kernel
theorem d_Shm_put_74 : decode prog_18_method_28_code 74 = .ok (.iload_n 3, 1) := by decide +kernel
theorem d_Shm_put_75 : decode prog_18_method_28_code 75 = .ok (.iadd, 1) := by decide +kernel
theorem d_Shm_put_76 : decode prog_18_method_28_code 76 = .ok (.ishr, 1) := by decide +kernel
theorem d_Shm_put_77 : decode prog_18_method_28_code 77 = .ok (.iconst 1, 1) := by decide +kernel
theorem d_Shm_put_78 : decode prog_18_method_28_code 78 = .ok (.iand, 1) := by decide +kernel
theorem d_Shm_put_79 : decode prog_18_method_28_code 79 = .ok (.iconst 1, 1) := by decide +kernel
theorem d_Shm_put_80 : decode prog_18_method_28_code 80 = .ok (.if_icmp .ne 54, 3) := by decide +kernel
theorem d_Shm_put_83 : decode prog_18_method_28_code 83 = .ok (.iconst 4, 1) := by decide +kernel
theorem d_Shm_put_84 : decode prog_18_method_28_code 84 = .ok (.iload_n 1, 1) := by decide +kernel
theorem d_Shm_put_85 : decode prog_18_method_28_code 85 = .ok (.bipush 8, 2) := by decide +kernel
theorem d_Shm_put_87 : decode prog_18_method_28_code 87 = .ok (.ishr, 1) := by decide +kernel
theorem d_Shm_put_88 : decode prog_18_method_28_code 88 = .ok (.bipush 15, 2) := by decide +kernel
theorem d_Shm_put_90 : decode prog_18_method_28_code 90 = .ok (.iand, 1) := by decide +kernel
theorem d_Shm_put_91 : decode prog_18_method_28_code 91 = .ok (.imul, 1) := by decide +kernel
theorem d_Shm_put_92 : decode prog_18_method_28_code 92 = .ok (.iload_n 3, 1) := by decide +kernel
theorem d_Shm_put_93 : decode prog_18_method_28_code 93 = .ok (.iadd, 1) := by decide +kernel
theorem d_Shm_put_94 : decode prog_18_method_28_code 94 = .ok (.istore 4, 2) := by decide +kernel
theorem d_Shm_put_96 : decode prog_18_method_28_code 96 = .ok (.iload_n 1, 1) := by decide +kernel
theorem d_Shm_put_97 : decode prog_18_method_28_code 97 = .ok (.bipush 6, 2) := by decide +kernel
theorem d_Shm_put_99 : decode prog_18_method_28_code 99 = .ok (.ishr, 1) := by decide +kernel
theorem d_Shm_put_100 : decode prog_18_method_28_code 100 = .ok (.iconst 3, 1) := by decide +kernel
theorem d_Shm_put_101 : decode prog_18_method_28_code 101 = .ok (.iand, 1) := by decide +kernel
theorem d_Shm_put_102 : decode prog_18_method_28_code 102 = .ok (.ifCond .ne 19, 3) := by decide +kernel
theorem d_Shm_put_105 : decode prog_18_method_28_code 105 = .ok (.aload_n 0, 1) := by decide +kernel
theorem d_Shm_put_106 : decode prog_18_method_28_code 106 = .ok (.getfield 20, 3) := by decide +kernel
theorem d_Shm_put_109 : decode prog_18_method_28_code 109 = .ok (.iload 4, 2) := by decide +kernel
theorem d_Shm_put_111 : decode prog_18_method_28_code 111 = .ok (.aload_n 0, 1) := by decide +kernel
theorem d_Shm_put_112 : decode prog_18_method_28_code 112 = .ok (.getfield 35, 3) := by decide +kernel
theorem d_Shm_put_115 : decode prog_18_method_28_code 115 = .ok (.iload_n 3, 1) := by decide +kernel
theorem d_Shm_put_116 : decode prog_18_method_28_code 116 = .ok (.iaload, 1) := by decide +kernel
theorem d_Shm_put_117 : decode prog_18_method_28_code 117 = .ok (.iastore, 1) := by decide +kernel
theorem d_Shm_put_118 : decode prog_18_method_28_code 118 = .ok (.goto 16, 3) := by decide +kernel
theorem d_Shm_put_121 : decode prog_18_method_28_code 121 = .ok (.aload_n 0, 1) := by decide +kernel
theorem d_Shm_put_122 : decode prog_18_method_28_code 122 = .ok (.getfield 26, 3) := by decide +kernel
theorem d_Shm_put_125 : decode prog_18_method_28_code 125 = .ok (.iload 4, 2) := by decide +kernel
theorem d_Shm_put_127 : decode prog_18_method_28_code 127 = .ok (.aload_n 0, 1) := by decide +kernel
theorem d_Shm_put_128 : decode prog_18_method_28_code 128 = .ok (.getfield 35, 3) := by decide +kernel
theorem d_Shm_put_131 : decode prog_18_method_28_code 131 = .ok (.iload_n 3, 1) := by decide +kernel
theorem d_Shm_put_132 : decode prog_18_method_28_code 132 = .ok (.iaload, 1) := by decide +kernel
theorem d_Shm_put_133 : decode prog_18_method_28_code 133 = .ok (.iastore, 1) := by decide +kernel
theorem d_Shm_put_134 : decode prog_18_method_28_code 134 = .ok (.iinc 3 1, 3) := by decide +kernel
theorem d_Shm_put_137 : decode prog_18_method_28_code 137 = .ok (.goto (-71), 3) := by decide +kernel
theorem d_Shm_put_140 : decode prog_18_method_28_code 140 = .ok (.return_, 1) := by decide +kernel
def F_Shm_put_134 (rc_66 : Sg → Nat → Int32 → Int32 → Option (Sg)) (σ : Sg) (v0 : Nat) (v1 : Int32) (v3 : Int32) : Option (Sg) := ck (v0 < 2) (lt (v3 + 1) (fun y14 => rc_66 σ v0 v1 y14))
set_option maxRecDepth 10000 in
set_option maxHeartbeats 4000000 in
theorem bt_Shm_put_134 {p : Program} {l : Launch} {e : Env} {R : Room} {s : State} {m : MethodId} {args : Array Value} {below : List Frame} {meth : Method} {c : Code} {D : va_G} {τ : ClassId × ClassId × ClassId} {B : Nat} {A : Nat → Prop} {ad : Nat → Nat} (E : Cx p R s m args meth c prog_18_method_28_code 5 "DrawingMachineModel$ShaderMachineModel" 11 D τ B A) (hret : meth.sig.returnType = none) (o : Sg) (rc_66 : Sg → Nat → Int32 → Int32 → Option (Sg)) (hr_66 : ∀ (σ : Sg) (v0 : Nat) (v1 : Int32) (v3 : Int32) (H : Heap) (locs : List Loc) (ls : Array Slot), rc_66 σ v0 v1 v3 = some o → Wd s D A (wdM τ σ ad) H locs → lv_has ls 5 [(0, .ref (ad (65 + v0))), (1, .int v1), (3, .int v3)] → W p l e R s m args below meth c H locs 0 0 (QV below args s A D τ (wdM τ o ad)) (F0 m 66 ls [])) (σ : Sg) (v0 : Nat) (v1 : Int32) (v3 : Int32) (h : F_Shm_put_134 rc_66 σ v0 v1 v3 = some o) {H : Heap} {locs : List Loc} {ls : Array Slot} (w : Wd s D A (wdM τ σ ad) H locs) (hl : lv_has ls 5 [(0, .ref (ad (65 + v0))), (1, .int v1), (3, .int v3)]) : W p l e R s m args below meth c H locs 0 0 (QV below args s A D τ (wdM τ o ad)) (F0 m 134 ls []) := by
  obtain ⟨c13, h⟩ := ck_some h
  obtain ⟨y14, e_y14, h⟩ := lt_some h
  refine lv_iinc (v := y14) (lv' := [(3, .int y14), (0, .ref (ad (65 + v0))), (1, .int v1)]) E.x E.b d_Shm_put_134 hl (k := 2) rfl (e_y14) (by decide) rfl (fun ls hl => ?_)
  refine lv_goto (tgt := 66) E.x E.b d_Shm_put_137 (by decide) ?_
  exact hr_66 σ v0 v1 y14 _ _ _ h w (lv_sub hl [1, 2, 0] rfl)
def L_Shm_put_66 : Nat → Sg → Nat → Int32 → Int32 → Option (Sg)
  | 0, _, _, _, _ => none
  | n + 1, σ, v0, v1, v3 => ck (v0 < 2) (if 4 ≤ v3 then (some σ) else (if ((v1 >>> ((12 + v3) &&& 31)) &&& 1) = 1 then (lt (((4 : Int32) * ((v1 >>> 8) &&& 15)) + v3) (fun y16 => if ((v1 >>> 6) &&& 3) = 0 then (ck (inb v3 (lenM σ (21 + 10 * v0))) (ck (inb y16 (lenM σ (16 + 10 * v0))) (lt (sA σ (16 + 10 * v0) (upd (σ.2.2.1 (16 + 10 * v0)) y16.toNatClampNeg (σ.2.2.1 (21 + 10 * v0) v3.toNatClampNeg))) (fun σ22 => F_Shm_put_134 (L_Shm_put_66 n) σ22 v0 v1 v3)))) else (ck (inb v3 (lenM σ (21 + 10 * v0))) (ck (inb y16 (lenM σ (18 + 10 * v0))) (lt (sA σ (18 + 10 * v0) (upd (σ.2.2.1 (18 + 10 * v0)) y16.toNatClampNeg (σ.2.2.1 (21 + 10 * v0) v3.toNatClampNeg))) (fun σ19 => F_Shm_put_134 (L_Shm_put_66 n) σ19 v0 v1 v3)))))) else (F_Shm_put_134 (L_Shm_put_66 n) σ v0 v1 v3)))
set_option maxRecDepth 10000 in
set_option maxHeartbeats 4000000 in
theorem lt_Shm_put_66 {p : Program} {l : Launch} {e : Env} {R : Room} {s : State} {m : MethodId} {args : Array Value} {below : List Frame} {meth : Method} {c : Code} {D : va_G} {τ : ClassId × ClassId × ClassId} {B : Nat} {A : Nat → Prop} {ad : Nat → Nat} (E : Cx p R s m args meth c prog_18_method_28_code 5 "DrawingMachineModel$ShaderMachineModel" 11 D τ B A) (hret : meth.sig.returnType = none) (o : Sg) : ∀ (n : Nat) (σ : Sg) (v0 : Nat) (v1 : Int32) (v3 : Int32) (H : Heap) (locs : List Loc) (ls : Array Slot), L_Shm_put_66 n σ v0 v1 v3 = some o → Wd s D A (wdM τ σ ad) H locs → lv_has ls 5 [(0, .ref (ad (65 + v0))), (1, .int v1), (3, .int v3)] → W p l e R s m args below meth c H locs 0 0 (QV below args s A D τ (wdM τ o ad)) (F0 m 66 ls []) := by
  intro n
  induction n with
  | zero =>
    intro σ v0 v1 v3 H locs ls h w hl
    cases h
  | succ n hr_66 =>
    intro σ v0 v1 v3 H locs ls h w hl
    obtain ⟨c15, h⟩ := ck_some h
    refine lv_iload_n E.x E.b d_Shm_put_66 rfl (lv_at hl 2 rfl) ?_
    refine lv_iconst (v := 4) E.x E.b d_Shm_put_67 (by decide) ?_
    refine lv_icmp_ge (tgt := 140) E.x E.b d_Shm_put_68 (by decide) (fun c => ?_) (fun c => ?_)
    ·
      replace h := ifT c h
      obtain rfl := Option.some.inj h
      exact rt_v E w hret d_Shm_put_140
    ·
      replace h := ifF c h
      refine lv_iload_n E.x E.b d_Shm_put_71 rfl (lv_at hl 1 rfl) ?_
      refine lv_bipush (v := 12) E.x E.b d_Shm_put_72 (by decide) ?_
      refine lv_iload_n E.x E.b d_Shm_put_74 rfl (lv_at hl 2 rfl) ?_
      refine lv_iadd E.x E.b d_Shm_put_75 ?_
      refine lv_ishr E.x E.b d_Shm_put_76 ?_
      refine lv_iconst (v := 1) E.x E.b d_Shm_put_77 (by decide) ?_
      refine lv_iand E.x E.b d_Shm_put_78 ?_
      refine lv_iconst (v := 1) E.x E.b d_Shm_put_79 (by decide) ?_
      refine lv_icmp_ne (tgt := 134) E.x E.b d_Shm_put_80 (by decide) (fun c => ?_) (fun c => ?_)
      ·
        replace h := ifF c h
        exact bt_Shm_put_134 E hret o (L_Shm_put_66 n) hr_66 σ v0 v1 v3 h w (lv_sub hl [0, 1, 2] rfl)
      ·
        replace h := ifT c h
        refine lv_iconst (v := 4) E.x E.b d_Shm_put_83 (by decide) ?_
        refine lv_iload_n E.x E.b d_Shm_put_84 rfl (lv_at hl 1 rfl) ?_
        refine lv_bipush (v := 8) E.x E.b d_Shm_put_85 (by decide) ?_
        refine lv_ishr E.x E.b d_Shm_put_87 ?_
        refine wi_e (v := v1 >>> 8) rfl ?_
        refine lv_bipush (v := 15) E.x E.b d_Shm_put_88 (by decide) ?_
        refine lv_iand E.x E.b d_Shm_put_90 ?_
        refine lv_imul E.x E.b d_Shm_put_91 ?_
        refine lv_iload_n E.x E.b d_Shm_put_92 rfl (lv_at hl 2 rfl) ?_
        refine lv_iadd E.x E.b d_Shm_put_93 ?_
        obtain ⟨y16, e_y16, h⟩ := lt_some h
        refine wi_e (v := y16) e_y16 ?_
        refine lv_istore (lv' := [(4, .int y16), (0, .ref (ad (65 + v0))), (1, .int v1), (3, .int v3)]) E.x E.b d_Shm_put_94 hl (by decide) rfl (fun ls hl => ?_)
        refine lv_iload_n E.x E.b d_Shm_put_96 rfl (lv_at hl 2 rfl) ?_
        refine lv_bipush (v := 6) E.x E.b d_Shm_put_97 (by decide) ?_
        refine lv_ishr E.x E.b d_Shm_put_99 ?_
        refine wi_e (v := v1 >>> 6) rfl ?_
        refine lv_iconst (v := 3) E.x E.b d_Shm_put_100 (by decide) ?_
        refine lv_iand E.x E.b d_Shm_put_101 ?_
        refine lv_if_ne (tgt := 121) E.x E.b d_Shm_put_102 (by decide) (fun c => ?_) (fun c => ?_)
        ·
          replace h := ifF c h
          refine lv_aload_n E.x E.b d_Shm_put_121 rfl (lv_at hl 1 rfl) ?_
          refine gM_Shm_outs E w (pid := v0) c15 k1567 d_Shm_put_122 ?_
          refine lv_iload E.x E.b d_Shm_put_125 (lv_at hl 0 rfl) ?_
          refine lv_aload_n E.x E.b d_Shm_put_127 rfl (lv_at hl 1 rfl) ?_
          refine gM_Shm_result E w (pid := v0) c15 k1572 d_Shm_put_128 ?_
          refine lv_iload_n E.x E.b d_Shm_put_131 rfl (lv_at hl 3 rfl) ?_
          obtain ⟨c17, h⟩ := ck_some h
          refine ialM E w (k := (21 + 10 * v0)) (by omega) c17 d_Shm_put_132 ?_
          obtain ⟨c18, h⟩ := ck_some h
          obtain ⟨σ19, e_σ19, h⟩ := lt_some h
          refine iasM E w (k := (18 + 10 * v0)) (by omega) c18 e_σ19 d_Shm_put_133 (fun H locs w => ?_)
          exact bt_Shm_put_134 E hret o (L_Shm_put_66 n) hr_66 σ19 v0 v1 v3 h w (lv_sub hl [1, 2, 3] rfl)
        ·
          replace h := ifT c h
          refine lv_aload_n E.x E.b d_Shm_put_105 rfl (lv_at hl 1 rfl) ?_
          refine gM_Shm_temporaries E w (pid := v0) c15 k1564 d_Shm_put_106 ?_
          refine lv_iload E.x E.b d_Shm_put_109 (lv_at hl 0 rfl) ?_
          refine lv_aload_n E.x E.b d_Shm_put_111 rfl (lv_at hl 1 rfl) ?_
          refine gM_Shm_result E w (pid := v0) c15 k1572 d_Shm_put_112 ?_
          refine lv_iload_n E.x E.b d_Shm_put_115 rfl (lv_at hl 3 rfl) ?_
          obtain ⟨c20, h⟩ := ck_some h
          refine ialM E w (k := (21 + 10 * v0)) (by omega) c20 d_Shm_put_116 ?_
          obtain ⟨c21, h⟩ := ck_some h
          obtain ⟨σ22, e_σ22, h⟩ := lt_some h
          refine iasM E w (k := (16 + 10 * v0)) (by omega) c21 e_σ22 d_Shm_put_117 (fun H locs w => ?_)
          refine lv_goto (tgt := 134) E.x E.b d_Shm_put_118 (by decide) ?_
          exact bt_Shm_put_134 E hret o (L_Shm_put_66 n) hr_66 σ22 v0 v1 v3 h w (lv_sub hl [1, 2, 3] rfl)
def F_Shm_put_57 (rc_2 : Sg → Nat → Int32 → Int32 → Int32 → Option (Sg)) (σ : Sg) (v0 : Nat) (v1 : Int32) (v2 : Int32) (v3 : Int32) (s0 : Nat) (s1 : Int32) (s2 : Int32) : Option (Sg) := ck (v0 < 2) (ck (s0 < 58) (ck (inb s1 (lenM σ s0)) (lt (sA σ s0 (upd (σ.2.2.1 s0) s1.toNatClampNeg s2)) (fun σ26 => lt (v3 + 1) (fun y27 => rc_2 σ26 v0 v1 v2 y27)))))
set_option maxRecDepth 10000 in
set_option maxHeartbeats 4000000 in
theorem bt_Shm_put_57 {p : Program} {l : Launch} {e : Env} {R : Room} {s : State} {m : MethodId} {args : Array Value} {below : List Frame} {meth : Method} {c : Code} {D : va_G} {τ : ClassId × ClassId × ClassId} {B : Nat} {A : Nat → Prop} {ad : Nat → Nat} (E : Cx p R s m args meth c prog_18_method_28_code 5 "DrawingMachineModel$ShaderMachineModel" 11 D τ B A) (hret : meth.sig.returnType = none) (o : Sg) (rc_2 : Sg → Nat → Int32 → Int32 → Int32 → Option (Sg)) (hr_2 : ∀ (σ : Sg) (v0 : Nat) (v1 : Int32) (v2 : Int32) (v3 : Int32) (H : Heap) (locs : List Loc) (ls : Array Slot), rc_2 σ v0 v1 v2 v3 = some o → Wd s D A (wdM τ σ ad) H locs → lv_has ls 5 [(0, .ref (ad (65 + v0))), (1, .int v1), (2, .int v2), (3, .int v3)] → W p l e R s m args below meth c H locs 0 0 (QV below args s A D τ (wdM τ o ad)) (F0 m 2 ls [])) (σ : Sg) (v0 : Nat) (v1 : Int32) (v2 : Int32) (v3 : Int32) (s0 : Nat) (s1 : Int32) (s2 : Int32) (h : F_Shm_put_57 rc_2 σ v0 v1 v2 v3 s0 s1 s2 = some o) {H : Heap} {locs : List Loc} {ls : Array Slot} (w : Wd s D A (wdM τ σ ad) H locs) (hl : lv_has ls 5 [(0, .ref (ad (65 + v0))), (1, .int v1), (2, .int v2), (3, .int v3)]) : W p l e R s m args below meth c H locs 0 0 (QV below args s A D τ (wdM τ o ad)) (F0 m 57 ls [.int s2, .int s1, .ref (ad s0)]) := by
  obtain ⟨c23, h⟩ := ck_some h
  obtain ⟨c24, h⟩ := ck_some h
  obtain ⟨c25, h⟩ := ck_some h
  obtain ⟨σ26, e_σ26, h⟩ := lt_some h
  refine iasM E w (k := s0) c24 c25 e_σ26 d_Shm_put_57 (fun H locs w => ?_)
  obtain ⟨y27, e_y27, h⟩ := lt_some h
  refine lv_iinc (v := y27) (lv' := [(3, .int y27), (0, .ref (ad (65 + v0))), (1, .int v1), (2, .int v2)]) E.x E.b d_Shm_put_58 hl (k := 3) rfl (e_y27) (by decide) rfl (fun ls hl => ?_)
  refine lv_goto (tgt := 2) E.x E.b d_Shm_put_61 (by decide) ?_
  exact hr_2 σ26 v0 v1 v2 y27 _ _ _ h w (lv_sub hl [1, 2, 3, 0] rfl)
def L_Shm_put_2 : Nat → Sg → Nat → Int32 → Int32 → Int32 → Option (Sg)
  | 0, _, _, _, _, _ => none
  | n + 1, σ, v0, v1, v2, v3 => ck (v0 < 2) (if 4 ≤ v3 then (L_Shm_put_66 100000 σ v0 v1 0) else (bd (F_Shm_part σ v0 v2 v3) (fun o29 => if ((v1 >>> 16) &&& 1) = 0 then (F_Shm_put_57 (L_Shm_put_2 n) o29.1 v0 v1 v2 v3 (21 + 10 * v0) v3 o29.2) else (if 0 ≤ o29.2 then (if o29.2 ≤ 65536 then (F_Shm_put_57 (L_Shm_put_2 n) o29.1 v0 v1 v2 v3 (21 + 10 * v0) v3 o29.2) else (F_Shm_put_57 (L_Shm_put_2 n) o29.1 v0 v1 v2 v3 (21 + 10 * v0) v3 65536)) else (F_Shm_put_57 (L_Shm_put_2 n) o29.1 v0 v1 v2 v3 (21 + 10 * v0) v3 0)))))
set_option maxRecDepth 10000 in
set_option maxHeartbeats 4000000 in
theorem lt_Shm_put_2 {p : Program} {l : Launch} {e : Env} {R : Room} {s : State} {m : MethodId} {args : Array Value} {below : List Frame} {meth : Method} {c : Code} {D : va_G} {τ : ClassId × ClassId × ClassId} {B : Nat} {A : Nat → Prop} {ad : Nat → Nat} (E : Cx p R s m args meth c prog_18_method_28_code 5 "DrawingMachineModel$ShaderMachineModel" 11 D τ B A) (hret : meth.sig.returnType = none) (o : Sg) : ∀ (n : Nat) (σ : Sg) (v0 : Nat) (v1 : Int32) (v2 : Int32) (v3 : Int32) (H : Heap) (locs : List Loc) (ls : Array Slot), L_Shm_put_2 n σ v0 v1 v2 v3 = some o → Wd s D A (wdM τ σ ad) H locs → lv_has ls 5 [(0, .ref (ad (65 + v0))), (1, .int v1), (2, .int v2), (3, .int v3)] → W p l e R s m args below meth c H locs 0 0 (QV below args s A D τ (wdM τ o ad)) (F0 m 2 ls []) := by
  intro n
  induction n with
  | zero =>
    intro σ v0 v1 v2 v3 H locs ls h w hl
    cases h
  | succ n hr_2 =>
    intro σ v0 v1 v2 v3 H locs ls h w hl
    obtain ⟨c28, h⟩ := ck_some h
    refine lv_iload_n E.x E.b d_Shm_put_2 rfl (lv_at hl 3 rfl) ?_
    refine lv_iconst (v := 4) E.x E.b d_Shm_put_3 (by decide) ?_
    refine lv_icmp_ge (tgt := 64) E.x E.b d_Shm_put_4 (by decide) (fun c => ?_) (fun c => ?_)
    ·
      replace h := ifT c h
      refine lv_iconst (v := 0) E.x E.b d_Shm_put_64 (by decide) ?_
      refine lv_istore_n (lv' := [(3, .int 0), (0, .ref (ad (65 + v0))), (1, .int v1), (2, .int v2)]) E.x E.b d_Shm_put_65 rfl hl (by decide) rfl (fun ls hl => ?_)
      exact lt_Shm_put_66 E hret o 100000 σ v0 v1 0 _ _ _ h w (lv_sub hl [1, 2, 0] rfl)
    ·
      replace h := ifF c h
      refine lv_aload_n E.x E.b d_Shm_put_7 rfl (lv_at hl 0 rfl) ?_
      refine lv_iload_n E.x E.b d_Shm_put_8 rfl (lv_at hl 2 rfl) ?_
      refine lv_iload_n E.x E.b d_Shm_put_9 rfl (lv_at hl 3 rfl) ?_
      obtain ⟨o29, h_o29, h⟩ := bd_some h
      refine clV_Shm_part E w (p0 := v0) (x0 := v2) (x1 := v3) h_o29 k2206 (by decide) hl.1 (Nat.le_of_ble_eq_true rfl) d_Shm_put_10 (fun H locs w => ?_)
      refine lv_istore (lv' := [(4, .int o29.2), (0, .ref (ad (65 + v0))), (1, .int v1), (2, .int v2), (3, .int v3)]) E.x E.b d_Shm_put_13 hl (by decide) rfl (fun ls hl => ?_)
      refine lv_aload_n E.x E.b d_Shm_put_15 rfl (lv_at hl 1 rfl) ?_
      refine gM_Shm_result E w (pid := v0) c28 k1572 d_Shm_put_16 ?_
      refine lv_iload_n E.x E.b d_Shm_put_19 rfl (lv_at hl 4 rfl) ?_
      refine lv_iload_n E.x E.b d_Shm_put_20 rfl (lv_at hl 2 rfl) ?_
      refine lv_bipush (v := 16) E.x E.b d_Shm_put_21 (by decide) ?_
      refine lv_ishr E.x E.b d_Shm_put_23 ?_
      refine wi_e (v := v1 >>> 16) rfl ?_
      refine lv_iconst (v := 1) E.x E.b d_Shm_put_24 (by decide) ?_
      refine lv_iand E.x E.b d_Shm_put_25 ?_
      refine lv_if_ne (tgt := 34) E.x E.b d_Shm_put_26 (by decide) (fun c => ?_) (fun c => ?_)
      ·
        replace h := ifF c h
        refine lv_iload E.x E.b d_Shm_put_34 (lv_at hl 0 rfl) ?_
        refine lv_if_ge (tgt := 43) E.x E.b d_Shm_put_36 (by decide) (fun c => ?_) (fun c => ?_)
        ·
          replace h := ifT c h
          refine lv_iload E.x E.b d_Shm_put_43 (lv_at hl 0 rfl) ?_
          refine lv_ldc (v := 65536) E.x E.b E.o (E.w _ k2227) d_Shm_put_45 ?_
          refine lv_icmp_le (tgt := 55) E.x E.b d_Shm_put_47 (by decide) (fun c => ?_) (fun c => ?_)
          ·
            replace h := ifT c h
            refine lv_iload E.x E.b d_Shm_put_55 (lv_at hl 0 rfl) ?_
            exact bt_Shm_put_57 E hret o (L_Shm_put_2 n) hr_2 o29.1 v0 v1 v2 v3 (21 + 10 * v0) v3 o29.2 h w (lv_sub hl [1, 2, 3, 4] rfl)
          ·
            replace h := ifF c h
            refine lv_ldc (v := 65536) E.x E.b E.o (E.w _ k2227) d_Shm_put_50 ?_
            refine lv_goto (tgt := 57) E.x E.b d_Shm_put_52 (by decide) ?_
            exact bt_Shm_put_57 E hret o (L_Shm_put_2 n) hr_2 o29.1 v0 v1 v2 v3 (21 + 10 * v0) v3 65536 h w (lv_sub hl [1, 2, 3, 4] rfl)
        ·
          replace h := ifF c h
          refine lv_iconst (v := 0) E.x E.b d_Shm_put_39 (by decide) ?_
          refine lv_goto (tgt := 57) E.x E.b d_Shm_put_40 (by decide) ?_
          exact bt_Shm_put_57 E hret o (L_Shm_put_2 n) hr_2 o29.1 v0 v1 v2 v3 (21 + 10 * v0) v3 0 h w (lv_sub hl [1, 2, 3, 4] rfl)
      ·
        replace h := ifT c h
        refine lv_iload E.x E.b d_Shm_put_29 (lv_at hl 0 rfl) ?_
        refine lv_goto (tgt := 57) E.x E.b d_Shm_put_31 (by decide) ?_
        exact bt_Shm_put_57 E hret o (L_Shm_put_2 n) hr_2 o29.1 v0 v1 v2 v3 (21 + 10 * v0) v3 o29.2 h w (lv_sub hl [1, 2, 3, 4] rfl)
def F_Shm_put (σ : Sg) (p0 : Nat) (x0 : Int32) (x1 : Int32) : Option (Sg) := ck (p0 < 2) (L_Shm_put_2 100000 σ p0 x0 x1 0)
set_option maxRecDepth 10000 in
set_option maxHeartbeats 4000000 in
theorem c_Shm_put (l : Launch) (D : va_G) (τ : ClassId × ClassId × ClassId) (B : Nat) (σ : Sg) (ad : Nat → Nat) (p0 : Nat) (x0 : Int32) (x1 : Int32) (o : Sg) (h : F_Shm_put σ p0 x0 x1 = some o) : MV l y_Shm_put (Cond.code y_Shm_put prog_18_method_28_code 5 none) 11 D τ B [.ref (ad (65 + p0)), .int x0, .int x1] (wdM τ σ ad) (wdM τ o ad) := by
  refine en_v (by decide) (Nat.le_of_ble_eq_true rfl) ?_
  intro p e R s m args below meth c H locs ls A E hret w hl
  have E : Cx p R s m args meth c prog_18_method_28_code 5 "DrawingMachineModel$ShaderMachineModel" 11 D τ B A := E
  have hl : lv_has ls 5 [(0, .ref (ad (65 + p0))), (1, .int x0), (2, .int x1)] := hl
  obtain ⟨c30, h⟩ := ck_some h
  refine lv_iconst (v := 0) E.x E.b d_Shm_put_0 (by decide) ?_
  refine lv_istore_n (lv' := [(3, .int 0), (0, .ref (ad (65 + p0))), (1, .int x0), (2, .int x1)]) E.x E.b d_Shm_put_1 rfl hl (by decide) rfl (fun ls hl => ?_)
  exact lt_Shm_put_2 E hret o 100000 σ p0 x0 x1 0 _ _ _ h w (lv_sub hl [1, 2, 3, 0] rfl)
theorem clV_Shm_put {p : Program} {l : Launch} {e : Env} {R : Room} {s : State} {m : MethodId} {args : Array Value} {below : List Frame} {meth : Method} {c : Code} {H : Heap} {locs : List Loc} {Q : State → Prop} {cc : ByteArray} {nL pc lev : Nat} {own : String} {D : va_G} {τ : ClassId × ClassId × ClassId} {B : Nat} {A : Nat → Prop} {σ : Sg} {ad : Nat → Nat} {ls : Array Slot} {rest : List Value} (E : Cx p R s m args meth c cc nL own lev D τ B A) (w : Wd s D A (wdM τ σ ad) H locs) {p0 : Nat} {x0 : Int32} {x1 : Int32} {o : Sg} (h : F_Shm_put σ p0 x0 x1 = some o) {index : Nat} (hlk : Cond.methodLink own index y_Shm_put ∈ tw) (hlev : 11 < lev) (hsz : ls.size = nL) (hr : (rest.map fun v => v.category).sum ≤ 8) (hd : decode cc pc = .ok (.invokevirtual index, 3)) (kk : ∀ (H1 : Heap) (locs1 : List Loc), Wd s D A (wdM τ o ad) H1 locs1 → W p l e R s m args below meth c H1 locs1 0 0 Q (F0 m (pc + 3) ls (rest))) : W p l e R s m args below meth c H locs 0 0 Q (F0 m pc ls (.int x1 :: .int x0 :: .ref (ad (65 + p0)) :: rest)) :=
  cr_v w E.C (va_runV (As := [.int x0, .int x1]) (rest := rest) E.fix (c_Shm_put l D τ B σ ad p0 x0 x1 o h H.size) (cwV 2 E.w (tw_pre (tw_good k2205) (l := [_, _, _, _]) (List.forall_mem_cons.mpr ⟨hlk, List.forall_mem_cons.mpr ⟨k2204, List.forall_mem_cons.mpr ⟨ks78, List.forall_mem_cons.mpr ⟨k17, fun _ h => absurd h List.not_mem_nil⟩⟩⟩⟩)) rfl rfl rfl (by decide +kernel) (E.rm hlev (by decide))) (wd_preV w E.C [.int x0, .int x1] (rcM_Shm (ck_some h).1) rfl) rfl rfl hsz rfl (lv_room hr) hd ⟨Nat.zero_le _, Nat.zero_le _⟩) kk

theorem d_Shm_refuse_0 : decode prog_18_method_18_code 0 = .ok (.aload_n 0, 1) := by decide +kernel
theorem d_Shm_refuse_1 : decode prog_18_method_18_code 1 = .ok (.iload_n 1, 1) := by decide +kernel
theorem d_Shm_refuse_2 : decode prog_18_method_18_code 2 = .ok (.ifCond .eq 7, 3) := by decide +kernel
theorem d_Shm_refuse_5 : decode prog_18_method_18_code 5 = .ok (.iconst 1, 1) := by decide +kernel
theorem d_Shm_refuse_6 : decode prog_18_method_18_code 6 = .ok (.goto 4, 3) := by decide +kernel
theorem d_Shm_refuse_9 : decode prog_18_method_18_code 9 = .ok (.iconst 0, 1) := by decide +kernel
theorem d_Shm_refuse_10 : decode prog_18_method_18_code 10 = .ok (.putfield 112, 3) := by decide +kernel
theorem d_Shm_refuse_13 : decode prog_18_method_18_code 13 = .ok (.iload_n 1, 1) := by decide +kernel
theorem d_Shm_refuse_14 : decode prog_18_method_18_code 14 = .ok (.ireturn, 1) := by decide +kernel
def F_Shm_refuse_10 (σ : Sg) (v1 : Int32) (s0 : Nat) (s1 : Int32) : Option (Sg × Int32) := ck (s0 < 2) (lt (sI σ (40 + 6 * s0) s1) (fun σ4 => ck (v1 = 0 ∨ v1 = 1) (some (σ4, v1))))
set_option maxRecDepth 10000 in
set_option maxHeartbeats 4000000 in
theorem bt_Shm_refuse_10 {p : Program} {l : Launch} {e : Env} {R : Room} {s : State} {m : MethodId} {args : Array Value} {below : List Frame} {meth : Method} {c : Code} {D : va_G} {τ : ClassId × ClassId × ClassId} {B : Nat} {A : Nat → Prop} {ad : Nat → Nat} (E : Cx p R s m args meth c prog_18_method_18_code 2 "DrawingMachineModel$ShaderMachineModel" 0 D τ B A) (hret : meth.sig.returnType = (some .boolean)) (o : Sg × Int32) (σ : Sg) (v1 : Int32) (s0 : Nat) (s1 : Int32) (h : F_Shm_refuse_10 σ v1 s0 s1 = some o) {H : Heap} {locs : List Loc} {ls : Array Slot} (w : Wd s D A (wdM τ σ ad) H locs) (hl : lv_has ls 2 [(1, .int v1)]) : W p l e R s m args below meth c H locs 0 0 (QI below args s A D τ (wdM τ o.1 ad) o.2) (F0 m 10 ls [.int s1, .ref (ad (65 + s0))]) := by
  obtain ⟨c3, h⟩ := ck_some h
  obtain ⟨σ4, e_σ4, h⟩ := lt_some h
  refine pM_Shm_thrown E w (pid := s0) c3 k1553 e_σ4 d_Shm_refuse_10 (fun H locs w => ?_)
  refine lv_iload_n E.x E.b d_Shm_refuse_13 rfl (lv_at hl 0 rfl) ?_
  obtain ⟨c5, h⟩ := ck_some h
  obtain rfl := Option.some.inj h
  exact rt_z E w hret c5 d_Shm_refuse_14
def F_Shm_refuse (σ : Sg) (p0 : Nat) (x0 : Int32) : Option (Sg × Int32) := ck (p0 < 2) (if x0 = 0 then (F_Shm_refuse_10 σ x0 p0 0) else (F_Shm_refuse_10 σ x0 p0 1))
set_option maxRecDepth 10000 in
set_option maxHeartbeats 4000000 in
theorem c_Shm_refuse (l : Launch) (D : va_G) (τ : ClassId × ClassId × ClassId) (B : Nat) (σ : Sg) (ad : Nat → Nat) (p0 : Nat) (x0 : Int32) (o : Sg × Int32) (h : F_Shm_refuse σ p0 x0 = some o) : MI l y_Shm_refuse (Cond.code y_Shm_refuse prog_18_method_18_code 2 (some .boolean)) 0 D τ B [.ref (ad (65 + p0)), .int x0] (wdM τ σ ad) (wdM τ o.1 ad) o.2 := by
  refine en_i (by decide) (Nat.le_of_ble_eq_true rfl) ?_
  intro p e R s m args below meth c H locs ls A E hret w hl
  have E : Cx p R s m args meth c prog_18_method_18_code 2 "DrawingMachineModel$ShaderMachineModel" 0 D τ B A := E
  have hl : lv_has ls 2 [(0, .ref (ad (65 + p0))), (1, .int x0)] := hl
  obtain ⟨c6, h⟩ := ck_some h
  refine lv_aload_n E.x E.b d_Shm_refuse_0 rfl (lv_at hl 0 rfl) ?_
  refine lv_iload_n E.x E.b d_Shm_refuse_1 rfl (lv_at hl 1 rfl) ?_
  refine lv_if_eq (tgt := 9) E.x E.b d_Shm_refuse_2 (by decide) (fun c => ?_) (fun c => ?_)
  ·
    replace h := ifT c h
    refine lv_iconst (v := 0) E.x E.b d_Shm_refuse_9 (by decide) ?_
    exact bt_Shm_refuse_10 E hret o σ x0 p0 0 h w (lv_sub hl [1] rfl)
  ·
    replace h := ifF c h
    refine lv_iconst (v := 1) E.x E.b d_Shm_refuse_5 (by decide) ?_
    refine lv_goto (tgt := 10) E.x E.b d_Shm_refuse_6 (by decide) ?_
    exact bt_Shm_refuse_10 E hret o σ x0 p0 1 h w (lv_sub hl [1] rfl)
theorem clV_Shm_refuse {p : Program} {l : Launch} {e : Env} {R : Room} {s : State} {m : MethodId} {args : Array Value} {below : List Frame} {meth : Method} {c : Code} {H : Heap} {locs : List Loc} {Q : State → Prop} {cc : ByteArray} {nL pc lev : Nat} {own : String} {D : va_G} {τ : ClassId × ClassId × ClassId} {B : Nat} {A : Nat → Prop} {σ : Sg} {ad : Nat → Nat} {ls : Array Slot} {rest : List Value} (E : Cx p R s m args meth c cc nL own lev D τ B A) (w : Wd s D A (wdM τ σ ad) H locs) {p0 : Nat} {x0 : Int32} {o : Sg × Int32} (h : F_Shm_refuse σ p0 x0 = some o) {index : Nat} (hlk : Cond.methodLink own index y_Shm_refuse ∈ tw) (hlev : 0 < lev) (hsz : ls.size = nL) (hr : (rest.map fun v => v.category).sum ≤ 8) (hd : decode cc pc = .ok (.invokevirtual index, 3)) (kk : ∀ (H1 : Heap) (locs1 : List Loc), Wd s D A (wdM τ o.1 ad) H1 locs1 → W p l e R s m args below meth c H1 locs1 0 0 Q (F0 m (pc + 3) ls (.int o.2 :: rest))) : W p l e R s m args below meth c H locs 0 0 Q (F0 m pc ls (.int x0 :: .ref (ad (65 + p0)) :: rest)) :=
  cr_i w E.C (va_runV (As := [.int x0]) (rest := rest) E.fix (c_Shm_refuse l D τ B σ ad p0 x0 o h H.size) (cwV 1 E.w (tw_pre (tw_good k2091) (l := [_, _, _, _]) (List.forall_mem_cons.mpr ⟨hlk, List.forall_mem_cons.mpr ⟨k2090, List.forall_mem_cons.mpr ⟨ks67, List.forall_mem_cons.mpr ⟨k17, fun _ h => absurd h List.not_mem_nil⟩⟩⟩⟩)) rfl rfl rfl (by decide +kernel) (E.rm hlev (by decide))) (wd_preV w E.C [.int x0] (rcM_Shm (ck_some h).1) rfl) rfl rfl hsz rfl (lv_room hr) hd ⟨Nat.zero_le _, Nat.zero_le _⟩) kk

theorem d_Shm_sourceOf_0 : decode prog_18_method_4_code 0 = .ok (.iload_n 2, 1) := by decide +kernel
theorem d_Shm_sourceOf_1 : decode prog_18_method_4_code 1 = .ok (.ifCond .ne 16, 3) := by decide +kernel
theorem d_Shm_sourceOf_4 : decode prog_18_method_4_code 4 = .ok (.aload_n 0, 1) := by decide +kernel
theorem d_Shm_sourceOf_5 : decode prog_18_method_4_code 5 = .ok (.iconst 3, 1) := by decide +kernel
theorem d_Shm_sourceOf_6 : decode prog_18_method_4_code 6 = .ok (.iload_n 1, 1) := by decide +kernel
theorem d_Shm_sourceOf_7 : decode prog_18_method_4_code 7 = .ok (.imul, 1) := by decide +kernel
theorem d_Shm_sourceOf_8 : decode prog_18_method_4_code 8 = .ok (.iconst 1, 1) := by decide +kernel
theorem d_Shm_sourceOf_9 : decode prog_18_method_4_code 9 = .ok (.iadd, 1) := by decide +kernel
theorem d_Shm_sourceOf_10 : decode prog_18_method_4_code 10 = .ok (.iaload, 1) := by decide +kernel
theorem d_Shm_sourceOf_11 : decode prog_18_method_4_code 11 = .ok (.ldc 51, 2) := by decide +kernel
theorem d_Shm_sourceOf_13 : decode prog_18_method_4_code 13 = .ok (.iand, 1) := by decide +kernel
theorem d_Shm_sourceOf_14 : decode prog_18_method_4_code 14 = .ok (.goto 31, 3) := by decide +kernel
theorem d_Shm_sourceOf_17 : decode prog_18_method_4_code 17 = .ok (.iload_n 2, 1) := by decide +kernel
theorem d_Shm_sourceOf_18 : decode prog_18_method_4_code 18 = .ok (.iconst 1, 1) := by decide +kernel
theorem d_Shm_sourceOf_19 : decode prog_18_method_4_code 19 = .ok (.if_icmp .ne 16, 3) := by decide +kernel
theorem d_Shm_sourceOf_22 : decode prog_18_method_4_code 22 = .ok (.aload_n 0, 1) := by decide +kernel
theorem d_Shm_sourceOf_23 : decode prog_18_method_4_code 23 = .ok (.iconst 3, 1) := by decide +kernel
theorem d_Shm_sourceOf_24 : decode prog_18_method_4_code 24 = .ok (.iload_n 1, 1) := by decide +kernel
theorem d_Shm_sourceOf_25 : decode prog_18_method_4_code 25 = .ok (.imul, 1) := by decide +kernel
theorem d_Shm_sourceOf_26 : decode prog_18_method_4_code 26 = .ok (.iconst 1, 1) := by decide +kernel
theorem d_Shm_sourceOf_27 : decode prog_18_method_4_code 27 = .ok (.iadd, 1) := by decide +kernel
theorem d_Shm_sourceOf_28 : decode prog_18_method_4_code 28 = .ok (.iaload, 1) := by decide +kernel
theorem d_Shm_sourceOf_29 : decode prog_18_method_4_code 29 = .ok (.bipush 16, 2) := by decide +kernel
theorem d_Shm_sourceOf_31 : decode prog_18_method_4_code 31 = .ok (.iushr, 1) := by decide +kernel
theorem d_Shm_sourceOf_32 : decode prog_18_method_4_code 32 = .ok (.goto 13, 3) := by decide +kernel
theorem d_Shm_sourceOf_35 : decode prog_18_method_4_code 35 = .ok (.aload_n 0, 1) := by decide +kernel
theorem d_Shm_sourceOf_36 : decode prog_18_method_4_code 36 = .ok (.iconst 3, 1) := by decide +kernel
theorem d_Shm_sourceOf_37 : decode prog_18_method_4_code 37 = .ok (.iload_n 1, 1) := by decide +kernel
theorem d_Shm_sourceOf_38 : decode prog_18_method_4_code 38 = .ok (.imul, 1) := by decide +kernel
theorem d_Shm_sourceOf_39 : decode prog_18_method_4_code 39 = .ok (.iconst 2, 1) := by decide +kernel
theorem d_Shm_sourceOf_40 : decode prog_18_method_4_code 40 = .ok (.iadd, 1) := by decide +kernel
theorem d_Shm_sourceOf_41 : decode prog_18_method_4_code 41 = .ok (.iaload, 1) := by decide +kernel
theorem d_Shm_sourceOf_42 : decode prog_18_method_4_code 42 = .ok (.ldc 51, 2) := by decide +kernel
theorem d_Shm_sourceOf_44 : decode prog_18_method_4_code 44 = .ok (.iand, 1) := by decide +kernel
theorem d_Shm_sourceOf_45 : decode prog_18_method_4_code 45 = .ok (.ireturn, 1) := by decide +kernel
def F_Shm_sourceOf_45 (σ : Sg) (s0 : Int32) : Option (Int32) := some s0
set_option maxRecDepth 10000 in
set_option maxHeartbeats 4000000 in
theorem bt_Shm_sourceOf_45 {p : Program} {l : Launch} {e : Env} {R : Room} {s : State} {m : MethodId} {args : Array Value} {below : List Frame} {meth : Method} {c : Code} {D : va_G} {τ : ClassId × ClassId × ClassId} {B : Nat} {A : Nat → Prop} {ad : Nat → Nat} (E : Cx p R s m args meth c prog_18_method_4_code 3 "DrawingMachineModel$ShaderMachineModel" 0 D τ B A) (hret : meth.sig.returnType = (some .int)) (o : Int32) (σ : Sg) (s0 : Int32) (h : F_Shm_sourceOf_45 σ s0 = some o) {H : Heap} {locs : List Loc} {ls : Array Slot} (w : Wd s D A (wdM τ σ ad) H locs) (hl : lv_has ls 3 []) : W p l e R s m args below meth c H locs 0 0 (QI below args s A D τ (wdM τ σ ad) o) (F0 m 45 ls [.int s0]) := by
  obtain rfl := Option.some.inj h
  exact rt_i E w hret d_Shm_sourceOf_45
def F_Shm_sourceOf (σ : Sg) (ar0 : Nat) (x1 : Int32) (x2 : Int32) : Option (Int32) := ck (ar0 < 58) (if x2 = 0 then (ck (inb ((3 * x1) + 1) (lenM σ ar0)) (F_Shm_sourceOf_45 σ ((σ.2.2.1 ar0 ((3 * x1) + 1).toNatClampNeg) &&& 65535))) else (if x2 = 1 then (ck (inb ((3 * x1) + 1) (lenM σ ar0)) (F_Shm_sourceOf_45 σ (ushr (σ.2.2.1 ar0 ((3 * x1) + 1).toNatClampNeg) 16))) else (ck (inb ((3 * x1) + 2) (lenM σ ar0)) (F_Shm_sourceOf_45 σ ((σ.2.2.1 ar0 ((3 * x1) + 2).toNatClampNeg) &&& 65535)))))
set_option maxRecDepth 10000 in
set_option maxHeartbeats 4000000 in
theorem c_Shm_sourceOf (l : Launch) (D : va_G) (τ : ClassId × ClassId × ClassId) (B : Nat) (σ : Sg) (ad : Nat → Nat) (ar0 : Nat) (x1 : Int32) (x2 : Int32) (o : Int32) (h : F_Shm_sourceOf σ ar0 x1 x2 = some o) : MI l y_Shm_sourceOf (Cond.code y_Shm_sourceOf prog_18_method_4_code 3 (some .int)) 0 D τ B [.ref (ad ar0), .int x1, .int x2] (wdM τ σ ad) (wdM τ σ ad) o := by
  refine en_i (by decide) (Nat.le_of_ble_eq_true rfl) ?_
  intro p e R s m args below meth c H locs ls A E hret w hl
  have E : Cx p R s m args meth c prog_18_method_4_code 3 "DrawingMachineModel$ShaderMachineModel" 0 D τ B A := E
  have hl : lv_has ls 3 [(0, .ref (ad ar0)), (1, .int x1), (2, .int x2)] := hl
  obtain ⟨c4, h⟩ := ck_some h
  refine lv_iload_n E.x E.b d_Shm_sourceOf_0 rfl (lv_at hl 2 rfl) ?_
  refine lv_if_ne (tgt := 17) E.x E.b d_Shm_sourceOf_1 (by decide) (fun c => ?_) (fun c => ?_)
  ·
    replace h := ifF c h
    refine lv_iload_n E.x E.b d_Shm_sourceOf_17 rfl (lv_at hl 2 rfl) ?_
    refine lv_iconst (v := 1) E.x E.b d_Shm_sourceOf_18 (by decide) ?_
    refine lv_icmp_ne (tgt := 35) E.x E.b d_Shm_sourceOf_19 (by decide) (fun c => ?_) (fun c => ?_)
    ·
      replace h := ifF c h
      refine lv_aload_n E.x E.b d_Shm_sourceOf_35 rfl (lv_at hl 0 rfl) ?_
      refine lv_iconst (v := 3) E.x E.b d_Shm_sourceOf_36 (by decide) ?_
      refine lv_iload_n E.x E.b d_Shm_sourceOf_37 rfl (lv_at hl 1 rfl) ?_
      refine lv_imul E.x E.b d_Shm_sourceOf_38 ?_
      refine lv_iconst (v := 2) E.x E.b d_Shm_sourceOf_39 (by decide) ?_
      refine lv_iadd E.x E.b d_Shm_sourceOf_40 ?_
      obtain ⟨c5, h⟩ := ck_some h
      refine ialM E w (k := ar0) c4 c5 d_Shm_sourceOf_41 ?_
      refine lv_ldc (v := 65535) E.x E.b E.o (E.w _ k2117) d_Shm_sourceOf_42 ?_
      refine lv_iand E.x E.b d_Shm_sourceOf_44 ?_
      exact bt_Shm_sourceOf_45 E hret o σ ((σ.2.2.1 ar0 ((3 * x1) + 2).toNatClampNeg) &&& 65535) h w (lv_sub hl [] rfl)
    ·
      replace h := ifT c h
      refine lv_aload_n E.x E.b d_Shm_sourceOf_22 rfl (lv_at hl 0 rfl) ?_
      refine lv_iconst (v := 3) E.x E.b d_Shm_sourceOf_23 (by decide) ?_
      refine lv_iload_n E.x E.b d_Shm_sourceOf_24 rfl (lv_at hl 1 rfl) ?_
      refine lv_imul E.x E.b d_Shm_sourceOf_25 ?_
      refine lv_iconst (v := 1) E.x E.b d_Shm_sourceOf_26 (by decide) ?_
      refine lv_iadd E.x E.b d_Shm_sourceOf_27 ?_
      obtain ⟨c6, h⟩ := ck_some h
      refine ialM E w (k := ar0) c4 c6 d_Shm_sourceOf_28 ?_
      refine lv_bipush (v := 16) E.x E.b d_Shm_sourceOf_29 (by decide) ?_
      refine lv_iushr (v := ushr (σ.2.2.1 ar0 ((3 * x1) + 1).toNatClampNeg) 16) E.x E.b d_Shm_sourceOf_31 rfl ?_
      refine lv_goto (tgt := 45) E.x E.b d_Shm_sourceOf_32 (by decide) ?_
      exact bt_Shm_sourceOf_45 E hret o σ (ushr (σ.2.2.1 ar0 ((3 * x1) + 1).toNatClampNeg) 16) h w (lv_sub hl [] rfl)
  ·
    replace h := ifT c h
    refine lv_aload_n E.x E.b d_Shm_sourceOf_4 rfl (lv_at hl 0 rfl) ?_
    refine lv_iconst (v := 3) E.x E.b d_Shm_sourceOf_5 (by decide) ?_
    refine lv_iload_n E.x E.b d_Shm_sourceOf_6 rfl (lv_at hl 1 rfl) ?_
    refine lv_imul E.x E.b d_Shm_sourceOf_7 ?_
    refine lv_iconst (v := 1) E.x E.b d_Shm_sourceOf_8 (by decide) ?_
    refine lv_iadd E.x E.b d_Shm_sourceOf_9 ?_
    obtain ⟨c7, h⟩ := ck_some h
    refine ialM E w (k := ar0) c4 c7 d_Shm_sourceOf_10 ?_
    refine lv_ldc (v := 65535) E.x E.b E.o (E.w _ k2117) d_Shm_sourceOf_11 ?_
    refine lv_iand E.x E.b d_Shm_sourceOf_13 ?_
    refine lv_goto (tgt := 45) E.x E.b d_Shm_sourceOf_14 (by decide) ?_
    exact bt_Shm_sourceOf_45 E hret o σ ((σ.2.2.1 ar0 ((3 * x1) + 1).toNatClampNeg) &&& 65535) h w (lv_sub hl [] rfl)
theorem clS_Shm_sourceOf {p : Program} {l : Launch} {e : Env} {R : Room} {s : State} {m : MethodId} {args : Array Value} {below : List Frame} {meth : Method} {c : Code} {H : Heap} {locs : List Loc} {Q : State → Prop} {cc : ByteArray} {nL pc lev : Nat} {own : String} {D : va_G} {τ : ClassId × ClassId × ClassId} {B : Nat} {A : Nat → Prop} {σ : Sg} {ad : Nat → Nat} {ls : Array Slot} {rest : List Value} (E : Cx p R s m args meth c cc nL own lev D τ B A) (w : Wd s D A (wdM τ σ ad) H locs) {ar0 : Nat} {x1 : Int32} {x2 : Int32} {o : Int32} (h : F_Shm_sourceOf σ ar0 x1 x2 = some o) {index : Nat} (hlk : Cond.methodLink own index y_Shm_sourceOf ∈ tw) (hlev : 0 < lev) (hsz : ls.size = nL) (hr : (rest.map fun v => v.category).sum ≤ 8) (hd : decode cc pc = .ok (.invokestatic index, 3)) (kk : ∀ (H1 : Heap) (locs1 : List Loc), Wd s D A (wdM τ σ ad) H1 locs1 → W p l e R s m args below meth c H1 locs1 0 0 Q (F0 m (pc + 3) ls (.int o :: rest))) : W p l e R s m args below meth c H locs 0 0 Q (F0 m pc ls (.int x2 :: .int x1 :: .ref (ad ar0) :: rest)) :=
  cr_i w E.C (va_runS (As := [.ref (ad ar0), .int x1, .int x2]) (rest := rest) E.fix (c_Shm_sourceOf l D τ B σ ad ar0 x1 x2 o h H.size) (va_cwS 3 E.w (tw_pre (tw_good k2116) (l := [_, _, _]) (List.forall_mem_cons.mpr ⟨hlk, List.forall_mem_cons.mpr ⟨k2115, List.forall_mem_cons.mpr ⟨k17, fun _ h => absurd h List.not_mem_nil⟩⟩⟩)) rfl rfl rfl (by decide +kernel) (E.rm hlev (by decide))) (wd_pre w E.C [.ref (ad ar0), .int x1, .int x2]) rfl rfl hsz rfl (lv_room hr) hd ⟨Nat.zero_le _, Nat.zero_le _⟩) kk

theorem d_Shm_take_0 : decode prog_18_method_23_code 0 = .ok (.iload_n 1, 1) := by decide +kernel
theorem d_Shm_take_1 : decode prog_18_method_23_code 1 = .ok (.iconst 2, 1) := by decide +kernel
theorem d_Shm_take_2 : decode prog_18_method_23_code 2 = .ok (.ishr, 1) := by decide +kernel
theorem d_Shm_take_3 : decode prog_18_method_23_code 3 = .ok (.bipush 31, 2) := by decide +kernel
theorem d_Shm_take_5 : decode prog_18_method_23_code 5 = .ok (.iand, 1) := by decide +kernel
theorem d_Shm_take_6 : decode prog_18_method_23_code 6 = .ok (.istore_n 3, 1) := by decide +kernel
theorem d_Shm_take_7 : decode prog_18_method_23_code 7 = .ok (.iconst 0, 1) := by decide +kernel
theorem d_Shm_take_8 : decode prog_18_method_23_code 8 = .ok (.istore 4, 2) := by decide +kernel
theorem d_Shm_take_10 : decode prog_18_method_23_code 10 = .ok (.iload 4, 2) := by decide +kernel
theorem d_Shm_take_12 : decode prog_18_method_23_code 12 = .ok (.iconst 4, 1) := by decide +kernel
theorem d_Shm_take_13 : decode prog_18_method_23_code 13 = .ok (.if_icmp .ge 123, 3) := by decide +kernel
theorem d_Shm_take_16 : decode prog_18_method_23_code 16 = .ok (.iconst 4, 1) := by decide +kernel
theorem d_Shm_take_17 : decode prog_18_method_23_code 17 = .ok (.iload_n 3, 1) := by decide +kernel
theorem d_Shm_take_18 : decode prog_18_method_23_code 18 = .ok (.imul, 1) := by decide +kernel
theorem d_Shm_take_19 : decode prog_18_method_23_code 19 = .ok (.iload_n 1, 1) := by decide +kernel
theorem d_Shm_take_20 : decode prog_18_method_23_code 20 = .ok (.bipush 7, 2) := by decide +kernel
theorem d_Shm_take_22 : decode prog_18_method_23_code 22 = .ok (.iconst 2, 1) := by decide +kernel
theorem d_Shm_take_23 : decode prog_18_method_23_code 23 = .ok (.iload 4, 2) := by decide +kernel
theorem d_Shm_take_25 : decode prog_18_method_23_code 25 = .ok (.imul, 1) := by decide +kernel
theorem d_Shm_take_26 : decode prog_18_method_23_code 26 = .ok (.iadd, 1) := by decide +kernel
theorem d_Shm_take_27 : decode prog_18_method_23_code 27 = .ok (.ishr, 1) := by decide +kernel
theorem d_Shm_take_28 : decode prog_18_method_23_code 28 = .ok (.iconst 3, 1) := by decide +kernel
theorem d_Shm_take_29 : decode prog_18_method_23_code 29 = .ok (.iand, 1) := by decide +kernel
theorem d_Shm_take_30 : decode prog_18_method_23_code 30 = .ok (.iadd, 1) := by decide +kernel
theorem d_Shm_take_31 : decode prog_18_method_23_code 31 = .ok (.istore 5, 2) := by decide +kernel
theorem d_Shm_take_33 : decode prog_18_method_23_code 33 = .ok (.iconst 0, 1) := by decide +kernel
theorem d_Shm_take_34 : decode prog_18_method_23_code 34 = .ok (.istore 6, 2) := by decide +kernel
theorem d_Shm_take_36 : decode prog_18_method_23_code 36 = .ok (.iload_n 1, 1) := by decide +kernel
theorem d_Shm_take_37 : decode prog_18_method_23_code 37 = .ok (.iconst 3, 1) := by decide +kernel
theorem d_Shm_take_38 : decode prog_18_method_23_code 38 = .ok (.iand, 1) := by decide +kernel
theorem d_Shm_take_39 : decode prog_18_method_23_code 39 = .ok (.tableswitch 61 0 2 #[25, 37, 49], 25) := by decide +kernel
theorem d_Shm_take_64 : decode prog_18_method_23_code 64 = .ok (.aload_n 0, 1) := by decide +kernel
theorem d_Shm_take_65 : decode prog_18_method_23_code 65 = .ok (.getfield 20, 3) := by decide +kernel
theorem d_Shm_take_68 : decode prog_18_method_23_code 68 = .ok (.iload 5, 2) := by decide +kernel
theorem d_Shm_take_70 : decode prog_18_method_23_code 70 = .ok (.iaload, 1) := by decide +kernel
theorem d_Shm_take_71 : decode prog_18_method_23_code 71 = .ok (.istore 6, 2) := by decide +kernel
theorem d_Shm_take_73 : decode prog_18_method_23_code 73 = .ok (.goto 27, 3) := by decide +kernel
theorem d_Shm_take_76 : decode prog_18_method_23_code 76 = .ok (.aload_n 0, 1) := by decide +kernel
theorem d_Shm_take_77 : decode prog_18_method_23_code 77 = .ok (.getfield 23, 3) := by decide +kernel
theorem d_Shm_take_80 : decode prog_18_method_23_code 80 = .ok (.iload 5, 2) := by decide +kernel
theorem d_Shm_take_82 : decode prog_18_method_23_code 82 = .ok (.iaload, 1) := by decide +kernel
theorem d_Shm_take_83 : decode prog_18_method_23_code 83 = .ok (.istore 6, 2) := by decide +kernel
theorem d_Shm_take_85 : decode prog_18_method_23_code 85 = .ok (.goto 15, 3) := by decide +kernel
theorem d_Shm_take_88 : decode prog_18_method_23_code 88 = .ok (.aload_n 0, 1) := by decide +kernel
theorem d_Shm_take_89 : decode prog_18_method_23_code 89 = .ok (.getfield 29, 3) := by decide +kernel
theorem d_Shm_take_92 : decode prog_18_method_23_code 92 = .ok (.iload 5, 2) := by decide +kernel
theorem d_Shm_take_94 : decode prog_18_method_23_code 94 = .ok (.iaload, 1) := by decide +kernel
theorem d_Shm_take_95 : decode prog_18_method_23_code 95 = .ok (.istore 6, 2) := by decide +kernel
theorem d_Shm_take_97 : decode prog_18_method_23_code 97 = .ok (.goto 3, 3) := by decide +kernel
theorem d_Shm_take_100 : decode prog_18_method_23_code 100 = .ok (.aload_n 0, 1) := by decide +kernel
theorem d_Shm_take_101 : decode prog_18_method_23_code 101 = .ok (.getfield 32, 3) := by decide +kernel
theorem d_Shm_take_104 : decode prog_18_method_23_code 104 = .ok (.iconst 4, 1) := by decide +kernel
theorem d_Shm_take_105 : decode prog_18_method_23_code 105 = .ok (.iload_n 2, 1) := by decide +kernel
theorem d_Shm_take_106 : decode prog_18_method_23_code 106 = .ok (.imul, 1) := by decide +kernel
theorem d_Shm_take_107 : decode prog_18_method_23_code 107 = .ok (.iload 4, 2) := by decide +kernel
theorem d_Shm_take_109 : decode prog_18_method_23_code 109 = .ok (.iadd, 1) := by decide +kernel
theorem d_Shm_take_110 : decode prog_18_method_23_code 110 = .ok (.iload_n 1, 1) := by decide +kernel
theorem d_Shm_take_111 : decode prog_18_method_23_code 111 = .ok (.bipush 15, 2) := by decide +kernel
theorem d_Shm_take_113 : decode prog_18_method_23_code 113 = .ok (.ishr, 1) := by decide +kernel
theorem d_Shm_take_114 : decode prog_18_method_23_code 114 = .ok (.iconst 1, 1) := by decide +kernel
theorem d_Shm_take_115 : decode prog_18_method_23_code 115 = .ok (.iand, 1) := by decide +kernel
theorem d_Shm_take_116 : decode prog_18_method_23_code 116 = .ok (.iconst 1, 1) := by decide +kernel
theorem d_Shm_take_117 : decode prog_18_method_23_code 117 = .ok (.if_icmp .ne 10, 3) := by decide +kernel
theorem d_Shm_take_120 : decode prog_18_method_23_code 120 = .ok (.iconst 0, 1) := by decide +kernel
theorem d_Shm_take_121 : decode prog_18_method_23_code 121 = .ok (.iload 6, 2) := by decide +kernel
theorem d_Shm_take_123 : decode prog_18_method_23_code 123 = .ok (.isub, 1) := by decide +kernel
theorem d_Shm_take_124 : decode prog_18_method_23_code 124 = .ok (.goto 5, 3) := by decide +kernel
theorem d_Shm_take_127 : decode prog_18_method_23_code 127 = .ok (.iload 6, 2) := by decide +kernel
theorem d_Shm_take_129 : decode prog_18_method_23_code 129 = .ok (.iastore, 1) := by decide +kernel
theorem d_Shm_take_130 : decode prog_18_method_23_code 130 = .ok (.iinc 4 1, 3) := by decide +kernel
theorem d_Shm_take_133 : decode prog_18_method_23_code 133 = .ok (.goto (-123), 3) := by decide +kernel
theorem d_Shm_take_136 : decode prog_18_method_23_code 136 = .ok (.return_, 1) := by decide +kernel
def F_Shm_take_129 (rc_10 : Sg → Nat → Int32 → Int32 → Int32 → Int32 → Option (Sg)) (σ : Sg) (v0 : Nat) (v1 : Int32) (v2 : Int32) (v3 : Int32) (v4 : Int32) (s0 : Nat) (s1 : Int32) (s2 : Int32) : Option (Sg) := ck (v0 < 2) (ck (s0 < 58) (ck (inb s1 (lenM σ s0)) (lt (sA σ s0 (upd (σ.2.2.1 s0) s1.toNatClampNeg s2)) (fun σ19 => lt (v4 + 1) (fun y20 => rc_10 σ19 v0 v1 v2 v3 y20)))))
set_option maxRecDepth 10000 in
set_option maxHeartbeats 4000000 in
theorem bt_Shm_take_129 {p : Program} {l : Launch} {e : Env} {R : Room} {s : State} {m : MethodId} {args : Array Value} {below : List Frame} {meth : Method} {c : Code} {D : va_G} {τ : ClassId × ClassId × ClassId} {B : Nat} {A : Nat → Prop} {ad : Nat → Nat} (E : Cx p R s m args meth c prog_18_method_23_code 7 "DrawingMachineModel$ShaderMachineModel" 0 D τ B A) (hret : meth.sig.returnType = none) (o : Sg) (rc_10 : Sg → Nat → Int32 → Int32 → Int32 → Int32 → Option (Sg)) (hr_10 : ∀ (σ : Sg) (v0 : Nat) (v1 : Int32) (v2 : Int32) (v3 : Int32) (v4 : Int32) (H : Heap) (locs : List Loc) (ls : Array Slot), rc_10 σ v0 v1 v2 v3 v4 = some o → Wd s D A (wdM τ σ ad) H locs → lv_has ls 7 [(0, .ref (ad (65 + v0))), (1, .int v1), (2, .int v2), (3, .int v3), (4, .int v4)] → W p l e R s m args below meth c H locs 0 0 (QV below args s A D τ (wdM τ o ad)) (F0 m 10 ls [])) (σ : Sg) (v0 : Nat) (v1 : Int32) (v2 : Int32) (v3 : Int32) (v4 : Int32) (s0 : Nat) (s1 : Int32) (s2 : Int32) (h : F_Shm_take_129 rc_10 σ v0 v1 v2 v3 v4 s0 s1 s2 = some o) {H : Heap} {locs : List Loc} {ls : Array Slot} (w : Wd s D A (wdM τ σ ad) H locs) (hl : lv_has ls 7 [(0, .ref (ad (65 + v0))), (1, .int v1), (2, .int v2), (3, .int v3), (4, .int v4)]) : W p l e R s m args below meth c H locs 0 0 (QV below args s A D τ (wdM τ o ad)) (F0 m 129 ls [.int s2, .int s1, .ref (ad s0)]) := by
  obtain ⟨c16, h⟩ := ck_some h
  obtain ⟨c17, h⟩ := ck_some h
  obtain ⟨c18, h⟩ := ck_some h
  obtain ⟨σ19, e_σ19, h⟩ := lt_some h
  refine iasM E w (k := s0) c17 c18 e_σ19 d_Shm_take_129 (fun H locs w => ?_)
  obtain ⟨y20, e_y20, h⟩ := lt_some h
  refine lv_iinc (v := y20) (lv' := [(4, .int y20), (0, .ref (ad (65 + v0))), (1, .int v1), (2, .int v2), (3, .int v3)]) E.x E.b d_Shm_take_130 hl (k := 4) rfl (e_y20) (by decide) rfl (fun ls hl => ?_)
  refine lv_goto (tgt := 10) E.x E.b d_Shm_take_133 (by decide) ?_
  exact hr_10 σ19 v0 v1 v2 v3 y20 _ _ _ h w (lv_sub hl [1, 2, 3, 4, 0] rfl)
def F_Shm_take_100 (rc_10 : Sg → Nat → Int32 → Int32 → Int32 → Int32 → Option (Sg)) (σ : Sg) (v0 : Nat) (v1 : Int32) (v2 : Int32) (v3 : Int32) (v4 : Int32) (v6 : Int32) : Option (Sg) := ck (v0 < 2) (if ((v1 >>> 15) &&& 1) = 1 then (F_Shm_take_129 rc_10 σ v0 v1 v2 v3 v4 (20 + 10 * v0) ((4 * v2) + v4) (0 - v6)) else (F_Shm_take_129 rc_10 σ v0 v1 v2 v3 v4 (20 + 10 * v0) ((4 * v2) + v4) v6))
set_option maxRecDepth 10000 in
set_option maxHeartbeats 4000000 in
theorem bt_Shm_take_100 {p : Program} {l : Launch} {e : Env} {R : Room} {s : State} {m : MethodId} {args : Array Value} {below : List Frame} {meth : Method} {c : Code} {D : va_G} {τ : ClassId × ClassId × ClassId} {B : Nat} {A : Nat → Prop} {ad : Nat → Nat} (E : Cx p R s m args meth c prog_18_method_23_code 7 "DrawingMachineModel$ShaderMachineModel" 0 D τ B A) (hret : meth.sig.returnType = none) (o : Sg) (rc_10 : Sg → Nat → Int32 → Int32 → Int32 → Int32 → Option (Sg)) (hr_10 : ∀ (σ : Sg) (v0 : Nat) (v1 : Int32) (v2 : Int32) (v3 : Int32) (v4 : Int32) (H : Heap) (locs : List Loc) (ls : Array Slot), rc_10 σ v0 v1 v2 v3 v4 = some o → Wd s D A (wdM τ σ ad) H locs → lv_has ls 7 [(0, .ref (ad (65 + v0))), (1, .int v1), (2, .int v2), (3, .int v3), (4, .int v4)] → W p l e R s m args below meth c H locs 0 0 (QV below args s A D τ (wdM τ o ad)) (F0 m 10 ls [])) (σ : Sg) (v0 : Nat) (v1 : Int32) (v2 : Int32) (v3 : Int32) (v4 : Int32) (v6 : Int32) (h : F_Shm_take_100 rc_10 σ v0 v1 v2 v3 v4 v6 = some o) {H : Heap} {locs : List Loc} {ls : Array Slot} (w : Wd s D A (wdM τ σ ad) H locs) (hl : lv_has ls 7 [(0, .ref (ad (65 + v0))), (1, .int v1), (2, .int v2), (3, .int v3), (4, .int v4), (6, .int v6)]) : W p l e R s m args below meth c H locs 0 0 (QV below args s A D τ (wdM τ o ad)) (F0 m 100 ls []) := by
  obtain ⟨c21, h⟩ := ck_some h
  refine lv_aload_n E.x E.b d_Shm_take_100 rfl (lv_at hl 0 rfl) ?_
  refine gM_Shm_read E w (pid := v0) c21 k1571 d_Shm_take_101 ?_
  refine lv_iconst (v := 4) E.x E.b d_Shm_take_104 (by decide) ?_
  refine lv_iload_n E.x E.b d_Shm_take_105 rfl (lv_at hl 2 rfl) ?_
  refine lv_imul E.x E.b d_Shm_take_106 ?_
  refine lv_iload E.x E.b d_Shm_take_107 (lv_at hl 4 rfl) ?_
  refine lv_iadd E.x E.b d_Shm_take_109 ?_
  refine lv_iload_n E.x E.b d_Shm_take_110 rfl (lv_at hl 1 rfl) ?_
  refine lv_bipush (v := 15) E.x E.b d_Shm_take_111 (by decide) ?_
  refine lv_ishr E.x E.b d_Shm_take_113 ?_
  refine wi_e (v := v1 >>> 15) rfl ?_
  refine lv_iconst (v := 1) E.x E.b d_Shm_take_114 (by decide) ?_
  refine lv_iand E.x E.b d_Shm_take_115 ?_
  refine lv_iconst (v := 1) E.x E.b d_Shm_take_116 (by decide) ?_
  refine lv_icmp_ne (tgt := 127) E.x E.b d_Shm_take_117 (by decide) (fun c => ?_) (fun c => ?_)
  ·
    replace h := ifF c h
    refine lv_iload E.x E.b d_Shm_take_127 (lv_at hl 5 rfl) ?_
    exact bt_Shm_take_129 E hret o rc_10 hr_10 σ v0 v1 v2 v3 v4 (20 + 10 * v0) ((4 * v2) + v4) v6 h w (lv_sub hl [0, 1, 2, 3, 4] rfl)
  ·
    replace h := ifT c h
    refine lv_iconst (v := 0) E.x E.b d_Shm_take_120 (by decide) ?_
    refine lv_iload E.x E.b d_Shm_take_121 (lv_at hl 5 rfl) ?_
    refine lv_isub E.x E.b d_Shm_take_123 ?_
    refine lv_goto (tgt := 129) E.x E.b d_Shm_take_124 (by decide) ?_
    exact bt_Shm_take_129 E hret o rc_10 hr_10 σ v0 v1 v2 v3 v4 (20 + 10 * v0) ((4 * v2) + v4) (0 - v6) h w (lv_sub hl [0, 1, 2, 3, 4] rfl)
def L_Shm_take_10 : Nat → Sg → Nat → Int32 → Int32 → Int32 → Int32 → Option (Sg)
  | 0, _, _, _, _, _, _ => none
  | n + 1, σ, v0, v1, v2, v3, v4 => ck (v0 < 2) (if 4 ≤ v4 then (some σ) else (lt (((4 : Int32) * v3) + ((v1 >>> ((7 + (2 * v4)) &&& 31)) &&& 3)) (fun y23 => lt (v1 &&& 3) (fun y24 => if y24 = 0 then (ck (inb y23 (lenM σ (16 + 10 * v0))) (lt (σ.2.2.1 (16 + 10 * v0) y23.toNatClampNeg) (fun y27 => F_Shm_take_100 (L_Shm_take_10 n) σ v0 v1 v2 v3 v4 y27))) else (if y24 = 1 then (ck (inb y23 (lenM σ (17 + 10 * v0))) (lt (σ.2.2.1 (17 + 10 * v0) y23.toNatClampNeg) (fun y30 => F_Shm_take_100 (L_Shm_take_10 n) σ v0 v1 v2 v3 v4 y30))) else (if y24 = 2 then (ck (inb y23 (lenM σ (19 + 10 * v0))) (lt (σ.2.2.1 (19 + 10 * v0) y23.toNatClampNeg) (fun y33 => F_Shm_take_100 (L_Shm_take_10 n) σ v0 v1 v2 v3 v4 y33))) else (F_Shm_take_100 (L_Shm_take_10 n) σ v0 v1 v2 v3 v4 0)))))))
set_option maxRecDepth 10000 in
set_option maxHeartbeats 4000000 in
theorem lt_Shm_take_10 {p : Program} {l : Launch} {e : Env} {R : Room} {s : State} {m : MethodId} {args : Array Value} {below : List Frame} {meth : Method} {c : Code} {D : va_G} {τ : ClassId × ClassId × ClassId} {B : Nat} {A : Nat → Prop} {ad : Nat → Nat} (E : Cx p R s m args meth c prog_18_method_23_code 7 "DrawingMachineModel$ShaderMachineModel" 0 D τ B A) (hret : meth.sig.returnType = none) (o : Sg) : ∀ (n : Nat) (σ : Sg) (v0 : Nat) (v1 : Int32) (v2 : Int32) (v3 : Int32) (v4 : Int32) (H : Heap) (locs : List Loc) (ls : Array Slot), L_Shm_take_10 n σ v0 v1 v2 v3 v4 = some o → Wd s D A (wdM τ σ ad) H locs → lv_has ls 7 [(0, .ref (ad (65 + v0))), (1, .int v1), (2, .int v2), (3, .int v3), (4, .int v4)] → W p l e R s m args below meth c H locs 0 0 (QV below args s A D τ (wdM τ o ad)) (F0 m 10 ls []) := by
  intro n
  induction n with
  | zero =>
    intro σ v0 v1 v2 v3 v4 H locs ls h w hl
    cases h
  | succ n hr_10 =>
    intro σ v0 v1 v2 v3 v4 H locs ls h w hl
    obtain ⟨c22, h⟩ := ck_some h
    refine lv_iload E.x E.b d_Shm_take_10 (lv_at hl 4 rfl) ?_
    refine lv_iconst (v := 4) E.x E.b d_Shm_take_12 (by decide) ?_
    refine lv_icmp_ge (tgt := 136) E.x E.b d_Shm_take_13 (by decide) (fun c => ?_) (fun c => ?_)
    ·
      replace h := ifT c h
      obtain rfl := Option.some.inj h
      exact rt_v E w hret d_Shm_take_136
    ·
      replace h := ifF c h
      refine lv_iconst (v := 4) E.x E.b d_Shm_take_16 (by decide) ?_
      refine lv_iload_n E.x E.b d_Shm_take_17 rfl (lv_at hl 3 rfl) ?_
      refine lv_imul E.x E.b d_Shm_take_18 ?_
      refine lv_iload_n E.x E.b d_Shm_take_19 rfl (lv_at hl 1 rfl) ?_
      refine lv_bipush (v := 7) E.x E.b d_Shm_take_20 (by decide) ?_
      refine lv_iconst (v := 2) E.x E.b d_Shm_take_22 (by decide) ?_
      refine lv_iload E.x E.b d_Shm_take_23 (lv_at hl 4 rfl) ?_
      refine lv_imul E.x E.b d_Shm_take_25 ?_
      refine lv_iadd E.x E.b d_Shm_take_26 ?_
      refine lv_ishr E.x E.b d_Shm_take_27 ?_
      refine lv_iconst (v := 3) E.x E.b d_Shm_take_28 (by decide) ?_
      refine lv_iand E.x E.b d_Shm_take_29 ?_
      refine lv_iadd E.x E.b d_Shm_take_30 ?_
      obtain ⟨y23, e_y23, h⟩ := lt_some h
      refine wi_e (v := y23) e_y23 ?_
      refine lv_istore (lv' := [(5, .int y23), (0, .ref (ad (65 + v0))), (1, .int v1), (2, .int v2), (3, .int v3), (4, .int v4)]) E.x E.b d_Shm_take_31 hl (by decide) rfl (fun ls hl => ?_)
      refine lv_iconst (v := 0) E.x E.b d_Shm_take_33 (by decide) ?_
      refine lv_istore (lv' := [(6, .int 0), (5, .int y23), (0, .ref (ad (65 + v0))), (1, .int v1), (2, .int v2), (3, .int v3), (4, .int v4)]) E.x E.b d_Shm_take_34 hl (by decide) rfl (fun ls hl => ?_)
      refine lv_iload_n E.x E.b d_Shm_take_36 rfl (lv_at hl 3 rfl) ?_
      refine lv_iconst (v := 3) E.x E.b d_Shm_take_37 (by decide) ?_
      refine lv_iand E.x E.b d_Shm_take_38 ?_
      obtain ⟨y24, e_y24, h⟩ := lt_some h
      refine wi_e (v := y24) e_y24 ?_
      by_cases q25 : y24 = 0
      ·
        replace h := ifT q25 h
        refine wi_e (v := 0) q25 ?_
        refine lv_tableIn (off := 25) (tgt := 64) E.x E.b d_Shm_take_39 (by decide) (by decide) (by decide) (by decide) ?_
        refine lv_aload_n E.x E.b d_Shm_take_64 rfl (lv_at hl 2 rfl) ?_
        refine gM_Shm_temporaries E w (pid := v0) c22 k1564 d_Shm_take_65 ?_
        refine lv_iload E.x E.b d_Shm_take_68 (lv_at hl 1 rfl) ?_
        obtain ⟨c26, h⟩ := ck_some h
        refine ialM E w (k := (16 + 10 * v0)) (by omega) c26 d_Shm_take_70 ?_
        obtain ⟨y27, e_y27, h⟩ := lt_some h
        refine wi_e (v := y27) e_y27 ?_
        refine lv_istore (lv' := [(6, .int y27), (5, .int y23), (0, .ref (ad (65 + v0))), (1, .int v1), (2, .int v2), (3, .int v3), (4, .int v4)]) E.x E.b d_Shm_take_71 hl (by decide) rfl (fun ls hl => ?_)
        refine lv_goto (tgt := 100) E.x E.b d_Shm_take_73 (by decide) ?_
        exact bt_Shm_take_100 E hret o (L_Shm_take_10 n) hr_10 σ v0 v1 v2 v3 v4 y27 h w (lv_sub hl [2, 3, 4, 5, 6, 0] rfl)
      replace h := ifF q25 h
      replace q25 := ne_ti (k := 0) (by decide) q25
      by_cases q28 : y24 = 1
      ·
        replace h := ifT q28 h
        refine wi_e (v := 1) q28 ?_
        refine lv_tableIn (off := 37) (tgt := 76) E.x E.b d_Shm_take_39 (by decide) (by decide) (by decide) (by decide) ?_
        refine lv_aload_n E.x E.b d_Shm_take_76 rfl (lv_at hl 2 rfl) ?_
        refine gM_Shm_ins E w (pid := v0) c22 k1565 d_Shm_take_77 ?_
        refine lv_iload E.x E.b d_Shm_take_80 (lv_at hl 1 rfl) ?_
        obtain ⟨c29, h⟩ := ck_some h
        refine ialM E w (k := (17 + 10 * v0)) (by omega) c29 d_Shm_take_82 ?_
        obtain ⟨y30, e_y30, h⟩ := lt_some h
        refine wi_e (v := y30) e_y30 ?_
        refine lv_istore (lv' := [(6, .int y30), (5, .int y23), (0, .ref (ad (65 + v0))), (1, .int v1), (2, .int v2), (3, .int v3), (4, .int v4)]) E.x E.b d_Shm_take_83 hl (by decide) rfl (fun ls hl => ?_)
        refine lv_goto (tgt := 100) E.x E.b d_Shm_take_85 (by decide) ?_
        exact bt_Shm_take_100 E hret o (L_Shm_take_10 n) hr_10 σ v0 v1 v2 v3 v4 y30 h w (lv_sub hl [2, 3, 4, 5, 6, 0] rfl)
      replace h := ifF q28 h
      replace q28 := ne_ti (k := 1) (by decide) q28
      by_cases q31 : y24 = 2
      ·
        replace h := ifT q31 h
        refine wi_e (v := 2) q31 ?_
        refine lv_tableIn (off := 49) (tgt := 88) E.x E.b d_Shm_take_39 (by decide) (by decide) (by decide) (by decide) ?_
        refine lv_aload_n E.x E.b d_Shm_take_88 rfl (lv_at hl 2 rfl) ?_
        refine gM_Shm_uniforms E w (pid := v0) c22 k1569 d_Shm_take_89 ?_
        refine lv_iload E.x E.b d_Shm_take_92 (lv_at hl 1 rfl) ?_
        obtain ⟨c32, h⟩ := ck_some h
        refine ialM E w (k := (19 + 10 * v0)) (by omega) c32 d_Shm_take_94 ?_
        obtain ⟨y33, e_y33, h⟩ := lt_some h
        refine wi_e (v := y33) e_y33 ?_
        refine lv_istore (lv' := [(6, .int y33), (5, .int y23), (0, .ref (ad (65 + v0))), (1, .int v1), (2, .int v2), (3, .int v3), (4, .int v4)]) E.x E.b d_Shm_take_95 hl (by decide) rfl (fun ls hl => ?_)
        refine lv_goto (tgt := 100) E.x E.b d_Shm_take_97 (by decide) ?_
        exact bt_Shm_take_100 E hret o (L_Shm_take_10 n) hr_10 σ v0 v1 v2 v3 v4 y33 h w (lv_sub hl [2, 3, 4, 5, 6, 0] rfl)
      replace h := ifF q31 h
      replace q31 := ne_ti (k := 2) (by decide) q31
      refine lv_tableOut (tgt := 100) E.x E.b d_Shm_take_39 (by omega) (by decide) ?_
      exact bt_Shm_take_100 E hret o (L_Shm_take_10 n) hr_10 σ v0 v1 v2 v3 v4 0 h w (lv_sub hl [2, 3, 4, 5, 6, 0] rfl)
def F_Shm_take (σ : Sg) (p0 : Nat) (x0 : Int32) (x1 : Int32) : Option (Sg) := ck (p0 < 2) (lt ((x0 >>> 2) &&& 31) (fun y35 => L_Shm_take_10 100000 σ p0 x0 x1 y35 0))
set_option maxRecDepth 10000 in
set_option maxHeartbeats 4000000 in
theorem c_Shm_take (l : Launch) (D : va_G) (τ : ClassId × ClassId × ClassId) (B : Nat) (σ : Sg) (ad : Nat → Nat) (p0 : Nat) (x0 : Int32) (x1 : Int32) (o : Sg) (h : F_Shm_take σ p0 x0 x1 = some o) : MV l y_Shm_take (Cond.code y_Shm_take prog_18_method_23_code 7 none) 0 D τ B [.ref (ad (65 + p0)), .int x0, .int x1] (wdM τ σ ad) (wdM τ o ad) := by
  refine en_v (by decide) (Nat.le_of_ble_eq_true rfl) ?_
  intro p e R s m args below meth c H locs ls A E hret w hl
  have E : Cx p R s m args meth c prog_18_method_23_code 7 "DrawingMachineModel$ShaderMachineModel" 0 D τ B A := E
  have hl : lv_has ls 7 [(0, .ref (ad (65 + p0))), (1, .int x0), (2, .int x1)] := hl
  obtain ⟨c34, h⟩ := ck_some h
  refine lv_iload_n E.x E.b d_Shm_take_0 rfl (lv_at hl 1 rfl) ?_
  refine lv_iconst (v := 2) E.x E.b d_Shm_take_1 (by decide) ?_
  refine lv_ishr E.x E.b d_Shm_take_2 ?_
  refine wi_e (v := x0 >>> 2) rfl ?_
  refine lv_bipush (v := 31) E.x E.b d_Shm_take_3 (by decide) ?_
  refine lv_iand E.x E.b d_Shm_take_5 ?_
  obtain ⟨y35, e_y35, h⟩ := lt_some h
  refine wi_e (v := y35) e_y35 ?_
  refine lv_istore_n (lv' := [(3, .int y35), (0, .ref (ad (65 + p0))), (1, .int x0), (2, .int x1)]) E.x E.b d_Shm_take_6 rfl hl (by decide) rfl (fun ls hl => ?_)
  refine lv_iconst (v := 0) E.x E.b d_Shm_take_7 (by decide) ?_
  refine lv_istore (lv' := [(4, .int 0), (3, .int y35), (0, .ref (ad (65 + p0))), (1, .int x0), (2, .int x1)]) E.x E.b d_Shm_take_8 hl (by decide) rfl (fun ls hl => ?_)
  exact lt_Shm_take_10 E hret o 100000 σ p0 x0 x1 y35 0 _ _ _ h w (lv_sub hl [2, 3, 4, 1, 0] rfl)
theorem clV_Shm_take {p : Program} {l : Launch} {e : Env} {R : Room} {s : State} {m : MethodId} {args : Array Value} {below : List Frame} {meth : Method} {c : Code} {H : Heap} {locs : List Loc} {Q : State → Prop} {cc : ByteArray} {nL pc lev : Nat} {own : String} {D : va_G} {τ : ClassId × ClassId × ClassId} {B : Nat} {A : Nat → Prop} {σ : Sg} {ad : Nat → Nat} {ls : Array Slot} {rest : List Value} (E : Cx p R s m args meth c cc nL own lev D τ B A) (w : Wd s D A (wdM τ σ ad) H locs) {p0 : Nat} {x0 : Int32} {x1 : Int32} {o : Sg} (h : F_Shm_take σ p0 x0 x1 = some o) {index : Nat} (hlk : Cond.methodLink own index y_Shm_take ∈ tw) (hlev : 0 < lev) (hsz : ls.size = nL) (hr : (rest.map fun v => v.category).sum ≤ 8) (hd : decode cc pc = .ok (.invokevirtual index, 3)) (kk : ∀ (H1 : Heap) (locs1 : List Loc), Wd s D A (wdM τ o ad) H1 locs1 → W p l e R s m args below meth c H1 locs1 0 0 Q (F0 m (pc + 3) ls (rest))) : W p l e R s m args below meth c H locs 0 0 Q (F0 m pc ls (.int x1 :: .int x0 :: .ref (ad (65 + p0)) :: rest)) :=
  cr_v w E.C (va_runV (As := [.int x0, .int x1]) (rest := rest) E.fix (c_Shm_take l D τ B σ ad p0 x0 x1 o h H.size) (cwV 2 E.w (tw_pre (tw_good k2201) (l := [_, _, _, _]) (List.forall_mem_cons.mpr ⟨hlk, List.forall_mem_cons.mpr ⟨k2200, List.forall_mem_cons.mpr ⟨ks77, List.forall_mem_cons.mpr ⟨k17, fun _ h => absurd h List.not_mem_nil⟩⟩⟩⟩)) rfl rfl rfl (by decide +kernel) (E.rm hlev (by decide))) (wd_preV w E.C [.int x0, .int x1] (rcM_Shm (ck_some h).1) rfl) rfl rfl hsz rfl (lv_room hr) hd ⟨Nat.zero_le _, Nat.zero_le _⟩) kk

theorem d_Shm_run_0 : decode prog_18_method_29_code 0 = .ok (.aload_n 0, 1) := by decide +kernel
theorem d_Shm_run_1 : decode prog_18_method_29_code 1 = .ok (.aload_n 0, 1) := by decide +kernel
theorem d_Shm_run_2 : decode prog_18_method_29_code 2 = .ok (.getfield 123, 3) := by decide +kernel
theorem d_Shm_run_5 : decode prog_18_method_29_code 5 = .ok (.ifCond .ne 7, 3) := by decide +kernel
theorem d_Shm_run_8 : decode prog_18_method_29_code 8 = .ok (.iconst 1, 1) := by decide +kernel
theorem d_Shm_run_9 : decode prog_18_method_29_code 9 = .ok (.goto 4, 3) := by decide +kernel
theorem d_Shm_run_12 : decode prog_18_method_29_code 12 = .ok (.iconst 0, 1) := by decide +kernel
theorem d_Shm_run_13 : decode prog_18_method_29_code 13 = .ok (.invokevirtual 115, 3) := by decide +kernel
theorem d_Shm_run_16 : decode prog_18_method_29_code 16 = .ok (.ifCond .eq 5, 3) := by decide +kernel
theorem d_Shm_run_19 : decode prog_18_method_29_code 19 = .ok (.iconst 0, 1) := by decide +kernel
theorem d_Shm_run_20 : decode prog_18_method_29_code 20 = .ok (.ireturn, 1) := by decide +kernel
theorem d_Shm_run_21 : decode prog_18_method_29_code 21 = .ok (.iconst 0, 1) := by decide +kernel
theorem d_Shm_run_22 : decode prog_18_method_29_code 22 = .ok (.istore_n 1, 1) := by decide +kernel
theorem d_Shm_run_23 : decode prog_18_method_29_code 23 = .ok (.iload_n 1, 1) := by decide +kernel
theorem d_Shm_run_24 : decode prog_18_method_29_code 24 = .ok (.bipush 64, 2) := by decide +kernel
theorem d_Shm_run_26 : decode prog_18_method_29_code 26 = .ok (.if_icmp .ge 26, 3) := by decide +kernel
theorem d_Shm_run_29 : decode prog_18_method_29_code 29 = .ok (.aload_n 0, 1) := by decide +kernel
theorem d_Shm_run_30 : decode prog_18_method_29_code 30 = .ok (.getfield 20, 3) := by decide +kernel
theorem d_Shm_run_33 : decode prog_18_method_29_code 33 = .ok (.iload_n 1, 1) := by decide +kernel
theorem d_Shm_run_34 : decode prog_18_method_29_code 34 = .ok (.iconst 0, 1) := by decide +kernel
theorem d_Shm_run_35 : decode prog_18_method_29_code 35 = .ok (.iastore, 1) := by decide +kernel
theorem d_Shm_run_36 : decode prog_18_method_29_code 36 = .ok (.aload_n 0, 1) := by decide +kernel
theorem d_Shm_run_37 : decode prog_18_method_29_code 37 = .ok (.getfield 26, 3) := by decide +kernel
theorem d_Shm_run_40 : decode prog_18_method_29_code 40 = .ok (.iload_n 1, 1) := by decide +kernel
theorem d_Shm_run_41 : decode prog_18_method_29_code 41 = .ok (.bipush 32, 2) := by decide +kernel
theorem d_Shm_run_43 : decode prog_18_method_29_code 43 = .ok (.irem, 1) := by decide +kernel
theorem d_Shm_run_44 : decode prog_18_method_29_code 44 = .ok (.iconst 0, 1) := by decide +kernel
theorem d_Shm_run_45 : decode prog_18_method_29_code 45 = .ok (.iastore, 1) := by decide +kernel
theorem d_Shm_run_46 : decode prog_18_method_29_code 46 = .ok (.iinc 1 1, 3) := by decide +kernel
theorem d_Shm_run_49 : decode prog_18_method_29_code 49 = .ok (.goto (-26), 3) := by decide +kernel
theorem d_Shm_run_52 : decode prog_18_method_29_code 52 = .ok (.aload_n 0, 1) := by decide +kernel
theorem d_Shm_run_53 : decode prog_18_method_29_code 53 = .ok (.iconst 0, 1) := by decide +kernel
theorem d_Shm_run_54 : decode prog_18_method_29_code 54 = .ok (.putfield 174, 3) := by decide +kernel
theorem d_Shm_run_57 : decode prog_18_method_29_code 57 = .ok (.iconst 0, 1) := by decide +kernel
theorem d_Shm_run_58 : decode prog_18_method_29_code 58 = .ok (.istore_n 1, 1) := by decide +kernel
theorem d_Shm_run_59 : decode prog_18_method_29_code 59 = .ok (.iconst 0, 1) := by decide +kernel
theorem d_Shm_run_60 : decode prog_18_method_29_code 60 = .ok (.istore_n 2, 1) := by decide +kernel
theorem d_Shm_run_61 : decode prog_18_method_29_code 61 = .ok (.aload_n 0, 1) := by decide +kernel
theorem d_Shm_run_62 : decode prog_18_method_29_code 62 = .ok (.getfield 7, 3) := by decide +kernel
theorem d_Shm_run_65 : decode prog_18_method_29_code 65 = .ok (.iload_n 2, 1) := by decide +kernel
theorem d_Shm_run_66 : decode prog_18_method_29_code 66 = .ok (.invokestatic 56, 3) := by decide +kernel
theorem d_Shm_run_69 : decode prog_18_method_29_code 69 = .ok (.istore_n 3, 1) := by decide +kernel
theorem d_Shm_run_70 : decode prog_18_method_29_code 70 = .ok (.iinc 1 1, 3) := by decide +kernel
theorem d_Shm_run_73 : decode prog_18_method_29_code 73 = .ok (.iconst 0, 1) := by decide +kernel
theorem d_Shm_run_74 : decode prog_18_method_29_code 74 = .ok (.istore 4, 2) := by decide +kernel
theorem d_Shm_run_76 : decode prog_18_method_29_code 76 = .ok (.iload 4, 2) := by decide +kernel
theorem d_Shm_run_78 : decode prog_18_method_29_code 78 = .ok (.iconst 3, 1) := by decide +kernel
theorem d_Shm_run_79 : decode prog_18_method_29_code 79 = .ok (.if_icmp .ge 25, 3) := by decide +kernel
theorem d_Shm_run_82 : decode prog_18_method_29_code 82 = .ok (.aload_n 0, 1) := by decide +kernel
theorem d_Shm_run_83 : decode prog_18_method_29_code 83 = .ok (.aload_n 0, 1) := by decide +kernel
theorem d_Shm_run_84 : decode prog_18_method_29_code 84 = .ok (.getfield 7, 3) := by decide +kernel
theorem d_Shm_run_87 : decode prog_18_method_29_code 87 = .ok (.iload_n 2, 1) := by decide +kernel
theorem d_Shm_run_88 : decode prog_18_method_29_code 88 = .ok (.iload 4, 2) := by decide +kernel
theorem d_Shm_run_90 : decode prog_18_method_29_code 90 = .ok (.invokestatic 64, 3) := by decide +kernel
theorem d_Shm_run_93 : decode prog_18_method_29_code 93 = .ok (.iload 4, 2) := by decide +kernel
theorem d_Shm_run_95 : decode prog_18_method_29_code 95 = .ok (.invokevirtual 177, 3) := by decide +kernel
theorem d_Shm_run_98 : decode prog_18_method_29_code 98 = .ok (.iinc 4 1, 3) := by decide +kernel
theorem d_Shm_run_101 : decode prog_18_method_29_code 101 = .ok (.goto (-25), 3) := by decide +kernel
theorem d_Shm_run_104 : decode prog_18_method_29_code 104 = .ok (.aload_n 0, 1) := by decide +kernel
theorem d_Shm_run_105 : decode prog_18_method_29_code 105 = .ok (.aload_n 0, 1) := by decide +kernel
theorem d_Shm_run_106 : decode prog_18_method_29_code 106 = .ok (.getfield 7, 3) := by decide +kernel
theorem d_Shm_run_109 : decode prog_18_method_29_code 109 = .ok (.iload_n 2, 1) := by decide +kernel
theorem d_Shm_run_110 : decode prog_18_method_29_code 110 = .ok (.invokestatic 72, 3) := by decide +kernel
theorem d_Shm_run_113 : decode prog_18_method_29_code 113 = .ok (.putfield 160, 3) := by decide +kernel
theorem d_Shm_run_116 : decode prog_18_method_29_code 116 = .ok (.iload_n 3, 1) := by decide +kernel
theorem d_Shm_run_117 : decode prog_18_method_29_code 117 = .ok (.ifCond .ne 5, 3) := by decide +kernel
theorem d_Shm_run_120 : decode prog_18_method_29_code 120 = .ok (.iload_n 1, 1) := by decide +kernel
theorem d_Shm_run_121 : decode prog_18_method_29_code 121 = .ok (.ireturn, 1) := by decide +kernel
theorem d_Shm_run_122 : decode prog_18_method_29_code 122 = .ok (.iload_n 3, 1) := by decide +kernel
theorem d_Shm_run_123 : decode prog_18_method_29_code 123 = .ok (.invokestatic 52, 3) := by decide +kernel
theorem d_Shm_run_126 : decode prog_18_method_29_code 126 = .ok (.ifCond .eq 16, 3) := by decide +kernel
theorem d_Shm_run_129 : decode prog_18_method_29_code 129 = .ok (.aload_n 0, 1) := by decide +kernel
theorem d_Shm_run_130 : decode prog_18_method_29_code 130 = .ok (.aload_n 0, 1) := by decide +kernel
theorem d_Shm_run_131 : decode prog_18_method_29_code 131 = .ok (.getfield 7, 3) := by decide +kernel
theorem d_Shm_run_134 : decode prog_18_method_29_code 134 = .ok (.iconst 3, 1) := by decide +kernel
theorem d_Shm_run_135 : decode prog_18_method_29_code 135 = .ok (.iload_n 2, 1) := by decide +kernel
theorem d_Shm_run_136 : decode prog_18_method_29_code 136 = .ok (.imul, 1) := by decide +kernel
theorem d_Shm_run_137 : decode prog_18_method_29_code 137 = .ok (.iaload, 1) := by decide +kernel
theorem d_Shm_run_138 : decode prog_18_method_29_code 138 = .ok (.iload_n 3, 1) := by decide +kernel
theorem d_Shm_run_139 : decode prog_18_method_29_code 139 = .ok (.invokevirtual 181, 3) := by decide +kernel
theorem d_Shm_run_142 : decode prog_18_method_29_code 142 = .ok (.iload_n 2, 1) := by decide +kernel
theorem d_Shm_run_143 : decode prog_18_method_29_code 143 = .ok (.iconst 1, 1) := by decide +kernel
theorem d_Shm_run_144 : decode prog_18_method_29_code 144 = .ok (.iadd, 1) := by decide +kernel
theorem d_Shm_run_145 : decode prog_18_method_29_code 145 = .ok (.istore 4, 2) := by decide +kernel
theorem d_Shm_run_147 : decode prog_18_method_29_code 147 = .ok (.iload_n 3, 1) := by decide +kernel
theorem d_Shm_run_148 : decode prog_18_method_29_code 148 = .ok (.tableswitch 178 34 38 #[36, 49, 92, 115, 124], 36) := by decide +kernel
theorem d_Shm_run_184 : decode prog_18_method_29_code 184 = .ok (.aload_n 0, 1) := by decide +kernel
theorem d_Shm_run_185 : decode prog_18_method_29_code 185 = .ok (.getfield 38, 3) := by decide +kernel
theorem d_Shm_run_188 : decode prog_18_method_29_code 188 = .ok (.iload_n 2, 1) := by decide +kernel
theorem d_Shm_run_189 : decode prog_18_method_29_code 189 = .ok (.aload_n 0, 1) := by decide +kernel
theorem d_Shm_run_190 : decode prog_18_method_29_code 190 = .ok (.getfield 160, 3) := by decide +kernel
theorem d_Shm_run_193 : decode prog_18_method_29_code 193 = .ok (.iastore, 1) := by decide +kernel
theorem d_Shm_run_194 : decode prog_18_method_29_code 194 = .ok (.goto 132, 3) := by decide +kernel
theorem d_Shm_run_197 : decode prog_18_method_29_code 197 = .ok (.aload_n 0, 1) := by decide +kernel
theorem d_Shm_run_198 : decode prog_18_method_29_code 198 = .ok (.getfield 41, 3) := by decide +kernel
theorem d_Shm_run_201 : decode prog_18_method_29_code 201 = .ok (.iload_n 2, 1) := by decide +kernel
theorem d_Shm_run_202 : decode prog_18_method_29_code 202 = .ok (.iaload, 1) := by decide +kernel
theorem d_Shm_run_203 : decode prog_18_method_29_code 203 = .ok (.istore 5, 2) := by decide +kernel
theorem d_Shm_run_205 : decode prog_18_method_29_code 205 = .ok (.aload_n 0, 1) := by decide +kernel
theorem d_Shm_run_206 : decode prog_18_method_29_code 206 = .ok (.getfield 38, 3) := by decide +kernel
theorem d_Shm_run_209 : decode prog_18_method_29_code 209 = .ok (.iload 5, 2) := by decide +kernel
theorem d_Shm_run_211 : decode prog_18_method_29_code 211 = .ok (.dup2, 1) := by decide +kernel
theorem d_Shm_run_212 : decode prog_18_method_29_code 212 = .ok (.iaload, 1) := by decide +kernel
theorem d_Shm_run_213 : decode prog_18_method_29_code 213 = .ok (.iconst 1, 1) := by decide +kernel
theorem d_Shm_run_214 : decode prog_18_method_29_code 214 = .ok (.isub, 1) := by decide +kernel
theorem d_Shm_run_215 : decode prog_18_method_29_code 215 = .ok (.iastore, 1) := by decide +kernel
theorem d_Shm_run_216 : decode prog_18_method_29_code 216 = .ok (.aload_n 0, 1) := by decide +kernel
theorem d_Shm_run_217 : decode prog_18_method_29_code 217 = .ok (.getfield 38, 3) := by decide +kernel
theorem d_Shm_run_220 : decode prog_18_method_29_code 220 = .ok (.iload 5, 2) := by decide +kernel
theorem d_Shm_run_222 : decode prog_18_method_29_code 222 = .ok (.iaload, 1) := by decide +kernel
theorem d_Shm_run_223 : decode prog_18_method_29_code 223 = .ok (.ifCond .le 10, 3) := by decide +kernel
theorem d_Shm_run_226 : decode prog_18_method_29_code 226 = .ok (.iload 5, 2) := by decide +kernel
theorem d_Shm_run_228 : decode prog_18_method_29_code 228 = .ok (.iconst 1, 1) := by decide +kernel
theorem d_Shm_run_229 : decode prog_18_method_29_code 229 = .ok (.iadd, 1) := by decide +kernel
theorem d_Shm_run_230 : decode prog_18_method_29_code 230 = .ok (.goto 5, 3) := by decide +kernel
theorem d_Shm_run_233 : decode prog_18_method_29_code 233 = .ok (.iload 4, 2) := by decide +kernel
theorem d_Shm_run_235 : decode prog_18_method_29_code 235 = .ok (.istore 4, 2) := by decide +kernel
theorem d_Shm_run_237 : decode prog_18_method_29_code 237 = .ok (.goto 89, 3) := by decide +kernel
theorem d_Shm_run_240 : decode prog_18_method_29_code 240 = .ok (.aload_n 0, 1) := by decide +kernel
theorem d_Shm_run_241 : decode prog_18_method_29_code 241 = .ok (.getfield 32, 3) := by decide +kernel
theorem d_Shm_run_244 : decode prog_18_method_29_code 244 = .ok (.iconst 0, 1) := by decide +kernel
theorem d_Shm_run_245 : decode prog_18_method_29_code 245 = .ok (.iaload, 1) := by decide +kernel
theorem d_Shm_run_246 : decode prog_18_method_29_code 246 = .ok (.ifCond .gt 10, 3) := by decide +kernel
theorem d_Shm_run_249 : decode prog_18_method_29_code 249 = .ok (.aload_n 0, 1) := by decide +kernel
theorem d_Shm_run_250 : decode prog_18_method_29_code 250 = .ok (.getfield 160, 3) := by decide +kernel
theorem d_Shm_run_253 : decode prog_18_method_29_code 253 = .ok (.goto 5, 3) := by decide +kernel
theorem d_Shm_run_256 : decode prog_18_method_29_code 256 = .ok (.iload 4, 2) := by decide +kernel
theorem d_Shm_run_258 : decode prog_18_method_29_code 258 = .ok (.istore 4, 2) := by decide +kernel
theorem d_Shm_run_260 : decode prog_18_method_29_code 260 = .ok (.goto 66, 3) := by decide +kernel
theorem d_Shm_run_263 : decode prog_18_method_29_code 263 = .ok (.aload_n 0, 1) := by decide +kernel
theorem d_Shm_run_264 : decode prog_18_method_29_code 264 = .ok (.getfield 160, 3) := by decide +kernel
theorem d_Shm_run_267 : decode prog_18_method_29_code 267 = .ok (.istore 4, 2) := by decide +kernel
theorem d_Shm_run_269 : decode prog_18_method_29_code 269 = .ok (.goto 57, 3) := by decide +kernel
theorem d_Shm_run_272 : decode prog_18_method_29_code 272 = .ok (.aload_n 0, 1) := by decide +kernel
theorem d_Shm_run_273 : decode prog_18_method_29_code 273 = .ok (.aload_n 0, 1) := by decide +kernel
theorem d_Shm_run_274 : decode prog_18_method_29_code 274 = .ok (.getfield 32, 3) := by decide +kernel
theorem d_Shm_run_277 : decode prog_18_method_29_code 277 = .ok (.iconst 0, 1) := by decide +kernel
theorem d_Shm_run_278 : decode prog_18_method_29_code 278 = .ok (.iaload, 1) := by decide +kernel
theorem d_Shm_run_279 : decode prog_18_method_29_code 279 = .ok (.ifCond .lt 30, 3) := by decide +kernel
theorem d_Shm_run_282 : decode prog_18_method_29_code 282 = .ok (.aload_n 0, 1) := by decide +kernel
theorem d_Shm_run_283 : decode prog_18_method_29_code 283 = .ok (.getfield 32, 3) := by decide +kernel
theorem d_Shm_run_286 : decode prog_18_method_29_code 286 = .ok (.iconst 1, 1) := by decide +kernel
theorem d_Shm_run_287 : decode prog_18_method_29_code 287 = .ok (.iaload, 1) := by decide +kernel
theorem d_Shm_run_288 : decode prog_18_method_29_code 288 = .ok (.ifCond .lt 21, 3) := by decide +kernel
theorem d_Shm_run_291 : decode prog_18_method_29_code 291 = .ok (.aload_n 0, 1) := by decide +kernel
theorem d_Shm_run_292 : decode prog_18_method_29_code 292 = .ok (.getfield 32, 3) := by decide +kernel
theorem d_Shm_run_295 : decode prog_18_method_29_code 295 = .ok (.iconst 2, 1) := by decide +kernel
theorem d_Shm_run_296 : decode prog_18_method_29_code 296 = .ok (.iaload, 1) := by decide +kernel
theorem d_Shm_run_297 : decode prog_18_method_29_code 297 = .ok (.ifCond .lt 12, 3) := by decide +kernel
theorem d_Shm_run_300 : decode prog_18_method_29_code 300 = .ok (.aload_n 0, 1) := by decide +kernel
theorem d_Shm_run_301 : decode prog_18_method_29_code 301 = .ok (.getfield 32, 3) := by decide +kernel
theorem d_Shm_run_304 : decode prog_18_method_29_code 304 = .ok (.iconst 3, 1) := by decide +kernel
theorem d_Shm_run_305 : decode prog_18_method_29_code 305 = .ok (.iaload, 1) := by decide +kernel
theorem d_Shm_run_306 : decode prog_18_method_29_code 306 = .ok (.ifCond .ge 7, 3) := by decide +kernel
theorem d_Shm_run_309 : decode prog_18_method_29_code 309 = .ok (.iconst 1, 1) := by decide +kernel
theorem d_Shm_run_310 : decode prog_18_method_29_code 310 = .ok (.goto 4, 3) := by decide +kernel
theorem d_Shm_run_313 : decode prog_18_method_29_code 313 = .ok (.iconst 0, 1) := by decide +kernel
theorem d_Shm_run_314 : decode prog_18_method_29_code 314 = .ok (.putfield 174, 3) := by decide +kernel
theorem d_Shm_run_317 : decode prog_18_method_29_code 317 = .ok (.aload_n 0, 1) := by decide +kernel
theorem d_Shm_run_318 : decode prog_18_method_29_code 318 = .ok (.getfield 174, 3) := by decide +kernel
theorem d_Shm_run_321 : decode prog_18_method_29_code 321 = .ok (.ifCond .eq 5, 3) := by decide +kernel
theorem d_Shm_run_324 : decode prog_18_method_29_code 324 = .ok (.iload_n 1, 1) := by decide +kernel
theorem d_Shm_run_325 : decode prog_18_method_29_code 325 = .ok (.ireturn, 1) := by decide +kernel
theorem d_Shm_run_326 : decode prog_18_method_29_code 326 = .ok (.iload 4, 2) := by decide +kernel
theorem d_Shm_run_328 : decode prog_18_method_29_code 328 = .ok (.istore_n 2, 1) := by decide +kernel
theorem d_Shm_run_329 : decode prog_18_method_29_code 329 = .ok (.goto (-268), 3) := by decide +kernel
def F_Shm_run_326 (rc_61 : Sg → Nat → Int32 → Int32 → Option (Sg × Int32)) (σ : Sg) (v0 : Nat) (v1 : Int32) (v4 : Int32) : Option (Sg × Int32) := ck (v0 < 2) (rc_61 σ v0 v1 v4)
set_option maxRecDepth 10000 in
set_option maxHeartbeats 4000000 in
theorem bt_Shm_run_326 {p : Program} {l : Launch} {e : Env} {R : Room} {s : State} {m : MethodId} {args : Array Value} {below : List Frame} {meth : Method} {c : Code} {D : va_G} {τ : ClassId × ClassId × ClassId} {B : Nat} {A : Nat → Prop} {ad : Nat → Nat} (E : Cx p R s m args meth c prog_18_method_29_code 6 "DrawingMachineModel$ShaderMachineModel" 12 D τ B A) (hret : meth.sig.returnType = (some .int)) (o : Sg × Int32) (rc_61 : Sg → Nat → Int32 → Int32 → Option (Sg × Int32)) (hr_61 : ∀ (σ : Sg) (v0 : Nat) (v1 : Int32) (v2 : Int32) (H : Heap) (locs : List Loc) (ls : Array Slot), rc_61 σ v0 v1 v2 = some o → Wd s D A (wdM τ σ ad) H locs → lv_has ls 6 [(0, .ref (ad (65 + v0))), (1, .int v1), (2, .int v2)] → W p l e R s m args below meth c H locs 0 0 (QI below args s A D τ (wdM τ o.1 ad) o.2) (F0 m 61 ls [])) (σ : Sg) (v0 : Nat) (v1 : Int32) (v4 : Int32) (h : F_Shm_run_326 rc_61 σ v0 v1 v4 = some o) {H : Heap} {locs : List Loc} {ls : Array Slot} (w : Wd s D A (wdM τ σ ad) H locs) (hl : lv_has ls 6 [(0, .ref (ad (65 + v0))), (1, .int v1), (4, .int v4)]) : W p l e R s m args below meth c H locs 0 0 (QI below args s A D τ (wdM τ o.1 ad) o.2) (F0 m 326 ls []) := by
  obtain ⟨c40, h⟩ := ck_some h
  refine lv_iload E.x E.b d_Shm_run_326 (lv_at hl 2 rfl) ?_
  refine lv_istore_n (lv' := [(2, .int v4), (0, .ref (ad (65 + v0))), (1, .int v1), (4, .int v4)]) E.x E.b d_Shm_run_328 rfl hl (by decide) rfl (fun ls hl => ?_)
  refine lv_goto (tgt := 61) E.x E.b d_Shm_run_329 (by decide) ?_
  exact hr_61 σ v0 v1 v4 _ _ _ h w (lv_sub hl [1, 2, 0] rfl)
def F_Shm_run_314 (rc_61 : Sg → Nat → Int32 → Int32 → Option (Sg × Int32)) (σ : Sg) (v0 : Nat) (v1 : Int32) (v4 : Int32) (s0 : Nat) (s1 : Int32) : Option (Sg × Int32) := ck (v0 < 2) (ck (s0 < 2) (ck (s1 = 0 ∨ s1 = 1) (lt (sI σ (45 + 6 * s0) s1) (fun σ44 => if (σ44.1 (45 + 6 * v0)) = 0 then (F_Shm_run_326 rc_61 σ44 v0 v1 v4) else (some (σ44, v1))))))
set_option maxRecDepth 10000 in
set_option maxHeartbeats 4000000 in
theorem bt_Shm_run_314 {p : Program} {l : Launch} {e : Env} {R : Room} {s : State} {m : MethodId} {args : Array Value} {below : List Frame} {meth : Method} {c : Code} {D : va_G} {τ : ClassId × ClassId × ClassId} {B : Nat} {A : Nat → Prop} {ad : Nat → Nat} (E : Cx p R s m args meth c prog_18_method_29_code 6 "DrawingMachineModel$ShaderMachineModel" 12 D τ B A) (hret : meth.sig.returnType = (some .int)) (o : Sg × Int32) (rc_61 : Sg → Nat → Int32 → Int32 → Option (Sg × Int32)) (hr_61 : ∀ (σ : Sg) (v0 : Nat) (v1 : Int32) (v2 : Int32) (H : Heap) (locs : List Loc) (ls : Array Slot), rc_61 σ v0 v1 v2 = some o → Wd s D A (wdM τ σ ad) H locs → lv_has ls 6 [(0, .ref (ad (65 + v0))), (1, .int v1), (2, .int v2)] → W p l e R s m args below meth c H locs 0 0 (QI below args s A D τ (wdM τ o.1 ad) o.2) (F0 m 61 ls [])) (σ : Sg) (v0 : Nat) (v1 : Int32) (v4 : Int32) (s0 : Nat) (s1 : Int32) (h : F_Shm_run_314 rc_61 σ v0 v1 v4 s0 s1 = some o) {H : Heap} {locs : List Loc} {ls : Array Slot} (w : Wd s D A (wdM τ σ ad) H locs) (hl : lv_has ls 6 [(0, .ref (ad (65 + v0))), (1, .int v1), (4, .int v4)]) : W p l e R s m args below meth c H locs 0 0 (QI below args s A D τ (wdM τ o.1 ad) o.2) (F0 m 314 ls [.int s1, .ref (ad (65 + s0))]) := by
  obtain ⟨c41, h⟩ := ck_some h
  obtain ⟨c42, h⟩ := ck_some h
  obtain ⟨c43, h⟩ := ck_some h
  obtain ⟨σ44, e_σ44, h⟩ := lt_some h
  refine pM_Shm_killed E w (pid := s0) c42 k1574 c43 e_σ44 d_Shm_run_314 (fun H locs w => ?_)
  refine lv_aload_n E.x E.b d_Shm_run_317 rfl (lv_at hl 0 rfl) ?_
  refine gM_Shm_killed E w (pid := v0) c41 k1574 d_Shm_run_318 ?_
  refine lv_if_eq (tgt := 326) E.x E.b d_Shm_run_321 (by decide) (fun c => ?_) (fun c => ?_)
  ·
    replace h := ifT c h
    exact bt_Shm_run_326 E hret o rc_61 hr_61 σ44 v0 v1 v4 h w (lv_sub hl [0, 1, 2] rfl)
  ·
    replace h := ifF c h
    refine lv_iload_n E.x E.b d_Shm_run_324 rfl (lv_at hl 1 rfl) ?_
    obtain rfl := Option.some.inj h
    exact rt_i E w hret d_Shm_run_325
def F_Shm_run_309 (rc_61 : Sg → Nat → Int32 → Int32 → Option (Sg × Int32)) (σ : Sg) (v0 : Nat) (v1 : Int32) (v4 : Int32) (s0 : Nat) : Option (Sg × Int32) := ck (v0 < 2) (ck (s0 < 2) (F_Shm_run_314 rc_61 σ v0 v1 v4 s0 1))
set_option maxRecDepth 10000 in
set_option maxHeartbeats 4000000 in
theorem bt_Shm_run_309 {p : Program} {l : Launch} {e : Env} {R : Room} {s : State} {m : MethodId} {args : Array Value} {below : List Frame} {meth : Method} {c : Code} {D : va_G} {τ : ClassId × ClassId × ClassId} {B : Nat} {A : Nat → Prop} {ad : Nat → Nat} (E : Cx p R s m args meth c prog_18_method_29_code 6 "DrawingMachineModel$ShaderMachineModel" 12 D τ B A) (hret : meth.sig.returnType = (some .int)) (o : Sg × Int32) (rc_61 : Sg → Nat → Int32 → Int32 → Option (Sg × Int32)) (hr_61 : ∀ (σ : Sg) (v0 : Nat) (v1 : Int32) (v2 : Int32) (H : Heap) (locs : List Loc) (ls : Array Slot), rc_61 σ v0 v1 v2 = some o → Wd s D A (wdM τ σ ad) H locs → lv_has ls 6 [(0, .ref (ad (65 + v0))), (1, .int v1), (2, .int v2)] → W p l e R s m args below meth c H locs 0 0 (QI below args s A D τ (wdM τ o.1 ad) o.2) (F0 m 61 ls [])) (σ : Sg) (v0 : Nat) (v1 : Int32) (v4 : Int32) (s0 : Nat) (h : F_Shm_run_309 rc_61 σ v0 v1 v4 s0 = some o) {H : Heap} {locs : List Loc} {ls : Array Slot} (w : Wd s D A (wdM τ σ ad) H locs) (hl : lv_has ls 6 [(0, .ref (ad (65 + v0))), (1, .int v1), (4, .int v4)]) : W p l e R s m args below meth c H locs 0 0 (QI below args s A D τ (wdM τ o.1 ad) o.2) (F0 m 309 ls [.ref (ad (65 + s0))]) := by
  obtain ⟨c45, h⟩ := ck_some h
  obtain ⟨c46, h⟩ := ck_some h
  refine lv_iconst (v := 1) E.x E.b d_Shm_run_309 (by decide) ?_
  refine lv_goto (tgt := 314) E.x E.b d_Shm_run_310 (by decide) ?_
  exact bt_Shm_run_314 E hret o rc_61 hr_61 σ v0 v1 v4 s0 1 h w (lv_sub hl [0, 1, 2] rfl)
def F_Shm_run_258 (rc_61 : Sg → Nat → Int32 → Int32 → Option (Sg × Int32)) (σ : Sg) (v0 : Nat) (v1 : Int32) (s0 : Int32) : Option (Sg × Int32) := ck (v0 < 2) (F_Shm_run_326 rc_61 σ v0 v1 s0)
set_option maxRecDepth 10000 in
set_option maxHeartbeats 4000000 in
theorem bt_Shm_run_258 {p : Program} {l : Launch} {e : Env} {R : Room} {s : State} {m : MethodId} {args : Array Value} {below : List Frame} {meth : Method} {c : Code} {D : va_G} {τ : ClassId × ClassId × ClassId} {B : Nat} {A : Nat → Prop} {ad : Nat → Nat} (E : Cx p R s m args meth c prog_18_method_29_code 6 "DrawingMachineModel$ShaderMachineModel" 12 D τ B A) (hret : meth.sig.returnType = (some .int)) (o : Sg × Int32) (rc_61 : Sg → Nat → Int32 → Int32 → Option (Sg × Int32)) (hr_61 : ∀ (σ : Sg) (v0 : Nat) (v1 : Int32) (v2 : Int32) (H : Heap) (locs : List Loc) (ls : Array Slot), rc_61 σ v0 v1 v2 = some o → Wd s D A (wdM τ σ ad) H locs → lv_has ls 6 [(0, .ref (ad (65 + v0))), (1, .int v1), (2, .int v2)] → W p l e R s m args below meth c H locs 0 0 (QI below args s A D τ (wdM τ o.1 ad) o.2) (F0 m 61 ls [])) (σ : Sg) (v0 : Nat) (v1 : Int32) (s0 : Int32) (h : F_Shm_run_258 rc_61 σ v0 v1 s0 = some o) {H : Heap} {locs : List Loc} {ls : Array Slot} (w : Wd s D A (wdM τ σ ad) H locs) (hl : lv_has ls 6 [(0, .ref (ad (65 + v0))), (1, .int v1)]) : W p l e R s m args below meth c H locs 0 0 (QI below args s A D τ (wdM τ o.1 ad) o.2) (F0 m 258 ls [.int s0]) := by
  obtain ⟨c47, h⟩ := ck_some h
  refine lv_istore (lv' := [(4, .int s0), (0, .ref (ad (65 + v0))), (1, .int v1)]) E.x E.b d_Shm_run_258 hl (by decide) rfl (fun ls hl => ?_)
  refine lv_goto (tgt := 326) E.x E.b d_Shm_run_260 (by decide) ?_
  exact bt_Shm_run_326 E hret o rc_61 hr_61 σ v0 v1 s0 h w (lv_sub hl [1, 2, 0] rfl)
def F_Shm_run_235 (rc_61 : Sg → Nat → Int32 → Int32 → Option (Sg × Int32)) (σ : Sg) (v0 : Nat) (v1 : Int32) (s0 : Int32) : Option (Sg × Int32) := ck (v0 < 2) (F_Shm_run_326 rc_61 σ v0 v1 s0)
set_option maxRecDepth 10000 in
set_option maxHeartbeats 4000000 in
theorem bt_Shm_run_235 {p : Program} {l : Launch} {e : Env} {R : Room} {s : State} {m : MethodId} {args : Array Value} {below : List Frame} {meth : Method} {c : Code} {D : va_G} {τ : ClassId × ClassId × ClassId} {B : Nat} {A : Nat → Prop} {ad : Nat → Nat} (E : Cx p R s m args meth c prog_18_method_29_code 6 "DrawingMachineModel$ShaderMachineModel" 12 D τ B A) (hret : meth.sig.returnType = (some .int)) (o : Sg × Int32) (rc_61 : Sg → Nat → Int32 → Int32 → Option (Sg × Int32)) (hr_61 : ∀ (σ : Sg) (v0 : Nat) (v1 : Int32) (v2 : Int32) (H : Heap) (locs : List Loc) (ls : Array Slot), rc_61 σ v0 v1 v2 = some o → Wd s D A (wdM τ σ ad) H locs → lv_has ls 6 [(0, .ref (ad (65 + v0))), (1, .int v1), (2, .int v2)] → W p l e R s m args below meth c H locs 0 0 (QI below args s A D τ (wdM τ o.1 ad) o.2) (F0 m 61 ls [])) (σ : Sg) (v0 : Nat) (v1 : Int32) (s0 : Int32) (h : F_Shm_run_235 rc_61 σ v0 v1 s0 = some o) {H : Heap} {locs : List Loc} {ls : Array Slot} (w : Wd s D A (wdM τ σ ad) H locs) (hl : lv_has ls 6 [(0, .ref (ad (65 + v0))), (1, .int v1)]) : W p l e R s m args below meth c H locs 0 0 (QI below args s A D τ (wdM τ o.1 ad) o.2) (F0 m 235 ls [.int s0]) := by
  obtain ⟨c48, h⟩ := ck_some h
  refine lv_istore (lv' := [(4, .int s0), (0, .ref (ad (65 + v0))), (1, .int v1)]) E.x E.b d_Shm_run_235 hl (by decide) rfl (fun ls hl => ?_)
  refine lv_goto (tgt := 326) E.x E.b d_Shm_run_237 (by decide) ?_
  exact bt_Shm_run_326 E hret o rc_61 hr_61 σ v0 v1 s0 h w (lv_sub hl [1, 2, 0] rfl)
def F_Shm_run_142 (rc_61 : Sg → Nat → Int32 → Int32 → Option (Sg × Int32)) (σ : Sg) (v0 : Nat) (v1 : Int32) (v2 : Int32) (v3 : Int32) : Option (Sg × Int32) := ck (v0 < 2) (lt (v2 + 1) (fun y50 => if v3 = 34 then (ck (inb v2 (lenM σ (22 + 10 * v0))) (lt (sA σ (22 + 10 * v0) (upd (σ.2.2.1 (22 + 10 * v0)) v2.toNatClampNeg (σ.1 (44 + 6 * v0)))) (fun σ53 => F_Shm_run_326 rc_61 σ53 v0 v1 y50))) else (if v3 = 35 then (ck (inb v2 (lenM σ (23 + 10 * v0))) (lt (σ.2.2.1 (23 + 10 * v0) v2.toNatClampNeg) (fun y56 => ck (inb y56 (lenM σ (22 + 10 * v0))) (ck (inb y56 (lenM σ (22 + 10 * v0))) (lt (sA σ (22 + 10 * v0) (upd (σ.2.2.1 (22 + 10 * v0)) y56.toNatClampNeg ((σ.2.2.1 (22 + 10 * v0) y56.toNatClampNeg) - 1))) (fun σ59 => ck (inb y56 (lenM σ59 (22 + 10 * v0))) (if (σ59.2.2.1 (22 + 10 * v0) y56.toNatClampNeg) ≤ 0 then (F_Shm_run_235 rc_61 σ59 v0 v1 y50) else (F_Shm_run_235 rc_61 σ59 v0 v1 (y56 + 1))))))))) else (if v3 = 36 then (ck (inb 0 (lenM σ (20 + 10 * v0))) (if 0 < (σ.2.2.1 (20 + 10 * v0) 0) then (F_Shm_run_258 rc_61 σ v0 v1 y50) else (F_Shm_run_258 rc_61 σ v0 v1 (σ.1 (44 + 6 * v0))))) else (if v3 = 37 then (lt (σ.1 (44 + 6 * v0)) (fun y64 => F_Shm_run_326 rc_61 σ v0 v1 y64)) else (if v3 = 38 then (ck (inb 0 (lenM σ (20 + 10 * v0))) (if (σ.2.2.1 (20 + 10 * v0) 0) < 0 then (F_Shm_run_309 rc_61 σ v0 v1 y50 v0) else (ck (inb 1 (lenM σ (20 + 10 * v0))) (if (σ.2.2.1 (20 + 10 * v0) 1) < 0 then (F_Shm_run_309 rc_61 σ v0 v1 y50 v0) else (ck (inb 2 (lenM σ (20 + 10 * v0))) (if (σ.2.2.1 (20 + 10 * v0) 2) < 0 then (F_Shm_run_309 rc_61 σ v0 v1 y50 v0) else (ck (inb 3 (lenM σ (20 + 10 * v0))) (if 0 ≤ (σ.2.2.1 (20 + 10 * v0) 3) then (F_Shm_run_314 rc_61 σ v0 v1 y50 v0 0) else (F_Shm_run_309 rc_61 σ v0 v1 y50 v0))))))))) else (F_Shm_run_326 rc_61 σ v0 v1 y50)))))))
set_option maxRecDepth 10000 in
set_option maxHeartbeats 4000000 in
theorem bt_Shm_run_142 {p : Program} {l : Launch} {e : Env} {R : Room} {s : State} {m : MethodId} {args : Array Value} {below : List Frame} {meth : Method} {c : Code} {D : va_G} {τ : ClassId × ClassId × ClassId} {B : Nat} {A : Nat → Prop} {ad : Nat → Nat} (E : Cx p R s m args meth c prog_18_method_29_code 6 "DrawingMachineModel$ShaderMachineModel" 12 D τ B A) (hret : meth.sig.returnType = (some .int)) (o : Sg × Int32) (rc_61 : Sg → Nat → Int32 → Int32 → Option (Sg × Int32)) (hr_61 : ∀ (σ : Sg) (v0 : Nat) (v1 : Int32) (v2 : Int32) (H : Heap) (locs : List Loc) (ls : Array Slot), rc_61 σ v0 v1 v2 = some o → Wd s D A (wdM τ σ ad) H locs → lv_has ls 6 [(0, .ref (ad (65 + v0))), (1, .int v1), (2, .int v2)] → W p l e R s m args below meth c H locs 0 0 (QI below args s A D τ (wdM τ o.1 ad) o.2) (F0 m 61 ls [])) (σ : Sg) (v0 : Nat) (v1 : Int32) (v2 : Int32) (v3 : Int32) (h : F_Shm_run_142 rc_61 σ v0 v1 v2 v3 = some o) {H : Heap} {locs : List Loc} {ls : Array Slot} (w : Wd s D A (wdM τ σ ad) H locs) (hl : lv_has ls 6 [(0, .ref (ad (65 + v0))), (1, .int v1), (2, .int v2), (3, .int v3)]) : W p l e R s m args below meth c H locs 0 0 (QI below args s A D τ (wdM τ o.1 ad) o.2) (F0 m 142 ls []) := by
  obtain ⟨c49, h⟩ := ck_some h
  refine lv_iload_n E.x E.b d_Shm_run_142 rfl (lv_at hl 2 rfl) ?_
  refine lv_iconst (v := 1) E.x E.b d_Shm_run_143 (by decide) ?_
  refine lv_iadd E.x E.b d_Shm_run_144 ?_
  obtain ⟨y50, e_y50, h⟩ := lt_some h
  refine wi_e (v := y50) e_y50 ?_
  refine lv_istore (lv' := [(4, .int y50), (0, .ref (ad (65 + v0))), (1, .int v1), (2, .int v2), (3, .int v3)]) E.x E.b d_Shm_run_145 hl (by decide) rfl (fun ls hl => ?_)
  refine lv_iload_n E.x E.b d_Shm_run_147 rfl (lv_at hl 4 rfl) ?_
  by_cases q51 : v3 = 34
  ·
    replace h := ifT q51 h
    refine wi_e (v := 34) q51 ?_
    refine lv_tableIn (off := 36) (tgt := 184) E.x E.b d_Shm_run_148 (by decide) (by decide) (by decide) (by decide) ?_
    refine lv_aload_n E.x E.b d_Shm_run_184 rfl (lv_at hl 1 rfl) ?_
    refine gM_Shm_left E w (pid := v0) c49 k1575 d_Shm_run_185 ?_
    refine lv_iload_n E.x E.b d_Shm_run_188 rfl (lv_at hl 3 rfl) ?_
    refine lv_aload_n E.x E.b d_Shm_run_189 rfl (lv_at hl 1 rfl) ?_
    refine gM_Shm_told E w (pid := v0) c49 k1563 d_Shm_run_190 ?_
    obtain ⟨c52, h⟩ := ck_some h
    obtain ⟨σ53, e_σ53, h⟩ := lt_some h
    refine iasM E w (k := (22 + 10 * v0)) (by omega) c52 e_σ53 d_Shm_run_193 (fun H locs w => ?_)
    refine lv_goto (tgt := 326) E.x E.b d_Shm_run_194 (by decide) ?_
    exact bt_Shm_run_326 E hret o rc_61 hr_61 σ53 v0 v1 y50 h w (lv_sub hl [1, 2, 0] rfl)
  replace h := ifF q51 h
  replace q51 := ne_ti (k := 34) (by decide) q51
  by_cases q54 : v3 = 35
  ·
    replace h := ifT q54 h
    refine wi_e (v := 35) q54 ?_
    refine lv_tableIn (off := 49) (tgt := 197) E.x E.b d_Shm_run_148 (by decide) (by decide) (by decide) (by decide) ?_
    refine lv_aload_n E.x E.b d_Shm_run_197 rfl (lv_at hl 1 rfl) ?_
    refine gM_Shm_opening E w (pid := v0) c49 k1576 d_Shm_run_198 ?_
    refine lv_iload_n E.x E.b d_Shm_run_201 rfl (lv_at hl 3 rfl) ?_
    obtain ⟨c55, h⟩ := ck_some h
    refine ialM E w (k := (23 + 10 * v0)) (by omega) c55 d_Shm_run_202 ?_
    obtain ⟨y56, e_y56, h⟩ := lt_some h
    refine wi_e (v := y56) e_y56 ?_
    refine lv_istore (lv' := [(5, .int y56), (4, .int y50), (0, .ref (ad (65 + v0))), (1, .int v1), (2, .int v2), (3, .int v3)]) E.x E.b d_Shm_run_203 hl (by decide) rfl (fun ls hl => ?_)
    refine lv_aload_n E.x E.b d_Shm_run_205 rfl (lv_at hl 2 rfl) ?_
    refine gM_Shm_left E w (pid := v0) c49 k1575 d_Shm_run_206 ?_
    refine lv_iload E.x E.b d_Shm_run_209 (lv_at hl 0 rfl) ?_
    refine lv_dup2_11 E.x E.b d_Shm_run_211 rfl rfl ?_
    obtain ⟨c57, h⟩ := ck_some h
    refine ialM E w (k := (22 + 10 * v0)) (by omega) c57 d_Shm_run_212 ?_
    refine lv_iconst (v := 1) E.x E.b d_Shm_run_213 (by decide) ?_
    refine lv_isub E.x E.b d_Shm_run_214 ?_
    obtain ⟨c58, h⟩ := ck_some h
    obtain ⟨σ59, e_σ59, h⟩ := lt_some h
    refine iasM E w (k := (22 + 10 * v0)) (by omega) c58 e_σ59 d_Shm_run_215 (fun H locs w => ?_)
    refine lv_aload_n E.x E.b d_Shm_run_216 rfl (lv_at hl 2 rfl) ?_
    refine gM_Shm_left E w (pid := v0) c49 k1575 d_Shm_run_217 ?_
    refine lv_iload E.x E.b d_Shm_run_220 (lv_at hl 0 rfl) ?_
    obtain ⟨c60, h⟩ := ck_some h
    refine ialM E w (k := (22 + 10 * v0)) (by omega) c60 d_Shm_run_222 ?_
    refine lv_if_le (tgt := 233) E.x E.b d_Shm_run_223 (by decide) (fun c => ?_) (fun c => ?_)
    ·
      replace h := ifT c h
      refine lv_iload E.x E.b d_Shm_run_233 (lv_at hl 1 rfl) ?_
      exact bt_Shm_run_235 E hret o rc_61 hr_61 σ59 v0 v1 y50 h w (lv_sub hl [2, 3] rfl)
    ·
      replace h := ifF c h
      refine lv_iload E.x E.b d_Shm_run_226 (lv_at hl 0 rfl) ?_
      refine lv_iconst (v := 1) E.x E.b d_Shm_run_228 (by decide) ?_
      refine lv_iadd E.x E.b d_Shm_run_229 ?_
      refine lv_goto (tgt := 235) E.x E.b d_Shm_run_230 (by decide) ?_
      exact bt_Shm_run_235 E hret o rc_61 hr_61 σ59 v0 v1 (y56 + 1) h w (lv_sub hl [2, 3] rfl)
  replace h := ifF q54 h
  replace q54 := ne_ti (k := 35) (by decide) q54
  by_cases q61 : v3 = 36
  ·
    replace h := ifT q61 h
    refine wi_e (v := 36) q61 ?_
    refine lv_tableIn (off := 92) (tgt := 240) E.x E.b d_Shm_run_148 (by decide) (by decide) (by decide) (by decide) ?_
    refine lv_aload_n E.x E.b d_Shm_run_240 rfl (lv_at hl 1 rfl) ?_
    refine gM_Shm_read E w (pid := v0) c49 k1571 d_Shm_run_241 ?_
    refine lv_iconst (v := 0) E.x E.b d_Shm_run_244 (by decide) ?_
    obtain ⟨c62, h⟩ := ck_some h
    refine ialM E w (k := (20 + 10 * v0)) (by omega) c62 d_Shm_run_245 ?_
    refine wi_e (v := σ.2.2.1 (20 + 10 * v0) 0) rfl ?_
    refine lv_if_gt (tgt := 256) E.x E.b d_Shm_run_246 (by decide) (fun c => ?_) (fun c => ?_)
    ·
      replace h := ifT c h
      refine lv_iload E.x E.b d_Shm_run_256 (lv_at hl 0 rfl) ?_
      exact bt_Shm_run_258 E hret o rc_61 hr_61 σ v0 v1 y50 h w (lv_sub hl [1, 2] rfl)
    ·
      replace h := ifF c h
      refine lv_aload_n E.x E.b d_Shm_run_249 rfl (lv_at hl 1 rfl) ?_
      refine gM_Shm_told E w (pid := v0) c49 k1563 d_Shm_run_250 ?_
      refine lv_goto (tgt := 258) E.x E.b d_Shm_run_253 (by decide) ?_
      exact bt_Shm_run_258 E hret o rc_61 hr_61 σ v0 v1 (σ.1 (44 + 6 * v0)) h w (lv_sub hl [1, 2] rfl)
  replace h := ifF q61 h
  replace q61 := ne_ti (k := 36) (by decide) q61
  by_cases q63 : v3 = 37
  ·
    replace h := ifT q63 h
    refine wi_e (v := 37) q63 ?_
    refine lv_tableIn (off := 115) (tgt := 263) E.x E.b d_Shm_run_148 (by decide) (by decide) (by decide) (by decide) ?_
    refine lv_aload_n E.x E.b d_Shm_run_263 rfl (lv_at hl 1 rfl) ?_
    refine gM_Shm_told E w (pid := v0) c49 k1563 d_Shm_run_264 ?_
    obtain ⟨y64, e_y64, h⟩ := lt_some h
    refine wi_e (v := y64) e_y64 ?_
    refine lv_istore (lv' := [(4, .int y64), (0, .ref (ad (65 + v0))), (1, .int v1), (2, .int v2), (3, .int v3)]) E.x E.b d_Shm_run_267 hl (by decide) rfl (fun ls hl => ?_)
    refine lv_goto (tgt := 326) E.x E.b d_Shm_run_269 (by decide) ?_
    exact bt_Shm_run_326 E hret o rc_61 hr_61 σ v0 v1 y64 h w (lv_sub hl [1, 2, 0] rfl)
  replace h := ifF q63 h
  replace q63 := ne_ti (k := 37) (by decide) q63
  by_cases q65 : v3 = 38
  ·
    replace h := ifT q65 h
    refine wi_e (v := 38) q65 ?_
    refine lv_tableIn (off := 124) (tgt := 272) E.x E.b d_Shm_run_148 (by decide) (by decide) (by decide) (by decide) ?_
    refine lv_aload_n E.x E.b d_Shm_run_272 rfl (lv_at hl 1 rfl) ?_
    refine lv_aload_n E.x E.b d_Shm_run_273 rfl (lv_at hl 1 rfl) ?_
    refine gM_Shm_read E w (pid := v0) c49 k1571 d_Shm_run_274 ?_
    refine lv_iconst (v := 0) E.x E.b d_Shm_run_277 (by decide) ?_
    obtain ⟨c66, h⟩ := ck_some h
    refine ialM E w (k := (20 + 10 * v0)) (by omega) c66 d_Shm_run_278 ?_
    refine wi_e (v := σ.2.2.1 (20 + 10 * v0) 0) rfl ?_
    refine lv_if_lt (tgt := 309) E.x E.b d_Shm_run_279 (by decide) (fun c => ?_) (fun c => ?_)
    ·
      replace h := ifT c h
      exact bt_Shm_run_309 E hret o rc_61 hr_61 σ v0 v1 y50 v0 h w (lv_sub hl [1, 2, 0] rfl)
    ·
      replace h := ifF c h
      refine lv_aload_n E.x E.b d_Shm_run_282 rfl (lv_at hl 1 rfl) ?_
      refine gM_Shm_read E w (pid := v0) c49 k1571 d_Shm_run_283 ?_
      refine lv_iconst (v := 1) E.x E.b d_Shm_run_286 (by decide) ?_
      obtain ⟨c67, h⟩ := ck_some h
      refine ialM E w (k := (20 + 10 * v0)) (by omega) c67 d_Shm_run_287 ?_
      refine wi_e (v := σ.2.2.1 (20 + 10 * v0) 1) rfl ?_
      refine lv_if_lt (tgt := 309) E.x E.b d_Shm_run_288 (by decide) (fun c => ?_) (fun c => ?_)
      ·
        replace h := ifT c h
        exact bt_Shm_run_309 E hret o rc_61 hr_61 σ v0 v1 y50 v0 h w (lv_sub hl [1, 2, 0] rfl)
      ·
        replace h := ifF c h
        refine lv_aload_n E.x E.b d_Shm_run_291 rfl (lv_at hl 1 rfl) ?_
        refine gM_Shm_read E w (pid := v0) c49 k1571 d_Shm_run_292 ?_
        refine lv_iconst (v := 2) E.x E.b d_Shm_run_295 (by decide) ?_
        obtain ⟨c68, h⟩ := ck_some h
        refine ialM E w (k := (20 + 10 * v0)) (by omega) c68 d_Shm_run_296 ?_
        refine wi_e (v := σ.2.2.1 (20 + 10 * v0) 2) rfl ?_
        refine lv_if_lt (tgt := 309) E.x E.b d_Shm_run_297 (by decide) (fun c => ?_) (fun c => ?_)
        ·
          replace h := ifT c h
          exact bt_Shm_run_309 E hret o rc_61 hr_61 σ v0 v1 y50 v0 h w (lv_sub hl [1, 2, 0] rfl)
        ·
          replace h := ifF c h
          refine lv_aload_n E.x E.b d_Shm_run_300 rfl (lv_at hl 1 rfl) ?_
          refine gM_Shm_read E w (pid := v0) c49 k1571 d_Shm_run_301 ?_
          refine lv_iconst (v := 3) E.x E.b d_Shm_run_304 (by decide) ?_
          obtain ⟨c69, h⟩ := ck_some h
          refine ialM E w (k := (20 + 10 * v0)) (by omega) c69 d_Shm_run_305 ?_
          refine wi_e (v := σ.2.2.1 (20 + 10 * v0) 3) rfl ?_
          refine lv_if_ge (tgt := 313) E.x E.b d_Shm_run_306 (by decide) (fun c => ?_) (fun c => ?_)
          ·
            replace h := ifT c h
            refine lv_iconst (v := 0) E.x E.b d_Shm_run_313 (by decide) ?_
            exact bt_Shm_run_314 E hret o rc_61 hr_61 σ v0 v1 y50 v0 0 h w (lv_sub hl [1, 2, 0] rfl)
          ·
            replace h := ifF c h
            exact bt_Shm_run_309 E hret o rc_61 hr_61 σ v0 v1 y50 v0 h w (lv_sub hl [1, 2, 0] rfl)
  replace h := ifF q65 h
  replace q65 := ne_ti (k := 38) (by decide) q65
  refine lv_tableOut (tgt := 326) E.x E.b d_Shm_run_148 (by omega) (by decide) ?_
  exact bt_Shm_run_326 E hret o rc_61 hr_61 σ v0 v1 y50 h w (lv_sub hl [1, 2, 0] rfl)
def L_Shm_run_76 (rc_61 : Sg → Nat → Int32 → Int32 → Option (Sg × Int32)) : Nat → Sg → Nat → Int32 → Int32 → Int32 → Int32 → Option (Sg × Int32)
  | 0, _, _, _, _, _, _ => none
  | n + 1, σ, v0, v1, v2, v3, v4 => ck (v0 < 2) (if 3 ≤ v4 then (bd (F_Shm_numberOf σ (14 + 10 * v0) v2) (fun o71 => lt (sI σ (44 + 6 * v0) o71) (fun σ72 => if v3 = 0 then (some (σ72, v1)) else (bd (F_Shm_hasTarget v3) (fun o73 => if o73 = 0 then (F_Shm_run_142 rc_61 σ72 v0 v1 v2 v3) else (ck (inb (3 * v2) (lenM σ72 (14 + 10 * v0))) (bd (F_Shm_put σ72 v0 (σ72.2.2.1 (14 + 10 * v0) (3 * v2).toNatClampNeg) v3) (fun o75 => F_Shm_run_142 rc_61 o75 v0 v1 v2 v3)))))))) else (bd (F_Shm_sourceOf σ (14 + 10 * v0) v2 v4) (fun o76 => bd (F_Shm_take σ v0 o76 v4) (fun o77 => lt (v4 + 1) (fun y78 => L_Shm_run_76 rc_61 n o77 v0 v1 v2 v3 y78)))))
set_option maxRecDepth 10000 in
set_option maxHeartbeats 4000000 in
theorem lt_Shm_run_76 {p : Program} {l : Launch} {e : Env} {R : Room} {s : State} {m : MethodId} {args : Array Value} {below : List Frame} {meth : Method} {c : Code} {D : va_G} {τ : ClassId × ClassId × ClassId} {B : Nat} {A : Nat → Prop} {ad : Nat → Nat} (E : Cx p R s m args meth c prog_18_method_29_code 6 "DrawingMachineModel$ShaderMachineModel" 12 D τ B A) (hret : meth.sig.returnType = (some .int)) (o : Sg × Int32) (rc_61 : Sg → Nat → Int32 → Int32 → Option (Sg × Int32)) (hr_61 : ∀ (σ : Sg) (v0 : Nat) (v1 : Int32) (v2 : Int32) (H : Heap) (locs : List Loc) (ls : Array Slot), rc_61 σ v0 v1 v2 = some o → Wd s D A (wdM τ σ ad) H locs → lv_has ls 6 [(0, .ref (ad (65 + v0))), (1, .int v1), (2, .int v2)] → W p l e R s m args below meth c H locs 0 0 (QI below args s A D τ (wdM τ o.1 ad) o.2) (F0 m 61 ls [])) : ∀ (n : Nat) (σ : Sg) (v0 : Nat) (v1 : Int32) (v2 : Int32) (v3 : Int32) (v4 : Int32) (H : Heap) (locs : List Loc) (ls : Array Slot), L_Shm_run_76 rc_61 n σ v0 v1 v2 v3 v4 = some o → Wd s D A (wdM τ σ ad) H locs → lv_has ls 6 [(0, .ref (ad (65 + v0))), (1, .int v1), (2, .int v2), (3, .int v3), (4, .int v4)] → W p l e R s m args below meth c H locs 0 0 (QI below args s A D τ (wdM τ o.1 ad) o.2) (F0 m 76 ls []) := by
  intro n
  induction n with
  | zero =>
    intro σ v0 v1 v2 v3 v4 H locs ls h w hl
    cases h
  | succ n hr_76 =>
    intro σ v0 v1 v2 v3 v4 H locs ls h w hl
    obtain ⟨c70, h⟩ := ck_some h
    refine lv_iload E.x E.b d_Shm_run_76 (lv_at hl 4 rfl) ?_
    refine lv_iconst (v := 3) E.x E.b d_Shm_run_78 (by decide) ?_
    refine lv_icmp_ge (tgt := 104) E.x E.b d_Shm_run_79 (by decide) (fun c => ?_) (fun c => ?_)
    ·
      replace h := ifT c h
      refine lv_aload_n E.x E.b d_Shm_run_104 rfl (lv_at hl 0 rfl) ?_
      refine lv_aload_n E.x E.b d_Shm_run_105 rfl (lv_at hl 0 rfl) ?_
      refine gM_Shm_program E w (pid := v0) c70 k1556 d_Shm_run_106 ?_
      refine lv_iload_n E.x E.b d_Shm_run_109 rfl (lv_at hl 2 rfl) ?_
      obtain ⟨o71, h_o71, h⟩ := bd_some h
      refine clS_Shm_numberOf E w (ar0 := (14 + 10 * v0)) (x1 := v2) h_o71 k2124 (by decide) hl.1 (Nat.le_of_ble_eq_true rfl) d_Shm_run_110 (fun H locs w => ?_)
      obtain ⟨σ72, e_σ72, h⟩ := lt_some h
      refine pM_Shm_told E w (pid := v0) c70 k1563 e_σ72 d_Shm_run_113 (fun H locs w => ?_)
      refine lv_iload_n E.x E.b d_Shm_run_116 rfl (lv_at hl 3 rfl) ?_
      refine lv_if_ne (tgt := 122) E.x E.b d_Shm_run_117 (by decide) (fun c => ?_) (fun c => ?_)
      ·
        replace h := ifF c h
        refine lv_iload_n E.x E.b d_Shm_run_122 rfl (lv_at hl 3 rfl) ?_
        obtain ⟨o73, h_o73, h⟩ := bd_some h
        refine clS_Shm_hasTarget E w (x0 := v3) h_o73 k2105 (by decide) hl.1 (Nat.le_of_ble_eq_true rfl) d_Shm_run_123 (fun H locs w => ?_)
        refine lv_if_eq (tgt := 142) E.x E.b d_Shm_run_126 (by decide) (fun c => ?_) (fun c => ?_)
        ·
          replace h := ifT c h
          exact bt_Shm_run_142 E hret o rc_61 hr_61 σ72 v0 v1 v2 v3 h w (lv_sub hl [0, 1, 2, 3] rfl)
        ·
          replace h := ifF c h
          refine lv_aload_n E.x E.b d_Shm_run_129 rfl (lv_at hl 0 rfl) ?_
          refine lv_aload_n E.x E.b d_Shm_run_130 rfl (lv_at hl 0 rfl) ?_
          refine gM_Shm_program E w (pid := v0) c70 k1556 d_Shm_run_131 ?_
          refine lv_iconst (v := 3) E.x E.b d_Shm_run_134 (by decide) ?_
          refine lv_iload_n E.x E.b d_Shm_run_135 rfl (lv_at hl 2 rfl) ?_
          refine lv_imul E.x E.b d_Shm_run_136 ?_
          obtain ⟨c74, h⟩ := ck_some h
          refine ialM E w (k := (14 + 10 * v0)) (by omega) c74 d_Shm_run_137 ?_
          refine lv_iload_n E.x E.b d_Shm_run_138 rfl (lv_at hl 3 rfl) ?_
          obtain ⟨o75, h_o75, h⟩ := bd_some h
          refine clV_Shm_put E w (p0 := v0) (x0 := (σ72.2.2.1 (14 + 10 * v0) (3 * v2).toNatClampNeg)) (x1 := v3) h_o75 k2202 (by decide) hl.1 (Nat.le_of_ble_eq_true rfl) d_Shm_run_139 (fun H locs w => ?_)
          exact bt_Shm_run_142 E hret o rc_61 hr_61 o75 v0 v1 v2 v3 h w (lv_sub hl [0, 1, 2, 3] rfl)
      ·
        replace h := ifT c h
        refine lv_iload_n E.x E.b d_Shm_run_120 rfl (lv_at hl 1 rfl) ?_
        obtain rfl := Option.some.inj h
        exact rt_i E w hret d_Shm_run_121
    ·
      replace h := ifF c h
      refine lv_aload_n E.x E.b d_Shm_run_82 rfl (lv_at hl 0 rfl) ?_
      refine lv_aload_n E.x E.b d_Shm_run_83 rfl (lv_at hl 0 rfl) ?_
      refine gM_Shm_program E w (pid := v0) c70 k1556 d_Shm_run_84 ?_
      refine lv_iload_n E.x E.b d_Shm_run_87 rfl (lv_at hl 2 rfl) ?_
      refine lv_iload E.x E.b d_Shm_run_88 (lv_at hl 4 rfl) ?_
      obtain ⟨o76, h_o76, h⟩ := bd_some h
      refine clS_Shm_sourceOf E w (ar0 := (14 + 10 * v0)) (x1 := v2) (x2 := v4) h_o76 k2114 (by decide) hl.1 (Nat.le_of_ble_eq_true rfl) d_Shm_run_90 (fun H locs w => ?_)
      refine lv_iload E.x E.b d_Shm_run_93 (lv_at hl 4 rfl) ?_
      obtain ⟨o77, h_o77, h⟩ := bd_some h
      refine clV_Shm_take E w (p0 := v0) (x0 := o76) (x1 := v4) h_o77 k2198 (by decide) hl.1 (Nat.le_of_ble_eq_true rfl) d_Shm_run_95 (fun H locs w => ?_)
      obtain ⟨y78, e_y78, h⟩ := lt_some h
      refine lv_iinc (v := y78) (lv' := [(4, .int y78), (0, .ref (ad (65 + v0))), (1, .int v1), (2, .int v2), (3, .int v3)]) E.x E.b d_Shm_run_98 hl (k := 4) rfl (e_y78) (by decide) rfl (fun ls hl => ?_)
      refine lv_goto (tgt := 76) E.x E.b d_Shm_run_101 (by decide) ?_
      exact hr_76 o77 v0 v1 v2 v3 y78 _ _ _ h w (lv_sub hl [1, 2, 3, 4, 0] rfl)
def L_Shm_run_61 : Nat → Sg → Nat → Int32 → Int32 → Option (Sg × Int32)
  | 0, _, _, _, _ => none
  | n + 1, σ, v0, v1, v2 => ck (v0 < 2) (bd (F_Shm_kindOf σ (14 + 10 * v0) v2) (fun o80 => lt (v1 + 1) (fun y81 => L_Shm_run_76 (L_Shm_run_61 n) 100000 σ v0 y81 v2 o80 0)))
set_option maxRecDepth 10000 in
set_option maxHeartbeats 4000000 in
theorem lt_Shm_run_61 {p : Program} {l : Launch} {e : Env} {R : Room} {s : State} {m : MethodId} {args : Array Value} {below : List Frame} {meth : Method} {c : Code} {D : va_G} {τ : ClassId × ClassId × ClassId} {B : Nat} {A : Nat → Prop} {ad : Nat → Nat} (E : Cx p R s m args meth c prog_18_method_29_code 6 "DrawingMachineModel$ShaderMachineModel" 12 D τ B A) (hret : meth.sig.returnType = (some .int)) (o : Sg × Int32) : ∀ (n : Nat) (σ : Sg) (v0 : Nat) (v1 : Int32) (v2 : Int32) (H : Heap) (locs : List Loc) (ls : Array Slot), L_Shm_run_61 n σ v0 v1 v2 = some o → Wd s D A (wdM τ σ ad) H locs → lv_has ls 6 [(0, .ref (ad (65 + v0))), (1, .int v1), (2, .int v2)] → W p l e R s m args below meth c H locs 0 0 (QI below args s A D τ (wdM τ o.1 ad) o.2) (F0 m 61 ls []) := by
  intro n
  induction n with
  | zero =>
    intro σ v0 v1 v2 H locs ls h w hl
    cases h
  | succ n hr_61 =>
    intro σ v0 v1 v2 H locs ls h w hl
    obtain ⟨c79, h⟩ := ck_some h
    refine lv_aload_n E.x E.b d_Shm_run_61 rfl (lv_at hl 0 rfl) ?_
    refine gM_Shm_program E w (pid := v0) c79 k1556 d_Shm_run_62 ?_
    refine lv_iload_n E.x E.b d_Shm_run_65 rfl (lv_at hl 2 rfl) ?_
    obtain ⟨o80, h_o80, h⟩ := bd_some h
    refine clS_Shm_kindOf E w (ar0 := (14 + 10 * v0)) (x1 := v2) h_o80 k2099 (by decide) hl.1 (Nat.le_of_ble_eq_true rfl) d_Shm_run_66 (fun H locs w => ?_)
    refine lv_istore_n (lv' := [(3, .int o80), (0, .ref (ad (65 + v0))), (1, .int v1), (2, .int v2)]) E.x E.b d_Shm_run_69 rfl hl (by decide) rfl (fun ls hl => ?_)
    obtain ⟨y81, e_y81, h⟩ := lt_some h
    refine lv_iinc (v := y81) (lv' := [(1, .int y81), (3, .int o80), (0, .ref (ad (65 + v0))), (2, .int v2)]) E.x E.b d_Shm_run_70 hl (k := 2) rfl (e_y81) (by decide) rfl (fun ls hl => ?_)
    refine lv_iconst (v := 0) E.x E.b d_Shm_run_73 (by decide) ?_
    refine lv_istore (lv' := [(4, .int 0), (1, .int y81), (3, .int o80), (0, .ref (ad (65 + v0))), (2, .int v2)]) E.x E.b d_Shm_run_74 hl (by decide) rfl (fun ls hl => ?_)
    exact lt_Shm_run_76 E hret o (L_Shm_run_61 n) hr_61 100000 σ v0 y81 v2 o80 0 _ _ _ h w (lv_sub hl [3, 1, 4, 2, 0] rfl)
def L_Shm_run_23 : Nat → Sg → Nat → Int32 → Option (Sg × Int32)
  | 0, _, _, _ => none
  | n + 1, σ, v0, v1 => ck (v0 < 2) (if 64 ≤ v1 then (lt (sI σ (45 + 6 * v0) 0) (fun σ83 => L_Shm_run_61 100000 σ83 v0 0 0)) else (ck (inb v1 (lenM σ (16 + 10 * v0))) (lt (sA σ (16 + 10 * v0) (upd (σ.2.2.1 (16 + 10 * v0)) v1.toNatClampNeg 0)) (fun σ85 => ck (inb (irem v1 32) (lenM σ85 (18 + 10 * v0))) (lt (sA σ85 (18 + 10 * v0) (upd (σ85.2.2.1 (18 + 10 * v0)) (irem v1 32).toNatClampNeg 0)) (fun σ87 => lt (v1 + 1) (fun y88 => L_Shm_run_23 n σ87 v0 y88)))))))
set_option maxRecDepth 10000 in
set_option maxHeartbeats 4000000 in
theorem lt_Shm_run_23 {p : Program} {l : Launch} {e : Env} {R : Room} {s : State} {m : MethodId} {args : Array Value} {below : List Frame} {meth : Method} {c : Code} {D : va_G} {τ : ClassId × ClassId × ClassId} {B : Nat} {A : Nat → Prop} {ad : Nat → Nat} (E : Cx p R s m args meth c prog_18_method_29_code 6 "DrawingMachineModel$ShaderMachineModel" 12 D τ B A) (hret : meth.sig.returnType = (some .int)) (o : Sg × Int32) : ∀ (n : Nat) (σ : Sg) (v0 : Nat) (v1 : Int32) (H : Heap) (locs : List Loc) (ls : Array Slot), L_Shm_run_23 n σ v0 v1 = some o → Wd s D A (wdM τ σ ad) H locs → lv_has ls 6 [(0, .ref (ad (65 + v0))), (1, .int v1)] → W p l e R s m args below meth c H locs 0 0 (QI below args s A D τ (wdM τ o.1 ad) o.2) (F0 m 23 ls []) := by
  intro n
  induction n with
  | zero =>
    intro σ v0 v1 H locs ls h w hl
    cases h
  | succ n hr_23 =>
    intro σ v0 v1 H locs ls h w hl
    obtain ⟨c82, h⟩ := ck_some h
    refine lv_iload_n E.x E.b d_Shm_run_23 rfl (lv_at hl 1 rfl) ?_
    refine lv_bipush (v := 64) E.x E.b d_Shm_run_24 (by decide) ?_
    refine lv_icmp_ge (tgt := 52) E.x E.b d_Shm_run_26 (by decide) (fun c => ?_) (fun c => ?_)
    ·
      replace h := ifT c h
      refine lv_aload_n E.x E.b d_Shm_run_52 rfl (lv_at hl 0 rfl) ?_
      refine lv_iconst (v := 0) E.x E.b d_Shm_run_53 (by decide) ?_
      obtain ⟨σ83, e_σ83, h⟩ := lt_some h
      refine pM_Shm_killed E w (pid := v0) c82 k1574 (by decide) e_σ83 d_Shm_run_54 (fun H locs w => ?_)
      refine lv_iconst (v := 0) E.x E.b d_Shm_run_57 (by decide) ?_
      refine lv_istore_n (lv' := [(1, .int 0), (0, .ref (ad (65 + v0)))]) E.x E.b d_Shm_run_58 rfl hl (by decide) rfl (fun ls hl => ?_)
      refine lv_iconst (v := 0) E.x E.b d_Shm_run_59 (by decide) ?_
      refine lv_istore_n (lv' := [(2, .int 0), (1, .int 0), (0, .ref (ad (65 + v0)))]) E.x E.b d_Shm_run_60 rfl hl (by decide) rfl (fun ls hl => ?_)
      exact lt_Shm_run_61 E hret o 100000 σ83 v0 0 0 _ _ _ h w (lv_sub hl [2, 1, 0] rfl)
    ·
      replace h := ifF c h
      refine lv_aload_n E.x E.b d_Shm_run_29 rfl (lv_at hl 0 rfl) ?_
      refine gM_Shm_temporaries E w (pid := v0) c82 k1564 d_Shm_run_30 ?_
      refine lv_iload_n E.x E.b d_Shm_run_33 rfl (lv_at hl 1 rfl) ?_
      refine lv_iconst (v := 0) E.x E.b d_Shm_run_34 (by decide) ?_
      obtain ⟨c84, h⟩ := ck_some h
      obtain ⟨σ85, e_σ85, h⟩ := lt_some h
      refine iasM E w (k := (16 + 10 * v0)) (by omega) c84 e_σ85 d_Shm_run_35 (fun H locs w => ?_)
      refine lv_aload_n E.x E.b d_Shm_run_36 rfl (lv_at hl 0 rfl) ?_
      refine gM_Shm_outs E w (pid := v0) c82 k1567 d_Shm_run_37 ?_
      refine lv_iload_n E.x E.b d_Shm_run_40 rfl (lv_at hl 1 rfl) ?_
      refine lv_bipush (v := 32) E.x E.b d_Shm_run_41 (by decide) ?_
      refine lv_irem E.x E.b d_Shm_run_43 (by decide) ?_
      refine wi_e (v := irem v1 32) rfl ?_
      refine lv_iconst (v := 0) E.x E.b d_Shm_run_44 (by decide) ?_
      obtain ⟨c86, h⟩ := ck_some h
      obtain ⟨σ87, e_σ87, h⟩ := lt_some h
      refine iasM E w (k := (18 + 10 * v0)) (by omega) c86 e_σ87 d_Shm_run_45 (fun H locs w => ?_)
      obtain ⟨y88, e_y88, h⟩ := lt_some h
      refine lv_iinc (v := y88) (lv' := [(1, .int y88), (0, .ref (ad (65 + v0)))]) E.x E.b d_Shm_run_46 hl (k := 1) rfl (e_y88) (by decide) rfl (fun ls hl => ?_)
      refine lv_goto (tgt := 23) E.x E.b d_Shm_run_49 (by decide) ?_
      exact hr_23 σ87 v0 y88 _ _ _ h w (lv_sub hl [1, 0] rfl)
def F_Shm_run_13 (σ : Sg) (v0 : Nat) (s0 : Nat) (s1 : Int32) : Option (Sg × Int32) := ck (v0 < 2) (ck (s0 < 2) (bd (F_Shm_refuse σ s0 s1) (fun o91 => if o91.2 = 0 then (L_Shm_run_23 100000 o91.1 v0 0) else (some (o91.1, 0)))))
set_option maxRecDepth 10000 in
set_option maxHeartbeats 4000000 in
theorem bt_Shm_run_13 {p : Program} {l : Launch} {e : Env} {R : Room} {s : State} {m : MethodId} {args : Array Value} {below : List Frame} {meth : Method} {c : Code} {D : va_G} {τ : ClassId × ClassId × ClassId} {B : Nat} {A : Nat → Prop} {ad : Nat → Nat} (E : Cx p R s m args meth c prog_18_method_29_code 6 "DrawingMachineModel$ShaderMachineModel" 12 D τ B A) (hret : meth.sig.returnType = (some .int)) (o : Sg × Int32) (σ : Sg) (v0 : Nat) (s0 : Nat) (s1 : Int32) (h : F_Shm_run_13 σ v0 s0 s1 = some o) {H : Heap} {locs : List Loc} {ls : Array Slot} (w : Wd s D A (wdM τ σ ad) H locs) (hl : lv_has ls 6 [(0, .ref (ad (65 + v0)))]) : W p l e R s m args below meth c H locs 0 0 (QI below args s A D τ (wdM τ o.1 ad) o.2) (F0 m 13 ls [.int s1, .ref (ad (65 + s0))]) := by
  obtain ⟨c89, h⟩ := ck_some h
  obtain ⟨c90, h⟩ := ck_some h
  obtain ⟨o91, h_o91, h⟩ := bd_some h
  refine clV_Shm_refuse E w (p0 := s0) (x0 := s1) h_o91 k2088 (by decide) hl.1 (Nat.le_of_ble_eq_true rfl) d_Shm_run_13 (fun H locs w => ?_)
  refine lv_if_eq (tgt := 21) E.x E.b d_Shm_run_16 (by decide) (fun c => ?_) (fun c => ?_)
  ·
    replace h := ifT c h
    refine lv_iconst (v := 0) E.x E.b d_Shm_run_21 (by decide) ?_
    refine lv_istore_n (lv' := [(1, .int 0), (0, .ref (ad (65 + v0)))]) E.x E.b d_Shm_run_22 rfl hl (by decide) rfl (fun ls hl => ?_)
    exact lt_Shm_run_23 E hret o 100000 o91.1 v0 0 _ _ _ h w (lv_sub hl [1, 0] rfl)
  ·
    replace h := ifF c h
    refine lv_iconst (v := 0) E.x E.b d_Shm_run_19 (by decide) ?_
    obtain rfl := Option.some.inj h
    exact rt_i E w hret d_Shm_run_20
def F_Shm_run (σ : Sg) (p0 : Nat) : Option (Sg × Int32) := ck (p0 < 2) (if (σ.1 (41 + 6 * p0)) = 0 then (F_Shm_run_13 σ p0 p0 1) else (F_Shm_run_13 σ p0 p0 0))
set_option maxRecDepth 10000 in
set_option maxHeartbeats 4000000 in
theorem c_Shm_run (l : Launch) (D : va_G) (τ : ClassId × ClassId × ClassId) (B : Nat) (σ : Sg) (ad : Nat → Nat) (p0 : Nat) (o : Sg × Int32) (h : F_Shm_run σ p0 = some o) : MI l y_Shm_run (Cond.code y_Shm_run prog_18_method_29_code 6 (some .int)) 12 D τ B [.ref (ad (65 + p0))] (wdM τ σ ad) (wdM τ o.1 ad) o.2 := by
  refine en_i (by decide) (Nat.le_of_ble_eq_true rfl) ?_
  intro p e R s m args below meth c H locs ls A E hret w hl
  have E : Cx p R s m args meth c prog_18_method_29_code 6 "DrawingMachineModel$ShaderMachineModel" 12 D τ B A := E
  have hl : lv_has ls 6 [(0, .ref (ad (65 + p0)))] := hl
  obtain ⟨c92, h⟩ := ck_some h
  refine lv_aload_n E.x E.b d_Shm_run_0 rfl (lv_at hl 0 rfl) ?_
  refine lv_aload_n E.x E.b d_Shm_run_1 rfl (lv_at hl 0 rfl) ?_
  refine gM_Shm_hasProgram E w (pid := p0) c92 k1558 d_Shm_run_2 ?_
  refine lv_if_ne (tgt := 12) E.x E.b d_Shm_run_5 (by decide) (fun c => ?_) (fun c => ?_)
  ·
    replace h := ifF c h
    refine lv_iconst (v := 0) E.x E.b d_Shm_run_12 (by decide) ?_
    exact bt_Shm_run_13 E hret o σ p0 p0 0 h w (lv_sub hl [0] rfl)
  ·
    replace h := ifT c h
    refine lv_iconst (v := 1) E.x E.b d_Shm_run_8 (by decide) ?_
    refine lv_goto (tgt := 13) E.x E.b d_Shm_run_9 (by decide) ?_
    exact bt_Shm_run_13 E hret o σ p0 p0 1 h w (lv_sub hl [0] rfl)
theorem clV_Shm_run {p : Program} {l : Launch} {e : Env} {R : Room} {s : State} {m : MethodId} {args : Array Value} {below : List Frame} {meth : Method} {c : Code} {H : Heap} {locs : List Loc} {Q : State → Prop} {cc : ByteArray} {nL pc lev : Nat} {own : String} {D : va_G} {τ : ClassId × ClassId × ClassId} {B : Nat} {A : Nat → Prop} {σ : Sg} {ad : Nat → Nat} {ls : Array Slot} {rest : List Value} (E : Cx p R s m args meth c cc nL own lev D τ B A) (w : Wd s D A (wdM τ σ ad) H locs) {p0 : Nat} {o : Sg × Int32} (h : F_Shm_run σ p0 = some o) {index : Nat} (hlk : Cond.methodLink own index y_Shm_run ∈ tw) (hlev : 12 < lev) (hsz : ls.size = nL) (hr : (rest.map fun v => v.category).sum ≤ 8) (hd : decode cc pc = .ok (.invokevirtual index, 3)) (kk : ∀ (H1 : Heap) (locs1 : List Loc), Wd s D A (wdM τ o.1 ad) H1 locs1 → W p l e R s m args below meth c H1 locs1 0 0 Q (F0 m (pc + 3) ls (.int o.2 :: rest))) : W p l e R s m args below meth c H locs 0 0 Q (F0 m pc ls (.ref (ad (65 + p0)) :: rest)) :=
  cr_i w E.C (va_runV (As := []) (rest := rest) E.fix (c_Shm_run l D τ B σ ad p0 o h H.size) (cwV 0 E.w (tw_pre (tw_good k2197) (l := [_, _, _, _]) (List.forall_mem_cons.mpr ⟨hlk, List.forall_mem_cons.mpr ⟨k2195, List.forall_mem_cons.mpr ⟨k2196, List.forall_mem_cons.mpr ⟨k17, fun _ h => absurd h List.not_mem_nil⟩⟩⟩⟩)) rfl rfl rfl (by decide +kernel) (E.rm hlev (by decide))) (wd_preV w E.C [] (rcM_Shm (ck_some h).1) rfl) rfl rfl hsz rfl (lv_room hr) hd ⟨Nat.zero_le _, Nat.zero_le _⟩) kk

theorem d_Vwm_wordAt_0 : decode prog_20_method_5_code 0 = .ok (.lload_n 1, 1) := by decide +kernel
theorem d_Vwm_wordAt_1 : decode prog_20_method_5_code 1 = .ok (.lconst 0, 1) := by decide +kernel
theorem d_Vwm_wordAt_2 : decode prog_20_method_5_code 2 = .ok (.lcmp, 1) := by decide +kernel
theorem d_Vwm_wordAt_3 : decode prog_20_method_5_code 3 = .ok (.ifCond .lt 11, 3) := by decide +kernel
theorem d_Vwm_wordAt_6 : decode prog_20_method_5_code 6 = .ok (.lload_n 1, 1) := by decide +kernel
theorem d_Vwm_wordAt_7 : decode prog_20_method_5_code 7 = .ok (.ldc2_w 36, 3) := by decide +kernel
theorem d_Vwm_wordAt_10 : decode prog_20_method_5_code 10 = .ok (.lcmp, 1) := by decide +kernel
theorem d_Vwm_wordAt_11 : decode prog_20_method_5_code 11 = .ok (.ifCond .le 7, 3) := by decide +kernel
theorem d_Vwm_wordAt_14 : decode prog_20_method_5_code 14 = .ok (.iconst 0, 1) := by decide +kernel
theorem d_Vwm_wordAt_15 : decode prog_20_method_5_code 15 = .ok (.goto 10, 3) := by decide +kernel
theorem d_Vwm_wordAt_18 : decode prog_20_method_5_code 18 = .ok (.aload_n 0, 1) := by decide +kernel
theorem d_Vwm_wordAt_19 : decode prog_20_method_5_code 19 = .ok (.getfield 28, 3) := by decide +kernel
theorem d_Vwm_wordAt_22 : decode prog_20_method_5_code 22 = .ok (.lload_n 1, 1) := by decide +kernel
theorem d_Vwm_wordAt_23 : decode prog_20_method_5_code 23 = .ok (.l2i, 1) := by decide +kernel
theorem d_Vwm_wordAt_24 : decode prog_20_method_5_code 24 = .ok (.iaload, 1) := by decide +kernel
theorem d_Vwm_wordAt_25 : decode prog_20_method_5_code 25 = .ok (.ireturn, 1) := by decide +kernel
def F_Vwm_wordAt_25 (σ : Sg) (s0 : Int32) : Option (Int32) := some s0
set_option maxRecDepth 10000 in
set_option maxHeartbeats 4000000 in
theorem bt_Vwm_wordAt_25 {p : Program} {l : Launch} {e : Env} {R : Room} {s : State} {m : MethodId} {args : Array Value} {below : List Frame} {meth : Method} {c : Code} {D : va_G} {τ : ClassId × ClassId × ClassId} {B : Nat} {A : Nat → Prop} {ad : Nat → Nat} (E : Cx p R s m args meth c prog_20_method_5_code 3 "DrawingMachineModel$VertexWorkModel" 0 D τ B A) (hret : meth.sig.returnType = (some .int)) (o : Int32) (σ : Sg) (s0 : Int32) (h : F_Vwm_wordAt_25 σ s0 = some o) {H : Heap} {locs : List Loc} {ls : Array Slot} (w : Wd s D A (wdM τ σ ad) H locs) (hl : lv_has ls 3 []) : W p l e R s m args below meth c H locs 0 0 (QI below args s A D τ (wdM τ σ ad) o) (F0 m 25 ls [.int s0]) := by
  obtain rfl := Option.some.inj h
  exact rt_i E w hret d_Vwm_wordAt_25
def F_Vwm_wordAt_14 (σ : Sg) : Option (Int32) := F_Vwm_wordAt_25 σ 0
set_option maxRecDepth 10000 in
set_option maxHeartbeats 4000000 in
theorem bt_Vwm_wordAt_14 {p : Program} {l : Launch} {e : Env} {R : Room} {s : State} {m : MethodId} {args : Array Value} {below : List Frame} {meth : Method} {c : Code} {D : va_G} {τ : ClassId × ClassId × ClassId} {B : Nat} {A : Nat → Prop} {ad : Nat → Nat} (E : Cx p R s m args meth c prog_20_method_5_code 3 "DrawingMachineModel$VertexWorkModel" 0 D τ B A) (hret : meth.sig.returnType = (some .int)) (o : Int32) (σ : Sg) (h : F_Vwm_wordAt_14 σ = some o) {H : Heap} {locs : List Loc} {ls : Array Slot} (w : Wd s D A (wdM τ σ ad) H locs) (hl : lv_has ls 3 []) : W p l e R s m args below meth c H locs 0 0 (QI below args s A D τ (wdM τ σ ad) o) (F0 m 14 ls []) := by
  refine lv_iconst (v := 0) E.x E.b d_Vwm_wordAt_14 (by decide) ?_
  refine lv_goto (tgt := 25) E.x E.b d_Vwm_wordAt_15 (by decide) ?_
  exact bt_Vwm_wordAt_25 E hret o σ 0 h w (lv_sub hl [] rfl)
def F_Vwm_wordAt (σ : Sg) (x0 : Int64) : Option (Int32) := if x0 < 0 then (F_Vwm_wordAt_14 σ) else (if x0 ≤ 4095 then (ck (inb x0.toInt32 4096) (F_Vwm_wordAt_25 σ (σ.2.2.1 0 x0.toInt32.toNatClampNeg))) else (F_Vwm_wordAt_14 σ))
set_option maxRecDepth 10000 in
set_option maxHeartbeats 4000000 in
theorem c_Vwm_wordAt (l : Launch) (D : va_G) (τ : ClassId × ClassId × ClassId) (B : Nat) (σ : Sg) (ad : Nat → Nat) (x0 : Int64) (o : Int32) (h : F_Vwm_wordAt σ x0 = some o) : MI l y_Vwm_wordAt (Cond.code y_Vwm_wordAt prog_20_method_5_code 3 (some .int)) 0 D τ B [.ref (ad 62), .long x0] (wdM τ σ ad) (wdM τ σ ad) o := by
  refine en_i (by decide) (Nat.le_of_ble_eq_true rfl) ?_
  intro p e R s m args below meth c H locs ls A E hret w hl
  have E : Cx p R s m args meth c prog_20_method_5_code 3 "DrawingMachineModel$VertexWorkModel" 0 D τ B A := E
  have hl : lv_has ls 3 [(0, .ref (ad 62)), (1, .long x0)] := hl
  refine lv_lload_n E.x E.b d_Vwm_wordAt_0 rfl (lv_at hl 1 rfl) ?_
  refine lv_lconst (v := 0) E.x E.b d_Vwm_wordAt_1 (by decide) ?_
  refine W.lcmp E.x E.b d_Vwm_wordAt_2 ?_
  refine lv_if_lt (tgt := 14) E.x E.b d_Vwm_wordAt_3 (by decide) (fun c => ?_) (fun c => ?_)
  ·
    replace h := ifT (lgc_lt.mp c) h
    exact bt_Vwm_wordAt_14 E hret o σ h w (lv_sub hl [] rfl)
  ·
    replace h := ifF (fun h9 => c (lgc_lt.mpr h9)) h
    refine lv_lload_n E.x E.b d_Vwm_wordAt_6 rfl (lv_at hl 1 rfl) ?_
    refine lv_ldc2 (v := 4095) E.x E.b E.o (E.w _ k2179) d_Vwm_wordAt_7 ?_
    refine W.lcmp E.x E.b d_Vwm_wordAt_10 ?_
    refine lv_if_le (tgt := 18) E.x E.b d_Vwm_wordAt_11 (by decide) (fun c => ?_) (fun c => ?_)
    ·
      replace h := ifT (lgc_le.mp c) h
      refine lv_aload_n E.x E.b d_Vwm_wordAt_18 rfl (lv_at hl 0 rfl) ?_
      refine gM_Vwm_memory E w k1622 d_Vwm_wordAt_19 ?_
      refine lv_lload_n E.x E.b d_Vwm_wordAt_22 rfl (lv_at hl 1 rfl) ?_
      refine lv_l2i (v := x0.toInt32) E.x E.b d_Vwm_wordAt_23 rfl ?_
      obtain ⟨c2, h⟩ := ck_some h
      refine ialM E w (k := 0) (by decide) c2 d_Vwm_wordAt_24 ?_
      exact bt_Vwm_wordAt_25 E hret o σ (σ.2.2.1 0 x0.toInt32.toNatClampNeg) h w (lv_sub hl [] rfl)
    ·
      replace h := ifF (fun h9 => c (lgc_le.mpr h9)) h
      exact bt_Vwm_wordAt_14 E hret o σ h w (lv_sub hl [] rfl)
theorem clV_Vwm_wordAt {p : Program} {l : Launch} {e : Env} {R : Room} {s : State} {m : MethodId} {args : Array Value} {below : List Frame} {meth : Method} {c : Code} {H : Heap} {locs : List Loc} {Q : State → Prop} {cc : ByteArray} {nL pc lev : Nat} {own : String} {D : va_G} {τ : ClassId × ClassId × ClassId} {B : Nat} {A : Nat → Prop} {σ : Sg} {ad : Nat → Nat} {ls : Array Slot} {rest : List Value} (E : Cx p R s m args meth c cc nL own lev D τ B A) (w : Wd s D A (wdM τ σ ad) H locs) {x0 : Int64} {o : Int32} (h : F_Vwm_wordAt σ x0 = some o) {index : Nat} (hlk : Cond.methodLink own index y_Vwm_wordAt ∈ tw) (hlev : 0 < lev) (hsz : ls.size = nL) (hr : (rest.map fun v => v.category).sum ≤ 8) (hd : decode cc pc = .ok (.invokevirtual index, 3)) (kk : ∀ (H1 : Heap) (locs1 : List Loc), Wd s D A (wdM τ σ ad) H1 locs1 → W p l e R s m args below meth c H1 locs1 0 0 Q (F0 m (pc + 3) ls (.int o :: rest))) : W p l e R s m args below meth c H locs 0 0 Q (F0 m pc ls (.long x0 :: .ref (ad 62) :: rest)) :=
  cr_i w E.C (va_runV (As := [.long x0]) (rest := rest) E.fix (c_Vwm_wordAt l D τ B σ ad x0 o h H.size) (cwV 1 E.w (tw_pre (tw_good k2178) (l := [_, _, _, _]) (List.forall_mem_cons.mpr ⟨hlk, List.forall_mem_cons.mpr ⟨k2177, List.forall_mem_cons.mpr ⟨ks74, List.forall_mem_cons.mpr ⟨k18, fun _ h => absurd h List.not_mem_nil⟩⟩⟩⟩)) rfl rfl rfl (by decide +kernel) (E.rm hlev (by decide))) (wd_preV w E.C [.long x0] rcM_Vwm rfl) rfl rfl hsz rfl (lv_room hr) hd ⟨Nat.zero_le _, Nat.zero_le _⟩) kk

theorem d_Vwm_byteAt_0 : decode prog_20_method_7_code 0 = .ok (.aload_n 0, 1) := by decide +kernel
theorem d_Vwm_byteAt_1 : decode prog_20_method_7_code 1 = .ok (.lload_n 1, 1) := by decide +kernel
theorem d_Vwm_byteAt_2 : decode prog_20_method_7_code 2 = .ok (.invokevirtual 46, 3) := by decide +kernel
theorem d_Vwm_byteAt_5 : decode prog_20_method_7_code 5 = .ok (.bipush 8, 2) := by decide +kernel
theorem d_Vwm_byteAt_7 : decode prog_20_method_7_code 7 = .ok (.iload_n 3, 1) := by decide +kernel
theorem d_Vwm_byteAt_8 : decode prog_20_method_7_code 8 = .ok (.imul, 1) := by decide +kernel
theorem d_Vwm_byteAt_9 : decode prog_20_method_7_code 9 = .ok (.ishr, 1) := by decide +kernel
theorem d_Vwm_byteAt_10 : decode prog_20_method_7_code 10 = .ok (.sipush 255, 3) := by decide +kernel
theorem d_Vwm_byteAt_13 : decode prog_20_method_7_code 13 = .ok (.iand, 1) := by decide +kernel
theorem d_Vwm_byteAt_14 : decode prog_20_method_7_code 14 = .ok (.ireturn, 1) := by decide +kernel
def F_Vwm_byteAt (σ : Sg) (x0 : Int64) (x1 : Int32) : Option (Int32) := bd (F_Vwm_wordAt σ x0) (fun o2 => some ((o2 >>> ((8 * x1) &&& 31)) &&& 255))
set_option maxRecDepth 10000 in
set_option maxHeartbeats 4000000 in
theorem c_Vwm_byteAt (l : Launch) (D : va_G) (τ : ClassId × ClassId × ClassId) (B : Nat) (σ : Sg) (ad : Nat → Nat) (x0 : Int64) (x1 : Int32) (o : Int32) (h : F_Vwm_byteAt σ x0 x1 = some o) : MI l y_Vwm_byteAt (Cond.code y_Vwm_byteAt prog_20_method_7_code 4 (some .int)) 1 D τ B [.ref (ad 62), .long x0, .int x1] (wdM τ σ ad) (wdM τ σ ad) o := by
  refine en_i (by decide) (Nat.le_of_ble_eq_true rfl) ?_
  intro p e R s m args below meth c H locs ls A E hret w hl
  have E : Cx p R s m args meth c prog_20_method_7_code 4 "DrawingMachineModel$VertexWorkModel" 1 D τ B A := E
  have hl : lv_has ls 4 [(0, .ref (ad 62)), (1, .long x0), (3, .int x1)] := hl
  refine lv_aload_n E.x E.b d_Vwm_byteAt_0 rfl (lv_at hl 0 rfl) ?_
  refine lv_lload_n E.x E.b d_Vwm_byteAt_1 rfl (lv_at hl 1 rfl) ?_
  obtain ⟨o2, h_o2, h⟩ := bd_some h
  refine clV_Vwm_wordAt E w (x0 := x0) h_o2 k2175 (by decide) hl.1 (Nat.le_of_ble_eq_true rfl) d_Vwm_byteAt_2 (fun H locs w => ?_)
  refine lv_bipush (v := 8) E.x E.b d_Vwm_byteAt_5 (by decide) ?_
  refine lv_iload_n E.x E.b d_Vwm_byteAt_7 rfl (lv_at hl 2 rfl) ?_
  refine lv_imul E.x E.b d_Vwm_byteAt_8 ?_
  refine lv_ishr E.x E.b d_Vwm_byteAt_9 ?_
  refine lv_sipush (v := 255) E.x E.b d_Vwm_byteAt_10 (by decide) ?_
  refine lv_iand E.x E.b d_Vwm_byteAt_13 ?_
  obtain rfl := Option.some.inj h
  exact rt_i E w hret d_Vwm_byteAt_14
theorem clV_Vwm_byteAt {p : Program} {l : Launch} {e : Env} {R : Room} {s : State} {m : MethodId} {args : Array Value} {below : List Frame} {meth : Method} {c : Code} {H : Heap} {locs : List Loc} {Q : State → Prop} {cc : ByteArray} {nL pc lev : Nat} {own : String} {D : va_G} {τ : ClassId × ClassId × ClassId} {B : Nat} {A : Nat → Prop} {σ : Sg} {ad : Nat → Nat} {ls : Array Slot} {rest : List Value} (E : Cx p R s m args meth c cc nL own lev D τ B A) (w : Wd s D A (wdM τ σ ad) H locs) {x0 : Int64} {x1 : Int32} {o : Int32} (h : F_Vwm_byteAt σ x0 x1 = some o) {index : Nat} (hlk : Cond.methodLink own index y_Vwm_byteAt ∈ tw) (hlev : 1 < lev) (hsz : ls.size = nL) (hr : (rest.map fun v => v.category).sum ≤ 8) (hd : decode cc pc = .ok (.invokevirtual index, 3)) (kk : ∀ (H1 : Heap) (locs1 : List Loc), Wd s D A (wdM τ σ ad) H1 locs1 → W p l e R s m args below meth c H1 locs1 0 0 Q (F0 m (pc + 3) ls (.int o :: rest))) : W p l e R s m args below meth c H locs 0 0 Q (F0 m pc ls (.int x1 :: .long x0 :: .ref (ad 62) :: rest)) :=
  cr_i w E.C (va_runV (As := [.long x0, .int x1]) (rest := rest) E.fix (c_Vwm_byteAt l D τ B σ ad x0 x1 o h H.size) (cwV 2 E.w (tw_pre (tw_good k2188) (l := [_, _, _, _]) (List.forall_mem_cons.mpr ⟨hlk, List.forall_mem_cons.mpr ⟨k2187, List.forall_mem_cons.mpr ⟨ks76, List.forall_mem_cons.mpr ⟨k18, fun _ h => absurd h List.not_mem_nil⟩⟩⟩⟩)) rfl rfl rfl (by decide +kernel) (E.rm hlev (by decide))) (wd_preV w E.C [.long x0, .int x1] rcM_Vwm rfl) rfl rfl hsz rfl (lv_room hr) hd ⟨Nat.zero_le _, Nat.zero_le _⟩) kk

theorem d_Vwm_halfAt_0 : decode prog_20_method_8_code 0 = .ok (.aload_n 0, 1) := by decide +kernel
theorem d_Vwm_halfAt_1 : decode prog_20_method_8_code 1 = .ok (.lload_n 1, 1) := by decide +kernel
theorem d_Vwm_halfAt_2 : decode prog_20_method_8_code 2 = .ok (.invokevirtual 46, 3) := by decide +kernel
theorem d_Vwm_halfAt_5 : decode prog_20_method_8_code 5 = .ok (.bipush 16, 2) := by decide +kernel
theorem d_Vwm_halfAt_7 : decode prog_20_method_8_code 7 = .ok (.iload_n 3, 1) := by decide +kernel
theorem d_Vwm_halfAt_8 : decode prog_20_method_8_code 8 = .ok (.imul, 1) := by decide +kernel
theorem d_Vwm_halfAt_9 : decode prog_20_method_8_code 9 = .ok (.ishr, 1) := by decide +kernel
theorem d_Vwm_halfAt_10 : decode prog_20_method_8_code 10 = .ok (.ldc 50, 2) := by decide +kernel
theorem d_Vwm_halfAt_12 : decode prog_20_method_8_code 12 = .ok (.iand, 1) := by decide +kernel
theorem d_Vwm_halfAt_13 : decode prog_20_method_8_code 13 = .ok (.ireturn, 1) := by decide +kernel
def F_Vwm_halfAt (σ : Sg) (x0 : Int64) (x1 : Int32) : Option (Int32) := bd (F_Vwm_wordAt σ x0) (fun o2 => some ((o2 >>> ((16 * x1) &&& 31)) &&& 65535))
set_option maxRecDepth 10000 in
set_option maxHeartbeats 4000000 in
theorem c_Vwm_halfAt (l : Launch) (D : va_G) (τ : ClassId × ClassId × ClassId) (B : Nat) (σ : Sg) (ad : Nat → Nat) (x0 : Int64) (x1 : Int32) (o : Int32) (h : F_Vwm_halfAt σ x0 x1 = some o) : MI l y_Vwm_halfAt (Cond.code y_Vwm_halfAt prog_20_method_8_code 4 (some .int)) 1 D τ B [.ref (ad 62), .long x0, .int x1] (wdM τ σ ad) (wdM τ σ ad) o := by
  refine en_i (by decide) (Nat.le_of_ble_eq_true rfl) ?_
  intro p e R s m args below meth c H locs ls A E hret w hl
  have E : Cx p R s m args meth c prog_20_method_8_code 4 "DrawingMachineModel$VertexWorkModel" 1 D τ B A := E
  have hl : lv_has ls 4 [(0, .ref (ad 62)), (1, .long x0), (3, .int x1)] := hl
  refine lv_aload_n E.x E.b d_Vwm_halfAt_0 rfl (lv_at hl 0 rfl) ?_
  refine lv_lload_n E.x E.b d_Vwm_halfAt_1 rfl (lv_at hl 1 rfl) ?_
  obtain ⟨o2, h_o2, h⟩ := bd_some h
  refine clV_Vwm_wordAt E w (x0 := x0) h_o2 k2175 (by decide) hl.1 (Nat.le_of_ble_eq_true rfl) d_Vwm_halfAt_2 (fun H locs w => ?_)
  refine lv_bipush (v := 16) E.x E.b d_Vwm_halfAt_5 (by decide) ?_
  refine lv_iload_n E.x E.b d_Vwm_halfAt_7 rfl (lv_at hl 2 rfl) ?_
  refine lv_imul E.x E.b d_Vwm_halfAt_8 ?_
  refine lv_ishr E.x E.b d_Vwm_halfAt_9 ?_
  refine lv_ldc (v := 65535) E.x E.b E.o (E.w _ k2184) d_Vwm_halfAt_10 ?_
  refine lv_iand E.x E.b d_Vwm_halfAt_12 ?_
  obtain rfl := Option.some.inj h
  exact rt_i E w hret d_Vwm_halfAt_13
theorem clV_Vwm_halfAt {p : Program} {l : Launch} {e : Env} {R : Room} {s : State} {m : MethodId} {args : Array Value} {below : List Frame} {meth : Method} {c : Code} {H : Heap} {locs : List Loc} {Q : State → Prop} {cc : ByteArray} {nL pc lev : Nat} {own : String} {D : va_G} {τ : ClassId × ClassId × ClassId} {B : Nat} {A : Nat → Prop} {σ : Sg} {ad : Nat → Nat} {ls : Array Slot} {rest : List Value} (E : Cx p R s m args meth c cc nL own lev D τ B A) (w : Wd s D A (wdM τ σ ad) H locs) {x0 : Int64} {x1 : Int32} {o : Int32} (h : F_Vwm_halfAt σ x0 x1 = some o) {index : Nat} (hlk : Cond.methodLink own index y_Vwm_halfAt ∈ tw) (hlev : 1 < lev) (hsz : ls.size = nL) (hr : (rest.map fun v => v.category).sum ≤ 8) (hd : decode cc pc = .ok (.invokevirtual index, 3)) (kk : ∀ (H1 : Heap) (locs1 : List Loc), Wd s D A (wdM τ σ ad) H1 locs1 → W p l e R s m args below meth c H1 locs1 0 0 Q (F0 m (pc + 3) ls (.int o :: rest))) : W p l e R s m args below meth c H locs 0 0 Q (F0 m pc ls (.int x1 :: .long x0 :: .ref (ad 62) :: rest)) :=
  cr_i w E.C (va_runV (As := [.long x0, .int x1]) (rest := rest) E.fix (c_Vwm_halfAt l D τ B σ ad x0 x1 o h H.size) (cwV 2 E.w (tw_pre (tw_good k2183) (l := [_, _, _, _]) (List.forall_mem_cons.mpr ⟨hlk, List.forall_mem_cons.mpr ⟨k2182, List.forall_mem_cons.mpr ⟨ks75, List.forall_mem_cons.mpr ⟨k18, fun _ h => absurd h List.not_mem_nil⟩⟩⟩⟩)) rfl rfl rfl (by decide +kernel) (E.rm hlev (by decide))) (wd_preV w E.C [.long x0, .int x1] rcM_Vwm rfl) rfl rfl hsz rfl (lv_room hr) hd ⟨Nat.zero_le _, Nat.zero_le _⟩) kk

theorem d_Vwm_in_0 : decode prog_20_method_3_code 0 = .ok (.iload_n 0, 1) := by decide +kernel
theorem d_Vwm_in_1 : decode prog_20_method_3_code 1 = .ok (.iload_n 1, 1) := by decide +kernel
theorem d_Vwm_in_2 : decode prog_20_method_3_code 2 = .ok (.if_icmp .lt 12, 3) := by decide +kernel
theorem d_Vwm_in_5 : decode prog_20_method_3_code 5 = .ok (.iload_n 0, 1) := by decide +kernel
theorem d_Vwm_in_6 : decode prog_20_method_3_code 6 = .ok (.iload_n 2, 1) := by decide +kernel
theorem d_Vwm_in_7 : decode prog_20_method_3_code 7 = .ok (.if_icmp .gt 7, 3) := by decide +kernel
theorem d_Vwm_in_10 : decode prog_20_method_3_code 10 = .ok (.iconst 1, 1) := by decide +kernel
theorem d_Vwm_in_11 : decode prog_20_method_3_code 11 = .ok (.goto 4, 3) := by decide +kernel
theorem d_Vwm_in_14 : decode prog_20_method_3_code 14 = .ok (.iconst 0, 1) := by decide +kernel
theorem d_Vwm_in_15 : decode prog_20_method_3_code 15 = .ok (.ireturn, 1) := by decide +kernel
def F_Vwm_in_15  (s0 : Int32) : Option (Int32) := ck (s0 = 0 ∨ s0 = 1) (some s0)
set_option maxRecDepth 10000 in
set_option maxHeartbeats 4000000 in
theorem bt_Vwm_in_15 {p : Program} {l : Launch} {e : Env} {R : Room} {s : State} {m : MethodId} {args : Array Value} {below : List Frame} {meth : Method} {c : Code} {D : va_G} {τ : ClassId × ClassId × ClassId} {B : Nat} {A : Nat → Prop} {ad : Nat → Nat} {σ0 : Sg} (E : Cx p R s m args meth c prog_20_method_3_code 3 "DrawingMachineModel$VertexWorkModel" 0 D τ B A) (hret : meth.sig.returnType = (some .boolean)) (o : Int32) (s0 : Int32) (h : F_Vwm_in_15 s0 = some o) {H : Heap} {locs : List Loc} {ls : Array Slot} (w : Wd s D A (wdM τ σ0 ad) H locs) (hl : lv_has ls 3 []) : W p l e R s m args below meth c H locs 0 0 (QI below args s A D τ (wdM τ σ0 ad) o) (F0 m 15 ls [.int s0]) := by
  obtain ⟨c2, h⟩ := ck_some h
  obtain rfl := Option.some.inj h
  exact rt_z E w hret c2 d_Vwm_in_15
def F_Vwm_in_14  : Option (Int32) := F_Vwm_in_15 0
set_option maxRecDepth 10000 in
set_option maxHeartbeats 4000000 in
theorem bt_Vwm_in_14 {p : Program} {l : Launch} {e : Env} {R : Room} {s : State} {m : MethodId} {args : Array Value} {below : List Frame} {meth : Method} {c : Code} {D : va_G} {τ : ClassId × ClassId × ClassId} {B : Nat} {A : Nat → Prop} {ad : Nat → Nat} {σ0 : Sg} (E : Cx p R s m args meth c prog_20_method_3_code 3 "DrawingMachineModel$VertexWorkModel" 0 D τ B A) (hret : meth.sig.returnType = (some .boolean)) (o : Int32) (h : F_Vwm_in_14 = some o) {H : Heap} {locs : List Loc} {ls : Array Slot} (w : Wd s D A (wdM τ σ0 ad) H locs) (hl : lv_has ls 3 []) : W p l e R s m args below meth c H locs 0 0 (QI below args s A D τ (wdM τ σ0 ad) o) (F0 m 14 ls []) := by
  refine lv_iconst (v := 0) E.x E.b d_Vwm_in_14 (by decide) ?_
  exact bt_Vwm_in_15 E hret o 0 h w (lv_sub hl [] rfl)
def F_Vwm_in  (x0 : Int32) (x1 : Int32) (x2 : Int32) : Option (Int32) := if x0 < x1 then (F_Vwm_in_14) else (if x2 < x0 then (F_Vwm_in_14) else (F_Vwm_in_15 1))
set_option maxRecDepth 10000 in
set_option maxHeartbeats 4000000 in
theorem c_Vwm_in (l : Launch) (D : va_G) (τ : ClassId × ClassId × ClassId) (B : Nat) (σ0 : Sg) (ad : Nat → Nat) (x0 : Int32) (x1 : Int32) (x2 : Int32) (o : Int32) (h : F_Vwm_in x0 x1 x2 = some o) : MI l y_Vwm_in (Cond.code y_Vwm_in prog_20_method_3_code 3 (some .boolean)) 0 D τ B [.int x0, .int x1, .int x2] (wdM τ σ0 ad) (wdM τ σ0 ad) o := by
  refine en_i (by decide) (Nat.le_of_ble_eq_true rfl) ?_
  intro p e R s m args below meth c H locs ls A E hret w hl
  have E : Cx p R s m args meth c prog_20_method_3_code 3 "DrawingMachineModel$VertexWorkModel" 0 D τ B A := E
  have hl : lv_has ls 3 [(0, .int x0), (1, .int x1), (2, .int x2)] := hl
  refine lv_iload_n E.x E.b d_Vwm_in_0 rfl (lv_at hl 0 rfl) ?_
  refine lv_iload_n E.x E.b d_Vwm_in_1 rfl (lv_at hl 1 rfl) ?_
  refine lv_icmp_lt (tgt := 14) E.x E.b d_Vwm_in_2 (by decide) (fun c => ?_) (fun c => ?_)
  ·
    replace h := ifT c h
    exact bt_Vwm_in_14 E hret o h w (lv_sub hl [] rfl)
  ·
    replace h := ifF c h
    refine lv_iload_n E.x E.b d_Vwm_in_5 rfl (lv_at hl 0 rfl) ?_
    refine lv_iload_n E.x E.b d_Vwm_in_6 rfl (lv_at hl 2 rfl) ?_
    refine lv_icmp_gt (tgt := 14) E.x E.b d_Vwm_in_7 (by decide) (fun c => ?_) (fun c => ?_)
    ·
      replace h := ifT c h
      exact bt_Vwm_in_14 E hret o h w (lv_sub hl [] rfl)
    ·
      replace h := ifF c h
      refine lv_iconst (v := 1) E.x E.b d_Vwm_in_10 (by decide) ?_
      refine lv_goto (tgt := 15) E.x E.b d_Vwm_in_11 (by decide) ?_
      exact bt_Vwm_in_15 E hret o 1 h w (lv_sub hl [] rfl)
theorem clS_Vwm_in {p : Program} {l : Launch} {e : Env} {R : Room} {s : State} {m : MethodId} {args : Array Value} {below : List Frame} {meth : Method} {c : Code} {H : Heap} {locs : List Loc} {Q : State → Prop} {cc : ByteArray} {nL pc lev : Nat} {own : String} {D : va_G} {τ : ClassId × ClassId × ClassId} {B : Nat} {A : Nat → Prop} {σ : Sg} {ad : Nat → Nat} {ls : Array Slot} {rest : List Value} (E : Cx p R s m args meth c cc nL own lev D τ B A) (w : Wd s D A (wdM τ σ ad) H locs) {x0 : Int32} {x1 : Int32} {x2 : Int32} {o : Int32} (h : F_Vwm_in x0 x1 x2 = some o) {index : Nat} (hlk : Cond.methodLink own index y_Vwm_in ∈ tw) (hlev : 0 < lev) (hsz : ls.size = nL) (hr : (rest.map fun v => v.category).sum ≤ 8) (hd : decode cc pc = .ok (.invokestatic index, 3)) (kk : ∀ (H1 : Heap) (locs1 : List Loc), Wd s D A (wdM τ σ ad) H1 locs1 → W p l e R s m args below meth c H1 locs1 0 0 Q (F0 m (pc + 3) ls (.int o :: rest))) : W p l e R s m args below meth c H locs 0 0 Q (F0 m pc ls (.int x2 :: .int x1 :: .int x0 :: rest)) :=
  cr_i w E.C (va_runS (As := [.int x0, .int x1, .int x2]) (rest := rest) E.fix (c_Vwm_in l D τ B σ ad x0 x1 x2 o h H.size) (va_cwS 3 E.w (tw_pre (tw_good k2027) (l := [_, _, _]) (List.forall_mem_cons.mpr ⟨hlk, List.forall_mem_cons.mpr ⟨k2026, List.forall_mem_cons.mpr ⟨k18, fun _ h => absurd h List.not_mem_nil⟩⟩⟩)) rfl rfl rfl (by decide +kernel) (E.rm hlev (by decide))) (wd_pre w E.C [.int x0, .int x1, .int x2]) rfl rfl hsz rfl (lv_room hr) hd ⟨Nat.zero_le _, Nat.zero_le _⟩) kk

theorem d_Vwm_refuse_0 : decode prog_20_method_2_code 0 = .ok (.aload_n 0, 1) := by decide +kernel
theorem d_Vwm_refuse_1 : decode prog_20_method_2_code 1 = .ok (.iload_n 1, 1) := by decide +kernel
theorem d_Vwm_refuse_2 : decode prog_20_method_2_code 2 = .ok (.ifCond .eq 7, 3) := by decide +kernel
theorem d_Vwm_refuse_5 : decode prog_20_method_2_code 5 = .ok (.iconst 1, 1) := by decide +kernel
theorem d_Vwm_refuse_6 : decode prog_20_method_2_code 6 = .ok (.goto 12, 3) := by decide +kernel
theorem d_Vwm_refuse_9 : decode prog_20_method_2_code 9 = .ok (.iload_n 2, 1) := by decide +kernel
theorem d_Vwm_refuse_10 : decode prog_20_method_2_code 10 = .ok (.ifCond .eq 7, 3) := by decide +kernel
theorem d_Vwm_refuse_13 : decode prog_20_method_2_code 13 = .ok (.iconst 2, 1) := by decide +kernel
theorem d_Vwm_refuse_14 : decode prog_20_method_2_code 14 = .ok (.goto 4, 3) := by decide +kernel
theorem d_Vwm_refuse_17 : decode prog_20_method_2_code 17 = .ok (.iconst 0, 1) := by decide +kernel
theorem d_Vwm_refuse_18 : decode prog_20_method_2_code 18 = .ok (.putfield 32, 3) := by decide +kernel
theorem d_Vwm_refuse_21 : decode prog_20_method_2_code 21 = .ok (.aload_n 0, 1) := by decide +kernel
theorem d_Vwm_refuse_22 : decode prog_20_method_2_code 22 = .ok (.getfield 32, 3) := by decide +kernel
theorem d_Vwm_refuse_25 : decode prog_20_method_2_code 25 = .ok (.ifCond .le 7, 3) := by decide +kernel
theorem d_Vwm_refuse_28 : decode prog_20_method_2_code 28 = .ok (.iconst 1, 1) := by decide +kernel
theorem d_Vwm_refuse_29 : decode prog_20_method_2_code 29 = .ok (.goto 4, 3) := by decide +kernel
theorem d_Vwm_refuse_32 : decode prog_20_method_2_code 32 = .ok (.iconst 0, 1) := by decide +kernel
theorem d_Vwm_refuse_33 : decode prog_20_method_2_code 33 = .ok (.ireturn, 1) := by decide +kernel
def F_Vwm_refuse_33 (σ : Sg) (s0 : Int32) : Option (Sg × Int32) := ck (s0 = 0 ∨ s0 = 1) (some (σ, s0))
set_option maxRecDepth 10000 in
set_option maxHeartbeats 4000000 in
theorem bt_Vwm_refuse_33 {p : Program} {l : Launch} {e : Env} {R : Room} {s : State} {m : MethodId} {args : Array Value} {below : List Frame} {meth : Method} {c : Code} {D : va_G} {τ : ClassId × ClassId × ClassId} {B : Nat} {A : Nat → Prop} {ad : Nat → Nat} (E : Cx p R s m args meth c prog_20_method_2_code 3 "DrawingMachineModel$VertexWorkModel" 0 D τ B A) (hret : meth.sig.returnType = (some .boolean)) (o : Sg × Int32) (σ : Sg) (s0 : Int32) (h : F_Vwm_refuse_33 σ s0 = some o) {H : Heap} {locs : List Loc} {ls : Array Slot} (w : Wd s D A (wdM τ σ ad) H locs) (hl : lv_has ls 3 []) : W p l e R s m args below meth c H locs 0 0 (QI below args s A D τ (wdM τ o.1 ad) o.2) (F0 m 33 ls [.int s0]) := by
  obtain ⟨c3, h⟩ := ck_some h
  obtain rfl := Option.some.inj h
  exact rt_z E w hret c3 d_Vwm_refuse_33
def F_Vwm_refuse_18 (σ : Sg) (s1 : Int32) : Option (Sg × Int32) := lt (sI σ 21 s1) (fun σ4 => if (σ4.1 21) ≤ 0 then (F_Vwm_refuse_33 σ4 0) else (F_Vwm_refuse_33 σ4 1))
set_option maxRecDepth 10000 in
set_option maxHeartbeats 4000000 in
theorem bt_Vwm_refuse_18 {p : Program} {l : Launch} {e : Env} {R : Room} {s : State} {m : MethodId} {args : Array Value} {below : List Frame} {meth : Method} {c : Code} {D : va_G} {τ : ClassId × ClassId × ClassId} {B : Nat} {A : Nat → Prop} {ad : Nat → Nat} (E : Cx p R s m args meth c prog_20_method_2_code 3 "DrawingMachineModel$VertexWorkModel" 0 D τ B A) (hret : meth.sig.returnType = (some .boolean)) (o : Sg × Int32) (σ : Sg) (s1 : Int32) (h : F_Vwm_refuse_18 σ s1 = some o) {H : Heap} {locs : List Loc} {ls : Array Slot} (w : Wd s D A (wdM τ σ ad) H locs) (hl : lv_has ls 3 [(0, .ref (ad 62))]) : W p l e R s m args below meth c H locs 0 0 (QI below args s A D τ (wdM τ o.1 ad) o.2) (F0 m 18 ls [.int s1, .ref (ad 62)]) := by
  obtain ⟨σ4, e_σ4, h⟩ := lt_some h
  refine pM_Vwm_thrown E w k1621 e_σ4 d_Vwm_refuse_18 (fun H locs w => ?_)
  refine lv_aload_n E.x E.b d_Vwm_refuse_21 rfl (lv_at hl 0 rfl) ?_
  refine gM_Vwm_thrown E w k1621 d_Vwm_refuse_22 ?_
  refine lv_if_le (tgt := 32) E.x E.b d_Vwm_refuse_25 (by decide) (fun c => ?_) (fun c => ?_)
  ·
    replace h := ifT c h
    refine lv_iconst (v := 0) E.x E.b d_Vwm_refuse_32 (by decide) ?_
    exact bt_Vwm_refuse_33 E hret o σ4 0 h w (lv_sub hl [] rfl)
  ·
    replace h := ifF c h
    refine lv_iconst (v := 1) E.x E.b d_Vwm_refuse_28 (by decide) ?_
    refine lv_goto (tgt := 33) E.x E.b d_Vwm_refuse_29 (by decide) ?_
    exact bt_Vwm_refuse_33 E hret o σ4 1 h w (lv_sub hl [] rfl)
def F_Vwm_refuse (σ : Sg) (x0 : Int32) (x1 : Int32) : Option (Sg × Int32) := if x0 = 0 then (if x1 = 0 then (F_Vwm_refuse_18 σ 0) else (F_Vwm_refuse_18 σ 2)) else (F_Vwm_refuse_18 σ 1)
set_option maxRecDepth 10000 in
set_option maxHeartbeats 4000000 in
theorem c_Vwm_refuse (l : Launch) (D : va_G) (τ : ClassId × ClassId × ClassId) (B : Nat) (σ : Sg) (ad : Nat → Nat) (x0 : Int32) (x1 : Int32) (o : Sg × Int32) (h : F_Vwm_refuse σ x0 x1 = some o) : MI l y_Vwm_refuse (Cond.code y_Vwm_refuse prog_20_method_2_code 3 (some .boolean)) 0 D τ B [.ref (ad 62), .int x0, .int x1] (wdM τ σ ad) (wdM τ o.1 ad) o.2 := by
  refine en_i (by decide) (Nat.le_of_ble_eq_true rfl) ?_
  intro p e R s m args below meth c H locs ls A E hret w hl
  have E : Cx p R s m args meth c prog_20_method_2_code 3 "DrawingMachineModel$VertexWorkModel" 0 D τ B A := E
  have hl : lv_has ls 3 [(0, .ref (ad 62)), (1, .int x0), (2, .int x1)] := hl
  refine lv_aload_n E.x E.b d_Vwm_refuse_0 rfl (lv_at hl 0 rfl) ?_
  refine lv_iload_n E.x E.b d_Vwm_refuse_1 rfl (lv_at hl 1 rfl) ?_
  refine lv_if_eq (tgt := 9) E.x E.b d_Vwm_refuse_2 (by decide) (fun c => ?_) (fun c => ?_)
  ·
    replace h := ifT c h
    refine lv_iload_n E.x E.b d_Vwm_refuse_9 rfl (lv_at hl 2 rfl) ?_
    refine lv_if_eq (tgt := 17) E.x E.b d_Vwm_refuse_10 (by decide) (fun c => ?_) (fun c => ?_)
    ·
      replace h := ifT c h
      refine lv_iconst (v := 0) E.x E.b d_Vwm_refuse_17 (by decide) ?_
      exact bt_Vwm_refuse_18 E hret o σ 0 h w (lv_sub hl [0] rfl)
    ·
      replace h := ifF c h
      refine lv_iconst (v := 2) E.x E.b d_Vwm_refuse_13 (by decide) ?_
      refine lv_goto (tgt := 18) E.x E.b d_Vwm_refuse_14 (by decide) ?_
      exact bt_Vwm_refuse_18 E hret o σ 2 h w (lv_sub hl [0] rfl)
  ·
    replace h := ifF c h
    refine lv_iconst (v := 1) E.x E.b d_Vwm_refuse_5 (by decide) ?_
    refine lv_goto (tgt := 18) E.x E.b d_Vwm_refuse_6 (by decide) ?_
    exact bt_Vwm_refuse_18 E hret o σ 1 h w (lv_sub hl [0] rfl)
theorem clV_Vwm_refuse {p : Program} {l : Launch} {e : Env} {R : Room} {s : State} {m : MethodId} {args : Array Value} {below : List Frame} {meth : Method} {c : Code} {H : Heap} {locs : List Loc} {Q : State → Prop} {cc : ByteArray} {nL pc lev : Nat} {own : String} {D : va_G} {τ : ClassId × ClassId × ClassId} {B : Nat} {A : Nat → Prop} {σ : Sg} {ad : Nat → Nat} {ls : Array Slot} {rest : List Value} (E : Cx p R s m args meth c cc nL own lev D τ B A) (w : Wd s D A (wdM τ σ ad) H locs) {x0 : Int32} {x1 : Int32} {o : Sg × Int32} (h : F_Vwm_refuse σ x0 x1 = some o) {index : Nat} (hlk : Cond.methodLink own index y_Vwm_refuse ∈ tw) (hlev : 0 < lev) (hsz : ls.size = nL) (hr : (rest.map fun v => v.category).sum ≤ 8) (hd : decode cc pc = .ok (.invokevirtual index, 3)) (kk : ∀ (H1 : Heap) (locs1 : List Loc), Wd s D A (wdM τ o.1 ad) H1 locs1 → W p l e R s m args below meth c H1 locs1 0 0 Q (F0 m (pc + 3) ls (.int o.2 :: rest))) : W p l e R s m args below meth c H locs 0 0 Q (F0 m pc ls (.int x1 :: .int x0 :: .ref (ad 62) :: rest)) :=
  cr_i w E.C (va_runV (As := [.int x0, .int x1]) (rest := rest) E.fix (c_Vwm_refuse l D τ B σ ad x0 x1 o h H.size) (cwV 2 E.w (tw_pre (tw_good k2031) (l := [_, _, _, _]) (List.forall_mem_cons.mpr ⟨hlk, List.forall_mem_cons.mpr ⟨k2030, List.forall_mem_cons.mpr ⟨ks60, List.forall_mem_cons.mpr ⟨k18, fun _ h => absurd h List.not_mem_nil⟩⟩⟩⟩)) rfl rfl rfl (by decide +kernel) (E.rm hlev (by decide))) (wd_preV w E.C [.int x0, .int x1] rcM_Vwm rfl) rfl rfl hsz rfl (lv_room hr) hd ⟨Nat.zero_le _, Nat.zero_le _⟩) kk
