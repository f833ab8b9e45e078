theorem d_Pro_readSource_0 : decode prog_7_method_4_code 0 = .ok (.getstatic 84, 3) := by decide +kernel
theorem d_Pro_readSource_3 : decode prog_7_method_4_code 3 = .ok (.iload_n 1, 1) := by decide +kernel
theorem d_Pro_readSource_4 : decode prog_7_method_4_code 4 = .ok (.iconst 3, 1) := by decide +kernel
theorem d_Pro_readSource_5 : decode prog_7_method_4_code 5 = .ok (.iand, 1) := by decide +kernel
theorem d_Pro_readSource_6 : decode prog_7_method_4_code 6 = .ok (.iaload, 1) := by decide +kernel
theorem d_Pro_readSource_7 : decode prog_7_method_4_code 7 = .ok (.iconst 4, 1) := by decide +kernel
theorem d_Pro_readSource_8 : decode prog_7_method_4_code 8 = .ok (.iload_n 1, 1) := by decide +kernel
theorem d_Pro_readSource_9 : decode prog_7_method_4_code 9 = .ok (.iconst 2, 1) := by decide +kernel
theorem d_Pro_readSource_10 : decode prog_7_method_4_code 10 = .ok (.iushr, 1) := by decide +kernel
theorem d_Pro_readSource_11 : decode prog_7_method_4_code 11 = .ok (.bipush 31, 2) := by decide +kernel
theorem d_Pro_readSource_13 : decode prog_7_method_4_code 13 = .ok (.iand, 1) := by decide +kernel
theorem d_Pro_readSource_14 : decode prog_7_method_4_code 14 = .ok (.imul, 1) := by decide +kernel
theorem d_Pro_readSource_15 : decode prog_7_method_4_code 15 = .ok (.iadd, 1) := by decide +kernel
theorem d_Pro_readSource_16 : decode prog_7_method_4_code 16 = .ok (.istore_n 3, 1) := by decide +kernel
theorem d_Pro_readSource_17 : decode prog_7_method_4_code 17 = .ok (.iload_n 1, 1) := by decide +kernel
theorem d_Pro_readSource_18 : decode prog_7_method_4_code 18 = .ok (.bipush 15, 2) := by decide +kernel
theorem d_Pro_readSource_20 : decode prog_7_method_4_code 20 = .ok (.iushr, 1) := by decide +kernel
theorem d_Pro_readSource_21 : decode prog_7_method_4_code 21 = .ok (.ifCond .eq 7, 3) := by decide +kernel
theorem d_Pro_readSource_24 : decode prog_7_method_4_code 24 = .ok (.iconst 1, 1) := by decide +kernel
theorem d_Pro_readSource_25 : decode prog_7_method_4_code 25 = .ok (.goto 4, 3) := by decide +kernel
theorem d_Pro_readSource_28 : decode prog_7_method_4_code 28 = .ok (.iconst 0, 1) := by decide +kernel
theorem d_Pro_readSource_29 : decode prog_7_method_4_code 29 = .ok (.istore 4, 2) := by decide +kernel
theorem d_Pro_readSource_31 : decode prog_7_method_4_code 31 = .ok (.iconst 0, 1) := by decide +kernel
theorem d_Pro_readSource_32 : decode prog_7_method_4_code 32 = .ok (.istore 5, 2) := by decide +kernel
theorem d_Pro_readSource_34 : decode prog_7_method_4_code 34 = .ok (.iload 5, 2) := by decide +kernel
theorem d_Pro_readSource_36 : decode prog_7_method_4_code 36 = .ok (.iconst 4, 1) := by decide +kernel
theorem d_Pro_readSource_37 : decode prog_7_method_4_code 37 = .ok (.if_icmp .ge 46, 3) := by decide +kernel
theorem d_Pro_readSource_40 : decode prog_7_method_4_code 40 = .ok (.aload_n 0, 1) := by decide +kernel
theorem d_Pro_readSource_41 : decode prog_7_method_4_code 41 = .ok (.getfield 9, 3) := by decide +kernel
theorem d_Pro_readSource_44 : decode prog_7_method_4_code 44 = .ok (.iload_n 3, 1) := by decide +kernel
theorem d_Pro_readSource_45 : decode prog_7_method_4_code 45 = .ok (.iload_n 1, 1) := by decide +kernel
theorem d_Pro_readSource_46 : decode prog_7_method_4_code 46 = .ok (.bipush 7, 2) := by decide +kernel
theorem d_Pro_readSource_48 : decode prog_7_method_4_code 48 = .ok (.iconst 2, 1) := by decide +kernel
theorem d_Pro_readSource_49 : decode prog_7_method_4_code 49 = .ok (.iload 5, 2) := by decide +kernel
theorem d_Pro_readSource_51 : decode prog_7_method_4_code 51 = .ok (.imul, 1) := by decide +kernel
theorem d_Pro_readSource_52 : decode prog_7_method_4_code 52 = .ok (.iadd, 1) := by decide +kernel
theorem d_Pro_readSource_53 : decode prog_7_method_4_code 53 = .ok (.iushr, 1) := by decide +kernel
theorem d_Pro_readSource_54 : decode prog_7_method_4_code 54 = .ok (.iconst 3, 1) := by decide +kernel
theorem d_Pro_readSource_55 : decode prog_7_method_4_code 55 = .ok (.iand, 1) := by decide +kernel
theorem d_Pro_readSource_56 : decode prog_7_method_4_code 56 = .ok (.iadd, 1) := by decide +kernel
theorem d_Pro_readSource_57 : decode prog_7_method_4_code 57 = .ok (.iaload, 1) := by decide +kernel
theorem d_Pro_readSource_58 : decode prog_7_method_4_code 58 = .ok (.istore 6, 2) := by decide +kernel
theorem d_Pro_readSource_60 : decode prog_7_method_4_code 60 = .ok (.aload_n 2, 1) := by decide +kernel
theorem d_Pro_readSource_61 : decode prog_7_method_4_code 61 = .ok (.iload 5, 2) := by decide +kernel
theorem d_Pro_readSource_63 : decode prog_7_method_4_code 63 = .ok (.iload 4, 2) := by decide +kernel
theorem d_Pro_readSource_65 : decode prog_7_method_4_code 65 = .ok (.ifCond .eq 9, 3) := by decide +kernel
theorem d_Pro_readSource_68 : decode prog_7_method_4_code 68 = .ok (.iload 6, 2) := by decide +kernel
theorem d_Pro_readSource_70 : decode prog_7_method_4_code 70 = .ok (.ineg, 1) := by decide +kernel
theorem d_Pro_readSource_71 : decode prog_7_method_4_code 71 = .ok (.goto 5, 3) := by decide +kernel
theorem d_Pro_readSource_74 : decode prog_7_method_4_code 74 = .ok (.iload 6, 2) := by decide +kernel
theorem d_Pro_readSource_76 : decode prog_7_method_4_code 76 = .ok (.iastore, 1) := by decide +kernel
theorem d_Pro_readSource_77 : decode prog_7_method_4_code 77 = .ok (.iinc 5 1, 3) := by decide +kernel
theorem d_Pro_readSource_80 : decode prog_7_method_4_code 80 = .ok (.goto (-46), 3) := by decide +kernel
theorem d_Pro_readSource_83 : decode prog_7_method_4_code 83 = .ok (.return_, 1) := by decide +kernel
def F_Pro_readSource_76 (rc_34 : Sg → Int32 → Nat → Int32 → Int32 → Int32 → Option (Sg)) (σ : Sg) (v1 : Int32) (v2 : Nat) (v3 : Int32) (v4 : Int32) (v5 : Int32) (s0 : Nat) (s1 : Int32) (s2 : Int32) : Option (Sg) := ck (v2 < 47) (ck (s0 < 47) (ck (inb s1 (lenC σ s0)) (lt (sA σ s0 (upd (σ.2.2.1 s0) s1.toNatClampNeg s2)) (fun σ12 => lt (v5 + 1) (fun y13 => rc_34 σ12 v1 v2 v3 v4 y13)))))
set_option maxRecDepth 10000 in
set_option maxHeartbeats 4000000 in
theorem bt_Pro_readSource_76 {p : Program} {l : Launch} {e : Env} {R : Room} {s : State} {m : MethodId} {args : Array Value} {below : List Frame} {meth : Method} {c : Code} {D : va_G} {τ : ClassId × ClassId × ClassId} {B : Nat} {A : Nat → Prop} {ad : Nat → Nat} (E : Cx p R s m args meth c prog_7_method_4_code 7 "DrawingMachine$Processor" 0 D τ B A) (hret : meth.sig.returnType = none) (o : Sg) (rc_34 : Sg → Int32 → Nat → Int32 → Int32 → Int32 → Option (Sg)) (hr_34 : ∀ (σ : Sg) (v1 : Int32) (v2 : Nat) (v3 : Int32) (v4 : Int32) (v5 : Int32) (H : Heap) (locs : List Loc) (ls : Array Slot), rc_34 σ v1 v2 v3 v4 v5 = some o → Wd s D A (wdC τ σ ad) H locs → lv_has ls 7 [(0, .ref (ad 62)), (1, .int v1), (2, .ref (ad v2)), (3, .int v3), (4, .int v4), (5, .int v5)] → W p l e R s m args below meth c H locs 0 0 (QV below args s A D τ (wdC τ o ad)) (F0 m 34 ls [])) (σ : Sg) (v1 : Int32) (v2 : Nat) (v3 : Int32) (v4 : Int32) (v5 : Int32) (s0 : Nat) (s1 : Int32) (s2 : Int32) (h : F_Pro_readSource_76 rc_34 σ v1 v2 v3 v4 v5 s0 s1 s2 = some o) {H : Heap} {locs : List Loc} {ls : Array Slot} (w : Wd s D A (wdC τ σ ad) H locs) (hl : lv_has ls 7 [(0, .ref (ad 62)), (1, .int v1), (2, .ref (ad v2)), (3, .int v3), (4, .int v4), (5, .int v5)]) : W p l e R s m args below meth c H locs 0 0 (QV below args s A D τ (wdC τ o ad)) (F0 m 76 ls [.int s2, .int s1, .ref (ad s0)]) := by
  obtain ⟨c9, h⟩ := ck_some h
  obtain ⟨c10, h⟩ := ck_some h
  obtain ⟨c11, h⟩ := ck_some h
  obtain ⟨σ12, e_σ12, h⟩ := lt_some h
  refine iasC E w (k := s0) c10 c11 e_σ12 d_Pro_readSource_76 (fun H locs w => ?_)
  obtain ⟨y13, e_y13, h⟩ := lt_some h
  refine lv_iinc (v := y13) (lv' := [(5, .int y13), (0, .ref (ad 62)), (1, .int v1), (2, .ref (ad v2)), (3, .int v3), (4, .int v4)]) E.x E.b d_Pro_readSource_77 hl (k := 5) rfl (e_y13) (by decide) rfl (fun ls hl => ?_)
  refine lv_goto (tgt := 34) E.x E.b d_Pro_readSource_80 (by decide) ?_
  exact hr_34 σ12 v1 v2 v3 v4 y13 _ _ _ h w (lv_sub hl [1, 2, 3, 4, 5, 0] rfl)
def L_Pro_readSource_34 : Nat → Sg → Int32 → Nat → Int32 → Int32 → Int32 → Option (Sg)
  | 0, _, _, _, _, _, _ => none
  | n + 1, σ, v1, v2, v3, v4, v5 => ck (v2 < 47) (if 4 ≤ v5 then (some σ) else (ck (inb (v3 + ((ushr v1 (7 + (2 * v5))) &&& 3)) 260) (lt (σ.2.2.1 10 (v3 + ((ushr v1 (7 + (2 * v5))) &&& 3)).toNatClampNeg) (fun y16 => if v4 = 0 then (F_Pro_readSource_76 (L_Pro_readSource_34 n) σ v1 v2 v3 v4 v5 v2 v5 y16) else (F_Pro_readSource_76 (L_Pro_readSource_34 n) σ v1 v2 v3 v4 v5 v2 v5 (-y16))))))
set_option maxRecDepth 10000 in
set_option maxHeartbeats 4000000 in
theorem lt_Pro_readSource_34 {p : Program} {l : Launch} {e : Env} {R : Room} {s : State} {m : MethodId} {args : Array Value} {below : List Frame} {meth : Method} {c : Code} {D : va_G} {τ : ClassId × ClassId × ClassId} {B : Nat} {A : Nat → Prop} {ad : Nat → Nat} (E : Cx p R s m args meth c prog_7_method_4_code 7 "DrawingMachine$Processor" 0 D τ B A) (hret : meth.sig.returnType = none) (o : Sg) : ∀ (n : Nat) (σ : Sg) (v1 : Int32) (v2 : Nat) (v3 : Int32) (v4 : Int32) (v5 : Int32) (H : Heap) (locs : List Loc) (ls : Array Slot), L_Pro_readSource_34 n σ v1 v2 v3 v4 v5 = some o → Wd s D A (wdC τ σ ad) H locs → lv_has ls 7 [(0, .ref (ad 62)), (1, .int v1), (2, .ref (ad v2)), (3, .int v3), (4, .int v4), (5, .int v5)] → W p l e R s m args below meth c H locs 0 0 (QV below args s A D τ (wdC τ o ad)) (F0 m 34 ls []) := by
  intro n
  induction n with
  | zero =>
    intro σ v1 v2 v3 v4 v5 H locs ls h w hl
    cases h
  | succ n hr_34 =>
    intro σ v1 v2 v3 v4 v5 H locs ls h w hl
    obtain ⟨c14, h⟩ := ck_some h
    refine lv_iload E.x E.b d_Pro_readSource_34 (lv_at hl 5 rfl) ?_
    refine lv_iconst (v := 4) E.x E.b d_Pro_readSource_36 (by decide) ?_
    refine lv_icmp_ge (tgt := 83) E.x E.b d_Pro_readSource_37 (by decide) (fun c => ?_) (fun c => ?_)
    ·
      replace h := ifT c h
      obtain rfl := Option.some.inj h
      exact rt_v E w hret d_Pro_readSource_83
    ·
      replace h := ifF c h
      refine lv_aload_n E.x E.b d_Pro_readSource_40 rfl (lv_at hl 0 rfl) ?_
      refine gC_Pro_bank E w k236 d_Pro_readSource_41 ?_
      refine lv_iload_n E.x E.b d_Pro_readSource_44 rfl (lv_at hl 3 rfl) ?_
      refine lv_iload_n E.x E.b d_Pro_readSource_45 rfl (lv_at hl 1 rfl) ?_
      refine lv_bipush (v := 7) E.x E.b d_Pro_readSource_46 (by decide) ?_
      refine lv_iconst (v := 2) E.x E.b d_Pro_readSource_48 (by decide) ?_
      refine lv_iload E.x E.b d_Pro_readSource_49 (lv_at hl 5 rfl) ?_
      refine lv_imul E.x E.b d_Pro_readSource_51 ?_
      refine lv_iadd E.x E.b d_Pro_readSource_52 ?_
      refine lv_iushr (v := ushr v1 (7 + (2 * v5))) E.x E.b d_Pro_readSource_53 rfl ?_
      refine lv_iconst (v := 3) E.x E.b d_Pro_readSource_54 (by decide) ?_
      refine lv_iand E.x E.b d_Pro_readSource_55 ?_
      refine lv_iadd E.x E.b d_Pro_readSource_56 ?_
      obtain ⟨c15, h⟩ := ck_some h
      refine ialC E w (k := 10) (by decide) c15 d_Pro_readSource_57 ?_
      obtain ⟨y16, e_y16, h⟩ := lt_some h
      refine wi_e (v := y16) e_y16 ?_
      refine lv_istore (lv' := [(6, .int y16), (0, .ref (ad 62)), (1, .int v1), (2, .ref (ad v2)), (3, .int v3), (4, .int v4), (5, .int v5)]) E.x E.b d_Pro_readSource_58 hl (by decide) rfl (fun ls hl => ?_)
      refine lv_aload_n E.x E.b d_Pro_readSource_60 rfl (lv_at hl 3 rfl) ?_
      refine lv_iload E.x E.b d_Pro_readSource_61 (lv_at hl 6 rfl) ?_
      refine lv_iload E.x E.b d_Pro_readSource_63 (lv_at hl 5 rfl) ?_
      refine lv_if_eq (tgt := 74) E.x E.b d_Pro_readSource_65 (by decide) (fun c => ?_) (fun c => ?_)
      ·
        replace h := ifT c h
        refine lv_iload E.x E.b d_Pro_readSource_74 (lv_at hl 0 rfl) ?_
        exact bt_Pro_readSource_76 E hret o (L_Pro_readSource_34 n) hr_34 σ v1 v2 v3 v4 v5 v2 v5 y16 h w (lv_sub hl [1, 2, 3, 4, 5, 6] rfl)
      ·
        replace h := ifF c h
        refine lv_iload E.x E.b d_Pro_readSource_68 (lv_at hl 0 rfl) ?_
        refine lv_ineg E.x E.b d_Pro_readSource_70 ?_
        refine lv_goto (tgt := 76) E.x E.b d_Pro_readSource_71 (by decide) ?_
        exact bt_Pro_readSource_76 E hret o (L_Pro_readSource_34 n) hr_34 σ v1 v2 v3 v4 v5 v2 v5 (-y16) h w (lv_sub hl [1, 2, 3, 4, 5, 6] rfl)
def F_Pro_readSource_29 (σ : Sg) (v1 : Int32) (v2 : Nat) (v3 : Int32) (s0 : Int32) : Option (Sg) := ck (v2 < 47) (L_Pro_readSource_34 100000 σ v1 v2 v3 s0 0)
set_option maxRecDepth 10000 in
set_option maxHeartbeats 4000000 in
theorem bt_Pro_readSource_29 {p : Program} {l : Launch} {e : Env} {R : Room} {s : State} {m : MethodId} {args : Array Value} {below : List Frame} {meth : Method} {c : Code} {D : va_G} {τ : ClassId × ClassId × ClassId} {B : Nat} {A : Nat → Prop} {ad : Nat → Nat} (E : Cx p R s m args meth c prog_7_method_4_code 7 "DrawingMachine$Processor" 0 D τ B A) (hret : meth.sig.returnType = none) (o : Sg) (σ : Sg) (v1 : Int32) (v2 : Nat) (v3 : Int32) (s0 : Int32) (h : F_Pro_readSource_29 σ v1 v2 v3 s0 = some o) {H : Heap} {locs : List Loc} {ls : Array Slot} (w : Wd s D A (wdC τ σ ad) H locs) (hl : lv_has ls 7 [(0, .ref (ad 62)), (1, .int v1), (2, .ref (ad v2)), (3, .int v3)]) : W p l e R s m args below meth c H locs 0 0 (QV below args s A D τ (wdC τ o ad)) (F0 m 29 ls [.int s0]) := by
  obtain ⟨c17, h⟩ := ck_some h
  refine lv_istore (lv' := [(4, .int s0), (0, .ref (ad 62)), (1, .int v1), (2, .ref (ad v2)), (3, .int v3)]) E.x E.b d_Pro_readSource_29 hl (by decide) rfl (fun ls hl => ?_)
  refine lv_iconst (v := 0) E.x E.b d_Pro_readSource_31 (by decide) ?_
  refine lv_istore (lv' := [(5, .int 0), (4, .int s0), (0, .ref (ad 62)), (1, .int v1), (2, .ref (ad v2)), (3, .int v3)]) E.x E.b d_Pro_readSource_32 hl (by decide) rfl (fun ls hl => ?_)
  exact lt_Pro_readSource_34 E hret o 100000 σ v1 v2 v3 s0 0 _ _ _ h w (lv_sub hl [2, 3, 4, 5, 1, 0] rfl)
def F_Pro_readSource (σ : Sg) (x0 : Int32) (ar1 : Nat) : Option (Sg) := ck (ar1 < 47) (ck (inb (x0 &&& 3) 4) (lt ((tb_FILE_AT (x0 &&& 3).toNatClampNeg) + (4 * ((ushr x0 2) &&& 31))) (fun y21 => if (ushr x0 15) = 0 then (F_Pro_readSource_29 σ x0 ar1 y21 0) else (F_Pro_readSource_29 σ x0 ar1 y21 1))))
set_option maxRecDepth 10000 in
set_option maxHeartbeats 4000000 in
theorem c_Pro_readSource (l : Launch) (D : va_G) (τ : ClassId × ClassId × ClassId) (B : Nat) (σ : Sg) (ad : Nat → Nat) (x0 : Int32) (ar1 : Nat) (o : Sg) (h : F_Pro_readSource σ x0 ar1 = some o) : MV l y_Pro_readSource (Cond.code y_Pro_readSource prog_7_method_4_code 7 none) 0 D τ B [.ref (ad 62), .int x0, .ref (ad ar1)] (wdC τ σ ad) (wdC τ o ad) := by
  refine en_v (by decide) (Nat.le_of_ble_eq_true rfl) ?_
  intro p e R s m args below meth c H locs ls A E hret w hl
  have E : Cx p R s m args meth c prog_7_method_4_code 7 "DrawingMachine$Processor" 0 D τ B A := E
  have hl : lv_has ls 7 [(0, .ref (ad 62)), (1, .int x0), (2, .ref (ad ar1))] := hl
  obtain ⟨c18, h⟩ := ck_some h
  refine r_tab (n := "FILE_AT") E w (by decide) n1041 d_Pro_readSource_0 (fun t19 h_t19 => ?_)
  refine lv_iload_n E.x E.b d_Pro_readSource_3 rfl (lv_at hl 1 rfl) ?_
  refine lv_iconst (v := 3) E.x E.b d_Pro_readSource_4 (by decide) ?_
  refine lv_iand E.x E.b d_Pro_readSource_5 ?_
  obtain ⟨c20, h⟩ := ck_some h
  refine r_tld (f := fun j => tb_FILE_AT j) E w h_t19 c20 d_Pro_readSource_6 ?_
  refine lv_iconst (v := 4) E.x E.b d_Pro_readSource_7 (by decide) ?_
  refine lv_iload_n E.x E.b d_Pro_readSource_8 rfl (lv_at hl 1 rfl) ?_
  refine lv_iconst (v := 2) E.x E.b d_Pro_readSource_9 (by decide) ?_
  refine lv_iushr (v := ushr x0 2) E.x E.b d_Pro_readSource_10 rfl ?_
  refine lv_bipush (v := 31) E.x E.b d_Pro_readSource_11 (by decide) ?_
  refine lv_iand E.x E.b d_Pro_readSource_13 ?_
  refine lv_imul E.x E.b d_Pro_readSource_14 ?_
  refine lv_iadd E.x E.b d_Pro_readSource_15 ?_
  obtain ⟨y21, e_y21, h⟩ := lt_some h
  refine wi_e (v := y21) e_y21 ?_
  refine lv_istore_n (lv' := [(3, .int y21), (0, .ref (ad 62)), (1, .int x0), (2, .ref (ad ar1))]) E.x E.b d_Pro_readSource_16 rfl hl (by decide) rfl (fun ls hl => ?_)
  refine lv_iload_n E.x E.b d_Pro_readSource_17 rfl (lv_at hl 2 rfl) ?_
  refine lv_bipush (v := 15) E.x E.b d_Pro_readSource_18 (by decide) ?_
  refine lv_iushr (v := ushr x0 15) E.x E.b d_Pro_readSource_20 rfl ?_
  refine lv_if_eq (tgt := 28) E.x E.b d_Pro_readSource_21 (by decide) (fun c => ?_) (fun c => ?_)
  ·
    replace h := ifT c h
    refine lv_iconst (v := 0) E.x E.b d_Pro_readSource_28 (by decide) ?_
    exact bt_Pro_readSource_29 E hret o σ x0 ar1 y21 0 h w (lv_sub hl [1, 2, 3, 0] rfl)
  ·
    replace h := ifF c h
    refine lv_iconst (v := 1) E.x E.b d_Pro_readSource_24 (by decide) ?_
    refine lv_goto (tgt := 29) E.x E.b d_Pro_readSource_25 (by decide) ?_
    exact bt_Pro_readSource_29 E hret o σ x0 ar1 y21 1 h w (lv_sub hl [1, 2, 3, 0] rfl)
theorem clV_Pro_readSource {p : Program} {l : Launch} {e : Env} {R : Room} {s : State} {m : MethodId} {args : Array Value} {below : List Frame} {meth : Method} {c : Code} {H : Heap} {locs : List Loc} {Q : State → Prop} {cc : ByteArray} {nL pc lev : Nat} {own : String} {D : va_G} {τ : ClassId × ClassId × ClassId} {B : Nat} {A : Nat → Prop} {σ : Sg} {ad : Nat → Nat} {ls : Array Slot} {rest : List Value} (E : Cx p R s m args meth c cc nL own lev D τ B A) (w : Wd s D A (wdC τ σ ad) H locs) {x0 : Int32} {ar1 : Nat} {o : Sg} (h : F_Pro_readSource σ x0 ar1 = some o) {index : Nat} (hlk : Cond.methodLink own index y_Pro_readSource ∈ tw) (hlev : 0 < lev) (hsz : ls.size = nL) (hr : (rest.map fun v => v.category).sum ≤ 8) (hd : decode cc pc = .ok (.invokevirtual index, 3)) (kk : ∀ (H1 : Heap) (locs1 : List Loc), Wd s D A (wdC τ o ad) H1 locs1 → W p l e R s m args below meth c H1 locs1 0 0 Q (F0 m (pc + 3) ls (rest))) : W p l e R s m args below meth c H locs 0 0 Q (F0 m pc ls (.ref (ad ar1) :: .int x0 :: .ref (ad 62) :: rest)) :=
  cr_v w E.C (va_runV (As := [.int x0, .ref (ad ar1)]) (rest := rest) E.fix (c_Pro_readSource l D τ B σ ad x0 ar1 o h H.size) (cwV 2 E.w (tw_pre (tw_good k1040) (l := [_, _, _, _]) (List.forall_mem_cons.mpr ⟨hlk, List.forall_mem_cons.mpr ⟨k1039, List.forall_mem_cons.mpr ⟨ks13, List.forall_mem_cons.mpr ⟨k8, fun _ h => absurd h List.not_mem_nil⟩⟩⟩⟩)) rfl rfl rfl (by decide +kernel) (E.rm hlev (by decide))) (wd_preV w E.C [.int x0, .ref (ad ar1)] rcC_Pro rfl) rfl rfl hsz rfl (lv_room hr) hd ⟨Nat.zero_le _, Nat.zero_le _⟩) kk

theorem d_Pro_readSources_0 : decode prog_7_method_3_code 0 = .ok (.iload_n 1, 1) := by decide +kernel
theorem d_Pro_readSources_1 : decode prog_7_method_3_code 1 = .ok (.iconst 1, 1) := by decide +kernel
theorem d_Pro_readSources_2 : decode prog_7_method_3_code 2 = .ok (.if_icmp .lt 15, 3) := by decide +kernel
theorem d_Pro_readSources_5 : decode prog_7_method_3_code 5 = .ok (.aload_n 0, 1) := by decide +kernel
theorem d_Pro_readSources_6 : decode prog_7_method_3_code 6 = .ok (.iload_n 2, 1) := by decide +kernel
theorem d_Pro_readSources_7 : decode prog_7_method_3_code 7 = .ok (.ldc 79, 2) := by decide +kernel
theorem d_Pro_readSources_9 : decode prog_7_method_3_code 9 = .ok (.iand, 1) := by decide +kernel
theorem d_Pro_readSources_10 : decode prog_7_method_3_code 10 = .ok (.aload_n 0, 1) := by decide +kernel
theorem d_Pro_readSources_11 : decode prog_7_method_3_code 11 = .ok (.getfield 15, 3) := by decide +kernel
theorem d_Pro_readSources_14 : decode prog_7_method_3_code 14 = .ok (.invokevirtual 80, 3) := by decide +kernel
theorem d_Pro_readSources_17 : decode prog_7_method_3_code 17 = .ok (.iload_n 1, 1) := by decide +kernel
theorem d_Pro_readSources_18 : decode prog_7_method_3_code 18 = .ok (.iconst 2, 1) := by decide +kernel
theorem d_Pro_readSources_19 : decode prog_7_method_3_code 19 = .ok (.if_icmp .lt 15, 3) := by decide +kernel
theorem d_Pro_readSources_22 : decode prog_7_method_3_code 22 = .ok (.aload_n 0, 1) := by decide +kernel
theorem d_Pro_readSources_23 : decode prog_7_method_3_code 23 = .ok (.iload_n 2, 1) := by decide +kernel
theorem d_Pro_readSources_24 : decode prog_7_method_3_code 24 = .ok (.bipush 16, 2) := by decide +kernel
theorem d_Pro_readSources_26 : decode prog_7_method_3_code 26 = .ok (.iushr, 1) := by decide +kernel
theorem d_Pro_readSources_27 : decode prog_7_method_3_code 27 = .ok (.aload_n 0, 1) := by decide +kernel
theorem d_Pro_readSources_28 : decode prog_7_method_3_code 28 = .ok (.getfield 18, 3) := by decide +kernel
theorem d_Pro_readSources_31 : decode prog_7_method_3_code 31 = .ok (.invokevirtual 80, 3) := by decide +kernel
theorem d_Pro_readSources_34 : decode prog_7_method_3_code 34 = .ok (.iload_n 1, 1) := by decide +kernel
theorem d_Pro_readSources_35 : decode prog_7_method_3_code 35 = .ok (.iconst 3, 1) := by decide +kernel
theorem d_Pro_readSources_36 : decode prog_7_method_3_code 36 = .ok (.if_icmp .lt 12, 3) := by decide +kernel
theorem d_Pro_readSources_39 : decode prog_7_method_3_code 39 = .ok (.aload_n 0, 1) := by decide +kernel
theorem d_Pro_readSources_40 : decode prog_7_method_3_code 40 = .ok (.iload_n 3, 1) := by decide +kernel
theorem d_Pro_readSources_41 : decode prog_7_method_3_code 41 = .ok (.aload_n 0, 1) := by decide +kernel
theorem d_Pro_readSources_42 : decode prog_7_method_3_code 42 = .ok (.getfield 21, 3) := by decide +kernel
theorem d_Pro_readSources_45 : decode prog_7_method_3_code 45 = .ok (.invokevirtual 80, 3) := by decide +kernel
theorem d_Pro_readSources_48 : decode prog_7_method_3_code 48 = .ok (.return_, 1) := by decide +kernel
def F_Pro_readSources_48 (σ : Sg) : Option (Sg) := some σ
set_option maxRecDepth 10000 in
set_option maxHeartbeats 4000000 in
theorem bt_Pro_readSources_48 {p : Program} {l : Launch} {e : Env} {R : Room} {s : State} {m : MethodId} {args : Array Value} {below : List Frame} {meth : Method} {c : Code} {D : va_G} {τ : ClassId × ClassId × ClassId} {B : Nat} {A : Nat → Prop} {ad : Nat → Nat} (E : Cx p R s m args meth c prog_7_method_3_code 4 "DrawingMachine$Processor" 1 D τ B A) (hret : meth.sig.returnType = none) (o : Sg) (σ : Sg) (h : F_Pro_readSources_48 σ = some o) {H : Heap} {locs : List Loc} {ls : Array Slot} (w : Wd s D A (wdC τ σ ad) H locs) (hl : lv_has ls 4 []) : W p l e R s m args below meth c H locs 0 0 (QV below args s A D τ (wdC τ o ad)) (F0 m 48 ls []) := by
  obtain rfl := Option.some.inj h
  exact rt_v E w hret d_Pro_readSources_48
def F_Pro_readSources_34 (σ : Sg) (v1 : Int32) (v3 : Int32) : Option (Sg) := if v1 < 3 then (F_Pro_readSources_48 σ) else (bd (F_Pro_readSource σ v3 13) (fun o4 => F_Pro_readSources_48 o4))
set_option maxRecDepth 10000 in
set_option maxHeartbeats 4000000 in
theorem bt_Pro_readSources_34 {p : Program} {l : Launch} {e : Env} {R : Room} {s : State} {m : MethodId} {args : Array Value} {below : List Frame} {meth : Method} {c : Code} {D : va_G} {τ : ClassId × ClassId × ClassId} {B : Nat} {A : Nat → Prop} {ad : Nat → Nat} (E : Cx p R s m args meth c prog_7_method_3_code 4 "DrawingMachine$Processor" 1 D τ B A) (hret : meth.sig.returnType = none) (o : Sg) (σ : Sg) (v1 : Int32) (v3 : Int32) (h : F_Pro_readSources_34 σ v1 v3 = some o) {H : Heap} {locs : List Loc} {ls : Array Slot} (w : Wd s D A (wdC τ σ ad) H locs) (hl : lv_has ls 4 [(0, .ref (ad 62)), (1, .int v1), (3, .int v3)]) : W p l e R s m args below meth c H locs 0 0 (QV below args s A D τ (wdC τ o ad)) (F0 m 34 ls []) := by
  refine lv_iload_n E.x E.b d_Pro_readSources_34 rfl (lv_at hl 1 rfl) ?_
  refine lv_iconst (v := 3) E.x E.b d_Pro_readSources_35 (by decide) ?_
  refine lv_icmp_lt (tgt := 48) E.x E.b d_Pro_readSources_36 (by decide) (fun c => ?_) (fun c => ?_)
  ·
    replace h := ifT c h
    exact bt_Pro_readSources_48 E hret o σ h w (lv_sub hl [] rfl)
  ·
    replace h := ifF c h
    refine lv_aload_n E.x E.b d_Pro_readSources_39 rfl (lv_at hl 0 rfl) ?_
    refine lv_iload_n E.x E.b d_Pro_readSources_40 rfl (lv_at hl 2 rfl) ?_
    refine lv_aload_n E.x E.b d_Pro_readSources_41 rfl (lv_at hl 0 rfl) ?_
    refine gC_Pro_c E w k242 d_Pro_readSources_42 ?_
    obtain ⟨o4, h_o4, h⟩ := bd_some h
    refine clV_Pro_readSource E w (x0 := v3) (ar1 := 13) h_o4 k1037 (by decide) hl.1 (Nat.le_of_ble_eq_true rfl) d_Pro_readSources_45 (fun H locs w => ?_)
    exact bt_Pro_readSources_48 E hret o o4 h w (lv_sub hl [] rfl)
def F_Pro_readSources_17 (σ : Sg) (v1 : Int32) (v2 : Int32) (v3 : Int32) : Option (Sg) := if v1 < 2 then (F_Pro_readSources_34 σ v1 v3) else (bd (F_Pro_readSource σ (ushr v2 16) 12) (fun o5 => F_Pro_readSources_34 o5 v1 v3))
set_option maxRecDepth 10000 in
set_option maxHeartbeats 4000000 in
theorem bt_Pro_readSources_17 {p : Program} {l : Launch} {e : Env} {R : Room} {s : State} {m : MethodId} {args : Array Value} {below : List Frame} {meth : Method} {c : Code} {D : va_G} {τ : ClassId × ClassId × ClassId} {B : Nat} {A : Nat → Prop} {ad : Nat → Nat} (E : Cx p R s m args meth c prog_7_method_3_code 4 "DrawingMachine$Processor" 1 D τ B A) (hret : meth.sig.returnType = none) (o : Sg) (σ : Sg) (v1 : Int32) (v2 : Int32) (v3 : Int32) (h : F_Pro_readSources_17 σ v1 v2 v3 = some o) {H : Heap} {locs : List Loc} {ls : Array Slot} (w : Wd s D A (wdC τ σ ad) H locs) (hl : lv_has ls 4 [(0, .ref (ad 62)), (1, .int v1), (2, .int v2), (3, .int v3)]) : W p l e R s m args below meth c H locs 0 0 (QV below args s A D τ (wdC τ o ad)) (F0 m 17 ls []) := by
  refine lv_iload_n E.x E.b d_Pro_readSources_17 rfl (lv_at hl 1 rfl) ?_
  refine lv_iconst (v := 2) E.x E.b d_Pro_readSources_18 (by decide) ?_
  refine lv_icmp_lt (tgt := 34) E.x E.b d_Pro_readSources_19 (by decide) (fun c => ?_) (fun c => ?_)
  ·
    replace h := ifT c h
    exact bt_Pro_readSources_34 E hret o σ v1 v3 h w (lv_sub hl [0, 1, 3] rfl)
  ·
    replace h := ifF c h
    refine lv_aload_n E.x E.b d_Pro_readSources_22 rfl (lv_at hl 0 rfl) ?_
    refine lv_iload_n E.x E.b d_Pro_readSources_23 rfl (lv_at hl 2 rfl) ?_
    refine lv_bipush (v := 16) E.x E.b d_Pro_readSources_24 (by decide) ?_
    refine lv_iushr (v := ushr v2 16) E.x E.b d_Pro_readSources_26 rfl ?_
    refine lv_aload_n E.x E.b d_Pro_readSources_27 rfl (lv_at hl 0 rfl) ?_
    refine gC_Pro_b E w k241 d_Pro_readSources_28 ?_
    obtain ⟨o5, h_o5, h⟩ := bd_some h
    refine clV_Pro_readSource E w (x0 := (ushr v2 16)) (ar1 := 12) h_o5 k1037 (by decide) hl.1 (Nat.le_of_ble_eq_true rfl) d_Pro_readSources_31 (fun H locs w => ?_)
    exact bt_Pro_readSources_34 E hret o o5 v1 v3 h w (lv_sub hl [0, 1, 3] rfl)
def F_Pro_readSources (σ : Sg) (x0 : Int32) (x1 : Int32) (x2 : Int32) : Option (Sg) := if x0 < 1 then (F_Pro_readSources_17 σ x0 x1 x2) else (bd (F_Pro_readSource σ (x1 &&& 65535) 11) (fun o6 => F_Pro_readSources_17 o6 x0 x1 x2))
set_option maxRecDepth 10000 in
set_option maxHeartbeats 4000000 in
theorem c_Pro_readSources (l : Launch) (D : va_G) (τ : ClassId × ClassId × ClassId) (B : Nat) (σ : Sg) (ad : Nat → Nat) (x0 : Int32) (x1 : Int32) (x2 : Int32) (o : Sg) (h : F_Pro_readSources σ x0 x1 x2 = some o) : MV l y_Pro_readSources (Cond.code y_Pro_readSources prog_7_method_3_code 4 none) 1 D τ B [.ref (ad 62), .int x0, .int x1, .int x2] (wdC τ σ ad) (wdC τ o ad) := by
  refine en_v (by decide) (Nat.le_of_ble_eq_true rfl) ?_
  intro p e R s m args below meth c H locs ls A E hret w hl
  have E : Cx p R s m args meth c prog_7_method_3_code 4 "DrawingMachine$Processor" 1 D τ B A := E
  have hl : lv_has ls 4 [(0, .ref (ad 62)), (1, .int x0), (2, .int x1), (3, .int x2)] := hl
  refine lv_iload_n E.x E.b d_Pro_readSources_0 rfl (lv_at hl 1 rfl) ?_
  refine lv_iconst (v := 1) E.x E.b d_Pro_readSources_1 (by decide) ?_
  refine lv_icmp_lt (tgt := 17) E.x E.b d_Pro_readSources_2 (by decide) (fun c => ?_) (fun c => ?_)
  ·
    replace h := ifT c h
    exact bt_Pro_readSources_17 E hret o σ x0 x1 x2 h w (lv_sub hl [0, 1, 2, 3] rfl)
  ·
    replace h := ifF c h
    refine lv_aload_n E.x E.b d_Pro_readSources_5 rfl (lv_at hl 0 rfl) ?_
    refine lv_iload_n E.x E.b d_Pro_readSources_6 rfl (lv_at hl 2 rfl) ?_
    refine lv_ldc (v := 65535) E.x E.b E.o (E.w _ k1036) d_Pro_readSources_7 ?_
    refine lv_iand E.x E.b d_Pro_readSources_9 ?_
    refine lv_aload_n E.x E.b d_Pro_readSources_10 rfl (lv_at hl 0 rfl) ?_
    refine gC_Pro_a E w k240 d_Pro_readSources_11 ?_
    obtain ⟨o6, h_o6, h⟩ := bd_some h
    refine clV_Pro_readSource E w (x0 := (x1 &&& 65535)) (ar1 := 11) h_o6 k1037 (by decide) hl.1 (Nat.le_of_ble_eq_true rfl) d_Pro_readSources_14 (fun H locs w => ?_)
    exact bt_Pro_readSources_17 E hret o o6 x0 x1 x2 h w (lv_sub hl [0, 1, 2, 3] rfl)
theorem clV_Pro_readSources {p : Program} {l : Launch} {e : Env} {R : Room} {s : State} {m : MethodId} {args : Array Value} {below : List Frame} {meth : Method} {c : Code} {H : Heap} {locs : List Loc} {Q : State → Prop} {cc : ByteArray} {nL pc lev : Nat} {own : String} {D : va_G} {τ : ClassId × ClassId × ClassId} {B : Nat} {A : Nat → Prop} {σ : Sg} {ad : Nat → Nat} {ls : Array Slot} {rest : List Value} (E : Cx p R s m args meth c cc nL own lev D τ B A) (w : Wd s D A (wdC τ σ ad) H locs) {x0 : Int32} {x1 : Int32} {x2 : Int32} {o : Sg} (h : F_Pro_readSources σ x0 x1 x2 = some o) {index : Nat} (hlk : Cond.methodLink own index y_Pro_readSources ∈ tw) (hlev : 1 < lev) (hsz : ls.size = nL) (hr : (rest.map fun v => v.category).sum ≤ 8) (hd : decode cc pc = .ok (.invokevirtual index, 3)) (kk : ∀ (H1 : Heap) (locs1 : List Loc), Wd s D A (wdC τ o ad) H1 locs1 → W p l e R s m args below meth c H1 locs1 0 0 Q (F0 m (pc + 3) ls (rest))) : W p l e R s m args below meth c H locs 0 0 Q (F0 m pc ls (.int x2 :: .int x1 :: .int x0 :: .ref (ad 62) :: rest)) :=
  cr_v w E.C (va_runV (As := [.int x0, .int x1, .int x2]) (rest := rest) E.fix (c_Pro_readSources l D τ B σ ad x0 x1 x2 o h H.size) (cwV 3 E.w (tw_pre (tw_good k1035) (l := [_, _, _, _]) (List.forall_mem_cons.mpr ⟨hlk, List.forall_mem_cons.mpr ⟨k1034, List.forall_mem_cons.mpr ⟨ks12, List.forall_mem_cons.mpr ⟨k8, fun _ h => absurd h List.not_mem_nil⟩⟩⟩⟩)) rfl rfl rfl (by decide +kernel) (E.rm hlev (by decide))) (wd_preV w E.C [.int x0, .int x1, .int x2] rcC_Pro rfl) rfl rfl hsz rfl (lv_room hr) hd ⟨Nat.zero_le _, Nat.zero_le _⟩) kk

theorem d_DM_wordOf_0 : decode prog_1_method_25_code 0 = .ok (.lload_n 1, 1) := by decide +kernel
theorem d_DM_wordOf_1 : decode prog_1_method_25_code 1 = .ok (.lconst 0, 1) := by decide +kernel
theorem d_DM_wordOf_2 : decode prog_1_method_25_code 2 = .ok (.lcmp, 1) := by decide +kernel
theorem d_DM_wordOf_3 : decode prog_1_method_25_code 3 = .ok (.ifCond .lt 11, 3) := by decide +kernel
theorem d_DM_wordOf_6 : decode prog_1_method_25_code 6 = .ok (.lload_n 1, 1) := by decide +kernel
theorem d_DM_wordOf_7 : decode prog_1_method_25_code 7 = .ok (.ldc2_w 256, 3) := by decide +kernel
theorem d_DM_wordOf_10 : decode prog_1_method_25_code 10 = .ok (.lcmp, 1) := by decide +kernel
theorem d_DM_wordOf_11 : decode prog_1_method_25_code 11 = .ok (.ifCond .lt 7, 3) := by decide +kernel
theorem d_DM_wordOf_14 : decode prog_1_method_25_code 14 = .ok (.iconst 0, 1) := by decide +kernel
theorem d_DM_wordOf_15 : decode prog_1_method_25_code 15 = .ok (.goto 7, 3) := by decide +kernel
theorem d_DM_wordOf_18 : decode prog_1_method_25_code 18 = .ok (.aload_n 0, 1) := by decide +kernel
theorem d_DM_wordOf_19 : decode prog_1_method_25_code 19 = .ok (.lload_n 1, 1) := by decide +kernel
theorem d_DM_wordOf_20 : decode prog_1_method_25_code 20 = .ok (.l2i, 1) := by decide +kernel
theorem d_DM_wordOf_21 : decode prog_1_method_25_code 21 = .ok (.iaload, 1) := by decide +kernel
theorem d_DM_wordOf_22 : decode prog_1_method_25_code 22 = .ok (.ireturn, 1) := by decide +kernel
def F_DM_wordOf_22 (σ : Sg) (s0 : Int32) : Option (Int32) := some s0
set_option maxRecDepth 10000 in
set_option maxHeartbeats 4000000 in
theorem bt_DM_wordOf_22 {p : Program} {l : Launch} {e : Env} {R : Room} {s : State} {m : MethodId} {args : Array Value} {below : List Frame} {meth : Method} {c : Code} {D : va_G} {τ : ClassId × ClassId × ClassId} {B : Nat} {A : Nat → Prop} {ad : Nat → Nat} (E : Cx p R s m args meth c prog_1_method_25_code 3 "DrawingMachine" 0 D τ B A) (hret : meth.sig.returnType = (some .int)) (o : Int32) (σ : Sg) (s0 : Int32) (h : F_DM_wordOf_22 σ s0 = some o) {H : Heap} {locs : List Loc} {ls : Array Slot} (w : Wd s D A (wdC τ σ ad) H locs) (hl : lv_has ls 3 []) : W p l e R s m args below meth c H locs 0 0 (QI below args s A D τ (wdC τ σ ad) o) (F0 m 22 ls [.int s0]) := by
  obtain rfl := Option.some.inj h
  exact rt_i E w hret d_DM_wordOf_22
def F_DM_wordOf_14 (σ : Sg) : Option (Int32) := F_DM_wordOf_22 σ 0
set_option maxRecDepth 10000 in
set_option maxHeartbeats 4000000 in
theorem bt_DM_wordOf_14 {p : Program} {l : Launch} {e : Env} {R : Room} {s : State} {m : MethodId} {args : Array Value} {below : List Frame} {meth : Method} {c : Code} {D : va_G} {τ : ClassId × ClassId × ClassId} {B : Nat} {A : Nat → Prop} {ad : Nat → Nat} (E : Cx p R s m args meth c prog_1_method_25_code 3 "DrawingMachine" 0 D τ B A) (hret : meth.sig.returnType = (some .int)) (o : Int32) (σ : Sg) (h : F_DM_wordOf_14 σ = some o) {H : Heap} {locs : List Loc} {ls : Array Slot} (w : Wd s D A (wdC τ σ ad) H locs) (hl : lv_has ls 3 []) : W p l e R s m args below meth c H locs 0 0 (QI below args s A D τ (wdC τ σ ad) o) (F0 m 14 ls []) := by
  refine lv_iconst (v := 0) E.x E.b d_DM_wordOf_14 (by decide) ?_
  refine lv_goto (tgt := 22) E.x E.b d_DM_wordOf_15 (by decide) ?_
  exact bt_DM_wordOf_22 E hret o σ 0 h w (lv_sub hl [] rfl)
def F_DM_wordOf (σ : Sg) (ar0 : Nat) (x1 : Int64) : Option (Int32) := ck (ar0 < 47) (if x1 < 0 then (F_DM_wordOf_14 σ) else (if x1 < 4096 then (ck (inb x1.toInt32 (lenC σ ar0)) (F_DM_wordOf_22 σ (σ.2.2.1 ar0 x1.toInt32.toNatClampNeg))) else (F_DM_wordOf_14 σ)))
set_option maxRecDepth 10000 in
set_option maxHeartbeats 4000000 in
theorem c_DM_wordOf (l : Launch) (D : va_G) (τ : ClassId × ClassId × ClassId) (B : Nat) (σ : Sg) (ad : Nat → Nat) (ar0 : Nat) (x1 : Int64) (o : Int32) (h : F_DM_wordOf σ ar0 x1 = some o) : MI l y_DM_wordOf (Cond.code y_DM_wordOf prog_1_method_25_code 3 (some .int)) 0 D τ B [.ref (ad ar0), .long x1] (wdC τ σ ad) (wdC τ σ ad) o := by
  refine en_i (by decide) (Nat.le_of_ble_eq_true rfl) ?_
  intro p e R s m args below meth c H locs ls A E hret w hl
  have E : Cx p R s m args meth c prog_1_method_25_code 3 "DrawingMachine" 0 D τ B A := E
  have hl : lv_has ls 3 [(0, .ref (ad ar0)), (1, .long x1)] := hl
  obtain ⟨c2, h⟩ := ck_some h
  refine lv_lload_n E.x E.b d_DM_wordOf_0 rfl (lv_at hl 1 rfl) ?_
  refine lv_lconst (v := 0) E.x E.b d_DM_wordOf_1 (by decide) ?_
  refine W.lcmp E.x E.b d_DM_wordOf_2 ?_
  refine lv_if_lt (tgt := 14) E.x E.b d_DM_wordOf_3 (by decide) (fun c => ?_) (fun c => ?_)
  ·
    replace h := ifT (lgc_lt.mp c) h
    exact bt_DM_wordOf_14 E hret o σ h w (lv_sub hl [] rfl)
  ·
    replace h := ifF (fun h9 => c (lgc_lt.mpr h9)) h
    refine lv_lload_n E.x E.b d_DM_wordOf_6 rfl (lv_at hl 1 rfl) ?_
    refine lv_ldc2 (v := 4096) E.x E.b E.o (E.w _ k1005) d_DM_wordOf_7 ?_
    refine W.lcmp E.x E.b d_DM_wordOf_10 ?_
    refine lv_if_lt (tgt := 18) E.x E.b d_DM_wordOf_11 (by decide) (fun c => ?_) (fun c => ?_)
    ·
      replace h := ifT (lgc_lt.mp c) h
      refine lv_aload_n E.x E.b d_DM_wordOf_18 rfl (lv_at hl 0 rfl) ?_
      refine lv_lload_n E.x E.b d_DM_wordOf_19 rfl (lv_at hl 1 rfl) ?_
      refine lv_l2i (v := x1.toInt32) E.x E.b d_DM_wordOf_20 rfl ?_
      obtain ⟨c3, h⟩ := ck_some h
      refine ialC E w (k := ar0) c2 c3 d_DM_wordOf_21 ?_
      exact bt_DM_wordOf_22 E hret o σ (σ.2.2.1 ar0 x1.toInt32.toNatClampNeg) h w (lv_sub hl [] rfl)
    ·
      replace h := ifF (fun h9 => c (lgc_lt.mpr h9)) h
      exact bt_DM_wordOf_14 E hret o σ h w (lv_sub hl [] rfl)
theorem clSN_DM_wordOf {p : Program} {l : Launch} {e : Env} {R : Room} {s : State} {m : MethodId} {args : Array Value} {below : List Frame} {meth : Method} {c : Code} {H : Heap} {locs : List Loc} {Q : State → Prop} {cc : ByteArray} {nL pc lev : Nat} {own : String} {D : va_G} {τ : ClassId × ClassId × ClassId} {B : Nat} {A : Nat → Prop} {σ : Sg} {ad : Nat → Nat} {ls : Array Slot} {rest : List Value} (E : Cx p R s m args meth c cc nL own lev D τ B A) (w : Wd s D A (wdC τ σ ad) H locs) {ar0 : Nat} {x1 : Int64} {o : Int32} (h : F_DM_wordOf σ ar0 x1 = some o) {index : Nat} {host : String} (hlk : Cond.methodLinkNest own index y_DM_wordOf host ∈ nw) (hlev : 0 < lev) (hsz : ls.size = nL) (hr : (rest.map fun v => v.category).sum ≤ 8) (hd : decode cc pc = .ok (.invokestatic index, 3)) (kk : ∀ (H1 : Heap) (locs1 : List Loc), Wd s D A (wdC τ σ ad) H1 locs1 → W p l e R s m args below meth c H1 locs1 0 0 Q (F0 m (pc + 3) ls (.int o :: rest))) : W p l e R s m args below meth c H locs 0 0 Q (F0 m pc ls (.long x1 :: .ref (ad ar0) :: rest)) :=
  cr_i w E.C (va_runSN (As := [.ref (ad ar0), .long x1]) (rest := rest) E.fix (c_DM_wordOf l D τ B σ ad ar0 x1 o h H.size) ⟨va_cnB 2 E.w (tw_good k1004) rfl rfl rfl (E.C.2.1.1 _ hlk) (E.w _ k1) (by decide +kernel) (E.rm hlev (by decide)), E.w _ k1003, trivial⟩ (wd_pre w E.C [.ref (ad ar0), .long x1]) rfl rfl hsz rfl (lv_room hr) hd ⟨Nat.zero_le _, Nat.zero_le _⟩) kk

theorem d_Pro_product_0 : decode prog_7_method_12_code 0 = .ok (.iload_n 0, 1) := by decide +kernel
theorem d_Pro_product_1 : decode prog_7_method_12_code 1 = .ok (.i2l, 1) := by decide +kernel
theorem d_Pro_product_2 : decode prog_7_method_12_code 2 = .ok (.iload_n 1, 1) := by decide +kernel
theorem d_Pro_product_3 : decode prog_7_method_12_code 3 = .ok (.i2l, 1) := by decide +kernel
theorem d_Pro_product_4 : decode prog_7_method_12_code 4 = .ok (.lmul, 1) := by decide +kernel
theorem d_Pro_product_5 : decode prog_7_method_12_code 5 = .ok (.bipush 16, 2) := by decide +kernel
theorem d_Pro_product_7 : decode prog_7_method_12_code 7 = .ok (.lshr, 1) := by decide +kernel
theorem d_Pro_product_8 : decode prog_7_method_12_code 8 = .ok (.l2i, 1) := by decide +kernel
theorem d_Pro_product_9 : decode prog_7_method_12_code 9 = .ok (.ireturn, 1) := by decide +kernel
def F_Pro_product  (x0 : Int32) (x1 : Int32) : Option (Int32) := some ((lshr (x0.toInt64 * x1.toInt64) 16).toInt32)
set_option maxRecDepth 10000 in
set_option maxHeartbeats 4000000 in
theorem c_Pro_product (l : Launch) (D : va_G) (τ : ClassId × ClassId × ClassId) (B : Nat) (σ0 : Sg) (ad : Nat → Nat) (x0 : Int32) (x1 : Int32) (o : Int32) (h : F_Pro_product x0 x1 = some o) : MI l y_Pro_product (Cond.code y_Pro_product prog_7_method_12_code 2 (some .int)) 0 D τ B [.int x0, .int x1] (wdC τ σ0 ad) (wdC τ σ0 ad) o := by
  refine en_i (by decide) (Nat.le_of_ble_eq_true rfl) ?_
  intro p e R s m args below meth c H locs ls A E hret w hl
  have E : Cx p R s m args meth c prog_7_method_12_code 2 "DrawingMachine$Processor" 0 D τ B A := E
  have hl : lv_has ls 2 [(0, .int x0), (1, .int x1)] := hl
  refine lv_iload_n E.x E.b d_Pro_product_0 rfl (lv_at hl 0 rfl) ?_
  refine lv_i2l (v := x0.toInt64) E.x E.b d_Pro_product_1 rfl ?_
  refine lv_iload_n E.x E.b d_Pro_product_2 rfl (lv_at hl 1 rfl) ?_
  refine lv_i2l (v := x1.toInt64) E.x E.b d_Pro_product_3 rfl ?_
  refine lv_lmul E.x E.b d_Pro_product_4 ?_
  refine lv_bipush (v := 16) E.x E.b d_Pro_product_5 (by decide) ?_
  refine lv_lshr (v := lshr (x0.toInt64 * x1.toInt64) 16) E.x E.b d_Pro_product_7 rfl ?_
  refine lv_l2i (v := (lshr (x0.toInt64 * x1.toInt64) 16).toInt32) E.x E.b d_Pro_product_8 rfl ?_
  obtain rfl := Option.some.inj h
  exact rt_i E w hret d_Pro_product_9
theorem clS_Pro_product {p : Program} {l : Launch} {e : Env} {R : Room} {s : State} {m : MethodId} {args : Array Value} {below : List Frame} {meth : Method} {c : Code} {H : Heap} {locs : List Loc} {Q : State → Prop} {cc : ByteArray} {nL pc lev : Nat} {own : String} {D : va_G} {τ : ClassId × ClassId × ClassId} {B : Nat} {A : Nat → Prop} {σ : Sg} {ad : Nat → Nat} {ls : Array Slot} {rest : List Value} (E : Cx p R s m args meth c cc nL own lev D τ B A) (w : Wd s D A (wdC τ σ ad) H locs) {x0 : Int32} {x1 : Int32} {o : Int32} (h : F_Pro_product x0 x1 = some o) {index : Nat} (hlk : Cond.methodLink own index y_Pro_product ∈ tw) (hlev : 0 < lev) (hsz : ls.size = nL) (hr : (rest.map fun v => v.category).sum ≤ 8) (hd : decode cc pc = .ok (.invokestatic index, 3)) (kk : ∀ (H1 : Heap) (locs1 : List Loc), Wd s D A (wdC τ σ ad) H1 locs1 → W p l e R s m args below meth c H1 locs1 0 0 Q (F0 m (pc + 3) ls (.int o :: rest))) : W p l e R s m args below meth c H locs 0 0 Q (F0 m pc ls (.int x1 :: .int x0 :: rest)) :=
  cr_i w E.C (va_runS (As := [.int x0, .int x1]) (rest := rest) E.fix (c_Pro_product l D τ B σ ad x0 x1 o h H.size) (va_cwS 2 E.w (tw_pre (tw_good k1097) (l := [_, _, _]) (List.forall_mem_cons.mpr ⟨hlk, List.forall_mem_cons.mpr ⟨k1096, List.forall_mem_cons.mpr ⟨k8, fun _ h => absurd h List.not_mem_nil⟩⟩⟩)) rfl rfl rfl (by decide +kernel) (E.rm hlev (by decide))) (wd_pre w E.C [.int x0, .int x1]) rfl rfl hsz rfl (lv_room hr) hd ⟨Nat.zero_le _, Nat.zero_le _⟩) kk

theorem d_Pro_crossProduct_0 : decode prog_7_method_9_code 0 = .ok (.aload_n 0, 1) := by decide +kernel
theorem d_Pro_crossProduct_1 : decode prog_7_method_9_code 1 = .ok (.getfield 24, 3) := by decide +kernel
theorem d_Pro_crossProduct_4 : decode prog_7_method_9_code 4 = .ok (.iconst 0, 1) := by decide +kernel
theorem d_Pro_crossProduct_5 : decode prog_7_method_9_code 5 = .ok (.aload_n 0, 1) := by decide +kernel
theorem d_Pro_crossProduct_6 : decode prog_7_method_9_code 6 = .ok (.getfield 15, 3) := by decide +kernel
theorem d_Pro_crossProduct_9 : decode prog_7_method_9_code 9 = .ok (.iconst 1, 1) := by decide +kernel
theorem d_Pro_crossProduct_10 : decode prog_7_method_9_code 10 = .ok (.iaload, 1) := by decide +kernel
theorem d_Pro_crossProduct_11 : decode prog_7_method_9_code 11 = .ok (.aload_n 0, 1) := by decide +kernel
theorem d_Pro_crossProduct_12 : decode prog_7_method_9_code 12 = .ok (.getfield 18, 3) := by decide +kernel
theorem d_Pro_crossProduct_15 : decode prog_7_method_9_code 15 = .ok (.iconst 2, 1) := by decide +kernel
theorem d_Pro_crossProduct_16 : decode prog_7_method_9_code 16 = .ok (.iaload, 1) := by decide +kernel
theorem d_Pro_crossProduct_17 : decode prog_7_method_9_code 17 = .ok (.invokestatic 127, 3) := by decide +kernel
theorem d_Pro_crossProduct_20 : decode prog_7_method_9_code 20 = .ok (.aload_n 0, 1) := by decide +kernel
theorem d_Pro_crossProduct_21 : decode prog_7_method_9_code 21 = .ok (.getfield 15, 3) := by decide +kernel
theorem d_Pro_crossProduct_24 : decode prog_7_method_9_code 24 = .ok (.iconst 2, 1) := by decide +kernel
theorem d_Pro_crossProduct_25 : decode prog_7_method_9_code 25 = .ok (.iaload, 1) := by decide +kernel
theorem d_Pro_crossProduct_26 : decode prog_7_method_9_code 26 = .ok (.aload_n 0, 1) := by decide +kernel
theorem d_Pro_crossProduct_27 : decode prog_7_method_9_code 27 = .ok (.getfield 18, 3) := by decide +kernel
theorem d_Pro_crossProduct_30 : decode prog_7_method_9_code 30 = .ok (.iconst 1, 1) := by decide +kernel
theorem d_Pro_crossProduct_31 : decode prog_7_method_9_code 31 = .ok (.iaload, 1) := by decide +kernel
theorem d_Pro_crossProduct_32 : decode prog_7_method_9_code 32 = .ok (.invokestatic 127, 3) := by decide +kernel
theorem d_Pro_crossProduct_35 : decode prog_7_method_9_code 35 = .ok (.isub, 1) := by decide +kernel
theorem d_Pro_crossProduct_36 : decode prog_7_method_9_code 36 = .ok (.iastore, 1) := by decide +kernel
theorem d_Pro_crossProduct_37 : decode prog_7_method_9_code 37 = .ok (.aload_n 0, 1) := by decide +kernel
theorem d_Pro_crossProduct_38 : decode prog_7_method_9_code 38 = .ok (.getfield 24, 3) := by decide +kernel
theorem d_Pro_crossProduct_41 : decode prog_7_method_9_code 41 = .ok (.iconst 1, 1) := by decide +kernel
theorem d_Pro_crossProduct_42 : decode prog_7_method_9_code 42 = .ok (.aload_n 0, 1) := by decide +kernel
theorem d_Pro_crossProduct_43 : decode prog_7_method_9_code 43 = .ok (.getfield 15, 3) := by decide +kernel
theorem d_Pro_crossProduct_46 : decode prog_7_method_9_code 46 = .ok (.iconst 2, 1) := by decide +kernel
theorem d_Pro_crossProduct_47 : decode prog_7_method_9_code 47 = .ok (.iaload, 1) := by decide +kernel
theorem d_Pro_crossProduct_48 : decode prog_7_method_9_code 48 = .ok (.aload_n 0, 1) := by decide +kernel
theorem d_Pro_crossProduct_49 : decode prog_7_method_9_code 49 = .ok (.getfield 18, 3) := by decide +kernel
theorem d_Pro_crossProduct_52 : decode prog_7_method_9_code 52 = .ok (.iconst 0, 1) := by decide +kernel
theorem d_Pro_crossProduct_53 : decode prog_7_method_9_code 53 = .ok (.iaload, 1) := by decide +kernel
theorem d_Pro_crossProduct_54 : decode prog_7_method_9_code 54 = .ok (.invokestatic 127, 3) := by decide +kernel
theorem d_Pro_crossProduct_57 : decode prog_7_method_9_code 57 = .ok (.aload_n 0, 1) := by decide +kernel
theorem d_Pro_crossProduct_58 : decode prog_7_method_9_code 58 = .ok (.getfield 15, 3) := by decide +kernel
theorem d_Pro_crossProduct_61 : decode prog_7_method_9_code 61 = .ok (.iconst 0, 1) := by decide +kernel
theorem d_Pro_crossProduct_62 : decode prog_7_method_9_code 62 = .ok (.iaload, 1) := by decide +kernel
theorem d_Pro_crossProduct_63 : decode prog_7_method_9_code 63 = .ok (.aload_n 0, 1) := by decide +kernel
theorem d_Pro_crossProduct_64 : decode prog_7_method_9_code 64 = .ok (.getfield 18, 3) := by decide +kernel
theorem d_Pro_crossProduct_67 : decode prog_7_method_9_code 67 = .ok (.iconst 2, 1) := by decide +kernel
theorem d_Pro_crossProduct_68 : decode prog_7_method_9_code 68 = .ok (.iaload, 1) := by decide +kernel
theorem d_Pro_crossProduct_69 : decode prog_7_method_9_code 69 = .ok (.invokestatic 127, 3) := by decide +kernel
theorem d_Pro_crossProduct_72 : decode prog_7_method_9_code 72 = .ok (.isub, 1) := by decide +kernel
theorem d_Pro_crossProduct_73 : decode prog_7_method_9_code 73 = .ok (.iastore, 1) := by decide +kernel
theorem d_Pro_crossProduct_74 : decode prog_7_method_9_code 74 = .ok (.aload_n 0, 1) := by decide +kernel
theorem d_Pro_crossProduct_75 : decode prog_7_method_9_code 75 = .ok (.getfield 24, 3) := by decide +kernel
theorem d_Pro_crossProduct_78 : decode prog_7_method_9_code 78 = .ok (.iconst 2, 1) := by decide +kernel
theorem d_Pro_crossProduct_79 : decode prog_7_method_9_code 79 = .ok (.aload_n 0, 1) := by decide +kernel
theorem d_Pro_crossProduct_80 : decode prog_7_method_9_code 80 = .ok (.getfield 15, 3) := by decide +kernel
theorem d_Pro_crossProduct_83 : decode prog_7_method_9_code 83 = .ok (.iconst 0, 1) := by decide +kernel
theorem d_Pro_crossProduct_84 : decode prog_7_method_9_code 84 = .ok (.iaload, 1) := by decide +kernel
theorem d_Pro_crossProduct_85 : decode prog_7_method_9_code 85 = .ok (.aload_n 0, 1) := by decide +kernel
theorem d_Pro_crossProduct_86 : decode prog_7_method_9_code 86 = .ok (.getfield 18, 3) := by decide +kernel
theorem d_Pro_crossProduct_89 : decode prog_7_method_9_code 89 = .ok (.iconst 1, 1) := by decide +kernel
theorem d_Pro_crossProduct_90 : decode prog_7_method_9_code 90 = .ok (.iaload, 1) := by decide +kernel
theorem d_Pro_crossProduct_91 : decode prog_7_method_9_code 91 = .ok (.invokestatic 127, 3) := by decide +kernel
theorem d_Pro_crossProduct_94 : decode prog_7_method_9_code 94 = .ok (.aload_n 0, 1) := by decide +kernel
theorem d_Pro_crossProduct_95 : decode prog_7_method_9_code 95 = .ok (.getfield 15, 3) := by decide +kernel
theorem d_Pro_crossProduct_98 : decode prog_7_method_9_code 98 = .ok (.iconst 1, 1) := by decide +kernel
theorem d_Pro_crossProduct_99 : decode prog_7_method_9_code 99 = .ok (.iaload, 1) := by decide +kernel
theorem d_Pro_crossProduct_100 : decode prog_7_method_9_code 100 = .ok (.aload_n 0, 1) := by decide +kernel
theorem d_Pro_crossProduct_101 : decode prog_7_method_9_code 101 = .ok (.getfield 18, 3) := by decide +kernel
theorem d_Pro_crossProduct_104 : decode prog_7_method_9_code 104 = .ok (.iconst 0, 1) := by decide +kernel
theorem d_Pro_crossProduct_105 : decode prog_7_method_9_code 105 = .ok (.iaload, 1) := by decide +kernel
theorem d_Pro_crossProduct_106 : decode prog_7_method_9_code 106 = .ok (.invokestatic 127, 3) := by decide +kernel
theorem d_Pro_crossProduct_109 : decode prog_7_method_9_code 109 = .ok (.isub, 1) := by decide +kernel
theorem d_Pro_crossProduct_110 : decode prog_7_method_9_code 110 = .ok (.iastore, 1) := by decide +kernel
theorem d_Pro_crossProduct_111 : decode prog_7_method_9_code 111 = .ok (.aload_n 0, 1) := by decide +kernel
theorem d_Pro_crossProduct_112 : decode prog_7_method_9_code 112 = .ok (.getfield 24, 3) := by decide +kernel
theorem d_Pro_crossProduct_115 : decode prog_7_method_9_code 115 = .ok (.iconst 3, 1) := by decide +kernel
theorem d_Pro_crossProduct_116 : decode prog_7_method_9_code 116 = .ok (.iconst 0, 1) := by decide +kernel
theorem d_Pro_crossProduct_117 : decode prog_7_method_9_code 117 = .ok (.iastore, 1) := by decide +kernel
theorem d_Pro_crossProduct_118 : decode prog_7_method_9_code 118 = .ok (.return_, 1) := by decide +kernel
def F_Pro_crossProduct (σ : Sg) : Option (Sg) := bd (F_Pro_product (σ.2.2.1 11 1) (σ.2.2.1 12 2)) (fun o11 => bd (F_Pro_product (σ.2.2.1 11 2) (σ.2.2.1 12 1)) (fun o12 => lt (sA σ 14 (upd (σ.2.2.1 14) 0 (o11 - o12))) (fun σ13 => bd (F_Pro_product (σ13.2.2.1 11 2) (σ13.2.2.1 12 0)) (fun o14 => bd (F_Pro_product (σ13.2.2.1 11 0) (σ13.2.2.1 12 2)) (fun o15 => lt (sA σ13 14 (upd (σ13.2.2.1 14) 1 (o14 - o15))) (fun σ16 => bd (F_Pro_product (σ16.2.2.1 11 0) (σ16.2.2.1 12 1)) (fun o17 => bd (F_Pro_product (σ16.2.2.1 11 1) (σ16.2.2.1 12 0)) (fun o18 => lt (sA σ16 14 (upd (σ16.2.2.1 14) 2 (o17 - o18))) (fun σ19 => lt (sA σ19 14 (upd (σ19.2.2.1 14) 3 0)) (fun σ20 => some σ20))))))))))
set_option maxRecDepth 10000 in
set_option maxHeartbeats 4000000 in
theorem c_Pro_crossProduct (l : Launch) (D : va_G) (τ : ClassId × ClassId × ClassId) (B : Nat) (σ : Sg) (ad : Nat → Nat) (o : Sg) (h : F_Pro_crossProduct σ = some o) : MV l y_Pro_crossProduct (Cond.code y_Pro_crossProduct prog_7_method_9_code 1 none) 1 D τ B [.ref (ad 62)] (wdC τ σ ad) (wdC τ o ad) := by
  refine en_v (by decide) (Nat.le_of_ble_eq_true rfl) ?_
  intro p e R s m args below meth c H locs ls A E hret w hl
  have E : Cx p R s m args meth c prog_7_method_9_code 1 "DrawingMachine$Processor" 1 D τ B A := E
  have hl : lv_has ls 1 [(0, .ref (ad 62))] := hl
  refine lv_aload_n E.x E.b d_Pro_crossProduct_0 rfl (lv_at hl 0 rfl) ?_
  refine gC_Pro_result E w k243 d_Pro_crossProduct_1 ?_
  refine lv_iconst (v := 0) E.x E.b d_Pro_crossProduct_4 (by decide) ?_
  refine lv_aload_n E.x E.b d_Pro_crossProduct_5 rfl (lv_at hl 0 rfl) ?_
  refine gC_Pro_a E w k240 d_Pro_crossProduct_6 ?_
  refine lv_iconst (v := 1) E.x E.b d_Pro_crossProduct_9 (by decide) ?_
  refine ialC E w (k := 11) (by decide) (show inb 1 4 by decide) d_Pro_crossProduct_10 ?_
  refine wi_e (v := σ.2.2.1 11 1) rfl ?_
  refine lv_aload_n E.x E.b d_Pro_crossProduct_11 rfl (lv_at hl 0 rfl) ?_
  refine gC_Pro_b E w k241 d_Pro_crossProduct_12 ?_
  refine lv_iconst (v := 2) E.x E.b d_Pro_crossProduct_15 (by decide) ?_
  refine ialC E w (k := 12) (by decide) (show inb 2 4 by decide) d_Pro_crossProduct_16 ?_
  refine wi_e (v := σ.2.2.1 12 2) rfl ?_
  obtain ⟨o11, h_o11, h⟩ := bd_some h
  refine clS_Pro_product E w (x0 := (σ.2.2.1 11 1)) (x1 := (σ.2.2.1 12 2)) h_o11 k1095 (by decide) hl.1 (Nat.le_of_ble_eq_true rfl) d_Pro_crossProduct_17 (fun H locs w => ?_)
  refine lv_aload_n E.x E.b d_Pro_crossProduct_20 rfl (lv_at hl 0 rfl) ?_
  refine gC_Pro_a E w k240 d_Pro_crossProduct_21 ?_
  refine lv_iconst (v := 2) E.x E.b d_Pro_crossProduct_24 (by decide) ?_
  refine ialC E w (k := 11) (by decide) (show inb 2 4 by decide) d_Pro_crossProduct_25 ?_
  refine wi_e (v := σ.2.2.1 11 2) rfl ?_
  refine lv_aload_n E.x E.b d_Pro_crossProduct_26 rfl (lv_at hl 0 rfl) ?_
  refine gC_Pro_b E w k241 d_Pro_crossProduct_27 ?_
  refine lv_iconst (v := 1) E.x E.b d_Pro_crossProduct_30 (by decide) ?_
  refine ialC E w (k := 12) (by decide) (show inb 1 4 by decide) d_Pro_crossProduct_31 ?_
  refine wi_e (v := σ.2.2.1 12 1) rfl ?_
  obtain ⟨o12, h_o12, h⟩ := bd_some h
  refine clS_Pro_product E w (x0 := (σ.2.2.1 11 2)) (x1 := (σ.2.2.1 12 1)) h_o12 k1095 (by decide) hl.1 (Nat.le_of_ble_eq_true rfl) d_Pro_crossProduct_32 (fun H locs w => ?_)
  refine lv_isub E.x E.b d_Pro_crossProduct_35 ?_
  obtain ⟨σ13, e_σ13, h⟩ := lt_some h
  refine iasC E w (k := 14) (by decide) (show inb 0 4 by decide) e_σ13 d_Pro_crossProduct_36 (fun H locs w => ?_)
  refine lv_aload_n E.x E.b d_Pro_crossProduct_37 rfl (lv_at hl 0 rfl) ?_
  refine gC_Pro_result E w k243 d_Pro_crossProduct_38 ?_
  refine lv_iconst (v := 1) E.x E.b d_Pro_crossProduct_41 (by decide) ?_
  refine lv_aload_n E.x E.b d_Pro_crossProduct_42 rfl (lv_at hl 0 rfl) ?_
  refine gC_Pro_a E w k240 d_Pro_crossProduct_43 ?_
  refine lv_iconst (v := 2) E.x E.b d_Pro_crossProduct_46 (by decide) ?_
  refine ialC E w (k := 11) (by decide) (show inb 2 4 by decide) d_Pro_crossProduct_47 ?_
  refine wi_e (v := σ13.2.2.1 11 2) rfl ?_
  refine lv_aload_n E.x E.b d_Pro_crossProduct_48 rfl (lv_at hl 0 rfl) ?_
  refine gC_Pro_b E w k241 d_Pro_crossProduct_49 ?_
  refine lv_iconst (v := 0) E.x E.b d_Pro_crossProduct_52 (by decide) ?_
  refine ialC E w (k := 12) (by decide) (show inb 0 4 by decide) d_Pro_crossProduct_53 ?_
  refine wi_e (v := σ13.2.2.1 12 0) rfl ?_
  obtain ⟨o14, h_o14, h⟩ := bd_some h
  refine clS_Pro_product E w (x0 := (σ13.2.2.1 11 2)) (x1 := (σ13.2.2.1 12 0)) h_o14 k1095 (by decide) hl.1 (Nat.le_of_ble_eq_true rfl) d_Pro_crossProduct_54 (fun H locs w => ?_)
  refine lv_aload_n E.x E.b d_Pro_crossProduct_57 rfl (lv_at hl 0 rfl) ?_
  refine gC_Pro_a E w k240 d_Pro_crossProduct_58 ?_
  refine lv_iconst (v := 0) E.x E.b d_Pro_crossProduct_61 (by decide) ?_
  refine ialC E w (k := 11) (by decide) (show inb 0 4 by decide) d_Pro_crossProduct_62 ?_
  refine wi_e (v := σ13.2.2.1 11 0) rfl ?_
  refine lv_aload_n E.x E.b d_Pro_crossProduct_63 rfl (lv_at hl 0 rfl) ?_
  refine gC_Pro_b E w k241 d_Pro_crossProduct_64 ?_
  refine lv_iconst (v := 2) E.x E.b d_Pro_crossProduct_67 (by decide) ?_
  refine ialC E w (k := 12) (by decide) (show inb 2 4 by decide) d_Pro_crossProduct_68 ?_
  refine wi_e (v := σ13.2.2.1 12 2) rfl ?_
  obtain ⟨o15, h_o15, h⟩ := bd_some h
  refine clS_Pro_product E w (x0 := (σ13.2.2.1 11 0)) (x1 := (σ13.2.2.1 12 2)) h_o15 k1095 (by decide) hl.1 (Nat.le_of_ble_eq_true rfl) d_Pro_crossProduct_69 (fun H locs w => ?_)
  refine lv_isub E.x E.b d_Pro_crossProduct_72 ?_
  obtain ⟨σ16, e_σ16, h⟩ := lt_some h
  refine iasC E w (k := 14) (by decide) (show inb 1 4 by decide) e_σ16 d_Pro_crossProduct_73 (fun H locs w => ?_)
  refine lv_aload_n E.x E.b d_Pro_crossProduct_74 rfl (lv_at hl 0 rfl) ?_
  refine gC_Pro_result E w k243 d_Pro_crossProduct_75 ?_
  refine lv_iconst (v := 2) E.x E.b d_Pro_crossProduct_78 (by decide) ?_
  refine lv_aload_n E.x E.b d_Pro_crossProduct_79 rfl (lv_at hl 0 rfl) ?_
  refine gC_Pro_a E w k240 d_Pro_crossProduct_80 ?_
  refine lv_iconst (v := 0) E.x E.b d_Pro_crossProduct_83 (by decide) ?_
  refine ialC E w (k := 11) (by decide) (show inb 0 4 by decide) d_Pro_crossProduct_84 ?_
  refine wi_e (v := σ16.2.2.1 11 0) rfl ?_
  refine lv_aload_n E.x E.b d_Pro_crossProduct_85 rfl (lv_at hl 0 rfl) ?_
  refine gC_Pro_b E w k241 d_Pro_crossProduct_86 ?_
  refine lv_iconst (v := 1) E.x E.b d_Pro_crossProduct_89 (by decide) ?_
  refine ialC E w (k := 12) (by decide) (show inb 1 4 by decide) d_Pro_crossProduct_90 ?_
  refine wi_e (v := σ16.2.2.1 12 1) rfl ?_
  obtain ⟨o17, h_o17, h⟩ := bd_some h
  refine clS_Pro_product E w (x0 := (σ16.2.2.1 11 0)) (x1 := (σ16.2.2.1 12 1)) h_o17 k1095 (by decide) hl.1 (Nat.le_of_ble_eq_true rfl) d_Pro_crossProduct_91 (fun H locs w => ?_)
  refine lv_aload_n E.x E.b d_Pro_crossProduct_94 rfl (lv_at hl 0 rfl) ?_
  refine gC_Pro_a E w k240 d_Pro_crossProduct_95 ?_
  refine lv_iconst (v := 1) E.x E.b d_Pro_crossProduct_98 (by decide) ?_
  refine ialC E w (k := 11) (by decide) (show inb 1 4 by decide) d_Pro_crossProduct_99 ?_
  refine wi_e (v := σ16.2.2.1 11 1) rfl ?_
  refine lv_aload_n E.x E.b d_Pro_crossProduct_100 rfl (lv_at hl 0 rfl) ?_
  refine gC_Pro_b E w k241 d_Pro_crossProduct_101 ?_
  refine lv_iconst (v := 0) E.x E.b d_Pro_crossProduct_104 (by decide) ?_
  refine ialC E w (k := 12) (by decide) (show inb 0 4 by decide) d_Pro_crossProduct_105 ?_
  refine wi_e (v := σ16.2.2.1 12 0) rfl ?_
  obtain ⟨o18, h_o18, h⟩ := bd_some h
  refine clS_Pro_product E w (x0 := (σ16.2.2.1 11 1)) (x1 := (σ16.2.2.1 12 0)) h_o18 k1095 (by decide) hl.1 (Nat.le_of_ble_eq_true rfl) d_Pro_crossProduct_106 (fun H locs w => ?_)
  refine lv_isub E.x E.b d_Pro_crossProduct_109 ?_
  obtain ⟨σ19, e_σ19, h⟩ := lt_some h
  refine iasC E w (k := 14) (by decide) (show inb 2 4 by decide) e_σ19 d_Pro_crossProduct_110 (fun H locs w => ?_)
  refine lv_aload_n E.x E.b d_Pro_crossProduct_111 rfl (lv_at hl 0 rfl) ?_
  refine gC_Pro_result E w k243 d_Pro_crossProduct_112 ?_
  refine lv_iconst (v := 3) E.x E.b d_Pro_crossProduct_115 (by decide) ?_
  refine lv_iconst (v := 0) E.x E.b d_Pro_crossProduct_116 (by decide) ?_
  obtain ⟨σ20, e_σ20, h⟩ := lt_some h
  refine iasC E w (k := 14) (by decide) (show inb 3 4 by decide) e_σ20 d_Pro_crossProduct_117 (fun H locs w => ?_)
  obtain rfl := Option.some.inj h
  exact rt_v E w hret d_Pro_crossProduct_118
theorem clV_Pro_crossProduct {p : Program} {l : Launch} {e : Env} {R : Room} {s : State} {m : MethodId} {args : Array Value} {below : List Frame} {meth : Method} {c : Code} {H : Heap} {locs : List Loc} {Q : State → Prop} {cc : ByteArray} {nL pc lev : Nat} {own : String} {D : va_G} {τ : ClassId × ClassId × ClassId} {B : Nat} {A : Nat → Prop} {σ : Sg} {ad : Nat → Nat} {ls : Array Slot} {rest : List Value} (E : Cx p R s m args meth c cc nL own lev D τ B A) (w : Wd s D A (wdC τ σ ad) H locs) {o : Sg} (h : F_Pro_crossProduct σ = some o) {index : Nat} (hlk : Cond.methodLink own index y_Pro_crossProduct ∈ tw) (hlev : 1 < lev) (hsz : ls.size = nL) (hr : (rest.map fun v => v.category).sum ≤ 8) (hd : decode cc pc = .ok (.invokevirtual index, 3)) (kk : ∀ (H1 : Heap) (locs1 : List Loc), Wd s D A (wdC τ o ad) H1 locs1 → W p l e R s m args below meth c H1 locs1 0 0 Q (F0 m (pc + 3) ls (rest))) : W p l e R s m args below meth c H locs 0 0 Q (F0 m pc ls (.ref (ad 62) :: rest)) :=
  cr_v w E.C (va_runV (As := []) (rest := rest) E.fix (c_Pro_crossProduct l D τ B σ ad o h H.size) (cwV 0 E.w (tw_pre (tw_good k1120) (l := [_, _, _, _]) (List.forall_mem_cons.mpr ⟨hlk, List.forall_mem_cons.mpr ⟨k1119, List.forall_mem_cons.mpr ⟨ks20, List.forall_mem_cons.mpr ⟨k8, fun _ h => absurd h List.not_mem_nil⟩⟩⟩⟩)) rfl rfl rfl (by decide +kernel) (E.rm hlev (by decide))) (wd_preV w E.C [] rcC_Pro rfl) rfl rfl hsz rfl (lv_room hr) hd ⟨Nat.zero_le _, Nat.zero_le _⟩) kk

theorem d_Pro_dotProduct_0 : decode prog_7_method_8_code 0 = .ok (.iconst 0, 1) := by decide +kernel
theorem d_Pro_dotProduct_1 : decode prog_7_method_8_code 1 = .ok (.istore_n 2, 1) := by decide +kernel
theorem d_Pro_dotProduct_2 : decode prog_7_method_8_code 2 = .ok (.iconst 0, 1) := by decide +kernel
theorem d_Pro_dotProduct_3 : decode prog_7_method_8_code 3 = .ok (.istore_n 3, 1) := by decide +kernel
theorem d_Pro_dotProduct_4 : decode prog_7_method_8_code 4 = .ok (.iload_n 3, 1) := by decide +kernel
theorem d_Pro_dotProduct_5 : decode prog_7_method_8_code 5 = .ok (.iload_n 1, 1) := by decide +kernel
theorem d_Pro_dotProduct_6 : decode prog_7_method_8_code 6 = .ok (.if_icmp .ge 27, 3) := by decide +kernel
theorem d_Pro_dotProduct_9 : decode prog_7_method_8_code 9 = .ok (.iload_n 2, 1) := by decide +kernel
theorem d_Pro_dotProduct_10 : decode prog_7_method_8_code 10 = .ok (.aload_n 0, 1) := by decide +kernel
theorem d_Pro_dotProduct_11 : decode prog_7_method_8_code 11 = .ok (.getfield 15, 3) := by decide +kernel
theorem d_Pro_dotProduct_14 : decode prog_7_method_8_code 14 = .ok (.iload_n 3, 1) := by decide +kernel
theorem d_Pro_dotProduct_15 : decode prog_7_method_8_code 15 = .ok (.iaload, 1) := by decide +kernel
theorem d_Pro_dotProduct_16 : decode prog_7_method_8_code 16 = .ok (.aload_n 0, 1) := by decide +kernel
theorem d_Pro_dotProduct_17 : decode prog_7_method_8_code 17 = .ok (.getfield 18, 3) := by decide +kernel
theorem d_Pro_dotProduct_20 : decode prog_7_method_8_code 20 = .ok (.iload_n 3, 1) := by decide +kernel
theorem d_Pro_dotProduct_21 : decode prog_7_method_8_code 21 = .ok (.iaload, 1) := by decide +kernel
theorem d_Pro_dotProduct_22 : decode prog_7_method_8_code 22 = .ok (.invokestatic 127, 3) := by decide +kernel
theorem d_Pro_dotProduct_25 : decode prog_7_method_8_code 25 = .ok (.iadd, 1) := by decide +kernel
theorem d_Pro_dotProduct_26 : decode prog_7_method_8_code 26 = .ok (.istore_n 2, 1) := by decide +kernel
theorem d_Pro_dotProduct_27 : decode prog_7_method_8_code 27 = .ok (.iinc 3 1, 3) := by decide +kernel
theorem d_Pro_dotProduct_30 : decode prog_7_method_8_code 30 = .ok (.goto (-26), 3) := by decide +kernel
theorem d_Pro_dotProduct_33 : decode prog_7_method_8_code 33 = .ok (.iload_n 2, 1) := by decide +kernel
theorem d_Pro_dotProduct_34 : decode prog_7_method_8_code 34 = .ok (.ireturn, 1) := by decide +kernel
def L_Pro_dotProduct_4 : Nat → Sg → Int32 → Int32 → Int32 → Option (Int32)
  | 0, _, _, _, _ => none
  | n + 1, σ, v1, v2, v3 => if v1 ≤ v3 then (some v2) else (ck (inb v3 4) (ck (inb v3 4) (bd (F_Pro_product (σ.2.2.1 11 v3.toNatClampNeg) (σ.2.2.1 12 v3.toNatClampNeg)) (fun o8 => lt (v2 + o8) (fun y9 => lt (v3 + 1) (fun y10 => L_Pro_dotProduct_4 n σ v1 y9 y10))))))
set_option maxRecDepth 10000 in
set_option maxHeartbeats 4000000 in
theorem lt_Pro_dotProduct_4 {p : Program} {l : Launch} {e : Env} {R : Room} {s : State} {m : MethodId} {args : Array Value} {below : List Frame} {meth : Method} {c : Code} {D : va_G} {τ : ClassId × ClassId × ClassId} {B : Nat} {A : Nat → Prop} {ad : Nat → Nat} (E : Cx p R s m args meth c prog_7_method_8_code 4 "DrawingMachine$Processor" 1 D τ B A) (hret : meth.sig.returnType = (some .int)) (o : Int32) (σ : Sg) : ∀ (n : Nat) (v1 : Int32) (v2 : Int32) (v3 : Int32) (H : Heap) (locs : List Loc) (ls : Array Slot), L_Pro_dotProduct_4 n σ v1 v2 v3 = some o → Wd s D A (wdC τ σ ad) H locs → lv_has ls 4 [(0, .ref (ad 62)), (1, .int v1), (2, .int v2), (3, .int v3)] → W p l e R s m args below meth c H locs 0 0 (QI below args s A D τ (wdC τ σ ad) o) (F0 m 4 ls []) := by
  intro n
  induction n with
  | zero =>
    intro v1 v2 v3 H locs ls h w hl
    cases h
  | succ n hr_4 =>
    intro v1 v2 v3 H locs ls h w hl
    refine lv_iload_n E.x E.b d_Pro_dotProduct_4 rfl (lv_at hl 3 rfl) ?_
    refine lv_iload_n E.x E.b d_Pro_dotProduct_5 rfl (lv_at hl 1 rfl) ?_
    refine lv_icmp_ge (tgt := 33) E.x E.b d_Pro_dotProduct_6 (by decide) (fun c => ?_) (fun c => ?_)
    ·
      replace h := ifT c h
      refine lv_iload_n E.x E.b d_Pro_dotProduct_33 rfl (lv_at hl 2 rfl) ?_
      obtain rfl := Option.some.inj h
      exact rt_i E w hret d_Pro_dotProduct_34
    ·
      replace h := ifF c h
      refine lv_iload_n E.x E.b d_Pro_dotProduct_9 rfl (lv_at hl 2 rfl) ?_
      refine lv_aload_n E.x E.b d_Pro_dotProduct_10 rfl (lv_at hl 0 rfl) ?_
      refine gC_Pro_a E w k240 d_Pro_dotProduct_11 ?_
      refine lv_iload_n E.x E.b d_Pro_dotProduct_14 rfl (lv_at hl 3 rfl) ?_
      obtain ⟨c6, h⟩ := ck_some h
      refine ialC E w (k := 11) (by decide) c6 d_Pro_dotProduct_15 ?_
      refine lv_aload_n E.x E.b d_Pro_dotProduct_16 rfl (lv_at hl 0 rfl) ?_
      refine gC_Pro_b E w k241 d_Pro_dotProduct_17 ?_
      refine lv_iload_n E.x E.b d_Pro_dotProduct_20 rfl (lv_at hl 3 rfl) ?_
      obtain ⟨c7, h⟩ := ck_some h
      refine ialC E w (k := 12) (by decide) c7 d_Pro_dotProduct_21 ?_
      obtain ⟨o8, h_o8, h⟩ := bd_some h
      refine clS_Pro_product E w (x0 := (σ.2.2.1 11 v3.toNatClampNeg)) (x1 := (σ.2.2.1 12 v3.toNatClampNeg)) h_o8 k1095 (by decide) hl.1 (Nat.le_of_ble_eq_true rfl) d_Pro_dotProduct_22 (fun H locs w => ?_)
      refine lv_iadd E.x E.b d_Pro_dotProduct_25 ?_
      obtain ⟨y9, e_y9, h⟩ := lt_some h
      refine wi_e (v := y9) e_y9 ?_
      refine lv_istore_n (lv' := [(2, .int y9), (0, .ref (ad 62)), (1, .int v1), (3, .int v3)]) E.x E.b d_Pro_dotProduct_26 rfl hl (by decide) rfl (fun ls hl => ?_)
      obtain ⟨y10, e_y10, h⟩ := lt_some h
      refine lv_iinc (v := y10) (lv' := [(3, .int y10), (2, .int y9), (0, .ref (ad 62)), (1, .int v1)]) E.x E.b d_Pro_dotProduct_27 hl (k := 3) rfl (e_y10) (by decide) rfl (fun ls hl => ?_)
      refine lv_goto (tgt := 4) E.x E.b d_Pro_dotProduct_30 (by decide) ?_
      exact hr_4 v1 y9 y10 _ _ _ h w (lv_sub hl [2, 3, 1, 0] rfl)
def F_Pro_dotProduct (σ : Sg) (x0 : Int32) : Option (Int32) := L_Pro_dotProduct_4 100000 σ x0 0 0
set_option maxRecDepth 10000 in
set_option maxHeartbeats 4000000 in
theorem c_Pro_dotProduct (l : Launch) (D : va_G) (τ : ClassId × ClassId × ClassId) (B : Nat) (σ : Sg) (ad : Nat → Nat) (x0 : Int32) (o : Int32) (h : F_Pro_dotProduct σ x0 = some o) : MI l y_Pro_dotProduct (Cond.code y_Pro_dotProduct prog_7_method_8_code 4 (some .int)) 1 D τ B [.ref (ad 62), .int x0] (wdC τ σ ad) (wdC τ σ ad) o := by
  refine en_i (by decide) (Nat.le_of_ble_eq_true rfl) ?_
  intro p e R s m args below meth c H locs ls A E hret w hl
  have E : Cx p R s m args meth c prog_7_method_8_code 4 "DrawingMachine$Processor" 1 D τ B A := E
  have hl : lv_has ls 4 [(0, .ref (ad 62)), (1, .int x0)] := hl
  refine lv_iconst (v := 0) E.x E.b d_Pro_dotProduct_0 (by decide) ?_
  refine lv_istore_n (lv' := [(2, .int 0), (0, .ref (ad 62)), (1, .int x0)]) E.x E.b d_Pro_dotProduct_1 rfl hl (by decide) rfl (fun ls hl => ?_)
  refine lv_iconst (v := 0) E.x E.b d_Pro_dotProduct_2 (by decide) ?_
  refine lv_istore_n (lv' := [(3, .int 0), (2, .int 0), (0, .ref (ad 62)), (1, .int x0)]) E.x E.b d_Pro_dotProduct_3 rfl hl (by decide) rfl (fun ls hl => ?_)
  exact lt_Pro_dotProduct_4 E hret o σ 100000 x0 0 0 _ _ _ h w (lv_sub hl [2, 3, 1, 0] rfl)
theorem clV_Pro_dotProduct {p : Program} {l : Launch} {e : Env} {R : Room} {s : State} {m : MethodId} {args : Array Value} {below : List Frame} {meth : Method} {c : Code} {H : Heap} {locs : List Loc} {Q : State → Prop} {cc : ByteArray} {nL pc lev : Nat} {own : String} {D : va_G} {τ : ClassId × ClassId × ClassId} {B : Nat} {A : Nat → Prop} {σ : Sg} {ad : Nat → Nat} {ls : Array Slot} {rest : List Value} (E : Cx p R s m args meth c cc nL own lev D τ B A) (w : Wd s D A (wdC τ σ ad) H locs) {x0 : Int32} {o : Int32} (h : F_Pro_dotProduct σ x0 = some o) {index : Nat} (hlk : Cond.methodLink own index y_Pro_dotProduct ∈ tw) (hlev : 1 < lev) (hsz : ls.size = nL) (hr : (rest.map fun v => v.category).sum ≤ 8) (hd : decode cc pc = .ok (.invokevirtual index, 3)) (kk : ∀ (H1 : Heap) (locs1 : List Loc), Wd s D A (wdC τ σ ad) H1 locs1 → W p l e R s m args below meth c H1 locs1 0 0 Q (F0 m (pc + 3) ls (.int o :: rest))) : W p l e R s m args below meth c H locs 0 0 Q (F0 m pc ls (.int x0 :: .ref (ad 62) :: rest)) :=
  cr_i w E.C (va_runV (As := [.int x0]) (rest := rest) E.fix (c_Pro_dotProduct l D τ B σ ad x0 o h H.size) (cwV 1 E.w (tw_pre (tw_good k1094) (l := [_, _, _, _]) (List.forall_mem_cons.mpr ⟨hlk, List.forall_mem_cons.mpr ⟨k1093, List.forall_mem_cons.mpr ⟨ks18, List.forall_mem_cons.mpr ⟨k8, fun _ h => absurd h List.not_mem_nil⟩⟩⟩⟩)) rfl rfl rfl (by decide +kernel) (E.rm hlev (by decide))) (wd_preV w E.C [.int x0] rcC_Pro rfl) rfl rfl hsz rfl (lv_room hr) hd ⟨Nat.zero_le _, Nat.zero_le _⟩) kk

theorem d_Pro_oneBy_0 : decode prog_7_method_13_code 0 = .ok (.iload_n 0, 1) := by decide +kernel
theorem d_Pro_oneBy_1 : decode prog_7_method_13_code 1 = .ok (.ifCond .ne 6, 3) := by decide +kernel
theorem d_Pro_oneBy_4 : decode prog_7_method_13_code 4 = .ok (.ldc 101, 2) := by decide +kernel
theorem d_Pro_oneBy_6 : decode prog_7_method_13_code 6 = .ok (.ireturn, 1) := by decide +kernel
theorem d_Pro_oneBy_7 : decode prog_7_method_13_code 7 = .ok (.ldc2_w 139, 3) := by decide +kernel
theorem d_Pro_oneBy_10 : decode prog_7_method_13_code 10 = .ok (.iload_n 0, 1) := by decide +kernel
theorem d_Pro_oneBy_11 : decode prog_7_method_13_code 11 = .ok (.i2l, 1) := by decide +kernel
theorem d_Pro_oneBy_12 : decode prog_7_method_13_code 12 = .ok (.invokestatic 141, 3) := by decide +kernel
theorem d_Pro_oneBy_15 : decode prog_7_method_13_code 15 = .ok (.ldc 137, 2) := by decide +kernel
theorem d_Pro_oneBy_17 : decode prog_7_method_13_code 17 = .ok (.ldc 101, 2) := by decide +kernel
theorem d_Pro_oneBy_19 : decode prog_7_method_13_code 19 = .ok (.invokestatic 87, 3) := by decide +kernel
theorem d_Pro_oneBy_22 : decode prog_7_method_13_code 22 = .ok (.ireturn, 1) := by decide +kernel
def F_Pro_oneBy  (x0 : Int32) : Option (Int32) := if x0 = 0 then (some 2147483647) else (ck (¬ x0.toInt64 = 0) (bd (F_DM_within (fdiv 4294967296 x0.toInt64) (-2147483648) 2147483647) (fun o4 => some o4)))
set_option maxRecDepth 10000 in
set_option maxHeartbeats 4000000 in
theorem c_Pro_oneBy (l : Launch) (D : va_G) (τ : ClassId × ClassId × ClassId) (B : Nat) (σ0 : Sg) (ad : Nat → Nat) (x0 : Int32) (o : Int32) (h : F_Pro_oneBy x0 = some o) : MI l y_Pro_oneBy (Cond.code y_Pro_oneBy prog_7_method_13_code 1 (some .int)) 1 D τ B [.int x0] (wdC τ σ0 ad) (wdC τ σ0 ad) o := by
  refine en_i (by decide) (Nat.le_of_ble_eq_true rfl) ?_
  intro p e R s m args below meth c H locs ls A E hret w hl
  have E : Cx p R s m args meth c prog_7_method_13_code 1 "DrawingMachine$Processor" 1 D τ B A := E
  have hl : lv_has ls 1 [(0, .int x0)] := hl
  refine lv_iload_n E.x E.b d_Pro_oneBy_0 rfl (lv_at hl 0 rfl) ?_
  refine lv_if_ne (tgt := 7) E.x E.b d_Pro_oneBy_1 (by decide) (fun c => ?_) (fun c => ?_)
  ·
    replace h := ifF c h
    refine lv_ldc2 (v := 4294967296) E.x E.b E.o (E.w _ k1107) d_Pro_oneBy_7 ?_
    refine lv_iload_n E.x E.b d_Pro_oneBy_10 rfl (lv_at hl 0 rfl) ?_
    refine lv_i2l (v := x0.toInt64) E.x E.b d_Pro_oneBy_11 rfl ?_
    obtain ⟨c3, h⟩ := ck_some h
    refine r_law (As := [.long 4294967296, .long x0.toInt64]) (v0 := .long (fdiv 4294967296 x0.toInt64)) E (Jvm.Free.JP.Math_floorDiv_JJ.law l 4294967296 x0.toInt64) k1108 k1109 k25 k1110 (by decide) hl.1 rfl (fun _ => ⟨rfl, c3⟩) (Nat.le_of_ble_eq_true rfl) d_Pro_oneBy_12 ?_
    refine lv_ldc (v := (-2147483648)) E.x E.b E.o (E.w _ k1111) d_Pro_oneBy_15 ?_
    refine lv_ldc (v := 2147483647) E.x E.b E.o (E.w _ k1106) d_Pro_oneBy_17 ?_
    obtain ⟨o4, h_o4, h⟩ := bd_some h
    refine clSN_DM_within E w (x0 := (fdiv 4294967296 x0.toInt64)) (x1 := (-2147483648)) (x2 := 2147483647) h_o4 n1086 (by decide) hl.1 (Nat.le_of_ble_eq_true rfl) d_Pro_oneBy_19 (fun H locs w => ?_)
    obtain rfl := Option.some.inj h
    exact rt_i E w hret d_Pro_oneBy_22
  ·
    replace h := ifT c h
    refine lv_ldc (v := 2147483647) E.x E.b E.o (E.w _ k1106) d_Pro_oneBy_4 ?_
    obtain rfl := Option.some.inj h
    exact rt_i E w hret d_Pro_oneBy_6
theorem clS_Pro_oneBy {p : Program} {l : Launch} {e : Env} {R : Room} {s : State} {m : MethodId} {args : Array Value} {below : List Frame} {meth : Method} {c : Code} {H : Heap} {locs : List Loc} {Q : State → Prop} {cc : ByteArray} {nL pc lev : Nat} {own : String} {D : va_G} {τ : ClassId × ClassId × ClassId} {B : Nat} {A : Nat → Prop} {σ : Sg} {ad : Nat → Nat} {ls : Array Slot} {rest : List Value} (E : Cx p R s m args meth c cc nL own lev D τ B A) (w : Wd s D A (wdC τ σ ad) H locs) {x0 : Int32} {o : Int32} (h : F_Pro_oneBy x0 = some o) {index : Nat} (hlk : Cond.methodLink own index y_Pro_oneBy ∈ tw) (hlev : 1 < lev) (hsz : ls.size = nL) (hr : (rest.map fun v => v.category).sum ≤ 8) (hd : decode cc pc = .ok (.invokestatic index, 3)) (kk : ∀ (H1 : Heap) (locs1 : List Loc), Wd s D A (wdC τ σ ad) H1 locs1 → W p l e R s m args below meth c H1 locs1 0 0 Q (F0 m (pc + 3) ls (.int o :: rest))) : W p l e R s m args below meth c H locs 0 0 Q (F0 m pc ls (.int x0 :: rest)) :=
  cr_i w E.C (va_runS (As := [.int x0]) (rest := rest) E.fix (c_Pro_oneBy l D τ B σ ad x0 o h H.size) (va_cwS 1 E.w (tw_pre (tw_good k1105) (l := [_, _, _]) (List.forall_mem_cons.mpr ⟨hlk, List.forall_mem_cons.mpr ⟨k1104, List.forall_mem_cons.mpr ⟨k8, fun _ h => absurd h List.not_mem_nil⟩⟩⟩)) rfl rfl rfl (by decide +kernel) (E.rm hlev (by decide))) (wd_pre w E.C [.int x0]) rfl rfl hsz rfl (lv_room hr) hd ⟨Nat.zero_le _, Nat.zero_le _⟩) kk

theorem d_Pro_part_0 : decode prog_7_method_11_code 0 = .ok (.iload_n 0, 1) := by decide +kernel
theorem d_Pro_part_1 : decode prog_7_method_11_code 1 = .ok (.tableswitch 368 1 40 #[175, 177, 181, 185, 191, 368, 368, 199, 210, 221, 243, 248, 368, 368, 368, 253, 265, 277, 289, 301, 311, 368, 321, 325, 329, 333, 337, 344, 351, 368, 368, 368, 368, 368, 368, 368, 368, 368, 358, 363], 175) := by decide +kernel
theorem d_Pro_part_176 : decode prog_7_method_11_code 176 = .ok (.iload_n 1, 1) := by decide +kernel
theorem d_Pro_part_177 : decode prog_7_method_11_code 177 = .ok (.ireturn, 1) := by decide +kernel
theorem d_Pro_part_178 : decode prog_7_method_11_code 178 = .ok (.iload_n 1, 1) := by decide +kernel
theorem d_Pro_part_179 : decode prog_7_method_11_code 179 = .ok (.iload_n 2, 1) := by decide +kernel
theorem d_Pro_part_180 : decode prog_7_method_11_code 180 = .ok (.iadd, 1) := by decide +kernel
theorem d_Pro_part_181 : decode prog_7_method_11_code 181 = .ok (.ireturn, 1) := by decide +kernel
theorem d_Pro_part_182 : decode prog_7_method_11_code 182 = .ok (.iload_n 1, 1) := by decide +kernel
theorem d_Pro_part_183 : decode prog_7_method_11_code 183 = .ok (.iload_n 2, 1) := by decide +kernel
theorem d_Pro_part_184 : decode prog_7_method_11_code 184 = .ok (.isub, 1) := by decide +kernel
theorem d_Pro_part_185 : decode prog_7_method_11_code 185 = .ok (.ireturn, 1) := by decide +kernel
theorem d_Pro_part_186 : decode prog_7_method_11_code 186 = .ok (.iload_n 1, 1) := by decide +kernel
theorem d_Pro_part_187 : decode prog_7_method_11_code 187 = .ok (.iload_n 2, 1) := by decide +kernel
theorem d_Pro_part_188 : decode prog_7_method_11_code 188 = .ok (.invokestatic 127, 3) := by decide +kernel
theorem d_Pro_part_191 : decode prog_7_method_11_code 191 = .ok (.ireturn, 1) := by decide +kernel
theorem d_Pro_part_192 : decode prog_7_method_11_code 192 = .ok (.iload_n 1, 1) := by decide +kernel
theorem d_Pro_part_193 : decode prog_7_method_11_code 193 = .ok (.iload_n 2, 1) := by decide +kernel
theorem d_Pro_part_194 : decode prog_7_method_11_code 194 = .ok (.invokestatic 127, 3) := by decide +kernel
theorem d_Pro_part_197 : decode prog_7_method_11_code 197 = .ok (.iload_n 3, 1) := by decide +kernel
theorem d_Pro_part_198 : decode prog_7_method_11_code 198 = .ok (.iadd, 1) := by decide +kernel
theorem d_Pro_part_199 : decode prog_7_method_11_code 199 = .ok (.ireturn, 1) := by decide +kernel
theorem d_Pro_part_200 : decode prog_7_method_11_code 200 = .ok (.iload_n 1, 1) := by decide +kernel
theorem d_Pro_part_201 : decode prog_7_method_11_code 201 = .ok (.iload_n 2, 1) := by decide +kernel
theorem d_Pro_part_202 : decode prog_7_method_11_code 202 = .ok (.if_icmp .ge 7, 3) := by decide +kernel
theorem d_Pro_part_205 : decode prog_7_method_11_code 205 = .ok (.iload_n 1, 1) := by decide +kernel
theorem d_Pro_part_206 : decode prog_7_method_11_code 206 = .ok (.goto 4, 3) := by decide +kernel
theorem d_Pro_part_209 : decode prog_7_method_11_code 209 = .ok (.iload_n 2, 1) := by decide +kernel
theorem d_Pro_part_210 : decode prog_7_method_11_code 210 = .ok (.ireturn, 1) := by decide +kernel
theorem d_Pro_part_211 : decode prog_7_method_11_code 211 = .ok (.iload_n 1, 1) := by decide +kernel
theorem d_Pro_part_212 : decode prog_7_method_11_code 212 = .ok (.iload_n 2, 1) := by decide +kernel
theorem d_Pro_part_213 : decode prog_7_method_11_code 213 = .ok (.if_icmp .le 7, 3) := by decide +kernel
theorem d_Pro_part_216 : decode prog_7_method_11_code 216 = .ok (.iload_n 1, 1) := by decide +kernel
theorem d_Pro_part_217 : decode prog_7_method_11_code 217 = .ok (.goto 4, 3) := by decide +kernel
theorem d_Pro_part_220 : decode prog_7_method_11_code 220 = .ok (.iload_n 2, 1) := by decide +kernel
theorem d_Pro_part_221 : decode prog_7_method_11_code 221 = .ok (.ireturn, 1) := by decide +kernel
theorem d_Pro_part_222 : decode prog_7_method_11_code 222 = .ok (.iload_n 1, 1) := by decide +kernel
theorem d_Pro_part_223 : decode prog_7_method_11_code 223 = .ok (.ldc 137, 2) := by decide +kernel
theorem d_Pro_part_225 : decode prog_7_method_11_code 225 = .ok (.if_icmp .ne 8, 3) := by decide +kernel
theorem d_Pro_part_228 : decode prog_7_method_11_code 228 = .ok (.ldc 101, 2) := by decide +kernel
theorem d_Pro_part_230 : decode prog_7_method_11_code 230 = .ok (.goto 13, 3) := by decide +kernel
theorem d_Pro_part_233 : decode prog_7_method_11_code 233 = .ok (.iload_n 1, 1) := by decide +kernel
theorem d_Pro_part_234 : decode prog_7_method_11_code 234 = .ok (.ifCond .ge 8, 3) := by decide +kernel
theorem d_Pro_part_237 : decode prog_7_method_11_code 237 = .ok (.iload_n 1, 1) := by decide +kernel
theorem d_Pro_part_238 : decode prog_7_method_11_code 238 = .ok (.ineg, 1) := by decide +kernel
theorem d_Pro_part_239 : decode prog_7_method_11_code 239 = .ok (.goto 4, 3) := by decide +kernel
theorem d_Pro_part_242 : decode prog_7_method_11_code 242 = .ok (.iload_n 1, 1) := by decide +kernel
theorem d_Pro_part_243 : decode prog_7_method_11_code 243 = .ok (.ireturn, 1) := by decide +kernel
theorem d_Pro_part_244 : decode prog_7_method_11_code 244 = .ok (.iload_n 1, 1) := by decide +kernel
theorem d_Pro_part_245 : decode prog_7_method_11_code 245 = .ok (.ldc 138, 2) := by decide +kernel
theorem d_Pro_part_247 : decode prog_7_method_11_code 247 = .ok (.iand, 1) := by decide +kernel
theorem d_Pro_part_248 : decode prog_7_method_11_code 248 = .ok (.ireturn, 1) := by decide +kernel
theorem d_Pro_part_249 : decode prog_7_method_11_code 249 = .ok (.iload_n 1, 1) := by decide +kernel
theorem d_Pro_part_250 : decode prog_7_method_11_code 250 = .ok (.ldc 79, 2) := by decide +kernel
theorem d_Pro_part_252 : decode prog_7_method_11_code 252 = .ok (.iand, 1) := by decide +kernel
theorem d_Pro_part_253 : decode prog_7_method_11_code 253 = .ok (.ireturn, 1) := by decide +kernel
theorem d_Pro_part_254 : decode prog_7_method_11_code 254 = .ok (.iload_n 1, 1) := by decide +kernel
theorem d_Pro_part_255 : decode prog_7_method_11_code 255 = .ok (.iload_n 2, 1) := by decide +kernel
theorem d_Pro_part_256 : decode prog_7_method_11_code 256 = .ok (.if_icmp .ge 8, 3) := by decide +kernel
theorem d_Pro_part_259 : decode prog_7_method_11_code 259 = .ok (.ldc 51, 2) := by decide +kernel
theorem d_Pro_part_261 : decode prog_7_method_11_code 261 = .ok (.goto 4, 3) := by decide +kernel
theorem d_Pro_part_264 : decode prog_7_method_11_code 264 = .ok (.iconst 0, 1) := by decide +kernel
theorem d_Pro_part_265 : decode prog_7_method_11_code 265 = .ok (.ireturn, 1) := by decide +kernel
theorem d_Pro_part_266 : decode prog_7_method_11_code 266 = .ok (.iload_n 1, 1) := by decide +kernel
theorem d_Pro_part_267 : decode prog_7_method_11_code 267 = .ok (.iload_n 2, 1) := by decide +kernel
theorem d_Pro_part_268 : decode prog_7_method_11_code 268 = .ok (.if_icmp .ge 7, 3) := by decide +kernel
theorem d_Pro_part_271 : decode prog_7_method_11_code 271 = .ok (.iconst 0, 1) := by decide +kernel
theorem d_Pro_part_272 : decode prog_7_method_11_code 272 = .ok (.goto 5, 3) := by decide +kernel
theorem d_Pro_part_275 : decode prog_7_method_11_code 275 = .ok (.ldc 51, 2) := by decide +kernel
theorem d_Pro_part_277 : decode prog_7_method_11_code 277 = .ok (.ireturn, 1) := by decide +kernel
theorem d_Pro_part_278 : decode prog_7_method_11_code 278 = .ok (.iload_n 1, 1) := by decide +kernel
theorem d_Pro_part_279 : decode prog_7_method_11_code 279 = .ok (.iload_n 2, 1) := by decide +kernel
theorem d_Pro_part_280 : decode prog_7_method_11_code 280 = .ok (.if_icmp .ne 8, 3) := by decide +kernel
theorem d_Pro_part_283 : decode prog_7_method_11_code 283 = .ok (.ldc 51, 2) := by decide +kernel
theorem d_Pro_part_285 : decode prog_7_method_11_code 285 = .ok (.goto 4, 3) := by decide +kernel
theorem d_Pro_part_288 : decode prog_7_method_11_code 288 = .ok (.iconst 0, 1) := by decide +kernel
theorem d_Pro_part_289 : decode prog_7_method_11_code 289 = .ok (.ireturn, 1) := by decide +kernel
theorem d_Pro_part_290 : decode prog_7_method_11_code 290 = .ok (.iload_n 1, 1) := by decide +kernel
theorem d_Pro_part_291 : decode prog_7_method_11_code 291 = .ok (.iload_n 2, 1) := by decide +kernel
theorem d_Pro_part_292 : decode prog_7_method_11_code 292 = .ok (.if_icmp .ne 7, 3) := by decide +kernel
theorem d_Pro_part_295 : decode prog_7_method_11_code 295 = .ok (.iconst 0, 1) := by decide +kernel
theorem d_Pro_part_296 : decode prog_7_method_11_code 296 = .ok (.goto 5, 3) := by decide +kernel
theorem d_Pro_part_299 : decode prog_7_method_11_code 299 = .ok (.ldc 51, 2) := by decide +kernel
theorem d_Pro_part_301 : decode prog_7_method_11_code 301 = .ok (.ireturn, 1) := by decide +kernel
theorem d_Pro_part_302 : decode prog_7_method_11_code 302 = .ok (.iload_n 1, 1) := by decide +kernel
theorem d_Pro_part_303 : decode prog_7_method_11_code 303 = .ok (.ifCond .lt 7, 3) := by decide +kernel
theorem d_Pro_part_306 : decode prog_7_method_11_code 306 = .ok (.iload_n 2, 1) := by decide +kernel
theorem d_Pro_part_307 : decode prog_7_method_11_code 307 = .ok (.goto 4, 3) := by decide +kernel
theorem d_Pro_part_310 : decode prog_7_method_11_code 310 = .ok (.iload_n 3, 1) := by decide +kernel
theorem d_Pro_part_311 : decode prog_7_method_11_code 311 = .ok (.ireturn, 1) := by decide +kernel
theorem d_Pro_part_312 : decode prog_7_method_11_code 312 = .ok (.iload_n 1, 1) := by decide +kernel
theorem d_Pro_part_313 : decode prog_7_method_11_code 313 = .ok (.iload_n 2, 1) := by decide +kernel
theorem d_Pro_part_314 : decode prog_7_method_11_code 314 = .ok (.iload_n 3, 1) := by decide +kernel
theorem d_Pro_part_315 : decode prog_7_method_11_code 315 = .ok (.isub, 1) := by decide +kernel
theorem d_Pro_part_316 : decode prog_7_method_11_code 316 = .ok (.invokestatic 127, 3) := by decide +kernel
theorem d_Pro_part_319 : decode prog_7_method_11_code 319 = .ok (.iload_n 3, 1) := by decide +kernel
theorem d_Pro_part_320 : decode prog_7_method_11_code 320 = .ok (.iadd, 1) := by decide +kernel
theorem d_Pro_part_321 : decode prog_7_method_11_code 321 = .ok (.ireturn, 1) := by decide +kernel
theorem d_Pro_part_322 : decode prog_7_method_11_code 322 = .ok (.iload_n 1, 1) := by decide +kernel
theorem d_Pro_part_323 : decode prog_7_method_11_code 323 = .ok (.iload_n 2, 1) := by decide +kernel
theorem d_Pro_part_324 : decode prog_7_method_11_code 324 = .ok (.iand, 1) := by decide +kernel
theorem d_Pro_part_325 : decode prog_7_method_11_code 325 = .ok (.ireturn, 1) := by decide +kernel
theorem d_Pro_part_326 : decode prog_7_method_11_code 326 = .ok (.iload_n 1, 1) := by decide +kernel
theorem d_Pro_part_327 : decode prog_7_method_11_code 327 = .ok (.iload_n 2, 1) := by decide +kernel
theorem d_Pro_part_328 : decode prog_7_method_11_code 328 = .ok (.ior, 1) := by decide +kernel
theorem d_Pro_part_329 : decode prog_7_method_11_code 329 = .ok (.ireturn, 1) := by decide +kernel
theorem d_Pro_part_330 : decode prog_7_method_11_code 330 = .ok (.iload_n 1, 1) := by decide +kernel
theorem d_Pro_part_331 : decode prog_7_method_11_code 331 = .ok (.iload_n 2, 1) := by decide +kernel
theorem d_Pro_part_332 : decode prog_7_method_11_code 332 = .ok (.ixor, 1) := by decide +kernel
theorem d_Pro_part_333 : decode prog_7_method_11_code 333 = .ok (.ireturn, 1) := by decide +kernel
theorem d_Pro_part_334 : decode prog_7_method_11_code 334 = .ok (.iload_n 1, 1) := by decide +kernel
theorem d_Pro_part_335 : decode prog_7_method_11_code 335 = .ok (.iconst (-1), 1) := by decide +kernel
theorem d_Pro_part_336 : decode prog_7_method_11_code 336 = .ok (.ixor, 1) := by decide +kernel
theorem d_Pro_part_337 : decode prog_7_method_11_code 337 = .ok (.ireturn, 1) := by decide +kernel
theorem d_Pro_part_338 : decode prog_7_method_11_code 338 = .ok (.iload_n 1, 1) := by decide +kernel
theorem d_Pro_part_339 : decode prog_7_method_11_code 339 = .ok (.iload_n 2, 1) := by decide +kernel
theorem d_Pro_part_340 : decode prog_7_method_11_code 340 = .ok (.bipush 31, 2) := by decide +kernel
theorem d_Pro_part_342 : decode prog_7_method_11_code 342 = .ok (.iand, 1) := by decide +kernel
theorem d_Pro_part_343 : decode prog_7_method_11_code 343 = .ok (.ishl, 1) := by decide +kernel
theorem d_Pro_part_344 : decode prog_7_method_11_code 344 = .ok (.ireturn, 1) := by decide +kernel
theorem d_Pro_part_345 : decode prog_7_method_11_code 345 = .ok (.iload_n 1, 1) := by decide +kernel
theorem d_Pro_part_346 : decode prog_7_method_11_code 346 = .ok (.iload_n 2, 1) := by decide +kernel
theorem d_Pro_part_347 : decode prog_7_method_11_code 347 = .ok (.bipush 31, 2) := by decide +kernel
theorem d_Pro_part_349 : decode prog_7_method_11_code 349 = .ok (.iand, 1) := by decide +kernel
theorem d_Pro_part_350 : decode prog_7_method_11_code 350 = .ok (.ishr, 1) := by decide +kernel
theorem d_Pro_part_351 : decode prog_7_method_11_code 351 = .ok (.ireturn, 1) := by decide +kernel
theorem d_Pro_part_352 : decode prog_7_method_11_code 352 = .ok (.iload_n 1, 1) := by decide +kernel
theorem d_Pro_part_353 : decode prog_7_method_11_code 353 = .ok (.iload_n 2, 1) := by decide +kernel
theorem d_Pro_part_354 : decode prog_7_method_11_code 354 = .ok (.bipush 31, 2) := by decide +kernel
theorem d_Pro_part_356 : decode prog_7_method_11_code 356 = .ok (.iand, 1) := by decide +kernel
theorem d_Pro_part_357 : decode prog_7_method_11_code 357 = .ok (.iushr, 1) := by decide +kernel
theorem d_Pro_part_358 : decode prog_7_method_11_code 358 = .ok (.ireturn, 1) := by decide +kernel
theorem d_Pro_part_359 : decode prog_7_method_11_code 359 = .ok (.iload_n 1, 1) := by decide +kernel
theorem d_Pro_part_360 : decode prog_7_method_11_code 360 = .ok (.bipush 16, 2) := by decide +kernel
theorem d_Pro_part_362 : decode prog_7_method_11_code 362 = .ok (.ishr, 1) := by decide +kernel
theorem d_Pro_part_363 : decode prog_7_method_11_code 363 = .ok (.ireturn, 1) := by decide +kernel
theorem d_Pro_part_364 : decode prog_7_method_11_code 364 = .ok (.iload_n 1, 1) := by decide +kernel
theorem d_Pro_part_365 : decode prog_7_method_11_code 365 = .ok (.bipush 16, 2) := by decide +kernel
theorem d_Pro_part_367 : decode prog_7_method_11_code 367 = .ok (.ishl, 1) := by decide +kernel
theorem d_Pro_part_368 : decode prog_7_method_11_code 368 = .ok (.ireturn, 1) := by decide +kernel
theorem d_Pro_part_369 : decode prog_7_method_11_code 369 = .ok (.iconst 0, 1) := by decide +kernel
theorem d_Pro_part_370 : decode prog_7_method_11_code 370 = .ok (.ireturn, 1) := by decide +kernel
def F_Pro_part_369  : Option (Int32) := some 0
set_option maxRecDepth 10000 in
set_option maxHeartbeats 4000000 in
theorem bt_Pro_part_369 {p : Program} {l : Launch} {e : Env} {R : Room} {s : State} {m : MethodId} {args : Array Value} {below : List Frame} {meth : Method} {c : Code} {D : va_G} {τ : ClassId × ClassId × ClassId} {B : Nat} {A : Nat → Prop} {ad : Nat → Nat} {σ0 : Sg} (E : Cx p R s m args meth c prog_7_method_11_code 4 "DrawingMachine$Processor" 1 D τ B A) (hret : meth.sig.returnType = (some .int)) (o : Int32) (h : F_Pro_part_369 = some o) {H : Heap} {locs : List Loc} {ls : Array Slot} (w : Wd s D A (wdC τ σ0 ad) H locs) (hl : lv_has ls 4 []) : W p l e R s m args below meth c H locs 0 0 (QI below args s A D τ (wdC τ σ0 ad) o) (F0 m 369 ls []) := by
  refine lv_iconst (v := 0) E.x E.b d_Pro_part_369 (by decide) ?_
  obtain rfl := Option.some.inj h
  exact rt_i E w hret d_Pro_part_370
def F_Pro_part_311  (s0 : Int32) : Option (Int32) := some s0
set_option maxRecDepth 10000 in
set_option maxHeartbeats 4000000 in
theorem bt_Pro_part_311 {p : Program} {l : Launch} {e : Env} {R : Room} {s : State} {m : MethodId} {args : Array Value} {below : List Frame} {meth : Method} {c : Code} {D : va_G} {τ : ClassId × ClassId × ClassId} {B : Nat} {A : Nat → Prop} {ad : Nat → Nat} {σ0 : Sg} (E : Cx p R s m args meth c prog_7_method_11_code 4 "DrawingMachine$Processor" 1 D τ B A) (hret : meth.sig.returnType = (some .int)) (o : Int32) (s0 : Int32) (h : F_Pro_part_311 s0 = some o) {H : Heap} {locs : List Loc} {ls : Array Slot} (w : Wd s D A (wdC τ σ0 ad) H locs) (hl : lv_has ls 4 []) : W p l e R s m args below meth c H locs 0 0 (QI below args s A D τ (wdC τ σ0 ad) o) (F0 m 311 ls [.int s0]) := by
  obtain rfl := Option.some.inj h
  exact rt_i E w hret d_Pro_part_311
def F_Pro_part_301  (s0 : Int32) : Option (Int32) := some s0
set_option maxRecDepth 10000 in
set_option maxHeartbeats 4000000 in
theorem bt_Pro_part_301 {p : Program} {l : Launch} {e : Env} {R : Room} {s : State} {m : MethodId} {args : Array Value} {below : List Frame} {meth : Method} {c : Code} {D : va_G} {τ : ClassId × ClassId × ClassId} {B : Nat} {A : Nat → Prop} {ad : Nat → Nat} {σ0 : Sg} (E : Cx p R s m args meth c prog_7_method_11_code 4 "DrawingMachine$Processor" 1 D τ B A) (hret : meth.sig.returnType = (some .int)) (o : Int32) (s0 : Int32) (h : F_Pro_part_301 s0 = some o) {H : Heap} {locs : List Loc} {ls : Array Slot} (w : Wd s D A (wdC τ σ0 ad) H locs) (hl : lv_has ls 4 []) : W p l e R s m args below meth c H locs 0 0 (QI below args s A D τ (wdC τ σ0 ad) o) (F0 m 301 ls [.int s0]) := by
  obtain rfl := Option.some.inj h
  exact rt_i E w hret d_Pro_part_301
def F_Pro_part_289  (s0 : Int32) : Option (Int32) := some s0
set_option maxRecDepth 10000 in
set_option maxHeartbeats 4000000 in
theorem bt_Pro_part_289 {p : Program} {l : Launch} {e : Env} {R : Room} {s : State} {m : MethodId} {args : Array Value} {below : List Frame} {meth : Method} {c : Code} {D : va_G} {τ : ClassId × ClassId × ClassId} {B : Nat} {A : Nat → Prop} {ad : Nat → Nat} {σ0 : Sg} (E : Cx p R s m args meth c prog_7_method_11_code 4 "DrawingMachine$Processor" 1 D τ B A) (hret : meth.sig.returnType = (some .int)) (o : Int32) (s0 : Int32) (h : F_Pro_part_289 s0 = some o) {H : Heap} {locs : List Loc} {ls : Array Slot} (w : Wd s D A (wdC τ σ0 ad) H locs) (hl : lv_has ls 4 []) : W p l e R s m args below meth c H locs 0 0 (QI below args s A D τ (wdC τ σ0 ad) o) (F0 m 289 ls [.int s0]) := by
  obtain rfl := Option.some.inj h
  exact rt_i E w hret d_Pro_part_289
def F_Pro_part_277  (s0 : Int32) : Option (Int32) := some s0
set_option maxRecDepth 10000 in
set_option maxHeartbeats 4000000 in
theorem bt_Pro_part_277 {p : Program} {l : Launch} {e : Env} {R : Room} {s : State} {m : MethodId} {args : Array Value} {below : List Frame} {meth : Method} {c : Code} {D : va_G} {τ : ClassId × ClassId × ClassId} {B : Nat} {A : Nat → Prop} {ad : Nat → Nat} {σ0 : Sg} (E : Cx p R s m args meth c prog_7_method_11_code 4 "DrawingMachine$Processor" 1 D τ B A) (hret : meth.sig.returnType = (some .int)) (o : Int32) (s0 : Int32) (h : F_Pro_part_277 s0 = some o) {H : Heap} {locs : List Loc} {ls : Array Slot} (w : Wd s D A (wdC τ σ0 ad) H locs) (hl : lv_has ls 4 []) : W p l e R s m args below meth c H locs 0 0 (QI below args s A D τ (wdC τ σ0 ad) o) (F0 m 277 ls [.int s0]) := by
  obtain rfl := Option.some.inj h
  exact rt_i E w hret d_Pro_part_277
def F_Pro_part_265  (s0 : Int32) : Option (Int32) := some s0
set_option maxRecDepth 10000 in
set_option maxHeartbeats 4000000 in
theorem bt_Pro_part_265 {p : Program} {l : Launch} {e : Env} {R : Room} {s : State} {m : MethodId} {args : Array Value} {below : List Frame} {meth : Method} {c : Code} {D : va_G} {τ : ClassId × ClassId × ClassId} {B : Nat} {A : Nat → Prop} {ad : Nat → Nat} {σ0 : Sg} (E : Cx p R s m args meth c prog_7_method_11_code 4 "DrawingMachine$Processor" 1 D τ B A) (hret : meth.sig.returnType = (some .int)) (o : Int32) (s0 : Int32) (h : F_Pro_part_265 s0 = some o) {H : Heap} {locs : List Loc} {ls : Array Slot} (w : Wd s D A (wdC τ σ0 ad) H locs) (hl : lv_has ls 4 []) : W p l e R s m args below meth c H locs 0 0 (QI below args s A D τ (wdC τ σ0 ad) o) (F0 m 265 ls [.int s0]) := by
  obtain rfl := Option.some.inj h
  exact rt_i E w hret d_Pro_part_265
def F_Pro_part_243  (s0 : Int32) : Option (Int32) := some s0
set_option maxRecDepth 10000 in
set_option maxHeartbeats 4000000 in
theorem bt_Pro_part_243 {p : Program} {l : Launch} {e : Env} {R : Room} {s : State} {m : MethodId} {args : Array Value} {below : List Frame} {meth : Method} {c : Code} {D : va_G} {τ : ClassId × ClassId × ClassId} {B : Nat} {A : Nat → Prop} {ad : Nat → Nat} {σ0 : Sg} (E : Cx p R s m args meth c prog_7_method_11_code 4 "DrawingMachine$Processor" 1 D τ B A) (hret : meth.sig.returnType = (some .int)) (o : Int32) (s0 : Int32) (h : F_Pro_part_243 s0 = some o) {H : Heap} {locs : List Loc} {ls : Array Slot} (w : Wd s D A (wdC τ σ0 ad) H locs) (hl : lv_has ls 4 []) : W p l e R s m args below meth c H locs 0 0 (QI below args s A D τ (wdC τ σ0 ad) o) (F0 m 243 ls [.int s0]) := by
  obtain rfl := Option.some.inj h
  exact rt_i E w hret d_Pro_part_243
def F_Pro_part_221  (s0 : Int32) : Option (Int32) := some s0
set_option maxRecDepth 10000 in
set_option maxHeartbeats 4000000 in
theorem bt_Pro_part_221 {p : Program} {l : Launch} {e : Env} {R : Room} {s : State} {m : MethodId} {args : Array Value} {below : List Frame} {meth : Method} {c : Code} {D : va_G} {τ : ClassId × ClassId × ClassId} {B : Nat} {A : Nat → Prop} {ad : Nat → Nat} {σ0 : Sg} (E : Cx p R s m args meth c prog_7_method_11_code 4 "DrawingMachine$Processor" 1 D τ B A) (hret : meth.sig.returnType = (some .int)) (o : Int32) (s0 : Int32) (h : F_Pro_part_221 s0 = some o) {H : Heap} {locs : List Loc} {ls : Array Slot} (w : Wd s D A (wdC τ σ0 ad) H locs) (hl : lv_has ls 4 []) : W p l e R s m args below meth c H locs 0 0 (QI below args s A D τ (wdC τ σ0 ad) o) (F0 m 221 ls [.int s0]) := by
  obtain rfl := Option.some.inj h
  exact rt_i E w hret d_Pro_part_221
def F_Pro_part_210  (s0 : Int32) : Option (Int32) := some s0
set_option maxRecDepth 10000 in
set_option maxHeartbeats 4000000 in
theorem bt_Pro_part_210 {p : Program} {l : Launch} {e : Env} {R : Room} {s : State} {m : MethodId} {args : Array Value} {below : List Frame} {meth : Method} {c : Code} {D : va_G} {τ : ClassId × ClassId × ClassId} {B : Nat} {A : Nat → Prop} {ad : Nat → Nat} {σ0 : Sg} (E : Cx p R s m args meth c prog_7_method_11_code 4 "DrawingMachine$Processor" 1 D τ B A) (hret : meth.sig.returnType = (some .int)) (o : Int32) (s0 : Int32) (h : F_Pro_part_210 s0 = some o) {H : Heap} {locs : List Loc} {ls : Array Slot} (w : Wd s D A (wdC τ σ0 ad) H locs) (hl : lv_has ls 4 []) : W p l e R s m args below meth c H locs 0 0 (QI below args s A D τ (wdC τ σ0 ad) o) (F0 m 210 ls [.int s0]) := by
  obtain rfl := Option.some.inj h
  exact rt_i E w hret d_Pro_part_210
def F_Pro_part  (x0 : Int32) (x1 : Int32) (x2 : Int32) (x3 : Int32) : Option (Int32) := if x0 = 1 then (some x1) else (if x0 = 2 then (some (x1 + x2)) else (if x0 = 3 then (some (x1 - x2)) else (if x0 = 4 then (bd (F_Pro_product x1 x2) (fun o48 => some o48)) else (if x0 = 5 then (bd (F_Pro_product x1 x2) (fun o50 => some (o50 + x3))) else (if x0 = 6 then (F_Pro_part_369) else (if x0 = 7 then (F_Pro_part_369) else (if x0 = 8 then (if x2 ≤ x1 then (F_Pro_part_210 x2) else (F_Pro_part_210 x1)) else (if x0 = 9 then (if x1 ≤ x2 then (F_Pro_part_221 x2) else (F_Pro_part_221 x1)) else (if x0 = 10 then (if x1 = (-2147483648) then (F_Pro_part_243 2147483647) else (if 0 ≤ x1 then (F_Pro_part_243 x1) else (F_Pro_part_243 (-x1)))) else (if x0 = 11 then (some (x1 &&& (-65536))) else (if x0 = 12 then (some (x1 &&& 65535)) else (if x0 = 13 then (F_Pro_part_369) else (if x0 = 14 then (F_Pro_part_369) else (if x0 = 15 then (F_Pro_part_369) else (if x0 = 16 then (if x2 ≤ x1 then (F_Pro_part_265 0) else (F_Pro_part_265 65536)) else (if x0 = 17 then (if x2 ≤ x1 then (F_Pro_part_277 65536) else (F_Pro_part_277 0)) else (if x0 = 18 then (if x1 = x2 then (F_Pro_part_289 65536) else (F_Pro_part_289 0)) else (if x0 = 19 then (if x1 = x2 then (F_Pro_part_301 0) else (F_Pro_part_301 65536)) else (if x0 = 20 then (if x1 < 0 then (F_Pro_part_311 x3) else (F_Pro_part_311 x2)) else (if x0 = 21 then (bd (F_Pro_product x1 (x2 - x3)) (fun o67 => some (o67 + x3))) else (if x0 = 22 then (F_Pro_part_369) else (if x0 = 23 then (some (x1 &&& x2)) else (if x0 = 24 then (some (x1 ||| x2)) else (if x0 = 25 then (some (x1 ^^^ x2)) else (if x0 = 26 then (some (x1 ^^^ (-1))) else (if x0 = 27 then (some (x1 <<< ((x2 &&& 31) &&& 31))) else (if x0 = 28 then (some (x1 >>> ((x2 &&& 31) &&& 31))) else (if x0 = 29 then (some (ushr x1 (x2 &&& 31))) else (if x0 = 30 then (F_Pro_part_369) else (if x0 = 31 then (F_Pro_part_369) else (if x0 = 32 then (F_Pro_part_369) else (if x0 = 33 then (F_Pro_part_369) else (if x0 = 34 then (F_Pro_part_369) else (if x0 = 35 then (F_Pro_part_369) else (if x0 = 36 then (F_Pro_part_369) else (if x0 = 37 then (F_Pro_part_369) else (if x0 = 38 then (F_Pro_part_369) else (if x0 = 39 then (some (x1 >>> 16)) else (if x0 = 40 then (some (x1 <<< 16)) else (F_Pro_part_369))))))))))))))))))))))))))))))))))))))))
set_option maxRecDepth 10000 in
set_option maxHeartbeats 4000000 in
theorem c_Pro_part (l : Launch) (D : va_G) (τ : ClassId × ClassId × ClassId) (B : Nat) (σ0 : Sg) (ad : Nat → Nat) (x0 : Int32) (x1 : Int32) (x2 : Int32) (x3 : Int32) (o : Int32) (h : F_Pro_part x0 x1 x2 x3 = some o) : MI l y_Pro_part (Cond.code y_Pro_part prog_7_method_11_code 4 (some .int)) 1 D τ B [.int x0, .int x1, .int x2, .int x3] (wdC τ σ0 ad) (wdC τ σ0 ad) o := by
  refine en_i (by decide) (Nat.le_of_ble_eq_true rfl) ?_
  intro p e R s m args below meth c H locs ls A E hret w hl
  have E : Cx p R s m args meth c prog_7_method_11_code 4 "DrawingMachine$Processor" 1 D τ B A := E
  have hl : lv_has ls 4 [(0, .int x0), (1, .int x1), (2, .int x2), (3, .int x3)] := hl
  refine lv_iload_n E.x E.b d_Pro_part_0 rfl (lv_at hl 0 rfl) ?_
  by_cases q44 : x0 = 1
  ·
    replace h := ifT q44 h
    refine wi_e (v := 1) q44 ?_
    refine lv_tableIn (off := 175) (tgt := 176) E.x E.b d_Pro_part_1 (by decide) (by decide) (by decide) (by decide) ?_
    refine lv_iload_n E.x E.b d_Pro_part_176 rfl (lv_at hl 1 rfl) ?_
    obtain rfl := Option.some.inj h
    exact rt_i E w hret d_Pro_part_177
  replace h := ifF q44 h
  replace q44 := ne_ti (k := 1) (by decide) q44
  by_cases q45 : x0 = 2
  ·
    replace h := ifT q45 h
    refine wi_e (v := 2) q45 ?_
    refine lv_tableIn (off := 177) (tgt := 178) E.x E.b d_Pro_part_1 (by decide) (by decide) (by decide) (by decide) ?_
    refine lv_iload_n E.x E.b d_Pro_part_178 rfl (lv_at hl 1 rfl) ?_
    refine lv_iload_n E.x E.b d_Pro_part_179 rfl (lv_at hl 2 rfl) ?_
    refine lv_iadd E.x E.b d_Pro_part_180 ?_
    obtain rfl := Option.some.inj h
    exact rt_i E w hret d_Pro_part_181
  replace h := ifF q45 h
  replace q45 := ne_ti (k := 2) (by decide) q45
  by_cases q46 : x0 = 3
  ·
    replace h := ifT q46 h
    refine wi_e (v := 3) q46 ?_
    refine lv_tableIn (off := 181) (tgt := 182) E.x E.b d_Pro_part_1 (by decide) (by decide) (by decide) (by decide) ?_
    refine lv_iload_n E.x E.b d_Pro_part_182 rfl (lv_at hl 1 rfl) ?_
    refine lv_iload_n E.x E.b d_Pro_part_183 rfl (lv_at hl 2 rfl) ?_
    refine lv_isub E.x E.b d_Pro_part_184 ?_
    obtain rfl := Option.some.inj h
    exact rt_i E w hret d_Pro_part_185
  replace h := ifF q46 h
  replace q46 := ne_ti (k := 3) (by decide) q46
  by_cases q47 : x0 = 4
  ·
    replace h := ifT q47 h
    refine wi_e (v := 4) q47 ?_
    refine lv_tableIn (off := 185) (tgt := 186) E.x E.b d_Pro_part_1 (by decide) (by decide) (by decide) (by decide) ?_
    refine lv_iload_n E.x E.b d_Pro_part_186 rfl (lv_at hl 1 rfl) ?_
    refine lv_iload_n E.x E.b d_Pro_part_187 rfl (lv_at hl 2 rfl) ?_
    obtain ⟨o48, h_o48, h⟩ := bd_some h
    refine clS_Pro_product E w (x0 := x1) (x1 := x2) h_o48 k1095 (by decide) hl.1 (Nat.le_of_ble_eq_true rfl) d_Pro_part_188 (fun H locs w => ?_)
    obtain rfl := Option.some.inj h
    exact rt_i E w hret d_Pro_part_191
  replace h := ifF q47 h
  replace q47 := ne_ti (k := 4) (by decide) q47
  by_cases q49 : x0 = 5
  ·
    replace h := ifT q49 h
    refine wi_e (v := 5) q49 ?_
    refine lv_tableIn (off := 191) (tgt := 192) E.x E.b d_Pro_part_1 (by decide) (by decide) (by decide) (by decide) ?_
    refine lv_iload_n E.x E.b d_Pro_part_192 rfl (lv_at hl 1 rfl) ?_
    refine lv_iload_n E.x E.b d_Pro_part_193 rfl (lv_at hl 2 rfl) ?_
    obtain ⟨o50, h_o50, h⟩ := bd_some h
    refine clS_Pro_product E w (x0 := x1) (x1 := x2) h_o50 k1095 (by decide) hl.1 (Nat.le_of_ble_eq_true rfl) d_Pro_part_194 (fun H locs w => ?_)
    refine lv_iload_n E.x E.b d_Pro_part_197 rfl (lv_at hl 3 rfl) ?_
    refine lv_iadd E.x E.b d_Pro_part_198 ?_
    obtain rfl := Option.some.inj h
    exact rt_i E w hret d_Pro_part_199
  replace h := ifF q49 h
  replace q49 := ne_ti (k := 5) (by decide) q49
  by_cases q51 : x0 = 6
  ·
    replace h := ifT q51 h
    refine wi_e (v := 6) q51 ?_
    refine lv_tableIn (off := 368) (tgt := 369) E.x E.b d_Pro_part_1 (by decide) (by decide) (by decide) (by decide) ?_
    exact bt_Pro_part_369 E hret o h w (lv_sub hl [] rfl)
  replace h := ifF q51 h
  replace q51 := ne_ti (k := 6) (by decide) q51
  by_cases q52 : x0 = 7
  ·
    replace h := ifT q52 h
    refine wi_e (v := 7) q52 ?_
    refine lv_tableIn (off := 368) (tgt := 369) E.x E.b d_Pro_part_1 (by decide) (by decide) (by decide) (by decide) ?_
    exact bt_Pro_part_369 E hret o h w (lv_sub hl [] rfl)
  replace h := ifF q52 h
  replace q52 := ne_ti (k := 7) (by decide) q52
  by_cases q53 : x0 = 8
  ·
    replace h := ifT q53 h
    refine wi_e (v := 8) q53 ?_
    refine lv_tableIn (off := 199) (tgt := 200) E.x E.b d_Pro_part_1 (by decide) (by decide) (by decide) (by decide) ?_
    refine lv_iload_n E.x E.b d_Pro_part_200 rfl (lv_at hl 1 rfl) ?_
    refine lv_iload_n E.x E.b d_Pro_part_201 rfl (lv_at hl 2 rfl) ?_
    refine lv_icmp_ge (tgt := 209) E.x E.b d_Pro_part_202 (by decide) (fun c => ?_) (fun c => ?_)
    ·
      replace h := ifT c h
      refine lv_iload_n E.x E.b d_Pro_part_209 rfl (lv_at hl 2 rfl) ?_
      exact bt_Pro_part_210 E hret o x2 h w (lv_sub hl [] rfl)
    ·
      replace h := ifF c h
      refine lv_iload_n E.x E.b d_Pro_part_205 rfl (lv_at hl 1 rfl) ?_
      refine lv_goto (tgt := 210) E.x E.b d_Pro_part_206 (by decide) ?_
      exact bt_Pro_part_210 E hret o x1 h w (lv_sub hl [] rfl)
  replace h := ifF q53 h
  replace q53 := ne_ti (k := 8) (by decide) q53
  by_cases q54 : x0 = 9
  ·
    replace h := ifT q54 h
    refine wi_e (v := 9) q54 ?_
    refine lv_tableIn (off := 210) (tgt := 211) E.x E.b d_Pro_part_1 (by decide) (by decide) (by decide) (by decide) ?_
    refine lv_iload_n E.x E.b d_Pro_part_211 rfl (lv_at hl 1 rfl) ?_
    refine lv_iload_n E.x E.b d_Pro_part_212 rfl (lv_at hl 2 rfl) ?_
    refine lv_icmp_le (tgt := 220) E.x E.b d_Pro_part_213 (by decide) (fun c => ?_) (fun c => ?_)
    ·
      replace h := ifT c h
      refine lv_iload_n E.x E.b d_Pro_part_220 rfl (lv_at hl 2 rfl) ?_
      exact bt_Pro_part_221 E hret o x2 h w (lv_sub hl [] rfl)
    ·
      replace h := ifF c h
      refine lv_iload_n E.x E.b d_Pro_part_216 rfl (lv_at hl 1 rfl) ?_
      refine lv_goto (tgt := 221) E.x E.b d_Pro_part_217 (by decide) ?_
      exact bt_Pro_part_221 E hret o x1 h w (lv_sub hl [] rfl)
  replace h := ifF q54 h
  replace q54 := ne_ti (k := 9) (by decide) q54
  by_cases q55 : x0 = 10
  ·
    replace h := ifT q55 h
    refine wi_e (v := 10) q55 ?_
    refine lv_tableIn (off := 221) (tgt := 222) E.x E.b d_Pro_part_1 (by decide) (by decide) (by decide) (by decide) ?_
    refine lv_iload_n E.x E.b d_Pro_part_222 rfl (lv_at hl 1 rfl) ?_
    refine lv_ldc (v := (-2147483648)) E.x E.b E.o (E.w _ k1111) d_Pro_part_223 ?_
    refine lv_icmp_ne (tgt := 233) E.x E.b d_Pro_part_225 (by decide) (fun c => ?_) (fun c => ?_)
    ·
      replace h := ifF c h
      refine lv_iload_n E.x E.b d_Pro_part_233 rfl (lv_at hl 1 rfl) ?_
      refine lv_if_ge (tgt := 242) E.x E.b d_Pro_part_234 (by decide) (fun c => ?_) (fun c => ?_)
      ·
        replace h := ifT c h
        refine lv_iload_n E.x E.b d_Pro_part_242 rfl (lv_at hl 1 rfl) ?_
        exact bt_Pro_part_243 E hret o x1 h w (lv_sub hl [] rfl)
      ·
        replace h := ifF c h
        refine lv_iload_n E.x E.b d_Pro_part_237 rfl (lv_at hl 1 rfl) ?_
        refine lv_ineg E.x E.b d_Pro_part_238 ?_
        refine lv_goto (tgt := 243) E.x E.b d_Pro_part_239 (by decide) ?_
        exact bt_Pro_part_243 E hret o (-x1) h w (lv_sub hl [] rfl)
    ·
      replace h := ifT c h
      refine lv_ldc (v := 2147483647) E.x E.b E.o (E.w _ k1106) d_Pro_part_228 ?_
      refine lv_goto (tgt := 243) E.x E.b d_Pro_part_230 (by decide) ?_
      exact bt_Pro_part_243 E hret o 2147483647 h w (lv_sub hl [] rfl)
  replace h := ifF q55 h
  replace q55 := ne_ti (k := 10) (by decide) q55
  by_cases q56 : x0 = 11
  ·
    replace h := ifT q56 h
    refine wi_e (v := 11) q56 ?_
    refine lv_tableIn (off := 243) (tgt := 244) E.x E.b d_Pro_part_1 (by decide) (by decide) (by decide) (by decide) ?_
    refine lv_iload_n E.x E.b d_Pro_part_244 rfl (lv_at hl 1 rfl) ?_
    refine lv_ldc (v := (-65536)) E.x E.b E.o (E.w _ k1130) d_Pro_part_245 ?_
    refine lv_iand E.x E.b d_Pro_part_247 ?_
    obtain rfl := Option.some.inj h
    exact rt_i E w hret d_Pro_part_248
  replace h := ifF q56 h
  replace q56 := ne_ti (k := 11) (by decide) q56
  by_cases q57 : x0 = 12
  ·
    replace h := ifT q57 h
    refine wi_e (v := 12) q57 ?_
    refine lv_tableIn (off := 248) (tgt := 249) E.x E.b d_Pro_part_1 (by decide) (by decide) (by decide) (by decide) ?_
    refine lv_iload_n E.x E.b d_Pro_part_249 rfl (lv_at hl 1 rfl) ?_
    refine lv_ldc (v := 65535) E.x E.b E.o (E.w _ k1036) d_Pro_part_250 ?_
    refine lv_iand E.x E.b d_Pro_part_252 ?_
    obtain rfl := Option.some.inj h
    exact rt_i E w hret d_Pro_part_253
  replace h := ifF q57 h
  replace q57 := ne_ti (k := 12) (by decide) q57
  by_cases q58 : x0 = 13
  ·
    replace h := ifT q58 h
    refine wi_e (v := 13) q58 ?_
    refine lv_tableIn (off := 368) (tgt := 369) E.x E.b d_Pro_part_1 (by decide) (by decide) (by decide) (by decide) ?_
    exact bt_Pro_part_369 E hret o h w (lv_sub hl [] rfl)
  replace h := ifF q58 h
  replace q58 := ne_ti (k := 13) (by decide) q58
  by_cases q59 : x0 = 14
  ·
    replace h := ifT q59 h
    refine wi_e (v := 14) q59 ?_
    refine lv_tableIn (off := 368) (tgt := 369) E.x E.b d_Pro_part_1 (by decide) (by decide) (by decide) (by decide) ?_
    exact bt_Pro_part_369 E hret o h w (lv_sub hl [] rfl)
  replace h := ifF q59 h
  replace q59 := ne_ti (k := 14) (by decide) q59
  by_cases q60 : x0 = 15
  ·
    replace h := ifT q60 h
    refine wi_e (v := 15) q60 ?_
    refine lv_tableIn (off := 368) (tgt := 369) E.x E.b d_Pro_part_1 (by decide) (by decide) (by decide) (by decide) ?_
    exact bt_Pro_part_369 E hret o h w (lv_sub hl [] rfl)
  replace h := ifF q60 h
  replace q60 := ne_ti (k := 15) (by decide) q60
  by_cases q61 : x0 = 16
  ·
    replace h := ifT q61 h
    refine wi_e (v := 16) q61 ?_
    refine lv_tableIn (off := 253) (tgt := 254) E.x E.b d_Pro_part_1 (by decide) (by decide) (by decide) (by decide) ?_
    refine lv_iload_n E.x E.b d_Pro_part_254 rfl (lv_at hl 1 rfl) ?_
    refine lv_iload_n E.x E.b d_Pro_part_255 rfl (lv_at hl 2 rfl) ?_
    refine lv_icmp_ge (tgt := 264) E.x E.b d_Pro_part_256 (by decide) (fun c => ?_) (fun c => ?_)
    ·
      replace h := ifT c h
      refine lv_iconst (v := 0) E.x E.b d_Pro_part_264 (by decide) ?_
      exact bt_Pro_part_265 E hret o 0 h w (lv_sub hl [] rfl)
    ·
      replace h := ifF c h
      refine lv_ldc (v := 65536) E.x E.b E.o (E.w _ k1029) d_Pro_part_259 ?_
      refine lv_goto (tgt := 265) E.x E.b d_Pro_part_261 (by decide) ?_
      exact bt_Pro_part_265 E hret o 65536 h w (lv_sub hl [] rfl)
  replace h := ifF q61 h
  replace q61 := ne_ti (k := 16) (by decide) q61
  by_cases q62 : x0 = 17
  ·
    replace h := ifT q62 h
    refine wi_e (v := 17) q62 ?_
    refine lv_tableIn (off := 265) (tgt := 266) E.x E.b d_Pro_part_1 (by decide) (by decide) (by decide) (by decide) ?_
    refine lv_iload_n E.x E.b d_Pro_part_266 rfl (lv_at hl 1 rfl) ?_
    refine lv_iload_n E.x E.b d_Pro_part_267 rfl (lv_at hl 2 rfl) ?_
    refine lv_icmp_ge (tgt := 275) E.x E.b d_Pro_part_268 (by decide) (fun c => ?_) (fun c => ?_)
    ·
      replace h := ifT c h
      refine lv_ldc (v := 65536) E.x E.b E.o (E.w _ k1029) d_Pro_part_275 ?_
      exact bt_Pro_part_277 E hret o 65536 h w (lv_sub hl [] rfl)
    ·
      replace h := ifF c h
      refine lv_iconst (v := 0) E.x E.b d_Pro_part_271 (by decide) ?_
      refine lv_goto (tgt := 277) E.x E.b d_Pro_part_272 (by decide) ?_
      exact bt_Pro_part_277 E hret o 0 h w (lv_sub hl [] rfl)
  replace h := ifF q62 h
  replace q62 := ne_ti (k := 17) (by decide) q62
  by_cases q63 : x0 = 18
  ·
    replace h := ifT q63 h
    refine wi_e (v := 18) q63 ?_
    refine lv_tableIn (off := 277) (tgt := 278) E.x E.b d_Pro_part_1 (by decide) (by decide) (by decide) (by decide) ?_
    refine lv_iload_n E.x E.b d_Pro_part_278 rfl (lv_at hl 1 rfl) ?_
    refine lv_iload_n E.x E.b d_Pro_part_279 rfl (lv_at hl 2 rfl) ?_
    refine lv_icmp_ne (tgt := 288) E.x E.b d_Pro_part_280 (by decide) (fun c => ?_) (fun c => ?_)
    ·
      replace h := ifF c h
      refine lv_iconst (v := 0) E.x E.b d_Pro_part_288 (by decide) ?_
      exact bt_Pro_part_289 E hret o 0 h w (lv_sub hl [] rfl)
    ·
      replace h := ifT c h
      refine lv_ldc (v := 65536) E.x E.b E.o (E.w _ k1029) d_Pro_part_283 ?_
      refine lv_goto (tgt := 289) E.x E.b d_Pro_part_285 (by decide) ?_
      exact bt_Pro_part_289 E hret o 65536 h w (lv_sub hl [] rfl)
  replace h := ifF q63 h
  replace q63 := ne_ti (k := 18) (by decide) q63
  by_cases q64 : x0 = 19
  ·
    replace h := ifT q64 h
    refine wi_e (v := 19) q64 ?_
    refine lv_tableIn (off := 289) (tgt := 290) E.x E.b d_Pro_part_1 (by decide) (by decide) (by decide) (by decide) ?_
    refine lv_iload_n E.x E.b d_Pro_part_290 rfl (lv_at hl 1 rfl) ?_
    refine lv_iload_n E.x E.b d_Pro_part_291 rfl (lv_at hl 2 rfl) ?_
    refine lv_icmp_ne (tgt := 299) E.x E.b d_Pro_part_292 (by decide) (fun c => ?_) (fun c => ?_)
    ·
      replace h := ifF c h
      refine lv_ldc (v := 65536) E.x E.b E.o (E.w _ k1029) d_Pro_part_299 ?_
      exact bt_Pro_part_301 E hret o 65536 h w (lv_sub hl [] rfl)
    ·
      replace h := ifT c h
      refine lv_iconst (v := 0) E.x E.b d_Pro_part_295 (by decide) ?_
      refine lv_goto (tgt := 301) E.x E.b d_Pro_part_296 (by decide) ?_
      exact bt_Pro_part_301 E hret o 0 h w (lv_sub hl [] rfl)
  replace h := ifF q64 h
  replace q64 := ne_ti (k := 19) (by decide) q64
  by_cases q65 : x0 = 20
  ·
    replace h := ifT q65 h
    refine wi_e (v := 20) q65 ?_
    refine lv_tableIn (off := 301) (tgt := 302) E.x E.b d_Pro_part_1 (by decide) (by decide) (by decide) (by decide) ?_
    refine lv_iload_n E.x E.b d_Pro_part_302 rfl (lv_at hl 1 rfl) ?_
    refine lv_if_lt (tgt := 310) E.x E.b d_Pro_part_303 (by decide) (fun c => ?_) (fun c => ?_)
    ·
      replace h := ifT c h
      refine lv_iload_n E.x E.b d_Pro_part_310 rfl (lv_at hl 3 rfl) ?_
      exact bt_Pro_part_311 E hret o x3 h w (lv_sub hl [] rfl)
    ·
      replace h := ifF c h
      refine lv_iload_n E.x E.b d_Pro_part_306 rfl (lv_at hl 2 rfl) ?_
      refine lv_goto (tgt := 311) E.x E.b d_Pro_part_307 (by decide) ?_
      exact bt_Pro_part_311 E hret o x2 h w (lv_sub hl [] rfl)
  replace h := ifF q65 h
  replace q65 := ne_ti (k := 20) (by decide) q65
  by_cases q66 : x0 = 21
  ·
    replace h := ifT q66 h
    refine wi_e (v := 21) q66 ?_
    refine lv_tableIn (off := 311) (tgt := 312) E.x E.b d_Pro_part_1 (by decide) (by decide) (by decide) (by decide) ?_
    refine lv_iload_n E.x E.b d_Pro_part_312 rfl (lv_at hl 1 rfl) ?_
    refine lv_iload_n E.x E.b d_Pro_part_313 rfl (lv_at hl 2 rfl) ?_
    refine lv_iload_n E.x E.b d_Pro_part_314 rfl (lv_at hl 3 rfl) ?_
    refine lv_isub E.x E.b d_Pro_part_315 ?_
    obtain ⟨o67, h_o67, h⟩ := bd_some h
    refine clS_Pro_product E w (x0 := x1) (x1 := (x2 - x3)) h_o67 k1095 (by decide) hl.1 (Nat.le_of_ble_eq_true rfl) d_Pro_part_316 (fun H locs w => ?_)
    refine lv_iload_n E.x E.b d_Pro_part_319 rfl (lv_at hl 3 rfl) ?_
    refine lv_iadd E.x E.b d_Pro_part_320 ?_
    obtain rfl := Option.some.inj h
    exact rt_i E w hret d_Pro_part_321
  replace h := ifF q66 h
  replace q66 := ne_ti (k := 21) (by decide) q66
  by_cases q68 : x0 = 22
  ·
    replace h := ifT q68 h
    refine wi_e (v := 22) q68 ?_
    refine lv_tableIn (off := 368) (tgt := 369) E.x E.b d_Pro_part_1 (by decide) (by decide) (by decide) (by decide) ?_
    exact bt_Pro_part_369 E hret o h w (lv_sub hl [] rfl)
  replace h := ifF q68 h
  replace q68 := ne_ti (k := 22) (by decide) q68
  by_cases q69 : x0 = 23
  ·
    replace h := ifT q69 h
    refine wi_e (v := 23) q69 ?_
    refine lv_tableIn (off := 321) (tgt := 322) E.x E.b d_Pro_part_1 (by decide) (by decide) (by decide) (by decide) ?_
    refine lv_iload_n E.x E.b d_Pro_part_322 rfl (lv_at hl 1 rfl) ?_
    refine lv_iload_n E.x E.b d_Pro_part_323 rfl (lv_at hl 2 rfl) ?_
    refine lv_iand E.x E.b d_Pro_part_324 ?_
    obtain rfl := Option.some.inj h
    exact rt_i E w hret d_Pro_part_325
  replace h := ifF q69 h
  replace q69 := ne_ti (k := 23) (by decide) q69
  by_cases q70 : x0 = 24
  ·
    replace h := ifT q70 h
    refine wi_e (v := 24) q70 ?_
    refine lv_tableIn (off := 325) (tgt := 326) E.x E.b d_Pro_part_1 (by decide) (by decide) (by decide) (by decide) ?_
    refine lv_iload_n E.x E.b d_Pro_part_326 rfl (lv_at hl 1 rfl) ?_
    refine lv_iload_n E.x E.b d_Pro_part_327 rfl (lv_at hl 2 rfl) ?_
    refine lv_ior E.x E.b d_Pro_part_328 ?_
    obtain rfl := Option.some.inj h
    exact rt_i E w hret d_Pro_part_329
  replace h := ifF q70 h
  replace q70 := ne_ti (k := 24) (by decide) q70
  by_cases q71 : x0 = 25
  ·
    replace h := ifT q71 h
    refine wi_e (v := 25) q71 ?_
    refine lv_tableIn (off := 329) (tgt := 330) E.x E.b d_Pro_part_1 (by decide) (by decide) (by decide) (by decide) ?_
    refine lv_iload_n E.x E.b d_Pro_part_330 rfl (lv_at hl 1 rfl) ?_
    refine lv_iload_n E.x E.b d_Pro_part_331 rfl (lv_at hl 2 rfl) ?_
    refine lv_ixor E.x E.b d_Pro_part_332 ?_
    obtain rfl := Option.some.inj h
    exact rt_i E w hret d_Pro_part_333
  replace h := ifF q71 h
  replace q71 := ne_ti (k := 25) (by decide) q71
  by_cases q72 : x0 = 26
  ·
    replace h := ifT q72 h
    refine wi_e (v := 26) q72 ?_
    refine lv_tableIn (off := 333) (tgt := 334) E.x E.b d_Pro_part_1 (by decide) (by decide) (by decide) (by decide) ?_
    refine lv_iload_n E.x E.b d_Pro_part_334 rfl (lv_at hl 1 rfl) ?_
    refine lv_iconst (v := (-1)) E.x E.b d_Pro_part_335 (by decide) ?_
    refine lv_ixor E.x E.b d_Pro_part_336 ?_
    obtain rfl := Option.some.inj h
    exact rt_i E w hret d_Pro_part_337
  replace h := ifF q72 h
  replace q72 := ne_ti (k := 26) (by decide) q72
  by_cases q73 : x0 = 27
  ·
    replace h := ifT q73 h
    refine wi_e (v := 27) q73 ?_
    refine lv_tableIn (off := 337) (tgt := 338) E.x E.b d_Pro_part_1 (by decide) (by decide) (by decide) (by decide) ?_
    refine lv_iload_n E.x E.b d_Pro_part_338 rfl (lv_at hl 1 rfl) ?_
    refine lv_iload_n E.x E.b d_Pro_part_339 rfl (lv_at hl 2 rfl) ?_
    refine lv_bipush (v := 31) E.x E.b d_Pro_part_340 (by decide) ?_
    refine lv_iand E.x E.b d_Pro_part_342 ?_
    refine lv_ishl E.x E.b d_Pro_part_343 ?_
    obtain rfl := Option.some.inj h
    exact rt_i E w hret d_Pro_part_344
  replace h := ifF q73 h
  replace q73 := ne_ti (k := 27) (by decide) q73
  by_cases q74 : x0 = 28
  ·
    replace h := ifT q74 h
    refine wi_e (v := 28) q74 ?_
    refine lv_tableIn (off := 344) (tgt := 345) E.x E.b d_Pro_part_1 (by decide) (by decide) (by decide) (by decide) ?_
    refine lv_iload_n E.x E.b d_Pro_part_345 rfl (lv_at hl 1 rfl) ?_
    refine lv_iload_n E.x E.b d_Pro_part_346 rfl (lv_at hl 2 rfl) ?_
    refine lv_bipush (v := 31) E.x E.b d_Pro_part_347 (by decide) ?_
    refine lv_iand E.x E.b d_Pro_part_349 ?_
    refine lv_ishr E.x E.b d_Pro_part_350 ?_
    obtain rfl := Option.some.inj h
    exact rt_i E w hret d_Pro_part_351
  replace h := ifF q74 h
  replace q74 := ne_ti (k := 28) (by decide) q74
  by_cases q75 : x0 = 29
  ·
    replace h := ifT q75 h
    refine wi_e (v := 29) q75 ?_
    refine lv_tableIn (off := 351) (tgt := 352) E.x E.b d_Pro_part_1 (by decide) (by decide) (by decide) (by decide) ?_
    refine lv_iload_n E.x E.b d_Pro_part_352 rfl (lv_at hl 1 rfl) ?_
    refine lv_iload_n E.x E.b d_Pro_part_353 rfl (lv_at hl 2 rfl) ?_
    refine lv_bipush (v := 31) E.x E.b d_Pro_part_354 (by decide) ?_
    refine lv_iand E.x E.b d_Pro_part_356 ?_
    refine lv_iushr (v := ushr x1 (x2 &&& 31)) E.x E.b d_Pro_part_357 rfl ?_
    obtain rfl := Option.some.inj h
    exact rt_i E w hret d_Pro_part_358
  replace h := ifF q75 h
  replace q75 := ne_ti (k := 29) (by decide) q75
  by_cases q76 : x0 = 30
  ·
    replace h := ifT q76 h
    refine wi_e (v := 30) q76 ?_
    refine lv_tableIn (off := 368) (tgt := 369) E.x E.b d_Pro_part_1 (by decide) (by decide) (by decide) (by decide) ?_
    exact bt_Pro_part_369 E hret o h w (lv_sub hl [] rfl)
  replace h := ifF q76 h
  replace q76 := ne_ti (k := 30) (by decide) q76
  by_cases q77 : x0 = 31
  ·
    replace h := ifT q77 h
    refine wi_e (v := 31) q77 ?_
    refine lv_tableIn (off := 368) (tgt := 369) E.x E.b d_Pro_part_1 (by decide) (by decide) (by decide) (by decide) ?_
    exact bt_Pro_part_369 E hret o h w (lv_sub hl [] rfl)
  replace h := ifF q77 h
  replace q77 := ne_ti (k := 31) (by decide) q77
  by_cases q78 : x0 = 32
  ·
    replace h := ifT q78 h
    refine wi_e (v := 32) q78 ?_
    refine lv_tableIn (off := 368) (tgt := 369) E.x E.b d_Pro_part_1 (by decide) (by decide) (by decide) (by decide) ?_
    exact bt_Pro_part_369 E hret o h w (lv_sub hl [] rfl)
  replace h := ifF q78 h
  replace q78 := ne_ti (k := 32) (by decide) q78
  by_cases q79 : x0 = 33
  ·
    replace h := ifT q79 h
    refine wi_e (v := 33) q79 ?_
    refine lv_tableIn (off := 368) (tgt := 369) E.x E.b d_Pro_part_1 (by decide) (by decide) (by decide) (by decide) ?_
    exact bt_Pro_part_369 E hret o h w (lv_sub hl [] rfl)
  replace h := ifF q79 h
  replace q79 := ne_ti (k := 33) (by decide) q79
  by_cases q80 : x0 = 34
  ·
    replace h := ifT q80 h
    refine wi_e (v := 34) q80 ?_
    refine lv_tableIn (off := 368) (tgt := 369) E.x E.b d_Pro_part_1 (by decide) (by decide) (by decide) (by decide) ?_
    exact bt_Pro_part_369 E hret o h w (lv_sub hl [] rfl)
  replace h := ifF q80 h
  replace q80 := ne_ti (k := 34) (by decide) q80
  by_cases q81 : x0 = 35
  ·
    replace h := ifT q81 h
    refine wi_e (v := 35) q81 ?_
    refine lv_tableIn (off := 368) (tgt := 369) E.x E.b d_Pro_part_1 (by decide) (by decide) (by decide) (by decide) ?_
    exact bt_Pro_part_369 E hret o h w (lv_sub hl [] rfl)
  replace h := ifF q81 h
  replace q81 := ne_ti (k := 35) (by decide) q81
  by_cases q82 : x0 = 36
  ·
    replace h := ifT q82 h
    refine wi_e (v := 36) q82 ?_
    refine lv_tableIn (off := 368) (tgt := 369) E.x E.b d_Pro_part_1 (by decide) (by decide) (by decide) (by decide) ?_
    exact bt_Pro_part_369 E hret o h w (lv_sub hl [] rfl)
  replace h := ifF q82 h
  replace q82 := ne_ti (k := 36) (by decide) q82
  by_cases q83 : x0 = 37
  ·
    replace h := ifT q83 h
    refine wi_e (v := 37) q83 ?_
    refine lv_tableIn (off := 368) (tgt := 369) E.x E.b d_Pro_part_1 (by decide) (by decide) (by decide) (by decide) ?_
    exact bt_Pro_part_369 E hret o h w (lv_sub hl [] rfl)
  replace h := ifF q83 h
  replace q83 := ne_ti (k := 37) (by decide) q83
  by_cases q84 : x0 = 38
  ·
    replace h := ifT q84 h
    refine wi_e (v := 38) q84 ?_
    refine lv_tableIn (off := 368) (tgt := 369) E.x E.b d_Pro_part_1 (by decide) (by decide) (by decide) (by decide) ?_
    exact bt_Pro_part_369 E hret o h w (lv_sub hl [] rfl)
  replace h := ifF q84 h
  replace q84 := ne_ti (k := 38) (by decide) q84
  by_cases q85 : x0 = 39
  ·
    replace h := ifT q85 h
    refine wi_e (v := 39) q85 ?_
    refine lv_tableIn (off := 358) (tgt := 359) E.x E.b d_Pro_part_1 (by decide) (by decide) (by decide) (by decide) ?_
    refine lv_iload_n E.x E.b d_Pro_part_359 rfl (lv_at hl 1 rfl) ?_
    refine lv_bipush (v := 16) E.x E.b d_Pro_part_360 (by decide) ?_
    refine lv_ishr E.x E.b d_Pro_part_362 ?_
    refine wi_e (v := x1 >>> 16) rfl ?_
    obtain rfl := Option.some.inj h
    exact rt_i E w hret d_Pro_part_363
  replace h := ifF q85 h
  replace q85 := ne_ti (k := 39) (by decide) q85
  by_cases q86 : x0 = 40
  ·
    replace h := ifT q86 h
    refine wi_e (v := 40) q86 ?_
    refine lv_tableIn (off := 363) (tgt := 364) E.x E.b d_Pro_part_1 (by decide) (by decide) (by decide) (by decide) ?_
    refine lv_iload_n E.x E.b d_Pro_part_364 rfl (lv_at hl 1 rfl) ?_
    refine lv_bipush (v := 16) E.x E.b d_Pro_part_365 (by decide) ?_
    refine lv_ishl E.x E.b d_Pro_part_367 ?_
    refine wi_e (v := x1 <<< 16) rfl ?_
    obtain rfl := Option.some.inj h
    exact rt_i E w hret d_Pro_part_368
  replace h := ifF q86 h
  replace q86 := ne_ti (k := 40) (by decide) q86
  refine lv_tableOut (tgt := 369) E.x E.b d_Pro_part_1 (by omega) (by decide) ?_
  exact bt_Pro_part_369 E hret o h w (lv_sub hl [] rfl)
theorem clS_Pro_part {p : Program} {l : Launch} {e : Env} {R : Room} {s : State} {m : MethodId} {args : Array Value} {below : List Frame} {meth : Method} {c : Code} {H : Heap} {locs : List Loc} {Q : State → Prop} {cc : ByteArray} {nL pc lev : Nat} {own : String} {D : va_G} {τ : ClassId × ClassId × ClassId} {B : Nat} {A : Nat → Prop} {σ : Sg} {ad : Nat → Nat} {ls : Array Slot} {rest : List Value} (E : Cx p R s m args meth c cc nL own lev D τ B A) (w : Wd s D A (wdC τ σ ad) H locs) {x0 : Int32} {x1 : Int32} {x2 : Int32} {x3 : Int32} {o : Int32} (h : F_Pro_part x0 x1 x2 x3 = some o) {index : Nat} (hlk : Cond.methodLink own index y_Pro_part ∈ tw) (hlev : 1 < lev) (hsz : ls.size = nL) (hr : (rest.map fun v => v.category).sum ≤ 8) (hd : decode cc pc = .ok (.invokestatic index, 3)) (kk : ∀ (H1 : Heap) (locs1 : List Loc), Wd s D A (wdC τ σ ad) H1 locs1 → W p l e R s m args below meth c H1 locs1 0 0 Q (F0 m (pc + 3) ls (.int o :: rest))) : W p l e R s m args below meth c H locs 0 0 Q (F0 m pc ls (.int x3 :: .int x2 :: .int x1 :: .int x0 :: rest)) :=
  cr_i w E.C (va_runS (As := [.int x0, .int x1, .int x2, .int x3]) (rest := rest) E.fix (c_Pro_part l D τ B σ ad x0 x1 x2 x3 o h H.size) (va_cwS 4 E.w (tw_pre (tw_good k1129) (l := [_, _, _]) (List.forall_mem_cons.mpr ⟨hlk, List.forall_mem_cons.mpr ⟨k1128, List.forall_mem_cons.mpr ⟨k8, fun _ h => absurd h List.not_mem_nil⟩⟩⟩)) rfl rfl rfl (by decide +kernel) (E.rm hlev (by decide))) (wd_pre w E.C [.int x0, .int x1, .int x2, .int x3]) rfl rfl hsz rfl (lv_room hr) hd ⟨Nat.zero_le _, Nat.zero_le _⟩) kk

theorem d_Pro_setAll_0 : decode prog_7_method_7_code 0 = .ok (.aload_n 0, 1) := by decide +kernel
theorem d_Pro_setAll_1 : decode prog_7_method_7_code 1 = .ok (.getfield 24, 3) := by decide +kernel
theorem d_Pro_setAll_4 : decode prog_7_method_7_code 4 = .ok (.iload_n 1, 1) := by decide +kernel
theorem d_Pro_setAll_5 : decode prog_7_method_7_code 5 = .ok (.invokestatic 124, 3) := by decide +kernel
theorem d_Pro_setAll_8 : decode prog_7_method_7_code 8 = .ok (.return_, 1) := by decide +kernel
def F_Pro_setAll (σ : Sg) (x0 : Int32) : Option (Sg) := bd (F_Arr_fill σ 14 x0) (fun o2 => some o2)
set_option maxRecDepth 10000 in
set_option maxHeartbeats 4000000 in
theorem c_Pro_setAll (l : Launch) (D : va_G) (τ : ClassId × ClassId × ClassId) (B : Nat) (σ : Sg) (ad : Nat → Nat) (x0 : Int32) (o : Sg) (h : F_Pro_setAll σ x0 = some o) : MV l y_Pro_setAll (Cond.code y_Pro_setAll prog_7_method_7_code 2 none) 1 D τ B [.ref (ad 62), .int x0] (wdC τ σ ad) (wdC τ o ad) := by
  refine en_v (by decide) (Nat.le_of_ble_eq_true rfl) ?_
  intro p e R s m args below meth c H locs ls A E hret w hl
  have E : Cx p R s m args meth c prog_7_method_7_code 2 "DrawingMachine$Processor" 1 D τ B A := E
  have hl : lv_has ls 2 [(0, .ref (ad 62)), (1, .int x0)] := hl
  refine lv_aload_n E.x E.b d_Pro_setAll_0 rfl (lv_at hl 0 rfl) ?_
  refine gC_Pro_result E w k243 d_Pro_setAll_1 ?_
  refine lv_iload_n E.x E.b d_Pro_setAll_4 rfl (lv_at hl 1 rfl) ?_
  obtain ⟨o2, h_o2, h⟩ := bd_some h
  refine clS_Arr_fill E w (ar0 := 14) (x1 := x0) h_o2 k1102 (by decide) hl.1 (Nat.le_of_ble_eq_true rfl) d_Pro_setAll_5 (fun H locs w => ?_)
  obtain rfl := Option.some.inj h
  exact rt_v E w hret d_Pro_setAll_8
theorem clV_Pro_setAll {p : Program} {l : Launch} {e : Env} {R : Room} {s : State} {m : MethodId} {args : Array Value} {below : List Frame} {meth : Method} {c : Code} {H : Heap} {locs : List Loc} {Q : State → Prop} {cc : ByteArray} {nL pc lev : Nat} {own : String} {D : va_G} {τ : ClassId × ClassId × ClassId} {B : Nat} {A : Nat → Prop} {σ : Sg} {ad : Nat → Nat} {ls : Array Slot} {rest : List Value} (E : Cx p R s m args meth c cc nL own lev D τ B A) (w : Wd s D A (wdC τ σ ad) H locs) {x0 : Int32} {o : Sg} (h : F_Pro_setAll σ x0 = some o) {index : Nat} (hlk : Cond.methodLink own index y_Pro_setAll ∈ tw) (hlev : 1 < lev) (hsz : ls.size = nL) (hr : (rest.map fun v => v.category).sum ≤ 8) (hd : decode cc pc = .ok (.invokevirtual index, 3)) (kk : ∀ (H1 : Heap) (locs1 : List Loc), Wd s D A (wdC τ o ad) H1 locs1 → W p l e R s m args below meth c H1 locs1 0 0 Q (F0 m (pc + 3) ls (rest))) : W p l e R s m args below meth c H locs 0 0 Q (F0 m pc ls (.int x0 :: .ref (ad 62) :: rest)) :=
  cr_v w E.C (va_runV (As := [.int x0]) (rest := rest) E.fix (c_Pro_setAll l D τ B σ ad x0 o h H.size) (cwV 1 E.w (tw_pre (tw_good k1101) (l := [_, _, _, _]) (List.forall_mem_cons.mpr ⟨hlk, List.forall_mem_cons.mpr ⟨k1100, List.forall_mem_cons.mpr ⟨ks19, List.forall_mem_cons.mpr ⟨k8, fun _ h => absurd h List.not_mem_nil⟩⟩⟩⟩)) rfl rfl rfl (by decide +kernel) (E.rm hlev (by decide))) (wd_preV w E.C [.int x0] rcC_Pro rfl) rfl rfl hsz rfl (lv_room hr) hd ⟨Nat.zero_le _, Nat.zero_le _⟩) kk

theorem d_Pro_readUniform_0 : decode prog_7_method_10_code 0 = .ok (.iload_n 1, 1) := by decide +kernel
theorem d_Pro_readUniform_1 : decode prog_7_method_10_code 1 = .ok (.ifCond .lt 31, 3) := by decide +kernel
theorem d_Pro_readUniform_4 : decode prog_7_method_10_code 4 = .ok (.iload_n 1, 1) := by decide +kernel
theorem d_Pro_readUniform_5 : decode prog_7_method_10_code 5 = .ok (.bipush 32, 2) := by decide +kernel
theorem d_Pro_readUniform_7 : decode prog_7_method_10_code 7 = .ok (.if_icmp .ge 25, 3) := by decide +kernel
theorem d_Pro_readUniform_10 : decode prog_7_method_10_code 10 = .ok (.aload_n 0, 1) := by decide +kernel
theorem d_Pro_readUniform_11 : decode prog_7_method_10_code 11 = .ok (.getfield 9, 3) := by decide +kernel
theorem d_Pro_readUniform_14 : decode prog_7_method_10_code 14 = .ok (.bipush 96, 2) := by decide +kernel
theorem d_Pro_readUniform_16 : decode prog_7_method_10_code 16 = .ok (.iconst 4, 1) := by decide +kernel
theorem d_Pro_readUniform_17 : decode prog_7_method_10_code 17 = .ok (.iload_n 1, 1) := by decide +kernel
theorem d_Pro_readUniform_18 : decode prog_7_method_10_code 18 = .ok (.imul, 1) := by decide +kernel
theorem d_Pro_readUniform_19 : decode prog_7_method_10_code 19 = .ok (.iadd, 1) := by decide +kernel
theorem d_Pro_readUniform_20 : decode prog_7_method_10_code 20 = .ok (.aload_n 0, 1) := by decide +kernel
theorem d_Pro_readUniform_21 : decode prog_7_method_10_code 21 = .ok (.getfield 24, 3) := by decide +kernel
theorem d_Pro_readUniform_24 : decode prog_7_method_10_code 24 = .ok (.iconst 0, 1) := by decide +kernel
theorem d_Pro_readUniform_25 : decode prog_7_method_10_code 25 = .ok (.iconst 4, 1) := by decide +kernel
theorem d_Pro_readUniform_26 : decode prog_7_method_10_code 26 = .ok (.invokestatic 131, 3) := by decide +kernel
theorem d_Pro_readUniform_29 : decode prog_7_method_10_code 29 = .ok (.goto 8, 3) := by decide +kernel
theorem d_Pro_readUniform_32 : decode prog_7_method_10_code 32 = .ok (.aload_n 0, 1) := by decide +kernel
theorem d_Pro_readUniform_33 : decode prog_7_method_10_code 33 = .ok (.iconst 0, 1) := by decide +kernel
theorem d_Pro_readUniform_34 : decode prog_7_method_10_code 34 = .ok (.invokevirtual 95, 3) := by decide +kernel
theorem d_Pro_readUniform_37 : decode prog_7_method_10_code 37 = .ok (.return_, 1) := by decide +kernel
def F_Pro_readUniform_37 (σ : Sg) : Option (Sg) := some σ
set_option maxRecDepth 10000 in
set_option maxHeartbeats 4000000 in
theorem bt_Pro_readUniform_37 {p : Program} {l : Launch} {e : Env} {R : Room} {s : State} {m : MethodId} {args : Array Value} {below : List Frame} {meth : Method} {c : Code} {D : va_G} {τ : ClassId × ClassId × ClassId} {B : Nat} {A : Nat → Prop} {ad : Nat → Nat} (E : Cx p R s m args meth c prog_7_method_10_code 2 "DrawingMachine$Processor" 2 D τ B A) (hret : meth.sig.returnType = none) (o : Sg) (σ : Sg) (h : F_Pro_readUniform_37 σ = some o) {H : Heap} {locs : List Loc} {ls : Array Slot} (w : Wd s D A (wdC τ σ ad) H locs) (hl : lv_has ls 2 []) : W p l e R s m args below meth c H locs 0 0 (QV below args s A D τ (wdC τ o ad)) (F0 m 37 ls []) := by
  obtain rfl := Option.some.inj h
  exact rt_v E w hret d_Pro_readUniform_37
def F_Pro_readUniform_32 (σ : Sg) : Option (Sg) := bd (F_Pro_setAll σ 0) (fun o4 => F_Pro_readUniform_37 o4)
set_option maxRecDepth 10000 in
set_option maxHeartbeats 4000000 in
theorem bt_Pro_readUniform_32 {p : Program} {l : Launch} {e : Env} {R : Room} {s : State} {m : MethodId} {args : Array Value} {below : List Frame} {meth : Method} {c : Code} {D : va_G} {τ : ClassId × ClassId × ClassId} {B : Nat} {A : Nat → Prop} {ad : Nat → Nat} (E : Cx p R s m args meth c prog_7_method_10_code 2 "DrawingMachine$Processor" 2 D τ B A) (hret : meth.sig.returnType = none) (o : Sg) (σ : Sg) (h : F_Pro_readUniform_32 σ = some o) {H : Heap} {locs : List Loc} {ls : Array Slot} (w : Wd s D A (wdC τ σ ad) H locs) (hl : lv_has ls 2 [(0, .ref (ad 62))]) : W p l e R s m args below meth c H locs 0 0 (QV below args s A D τ (wdC τ o ad)) (F0 m 32 ls []) := by
  refine lv_aload_n E.x E.b d_Pro_readUniform_32 rfl (lv_at hl 0 rfl) ?_
  refine lv_iconst (v := 0) E.x E.b d_Pro_readUniform_33 (by decide) ?_
  obtain ⟨o4, h_o4, h⟩ := bd_some h
  refine clV_Pro_setAll E w (x0 := 0) h_o4 k1098 (by decide) hl.1 (Nat.le_of_ble_eq_true rfl) d_Pro_readUniform_34 (fun H locs w => ?_)
  exact bt_Pro_readUniform_37 E hret o o4 h w (lv_sub hl [] rfl)
def F_Pro_readUniform (σ : Sg) (x0 : Int32) : Option (Sg) := if x0 < 0 then (F_Pro_readUniform_32 σ) else (if 32 ≤ x0 then (F_Pro_readUniform_32 σ) else (ck (cpok (96 + (4 * x0)) 0 4 260 4) (lt (sA σ 14 (va_cpy (σ.2.2.1 10) (σ.2.2.1 14) (96 + (4 * x0)).toNatClampNeg (0 : Int32).toNatClampNeg (4 : Int32).toNatClampNeg)) (fun σ6 => F_Pro_readUniform_37 σ6))))
set_option maxRecDepth 10000 in
set_option maxHeartbeats 4000000 in
theorem c_Pro_readUniform (l : Launch) (D : va_G) (τ : ClassId × ClassId × ClassId) (B : Nat) (σ : Sg) (ad : Nat → Nat) (x0 : Int32) (o : Sg) (h : F_Pro_readUniform σ x0 = some o) : MV l y_Pro_readUniform (Cond.code y_Pro_readUniform prog_7_method_10_code 2 none) 2 D τ B [.ref (ad 62), .int x0] (wdC τ σ ad) (wdC τ o ad) := by
  refine en_v (by decide) (Nat.le_of_ble_eq_true rfl) ?_
  intro p e R s m args below meth c H locs ls A E hret w hl
  have E : Cx p R s m args meth c prog_7_method_10_code 2 "DrawingMachine$Processor" 2 D τ B A := E
  have hl : lv_has ls 2 [(0, .ref (ad 62)), (1, .int x0)] := hl
  refine lv_iload_n E.x E.b d_Pro_readUniform_0 rfl (lv_at hl 1 rfl) ?_
  refine lv_if_lt (tgt := 32) E.x E.b d_Pro_readUniform_1 (by decide) (fun c => ?_) (fun c => ?_)
  ·
    replace h := ifT c h
    exact bt_Pro_readUniform_32 E hret o σ h w (lv_sub hl [0] rfl)
  ·
    replace h := ifF c h
    refine lv_iload_n E.x E.b d_Pro_readUniform_4 rfl (lv_at hl 1 rfl) ?_
    refine lv_bipush (v := 32) E.x E.b d_Pro_readUniform_5 (by decide) ?_
    refine lv_icmp_ge (tgt := 32) E.x E.b d_Pro_readUniform_7 (by decide) (fun c => ?_) (fun c => ?_)
    ·
      replace h := ifT c h
      exact bt_Pro_readUniform_32 E hret o σ h w (lv_sub hl [0] rfl)
    ·
      replace h := ifF c h
      refine lv_aload_n E.x E.b d_Pro_readUniform_10 rfl (lv_at hl 0 rfl) ?_
      refine gC_Pro_bank E w k236 d_Pro_readUniform_11 ?_
      refine lv_bipush (v := 96) E.x E.b d_Pro_readUniform_14 (by decide) ?_
      refine lv_iconst (v := 4) E.x E.b d_Pro_readUniform_16 (by decide) ?_
      refine lv_iload_n E.x E.b d_Pro_readUniform_17 rfl (lv_at hl 1 rfl) ?_
      refine lv_imul E.x E.b d_Pro_readUniform_18 ?_
      refine lv_iadd E.x E.b d_Pro_readUniform_19 ?_
      refine lv_aload_n E.x E.b d_Pro_readUniform_20 rfl (lv_at hl 0 rfl) ?_
      refine gC_Pro_result E w k243 d_Pro_readUniform_21 ?_
      refine lv_iconst (v := 0) E.x E.b d_Pro_readUniform_24 (by decide) ?_
      refine lv_iconst (v := 4) E.x E.b d_Pro_readUniform_25 (by decide) ?_
      obtain ⟨c5, h⟩ := ck_some h
      obtain ⟨σ6, e_σ6, h⟩ := lt_some h
      refine cpyC E w hl.1 k1125 k645 k644 k31 (k0 := 10) (k1 := 14) (by decide) (by decide) c5 e_σ6 (Nat.le_of_ble_eq_true rfl) d_Pro_readUniform_26 (fun H locs w => ?_)
      refine lv_goto (tgt := 37) E.x E.b d_Pro_readUniform_29 (by decide) ?_
      exact bt_Pro_readUniform_37 E hret o σ6 h w (lv_sub hl [] rfl)
theorem clV_Pro_readUniform {p : Program} {l : Launch} {e : Env} {R : Room} {s : State} {m : MethodId} {args : Array Value} {below : List Frame} {meth : Method} {c : Code} {H : Heap} {locs : List Loc} {Q : State → Prop} {cc : ByteArray} {nL pc lev : Nat} {own : String} {D : va_G} {τ : ClassId × ClassId × ClassId} {B : Nat} {A : Nat → Prop} {σ : Sg} {ad : Nat → Nat} {ls : Array Slot} {rest : List Value} (E : Cx p R s m args meth c cc nL own lev D τ B A) (w : Wd s D A (wdC τ σ ad) H locs) {x0 : Int32} {o : Sg} (h : F_Pro_readUniform σ x0 = some o) {index : Nat} (hlk : Cond.methodLink own index y_Pro_readUniform ∈ tw) (hlev : 2 < lev) (hsz : ls.size = nL) (hr : (rest.map fun v => v.category).sum ≤ 8) (hd : decode cc pc = .ok (.invokevirtual index, 3)) (kk : ∀ (H1 : Heap) (locs1 : List Loc), Wd s D A (wdC τ o ad) H1 locs1 → W p l e R s m args below meth c H1 locs1 0 0 Q (F0 m (pc + 3) ls (rest))) : W p l e R s m args below meth c H locs 0 0 Q (F0 m pc ls (.int x0 :: .ref (ad 62) :: rest)) :=
  cr_v w E.C (va_runV (As := [.int x0]) (rest := rest) E.fix (c_Pro_readUniform l D τ B σ ad x0 o h H.size) (cwV 1 E.w (tw_pre (tw_good k1124) (l := [_, _, _, _]) (List.forall_mem_cons.mpr ⟨hlk, List.forall_mem_cons.mpr ⟨k1123, List.forall_mem_cons.mpr ⟨ks21, List.forall_mem_cons.mpr ⟨k8, fun _ h => absurd h List.not_mem_nil⟩⟩⟩⟩)) rfl rfl rfl (by decide +kernel) (E.rm hlev (by decide))) (wd_preV w E.C [.int x0] rcC_Pro rfl) rfl rfl hsz rfl (lv_room hr) hd ⟨Nat.zero_le _, Nat.zero_le _⟩) kk

theorem d_Pro_rootOf_0 : decode prog_7_method_14_code 0 = .ok (.lconst 0, 1) := by decide +kernel
theorem d_Pro_rootOf_1 : decode prog_7_method_14_code 1 = .ok (.lstore_n 2, 1) := by decide +kernel
theorem d_Pro_rootOf_2 : decode prog_7_method_14_code 2 = .ok (.bipush 24, 2) := by decide +kernel
theorem d_Pro_rootOf_4 : decode prog_7_method_14_code 4 = .ok (.istore 4, 2) := by decide +kernel
theorem d_Pro_rootOf_6 : decode prog_7_method_14_code 6 = .ok (.iload 4, 2) := by decide +kernel
theorem d_Pro_rootOf_8 : decode prog_7_method_14_code 8 = .ok (.ifCond .lt 30, 3) := by decide +kernel
theorem d_Pro_rootOf_11 : decode prog_7_method_14_code 11 = .ok (.lload_n 2, 1) := by decide +kernel
theorem d_Pro_rootOf_12 : decode prog_7_method_14_code 12 = .ok (.lconst 1, 1) := by decide +kernel
theorem d_Pro_rootOf_13 : decode prog_7_method_14_code 13 = .ok (.iload 4, 2) := by decide +kernel
theorem d_Pro_rootOf_15 : decode prog_7_method_14_code 15 = .ok (.lshl, 1) := by decide +kernel
theorem d_Pro_rootOf_16 : decode prog_7_method_14_code 16 = .ok (.ladd, 1) := by decide +kernel
theorem d_Pro_rootOf_17 : decode prog_7_method_14_code 17 = .ok (.lstore 5, 2) := by decide +kernel
theorem d_Pro_rootOf_19 : decode prog_7_method_14_code 19 = .ok (.lload 5, 2) := by decide +kernel
theorem d_Pro_rootOf_21 : decode prog_7_method_14_code 21 = .ok (.lload 5, 2) := by decide +kernel
theorem d_Pro_rootOf_23 : decode prog_7_method_14_code 23 = .ok (.lmul, 1) := by decide +kernel
theorem d_Pro_rootOf_24 : decode prog_7_method_14_code 24 = .ok (.lload_n 0, 1) := by decide +kernel
theorem d_Pro_rootOf_25 : decode prog_7_method_14_code 25 = .ok (.lcmp, 1) := by decide +kernel
theorem d_Pro_rootOf_26 : decode prog_7_method_14_code 26 = .ok (.ifCond .gt 6, 3) := by decide +kernel
theorem d_Pro_rootOf_29 : decode prog_7_method_14_code 29 = .ok (.lload 5, 2) := by decide +kernel
theorem d_Pro_rootOf_31 : decode prog_7_method_14_code 31 = .ok (.lstore_n 2, 1) := by decide +kernel
theorem d_Pro_rootOf_32 : decode prog_7_method_14_code 32 = .ok (.iinc 4 (-1), 3) := by decide +kernel
theorem d_Pro_rootOf_35 : decode prog_7_method_14_code 35 = .ok (.goto (-29), 3) := by decide +kernel
theorem d_Pro_rootOf_38 : decode prog_7_method_14_code 38 = .ok (.lload_n 2, 1) := by decide +kernel
theorem d_Pro_rootOf_39 : decode prog_7_method_14_code 39 = .ok (.l2i, 1) := by decide +kernel
theorem d_Pro_rootOf_40 : decode prog_7_method_14_code 40 = .ok (.ireturn, 1) := by decide +kernel
def F_Pro_rootOf_32 (rc_6 : Int64 → Int64 → Int32 → Option (Int32))  (v0 : Int64) (v2 : Int64) (v4 : Int32) : Option (Int32) := lt (v4 + (-1)) (fun y3 => rc_6 v0 v2 y3)
set_option maxRecDepth 10000 in
set_option maxHeartbeats 4000000 in
theorem bt_Pro_rootOf_32 {p : Program} {l : Launch} {e : Env} {R : Room} {s : State} {m : MethodId} {args : Array Value} {below : List Frame} {meth : Method} {c : Code} {D : va_G} {τ : ClassId × ClassId × ClassId} {B : Nat} {A : Nat → Prop} {ad : Nat → Nat} {σ0 : Sg} (E : Cx p R s m args meth c prog_7_method_14_code 7 "DrawingMachine$Processor" 0 D τ B A) (hret : meth.sig.returnType = (some .int)) (o : Int32) (rc_6 : Int64 → Int64 → Int32 → Option (Int32)) (hr_6 : ∀ (v0 : Int64) (v2 : Int64) (v4 : Int32) (H : Heap) (locs : List Loc) (ls : Array Slot), rc_6 v0 v2 v4 = some o → Wd s D A (wdC τ σ0 ad) H locs → lv_has ls 7 [(0, .long v0), (2, .long v2), (4, .int v4)] → W p l e R s m args below meth c H locs 0 0 (QI below args s A D τ (wdC τ σ0 ad) o) (F0 m 6 ls [])) (v0 : Int64) (v2 : Int64) (v4 : Int32) (h : F_Pro_rootOf_32 rc_6 v0 v2 v4 = some o) {H : Heap} {locs : List Loc} {ls : Array Slot} (w : Wd s D A (wdC τ σ0 ad) H locs) (hl : lv_has ls 7 [(0, .long v0), (2, .long v2), (4, .int v4)]) : W p l e R s m args below meth c H locs 0 0 (QI below args s A D τ (wdC τ σ0 ad) o) (F0 m 32 ls []) := by
  obtain ⟨y3, e_y3, h⟩ := lt_some h
  refine lv_iinc (v := y3) (lv' := [(4, .int y3), (0, .long v0), (2, .long v2)]) E.x E.b d_Pro_rootOf_32 hl (k := 2) rfl (e_y3) (by decide) rfl (fun ls hl => ?_)
  refine lv_goto (tgt := 6) E.x E.b d_Pro_rootOf_35 (by decide) ?_
  exact hr_6 v0 v2 y3 _ _ _ h w (lv_sub hl [1, 2, 0] rfl)
def L_Pro_rootOf_6 : Nat → Int64 → Int64 → Int32 → Option (Int32)
  | 0, _, _, _ => none
  | n + 1, v0, v2, v4 => if v4 < 0 then (some v2.toInt32) else (lt (v2 + (lshl 1 v4)) (fun y4 => if v0 < (y4 * y4) then (F_Pro_rootOf_32 (L_Pro_rootOf_6 n) v0 v2 v4) else (F_Pro_rootOf_32 (L_Pro_rootOf_6 n) v0 y4 v4)))
set_option maxRecDepth 10000 in
set_option maxHeartbeats 4000000 in
theorem lt_Pro_rootOf_6 {p : Program} {l : Launch} {e : Env} {R : Room} {s : State} {m : MethodId} {args : Array Value} {below : List Frame} {meth : Method} {c : Code} {D : va_G} {τ : ClassId × ClassId × ClassId} {B : Nat} {A : Nat → Prop} {ad : Nat → Nat} {σ0 : Sg} (E : Cx p R s m args meth c prog_7_method_14_code 7 "DrawingMachine$Processor" 0 D τ B A) (hret : meth.sig.returnType = (some .int)) (o : Int32) : ∀ (n : Nat) (v0 : Int64) (v2 : Int64) (v4 : Int32) (H : Heap) (locs : List Loc) (ls : Array Slot), L_Pro_rootOf_6 n v0 v2 v4 = some o → Wd s D A (wdC τ σ0 ad) H locs → lv_has ls 7 [(0, .long v0), (2, .long v2), (4, .int v4)] → W p l e R s m args below meth c H locs 0 0 (QI below args s A D τ (wdC τ σ0 ad) o) (F0 m 6 ls []) := by
  intro n
  induction n with
  | zero =>
    intro v0 v2 v4 H locs ls h w hl
    cases h
  | succ n hr_6 =>
    intro v0 v2 v4 H locs ls h w hl
    refine lv_iload E.x E.b d_Pro_rootOf_6 (lv_at hl 2 rfl) ?_
    refine lv_if_lt (tgt := 38) E.x E.b d_Pro_rootOf_8 (by decide) (fun c => ?_) (fun c => ?_)
    ·
      replace h := ifT c h
      refine lv_lload_n E.x E.b d_Pro_rootOf_38 rfl (lv_at hl 1 rfl) ?_
      refine lv_l2i (v := v2.toInt32) E.x E.b d_Pro_rootOf_39 rfl ?_
      obtain rfl := Option.some.inj h
      exact rt_i E w hret d_Pro_rootOf_40
    ·
      replace h := ifF c h
      refine lv_lload_n E.x E.b d_Pro_rootOf_11 rfl (lv_at hl 1 rfl) ?_
      refine lv_lconst (v := 1) E.x E.b d_Pro_rootOf_12 (by decide) ?_
      refine lv_iload E.x E.b d_Pro_rootOf_13 (lv_at hl 2 rfl) ?_
      refine lv_lshl (v := lshl 1 v4) E.x E.b d_Pro_rootOf_15 rfl ?_
      refine lv_ladd E.x E.b d_Pro_rootOf_16 ?_
      obtain ⟨y4, e_y4, h⟩ := lt_some h
      refine wl_e (v := y4) e_y4 ?_
      refine lv_lstore (lv' := [(5, .long y4), (0, .long v0), (2, .long v2), (4, .int v4)]) E.x E.b d_Pro_rootOf_17 hl (by decide) rfl (fun ls hl => ?_)
      refine lv_lload E.x E.b d_Pro_rootOf_19 (lv_at hl 0 rfl) ?_
      refine lv_lload E.x E.b d_Pro_rootOf_21 (lv_at hl 0 rfl) ?_
      refine lv_lmul E.x E.b d_Pro_rootOf_23 ?_
      refine lv_lload_n E.x E.b d_Pro_rootOf_24 rfl (lv_at hl 1 rfl) ?_
      refine W.lcmp E.x E.b d_Pro_rootOf_25 ?_
      refine lv_if_gt (tgt := 32) E.x E.b d_Pro_rootOf_26 (by decide) (fun c => ?_) (fun c => ?_)
      ·
        replace h := ifT (lgc_gt.mp c) h
        exact bt_Pro_rootOf_32 E hret o (L_Pro_rootOf_6 n) hr_6 v0 v2 v4 h w (lv_sub hl [1, 2, 3] rfl)
      ·
        replace h := ifF (fun h9 => c (lgc_gt.mpr h9)) h
        refine lv_lload E.x E.b d_Pro_rootOf_29 (lv_at hl 0 rfl) ?_
        refine lv_lstore_n (lv' := [(2, .long y4), (5, .long y4), (0, .long v0), (4, .int v4)]) E.x E.b d_Pro_rootOf_31 rfl hl (by decide) rfl (fun ls hl => ?_)
        exact bt_Pro_rootOf_32 E hret o (L_Pro_rootOf_6 n) hr_6 v0 y4 v4 h w (lv_sub hl [2, 0, 3] rfl)
def F_Pro_rootOf  (x0 : Int64) : Option (Int32) := L_Pro_rootOf_6 100000 x0 0 24
set_option maxRecDepth 10000 in
set_option maxHeartbeats 4000000 in
theorem c_Pro_rootOf (l : Launch) (D : va_G) (τ : ClassId × ClassId × ClassId) (B : Nat) (σ0 : Sg) (ad : Nat → Nat) (x0 : Int64) (o : Int32) (h : F_Pro_rootOf x0 = some o) : MI l y_Pro_rootOf (Cond.code y_Pro_rootOf prog_7_method_14_code 7 (some .int)) 0 D τ B [.long x0] (wdC τ σ0 ad) (wdC τ σ0 ad) o := by
  refine en_i (by decide) (Nat.le_of_ble_eq_true rfl) ?_
  intro p e R s m args below meth c H locs ls A E hret w hl
  have E : Cx p R s m args meth c prog_7_method_14_code 7 "DrawingMachine$Processor" 0 D τ B A := E
  have hl : lv_has ls 7 [(0, .long x0)] := hl
  refine lv_lconst (v := 0) E.x E.b d_Pro_rootOf_0 (by decide) ?_
  refine lv_lstore_n (lv' := [(2, .long 0), (0, .long x0)]) E.x E.b d_Pro_rootOf_1 rfl hl (by decide) rfl (fun ls hl => ?_)
  refine lv_bipush (v := 24) E.x E.b d_Pro_rootOf_2 (by decide) ?_
  refine lv_istore (lv' := [(4, .int 24), (2, .long 0), (0, .long x0)]) E.x E.b d_Pro_rootOf_4 hl (by decide) rfl (fun ls hl => ?_)
  exact lt_Pro_rootOf_6 E hret o 100000 x0 0 24 _ _ _ h w (lv_sub hl [2, 1, 0] rfl)
theorem clS_Pro_rootOf {p : Program} {l : Launch} {e : Env} {R : Room} {s : State} {m : MethodId} {args : Array Value} {below : List Frame} {meth : Method} {c : Code} {H : Heap} {locs : List Loc} {Q : State → Prop} {cc : ByteArray} {nL pc lev : Nat} {own : String} {D : va_G} {τ : ClassId × ClassId × ClassId} {B : Nat} {A : Nat → Prop} {σ : Sg} {ad : Nat → Nat} {ls : Array Slot} {rest : List Value} (E : Cx p R s m args meth c cc nL own lev D τ B A) (w : Wd s D A (wdC τ σ ad) H locs) {x0 : Int64} {o : Int32} (h : F_Pro_rootOf x0 = some o) {index : Nat} (hlk : Cond.methodLink own index y_Pro_rootOf ∈ tw) (hlev : 0 < lev) (hsz : ls.size = nL) (hr : (rest.map fun v => v.category).sum ≤ 8) (hd : decode cc pc = .ok (.invokestatic index, 3)) (kk : ∀ (H1 : Heap) (locs1 : List Loc), Wd s D A (wdC τ σ ad) H1 locs1 → W p l e R s m args below meth c H1 locs1 0 0 Q (F0 m (pc + 3) ls (.int o :: rest))) : W p l e R s m args below meth c H locs 0 0 Q (F0 m pc ls (.long x0 :: rest)) :=
  cr_i w E.C (va_runS (As := [.long x0]) (rest := rest) E.fix (c_Pro_rootOf l D τ B σ ad x0 o h H.size) (va_cwS 1 E.w (tw_pre (tw_good k1115) (l := [_, _, _]) (List.forall_mem_cons.mpr ⟨hlk, List.forall_mem_cons.mpr ⟨k1114, List.forall_mem_cons.mpr ⟨k8, fun _ h => absurd h List.not_mem_nil⟩⟩⟩)) rfl rfl rfl (by decide +kernel) (E.rm hlev (by decide))) (wd_pre w E.C [.long x0]) rfl rfl hsz rfl (lv_room hr) hd ⟨Nat.zero_le _, Nat.zero_le _⟩) kk

theorem d_Pro_reckon_0 : decode prog_7_method_6_code 0 = .ok (.iload_n 1, 1) := by decide +kernel
theorem d_Pro_reckon_1 : decode prog_7_method_6_code 1 = .ok (.tableswitch 292 6 31 #[119, 131, 292, 292, 292, 292, 292, 143, 159, 194, 292, 292, 292, 292, 292, 292, 228, 292, 292, 292, 292, 292, 292, 292, 235, 251], 119) := by decide +kernel
theorem d_Pro_reckon_120 : decode prog_7_method_6_code 120 = .ok (.aload_n 0, 1) := by decide +kernel
theorem d_Pro_reckon_121 : decode prog_7_method_6_code 121 = .ok (.aload_n 0, 1) := by decide +kernel
theorem d_Pro_reckon_122 : decode prog_7_method_6_code 122 = .ok (.iconst 3, 1) := by decide +kernel
theorem d_Pro_reckon_123 : decode prog_7_method_6_code 123 = .ok (.invokevirtual 91, 3) := by decide +kernel
theorem d_Pro_reckon_126 : decode prog_7_method_6_code 126 = .ok (.invokevirtual 95, 3) := by decide +kernel
theorem d_Pro_reckon_129 : decode prog_7_method_6_code 129 = .ok (.goto 205, 3) := by decide +kernel
theorem d_Pro_reckon_132 : decode prog_7_method_6_code 132 = .ok (.aload_n 0, 1) := by decide +kernel
theorem d_Pro_reckon_133 : decode prog_7_method_6_code 133 = .ok (.aload_n 0, 1) := by decide +kernel
theorem d_Pro_reckon_134 : decode prog_7_method_6_code 134 = .ok (.iconst 4, 1) := by decide +kernel
theorem d_Pro_reckon_135 : decode prog_7_method_6_code 135 = .ok (.invokevirtual 91, 3) := by decide +kernel
theorem d_Pro_reckon_138 : decode prog_7_method_6_code 138 = .ok (.invokevirtual 95, 3) := by decide +kernel
theorem d_Pro_reckon_141 : decode prog_7_method_6_code 141 = .ok (.goto 193, 3) := by decide +kernel
theorem d_Pro_reckon_144 : decode prog_7_method_6_code 144 = .ok (.aload_n 0, 1) := by decide +kernel
theorem d_Pro_reckon_145 : decode prog_7_method_6_code 145 = .ok (.aload_n 0, 1) := by decide +kernel
theorem d_Pro_reckon_146 : decode prog_7_method_6_code 146 = .ok (.getfield 15, 3) := by decide +kernel
theorem d_Pro_reckon_149 : decode prog_7_method_6_code 149 = .ok (.iconst 0, 1) := by decide +kernel
theorem d_Pro_reckon_150 : decode prog_7_method_6_code 150 = .ok (.iaload, 1) := by decide +kernel
theorem d_Pro_reckon_151 : decode prog_7_method_6_code 151 = .ok (.invokestatic 98, 3) := by decide +kernel
theorem d_Pro_reckon_154 : decode prog_7_method_6_code 154 = .ok (.invokevirtual 95, 3) := by decide +kernel
theorem d_Pro_reckon_157 : decode prog_7_method_6_code 157 = .ok (.goto 177, 3) := by decide +kernel
theorem d_Pro_reckon_160 : decode prog_7_method_6_code 160 = .ok (.aload_n 0, 1) := by decide +kernel
theorem d_Pro_reckon_161 : decode prog_7_method_6_code 161 = .ok (.aload_n 0, 1) := by decide +kernel
theorem d_Pro_reckon_162 : decode prog_7_method_6_code 162 = .ok (.getfield 15, 3) := by decide +kernel
theorem d_Pro_reckon_165 : decode prog_7_method_6_code 165 = .ok (.iconst 0, 1) := by decide +kernel
theorem d_Pro_reckon_166 : decode prog_7_method_6_code 166 = .ok (.iaload, 1) := by decide +kernel
theorem d_Pro_reckon_167 : decode prog_7_method_6_code 167 = .ok (.ifCond .gt 8, 3) := by decide +kernel
theorem d_Pro_reckon_170 : decode prog_7_method_6_code 170 = .ok (.ldc 101, 2) := by decide +kernel
theorem d_Pro_reckon_172 : decode prog_7_method_6_code 172 = .ok (.goto 17, 3) := by decide +kernel
theorem d_Pro_reckon_175 : decode prog_7_method_6_code 175 = .ok (.ldc2_w 102, 3) := by decide +kernel
theorem d_Pro_reckon_178 : decode prog_7_method_6_code 178 = .ok (.aload_n 0, 1) := by decide +kernel
theorem d_Pro_reckon_179 : decode prog_7_method_6_code 179 = .ok (.getfield 15, 3) := by decide +kernel
theorem d_Pro_reckon_182 : decode prog_7_method_6_code 182 = .ok (.iconst 0, 1) := by decide +kernel
theorem d_Pro_reckon_183 : decode prog_7_method_6_code 183 = .ok (.iaload, 1) := by decide +kernel
theorem d_Pro_reckon_184 : decode prog_7_method_6_code 184 = .ok (.i2l, 1) := by decide +kernel
theorem d_Pro_reckon_185 : decode prog_7_method_6_code 185 = .ok (.ldiv, 1) := by decide +kernel
theorem d_Pro_reckon_186 : decode prog_7_method_6_code 186 = .ok (.invokestatic 104, 3) := by decide +kernel
theorem d_Pro_reckon_189 : decode prog_7_method_6_code 189 = .ok (.invokevirtual 95, 3) := by decide +kernel
theorem d_Pro_reckon_192 : decode prog_7_method_6_code 192 = .ok (.goto 142, 3) := by decide +kernel
theorem d_Pro_reckon_195 : decode prog_7_method_6_code 195 = .ok (.aload_n 0, 1) := by decide +kernel
theorem d_Pro_reckon_196 : decode prog_7_method_6_code 196 = .ok (.aload_n 0, 1) := by decide +kernel
theorem d_Pro_reckon_197 : decode prog_7_method_6_code 197 = .ok (.getfield 15, 3) := by decide +kernel
theorem d_Pro_reckon_200 : decode prog_7_method_6_code 200 = .ok (.iconst 0, 1) := by decide +kernel
theorem d_Pro_reckon_201 : decode prog_7_method_6_code 201 = .ok (.iaload, 1) := by decide +kernel
theorem d_Pro_reckon_202 : decode prog_7_method_6_code 202 = .ok (.ifCond .ge 7, 3) := by decide +kernel
theorem d_Pro_reckon_205 : decode prog_7_method_6_code 205 = .ok (.iconst 0, 1) := by decide +kernel
theorem d_Pro_reckon_206 : decode prog_7_method_6_code 206 = .ok (.goto 17, 3) := by decide +kernel
theorem d_Pro_reckon_209 : decode prog_7_method_6_code 209 = .ok (.ldc2_w 108, 3) := by decide +kernel
theorem d_Pro_reckon_212 : decode prog_7_method_6_code 212 = .ok (.aload_n 0, 1) := by decide +kernel
theorem d_Pro_reckon_213 : decode prog_7_method_6_code 213 = .ok (.getfield 15, 3) := by decide +kernel
theorem d_Pro_reckon_216 : decode prog_7_method_6_code 216 = .ok (.iconst 0, 1) := by decide +kernel
theorem d_Pro_reckon_217 : decode prog_7_method_6_code 217 = .ok (.iaload, 1) := by decide +kernel
theorem d_Pro_reckon_218 : decode prog_7_method_6_code 218 = .ok (.i2l, 1) := by decide +kernel
theorem d_Pro_reckon_219 : decode prog_7_method_6_code 219 = .ok (.lmul, 1) := by decide +kernel
theorem d_Pro_reckon_220 : decode prog_7_method_6_code 220 = .ok (.invokestatic 104, 3) := by decide +kernel
theorem d_Pro_reckon_223 : decode prog_7_method_6_code 223 = .ok (.invokevirtual 95, 3) := by decide +kernel
theorem d_Pro_reckon_226 : decode prog_7_method_6_code 226 = .ok (.goto 108, 3) := by decide +kernel
theorem d_Pro_reckon_229 : decode prog_7_method_6_code 229 = .ok (.aload_n 0, 1) := by decide +kernel
theorem d_Pro_reckon_230 : decode prog_7_method_6_code 230 = .ok (.invokevirtual 110, 3) := by decide +kernel
theorem d_Pro_reckon_233 : decode prog_7_method_6_code 233 = .ok (.goto 101, 3) := by decide +kernel
theorem d_Pro_reckon_236 : decode prog_7_method_6_code 236 = .ok (.aload_n 0, 1) := by decide +kernel
theorem d_Pro_reckon_237 : decode prog_7_method_6_code 237 = .ok (.aload_n 0, 1) := by decide +kernel
theorem d_Pro_reckon_238 : decode prog_7_method_6_code 238 = .ok (.getfield 15, 3) := by decide +kernel
theorem d_Pro_reckon_241 : decode prog_7_method_6_code 241 = .ok (.iconst 0, 1) := by decide +kernel
theorem d_Pro_reckon_242 : decode prog_7_method_6_code 242 = .ok (.iaload, 1) := by decide +kernel
theorem d_Pro_reckon_243 : decode prog_7_method_6_code 243 = .ok (.bipush 16, 2) := by decide +kernel
theorem d_Pro_reckon_245 : decode prog_7_method_6_code 245 = .ok (.ishr, 1) := by decide +kernel
theorem d_Pro_reckon_246 : decode prog_7_method_6_code 246 = .ok (.invokevirtual 113, 3) := by decide +kernel
theorem d_Pro_reckon_249 : decode prog_7_method_6_code 249 = .ok (.goto 85, 3) := by decide +kernel
theorem d_Pro_reckon_252 : decode prog_7_method_6_code 252 = .ok (.iconst 0, 1) := by decide +kernel
theorem d_Pro_reckon_253 : decode prog_7_method_6_code 253 = .ok (.istore_n 2, 1) := by decide +kernel
theorem d_Pro_reckon_254 : decode prog_7_method_6_code 254 = .ok (.iload_n 2, 1) := by decide +kernel
theorem d_Pro_reckon_255 : decode prog_7_method_6_code 255 = .ok (.iconst 4, 1) := by decide +kernel
theorem d_Pro_reckon_256 : decode prog_7_method_6_code 256 = .ok (.if_icmp .ge 34, 3) := by decide +kernel
theorem d_Pro_reckon_259 : decode prog_7_method_6_code 259 = .ok (.aload_n 0, 1) := by decide +kernel
theorem d_Pro_reckon_260 : decode prog_7_method_6_code 260 = .ok (.getfield 24, 3) := by decide +kernel
theorem d_Pro_reckon_263 : decode prog_7_method_6_code 263 = .ok (.iload_n 2, 1) := by decide +kernel
theorem d_Pro_reckon_264 : decode prog_7_method_6_code 264 = .ok (.aload_n 0, 1) := by decide +kernel
theorem d_Pro_reckon_265 : decode prog_7_method_6_code 265 = .ok (.getfield 33, 3) := by decide +kernel
theorem d_Pro_reckon_268 : decode prog_7_method_6_code 268 = .ok (.aload_n 0, 1) := by decide +kernel
theorem d_Pro_reckon_269 : decode prog_7_method_6_code 269 = .ok (.getfield 15, 3) := by decide +kernel
theorem d_Pro_reckon_272 : decode prog_7_method_6_code 272 = .ok (.iconst 0, 1) := by decide +kernel
theorem d_Pro_reckon_273 : decode prog_7_method_6_code 273 = .ok (.iaload, 1) := by decide +kernel
theorem d_Pro_reckon_274 : decode prog_7_method_6_code 274 = .ok (.bipush 16, 2) := by decide +kernel
theorem d_Pro_reckon_276 : decode prog_7_method_6_code 276 = .ok (.ishr, 1) := by decide +kernel
theorem d_Pro_reckon_277 : decode prog_7_method_6_code 277 = .ok (.iload_n 2, 1) := by decide +kernel
theorem d_Pro_reckon_278 : decode prog_7_method_6_code 278 = .ok (.iadd, 1) := by decide +kernel
theorem d_Pro_reckon_279 : decode prog_7_method_6_code 279 = .ok (.i2l, 1) := by decide +kernel
theorem d_Pro_reckon_280 : decode prog_7_method_6_code 280 = .ok (.invokestatic 116, 3) := by decide +kernel
theorem d_Pro_reckon_283 : decode prog_7_method_6_code 283 = .ok (.iastore, 1) := by decide +kernel
theorem d_Pro_reckon_284 : decode prog_7_method_6_code 284 = .ok (.iinc 2 1, 3) := by decide +kernel
theorem d_Pro_reckon_287 : decode prog_7_method_6_code 287 = .ok (.goto (-33), 3) := by decide +kernel
theorem d_Pro_reckon_290 : decode prog_7_method_6_code 290 = .ok (.goto 44, 3) := by decide +kernel
theorem d_Pro_reckon_293 : decode prog_7_method_6_code 293 = .ok (.iconst 0, 1) := by decide +kernel
theorem d_Pro_reckon_294 : decode prog_7_method_6_code 294 = .ok (.istore_n 2, 1) := by decide +kernel
theorem d_Pro_reckon_295 : decode prog_7_method_6_code 295 = .ok (.iload_n 2, 1) := by decide +kernel
theorem d_Pro_reckon_296 : decode prog_7_method_6_code 296 = .ok (.iconst 4, 1) := by decide +kernel
theorem d_Pro_reckon_297 : decode prog_7_method_6_code 297 = .ok (.if_icmp .ge 37, 3) := by decide +kernel
theorem d_Pro_reckon_300 : decode prog_7_method_6_code 300 = .ok (.aload_n 0, 1) := by decide +kernel
theorem d_Pro_reckon_301 : decode prog_7_method_6_code 301 = .ok (.getfield 24, 3) := by decide +kernel
theorem d_Pro_reckon_304 : decode prog_7_method_6_code 304 = .ok (.iload_n 2, 1) := by decide +kernel
theorem d_Pro_reckon_305 : decode prog_7_method_6_code 305 = .ok (.iload_n 1, 1) := by decide +kernel
theorem d_Pro_reckon_306 : decode prog_7_method_6_code 306 = .ok (.aload_n 0, 1) := by decide +kernel
theorem d_Pro_reckon_307 : decode prog_7_method_6_code 307 = .ok (.getfield 15, 3) := by decide +kernel
theorem d_Pro_reckon_310 : decode prog_7_method_6_code 310 = .ok (.iload_n 2, 1) := by decide +kernel
theorem d_Pro_reckon_311 : decode prog_7_method_6_code 311 = .ok (.iaload, 1) := by decide +kernel
theorem d_Pro_reckon_312 : decode prog_7_method_6_code 312 = .ok (.aload_n 0, 1) := by decide +kernel
theorem d_Pro_reckon_313 : decode prog_7_method_6_code 313 = .ok (.getfield 18, 3) := by decide +kernel
theorem d_Pro_reckon_316 : decode prog_7_method_6_code 316 = .ok (.iload_n 2, 1) := by decide +kernel
theorem d_Pro_reckon_317 : decode prog_7_method_6_code 317 = .ok (.iaload, 1) := by decide +kernel
theorem d_Pro_reckon_318 : decode prog_7_method_6_code 318 = .ok (.aload_n 0, 1) := by decide +kernel
theorem d_Pro_reckon_319 : decode prog_7_method_6_code 319 = .ok (.getfield 21, 3) := by decide +kernel
theorem d_Pro_reckon_322 : decode prog_7_method_6_code 322 = .ok (.iload_n 2, 1) := by decide +kernel
theorem d_Pro_reckon_323 : decode prog_7_method_6_code 323 = .ok (.iaload, 1) := by decide +kernel
theorem d_Pro_reckon_324 : decode prog_7_method_6_code 324 = .ok (.invokestatic 120, 3) := by decide +kernel
theorem d_Pro_reckon_327 : decode prog_7_method_6_code 327 = .ok (.iastore, 1) := by decide +kernel
theorem d_Pro_reckon_328 : decode prog_7_method_6_code 328 = .ok (.iinc 2 1, 3) := by decide +kernel
theorem d_Pro_reckon_331 : decode prog_7_method_6_code 331 = .ok (.goto (-36), 3) := by decide +kernel
theorem d_Pro_reckon_334 : decode prog_7_method_6_code 334 = .ok (.return_, 1) := by decide +kernel
def F_Pro_reckon_334 (σ : Sg) : Option (Sg) := some σ
set_option maxRecDepth 10000 in
set_option maxHeartbeats 4000000 in
theorem bt_Pro_reckon_334 {p : Program} {l : Launch} {e : Env} {R : Room} {s : State} {m : MethodId} {args : Array Value} {below : List Frame} {meth : Method} {c : Code} {D : va_G} {τ : ClassId × ClassId × ClassId} {B : Nat} {A : Nat → Prop} {ad : Nat → Nat} (E : Cx p R s m args meth c prog_7_method_6_code 3 "DrawingMachine$Processor" 3 D τ B A) (hret : meth.sig.returnType = none) (o : Sg) (σ : Sg) (h : F_Pro_reckon_334 σ = some o) {H : Heap} {locs : List Loc} {ls : Array Slot} (w : Wd s D A (wdC τ σ ad) H locs) (hl : lv_has ls 3 []) : W p l e R s m args below meth c H locs 0 0 (QV below args s A D τ (wdC τ o ad)) (F0 m 334 ls []) := by
  obtain rfl := Option.some.inj h
  exact rt_v E w hret d_Pro_reckon_334
def L_Pro_reckon_295 : Nat → Sg → Int32 → Int32 → Option (Sg)
  | 0, _, _, _ => none
  | n + 1, σ, v1, v2 => if 4 ≤ v2 then (F_Pro_reckon_334 σ) else (ck (inb v2 4) (ck (inb v2 4) (ck (inb v2 4) (bd (F_Pro_part v1 (σ.2.2.1 11 v2.toNatClampNeg) (σ.2.2.1 12 v2.toNatClampNeg) (σ.2.2.1 13 v2.toNatClampNeg)) (fun o54 => ck (inb v2 4) (lt (sA σ 14 (upd (σ.2.2.1 14) v2.toNatClampNeg o54)) (fun σ56 => lt (v2 + 1) (fun y57 => L_Pro_reckon_295 n σ56 v1 y57))))))))
set_option maxRecDepth 10000 in
set_option maxHeartbeats 4000000 in
theorem lt_Pro_reckon_295 {p : Program} {l : Launch} {e : Env} {R : Room} {s : State} {m : MethodId} {args : Array Value} {below : List Frame} {meth : Method} {c : Code} {D : va_G} {τ : ClassId × ClassId × ClassId} {B : Nat} {A : Nat → Prop} {ad : Nat → Nat} (E : Cx p R s m args meth c prog_7_method_6_code 3 "DrawingMachine$Processor" 3 D τ B A) (hret : meth.sig.returnType = none) (o : Sg) : ∀ (n : Nat) (σ : Sg) (v1 : Int32) (v2 : Int32) (H : Heap) (locs : List Loc) (ls : Array Slot), L_Pro_reckon_295 n σ v1 v2 = some o → Wd s D A (wdC τ σ ad) H locs → lv_has ls 3 [(0, .ref (ad 62)), (1, .int v1), (2, .int v2)] → W p l e R s m args below meth c H locs 0 0 (QV below args s A D τ (wdC τ o ad)) (F0 m 295 ls []) := by
  intro n
  induction n with
  | zero =>
    intro σ v1 v2 H locs ls h w hl
    cases h
  | succ n hr_295 =>
    intro σ v1 v2 H locs ls h w hl
    refine lv_iload_n E.x E.b d_Pro_reckon_295 rfl (lv_at hl 2 rfl) ?_
    refine lv_iconst (v := 4) E.x E.b d_Pro_reckon_296 (by decide) ?_
    refine lv_icmp_ge (tgt := 334) E.x E.b d_Pro_reckon_297 (by decide) (fun c => ?_) (fun c => ?_)
    ·
      replace h := ifT c h
      exact bt_Pro_reckon_334 E hret o σ h w (lv_sub hl [] rfl)
    ·
      replace h := ifF c h
      refine lv_aload_n E.x E.b d_Pro_reckon_300 rfl (lv_at hl 0 rfl) ?_
      refine gC_Pro_result E w k243 d_Pro_reckon_301 ?_
      refine lv_iload_n E.x E.b d_Pro_reckon_304 rfl (lv_at hl 2 rfl) ?_
      refine lv_iload_n E.x E.b d_Pro_reckon_305 rfl (lv_at hl 1 rfl) ?_
      refine lv_aload_n E.x E.b d_Pro_reckon_306 rfl (lv_at hl 0 rfl) ?_
      refine gC_Pro_a E w k240 d_Pro_reckon_307 ?_
      refine lv_iload_n E.x E.b d_Pro_reckon_310 rfl (lv_at hl 2 rfl) ?_
      obtain ⟨c51, h⟩ := ck_some h
      refine ialC E w (k := 11) (by decide) c51 d_Pro_reckon_311 ?_
      refine lv_aload_n E.x E.b d_Pro_reckon_312 rfl (lv_at hl 0 rfl) ?_
      refine gC_Pro_b E w k241 d_Pro_reckon_313 ?_
      refine lv_iload_n E.x E.b d_Pro_reckon_316 rfl (lv_at hl 2 rfl) ?_
      obtain ⟨c52, h⟩ := ck_some h
      refine ialC E w (k := 12) (by decide) c52 d_Pro_reckon_317 ?_
      refine lv_aload_n E.x E.b d_Pro_reckon_318 rfl (lv_at hl 0 rfl) ?_
      refine gC_Pro_c E w k242 d_Pro_reckon_319 ?_
      refine lv_iload_n E.x E.b d_Pro_reckon_322 rfl (lv_at hl 2 rfl) ?_
      obtain ⟨c53, h⟩ := ck_some h
      refine ialC E w (k := 13) (by decide) c53 d_Pro_reckon_323 ?_
      obtain ⟨o54, h_o54, h⟩ := bd_some h
      refine clS_Pro_part E w (x0 := v1) (x1 := (σ.2.2.1 11 v2.toNatClampNeg)) (x2 := (σ.2.2.1 12 v2.toNatClampNeg)) (x3 := (σ.2.2.1 13 v2.toNatClampNeg)) h_o54 k1127 (by decide) hl.1 (Nat.le_of_ble_eq_true rfl) d_Pro_reckon_324 (fun H locs w => ?_)
      obtain ⟨c55, h⟩ := ck_some h
      obtain ⟨σ56, e_σ56, h⟩ := lt_some h
      refine iasC E w (k := 14) (by decide) c55 e_σ56 d_Pro_reckon_327 (fun H locs w => ?_)
      obtain ⟨y57, e_y57, h⟩ := lt_some h
      refine lv_iinc (v := y57) (lv' := [(2, .int y57), (0, .ref (ad 62)), (1, .int v1)]) E.x E.b d_Pro_reckon_328 hl (k := 2) rfl (e_y57) (by decide) rfl (fun ls hl => ?_)
      refine lv_goto (tgt := 295) E.x E.b d_Pro_reckon_331 (by decide) ?_
      exact hr_295 σ56 v1 y57 _ _ _ h w (lv_sub hl [1, 2, 0] rfl)
def F_Pro_reckon_293 (σ : Sg) (v1 : Int32) : Option (Sg) := L_Pro_reckon_295 100000 σ v1 0
set_option maxRecDepth 10000 in
set_option maxHeartbeats 4000000 in
theorem bt_Pro_reckon_293 {p : Program} {l : Launch} {e : Env} {R : Room} {s : State} {m : MethodId} {args : Array Value} {below : List Frame} {meth : Method} {c : Code} {D : va_G} {τ : ClassId × ClassId × ClassId} {B : Nat} {A : Nat → Prop} {ad : Nat → Nat} (E : Cx p R s m args meth c prog_7_method_6_code 3 "DrawingMachine$Processor" 3 D τ B A) (hret : meth.sig.returnType = none) (o : Sg) (σ : Sg) (v1 : Int32) (h : F_Pro_reckon_293 σ v1 = some o) {H : Heap} {locs : List Loc} {ls : Array Slot} (w : Wd s D A (wdC τ σ ad) H locs) (hl : lv_has ls 3 [(0, .ref (ad 62)), (1, .int v1)]) : W p l e R s m args below meth c H locs 0 0 (QV below args s A D τ (wdC τ o ad)) (F0 m 293 ls []) := by
  refine lv_iconst (v := 0) E.x E.b d_Pro_reckon_293 (by decide) ?_
  refine lv_istore_n (lv' := [(2, .int 0), (0, .ref (ad 62)), (1, .int v1)]) E.x E.b d_Pro_reckon_294 rfl hl (by decide) rfl (fun ls hl => ?_)
  exact lt_Pro_reckon_295 E hret o 100000 σ v1 0 _ _ _ h w (lv_sub hl [1, 2, 0] rfl)
def L_Pro_reckon_254 : Nat → Sg → Int32 → Option (Sg)
  | 0, _, _ => none
  | n + 1, σ, v2 => if 4 ≤ v2 then (F_Pro_reckon_334 σ) else (bd (F_DM_wordOf σ 0 ((((σ.2.2.1 11 0) >>> 16) + v2).toInt64)) (fun o58 => ck (inb v2 4) (lt (sA σ 14 (upd (σ.2.2.1 14) v2.toNatClampNeg o58)) (fun σ60 => lt (v2 + 1) (fun y61 => L_Pro_reckon_254 n σ60 y61)))))
set_option maxRecDepth 10000 in
set_option maxHeartbeats 4000000 in
theorem lt_Pro_reckon_254 {p : Program} {l : Launch} {e : Env} {R : Room} {s : State} {m : MethodId} {args : Array Value} {below : List Frame} {meth : Method} {c : Code} {D : va_G} {τ : ClassId × ClassId × ClassId} {B : Nat} {A : Nat → Prop} {ad : Nat → Nat} (E : Cx p R s m args meth c prog_7_method_6_code 3 "DrawingMachine$Processor" 3 D τ B A) (hret : meth.sig.returnType = none) (o : Sg) : ∀ (n : Nat) (σ : Sg) (v2 : Int32) (H : Heap) (locs : List Loc) (ls : Array Slot), L_Pro_reckon_254 n σ v2 = some o → Wd s D A (wdC τ σ ad) H locs → lv_has ls 3 [(0, .ref (ad 62)), (2, .int v2)] → W p l e R s m args below meth c H locs 0 0 (QV below args s A D τ (wdC τ o ad)) (F0 m 254 ls []) := by
  intro n
  induction n with
  | zero =>
    intro σ v2 H locs ls h w hl
    cases h
  | succ n hr_254 =>
    intro σ v2 H locs ls h w hl
    refine lv_iload_n E.x E.b d_Pro_reckon_254 rfl (lv_at hl 1 rfl) ?_
    refine lv_iconst (v := 4) E.x E.b d_Pro_reckon_255 (by decide) ?_
    refine lv_icmp_ge (tgt := 290) E.x E.b d_Pro_reckon_256 (by decide) (fun c => ?_) (fun c => ?_)
    ·
      replace h := ifT c h
      refine lv_goto (tgt := 334) E.x E.b d_Pro_reckon_290 (by decide) ?_
      exact bt_Pro_reckon_334 E hret o σ h w (lv_sub hl [] rfl)
    ·
      replace h := ifF c h
      refine lv_aload_n E.x E.b d_Pro_reckon_259 rfl (lv_at hl 0 rfl) ?_
      refine gC_Pro_result E w k243 d_Pro_reckon_260 ?_
      refine lv_iload_n E.x E.b d_Pro_reckon_263 rfl (lv_at hl 1 rfl) ?_
      refine lv_aload_n E.x E.b d_Pro_reckon_264 rfl (lv_at hl 0 rfl) ?_
      refine gC_Pro_memory E w k238 d_Pro_reckon_265 ?_
      refine lv_aload_n E.x E.b d_Pro_reckon_268 rfl (lv_at hl 0 rfl) ?_
      refine gC_Pro_a E w k240 d_Pro_reckon_269 ?_
      refine lv_iconst (v := 0) E.x E.b d_Pro_reckon_272 (by decide) ?_
      refine ialC E w (k := 11) (by decide) (show inb 0 4 by decide) d_Pro_reckon_273 ?_
      refine wi_e (v := σ.2.2.1 11 0) rfl ?_
      refine lv_bipush (v := 16) E.x E.b d_Pro_reckon_274 (by decide) ?_
      refine lv_ishr E.x E.b d_Pro_reckon_276 ?_
      refine wi_e (v := (σ.2.2.1 11 0) >>> 16) rfl ?_
      refine lv_iload_n E.x E.b d_Pro_reckon_277 rfl (lv_at hl 1 rfl) ?_
      refine lv_iadd E.x E.b d_Pro_reckon_278 ?_
      refine lv_i2l (v := (((σ.2.2.1 11 0) >>> 16) + v2).toInt64) E.x E.b d_Pro_reckon_279 rfl ?_
      obtain ⟨o58, h_o58, h⟩ := bd_some h
      refine clSN_DM_wordOf E w (ar0 := 0) (x1 := ((((σ.2.2.1 11 0) >>> 16) + v2).toInt64)) h_o58 n1126 (by decide) hl.1 (Nat.le_of_ble_eq_true rfl) d_Pro_reckon_280 (fun H locs w => ?_)
      obtain ⟨c59, h⟩ := ck_some h
      obtain ⟨σ60, e_σ60, h⟩ := lt_some h
      refine iasC E w (k := 14) (by decide) c59 e_σ60 d_Pro_reckon_283 (fun H locs w => ?_)
      obtain ⟨y61, e_y61, h⟩ := lt_some h
      refine lv_iinc (v := y61) (lv' := [(2, .int y61), (0, .ref (ad 62))]) E.x E.b d_Pro_reckon_284 hl (k := 1) rfl (e_y61) (by decide) rfl (fun ls hl => ?_)
      refine lv_goto (tgt := 254) E.x E.b d_Pro_reckon_287 (by decide) ?_
      exact hr_254 σ60 y61 _ _ _ h w (lv_sub hl [1, 0] rfl)
def F_Pro_reckon_223 (σ : Sg) (s1 : Int32) : Option (Sg) := bd (F_Pro_setAll σ s1) (fun o62 => F_Pro_reckon_334 o62)
set_option maxRecDepth 10000 in
set_option maxHeartbeats 4000000 in
theorem bt_Pro_reckon_223 {p : Program} {l : Launch} {e : Env} {R : Room} {s : State} {m : MethodId} {args : Array Value} {below : List Frame} {meth : Method} {c : Code} {D : va_G} {τ : ClassId × ClassId × ClassId} {B : Nat} {A : Nat → Prop} {ad : Nat → Nat} (E : Cx p R s m args meth c prog_7_method_6_code 3 "DrawingMachine$Processor" 3 D τ B A) (hret : meth.sig.returnType = none) (o : Sg) (σ : Sg) (s1 : Int32) (h : F_Pro_reckon_223 σ s1 = some o) {H : Heap} {locs : List Loc} {ls : Array Slot} (w : Wd s D A (wdC τ σ ad) H locs) (hl : lv_has ls 3 []) : W p l e R s m args below meth c H locs 0 0 (QV below args s A D τ (wdC τ o ad)) (F0 m 223 ls [.int s1, .ref (ad 62)]) := by
  obtain ⟨o62, h_o62, h⟩ := bd_some h
  refine clV_Pro_setAll E w (x0 := s1) h_o62 k1098 (by decide) hl.1 (Nat.le_of_ble_eq_true rfl) d_Pro_reckon_223 (fun H locs w => ?_)
  refine lv_goto (tgt := 334) E.x E.b d_Pro_reckon_226 (by decide) ?_
  exact bt_Pro_reckon_334 E hret o o62 h w (lv_sub hl [] rfl)
def F_Pro_reckon_189 (σ : Sg) (s1 : Int32) : Option (Sg) := bd (F_Pro_setAll σ s1) (fun o63 => F_Pro_reckon_334 o63)
set_option maxRecDepth 10000 in
set_option maxHeartbeats 4000000 in
theorem bt_Pro_reckon_189 {p : Program} {l : Launch} {e : Env} {R : Room} {s : State} {m : MethodId} {args : Array Value} {below : List Frame} {meth : Method} {c : Code} {D : va_G} {τ : ClassId × ClassId × ClassId} {B : Nat} {A : Nat → Prop} {ad : Nat → Nat} (E : Cx p R s m args meth c prog_7_method_6_code 3 "DrawingMachine$Processor" 3 D τ B A) (hret : meth.sig.returnType = none) (o : Sg) (σ : Sg) (s1 : Int32) (h : F_Pro_reckon_189 σ s1 = some o) {H : Heap} {locs : List Loc} {ls : Array Slot} (w : Wd s D A (wdC τ σ ad) H locs) (hl : lv_has ls 3 []) : W p l e R s m args below meth c H locs 0 0 (QV below args s A D τ (wdC τ o ad)) (F0 m 189 ls [.int s1, .ref (ad 62)]) := by
  obtain ⟨o63, h_o63, h⟩ := bd_some h
  refine clV_Pro_setAll E w (x0 := s1) h_o63 k1098 (by decide) hl.1 (Nat.le_of_ble_eq_true rfl) d_Pro_reckon_189 (fun H locs w => ?_)
  refine lv_goto (tgt := 334) E.x E.b d_Pro_reckon_192 (by decide) ?_
  exact bt_Pro_reckon_334 E hret o o63 h w (lv_sub hl [] rfl)
def F_Pro_reckon (σ : Sg) (x0 : Int32) : Option (Sg) := if x0 = 6 then (bd (F_Pro_dotProduct σ 3) (fun o65 => bd (F_Pro_setAll σ o65) (fun o66 => F_Pro_reckon_334 o66))) else (if x0 = 7 then (bd (F_Pro_dotProduct σ 4) (fun o68 => bd (F_Pro_setAll σ o68) (fun o69 => F_Pro_reckon_334 o69))) else (if x0 = 8 then (F_Pro_reckon_293 σ x0) else (if x0 = 9 then (F_Pro_reckon_293 σ x0) else (if x0 = 10 then (F_Pro_reckon_293 σ x0) else (if x0 = 11 then (F_Pro_reckon_293 σ x0) else (if x0 = 12 then (F_Pro_reckon_293 σ x0) else (if x0 = 13 then (bd (F_Pro_oneBy (σ.2.2.1 11 0)) (fun o76 => bd (F_Pro_setAll σ o76) (fun o77 => F_Pro_reckon_334 o77))) else (if x0 = 14 then (if 0 < (σ.2.2.1 11 0) then (ck (¬ ((σ.2.2.1 11 0).toInt64) = 0) (bd (F_Pro_rootOf (281474976710656 / ((σ.2.2.1 11 0).toInt64))) (fun o80 => F_Pro_reckon_189 σ o80))) else (F_Pro_reckon_189 σ 2147483647)) else (if x0 = 15 then (if 0 ≤ (σ.2.2.1 11 0) then (bd (F_Pro_rootOf (65536 * ((σ.2.2.1 11 0).toInt64))) (fun o82 => F_Pro_reckon_223 σ o82)) else (F_Pro_reckon_223 σ 0)) else (if x0 = 16 then (F_Pro_reckon_293 σ x0) else (if x0 = 17 then (F_Pro_reckon_293 σ x0) else (if x0 = 18 then (F_Pro_reckon_293 σ x0) else (if x0 = 19 then (F_Pro_reckon_293 σ x0) else (if x0 = 20 then (F_Pro_reckon_293 σ x0) else (if x0 = 21 then (F_Pro_reckon_293 σ x0) else (if x0 = 22 then (bd (F_Pro_crossProduct σ) (fun o90 => F_Pro_reckon_334 o90)) else (if x0 = 23 then (F_Pro_reckon_293 σ x0) else (if x0 = 24 then (F_Pro_reckon_293 σ x0) else (if x0 = 25 then (F_Pro_reckon_293 σ x0) else (if x0 = 26 then (F_Pro_reckon_293 σ x0) else (if x0 = 27 then (F_Pro_reckon_293 σ x0) else (if x0 = 28 then (F_Pro_reckon_293 σ x0) else (if x0 = 29 then (F_Pro_reckon_293 σ x0) else (if x0 = 30 then (bd (F_Pro_readUniform σ ((σ.2.2.1 11 0) >>> 16)) (fun o99 => F_Pro_reckon_334 o99)) else (if x0 = 31 then (L_Pro_reckon_254 100000 σ 0) else (F_Pro_reckon_293 σ x0))))))))))))))))))))))))))
set_option maxRecDepth 10000 in
set_option maxHeartbeats 4000000 in
theorem c_Pro_reckon (l : Launch) (D : va_G) (τ : ClassId × ClassId × ClassId) (B : Nat) (σ : Sg) (ad : Nat → Nat) (x0 : Int32) (o : Sg) (h : F_Pro_reckon σ x0 = some o) : MV l y_Pro_reckon (Cond.code y_Pro_reckon prog_7_method_6_code 3 none) 3 D τ B [.ref (ad 62), .int x0] (wdC τ σ ad) (wdC τ o ad) := by
  refine en_v (by decide) (Nat.le_of_ble_eq_true rfl) ?_
  intro p e R s m args below meth c H locs ls A E hret w hl
  have E : Cx p R s m args meth c prog_7_method_6_code 3 "DrawingMachine$Processor" 3 D τ B A := E
  have hl : lv_has ls 3 [(0, .ref (ad 62)), (1, .int x0)] := hl
  refine lv_iload_n E.x E.b d_Pro_reckon_0 rfl (lv_at hl 1 rfl) ?_
  by_cases q64 : x0 = 6
  ·
    replace h := ifT q64 h
    refine wi_e (v := 6) q64 ?_
    refine lv_tableIn (off := 119) (tgt := 120) E.x E.b d_Pro_reckon_1 (by decide) (by decide) (by decide) (by decide) ?_
    refine lv_aload_n E.x E.b d_Pro_reckon_120 rfl (lv_at hl 0 rfl) ?_
    refine lv_aload_n E.x E.b d_Pro_reckon_121 rfl (lv_at hl 0 rfl) ?_
    refine lv_iconst (v := 3) E.x E.b d_Pro_reckon_122 (by decide) ?_
    obtain ⟨o65, h_o65, h⟩ := bd_some h
    refine clV_Pro_dotProduct E w (x0 := 3) h_o65 k1091 (by decide) hl.1 (Nat.le_of_ble_eq_true rfl) d_Pro_reckon_123 (fun H locs w => ?_)
    obtain ⟨o66, h_o66, h⟩ := bd_some h
    refine clV_Pro_setAll E w (x0 := o65) h_o66 k1098 (by decide) hl.1 (Nat.le_of_ble_eq_true rfl) d_Pro_reckon_126 (fun H locs w => ?_)
    refine lv_goto (tgt := 334) E.x E.b d_Pro_reckon_129 (by decide) ?_
    exact bt_Pro_reckon_334 E hret o o66 h w (lv_sub hl [] rfl)
  replace h := ifF q64 h
  replace q64 := ne_ti (k := 6) (by decide) q64
  by_cases q67 : x0 = 7
  ·
    replace h := ifT q67 h
    refine wi_e (v := 7) q67 ?_
    refine lv_tableIn (off := 131) (tgt := 132) E.x E.b d_Pro_reckon_1 (by decide) (by decide) (by decide) (by decide) ?_
    refine lv_aload_n E.x E.b d_Pro_reckon_132 rfl (lv_at hl 0 rfl) ?_
    refine lv_aload_n E.x E.b d_Pro_reckon_133 rfl (lv_at hl 0 rfl) ?_
    refine lv_iconst (v := 4) E.x E.b d_Pro_reckon_134 (by decide) ?_
    obtain ⟨o68, h_o68, h⟩ := bd_some h
    refine clV_Pro_dotProduct E w (x0 := 4) h_o68 k1091 (by decide) hl.1 (Nat.le_of_ble_eq_true rfl) d_Pro_reckon_135 (fun H locs w => ?_)
    obtain ⟨o69, h_o69, h⟩ := bd_some h
    refine clV_Pro_setAll E w (x0 := o68) h_o69 k1098 (by decide) hl.1 (Nat.le_of_ble_eq_true rfl) d_Pro_reckon_138 (fun H locs w => ?_)
    refine lv_goto (tgt := 334) E.x E.b d_Pro_reckon_141 (by decide) ?_
    exact bt_Pro_reckon_334 E hret o o69 h w (lv_sub hl [] rfl)
  replace h := ifF q67 h
  replace q67 := ne_ti (k := 7) (by decide) q67
  by_cases q70 : x0 = 8
  ·
    replace h := ifT q70 h
    refine wi_e (v := 8) q70 ?_
    refine lv_tableIn (off := 292) (tgt := 293) E.x E.b d_Pro_reckon_1 (by decide) (by decide) (by decide) (by decide) ?_
    exact bt_Pro_reckon_293 E hret o σ x0 h w (lv_sub hl [0, 1] rfl)
  replace h := ifF q70 h
  replace q70 := ne_ti (k := 8) (by decide) q70
  by_cases q71 : x0 = 9
  ·
    replace h := ifT q71 h
    refine wi_e (v := 9) q71 ?_
    refine lv_tableIn (off := 292) (tgt := 293) E.x E.b d_Pro_reckon_1 (by decide) (by decide) (by decide) (by decide) ?_
    exact bt_Pro_reckon_293 E hret o σ x0 h w (lv_sub hl [0, 1] rfl)
  replace h := ifF q71 h
  replace q71 := ne_ti (k := 9) (by decide) q71
  by_cases q72 : x0 = 10
  ·
    replace h := ifT q72 h
    refine wi_e (v := 10) q72 ?_
    refine lv_tableIn (off := 292) (tgt := 293) E.x E.b d_Pro_reckon_1 (by decide) (by decide) (by decide) (by decide) ?_
    exact bt_Pro_reckon_293 E hret o σ x0 h w (lv_sub hl [0, 1] rfl)
  replace h := ifF q72 h
  replace q72 := ne_ti (k := 10) (by decide) q72
  by_cases q73 : x0 = 11
  ·
    replace h := ifT q73 h
    refine wi_e (v := 11) q73 ?_
    refine lv_tableIn (off := 292) (tgt := 293) E.x E.b d_Pro_reckon_1 (by decide) (by decide) (by decide) (by decide) ?_
    exact bt_Pro_reckon_293 E hret o σ x0 h w (lv_sub hl [0, 1] rfl)
  replace h := ifF q73 h
  replace q73 := ne_ti (k := 11) (by decide) q73
  by_cases q74 : x0 = 12
  ·
    replace h := ifT q74 h
    refine wi_e (v := 12) q74 ?_
    refine lv_tableIn (off := 292) (tgt := 293) E.x E.b d_Pro_reckon_1 (by decide) (by decide) (by decide) (by decide) ?_
    exact bt_Pro_reckon_293 E hret o σ x0 h w (lv_sub hl [0, 1] rfl)
  replace h := ifF q74 h
  replace q74 := ne_ti (k := 12) (by decide) q74
  by_cases q75 : x0 = 13
  ·
    replace h := ifT q75 h
    refine wi_e (v := 13) q75 ?_
    refine lv_tableIn (off := 143) (tgt := 144) E.x E.b d_Pro_reckon_1 (by decide) (by decide) (by decide) (by decide) ?_
    refine lv_aload_n E.x E.b d_Pro_reckon_144 rfl (lv_at hl 0 rfl) ?_
    refine lv_aload_n E.x E.b d_Pro_reckon_145 rfl (lv_at hl 0 rfl) ?_
    refine gC_Pro_a E w k240 d_Pro_reckon_146 ?_
    refine lv_iconst (v := 0) E.x E.b d_Pro_reckon_149 (by decide) ?_
    refine ialC E w (k := 11) (by decide) (show inb 0 4 by decide) d_Pro_reckon_150 ?_
    refine wi_e (v := σ.2.2.1 11 0) rfl ?_
    obtain ⟨o76, h_o76, h⟩ := bd_some h
    refine clS_Pro_oneBy E w (x0 := (σ.2.2.1 11 0)) h_o76 k1103 (by decide) hl.1 (Nat.le_of_ble_eq_true rfl) d_Pro_reckon_151 (fun H locs w => ?_)
    obtain ⟨o77, h_o77, h⟩ := bd_some h
    refine clV_Pro_setAll E w (x0 := o76) h_o77 k1098 (by decide) hl.1 (Nat.le_of_ble_eq_true rfl) d_Pro_reckon_154 (fun H locs w => ?_)
    refine lv_goto (tgt := 334) E.x E.b d_Pro_reckon_157 (by decide) ?_
    exact bt_Pro_reckon_334 E hret o o77 h w (lv_sub hl [] rfl)
  replace h := ifF q75 h
  replace q75 := ne_ti (k := 13) (by decide) q75
  by_cases q78 : x0 = 14
  ·
    replace h := ifT q78 h
    refine wi_e (v := 14) q78 ?_
    refine lv_tableIn (off := 159) (tgt := 160) E.x E.b d_Pro_reckon_1 (by decide) (by decide) (by decide) (by decide) ?_
    refine lv_aload_n E.x E.b d_Pro_reckon_160 rfl (lv_at hl 0 rfl) ?_
    refine lv_aload_n E.x E.b d_Pro_reckon_161 rfl (lv_at hl 0 rfl) ?_
    refine gC_Pro_a E w k240 d_Pro_reckon_162 ?_
    refine lv_iconst (v := 0) E.x E.b d_Pro_reckon_165 (by decide) ?_
    refine ialC E w (k := 11) (by decide) (show inb 0 4 by decide) d_Pro_reckon_166 ?_
    refine wi_e (v := σ.2.2.1 11 0) rfl ?_
    refine lv_if_gt (tgt := 175) E.x E.b d_Pro_reckon_167 (by decide) (fun c => ?_) (fun c => ?_)
    ·
      replace h := ifT c h
      refine lv_ldc2 (v := 281474976710656) E.x E.b E.o (E.w _ k1112) d_Pro_reckon_175 ?_
      refine lv_aload_n E.x E.b d_Pro_reckon_178 rfl (lv_at hl 0 rfl) ?_
      refine gC_Pro_a E w k240 d_Pro_reckon_179 ?_
      refine lv_iconst (v := 0) E.x E.b d_Pro_reckon_182 (by decide) ?_
      refine ialC E w (k := 11) (by decide) (show inb 0 4 by decide) d_Pro_reckon_183 ?_
      refine wi_e (v := σ.2.2.1 11 0) rfl ?_
      refine lv_i2l (v := (σ.2.2.1 11 0).toInt64) E.x E.b d_Pro_reckon_184 rfl ?_
      obtain ⟨c79, h⟩ := ck_some h
      refine lv_ldiv E.x E.b d_Pro_reckon_185 c79 ?_
      obtain ⟨o80, h_o80, h⟩ := bd_some h
      refine clS_Pro_rootOf E w (x0 := (281474976710656 / ((σ.2.2.1 11 0).toInt64))) h_o80 k1113 (by decide) hl.1 (Nat.le_of_ble_eq_true rfl) d_Pro_reckon_186 (fun H locs w => ?_)
      exact bt_Pro_reckon_189 E hret o σ o80 h w (lv_sub hl [] rfl)
    ·
      replace h := ifF c h
      refine lv_ldc (v := 2147483647) E.x E.b E.o (E.w _ k1106) d_Pro_reckon_170 ?_
      refine lv_goto (tgt := 189) E.x E.b d_Pro_reckon_172 (by decide) ?_
      exact bt_Pro_reckon_189 E hret o σ 2147483647 h w (lv_sub hl [] rfl)
  replace h := ifF q78 h
  replace q78 := ne_ti (k := 14) (by decide) q78
  by_cases q81 : x0 = 15
  ·
    replace h := ifT q81 h
    refine wi_e (v := 15) q81 ?_
    refine lv_tableIn (off := 194) (tgt := 195) E.x E.b d_Pro_reckon_1 (by decide) (by decide) (by decide) (by decide) ?_
    refine lv_aload_n E.x E.b d_Pro_reckon_195 rfl (lv_at hl 0 rfl) ?_
    refine lv_aload_n E.x E.b d_Pro_reckon_196 rfl (lv_at hl 0 rfl) ?_
    refine gC_Pro_a E w k240 d_Pro_reckon_197 ?_
    refine lv_iconst (v := 0) E.x E.b d_Pro_reckon_200 (by decide) ?_
    refine ialC E w (k := 11) (by decide) (show inb 0 4 by decide) d_Pro_reckon_201 ?_
    refine wi_e (v := σ.2.2.1 11 0) rfl ?_
    refine lv_if_ge (tgt := 209) E.x E.b d_Pro_reckon_202 (by decide) (fun c => ?_) (fun c => ?_)
    ·
      replace h := ifT c h
      refine lv_ldc2 (v := 65536) E.x E.b E.o (E.w _ k1116) d_Pro_reckon_209 ?_
      refine lv_aload_n E.x E.b d_Pro_reckon_212 rfl (lv_at hl 0 rfl) ?_
      refine gC_Pro_a E w k240 d_Pro_reckon_213 ?_
      refine lv_iconst (v := 0) E.x E.b d_Pro_reckon_216 (by decide) ?_
      refine ialC E w (k := 11) (by decide) (show inb 0 4 by decide) d_Pro_reckon_217 ?_
      refine wi_e (v := σ.2.2.1 11 0) rfl ?_
      refine lv_i2l (v := (σ.2.2.1 11 0).toInt64) E.x E.b d_Pro_reckon_218 rfl ?_
      refine lv_lmul E.x E.b d_Pro_reckon_219 ?_
      obtain ⟨o82, h_o82, h⟩ := bd_some h
      refine clS_Pro_rootOf E w (x0 := (65536 * ((σ.2.2.1 11 0).toInt64))) h_o82 k1113 (by decide) hl.1 (Nat.le_of_ble_eq_true rfl) d_Pro_reckon_220 (fun H locs w => ?_)
      exact bt_Pro_reckon_223 E hret o σ o82 h w (lv_sub hl [] rfl)
    ·
      replace h := ifF c h
      refine lv_iconst (v := 0) E.x E.b d_Pro_reckon_205 (by decide) ?_
      refine lv_goto (tgt := 223) E.x E.b d_Pro_reckon_206 (by decide) ?_
      exact bt_Pro_reckon_223 E hret o σ 0 h w (lv_sub hl [] rfl)
  replace h := ifF q81 h
  replace q81 := ne_ti (k := 15) (by decide) q81
  by_cases q83 : x0 = 16
  ·
    replace h := ifT q83 h
    refine wi_e (v := 16) q83 ?_
    refine lv_tableIn (off := 292) (tgt := 293) E.x E.b d_Pro_reckon_1 (by decide) (by decide) (by decide) (by decide) ?_
    exact bt_Pro_reckon_293 E hret o σ x0 h w (lv_sub hl [0, 1] rfl)
  replace h := ifF q83 h
  replace q83 := ne_ti (k := 16) (by decide) q83
  by_cases q84 : x0 = 17
  ·
    replace h := ifT q84 h
    refine wi_e (v := 17) q84 ?_
    refine lv_tableIn (off := 292) (tgt := 293) E.x E.b d_Pro_reckon_1 (by decide) (by decide) (by decide) (by decide) ?_
    exact bt_Pro_reckon_293 E hret o σ x0 h w (lv_sub hl [0, 1] rfl)
  replace h := ifF q84 h
  replace q84 := ne_ti (k := 17) (by decide) q84
  by_cases q85 : x0 = 18
  ·
    replace h := ifT q85 h
    refine wi_e (v := 18) q85 ?_
    refine lv_tableIn (off := 292) (tgt := 293) E.x E.b d_Pro_reckon_1 (by decide) (by decide) (by decide) (by decide) ?_
    exact bt_Pro_reckon_293 E hret o σ x0 h w (lv_sub hl [0, 1] rfl)
  replace h := ifF q85 h
  replace q85 := ne_ti (k := 18) (by decide) q85
  by_cases q86 : x0 = 19
  ·
    replace h := ifT q86 h
    refine wi_e (v := 19) q86 ?_
    refine lv_tableIn (off := 292) (tgt := 293) E.x E.b d_Pro_reckon_1 (by decide) (by decide) (by decide) (by decide) ?_
    exact bt_Pro_reckon_293 E hret o σ x0 h w (lv_sub hl [0, 1] rfl)
  replace h := ifF q86 h
  replace q86 := ne_ti (k := 19) (by decide) q86
  by_cases q87 : x0 = 20
  ·
    replace h := ifT q87 h
    refine wi_e (v := 20) q87 ?_
    refine lv_tableIn (off := 292) (tgt := 293) E.x E.b d_Pro_reckon_1 (by decide) (by decide) (by decide) (by decide) ?_
    exact bt_Pro_reckon_293 E hret o σ x0 h w (lv_sub hl [0, 1] rfl)
  replace h := ifF q87 h
  replace q87 := ne_ti (k := 20) (by decide) q87
  by_cases q88 : x0 = 21
  ·
    replace h := ifT q88 h
    refine wi_e (v := 21) q88 ?_
    refine lv_tableIn (off := 292) (tgt := 293) E.x E.b d_Pro_reckon_1 (by decide) (by decide) (by decide) (by decide) ?_
    exact bt_Pro_reckon_293 E hret o σ x0 h w (lv_sub hl [0, 1] rfl)
  replace h := ifF q88 h
  replace q88 := ne_ti (k := 21) (by decide) q88
  by_cases q89 : x0 = 22
  ·
    replace h := ifT q89 h
    refine wi_e (v := 22) q89 ?_
    refine lv_tableIn (off := 228) (tgt := 229) E.x E.b d_Pro_reckon_1 (by decide) (by decide) (by decide) (by decide) ?_
    refine lv_aload_n E.x E.b d_Pro_reckon_229 rfl (lv_at hl 0 rfl) ?_
    obtain ⟨o90, h_o90, h⟩ := bd_some h
    refine clV_Pro_crossProduct E w h_o90 k1117 (by decide) hl.1 (Nat.le_of_ble_eq_true rfl) d_Pro_reckon_230 (fun H locs w => ?_)
    refine lv_goto (tgt := 334) E.x E.b d_Pro_reckon_233 (by decide) ?_
    exact bt_Pro_reckon_334 E hret o o90 h w (lv_sub hl [] rfl)
  replace h := ifF q89 h
  replace q89 := ne_ti (k := 22) (by decide) q89
  by_cases q91 : x0 = 23
  ·
    replace h := ifT q91 h
    refine wi_e (v := 23) q91 ?_
    refine lv_tableIn (off := 292) (tgt := 293) E.x E.b d_Pro_reckon_1 (by decide) (by decide) (by decide) (by decide) ?_
    exact bt_Pro_reckon_293 E hret o σ x0 h w (lv_sub hl [0, 1] rfl)
  replace h := ifF q91 h
  replace q91 := ne_ti (k := 23) (by decide) q91
  by_cases q92 : x0 = 24
  ·
    replace h := ifT q92 h
    refine wi_e (v := 24) q92 ?_
    refine lv_tableIn (off := 292) (tgt := 293) E.x E.b d_Pro_reckon_1 (by decide) (by decide) (by decide) (by decide) ?_
    exact bt_Pro_reckon_293 E hret o σ x0 h w (lv_sub hl [0, 1] rfl)
  replace h := ifF q92 h
  replace q92 := ne_ti (k := 24) (by decide) q92
  by_cases q93 : x0 = 25
  ·
    replace h := ifT q93 h
    refine wi_e (v := 25) q93 ?_
    refine lv_tableIn (off := 292) (tgt := 293) E.x E.b d_Pro_reckon_1 (by decide) (by decide) (by decide) (by decide) ?_
    exact bt_Pro_reckon_293 E hret o σ x0 h w (lv_sub hl [0, 1] rfl)
  replace h := ifF q93 h
  replace q93 := ne_ti (k := 25) (by decide) q93
  by_cases q94 : x0 = 26
  ·
    replace h := ifT q94 h
    refine wi_e (v := 26) q94 ?_
    refine lv_tableIn (off := 292) (tgt := 293) E.x E.b d_Pro_reckon_1 (by decide) (by decide) (by decide) (by decide) ?_
    exact bt_Pro_reckon_293 E hret o σ x0 h w (lv_sub hl [0, 1] rfl)
  replace h := ifF q94 h
  replace q94 := ne_ti (k := 26) (by decide) q94
  by_cases q95 : x0 = 27
  ·
    replace h := ifT q95 h
    refine wi_e (v := 27) q95 ?_
    refine lv_tableIn (off := 292) (tgt := 293) E.x E.b d_Pro_reckon_1 (by decide) (by decide) (by decide) (by decide) ?_
    exact bt_Pro_reckon_293 E hret o σ x0 h w (lv_sub hl [0, 1] rfl)
  replace h := ifF q95 h
  replace q95 := ne_ti (k := 27) (by decide) q95
  by_cases q96 : x0 = 28
  ·
    replace h := ifT q96 h
    refine wi_e (v := 28) q96 ?_
    refine lv_tableIn (off := 292) (tgt := 293) E.x E.b d_Pro_reckon_1 (by decide) (by decide) (by decide) (by decide) ?_
    exact bt_Pro_reckon_293 E hret o σ x0 h w (lv_sub hl [0, 1] rfl)
  replace h := ifF q96 h
  replace q96 := ne_ti (k := 28) (by decide) q96
  by_cases q97 : x0 = 29
  ·
    replace h := ifT q97 h
    refine wi_e (v := 29) q97 ?_
    refine lv_tableIn (off := 292) (tgt := 293) E.x E.b d_Pro_reckon_1 (by decide) (by decide) (by decide) (by decide) ?_
    exact bt_Pro_reckon_293 E hret o σ x0 h w (lv_sub hl [0, 1] rfl)
  replace h := ifF q97 h
  replace q97 := ne_ti (k := 29) (by decide) q97
  by_cases q98 : x0 = 30
  ·
    replace h := ifT q98 h
    refine wi_e (v := 30) q98 ?_
    refine lv_tableIn (off := 235) (tgt := 236) E.x E.b d_Pro_reckon_1 (by decide) (by decide) (by decide) (by decide) ?_
    refine lv_aload_n E.x E.b d_Pro_reckon_236 rfl (lv_at hl 0 rfl) ?_
    refine lv_aload_n E.x E.b d_Pro_reckon_237 rfl (lv_at hl 0 rfl) ?_
    refine gC_Pro_a E w k240 d_Pro_reckon_238 ?_
    refine lv_iconst (v := 0) E.x E.b d_Pro_reckon_241 (by decide) ?_
    refine ialC E w (k := 11) (by decide) (show inb 0 4 by decide) d_Pro_reckon_242 ?_
    refine wi_e (v := σ.2.2.1 11 0) rfl ?_
    refine lv_bipush (v := 16) E.x E.b d_Pro_reckon_243 (by decide) ?_
    refine lv_ishr E.x E.b d_Pro_reckon_245 ?_
    refine wi_e (v := (σ.2.2.1 11 0) >>> 16) rfl ?_
    obtain ⟨o99, h_o99, h⟩ := bd_some h
    refine clV_Pro_readUniform E w (x0 := ((σ.2.2.1 11 0) >>> 16)) h_o99 k1121 (by decide) hl.1 (Nat.le_of_ble_eq_true rfl) d_Pro_reckon_246 (fun H locs w => ?_)
    refine lv_goto (tgt := 334) E.x E.b d_Pro_reckon_249 (by decide) ?_
    exact bt_Pro_reckon_334 E hret o o99 h w (lv_sub hl [] rfl)
  replace h := ifF q98 h
  replace q98 := ne_ti (k := 30) (by decide) q98
  by_cases q100 : x0 = 31
  ·
    replace h := ifT q100 h
    refine wi_e (v := 31) q100 ?_
    refine lv_tableIn (off := 251) (tgt := 252) E.x E.b d_Pro_reckon_1 (by decide) (by decide) (by decide) (by decide) ?_
    refine lv_iconst (v := 0) E.x E.b d_Pro_reckon_252 (by decide) ?_
    refine lv_istore_n (lv' := [(2, .int 0), (0, .ref (ad 62)), (1, .int x0)]) E.x E.b d_Pro_reckon_253 rfl hl (by decide) rfl (fun ls hl => ?_)
    exact lt_Pro_reckon_254 E hret o 100000 σ 0 _ _ _ h w (lv_sub hl [1, 0] rfl)
  replace h := ifF q100 h
  replace q100 := ne_ti (k := 31) (by decide) q100
  refine lv_tableOut (tgt := 293) E.x E.b d_Pro_reckon_1 (by omega) (by decide) ?_
  exact bt_Pro_reckon_293 E hret o σ x0 h w (lv_sub hl [0, 1] rfl)
theorem clV_Pro_reckon {p : Program} {l : Launch} {e : Env} {R : Room} {s : State} {m : MethodId} {args : Array Value} {below : List Frame} {meth : Method} {c : Code} {H : Heap} {locs : List Loc} {Q : State → Prop} {cc : ByteArray} {nL pc lev : Nat} {own : String} {D : va_G} {τ : ClassId × ClassId × ClassId} {B : Nat} {A : Nat → Prop} {σ : Sg} {ad : Nat → Nat} {ls : Array Slot} {rest : List Value} (E : Cx p R s m args meth c cc nL own lev D τ B A) (w : Wd s D A (wdC τ σ ad) H locs) {x0 : Int32} {o : Sg} (h : F_Pro_reckon σ x0 = some o) {index : Nat} (hlk : Cond.methodLink own index y_Pro_reckon ∈ tw) (hlev : 3 < lev) (hsz : ls.size = nL) (hr : (rest.map fun v => v.category).sum ≤ 8) (hd : decode cc pc = .ok (.invokevirtual index, 3)) (kk : ∀ (H1 : Heap) (locs1 : List Loc), Wd s D A (wdC τ o ad) H1 locs1 → W p l e R s m args below meth c H1 locs1 0 0 Q (F0 m (pc + 3) ls (rest))) : W p l e R s m args below meth c H locs 0 0 Q (F0 m pc ls (.int x0 :: .ref (ad 62) :: rest)) :=
  cr_v w E.C (va_runV (As := [.int x0]) (rest := rest) E.fix (c_Pro_reckon l D τ B σ ad x0 o h H.size) (cwV 1 E.w (tw_pre (tw_good k1090) (l := [_, _, _, _]) (List.forall_mem_cons.mpr ⟨hlk, List.forall_mem_cons.mpr ⟨k1089, List.forall_mem_cons.mpr ⟨ks17, List.forall_mem_cons.mpr ⟨k8, fun _ h => absurd h List.not_mem_nil⟩⟩⟩⟩)) rfl rfl rfl (by decide +kernel) (E.rm hlev (by decide))) (wd_preV w E.C [.int x0] rcC_Pro rfl) rfl rfl hsz rfl (lv_room hr) hd ⟨Nat.zero_le _, Nat.zero_le _⟩) kk
