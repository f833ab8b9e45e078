theorem d_Erm_down_0 : decode prog_16_method_12_code 0 = .ok (.lload_n 0, 1) := by decide +kernel
theorem d_Erm_down_1 : decode prog_16_method_12_code 1 = .ok (.lload_n 2, 1) := by decide +kernel
theorem d_Erm_down_2 : decode prog_16_method_12_code 2 = .ok (.ldiv, 1) := by decide +kernel
theorem d_Erm_down_3 : decode prog_16_method_12_code 3 = .ok (.lload_n 0, 1) := by decide +kernel
theorem d_Erm_down_4 : decode prog_16_method_12_code 4 = .ok (.lload_n 2, 1) := by decide +kernel
theorem d_Erm_down_5 : decode prog_16_method_12_code 5 = .ok (.lrem, 1) := by decide +kernel
theorem d_Erm_down_6 : decode prog_16_method_12_code 6 = .ok (.lconst 0, 1) := by decide +kernel
theorem d_Erm_down_7 : decode prog_16_method_12_code 7 = .ok (.lcmp, 1) := by decide +kernel
theorem d_Erm_down_8 : decode prog_16_method_12_code 8 = .ok (.ifCond .eq 13, 3) := by decide +kernel
theorem d_Erm_down_11 : decode prog_16_method_12_code 11 = .ok (.lload_n 0, 1) := by decide +kernel
theorem d_Erm_down_12 : decode prog_16_method_12_code 12 = .ok (.lconst 0, 1) := by decide +kernel
theorem d_Erm_down_13 : decode prog_16_method_12_code 13 = .ok (.lcmp, 1) := by decide +kernel
theorem d_Erm_down_14 : decode prog_16_method_12_code 14 = .ok (.ifCond .ge 7, 3) := by decide +kernel
theorem d_Erm_down_17 : decode prog_16_method_12_code 17 = .ok (.lconst 1, 1) := by decide +kernel
theorem d_Erm_down_18 : decode prog_16_method_12_code 18 = .ok (.goto 4, 3) := by decide +kernel
theorem d_Erm_down_21 : decode prog_16_method_12_code 21 = .ok (.lconst 0, 1) := by decide +kernel
theorem d_Erm_down_22 : decode prog_16_method_12_code 22 = .ok (.lsub, 1) := by decide +kernel
theorem d_Erm_down_23 : decode prog_16_method_12_code 23 = .ok (.lreturn, 1) := by decide +kernel
def F_Erm_down_22  (s0 : Int64) (s1 : Int64) : Option (Int64) := some (s0 - s1)
set_option maxRecDepth 10000 in
set_option maxHeartbeats 4000000 in
theorem bt_Erm_down_22 {p : Program} {l : Launch} {e : Env} {R : Room} {s : State} {m : MethodId} {args : Array Value} {below : List Frame} {meth : Method} {c : Code} {D : va_G} {τ : ClassId × ClassId × ClassId} {B : Nat} {A : Nat → Prop} {ad : Nat → Nat} {σ0 : Sg} (E : Cx p R s m args meth c prog_16_method_12_code 4 "DrawingMachineModel$EdgeRasterModel" 0 D τ B A) (hret : meth.sig.returnType = (some .long)) (o : Int64) (s0 : Int64) (s1 : Int64) (h : F_Erm_down_22 s0 s1 = some o) {H : Heap} {locs : List Loc} {ls : Array Slot} (w : Wd s D A (wdM τ σ0 ad) H locs) (hl : lv_has ls 4 []) : W p l e R s m args below meth c H locs 0 0 (QL below args s A D τ (wdM τ σ0 ad) o) (F0 m 22 ls [.long s1, .long s0]) := by
  refine lv_lsub E.x E.b d_Erm_down_22 ?_
  obtain rfl := Option.some.inj h
  exact rt_l E w hret d_Erm_down_23
def F_Erm_down_21  (s0 : Int64) : Option (Int64) := F_Erm_down_22 s0 0
set_option maxRecDepth 10000 in
set_option maxHeartbeats 4000000 in
theorem bt_Erm_down_21 {p : Program} {l : Launch} {e : Env} {R : Room} {s : State} {m : MethodId} {args : Array Value} {below : List Frame} {meth : Method} {c : Code} {D : va_G} {τ : ClassId × ClassId × ClassId} {B : Nat} {A : Nat → Prop} {ad : Nat → Nat} {σ0 : Sg} (E : Cx p R s m args meth c prog_16_method_12_code 4 "DrawingMachineModel$EdgeRasterModel" 0 D τ B A) (hret : meth.sig.returnType = (some .long)) (o : Int64) (s0 : Int64) (h : F_Erm_down_21 s0 = some o) {H : Heap} {locs : List Loc} {ls : Array Slot} (w : Wd s D A (wdM τ σ0 ad) H locs) (hl : lv_has ls 4 []) : W p l e R s m args below meth c H locs 0 0 (QL below args s A D τ (wdM τ σ0 ad) o) (F0 m 21 ls [.long s0]) := by
  refine lv_lconst (v := 0) E.x E.b d_Erm_down_21 (by decide) ?_
  exact bt_Erm_down_22 E hret o s0 0 h w (lv_sub hl [] rfl)
def F_Erm_down  (x0 : Int64) (x1 : Int64) : Option (Int64) := ck (¬ x1 = 0) (ck (¬ x1 = 0) (if (lrem x0 x1) = 0 then (F_Erm_down_21 (x0 / x1)) else (if 0 ≤ x0 then (F_Erm_down_21 (x0 / x1)) else (F_Erm_down_22 (x0 / x1) 1))))
set_option maxRecDepth 10000 in
set_option maxHeartbeats 4000000 in
theorem c_Erm_down (l : Launch) (D : va_G) (τ : ClassId × ClassId × ClassId) (B : Nat) (σ0 : Sg) (ad : Nat → Nat) (x0 : Int64) (x1 : Int64) (o : Int64) (h : F_Erm_down x0 x1 = some o) : ML l y_Erm_down (Cond.code y_Erm_down prog_16_method_12_code 4 (some .long)) 0 D τ B [.long x0, .long x1] (wdM τ σ0 ad) (wdM τ σ0 ad) o := by
  refine en_l (by decide) (Nat.le_of_ble_eq_true rfl) ?_
  intro p e R s m args below meth c H locs ls A E hret w hl
  have E : Cx p R s m args meth c prog_16_method_12_code 4 "DrawingMachineModel$EdgeRasterModel" 0 D τ B A := E
  have hl : lv_has ls 4 [(0, .long x0), (2, .long x1)] := hl
  refine lv_lload_n E.x E.b d_Erm_down_0 rfl (lv_at hl 0 rfl) ?_
  refine lv_lload_n E.x E.b d_Erm_down_1 rfl (lv_at hl 1 rfl) ?_
  obtain ⟨c3, h⟩ := ck_some h
  refine lv_ldiv E.x E.b d_Erm_down_2 c3 ?_
  refine lv_lload_n E.x E.b d_Erm_down_3 rfl (lv_at hl 0 rfl) ?_
  refine lv_lload_n E.x E.b d_Erm_down_4 rfl (lv_at hl 1 rfl) ?_
  obtain ⟨c4, h⟩ := ck_some h
  refine lv_lrem E.x E.b d_Erm_down_5 c4 ?_
  refine wl_e (v := lrem x0 x1) rfl ?_
  refine lv_lconst (v := 0) E.x E.b d_Erm_down_6 (by decide) ?_
  refine W.lcmp E.x E.b d_Erm_down_7 ?_
  refine lv_if_eq (tgt := 21) E.x E.b d_Erm_down_8 (by decide) (fun c => ?_) (fun c => ?_)
  ·
    replace h := ifT (lgc_eq.mp c) h
    exact bt_Erm_down_21 E hret o (x0 / x1) h w (lv_sub hl [] rfl)
  ·
    replace h := ifF (fun h9 => c (lgc_eq.mpr h9)) h
    refine lv_lload_n E.x E.b d_Erm_down_11 rfl (lv_at hl 0 rfl) ?_
    refine lv_lconst (v := 0) E.x E.b d_Erm_down_12 (by decide) ?_
    refine W.lcmp E.x E.b d_Erm_down_13 ?_
    refine lv_if_ge (tgt := 21) E.x E.b d_Erm_down_14 (by decide) (fun c => ?_) (fun c => ?_)
    ·
      replace h := ifT (lgc_ge.mp c) h
      exact bt_Erm_down_21 E hret o (x0 / x1) h w (lv_sub hl [] rfl)
    ·
      replace h := ifF (fun h9 => c (lgc_ge.mpr h9)) h
      refine lv_lconst (v := 1) E.x E.b d_Erm_down_17 (by decide) ?_
      refine lv_goto (tgt := 22) E.x E.b d_Erm_down_18 (by decide) ?_
      exact bt_Erm_down_22 E hret o (x0 / x1) 1 h w (lv_sub hl [] rfl)
theorem clSN_Erm_down {p : Program} {l : Launch} {e : Env} {R : Room} {s : State} {m : MethodId} {args : Array Value} {below : List Frame} {meth : Method} {c : Code} {H : Heap} {locs : List Loc} {Q : State → Prop} {cc : ByteArray} {nL pc lev : Nat} {own : String} {D : va_G} {τ : ClassId × ClassId × ClassId} {B : Nat} {A : Nat → Prop} {σ : Sg} {ad : Nat → Nat} {ls : Array Slot} {rest : List Value} (E : Cx p R s m args meth c cc nL own lev D τ B A) (w : Wd s D A (wdM τ σ ad) H locs) {x0 : Int64} {x1 : Int64} {o : Int64} (h : F_Erm_down x0 x1 = some o) {index : Nat} {host : String} (hlk : Cond.methodLinkNest own index y_Erm_down host ∈ nw) (hlev : 0 < lev) (hsz : ls.size = nL) (hr : (rest.map fun v => v.category).sum ≤ 8) (hd : decode cc pc = .ok (.invokestatic index, 3)) (kk : ∀ (H1 : Heap) (locs1 : List Loc), Wd s D A (wdM τ σ ad) H1 locs1 → W p l e R s m args below meth c H1 locs1 0 0 Q (F0 m (pc + 3) ls (.long o :: rest))) : W p l e R s m args below meth c H locs 0 0 Q (F0 m pc ls (.long x1 :: .long x0 :: rest)) :=
  cr_l w E.C (va_runSN (As := [.long x0, .long x1]) (rest := rest) E.fix (c_Erm_down l D τ B σ ad x0 x1 o h H.size) ⟨va_cnB 2 E.w (tw_good k2439) rfl rfl rfl (E.C.2.1.1 _ hlk) (E.w _ k19) (by decide +kernel) (E.rm hlev (by decide)), E.w _ k2438, trivial⟩ (wd_pre w E.C [.long x0, .long x1]) rfl rfl hsz rfl (lv_room hr) hd ⟨Nat.zero_le _, Nat.zero_le _⟩) kk

theorem d_Mod_value_0 : decode prog_14_method_26_code 0 = .ok (.lconst 0, 1) := by decide +kernel
theorem d_Mod_value_1 : decode prog_14_method_26_code 1 = .ok (.lstore_n 2, 1) := by decide +kernel
theorem d_Mod_value_2 : decode prog_14_method_26_code 2 = .ok (.iconst 0, 1) := by decide +kernel
theorem d_Mod_value_3 : decode prog_14_method_26_code 3 = .ok (.istore 4, 2) := by decide +kernel
theorem d_Mod_value_5 : decode prog_14_method_26_code 5 = .ok (.iload 4, 2) := by decide +kernel
theorem d_Mod_value_7 : decode prog_14_method_26_code 7 = .ok (.iconst 3, 1) := by decide +kernel
theorem d_Mod_value_8 : decode prog_14_method_26_code 8 = .ok (.if_icmp .ge 36, 3) := by decide +kernel
theorem d_Mod_value_11 : decode prog_14_method_26_code 11 = .ok (.lload_n 2, 1) := by decide +kernel
theorem d_Mod_value_12 : decode prog_14_method_26_code 12 = .ok (.aload_n 0, 1) := by decide +kernel
theorem d_Mod_value_13 : decode prog_14_method_26_code 13 = .ok (.getfield 81, 3) := by decide +kernel
theorem d_Mod_value_16 : decode prog_14_method_26_code 16 = .ok (.iload 4, 2) := by decide +kernel
theorem d_Mod_value_18 : decode prog_14_method_26_code 18 = .ok (.laload, 1) := by decide +kernel
theorem d_Mod_value_19 : decode prog_14_method_26_code 19 = .ok (.aload_n 0, 1) := by decide +kernel
theorem d_Mod_value_20 : decode prog_14_method_26_code 20 = .ok (.getfield 58, 3) := by decide +kernel
theorem d_Mod_value_23 : decode prog_14_method_26_code 23 = .ok (.getfield 339, 3) := by decide +kernel
theorem d_Mod_value_26 : decode prog_14_method_26_code 26 = .ok (.bipush 28, 2) := by decide +kernel
theorem d_Mod_value_28 : decode prog_14_method_26_code 28 = .ok (.iload 4, 2) := by decide +kernel
theorem d_Mod_value_30 : decode prog_14_method_26_code 30 = .ok (.imul, 1) := by decide +kernel
theorem d_Mod_value_31 : decode prog_14_method_26_code 31 = .ok (.iload_n 1, 1) := by decide +kernel
theorem d_Mod_value_32 : decode prog_14_method_26_code 32 = .ok (.iadd, 1) := by decide +kernel
theorem d_Mod_value_33 : decode prog_14_method_26_code 33 = .ok (.iaload, 1) := by decide +kernel
theorem d_Mod_value_34 : decode prog_14_method_26_code 34 = .ok (.i2l, 1) := by decide +kernel
theorem d_Mod_value_35 : decode prog_14_method_26_code 35 = .ok (.lmul, 1) := by decide +kernel
theorem d_Mod_value_36 : decode prog_14_method_26_code 36 = .ok (.ladd, 1) := by decide +kernel
theorem d_Mod_value_37 : decode prog_14_method_26_code 37 = .ok (.lstore_n 2, 1) := by decide +kernel
theorem d_Mod_value_38 : decode prog_14_method_26_code 38 = .ok (.iinc 4 1, 3) := by decide +kernel
theorem d_Mod_value_41 : decode prog_14_method_26_code 41 = .ok (.goto (-36), 3) := by decide +kernel
theorem d_Mod_value_44 : decode prog_14_method_26_code 44 = .ok (.lload_n 2, 1) := by decide +kernel
theorem d_Mod_value_45 : decode prog_14_method_26_code 45 = .ok (.aload_n 0, 1) := by decide +kernel
theorem d_Mod_value_46 : decode prog_14_method_26_code 46 = .ok (.getfield 81, 3) := by decide +kernel
theorem d_Mod_value_49 : decode prog_14_method_26_code 49 = .ok (.iconst 0, 1) := by decide +kernel
theorem d_Mod_value_50 : decode prog_14_method_26_code 50 = .ok (.laload, 1) := by decide +kernel
theorem d_Mod_value_51 : decode prog_14_method_26_code 51 = .ok (.aload_n 0, 1) := by decide +kernel
theorem d_Mod_value_52 : decode prog_14_method_26_code 52 = .ok (.getfield 81, 3) := by decide +kernel
theorem d_Mod_value_55 : decode prog_14_method_26_code 55 = .ok (.iconst 1, 1) := by decide +kernel
theorem d_Mod_value_56 : decode prog_14_method_26_code 56 = .ok (.laload, 1) := by decide +kernel
theorem d_Mod_value_57 : decode prog_14_method_26_code 57 = .ok (.ladd, 1) := by decide +kernel
theorem d_Mod_value_58 : decode prog_14_method_26_code 58 = .ok (.aload_n 0, 1) := by decide +kernel
theorem d_Mod_value_59 : decode prog_14_method_26_code 59 = .ok (.getfield 81, 3) := by decide +kernel
theorem d_Mod_value_62 : decode prog_14_method_26_code 62 = .ok (.iconst 2, 1) := by decide +kernel
theorem d_Mod_value_63 : decode prog_14_method_26_code 63 = .ok (.laload, 1) := by decide +kernel
theorem d_Mod_value_64 : decode prog_14_method_26_code 64 = .ok (.ladd, 1) := by decide +kernel
theorem d_Mod_value_65 : decode prog_14_method_26_code 65 = .ok (.invokestatic 342, 3) := by decide +kernel
theorem d_Mod_value_68 : decode prog_14_method_26_code 68 = .ok (.l2i, 1) := by decide +kernel
theorem d_Mod_value_69 : decode prog_14_method_26_code 69 = .ok (.ireturn, 1) := by decide +kernel
def L_Mod_value_5 : Nat → Sg → Int32 → Int64 → Int32 → Option (Int32)
  | 0, _, _, _, _ => none
  | n + 1, σ, v1, v2, v4 => if 3 ≤ v4 then (bd (F_Erm_down v2 (((σ.2.2.2.1 0 0) + (σ.2.2.2.1 0 1)) + (σ.2.2.2.1 0 2))) (fun o6 => some o6.toInt32)) else (ck (inb v4 3) (ck (inb ((28 * v4) + v1) 84) (lt (v2 + ((σ.2.2.2.1 0 v4.toNatClampNeg) * ((σ.2.2.1 44 ((28 * v4) + v1).toNatClampNeg).toInt64))) (fun y9 => lt (v4 + 1) (fun y10 => L_Mod_value_5 n σ v1 y9 y10)))))
set_option maxRecDepth 10000 in
set_option maxHeartbeats 4000000 in
theorem lt_Mod_value_5 {p : Program} {l : Launch} {e : Env} {R : Room} {s : State} {m : MethodId} {args : Array Value} {below : List Frame} {meth : Method} {c : Code} {D : va_G} {τ : ClassId × ClassId × ClassId} {B : Nat} {A : Nat → Prop} {ad : Nat → Nat} (E : Cx p R s m args meth c prog_14_method_26_code 5 "DrawingMachineModel" 1 D τ B A) (hret : meth.sig.returnType = (some .int)) (o : Int32) (σ : Sg) : ∀ (n : Nat) (v1 : Int32) (v2 : Int64) (v4 : Int32) (H : Heap) (locs : List Loc) (ls : Array Slot), L_Mod_value_5 n σ v1 v2 v4 = some o → Wd s D A (wdM τ σ ad) H locs → lv_has ls 5 [(0, .ref (ad 59)), (1, .int v1), (2, .long v2), (4, .int v4)] → W p l e R s m args below meth c H locs 0 0 (QI below args s A D τ (wdM τ σ ad) o) (F0 m 5 ls []) := by
  intro n
  induction n with
  | zero =>
    intro v1 v2 v4 H locs ls h w hl
    cases h
  | succ n hr_5 =>
    intro v1 v2 v4 H locs ls h w hl
    refine lv_iload E.x E.b d_Mod_value_5 (lv_at hl 3 rfl) ?_
    refine lv_iconst (v := 3) E.x E.b d_Mod_value_7 (by decide) ?_
    refine lv_icmp_ge (tgt := 44) E.x E.b d_Mod_value_8 (by decide) (fun c => ?_) (fun c => ?_)
    ·
      replace h := ifT c h
      refine lv_lload_n E.x E.b d_Mod_value_44 rfl (lv_at hl 2 rfl) ?_
      refine lv_aload_n E.x E.b d_Mod_value_45 rfl (lv_at hl 0 rfl) ?_
      refine gM_Mod_shares E w k1783 d_Mod_value_46 ?_
      refine lv_iconst (v := 0) E.x E.b d_Mod_value_49 (by decide) ?_
      refine lalM_0 E w (by decide) d_Mod_value_50 ?_
      refine wl_e (v := σ.2.2.2.1 0 0) rfl ?_
      refine lv_aload_n E.x E.b d_Mod_value_51 rfl (lv_at hl 0 rfl) ?_
      refine gM_Mod_shares E w k1783 d_Mod_value_52 ?_
      refine lv_iconst (v := 1) E.x E.b d_Mod_value_55 (by decide) ?_
      refine lalM_0 E w (by decide) d_Mod_value_56 ?_
      refine wl_e (v := σ.2.2.2.1 0 1) rfl ?_
      refine lv_ladd E.x E.b d_Mod_value_57 ?_
      refine lv_aload_n E.x E.b d_Mod_value_58 rfl (lv_at hl 0 rfl) ?_
      refine gM_Mod_shares E w k1783 d_Mod_value_59 ?_
      refine lv_iconst (v := 2) E.x E.b d_Mod_value_62 (by decide) ?_
      refine lalM_0 E w (by decide) d_Mod_value_63 ?_
      refine wl_e (v := σ.2.2.2.1 0 2) rfl ?_
      refine lv_ladd E.x E.b d_Mod_value_64 ?_
      obtain ⟨o6, h_o6, h⟩ := bd_some h
      refine clSN_Erm_down E w (x0 := v2) (x1 := (((σ.2.2.2.1 0 0) + (σ.2.2.2.1 0 1)) + (σ.2.2.2.1 0 2))) h_o6 n2437 (by decide) hl.1 (Nat.le_of_ble_eq_true rfl) d_Mod_value_65 (fun H locs w => ?_)
      refine lv_l2i (v := o6.toInt32) E.x E.b d_Mod_value_68 rfl ?_
      obtain rfl := Option.some.inj h
      exact rt_i E w hret d_Mod_value_69
    ·
      replace h := ifF c h
      refine lv_lload_n E.x E.b d_Mod_value_11 rfl (lv_at hl 2 rfl) ?_
      refine lv_aload_n E.x E.b d_Mod_value_12 rfl (lv_at hl 0 rfl) ?_
      refine gM_Mod_shares E w k1783 d_Mod_value_13 ?_
      refine lv_iload E.x E.b d_Mod_value_16 (lv_at hl 3 rfl) ?_
      obtain ⟨c7, h⟩ := ck_some h
      refine lalM_0 E w c7 d_Mod_value_18 ?_
      refine lv_aload_n E.x E.b d_Mod_value_19 rfl (lv_at hl 0 rfl) ?_
      refine gM_Mod_raster E w k1773 d_Mod_value_20 ?_
      refine gNM_Erm_values E w n1677 d_Mod_value_23 ?_
      refine lv_bipush (v := 28) E.x E.b d_Mod_value_26 (by decide) ?_
      refine lv_iload E.x E.b d_Mod_value_28 (lv_at hl 3 rfl) ?_
      refine lv_imul E.x E.b d_Mod_value_30 ?_
      refine lv_iload_n E.x E.b d_Mod_value_31 rfl (lv_at hl 1 rfl) ?_
      refine lv_iadd E.x E.b d_Mod_value_32 ?_
      obtain ⟨c8, h⟩ := ck_some h
      refine ialM E w (k := 44) (by decide) c8 d_Mod_value_33 ?_
      refine lv_i2l (v := (σ.2.2.1 44 ((28 * v4) + v1).toNatClampNeg).toInt64) E.x E.b d_Mod_value_34 rfl ?_
      refine lv_lmul E.x E.b d_Mod_value_35 ?_
      refine lv_ladd E.x E.b d_Mod_value_36 ?_
      obtain ⟨y9, e_y9, h⟩ := lt_some h
      refine wl_e (v := y9) e_y9 ?_
      refine lv_lstore_n (lv' := [(2, .long y9), (0, .ref (ad 59)), (1, .int v1), (4, .int v4)]) E.x E.b d_Mod_value_37 rfl hl (by decide) rfl (fun ls hl => ?_)
      obtain ⟨y10, e_y10, h⟩ := lt_some h
      refine lv_iinc (v := y10) (lv' := [(4, .int y10), (2, .long y9), (0, .ref (ad 59)), (1, .int v1)]) E.x E.b d_Mod_value_38 hl (k := 3) rfl (e_y10) (by decide) rfl (fun ls hl => ?_)
      refine lv_goto (tgt := 5) E.x E.b d_Mod_value_41 (by decide) ?_
      exact hr_5 v1 y9 y10 _ _ _ h w (lv_sub hl [2, 3, 1, 0] rfl)
def F_Mod_value (σ : Sg) (x0 : Int32) : Option (Int32) := L_Mod_value_5 100000 σ x0 0 0
set_option maxRecDepth 10000 in
set_option maxHeartbeats 4000000 in
theorem c_Mod_value (l : Launch) (D : va_G) (τ : ClassId × ClassId × ClassId) (B : Nat) (σ : Sg) (ad : Nat → Nat) (x0 : Int32) (o : Int32) (h : F_Mod_value σ x0 = some o) : MI l y_Mod_value (Cond.code y_Mod_value prog_14_method_26_code 5 (some .int)) 1 D τ B [.ref (ad 59), .int x0] (wdM τ σ ad) (wdM τ σ ad) o := by
  refine en_i (by decide) (Nat.le_of_ble_eq_true rfl) ?_
  intro p e R s m args below meth c H locs ls A E hret w hl
  have E : Cx p R s m args meth c prog_14_method_26_code 5 "DrawingMachineModel" 1 D τ B A := E
  have hl : lv_has ls 5 [(0, .ref (ad 59)), (1, .int x0)] := hl
  refine lv_lconst (v := 0) E.x E.b d_Mod_value_0 (by decide) ?_
  refine lv_lstore_n (lv' := [(2, .long 0), (0, .ref (ad 59)), (1, .int x0)]) E.x E.b d_Mod_value_1 rfl hl (by decide) rfl (fun ls hl => ?_)
  refine lv_iconst (v := 0) E.x E.b d_Mod_value_2 (by decide) ?_
  refine lv_istore (lv' := [(4, .int 0), (2, .long 0), (0, .ref (ad 59)), (1, .int x0)]) E.x E.b d_Mod_value_3 hl (by decide) rfl (fun ls hl => ?_)
  exact lt_Mod_value_5 E hret o σ 100000 x0 0 0 _ _ _ h w (lv_sub hl [2, 3, 1, 0] rfl)
theorem clV_Mod_value {p : Program} {l : Launch} {e : Env} {R : Room} {s : State} {m : MethodId} {args : Array Value} {below : List Frame} {meth : Method} {c : Code} {H : Heap} {locs : List Loc} {Q : State → Prop} {cc : ByteArray} {nL pc lev : Nat} {own : String} {D : va_G} {τ : ClassId × ClassId × ClassId} {B : Nat} {A : Nat → Prop} {σ : Sg} {ad : Nat → Nat} {ls : Array Slot} {rest : List Value} (E : Cx p R s m args meth c cc nL own lev D τ B A) (w : Wd s D A (wdM τ σ ad) H locs) {x0 : Int32} {o : Int32} (h : F_Mod_value σ x0 = some o) {index : Nat} (hlk : Cond.methodLink own index y_Mod_value ∈ tw) (hlev : 1 < lev) (hsz : ls.size = nL) (hr : (rest.map fun v => v.category).sum ≤ 8) (hd : decode cc pc = .ok (.invokevirtual index, 3)) (kk : ∀ (H1 : Heap) (locs1 : List Loc), Wd s D A (wdM τ σ ad) H1 locs1 → W p l e R s m args below meth c H1 locs1 0 0 Q (F0 m (pc + 3) ls (.int o :: rest))) : W p l e R s m args below meth c H locs 0 0 Q (F0 m pc ls (.int x0 :: .ref (ad 59) :: rest)) :=
  cr_i w E.C (va_runV (As := [.int x0]) (rest := rest) E.fix (c_Mod_value l D τ B σ ad x0 o h H.size) (cwV 1 E.w (tw_pre (tw_good k2436) (l := [_, _, _, _]) (List.forall_mem_cons.mpr ⟨hlk, List.forall_mem_cons.mpr ⟨k2435, List.forall_mem_cons.mpr ⟨ks109, List.forall_mem_cons.mpr ⟨k14, fun _ h => absurd h List.not_mem_nil⟩⟩⟩⟩)) rfl rfl rfl (by decide +kernel) (E.rm hlev (by decide))) (wd_preV w E.C [.int x0] rcM_Mod rfl) rfl rfl hsz rfl (lv_room hr) hd ⟨Nat.zero_le _, Nat.zero_le _⟩) kk

theorem d_Ptm_deed_0 : decode prog_17_method_18_code 0 = .ok (.iload_n 0, 1) := by decide +kernel
theorem d_Ptm_deed_1 : decode prog_17_method_18_code 1 = .ok (.tableswitch 99 0 6 #[43, 45, 47, 49, 66, 78, 84], 43) := by decide +kernel
theorem d_Ptm_deed_44 : decode prog_17_method_18_code 44 = .ok (.iload_n 1, 1) := by decide +kernel
theorem d_Ptm_deed_45 : decode prog_17_method_18_code 45 = .ok (.ireturn, 1) := by decide +kernel
theorem d_Ptm_deed_46 : decode prog_17_method_18_code 46 = .ok (.iconst 0, 1) := by decide +kernel
theorem d_Ptm_deed_47 : decode prog_17_method_18_code 47 = .ok (.ireturn, 1) := by decide +kernel
theorem d_Ptm_deed_48 : decode prog_17_method_18_code 48 = .ok (.iload_n 2, 1) := by decide +kernel
theorem d_Ptm_deed_49 : decode prog_17_method_18_code 49 = .ok (.ireturn, 1) := by decide +kernel
theorem d_Ptm_deed_50 : decode prog_17_method_18_code 50 = .ok (.iload_n 1, 1) := by decide +kernel
theorem d_Ptm_deed_51 : decode prog_17_method_18_code 51 = .ok (.sipush 255, 3) := by decide +kernel
theorem d_Ptm_deed_54 : decode prog_17_method_18_code 54 = .ok (.if_icmp .ne 9, 3) := by decide +kernel
theorem d_Ptm_deed_57 : decode prog_17_method_18_code 57 = .ok (.sipush 255, 3) := by decide +kernel
theorem d_Ptm_deed_60 : decode prog_17_method_18_code 60 = .ok (.goto 6, 3) := by decide +kernel
theorem d_Ptm_deed_63 : decode prog_17_method_18_code 63 = .ok (.iload_n 1, 1) := by decide +kernel
theorem d_Ptm_deed_64 : decode prog_17_method_18_code 64 = .ok (.iconst 1, 1) := by decide +kernel
theorem d_Ptm_deed_65 : decode prog_17_method_18_code 65 = .ok (.iadd, 1) := by decide +kernel
theorem d_Ptm_deed_66 : decode prog_17_method_18_code 66 = .ok (.ireturn, 1) := by decide +kernel
theorem d_Ptm_deed_67 : decode prog_17_method_18_code 67 = .ok (.iload_n 1, 1) := by decide +kernel
theorem d_Ptm_deed_68 : decode prog_17_method_18_code 68 = .ok (.ifCond .ne 7, 3) := by decide +kernel
theorem d_Ptm_deed_71 : decode prog_17_method_18_code 71 = .ok (.iconst 0, 1) := by decide +kernel
theorem d_Ptm_deed_72 : decode prog_17_method_18_code 72 = .ok (.goto 6, 3) := by decide +kernel
theorem d_Ptm_deed_75 : decode prog_17_method_18_code 75 = .ok (.iload_n 1, 1) := by decide +kernel
theorem d_Ptm_deed_76 : decode prog_17_method_18_code 76 = .ok (.iconst 1, 1) := by decide +kernel
theorem d_Ptm_deed_77 : decode prog_17_method_18_code 77 = .ok (.isub, 1) := by decide +kernel
theorem d_Ptm_deed_78 : decode prog_17_method_18_code 78 = .ok (.ireturn, 1) := by decide +kernel
theorem d_Ptm_deed_79 : decode prog_17_method_18_code 79 = .ok (.sipush 255, 3) := by decide +kernel
theorem d_Ptm_deed_82 : decode prog_17_method_18_code 82 = .ok (.iload_n 1, 1) := by decide +kernel
theorem d_Ptm_deed_83 : decode prog_17_method_18_code 83 = .ok (.isub, 1) := by decide +kernel
theorem d_Ptm_deed_84 : decode prog_17_method_18_code 84 = .ok (.ireturn, 1) := by decide +kernel
theorem d_Ptm_deed_85 : decode prog_17_method_18_code 85 = .ok (.iload_n 1, 1) := by decide +kernel
theorem d_Ptm_deed_86 : decode prog_17_method_18_code 86 = .ok (.sipush 255, 3) := by decide +kernel
theorem d_Ptm_deed_89 : decode prog_17_method_18_code 89 = .ok (.if_icmp .ne 7, 3) := by decide +kernel
theorem d_Ptm_deed_92 : decode prog_17_method_18_code 92 = .ok (.iconst 0, 1) := by decide +kernel
theorem d_Ptm_deed_93 : decode prog_17_method_18_code 93 = .ok (.goto 6, 3) := by decide +kernel
theorem d_Ptm_deed_96 : decode prog_17_method_18_code 96 = .ok (.iload_n 1, 1) := by decide +kernel
theorem d_Ptm_deed_97 : decode prog_17_method_18_code 97 = .ok (.iconst 1, 1) := by decide +kernel
theorem d_Ptm_deed_98 : decode prog_17_method_18_code 98 = .ok (.iadd, 1) := by decide +kernel
theorem d_Ptm_deed_99 : decode prog_17_method_18_code 99 = .ok (.ireturn, 1) := by decide +kernel
theorem d_Ptm_deed_100 : decode prog_17_method_18_code 100 = .ok (.iload_n 1, 1) := by decide +kernel
theorem d_Ptm_deed_101 : decode prog_17_method_18_code 101 = .ok (.ifCond .ne 9, 3) := by decide +kernel
theorem d_Ptm_deed_104 : decode prog_17_method_18_code 104 = .ok (.sipush 255, 3) := by decide +kernel
theorem d_Ptm_deed_107 : decode prog_17_method_18_code 107 = .ok (.goto 6, 3) := by decide +kernel
theorem d_Ptm_deed_110 : decode prog_17_method_18_code 110 = .ok (.iload_n 1, 1) := by decide +kernel
theorem d_Ptm_deed_111 : decode prog_17_method_18_code 111 = .ok (.iconst 1, 1) := by decide +kernel
theorem d_Ptm_deed_112 : decode prog_17_method_18_code 112 = .ok (.isub, 1) := by decide +kernel
theorem d_Ptm_deed_113 : decode prog_17_method_18_code 113 = .ok (.ireturn, 1) := by decide +kernel
def F_Ptm_deed_113  (s0 : Int32) : Option (Int32) := some s0
set_option maxRecDepth 10000 in
set_option maxHeartbeats 4000000 in
theorem bt_Ptm_deed_113 {p : Program} {l : Launch} {e : Env} {R : Room} {s : State} {m : MethodId} {args : Array Value} {below : List Frame} {meth : Method} {c : Code} {D : va_G} {τ : ClassId × ClassId × ClassId} {B : Nat} {A : Nat → Prop} {ad : Nat → Nat} {σ0 : Sg} (E : Cx p R s m args meth c prog_17_method_18_code 3 "DrawingMachineModel$PlaceTestsModel" 0 D τ B A) (hret : meth.sig.returnType = (some .int)) (o : Int32) (s0 : Int32) (h : F_Ptm_deed_113 s0 = some o) {H : Heap} {locs : List Loc} {ls : Array Slot} (w : Wd s D A (wdM τ σ0 ad) H locs) (hl : lv_has ls 3 []) : W p l e R s m args below meth c H locs 0 0 (QI below args s A D τ (wdM τ σ0 ad) o) (F0 m 113 ls [.int s0]) := by
  obtain rfl := Option.some.inj h
  exact rt_i E w hret d_Ptm_deed_113
def F_Ptm_deed_99  (s0 : Int32) : Option (Int32) := some s0
set_option maxRecDepth 10000 in
set_option maxHeartbeats 4000000 in
theorem bt_Ptm_deed_99 {p : Program} {l : Launch} {e : Env} {R : Room} {s : State} {m : MethodId} {args : Array Value} {below : List Frame} {meth : Method} {c : Code} {D : va_G} {τ : ClassId × ClassId × ClassId} {B : Nat} {A : Nat → Prop} {ad : Nat → Nat} {σ0 : Sg} (E : Cx p R s m args meth c prog_17_method_18_code 3 "DrawingMachineModel$PlaceTestsModel" 0 D τ B A) (hret : meth.sig.returnType = (some .int)) (o : Int32) (s0 : Int32) (h : F_Ptm_deed_99 s0 = some o) {H : Heap} {locs : List Loc} {ls : Array Slot} (w : Wd s D A (wdM τ σ0 ad) H locs) (hl : lv_has ls 3 []) : W p l e R s m args below meth c H locs 0 0 (QI below args s A D τ (wdM τ σ0 ad) o) (F0 m 99 ls [.int s0]) := by
  obtain rfl := Option.some.inj h
  exact rt_i E w hret d_Ptm_deed_99
def F_Ptm_deed_78  (s0 : Int32) : Option (Int32) := some s0
set_option maxRecDepth 10000 in
set_option maxHeartbeats 4000000 in
theorem bt_Ptm_deed_78 {p : Program} {l : Launch} {e : Env} {R : Room} {s : State} {m : MethodId} {args : Array Value} {below : List Frame} {meth : Method} {c : Code} {D : va_G} {τ : ClassId × ClassId × ClassId} {B : Nat} {A : Nat → Prop} {ad : Nat → Nat} {σ0 : Sg} (E : Cx p R s m args meth c prog_17_method_18_code 3 "DrawingMachineModel$PlaceTestsModel" 0 D τ B A) (hret : meth.sig.returnType = (some .int)) (o : Int32) (s0 : Int32) (h : F_Ptm_deed_78 s0 = some o) {H : Heap} {locs : List Loc} {ls : Array Slot} (w : Wd s D A (wdM τ σ0 ad) H locs) (hl : lv_has ls 3 []) : W p l e R s m args below meth c H locs 0 0 (QI below args s A D τ (wdM τ σ0 ad) o) (F0 m 78 ls [.int s0]) := by
  obtain rfl := Option.some.inj h
  exact rt_i E w hret d_Ptm_deed_78
def F_Ptm_deed_66  (s0 : Int32) : Option (Int32) := some s0
set_option maxRecDepth 10000 in
set_option maxHeartbeats 4000000 in
theorem bt_Ptm_deed_66 {p : Program} {l : Launch} {e : Env} {R : Room} {s : State} {m : MethodId} {args : Array Value} {below : List Frame} {meth : Method} {c : Code} {D : va_G} {τ : ClassId × ClassId × ClassId} {B : Nat} {A : Nat → Prop} {ad : Nat → Nat} {σ0 : Sg} (E : Cx p R s m args meth c prog_17_method_18_code 3 "DrawingMachineModel$PlaceTestsModel" 0 D τ B A) (hret : meth.sig.returnType = (some .int)) (o : Int32) (s0 : Int32) (h : F_Ptm_deed_66 s0 = some o) {H : Heap} {locs : List Loc} {ls : Array Slot} (w : Wd s D A (wdM τ σ0 ad) H locs) (hl : lv_has ls 3 []) : W p l e R s m args below meth c H locs 0 0 (QI below args s A D τ (wdM τ σ0 ad) o) (F0 m 66 ls [.int s0]) := by
  obtain rfl := Option.some.inj h
  exact rt_i E w hret d_Ptm_deed_66
def F_Ptm_deed  (x0 : Int32) (x1 : Int32) (x2 : Int32) : Option (Int32) := if x0 = 0 then (some x1) else (if x0 = 1 then (some 0) else (if x0 = 2 then (some x2) else (if x0 = 3 then (if x1 = 255 then (F_Ptm_deed_66 255) else (F_Ptm_deed_66 (x1 + 1))) else (if x0 = 4 then (if x1 = 0 then (F_Ptm_deed_78 0) else (F_Ptm_deed_78 (x1 - 1))) else (if x0 = 5 then (some (255 - x1)) else (if x0 = 6 then (if x1 = 255 then (F_Ptm_deed_99 0) else (F_Ptm_deed_99 (x1 + 1))) else (if x1 = 0 then (F_Ptm_deed_113 255) else (F_Ptm_deed_113 (x1 - 1)))))))))
set_option maxRecDepth 10000 in
set_option maxHeartbeats 4000000 in
theorem c_Ptm_deed (l : Launch) (D : va_G) (τ : ClassId × ClassId × ClassId) (B : Nat) (σ0 : Sg) (ad : Nat → Nat) (x0 : Int32) (x1 : Int32) (x2 : Int32) (o : Int32) (h : F_Ptm_deed x0 x1 x2 = some o) : MI l y_Ptm_deed (Cond.code y_Ptm_deed prog_17_method_18_code 3 (some .int)) 0 D τ B [.int x0, .int x1, .int x2] (wdM τ σ0 ad) (wdM τ σ0 ad) o := by
  refine en_i (by decide) (Nat.le_of_ble_eq_true rfl) ?_
  intro p e R s m args below meth c H locs ls A E hret w hl
  have E : Cx p R s m args meth c prog_17_method_18_code 3 "DrawingMachineModel$PlaceTestsModel" 0 D τ B A := E
  have hl : lv_has ls 3 [(0, .int x0), (1, .int x1), (2, .int x2)] := hl
  refine lv_iload_n E.x E.b d_Ptm_deed_0 rfl (lv_at hl 0 rfl) ?_
  by_cases q8 : x0 = 0
  ·
    replace h := ifT q8 h
    refine wi_e (v := 0) q8 ?_
    refine lv_tableIn (off := 43) (tgt := 44) E.x E.b d_Ptm_deed_1 (by decide) (by decide) (by decide) (by decide) ?_
    refine lv_iload_n E.x E.b d_Ptm_deed_44 rfl (lv_at hl 1 rfl) ?_
    obtain rfl := Option.some.inj h
    exact rt_i E w hret d_Ptm_deed_45
  replace h := ifF q8 h
  replace q8 := ne_ti (k := 0) (by decide) q8
  by_cases q9 : x0 = 1
  ·
    replace h := ifT q9 h
    refine wi_e (v := 1) q9 ?_
    refine lv_tableIn (off := 45) (tgt := 46) E.x E.b d_Ptm_deed_1 (by decide) (by decide) (by decide) (by decide) ?_
    refine lv_iconst (v := 0) E.x E.b d_Ptm_deed_46 (by decide) ?_
    obtain rfl := Option.some.inj h
    exact rt_i E w hret d_Ptm_deed_47
  replace h := ifF q9 h
  replace q9 := ne_ti (k := 1) (by decide) q9
  by_cases q10 : x0 = 2
  ·
    replace h := ifT q10 h
    refine wi_e (v := 2) q10 ?_
    refine lv_tableIn (off := 47) (tgt := 48) E.x E.b d_Ptm_deed_1 (by decide) (by decide) (by decide) (by decide) ?_
    refine lv_iload_n E.x E.b d_Ptm_deed_48 rfl (lv_at hl 2 rfl) ?_
    obtain rfl := Option.some.inj h
    exact rt_i E w hret d_Ptm_deed_49
  replace h := ifF q10 h
  replace q10 := ne_ti (k := 2) (by decide) q10
  by_cases q11 : x0 = 3
  ·
    replace h := ifT q11 h
    refine wi_e (v := 3) q11 ?_
    refine lv_tableIn (off := 49) (tgt := 50) E.x E.b d_Ptm_deed_1 (by decide) (by decide) (by decide) (by decide) ?_
    refine lv_iload_n E.x E.b d_Ptm_deed_50 rfl (lv_at hl 1 rfl) ?_
    refine lv_sipush (v := 255) E.x E.b d_Ptm_deed_51 (by decide) ?_
    refine lv_icmp_ne (tgt := 63) E.x E.b d_Ptm_deed_54 (by decide) (fun c => ?_) (fun c => ?_)
    ·
      replace h := ifF c h
      refine lv_iload_n E.x E.b d_Ptm_deed_63 rfl (lv_at hl 1 rfl) ?_
      refine lv_iconst (v := 1) E.x E.b d_Ptm_deed_64 (by decide) ?_
      refine lv_iadd E.x E.b d_Ptm_deed_65 ?_
      exact bt_Ptm_deed_66 E hret o (x1 + 1) h w (lv_sub hl [] rfl)
    ·
      replace h := ifT c h
      refine lv_sipush (v := 255) E.x E.b d_Ptm_deed_57 (by decide) ?_
      refine lv_goto (tgt := 66) E.x E.b d_Ptm_deed_60 (by decide) ?_
      exact bt_Ptm_deed_66 E hret o 255 h w (lv_sub hl [] rfl)
  replace h := ifF q11 h
  replace q11 := ne_ti (k := 3) (by decide) q11
  by_cases q12 : x0 = 4
  ·
    replace h := ifT q12 h
    refine wi_e (v := 4) q12 ?_
    refine lv_tableIn (off := 66) (tgt := 67) E.x E.b d_Ptm_deed_1 (by decide) (by decide) (by decide) (by decide) ?_
    refine lv_iload_n E.x E.b d_Ptm_deed_67 rfl (lv_at hl 1 rfl) ?_
    refine lv_if_ne (tgt := 75) E.x E.b d_Ptm_deed_68 (by decide) (fun c => ?_) (fun c => ?_)
    ·
      replace h := ifF c h
      refine lv_iload_n E.x E.b d_Ptm_deed_75 rfl (lv_at hl 1 rfl) ?_
      refine lv_iconst (v := 1) E.x E.b d_Ptm_deed_76 (by decide) ?_
      refine lv_isub E.x E.b d_Ptm_deed_77 ?_
      exact bt_Ptm_deed_78 E hret o (x1 - 1) h w (lv_sub hl [] rfl)
    ·
      replace h := ifT c h
      refine lv_iconst (v := 0) E.x E.b d_Ptm_deed_71 (by decide) ?_
      refine lv_goto (tgt := 78) E.x E.b d_Ptm_deed_72 (by decide) ?_
      exact bt_Ptm_deed_78 E hret o 0 h w (lv_sub hl [] rfl)
  replace h := ifF q12 h
  replace q12 := ne_ti (k := 4) (by decide) q12
  by_cases q13 : x0 = 5
  ·
    replace h := ifT q13 h
    refine wi_e (v := 5) q13 ?_
    refine lv_tableIn (off := 78) (tgt := 79) E.x E.b d_Ptm_deed_1 (by decide) (by decide) (by decide) (by decide) ?_
    refine lv_sipush (v := 255) E.x E.b d_Ptm_deed_79 (by decide) ?_
    refine lv_iload_n E.x E.b d_Ptm_deed_82 rfl (lv_at hl 1 rfl) ?_
    refine lv_isub E.x E.b d_Ptm_deed_83 ?_
    obtain rfl := Option.some.inj h
    exact rt_i E w hret d_Ptm_deed_84
  replace h := ifF q13 h
  replace q13 := ne_ti (k := 5) (by decide) q13
  by_cases q14 : x0 = 6
  ·
    replace h := ifT q14 h
    refine wi_e (v := 6) q14 ?_
    refine lv_tableIn (off := 84) (tgt := 85) E.x E.b d_Ptm_deed_1 (by decide) (by decide) (by decide) (by decide) ?_
    refine lv_iload_n E.x E.b d_Ptm_deed_85 rfl (lv_at hl 1 rfl) ?_
    refine lv_sipush (v := 255) E.x E.b d_Ptm_deed_86 (by decide) ?_
    refine lv_icmp_ne (tgt := 96) E.x E.b d_Ptm_deed_89 (by decide) (fun c => ?_) (fun c => ?_)
    ·
      replace h := ifF c h
      refine lv_iload_n E.x E.b d_Ptm_deed_96 rfl (lv_at hl 1 rfl) ?_
      refine lv_iconst (v := 1) E.x E.b d_Ptm_deed_97 (by decide) ?_
      refine lv_iadd E.x E.b d_Ptm_deed_98 ?_
      exact bt_Ptm_deed_99 E hret o (x1 + 1) h w (lv_sub hl [] rfl)
    ·
      replace h := ifT c h
      refine lv_iconst (v := 0) E.x E.b d_Ptm_deed_92 (by decide) ?_
      refine lv_goto (tgt := 99) E.x E.b d_Ptm_deed_93 (by decide) ?_
      exact bt_Ptm_deed_99 E hret o 0 h w (lv_sub hl [] rfl)
  replace h := ifF q14 h
  replace q14 := ne_ti (k := 6) (by decide) q14
  refine lv_tableOut (tgt := 100) E.x E.b d_Ptm_deed_1 (by omega) (by decide) ?_
  refine lv_iload_n E.x E.b d_Ptm_deed_100 rfl (lv_at hl 1 rfl) ?_
  refine lv_if_ne (tgt := 110) E.x E.b d_Ptm_deed_101 (by decide) (fun c => ?_) (fun c => ?_)
  ·
    replace h := ifF c h
    refine lv_iload_n E.x E.b d_Ptm_deed_110 rfl (lv_at hl 1 rfl) ?_
    refine lv_iconst (v := 1) E.x E.b d_Ptm_deed_111 (by decide) ?_
    refine lv_isub E.x E.b d_Ptm_deed_112 ?_
    exact bt_Ptm_deed_113 E hret o (x1 - 1) h w (lv_sub hl [] rfl)
  ·
    replace h := ifT c h
    refine lv_sipush (v := 255) E.x E.b d_Ptm_deed_104 (by decide) ?_
    refine lv_goto (tgt := 113) E.x E.b d_Ptm_deed_107 (by decide) ?_
    exact bt_Ptm_deed_113 E hret o 255 h w (lv_sub hl [] rfl)
theorem clS_Ptm_deed {p : Program} {l : Launch} {e : Env} {R : Room} {s : State} {m : MethodId} {args : Array Value} {below : List Frame} {meth : Method} {c : Code} {H : Heap} {locs : List Loc} {Q : State → Prop} {cc : ByteArray} {nL pc lev : Nat} {own : String} {D : va_G} {τ : ClassId × ClassId × ClassId} {B : Nat} {A : Nat → Prop} {σ : Sg} {ad : Nat → Nat} {ls : Array Slot} {rest : List Value} (E : Cx p R s m args meth c cc nL own lev D τ B A) (w : Wd s D A (wdM τ σ ad) H locs) {x0 : Int32} {x1 : Int32} {x2 : Int32} {o : Int32} (h : F_Ptm_deed x0 x1 x2 = some o) {index : Nat} (hlk : Cond.methodLink own index y_Ptm_deed ∈ tw) (hlev : 0 < lev) (hsz : ls.size = nL) (hr : (rest.map fun v => v.category).sum ≤ 8) (hd : decode cc pc = .ok (.invokestatic index, 3)) (kk : ∀ (H1 : Heap) (locs1 : List Loc), Wd s D A (wdM τ σ ad) H1 locs1 → W p l e R s m args below meth c H1 locs1 0 0 Q (F0 m (pc + 3) ls (.int o :: rest))) : W p l e R s m args below meth c H locs 0 0 Q (F0 m pc ls (.int x2 :: .int x1 :: .int x0 :: rest)) :=
  cr_i w E.C (va_runS (As := [.int x0, .int x1, .int x2]) (rest := rest) E.fix (c_Ptm_deed l D τ B σ ad x0 x1 x2 o h H.size) (va_cwS 3 E.w (tw_pre (tw_good k2457) (l := [_, _, _]) (List.forall_mem_cons.mpr ⟨hlk, List.forall_mem_cons.mpr ⟨k2456, List.forall_mem_cons.mpr ⟨k20, fun _ h => absurd h List.not_mem_nil⟩⟩⟩)) rfl rfl rfl (by decide +kernel) (E.rm hlev (by decide))) (wd_pre w E.C [.int x0, .int x1, .int x2]) rfl rfl hsz rfl (lv_room hr) hd ⟨Nat.zero_le _, Nat.zero_le _⟩) kk

theorem d_Ptm_writeStencil_0 : decode prog_17_method_15_code 0 = .ok (.aload_n 0, 1) := by decide +kernel
theorem d_Ptm_writeStencil_1 : decode prog_17_method_15_code 1 = .ok (.getfield 24, 3) := by decide +kernel
theorem d_Ptm_writeStencil_4 : decode prog_17_method_15_code 4 = .ok (.iload_n 1, 1) := by decide +kernel
theorem d_Ptm_writeStencil_5 : decode prog_17_method_15_code 5 = .ok (.aload_n 0, 1) := by decide +kernel
theorem d_Ptm_writeStencil_6 : decode prog_17_method_15_code 6 = .ok (.getfield 24, 3) := by decide +kernel
theorem d_Ptm_writeStencil_9 : decode prog_17_method_15_code 9 = .ok (.iload_n 1, 1) := by decide +kernel
theorem d_Ptm_writeStencil_10 : decode prog_17_method_15_code 10 = .ok (.iaload, 1) := by decide +kernel
theorem d_Ptm_writeStencil_11 : decode prog_17_method_15_code 11 = .ok (.iload_n 3, 1) := by decide +kernel
theorem d_Ptm_writeStencil_12 : decode prog_17_method_15_code 12 = .ok (.iconst (-1), 1) := by decide +kernel
theorem d_Ptm_writeStencil_13 : decode prog_17_method_15_code 13 = .ok (.ixor, 1) := by decide +kernel
theorem d_Ptm_writeStencil_14 : decode prog_17_method_15_code 14 = .ok (.iand, 1) := by decide +kernel
theorem d_Ptm_writeStencil_15 : decode prog_17_method_15_code 15 = .ok (.iload_n 2, 1) := by decide +kernel
theorem d_Ptm_writeStencil_16 : decode prog_17_method_15_code 16 = .ok (.iload_n 3, 1) := by decide +kernel
theorem d_Ptm_writeStencil_17 : decode prog_17_method_15_code 17 = .ok (.iand, 1) := by decide +kernel
theorem d_Ptm_writeStencil_18 : decode prog_17_method_15_code 18 = .ok (.ior, 1) := by decide +kernel
theorem d_Ptm_writeStencil_19 : decode prog_17_method_15_code 19 = .ok (.iastore, 1) := by decide +kernel
theorem d_Ptm_writeStencil_20 : decode prog_17_method_15_code 20 = .ok (.return_, 1) := by decide +kernel
def F_Ptm_writeStencil (σ : Sg) (x0 : Int32) (x1 : Int32) (x2 : Int32) : Option (Sg) := ck (inb x0 16384) (ck (inb x0 16384) (lt (sA σ 47 (upd (σ.2.2.1 47) x0.toNatClampNeg (((σ.2.2.1 47 x0.toNatClampNeg) &&& (x2 ^^^ (-1))) ||| (x1 &&& x2)))) (fun σ6 => some σ6)))
set_option maxRecDepth 10000 in
set_option maxHeartbeats 4000000 in
theorem c_Ptm_writeStencil (l : Launch) (D : va_G) (τ : ClassId × ClassId × ClassId) (B : Nat) (σ : Sg) (ad : Nat → Nat) (x0 : Int32) (x1 : Int32) (x2 : Int32) (o : Sg) (h : F_Ptm_writeStencil σ x0 x1 x2 = some o) : MV l y_Ptm_writeStencil (Cond.code y_Ptm_writeStencil prog_17_method_15_code 4 none) 0 D τ B [.ref (ad 64), .int x0, .int x1, .int x2] (wdM τ σ ad) (wdM τ o ad) := by
  refine en_v (by decide) (Nat.le_of_ble_eq_true rfl) ?_
  intro p e R s m args below meth c H locs ls A E hret w hl
  have E : Cx p R s m args meth c prog_17_method_15_code 4 "DrawingMachineModel$PlaceTestsModel" 0 D τ B A := E
  have hl : lv_has ls 4 [(0, .ref (ad 64)), (1, .int x0), (2, .int x1), (3, .int x2)] := hl
  refine lv_aload_n E.x E.b d_Ptm_writeStencil_0 rfl (lv_at hl 0 rfl) ?_
  refine gM_Ptm_stencils E w k1705 d_Ptm_writeStencil_1 ?_
  refine lv_iload_n E.x E.b d_Ptm_writeStencil_4 rfl (lv_at hl 1 rfl) ?_
  refine lv_aload_n E.x E.b d_Ptm_writeStencil_5 rfl (lv_at hl 0 rfl) ?_
  refine gM_Ptm_stencils E w k1705 d_Ptm_writeStencil_6 ?_
  refine lv_iload_n E.x E.b d_Ptm_writeStencil_9 rfl (lv_at hl 1 rfl) ?_
  obtain ⟨c4, h⟩ := ck_some h
  refine ialM E w (k := 47) (by decide) c4 d_Ptm_writeStencil_10 ?_
  refine lv_iload_n E.x E.b d_Ptm_writeStencil_11 rfl (lv_at hl 3 rfl) ?_
  refine lv_iconst (v := (-1)) E.x E.b d_Ptm_writeStencil_12 (by decide) ?_
  refine lv_ixor E.x E.b d_Ptm_writeStencil_13 ?_
  refine lv_iand E.x E.b d_Ptm_writeStencil_14 ?_
  refine lv_iload_n E.x E.b d_Ptm_writeStencil_15 rfl (lv_at hl 2 rfl) ?_
  refine lv_iload_n E.x E.b d_Ptm_writeStencil_16 rfl (lv_at hl 3 rfl) ?_
  refine lv_iand E.x E.b d_Ptm_writeStencil_17 ?_
  refine lv_ior E.x E.b d_Ptm_writeStencil_18 ?_
  obtain ⟨c5, h⟩ := ck_some h
  obtain ⟨σ6, e_σ6, h⟩ := lt_some h
  refine iasM E w (k := 47) (by decide) c5 e_σ6 d_Ptm_writeStencil_19 (fun H locs w => ?_)
  obtain rfl := Option.some.inj h
  exact rt_v E w hret d_Ptm_writeStencil_20
theorem clV_Ptm_writeStencil {p : Program} {l : Launch} {e : Env} {R : Room} {s : State} {m : MethodId} {args : Array Value} {below : List Frame} {meth : Method} {c : Code} {H : Heap} {locs : List Loc} {Q : State → Prop} {cc : ByteArray} {nL pc lev : Nat} {own : String} {D : va_G} {τ : ClassId × ClassId × ClassId} {B : Nat} {A : Nat → Prop} {σ : Sg} {ad : Nat → Nat} {ls : Array Slot} {rest : List Value} (E : Cx p R s m args meth c cc nL own lev D τ B A) (w : Wd s D A (wdM τ σ ad) H locs) {x0 : Int32} {x1 : Int32} {x2 : Int32} {o : Sg} (h : F_Ptm_writeStencil σ x0 x1 x2 = some o) {index : Nat} (hlk : Cond.methodLink own index y_Ptm_writeStencil ∈ tw) (hlev : 0 < lev) (hsz : ls.size = nL) (hr : (rest.map fun v => v.category).sum ≤ 8) (hd : decode cc pc = .ok (.invokevirtual index, 3)) (kk : ∀ (H1 : Heap) (locs1 : List Loc), Wd s D A (wdM τ o ad) H1 locs1 → W p l e R s m args below meth c H1 locs1 0 0 Q (F0 m (pc + 3) ls (rest))) : W p l e R s m args below meth c H locs 0 0 Q (F0 m pc ls (.int x2 :: .int x1 :: .int x0 :: .ref (ad 64) :: rest)) :=
  cr_v w E.C (va_runV (As := [.int x0, .int x1, .int x2]) (rest := rest) E.fix (c_Ptm_writeStencil l D τ B σ ad x0 x1 x2 o h H.size) (cwV 3 E.w (tw_pre (tw_good k2079) (l := [_, _, _, _]) (List.forall_mem_cons.mpr ⟨hlk, List.forall_mem_cons.mpr ⟨k2078, List.forall_mem_cons.mpr ⟨ks65, List.forall_mem_cons.mpr ⟨k20, fun _ h => absurd h List.not_mem_nil⟩⟩⟩⟩)) rfl rfl rfl (by decide +kernel) (E.rm hlev (by decide))) (wd_preV w E.C [.int x0, .int x1, .int x2] rcM_Ptm rfl) rfl rfl hsz rfl (lv_room hr) hd ⟨Nat.zero_le _, Nat.zero_le _⟩) kk

theorem d_Ptm_act_0 : decode prog_17_method_19_code 0 = .ok (.bipush 7, 2) := by decide +kernel
theorem d_Ptm_act_2 : decode prog_17_method_19_code 2 = .ok (.iload_n 2, 1) := by decide +kernel
theorem d_Ptm_act_3 : decode prog_17_method_19_code 3 = .ok (.imul, 1) := by decide +kernel
theorem d_Ptm_act_4 : decode prog_17_method_19_code 4 = .ok (.istore 4, 2) := by decide +kernel
theorem d_Ptm_act_6 : decode prog_17_method_19_code 6 = .ok (.aload_n 0, 1) := by decide +kernel
theorem d_Ptm_act_7 : decode prog_17_method_19_code 7 = .ok (.getfield 33, 3) := by decide +kernel
theorem d_Ptm_act_10 : decode prog_17_method_19_code 10 = .ok (.iload 4, 2) := by decide +kernel
theorem d_Ptm_act_12 : decode prog_17_method_19_code 12 = .ok (.iaload, 1) := by decide +kernel
theorem d_Ptm_act_13 : decode prog_17_method_19_code 13 = .ok (.ifCond .lt 44, 3) := by decide +kernel
theorem d_Ptm_act_16 : decode prog_17_method_19_code 16 = .ok (.aload_n 0, 1) := by decide +kernel
theorem d_Ptm_act_17 : decode prog_17_method_19_code 17 = .ok (.iload_n 1, 1) := by decide +kernel
theorem d_Ptm_act_18 : decode prog_17_method_19_code 18 = .ok (.aload_n 0, 1) := by decide +kernel
theorem d_Ptm_act_19 : decode prog_17_method_19_code 19 = .ok (.getfield 33, 3) := by decide +kernel
theorem d_Ptm_act_22 : decode prog_17_method_19_code 22 = .ok (.iload 4, 2) := by decide +kernel
theorem d_Ptm_act_24 : decode prog_17_method_19_code 24 = .ok (.iload_n 3, 1) := by decide +kernel
theorem d_Ptm_act_25 : decode prog_17_method_19_code 25 = .ok (.iadd, 1) := by decide +kernel
theorem d_Ptm_act_26 : decode prog_17_method_19_code 26 = .ok (.iaload, 1) := by decide +kernel
theorem d_Ptm_act_27 : decode prog_17_method_19_code 27 = .ok (.aload_n 0, 1) := by decide +kernel
theorem d_Ptm_act_28 : decode prog_17_method_19_code 28 = .ok (.getfield 24, 3) := by decide +kernel
theorem d_Ptm_act_31 : decode prog_17_method_19_code 31 = .ok (.iload_n 1, 1) := by decide +kernel
theorem d_Ptm_act_32 : decode prog_17_method_19_code 32 = .ok (.iaload, 1) := by decide +kernel
theorem d_Ptm_act_33 : decode prog_17_method_19_code 33 = .ok (.aload_n 0, 1) := by decide +kernel
theorem d_Ptm_act_34 : decode prog_17_method_19_code 34 = .ok (.getfield 33, 3) := by decide +kernel
theorem d_Ptm_act_37 : decode prog_17_method_19_code 37 = .ok (.iload 4, 2) := by decide +kernel
theorem d_Ptm_act_39 : decode prog_17_method_19_code 39 = .ok (.iconst 1, 1) := by decide +kernel
theorem d_Ptm_act_40 : decode prog_17_method_19_code 40 = .ok (.iadd, 1) := by decide +kernel
theorem d_Ptm_act_41 : decode prog_17_method_19_code 41 = .ok (.iaload, 1) := by decide +kernel
theorem d_Ptm_act_42 : decode prog_17_method_19_code 42 = .ok (.invokestatic 103, 3) := by decide +kernel
theorem d_Ptm_act_45 : decode prog_17_method_19_code 45 = .ok (.aload_n 0, 1) := by decide +kernel
theorem d_Ptm_act_46 : decode prog_17_method_19_code 46 = .ok (.getfield 33, 3) := by decide +kernel
theorem d_Ptm_act_49 : decode prog_17_method_19_code 49 = .ok (.iload 4, 2) := by decide +kernel
theorem d_Ptm_act_51 : decode prog_17_method_19_code 51 = .ok (.iconst 3, 1) := by decide +kernel
theorem d_Ptm_act_52 : decode prog_17_method_19_code 52 = .ok (.iadd, 1) := by decide +kernel
theorem d_Ptm_act_53 : decode prog_17_method_19_code 53 = .ok (.iaload, 1) := by decide +kernel
theorem d_Ptm_act_54 : decode prog_17_method_19_code 54 = .ok (.invokevirtual 99, 3) := by decide +kernel
theorem d_Ptm_act_57 : decode prog_17_method_19_code 57 = .ok (.return_, 1) := by decide +kernel
def F_Ptm_act_57 (σ : Sg) : Option (Sg) := some σ
set_option maxRecDepth 10000 in
set_option maxHeartbeats 4000000 in
theorem bt_Ptm_act_57 {p : Program} {l : Launch} {e : Env} {R : Room} {s : State} {m : MethodId} {args : Array Value} {below : List Frame} {meth : Method} {c : Code} {D : va_G} {τ : ClassId × ClassId × ClassId} {B : Nat} {A : Nat → Prop} {ad : Nat → Nat} (E : Cx p R s m args meth c prog_17_method_19_code 5 "DrawingMachineModel$PlaceTestsModel" 1 D τ B A) (hret : meth.sig.returnType = none) (o : Sg) (σ : Sg) (h : F_Ptm_act_57 σ = some o) {H : Heap} {locs : List Loc} {ls : Array Slot} (w : Wd s D A (wdM τ σ ad) H locs) (hl : lv_has ls 5 []) : W p l e R s m args below meth c H locs 0 0 (QV below args s A D τ (wdM τ o ad)) (F0 m 57 ls []) := by
  obtain rfl := Option.some.inj h
  exact rt_v E w hret d_Ptm_act_57
def F_Ptm_act (σ : Sg) (x0 : Int32) (x1 : Int32) (x2 : Int32) : Option (Sg) := lt (7 * x1) (fun y9 => ck (inb y9 14) (if (σ.2.2.1 49 y9.toNatClampNeg) < 0 then (F_Ptm_act_57 σ) else (ck (inb (y9 + x2) 14) (ck (inb x0 16384) (ck (inb (y9 + 1) 14) (bd (F_Ptm_deed (σ.2.2.1 49 (y9 + x2).toNatClampNeg) (σ.2.2.1 47 x0.toNatClampNeg) (σ.2.2.1 49 (y9 + 1).toNatClampNeg)) (fun o14 => ck (inb (y9 + 3) 14) (bd (F_Ptm_writeStencil σ x0 o14 (σ.2.2.1 49 (y9 + 3).toNatClampNeg)) (fun o16 => F_Ptm_act_57 o16)))))))))
set_option maxRecDepth 10000 in
set_option maxHeartbeats 4000000 in
theorem c_Ptm_act (l : Launch) (D : va_G) (τ : ClassId × ClassId × ClassId) (B : Nat) (σ : Sg) (ad : Nat → Nat) (x0 : Int32) (x1 : Int32) (x2 : Int32) (o : Sg) (h : F_Ptm_act σ x0 x1 x2 = some o) : MV l y_Ptm_act (Cond.code y_Ptm_act prog_17_method_19_code 5 none) 1 D τ B [.ref (ad 64), .int x0, .int x1, .int x2] (wdM τ σ ad) (wdM τ o ad) := by
  refine en_v (by decide) (Nat.le_of_ble_eq_true rfl) ?_
  intro p e R s m args below meth c H locs ls A E hret w hl
  have E : Cx p R s m args meth c prog_17_method_19_code 5 "DrawingMachineModel$PlaceTestsModel" 1 D τ B A := E
  have hl : lv_has ls 5 [(0, .ref (ad 64)), (1, .int x0), (2, .int x1), (3, .int x2)] := hl
  refine lv_bipush (v := 7) E.x E.b d_Ptm_act_0 (by decide) ?_
  refine lv_iload_n E.x E.b d_Ptm_act_2 rfl (lv_at hl 2 rfl) ?_
  refine lv_imul E.x E.b d_Ptm_act_3 ?_
  obtain ⟨y9, e_y9, h⟩ := lt_some h
  refine wi_e (v := y9) e_y9 ?_
  refine lv_istore (lv' := [(4, .int y9), (0, .ref (ad 64)), (1, .int x0), (2, .int x1), (3, .int x2)]) E.x E.b d_Ptm_act_4 hl (by decide) rfl (fun ls hl => ?_)
  refine lv_aload_n E.x E.b d_Ptm_act_6 rfl (lv_at hl 1 rfl) ?_
  refine gM_Ptm_stencil E w k1710 d_Ptm_act_7 ?_
  refine lv_iload E.x E.b d_Ptm_act_10 (lv_at hl 0 rfl) ?_
  obtain ⟨c10, h⟩ := ck_some h
  refine ialM E w (k := 49) (by decide) c10 d_Ptm_act_12 ?_
  refine lv_if_lt (tgt := 57) E.x E.b d_Ptm_act_13 (by decide) (fun c => ?_) (fun c => ?_)
  ·
    replace h := ifT c h
    exact bt_Ptm_act_57 E hret o σ h w (lv_sub hl [] rfl)
  ·
    replace h := ifF c h
    refine lv_aload_n E.x E.b d_Ptm_act_16 rfl (lv_at hl 1 rfl) ?_
    refine lv_iload_n E.x E.b d_Ptm_act_17 rfl (lv_at hl 2 rfl) ?_
    refine lv_aload_n E.x E.b d_Ptm_act_18 rfl (lv_at hl 1 rfl) ?_
    refine gM_Ptm_stencil E w k1710 d_Ptm_act_19 ?_
    refine lv_iload E.x E.b d_Ptm_act_22 (lv_at hl 0 rfl) ?_
    refine lv_iload_n E.x E.b d_Ptm_act_24 rfl (lv_at hl 4 rfl) ?_
    refine lv_iadd E.x E.b d_Ptm_act_25 ?_
    obtain ⟨c11, h⟩ := ck_some h
    refine ialM E w (k := 49) (by decide) c11 d_Ptm_act_26 ?_
    refine lv_aload_n E.x E.b d_Ptm_act_27 rfl (lv_at hl 1 rfl) ?_
    refine gM_Ptm_stencils E w k1705 d_Ptm_act_28 ?_
    refine lv_iload_n E.x E.b d_Ptm_act_31 rfl (lv_at hl 2 rfl) ?_
    obtain ⟨c12, h⟩ := ck_some h
    refine ialM E w (k := 47) (by decide) c12 d_Ptm_act_32 ?_
    refine lv_aload_n E.x E.b d_Ptm_act_33 rfl (lv_at hl 1 rfl) ?_
    refine gM_Ptm_stencil E w k1710 d_Ptm_act_34 ?_
    refine lv_iload E.x E.b d_Ptm_act_37 (lv_at hl 0 rfl) ?_
    refine lv_iconst (v := 1) E.x E.b d_Ptm_act_39 (by decide) ?_
    refine lv_iadd E.x E.b d_Ptm_act_40 ?_
    obtain ⟨c13, h⟩ := ck_some h
    refine ialM E w (k := 49) (by decide) c13 d_Ptm_act_41 ?_
    obtain ⟨o14, h_o14, h⟩ := bd_some h
    refine clS_Ptm_deed E w (x0 := (σ.2.2.1 49 (y9 + x2).toNatClampNeg)) (x1 := (σ.2.2.1 47 x0.toNatClampNeg)) (x2 := (σ.2.2.1 49 (y9 + 1).toNatClampNeg)) h_o14 k2455 (by decide) hl.1 (Nat.le_of_ble_eq_true rfl) d_Ptm_act_42 (fun H locs w => ?_)
    refine lv_aload_n E.x E.b d_Ptm_act_45 rfl (lv_at hl 1 rfl) ?_
    refine gM_Ptm_stencil E w k1710 d_Ptm_act_46 ?_
    refine lv_iload E.x E.b d_Ptm_act_49 (lv_at hl 0 rfl) ?_
    refine lv_iconst (v := 3) E.x E.b d_Ptm_act_51 (by decide) ?_
    refine lv_iadd E.x E.b d_Ptm_act_52 ?_
    obtain ⟨c15, h⟩ := ck_some h
    refine ialM E w (k := 49) (by decide) c15 d_Ptm_act_53 ?_
    obtain ⟨o16, h_o16, h⟩ := bd_some h
    refine clV_Ptm_writeStencil E w (x0 := x0) (x1 := o14) (x2 := (σ.2.2.1 49 (y9 + 3).toNatClampNeg)) h_o16 k2076 (by decide) hl.1 (Nat.le_of_ble_eq_true rfl) d_Ptm_act_54 (fun H locs w => ?_)
    exact bt_Ptm_act_57 E hret o o16 h w (lv_sub hl [] rfl)
theorem clV_Ptm_act {p : Program} {l : Launch} {e : Env} {R : Room} {s : State} {m : MethodId} {args : Array Value} {below : List Frame} {meth : Method} {c : Code} {H : Heap} {locs : List Loc} {Q : State → Prop} {cc : ByteArray} {nL pc lev : Nat} {own : String} {D : va_G} {τ : ClassId × ClassId × ClassId} {B : Nat} {A : Nat → Prop} {σ : Sg} {ad : Nat → Nat} {ls : Array Slot} {rest : List Value} (E : Cx p R s m args meth c cc nL own lev D τ B A) (w : Wd s D A (wdM τ σ ad) H locs) {x0 : Int32} {x1 : Int32} {x2 : Int32} {o : Sg} (h : F_Ptm_act σ x0 x1 x2 = some o) {index : Nat} (hlk : Cond.methodLink own index y_Ptm_act ∈ tw) (hlev : 1 < lev) (hsz : ls.size = nL) (hr : (rest.map fun v => v.category).sum ≤ 8) (hd : decode cc pc = .ok (.invokevirtual index, 3)) (kk : ∀ (H1 : Heap) (locs1 : List Loc), Wd s D A (wdM τ o ad) H1 locs1 → W p l e R s m args below meth c H1 locs1 0 0 Q (F0 m (pc + 3) ls (rest))) : W p l e R s m args below meth c H locs 0 0 Q (F0 m pc ls (.int x2 :: .int x1 :: .int x0 :: .ref (ad 64) :: rest)) :=
  cr_v w E.C (va_runV (As := [.int x0, .int x1, .int x2]) (rest := rest) E.fix (c_Ptm_act l D τ B σ ad x0 x1 x2 o h H.size) (cwV 3 E.w (tw_pre (tw_good k2454) (l := [_, _, _, _]) (List.forall_mem_cons.mpr ⟨hlk, List.forall_mem_cons.mpr ⟨k2453, List.forall_mem_cons.mpr ⟨ks111, List.forall_mem_cons.mpr ⟨k20, fun _ h => absurd h List.not_mem_nil⟩⟩⟩⟩)) rfl rfl rfl (by decide +kernel) (E.rm hlev (by decide))) (wd_preV w E.C [.int x0, .int x1, .int x2] rcM_Ptm rfl) rfl rfl hsz rfl (lv_room hr) hd ⟨Nat.zero_le _, Nat.zero_le _⟩) kk

theorem d_Ptm_answer_0 : decode prog_17_method_25_code 0 = .ok (.aload_n 0, 1) := by decide +kernel
theorem d_Ptm_answer_1 : decode prog_17_method_25_code 1 = .ok (.getfield 51, 3) := by decide +kernel
theorem d_Ptm_answer_4 : decode prog_17_method_25_code 4 = .ok (.iload_n 1, 1) := by decide +kernel
theorem d_Ptm_answer_5 : decode prog_17_method_25_code 5 = .ok (.dup2, 1) := by decide +kernel
theorem d_Ptm_answer_6 : decode prog_17_method_25_code 6 = .ok (.iaload, 1) := by decide +kernel
theorem d_Ptm_answer_7 : decode prog_17_method_25_code 7 = .ok (.iconst 1, 1) := by decide +kernel
theorem d_Ptm_answer_8 : decode prog_17_method_25_code 8 = .ok (.iadd, 1) := by decide +kernel
theorem d_Ptm_answer_9 : decode prog_17_method_25_code 9 = .ok (.iastore, 1) := by decide +kernel
theorem d_Ptm_answer_10 : decode prog_17_method_25_code 10 = .ok (.iload_n 1, 1) := by decide +kernel
theorem d_Ptm_answer_11 : decode prog_17_method_25_code 11 = .ok (.ireturn, 1) := by decide +kernel
def F_Ptm_answer (σ : Sg) (x0 : Int32) : Option (Sg × Int32) := ck (inb x0 4) (ck (inb x0 4) (lt (sA σ 52 (upd (σ.2.2.1 52) x0.toNatClampNeg ((σ.2.2.1 52 x0.toNatClampNeg) + 1))) (fun σ6 => some (σ6, x0))))
set_option maxRecDepth 10000 in
set_option maxHeartbeats 4000000 in
theorem c_Ptm_answer (l : Launch) (D : va_G) (τ : ClassId × ClassId × ClassId) (B : Nat) (σ : Sg) (ad : Nat → Nat) (x0 : Int32) (o : Sg × Int32) (h : F_Ptm_answer σ x0 = some o) : MI l y_Ptm_answer (Cond.code y_Ptm_answer prog_17_method_25_code 2 (some .int)) 0 D τ B [.ref (ad 64), .int x0] (wdM τ σ ad) (wdM τ o.1 ad) o.2 := by
  refine en_i (by decide) (Nat.le_of_ble_eq_true rfl) ?_
  intro p e R s m args below meth c H locs ls A E hret w hl
  have E : Cx p R s m args meth c prog_17_method_25_code 2 "DrawingMachineModel$PlaceTestsModel" 0 D τ B A := E
  have hl : lv_has ls 2 [(0, .ref (ad 64)), (1, .int x0)] := hl
  refine lv_aload_n E.x E.b d_Ptm_answer_0 rfl (lv_at hl 0 rfl) ?_
  refine gM_Ptm_answers E w k1717 d_Ptm_answer_1 ?_
  refine lv_iload_n E.x E.b d_Ptm_answer_4 rfl (lv_at hl 1 rfl) ?_
  refine lv_dup2_11 E.x E.b d_Ptm_answer_5 rfl rfl ?_
  obtain ⟨c4, h⟩ := ck_some h
  refine ialM E w (k := 52) (by decide) c4 d_Ptm_answer_6 ?_
  refine lv_iconst (v := 1) E.x E.b d_Ptm_answer_7 (by decide) ?_
  refine lv_iadd E.x E.b d_Ptm_answer_8 ?_
  obtain ⟨c5, h⟩ := ck_some h
  obtain ⟨σ6, e_σ6, h⟩ := lt_some h
  refine iasM E w (k := 52) (by decide) c5 e_σ6 d_Ptm_answer_9 (fun H locs w => ?_)
  refine lv_iload_n E.x E.b d_Ptm_answer_10 rfl (lv_at hl 1 rfl) ?_
  obtain rfl := Option.some.inj h
  exact rt_i E w hret d_Ptm_answer_11
theorem clV_Ptm_answer {p : Program} {l : Launch} {e : Env} {R : Room} {s : State} {m : MethodId} {args : Array Value} {below : List Frame} {meth : Method} {c : Code} {H : Heap} {locs : List Loc} {Q : State → Prop} {cc : ByteArray} {nL pc lev : Nat} {own : String} {D : va_G} {τ : ClassId × ClassId × ClassId} {B : Nat} {A : Nat → Prop} {σ : Sg} {ad : Nat → Nat} {ls : Array Slot} {rest : List Value} (E : Cx p R s m args meth c cc nL own lev D τ B A) (w : Wd s D A (wdM τ σ ad) H locs) {x0 : Int32} {o : Sg × Int32} (h : F_Ptm_answer σ x0 = some o) {index : Nat} (hlk : Cond.methodLink own index y_Ptm_answer ∈ tw) (hlev : 0 < lev) (hsz : ls.size = nL) (hr : (rest.map fun v => v.category).sum ≤ 8) (hd : decode cc pc = .ok (.invokevirtual index, 3)) (kk : ∀ (H1 : Heap) (locs1 : List Loc), Wd s D A (wdM τ o.1 ad) H1 locs1 → W p l e R s m args below meth c H1 locs1 0 0 Q (F0 m (pc + 3) ls (.int o.2 :: rest))) : W p l e R s m args below meth c H locs 0 0 Q (F0 m pc ls (.int x0 :: .ref (ad 64) :: rest)) :=
  cr_i w E.C (va_runV (As := [.int x0]) (rest := rest) E.fix (c_Ptm_answer l D τ B σ ad x0 o h H.size) (cwV 1 E.w (tw_pre (tw_good k2447) (l := [_, _, _, _]) (List.forall_mem_cons.mpr ⟨hlk, List.forall_mem_cons.mpr ⟨k2446, List.forall_mem_cons.mpr ⟨ks110, List.forall_mem_cons.mpr ⟨k20, fun _ h => absurd h List.not_mem_nil⟩⟩⟩⟩)) rfl rfl rfl (by decide +kernel) (E.rm hlev (by decide))) (wd_preV w E.C [.int x0] rcM_Ptm rfl) rfl rfl hsz rfl (lv_room hr) hd ⟨Nat.zero_le _, Nat.zero_le _⟩) kk

theorem d_Ptm_bits_0 : decode prog_17_method_24_code 0 = .ok (.iconst 0, 1) := by decide +kernel
theorem d_Ptm_bits_1 : decode prog_17_method_24_code 1 = .ok (.istore_n 2, 1) := by decide +kernel
theorem d_Ptm_bits_2 : decode prog_17_method_24_code 2 = .ok (.iconst 0, 1) := by decide +kernel
theorem d_Ptm_bits_3 : decode prog_17_method_24_code 3 = .ok (.istore_n 3, 1) := by decide +kernel
theorem d_Ptm_bits_4 : decode prog_17_method_24_code 4 = .ok (.iload_n 3, 1) := by decide +kernel
theorem d_Ptm_bits_5 : decode prog_17_method_24_code 5 = .ok (.bipush 8, 2) := by decide +kernel
theorem d_Ptm_bits_7 : decode prog_17_method_24_code 7 = .ok (.if_icmp .ge 48, 3) := by decide +kernel
theorem d_Ptm_bits_10 : decode prog_17_method_24_code 10 = .ok (.iconst 2, 1) := by decide +kernel
theorem d_Ptm_bits_11 : decode prog_17_method_24_code 11 = .ok (.aload_n 0, 1) := by decide +kernel
theorem d_Ptm_bits_12 : decode prog_17_method_24_code 12 = .ok (.getfield 54, 3) := by decide +kernel
theorem d_Ptm_bits_15 : decode prog_17_method_24_code 15 = .ok (.iload_n 1, 1) := by decide +kernel
theorem d_Ptm_bits_16 : decode prog_17_method_24_code 16 = .ok (.iaload, 1) := by decide +kernel
theorem d_Ptm_bits_17 : decode prog_17_method_24_code 17 = .ok (.iload_n 3, 1) := by decide +kernel
theorem d_Ptm_bits_18 : decode prog_17_method_24_code 18 = .ok (.ishr, 1) := by decide +kernel
theorem d_Ptm_bits_19 : decode prog_17_method_24_code 19 = .ok (.iconst 1, 1) := by decide +kernel
theorem d_Ptm_bits_20 : decode prog_17_method_24_code 20 = .ok (.iand, 1) := by decide +kernel
theorem d_Ptm_bits_21 : decode prog_17_method_24_code 21 = .ok (.imul, 1) := by decide +kernel
theorem d_Ptm_bits_22 : decode prog_17_method_24_code 22 = .ok (.aload_n 0, 1) := by decide +kernel
theorem d_Ptm_bits_23 : decode prog_17_method_24_code 23 = .ok (.getfield 57, 3) := by decide +kernel
theorem d_Ptm_bits_26 : decode prog_17_method_24_code 26 = .ok (.iload_n 1, 1) := by decide +kernel
theorem d_Ptm_bits_27 : decode prog_17_method_24_code 27 = .ok (.iaload, 1) := by decide +kernel
theorem d_Ptm_bits_28 : decode prog_17_method_24_code 28 = .ok (.iload_n 3, 1) := by decide +kernel
theorem d_Ptm_bits_29 : decode prog_17_method_24_code 29 = .ok (.ishr, 1) := by decide +kernel
theorem d_Ptm_bits_30 : decode prog_17_method_24_code 30 = .ok (.iconst 1, 1) := by decide +kernel
theorem d_Ptm_bits_31 : decode prog_17_method_24_code 31 = .ok (.iand, 1) := by decide +kernel
theorem d_Ptm_bits_32 : decode prog_17_method_24_code 32 = .ok (.iadd, 1) := by decide +kernel
theorem d_Ptm_bits_33 : decode prog_17_method_24_code 33 = .ok (.istore 4, 2) := by decide +kernel
theorem d_Ptm_bits_35 : decode prog_17_method_24_code 35 = .ok (.iload_n 2, 1) := by decide +kernel
theorem d_Ptm_bits_36 : decode prog_17_method_24_code 36 = .ok (.aload_n 0, 1) := by decide +kernel
theorem d_Ptm_bits_37 : decode prog_17_method_24_code 37 = .ok (.getfield 45, 3) := by decide +kernel
theorem d_Ptm_bits_40 : decode prog_17_method_24_code 40 = .ok (.iload 4, 2) := by decide +kernel
theorem d_Ptm_bits_42 : decode prog_17_method_24_code 42 = .ok (.ishr, 1) := by decide +kernel
theorem d_Ptm_bits_43 : decode prog_17_method_24_code 43 = .ok (.iconst 1, 1) := by decide +kernel
theorem d_Ptm_bits_44 : decode prog_17_method_24_code 44 = .ok (.iand, 1) := by decide +kernel
theorem d_Ptm_bits_45 : decode prog_17_method_24_code 45 = .ok (.iload_n 3, 1) := by decide +kernel
theorem d_Ptm_bits_46 : decode prog_17_method_24_code 46 = .ok (.ishl, 1) := by decide +kernel
theorem d_Ptm_bits_47 : decode prog_17_method_24_code 47 = .ok (.ior, 1) := by decide +kernel
theorem d_Ptm_bits_48 : decode prog_17_method_24_code 48 = .ok (.istore_n 2, 1) := by decide +kernel
theorem d_Ptm_bits_49 : decode prog_17_method_24_code 49 = .ok (.iinc 3 1, 3) := by decide +kernel
theorem d_Ptm_bits_52 : decode prog_17_method_24_code 52 = .ok (.goto (-48), 3) := by decide +kernel
theorem d_Ptm_bits_55 : decode prog_17_method_24_code 55 = .ok (.iload_n 2, 1) := by decide +kernel
theorem d_Ptm_bits_56 : decode prog_17_method_24_code 56 = .ok (.ireturn, 1) := by decide +kernel
def L_Ptm_bits_4 : Nat → Sg → Int32 → Int32 → Int32 → Option (Int32)
  | 0, _, _, _, _ => none
  | n + 1, σ, v1, v2, v3 => if 8 ≤ v3 then (some v2) else (ck (inb v1 4) (ck (inb v1 4) (lt (((2 : Int32) * (((σ.2.2.1 53 v1.toNatClampNeg) >>> (v3 &&& 31)) &&& 1)) + (((σ.2.2.1 54 v1.toNatClampNeg) >>> (v3 &&& 31)) &&& 1)) (fun y8 => lt (v2 ||| ((((σ.1 38) >>> (y8 &&& 31)) &&& 1) <<< (v3 &&& 31))) (fun y9 => lt (v3 + 1) (fun y10 => L_Ptm_bits_4 n σ v1 y9 y10))))))
set_option maxRecDepth 10000 in
set_option maxHeartbeats 4000000 in
theorem lt_Ptm_bits_4 {p : Program} {l : Launch} {e : Env} {R : Room} {s : State} {m : MethodId} {args : Array Value} {below : List Frame} {meth : Method} {c : Code} {D : va_G} {τ : ClassId × ClassId × ClassId} {B : Nat} {A : Nat → Prop} {ad : Nat → Nat} (E : Cx p R s m args meth c prog_17_method_24_code 5 "DrawingMachineModel$PlaceTestsModel" 0 D τ B A) (hret : meth.sig.returnType = (some .int)) (o : Int32) (σ : Sg) : ∀ (n : Nat) (v1 : Int32) (v2 : Int32) (v3 : Int32) (H : Heap) (locs : List Loc) (ls : Array Slot), L_Ptm_bits_4 n σ v1 v2 v3 = some o → Wd s D A (wdM τ σ ad) H locs → lv_has ls 5 [(0, .ref (ad 64)), (1, .int v1), (2, .int v2), (3, .int v3)] → W p l e R s m args below meth c H locs 0 0 (QI below args s A D τ (wdM τ σ ad) o) (F0 m 4 ls []) := by
  intro n
  induction n with
  | zero =>
    intro v1 v2 v3 H locs ls h w hl
    cases h
  | succ n hr_4 =>
    intro v1 v2 v3 H locs ls h w hl
    refine lv_iload_n E.x E.b d_Ptm_bits_4 rfl (lv_at hl 3 rfl) ?_
    refine lv_bipush (v := 8) E.x E.b d_Ptm_bits_5 (by decide) ?_
    refine lv_icmp_ge (tgt := 55) E.x E.b d_Ptm_bits_7 (by decide) (fun c => ?_) (fun c => ?_)
    ·
      replace h := ifT c h
      refine lv_iload_n E.x E.b d_Ptm_bits_55 rfl (lv_at hl 2 rfl) ?_
      obtain rfl := Option.some.inj h
      exact rt_i E w hret d_Ptm_bits_56
    ·
      replace h := ifF c h
      refine lv_iconst (v := 2) E.x E.b d_Ptm_bits_10 (by decide) ?_
      refine lv_aload_n E.x E.b d_Ptm_bits_11 rfl (lv_at hl 0 rfl) ?_
      refine gM_Ptm_s E w k1718 d_Ptm_bits_12 ?_
      refine lv_iload_n E.x E.b d_Ptm_bits_15 rfl (lv_at hl 1 rfl) ?_
      obtain ⟨c6, h⟩ := ck_some h
      refine ialM E w (k := 53) (by decide) c6 d_Ptm_bits_16 ?_
      refine lv_iload_n E.x E.b d_Ptm_bits_17 rfl (lv_at hl 3 rfl) ?_
      refine lv_ishr E.x E.b d_Ptm_bits_18 ?_
      refine lv_iconst (v := 1) E.x E.b d_Ptm_bits_19 (by decide) ?_
      refine lv_iand E.x E.b d_Ptm_bits_20 ?_
      refine lv_imul E.x E.b d_Ptm_bits_21 ?_
      refine lv_aload_n E.x E.b d_Ptm_bits_22 rfl (lv_at hl 0 rfl) ?_
      refine gM_Ptm_d E w k1719 d_Ptm_bits_23 ?_
      refine lv_iload_n E.x E.b d_Ptm_bits_26 rfl (lv_at hl 1 rfl) ?_
      obtain ⟨c7, h⟩ := ck_some h
      refine ialM E w (k := 54) (by decide) c7 d_Ptm_bits_27 ?_
      refine lv_iload_n E.x E.b d_Ptm_bits_28 rfl (lv_at hl 3 rfl) ?_
      refine lv_ishr E.x E.b d_Ptm_bits_29 ?_
      refine lv_iconst (v := 1) E.x E.b d_Ptm_bits_30 (by decide) ?_
      refine lv_iand E.x E.b d_Ptm_bits_31 ?_
      refine lv_iadd E.x E.b d_Ptm_bits_32 ?_
      obtain ⟨y8, e_y8, h⟩ := lt_some h
      refine wi_e (v := y8) e_y8 ?_
      refine lv_istore (lv' := [(4, .int y8), (0, .ref (ad 64)), (1, .int v1), (2, .int v2), (3, .int v3)]) E.x E.b d_Ptm_bits_33 hl (by decide) rfl (fun ls hl => ?_)
      refine lv_iload_n E.x E.b d_Ptm_bits_35 rfl (lv_at hl 3 rfl) ?_
      refine lv_aload_n E.x E.b d_Ptm_bits_36 rfl (lv_at hl 1 rfl) ?_
      refine gM_Ptm_logic E w k1715 d_Ptm_bits_37 ?_
      refine lv_iload E.x E.b d_Ptm_bits_40 (lv_at hl 0 rfl) ?_
      refine lv_ishr E.x E.b d_Ptm_bits_42 ?_
      refine lv_iconst (v := 1) E.x E.b d_Ptm_bits_43 (by decide) ?_
      refine lv_iand E.x E.b d_Ptm_bits_44 ?_
      refine lv_iload_n E.x E.b d_Ptm_bits_45 rfl (lv_at hl 4 rfl) ?_
      refine lv_ishl E.x E.b d_Ptm_bits_46 ?_
      refine lv_ior E.x E.b d_Ptm_bits_47 ?_
      obtain ⟨y9, e_y9, h⟩ := lt_some h
      refine wi_e (v := y9) e_y9 ?_
      refine lv_istore_n (lv' := [(2, .int y9), (4, .int y8), (0, .ref (ad 64)), (1, .int v1), (3, .int v3)]) E.x E.b d_Ptm_bits_48 rfl hl (by decide) rfl (fun ls hl => ?_)
      obtain ⟨y10, e_y10, h⟩ := lt_some h
      refine lv_iinc (v := y10) (lv' := [(3, .int y10), (2, .int y9), (4, .int y8), (0, .ref (ad 64)), (1, .int v1)]) E.x E.b d_Ptm_bits_49 hl (k := 4) rfl (e_y10) (by decide) rfl (fun ls hl => ?_)
      refine lv_goto (tgt := 4) E.x E.b d_Ptm_bits_52 (by decide) ?_
      exact hr_4 v1 y9 y10 _ _ _ h w (lv_sub hl [3, 4, 1, 0] rfl)
def F_Ptm_bits (σ : Sg) (x0 : Int32) : Option (Int32) := L_Ptm_bits_4 100000 σ x0 0 0
set_option maxRecDepth 10000 in
set_option maxHeartbeats 4000000 in
theorem c_Ptm_bits (l : Launch) (D : va_G) (τ : ClassId × ClassId × ClassId) (B : Nat) (σ : Sg) (ad : Nat → Nat) (x0 : Int32) (o : Int32) (h : F_Ptm_bits σ x0 = some o) : MI l y_Ptm_bits (Cond.code y_Ptm_bits prog_17_method_24_code 5 (some .int)) 0 D τ B [.ref (ad 64), .int x0] (wdM τ σ ad) (wdM τ σ ad) o := by
  refine en_i (by decide) (Nat.le_of_ble_eq_true rfl) ?_
  intro p e R s m args below meth c H locs ls A E hret w hl
  have E : Cx p R s m args meth c prog_17_method_24_code 5 "DrawingMachineModel$PlaceTestsModel" 0 D τ B A := E
  have hl : lv_has ls 5 [(0, .ref (ad 64)), (1, .int x0)] := hl
  refine lv_iconst (v := 0) E.x E.b d_Ptm_bits_0 (by decide) ?_
  refine lv_istore_n (lv' := [(2, .int 0), (0, .ref (ad 64)), (1, .int x0)]) E.x E.b d_Ptm_bits_1 rfl hl (by decide) rfl (fun ls hl => ?_)
  refine lv_iconst (v := 0) E.x E.b d_Ptm_bits_2 (by decide) ?_
  refine lv_istore_n (lv' := [(3, .int 0), (2, .int 0), (0, .ref (ad 64)), (1, .int x0)]) E.x E.b d_Ptm_bits_3 rfl hl (by decide) rfl (fun ls hl => ?_)
  exact lt_Ptm_bits_4 E hret o σ 100000 x0 0 0 _ _ _ h w (lv_sub hl [2, 3, 1, 0] rfl)
theorem clV_Ptm_bits {p : Program} {l : Launch} {e : Env} {R : Room} {s : State} {m : MethodId} {args : Array Value} {below : List Frame} {meth : Method} {c : Code} {H : Heap} {locs : List Loc} {Q : State → Prop} {cc : ByteArray} {nL pc lev : Nat} {own : String} {D : va_G} {τ : ClassId × ClassId × ClassId} {B : Nat} {A : Nat → Prop} {σ : Sg} {ad : Nat → Nat} {ls : Array Slot} {rest : List Value} (E : Cx p R s m args meth c cc nL own lev D τ B A) (w : Wd s D A (wdM τ σ ad) H locs) {x0 : Int32} {o : Int32} (h : F_Ptm_bits σ x0 = some o) {index : Nat} (hlk : Cond.methodLink own index y_Ptm_bits ∈ tw) (hlev : 0 < lev) (hsz : ls.size = nL) (hr : (rest.map fun v => v.category).sum ≤ 8) (hd : decode cc pc = .ok (.invokevirtual index, 3)) (kk : ∀ (H1 : Heap) (locs1 : List Loc), Wd s D A (wdM τ σ ad) H1 locs1 → W p l e R s m args below meth c H1 locs1 0 0 Q (F0 m (pc + 3) ls (.int o :: rest))) : W p l e R s m args below meth c H locs 0 0 Q (F0 m pc ls (.int x0 :: .ref (ad 64) :: rest)) :=
  cr_i w E.C (va_runV (As := [.int x0]) (rest := rest) E.fix (c_Ptm_bits l D τ B σ ad x0 o h H.size) (cwV 1 E.w (tw_pre (tw_good k2465) (l := [_, _, _, _]) (List.forall_mem_cons.mpr ⟨hlk, List.forall_mem_cons.mpr ⟨k2464, List.forall_mem_cons.mpr ⟨ks112, List.forall_mem_cons.mpr ⟨k20, fun _ h => absurd h List.not_mem_nil⟩⟩⟩⟩)) rfl rfl rfl (by decide +kernel) (E.rm hlev (by decide))) (wd_preV w E.C [.int x0] rcM_Ptm rfl) rfl rfl hsz rfl (lv_room hr) hd ⟨Nat.zero_le _, Nat.zero_le _⟩) kk

theorem d_Ptm_factor_0 : decode prog_17_method_21_code 0 = .ok (.iload_n 1, 1) := by decide +kernel
theorem d_Ptm_factor_1 : decode prog_17_method_21_code 1 = .ok (.tableswitch 185 0 13 #[71, 73, 77, 84, 95, 102, 113, 120, 131, 138, 149, 156, 167, 174], 71) := by decide +kernel
theorem d_Ptm_factor_72 : decode prog_17_method_21_code 72 = .ok (.iconst 0, 1) := by decide +kernel
theorem d_Ptm_factor_73 : decode prog_17_method_21_code 73 = .ok (.ireturn, 1) := by decide +kernel
theorem d_Ptm_factor_74 : decode prog_17_method_21_code 74 = .ok (.sipush 255, 3) := by decide +kernel
theorem d_Ptm_factor_77 : decode prog_17_method_21_code 77 = .ok (.ireturn, 1) := by decide +kernel
theorem d_Ptm_factor_78 : decode prog_17_method_21_code 78 = .ok (.aload_n 0, 1) := by decide +kernel
theorem d_Ptm_factor_79 : decode prog_17_method_21_code 79 = .ok (.getfield 54, 3) := by decide +kernel
theorem d_Ptm_factor_82 : decode prog_17_method_21_code 82 = .ok (.iload_n 2, 1) := by decide +kernel
theorem d_Ptm_factor_83 : decode prog_17_method_21_code 83 = .ok (.iaload, 1) := by decide +kernel
theorem d_Ptm_factor_84 : decode prog_17_method_21_code 84 = .ok (.ireturn, 1) := by decide +kernel
theorem d_Ptm_factor_85 : decode prog_17_method_21_code 85 = .ok (.sipush 255, 3) := by decide +kernel
theorem d_Ptm_factor_88 : decode prog_17_method_21_code 88 = .ok (.aload_n 0, 1) := by decide +kernel
theorem d_Ptm_factor_89 : decode prog_17_method_21_code 89 = .ok (.getfield 54, 3) := by decide +kernel
theorem d_Ptm_factor_92 : decode prog_17_method_21_code 92 = .ok (.iload_n 2, 1) := by decide +kernel
theorem d_Ptm_factor_93 : decode prog_17_method_21_code 93 = .ok (.iaload, 1) := by decide +kernel
theorem d_Ptm_factor_94 : decode prog_17_method_21_code 94 = .ok (.isub, 1) := by decide +kernel
theorem d_Ptm_factor_95 : decode prog_17_method_21_code 95 = .ok (.ireturn, 1) := by decide +kernel
theorem d_Ptm_factor_96 : decode prog_17_method_21_code 96 = .ok (.aload_n 0, 1) := by decide +kernel
theorem d_Ptm_factor_97 : decode prog_17_method_21_code 97 = .ok (.getfield 57, 3) := by decide +kernel
theorem d_Ptm_factor_100 : decode prog_17_method_21_code 100 = .ok (.iload_n 2, 1) := by decide +kernel
theorem d_Ptm_factor_101 : decode prog_17_method_21_code 101 = .ok (.iaload, 1) := by decide +kernel
theorem d_Ptm_factor_102 : decode prog_17_method_21_code 102 = .ok (.ireturn, 1) := by decide +kernel
theorem d_Ptm_factor_103 : decode prog_17_method_21_code 103 = .ok (.sipush 255, 3) := by decide +kernel
theorem d_Ptm_factor_106 : decode prog_17_method_21_code 106 = .ok (.aload_n 0, 1) := by decide +kernel
theorem d_Ptm_factor_107 : decode prog_17_method_21_code 107 = .ok (.getfield 57, 3) := by decide +kernel
theorem d_Ptm_factor_110 : decode prog_17_method_21_code 110 = .ok (.iload_n 2, 1) := by decide +kernel
theorem d_Ptm_factor_111 : decode prog_17_method_21_code 111 = .ok (.iaload, 1) := by decide +kernel
theorem d_Ptm_factor_112 : decode prog_17_method_21_code 112 = .ok (.isub, 1) := by decide +kernel
theorem d_Ptm_factor_113 : decode prog_17_method_21_code 113 = .ok (.ireturn, 1) := by decide +kernel
theorem d_Ptm_factor_114 : decode prog_17_method_21_code 114 = .ok (.aload_n 0, 1) := by decide +kernel
theorem d_Ptm_factor_115 : decode prog_17_method_21_code 115 = .ok (.getfield 54, 3) := by decide +kernel
theorem d_Ptm_factor_118 : decode prog_17_method_21_code 118 = .ok (.iconst 3, 1) := by decide +kernel
theorem d_Ptm_factor_119 : decode prog_17_method_21_code 119 = .ok (.iaload, 1) := by decide +kernel
theorem d_Ptm_factor_120 : decode prog_17_method_21_code 120 = .ok (.ireturn, 1) := by decide +kernel
theorem d_Ptm_factor_121 : decode prog_17_method_21_code 121 = .ok (.sipush 255, 3) := by decide +kernel
theorem d_Ptm_factor_124 : decode prog_17_method_21_code 124 = .ok (.aload_n 0, 1) := by decide +kernel
theorem d_Ptm_factor_125 : decode prog_17_method_21_code 125 = .ok (.getfield 54, 3) := by decide +kernel
theorem d_Ptm_factor_128 : decode prog_17_method_21_code 128 = .ok (.iconst 3, 1) := by decide +kernel
theorem d_Ptm_factor_129 : decode prog_17_method_21_code 129 = .ok (.iaload, 1) := by decide +kernel
theorem d_Ptm_factor_130 : decode prog_17_method_21_code 130 = .ok (.isub, 1) := by decide +kernel
theorem d_Ptm_factor_131 : decode prog_17_method_21_code 131 = .ok (.ireturn, 1) := by decide +kernel
theorem d_Ptm_factor_132 : decode prog_17_method_21_code 132 = .ok (.aload_n 0, 1) := by decide +kernel
theorem d_Ptm_factor_133 : decode prog_17_method_21_code 133 = .ok (.getfield 57, 3) := by decide +kernel
theorem d_Ptm_factor_136 : decode prog_17_method_21_code 136 = .ok (.iconst 3, 1) := by decide +kernel
theorem d_Ptm_factor_137 : decode prog_17_method_21_code 137 = .ok (.iaload, 1) := by decide +kernel
theorem d_Ptm_factor_138 : decode prog_17_method_21_code 138 = .ok (.ireturn, 1) := by decide +kernel
theorem d_Ptm_factor_139 : decode prog_17_method_21_code 139 = .ok (.sipush 255, 3) := by decide +kernel
theorem d_Ptm_factor_142 : decode prog_17_method_21_code 142 = .ok (.aload_n 0, 1) := by decide +kernel
theorem d_Ptm_factor_143 : decode prog_17_method_21_code 143 = .ok (.getfield 57, 3) := by decide +kernel
theorem d_Ptm_factor_146 : decode prog_17_method_21_code 146 = .ok (.iconst 3, 1) := by decide +kernel
theorem d_Ptm_factor_147 : decode prog_17_method_21_code 147 = .ok (.iaload, 1) := by decide +kernel
theorem d_Ptm_factor_148 : decode prog_17_method_21_code 148 = .ok (.isub, 1) := by decide +kernel
theorem d_Ptm_factor_149 : decode prog_17_method_21_code 149 = .ok (.ireturn, 1) := by decide +kernel
theorem d_Ptm_factor_150 : decode prog_17_method_21_code 150 = .ok (.aload_n 0, 1) := by decide +kernel
theorem d_Ptm_factor_151 : decode prog_17_method_21_code 151 = .ok (.getfield 42, 3) := by decide +kernel
theorem d_Ptm_factor_154 : decode prog_17_method_21_code 154 = .ok (.iload_n 2, 1) := by decide +kernel
theorem d_Ptm_factor_155 : decode prog_17_method_21_code 155 = .ok (.iaload, 1) := by decide +kernel
theorem d_Ptm_factor_156 : decode prog_17_method_21_code 156 = .ok (.ireturn, 1) := by decide +kernel
theorem d_Ptm_factor_157 : decode prog_17_method_21_code 157 = .ok (.sipush 255, 3) := by decide +kernel
theorem d_Ptm_factor_160 : decode prog_17_method_21_code 160 = .ok (.aload_n 0, 1) := by decide +kernel
theorem d_Ptm_factor_161 : decode prog_17_method_21_code 161 = .ok (.getfield 42, 3) := by decide +kernel
theorem d_Ptm_factor_164 : decode prog_17_method_21_code 164 = .ok (.iload_n 2, 1) := by decide +kernel
theorem d_Ptm_factor_165 : decode prog_17_method_21_code 165 = .ok (.iaload, 1) := by decide +kernel
theorem d_Ptm_factor_166 : decode prog_17_method_21_code 166 = .ok (.isub, 1) := by decide +kernel
theorem d_Ptm_factor_167 : decode prog_17_method_21_code 167 = .ok (.ireturn, 1) := by decide +kernel
theorem d_Ptm_factor_168 : decode prog_17_method_21_code 168 = .ok (.aload_n 0, 1) := by decide +kernel
theorem d_Ptm_factor_169 : decode prog_17_method_21_code 169 = .ok (.getfield 42, 3) := by decide +kernel
theorem d_Ptm_factor_172 : decode prog_17_method_21_code 172 = .ok (.iconst 3, 1) := by decide +kernel
theorem d_Ptm_factor_173 : decode prog_17_method_21_code 173 = .ok (.iaload, 1) := by decide +kernel
theorem d_Ptm_factor_174 : decode prog_17_method_21_code 174 = .ok (.ireturn, 1) := by decide +kernel
theorem d_Ptm_factor_175 : decode prog_17_method_21_code 175 = .ok (.sipush 255, 3) := by decide +kernel
theorem d_Ptm_factor_178 : decode prog_17_method_21_code 178 = .ok (.aload_n 0, 1) := by decide +kernel
theorem d_Ptm_factor_179 : decode prog_17_method_21_code 179 = .ok (.getfield 42, 3) := by decide +kernel
theorem d_Ptm_factor_182 : decode prog_17_method_21_code 182 = .ok (.iconst 3, 1) := by decide +kernel
theorem d_Ptm_factor_183 : decode prog_17_method_21_code 183 = .ok (.iaload, 1) := by decide +kernel
theorem d_Ptm_factor_184 : decode prog_17_method_21_code 184 = .ok (.isub, 1) := by decide +kernel
theorem d_Ptm_factor_185 : decode prog_17_method_21_code 185 = .ok (.ireturn, 1) := by decide +kernel
theorem d_Ptm_factor_186 : decode prog_17_method_21_code 186 = .ok (.iload_n 2, 1) := by decide +kernel
theorem d_Ptm_factor_187 : decode prog_17_method_21_code 187 = .ok (.iconst 3, 1) := by decide +kernel
theorem d_Ptm_factor_188 : decode prog_17_method_21_code 188 = .ok (.if_icmp .ne 9, 3) := by decide +kernel
theorem d_Ptm_factor_191 : decode prog_17_method_21_code 191 = .ok (.sipush 255, 3) := by decide +kernel
theorem d_Ptm_factor_194 : decode prog_17_method_21_code 194 = .ok (.goto 41, 3) := by decide +kernel
theorem d_Ptm_factor_197 : decode prog_17_method_21_code 197 = .ok (.aload_n 0, 1) := by decide +kernel
theorem d_Ptm_factor_198 : decode prog_17_method_21_code 198 = .ok (.getfield 54, 3) := by decide +kernel
theorem d_Ptm_factor_201 : decode prog_17_method_21_code 201 = .ok (.iconst 3, 1) := by decide +kernel
theorem d_Ptm_factor_202 : decode prog_17_method_21_code 202 = .ok (.iaload, 1) := by decide +kernel
theorem d_Ptm_factor_203 : decode prog_17_method_21_code 203 = .ok (.sipush 255, 3) := by decide +kernel
theorem d_Ptm_factor_206 : decode prog_17_method_21_code 206 = .ok (.aload_n 0, 1) := by decide +kernel
theorem d_Ptm_factor_207 : decode prog_17_method_21_code 207 = .ok (.getfield 57, 3) := by decide +kernel
theorem d_Ptm_factor_210 : decode prog_17_method_21_code 210 = .ok (.iconst 3, 1) := by decide +kernel
theorem d_Ptm_factor_211 : decode prog_17_method_21_code 211 = .ok (.iaload, 1) := by decide +kernel
theorem d_Ptm_factor_212 : decode prog_17_method_21_code 212 = .ok (.isub, 1) := by decide +kernel
theorem d_Ptm_factor_213 : decode prog_17_method_21_code 213 = .ok (.if_icmp .ge 12, 3) := by decide +kernel
theorem d_Ptm_factor_216 : decode prog_17_method_21_code 216 = .ok (.aload_n 0, 1) := by decide +kernel
theorem d_Ptm_factor_217 : decode prog_17_method_21_code 217 = .ok (.getfield 54, 3) := by decide +kernel
theorem d_Ptm_factor_220 : decode prog_17_method_21_code 220 = .ok (.iconst 3, 1) := by decide +kernel
theorem d_Ptm_factor_221 : decode prog_17_method_21_code 221 = .ok (.iaload, 1) := by decide +kernel
theorem d_Ptm_factor_222 : decode prog_17_method_21_code 222 = .ok (.goto 13, 3) := by decide +kernel
theorem d_Ptm_factor_225 : decode prog_17_method_21_code 225 = .ok (.sipush 255, 3) := by decide +kernel
theorem d_Ptm_factor_228 : decode prog_17_method_21_code 228 = .ok (.aload_n 0, 1) := by decide +kernel
theorem d_Ptm_factor_229 : decode prog_17_method_21_code 229 = .ok (.getfield 57, 3) := by decide +kernel
theorem d_Ptm_factor_232 : decode prog_17_method_21_code 232 = .ok (.iconst 3, 1) := by decide +kernel
theorem d_Ptm_factor_233 : decode prog_17_method_21_code 233 = .ok (.iaload, 1) := by decide +kernel
theorem d_Ptm_factor_234 : decode prog_17_method_21_code 234 = .ok (.isub, 1) := by decide +kernel
theorem d_Ptm_factor_235 : decode prog_17_method_21_code 235 = .ok (.ireturn, 1) := by decide +kernel
def F_Ptm_factor_235 (σ : Sg) (s0 : Int32) : Option (Int32) := some s0
set_option maxRecDepth 10000 in
set_option maxHeartbeats 4000000 in
theorem bt_Ptm_factor_235 {p : Program} {l : Launch} {e : Env} {R : Room} {s : State} {m : MethodId} {args : Array Value} {below : List Frame} {meth : Method} {c : Code} {D : va_G} {τ : ClassId × ClassId × ClassId} {B : Nat} {A : Nat → Prop} {ad : Nat → Nat} (E : Cx p R s m args meth c prog_17_method_21_code 3 "DrawingMachineModel$PlaceTestsModel" 0 D τ B A) (hret : meth.sig.returnType = (some .int)) (o : Int32) (σ : Sg) (s0 : Int32) (h : F_Ptm_factor_235 σ s0 = some o) {H : Heap} {locs : List Loc} {ls : Array Slot} (w : Wd s D A (wdM τ σ ad) H locs) (hl : lv_has ls 3 []) : W p l e R s m args below meth c H locs 0 0 (QI below args s A D τ (wdM τ σ ad) o) (F0 m 235 ls [.int s0]) := by
  obtain rfl := Option.some.inj h
  exact rt_i E w hret d_Ptm_factor_235
def F_Ptm_factor (σ : Sg) (x0 : Int32) (x1 : Int32) : Option (Int32) := if x0 = 0 then (some 0) else (if x0 = 1 then (some 255) else (if x0 = 2 then (ck (inb x1 4) (some (σ.2.2.1 53 x1.toNatClampNeg))) else (if x0 = 3 then (ck (inb x1 4) (some (255 - (σ.2.2.1 53 x1.toNatClampNeg)))) else (if x0 = 4 then (ck (inb x1 4) (some (σ.2.2.1 54 x1.toNatClampNeg))) else (if x0 = 5 then (ck (inb x1 4) (some (255 - (σ.2.2.1 54 x1.toNatClampNeg)))) else (if x0 = 6 then (some (σ.2.2.1 53 3)) else (if x0 = 7 then (some (255 - (σ.2.2.1 53 3))) else (if x0 = 8 then (some (σ.2.2.1 54 3)) else (if x0 = 9 then (some (255 - (σ.2.2.1 54 3))) else (if x0 = 10 then (ck (inb x1 4) (some (σ.2.2.1 51 x1.toNatClampNeg))) else (if x0 = 11 then (ck (inb x1 4) (some (255 - (σ.2.2.1 51 x1.toNatClampNeg)))) else (if x0 = 12 then (some (σ.2.2.1 51 3)) else (if x0 = 13 then (some (255 - (σ.2.2.1 51 3))) else (if x1 = 3 then (F_Ptm_factor_235 σ 255) else (if (255 - (σ.2.2.1 54 3)) ≤ (σ.2.2.1 53 3) then (F_Ptm_factor_235 σ (255 - (σ.2.2.1 54 3))) else (F_Ptm_factor_235 σ (σ.2.2.1 53 3)))))))))))))))))
set_option maxRecDepth 10000 in
set_option maxHeartbeats 4000000 in
theorem c_Ptm_factor (l : Launch) (D : va_G) (τ : ClassId × ClassId × ClassId) (B : Nat) (σ : Sg) (ad : Nat → Nat) (x0 : Int32) (x1 : Int32) (o : Int32) (h : F_Ptm_factor σ x0 x1 = some o) : MI l y_Ptm_factor (Cond.code y_Ptm_factor prog_17_method_21_code 3 (some .int)) 0 D τ B [.ref (ad 64), .int x0, .int x1] (wdM τ σ ad) (wdM τ σ ad) o := by
  refine en_i (by decide) (Nat.le_of_ble_eq_true rfl) ?_
  intro p e R s m args below meth c H locs ls A E hret w hl
  have E : Cx p R s m args meth c prog_17_method_21_code 3 "DrawingMachineModel$PlaceTestsModel" 0 D τ B A := E
  have hl : lv_has ls 3 [(0, .ref (ad 64)), (1, .int x0), (2, .int x1)] := hl
  refine lv_iload_n E.x E.b d_Ptm_factor_0 rfl (lv_at hl 1 rfl) ?_
  by_cases q21 : x0 = 0
  ·
    replace h := ifT q21 h
    refine wi_e (v := 0) q21 ?_
    refine lv_tableIn (off := 71) (tgt := 72) E.x E.b d_Ptm_factor_1 (by decide) (by decide) (by decide) (by decide) ?_
    refine lv_iconst (v := 0) E.x E.b d_Ptm_factor_72 (by decide) ?_
    obtain rfl := Option.some.inj h
    exact rt_i E w hret d_Ptm_factor_73
  replace h := ifF q21 h
  replace q21 := ne_ti (k := 0) (by decide) q21
  by_cases q22 : x0 = 1
  ·
    replace h := ifT q22 h
    refine wi_e (v := 1) q22 ?_
    refine lv_tableIn (off := 73) (tgt := 74) E.x E.b d_Ptm_factor_1 (by decide) (by decide) (by decide) (by decide) ?_
    refine lv_sipush (v := 255) E.x E.b d_Ptm_factor_74 (by decide) ?_
    obtain rfl := Option.some.inj h
    exact rt_i E w hret d_Ptm_factor_77
  replace h := ifF q22 h
  replace q22 := ne_ti (k := 1) (by decide) q22
  by_cases q23 : x0 = 2
  ·
    replace h := ifT q23 h
    refine wi_e (v := 2) q23 ?_
    refine lv_tableIn (off := 77) (tgt := 78) E.x E.b d_Ptm_factor_1 (by decide) (by decide) (by decide) (by decide) ?_
    refine lv_aload_n E.x E.b d_Ptm_factor_78 rfl (lv_at hl 0 rfl) ?_
    refine gM_Ptm_s E w k1718 d_Ptm_factor_79 ?_
    refine lv_iload_n E.x E.b d_Ptm_factor_82 rfl (lv_at hl 2 rfl) ?_
    obtain ⟨c24, h⟩ := ck_some h
    refine ialM E w (k := 53) (by decide) c24 d_Ptm_factor_83 ?_
    obtain rfl := Option.some.inj h
    exact rt_i E w hret d_Ptm_factor_84
  replace h := ifF q23 h
  replace q23 := ne_ti (k := 2) (by decide) q23
  by_cases q25 : x0 = 3
  ·
    replace h := ifT q25 h
    refine wi_e (v := 3) q25 ?_
    refine lv_tableIn (off := 84) (tgt := 85) E.x E.b d_Ptm_factor_1 (by decide) (by decide) (by decide) (by decide) ?_
    refine lv_sipush (v := 255) E.x E.b d_Ptm_factor_85 (by decide) ?_
    refine lv_aload_n E.x E.b d_Ptm_factor_88 rfl (lv_at hl 0 rfl) ?_
    refine gM_Ptm_s E w k1718 d_Ptm_factor_89 ?_
    refine lv_iload_n E.x E.b d_Ptm_factor_92 rfl (lv_at hl 2 rfl) ?_
    obtain ⟨c26, h⟩ := ck_some h
    refine ialM E w (k := 53) (by decide) c26 d_Ptm_factor_93 ?_
    refine lv_isub E.x E.b d_Ptm_factor_94 ?_
    obtain rfl := Option.some.inj h
    exact rt_i E w hret d_Ptm_factor_95
  replace h := ifF q25 h
  replace q25 := ne_ti (k := 3) (by decide) q25
  by_cases q27 : x0 = 4
  ·
    replace h := ifT q27 h
    refine wi_e (v := 4) q27 ?_
    refine lv_tableIn (off := 95) (tgt := 96) E.x E.b d_Ptm_factor_1 (by decide) (by decide) (by decide) (by decide) ?_
    refine lv_aload_n E.x E.b d_Ptm_factor_96 rfl (lv_at hl 0 rfl) ?_
    refine gM_Ptm_d E w k1719 d_Ptm_factor_97 ?_
    refine lv_iload_n E.x E.b d_Ptm_factor_100 rfl (lv_at hl 2 rfl) ?_
    obtain ⟨c28, h⟩ := ck_some h
    refine ialM E w (k := 54) (by decide) c28 d_Ptm_factor_101 ?_
    obtain rfl := Option.some.inj h
    exact rt_i E w hret d_Ptm_factor_102
  replace h := ifF q27 h
  replace q27 := ne_ti (k := 4) (by decide) q27
  by_cases q29 : x0 = 5
  ·
    replace h := ifT q29 h
    refine wi_e (v := 5) q29 ?_
    refine lv_tableIn (off := 102) (tgt := 103) E.x E.b d_Ptm_factor_1 (by decide) (by decide) (by decide) (by decide) ?_
    refine lv_sipush (v := 255) E.x E.b d_Ptm_factor_103 (by decide) ?_
    refine lv_aload_n E.x E.b d_Ptm_factor_106 rfl (lv_at hl 0 rfl) ?_
    refine gM_Ptm_d E w k1719 d_Ptm_factor_107 ?_
    refine lv_iload_n E.x E.b d_Ptm_factor_110 rfl (lv_at hl 2 rfl) ?_
    obtain ⟨c30, h⟩ := ck_some h
    refine ialM E w (k := 54) (by decide) c30 d_Ptm_factor_111 ?_
    refine lv_isub E.x E.b d_Ptm_factor_112 ?_
    obtain rfl := Option.some.inj h
    exact rt_i E w hret d_Ptm_factor_113
  replace h := ifF q29 h
  replace q29 := ne_ti (k := 5) (by decide) q29
  by_cases q31 : x0 = 6
  ·
    replace h := ifT q31 h
    refine wi_e (v := 6) q31 ?_
    refine lv_tableIn (off := 113) (tgt := 114) E.x E.b d_Ptm_factor_1 (by decide) (by decide) (by decide) (by decide) ?_
    refine lv_aload_n E.x E.b d_Ptm_factor_114 rfl (lv_at hl 0 rfl) ?_
    refine gM_Ptm_s E w k1718 d_Ptm_factor_115 ?_
    refine lv_iconst (v := 3) E.x E.b d_Ptm_factor_118 (by decide) ?_
    refine ialM E w (k := 53) (by decide) (show inb 3 4 by decide) d_Ptm_factor_119 ?_
    refine wi_e (v := σ.2.2.1 53 3) rfl ?_
    obtain rfl := Option.some.inj h
    exact rt_i E w hret d_Ptm_factor_120
  replace h := ifF q31 h
  replace q31 := ne_ti (k := 6) (by decide) q31
  by_cases q32 : x0 = 7
  ·
    replace h := ifT q32 h
    refine wi_e (v := 7) q32 ?_
    refine lv_tableIn (off := 120) (tgt := 121) E.x E.b d_Ptm_factor_1 (by decide) (by decide) (by decide) (by decide) ?_
    refine lv_sipush (v := 255) E.x E.b d_Ptm_factor_121 (by decide) ?_
    refine lv_aload_n E.x E.b d_Ptm_factor_124 rfl (lv_at hl 0 rfl) ?_
    refine gM_Ptm_s E w k1718 d_Ptm_factor_125 ?_
    refine lv_iconst (v := 3) E.x E.b d_Ptm_factor_128 (by decide) ?_
    refine ialM E w (k := 53) (by decide) (show inb 3 4 by decide) d_Ptm_factor_129 ?_
    refine wi_e (v := σ.2.2.1 53 3) rfl ?_
    refine lv_isub E.x E.b d_Ptm_factor_130 ?_
    obtain rfl := Option.some.inj h
    exact rt_i E w hret d_Ptm_factor_131
  replace h := ifF q32 h
  replace q32 := ne_ti (k := 7) (by decide) q32
  by_cases q33 : x0 = 8
  ·
    replace h := ifT q33 h
    refine wi_e (v := 8) q33 ?_
    refine lv_tableIn (off := 131) (tgt := 132) E.x E.b d_Ptm_factor_1 (by decide) (by decide) (by decide) (by decide) ?_
    refine lv_aload_n E.x E.b d_Ptm_factor_132 rfl (lv_at hl 0 rfl) ?_
    refine gM_Ptm_d E w k1719 d_Ptm_factor_133 ?_
    refine lv_iconst (v := 3) E.x E.b d_Ptm_factor_136 (by decide) ?_
    refine ialM E w (k := 54) (by decide) (show inb 3 4 by decide) d_Ptm_factor_137 ?_
    refine wi_e (v := σ.2.2.1 54 3) rfl ?_
    obtain rfl := Option.some.inj h
    exact rt_i E w hret d_Ptm_factor_138
  replace h := ifF q33 h
  replace q33 := ne_ti (k := 8) (by decide) q33
  by_cases q34 : x0 = 9
  ·
    replace h := ifT q34 h
    refine wi_e (v := 9) q34 ?_
    refine lv_tableIn (off := 138) (tgt := 139) E.x E.b d_Ptm_factor_1 (by decide) (by decide) (by decide) (by decide) ?_
    refine lv_sipush (v := 255) E.x E.b d_Ptm_factor_139 (by decide) ?_
    refine lv_aload_n E.x E.b d_Ptm_factor_142 rfl (lv_at hl 0 rfl) ?_
    refine gM_Ptm_d E w k1719 d_Ptm_factor_143 ?_
    refine lv_iconst (v := 3) E.x E.b d_Ptm_factor_146 (by decide) ?_
    refine ialM E w (k := 54) (by decide) (show inb 3 4 by decide) d_Ptm_factor_147 ?_
    refine wi_e (v := σ.2.2.1 54 3) rfl ?_
    refine lv_isub E.x E.b d_Ptm_factor_148 ?_
    obtain rfl := Option.some.inj h
    exact rt_i E w hret d_Ptm_factor_149
  replace h := ifF q34 h
  replace q34 := ne_ti (k := 9) (by decide) q34
  by_cases q35 : x0 = 10
  ·
    replace h := ifT q35 h
    refine wi_e (v := 10) q35 ?_
    refine lv_tableIn (off := 149) (tgt := 150) E.x E.b d_Ptm_factor_1 (by decide) (by decide) (by decide) (by decide) ?_
    refine lv_aload_n E.x E.b d_Ptm_factor_150 rfl (lv_at hl 0 rfl) ?_
    refine gM_Ptm_constant E w k1714 d_Ptm_factor_151 ?_
    refine lv_iload_n E.x E.b d_Ptm_factor_154 rfl (lv_at hl 2 rfl) ?_
    obtain ⟨c36, h⟩ := ck_some h
    refine ialM E w (k := 51) (by decide) c36 d_Ptm_factor_155 ?_
    obtain rfl := Option.some.inj h
    exact rt_i E w hret d_Ptm_factor_156
  replace h := ifF q35 h
  replace q35 := ne_ti (k := 10) (by decide) q35
  by_cases q37 : x0 = 11
  ·
    replace h := ifT q37 h
    refine wi_e (v := 11) q37 ?_
    refine lv_tableIn (off := 156) (tgt := 157) E.x E.b d_Ptm_factor_1 (by decide) (by decide) (by decide) (by decide) ?_
    refine lv_sipush (v := 255) E.x E.b d_Ptm_factor_157 (by decide) ?_
    refine lv_aload_n E.x E.b d_Ptm_factor_160 rfl (lv_at hl 0 rfl) ?_
    refine gM_Ptm_constant E w k1714 d_Ptm_factor_161 ?_
    refine lv_iload_n E.x E.b d_Ptm_factor_164 rfl (lv_at hl 2 rfl) ?_
    obtain ⟨c38, h⟩ := ck_some h
    refine ialM E w (k := 51) (by decide) c38 d_Ptm_factor_165 ?_
    refine lv_isub E.x E.b d_Ptm_factor_166 ?_
    obtain rfl := Option.some.inj h
    exact rt_i E w hret d_Ptm_factor_167
  replace h := ifF q37 h
  replace q37 := ne_ti (k := 11) (by decide) q37
  by_cases q39 : x0 = 12
  ·
    replace h := ifT q39 h
    refine wi_e (v := 12) q39 ?_
    refine lv_tableIn (off := 167) (tgt := 168) E.x E.b d_Ptm_factor_1 (by decide) (by decide) (by decide) (by decide) ?_
    refine lv_aload_n E.x E.b d_Ptm_factor_168 rfl (lv_at hl 0 rfl) ?_
    refine gM_Ptm_constant E w k1714 d_Ptm_factor_169 ?_
    refine lv_iconst (v := 3) E.x E.b d_Ptm_factor_172 (by decide) ?_
    refine ialM E w (k := 51) (by decide) (show inb 3 4 by decide) d_Ptm_factor_173 ?_
    refine wi_e (v := σ.2.2.1 51 3) rfl ?_
    obtain rfl := Option.some.inj h
    exact rt_i E w hret d_Ptm_factor_174
  replace h := ifF q39 h
  replace q39 := ne_ti (k := 12) (by decide) q39
  by_cases q40 : x0 = 13
  ·
    replace h := ifT q40 h
    refine wi_e (v := 13) q40 ?_
    refine lv_tableIn (off := 174) (tgt := 175) E.x E.b d_Ptm_factor_1 (by decide) (by decide) (by decide) (by decide) ?_
    refine lv_sipush (v := 255) E.x E.b d_Ptm_factor_175 (by decide) ?_
    refine lv_aload_n E.x E.b d_Ptm_factor_178 rfl (lv_at hl 0 rfl) ?_
    refine gM_Ptm_constant E w k1714 d_Ptm_factor_179 ?_
    refine lv_iconst (v := 3) E.x E.b d_Ptm_factor_182 (by decide) ?_
    refine ialM E w (k := 51) (by decide) (show inb 3 4 by decide) d_Ptm_factor_183 ?_
    refine wi_e (v := σ.2.2.1 51 3) rfl ?_
    refine lv_isub E.x E.b d_Ptm_factor_184 ?_
    obtain rfl := Option.some.inj h
    exact rt_i E w hret d_Ptm_factor_185
  replace h := ifF q40 h
  replace q40 := ne_ti (k := 13) (by decide) q40
  refine lv_tableOut (tgt := 186) E.x E.b d_Ptm_factor_1 (by omega) (by decide) ?_
  refine lv_iload_n E.x E.b d_Ptm_factor_186 rfl (lv_at hl 2 rfl) ?_
  refine lv_iconst (v := 3) E.x E.b d_Ptm_factor_187 (by decide) ?_
  refine lv_icmp_ne (tgt := 197) E.x E.b d_Ptm_factor_188 (by decide) (fun c => ?_) (fun c => ?_)
  ·
    replace h := ifF c h
    refine lv_aload_n E.x E.b d_Ptm_factor_197 rfl (lv_at hl 0 rfl) ?_
    refine gM_Ptm_s E w k1718 d_Ptm_factor_198 ?_
    refine lv_iconst (v := 3) E.x E.b d_Ptm_factor_201 (by decide) ?_
    refine ialM E w (k := 53) (by decide) (show inb 3 4 by decide) d_Ptm_factor_202 ?_
    refine wi_e (v := σ.2.2.1 53 3) rfl ?_
    refine lv_sipush (v := 255) E.x E.b d_Ptm_factor_203 (by decide) ?_
    refine lv_aload_n E.x E.b d_Ptm_factor_206 rfl (lv_at hl 0 rfl) ?_
    refine gM_Ptm_d E w k1719 d_Ptm_factor_207 ?_
    refine lv_iconst (v := 3) E.x E.b d_Ptm_factor_210 (by decide) ?_
    refine ialM E w (k := 54) (by decide) (show inb 3 4 by decide) d_Ptm_factor_211 ?_
    refine wi_e (v := σ.2.2.1 54 3) rfl ?_
    refine lv_isub E.x E.b d_Ptm_factor_212 ?_
    refine lv_icmp_ge (tgt := 225) E.x E.b d_Ptm_factor_213 (by decide) (fun c => ?_) (fun c => ?_)
    ·
      replace h := ifT c h
      refine lv_sipush (v := 255) E.x E.b d_Ptm_factor_225 (by decide) ?_
      refine lv_aload_n E.x E.b d_Ptm_factor_228 rfl (lv_at hl 0 rfl) ?_
      refine gM_Ptm_d E w k1719 d_Ptm_factor_229 ?_
      refine lv_iconst (v := 3) E.x E.b d_Ptm_factor_232 (by decide) ?_
      refine ialM E w (k := 54) (by decide) (show inb 3 4 by decide) d_Ptm_factor_233 ?_
      refine wi_e (v := σ.2.2.1 54 3) rfl ?_
      refine lv_isub E.x E.b d_Ptm_factor_234 ?_
      exact bt_Ptm_factor_235 E hret o σ (255 - (σ.2.2.1 54 3)) h w (lv_sub hl [] rfl)
    ·
      replace h := ifF c h
      refine lv_aload_n E.x E.b d_Ptm_factor_216 rfl (lv_at hl 0 rfl) ?_
      refine gM_Ptm_s E w k1718 d_Ptm_factor_217 ?_
      refine lv_iconst (v := 3) E.x E.b d_Ptm_factor_220 (by decide) ?_
      refine ialM E w (k := 53) (by decide) (show inb 3 4 by decide) d_Ptm_factor_221 ?_
      refine wi_e (v := σ.2.2.1 53 3) rfl ?_
      refine lv_goto (tgt := 235) E.x E.b d_Ptm_factor_222 (by decide) ?_
      exact bt_Ptm_factor_235 E hret o σ (σ.2.2.1 53 3) h w (lv_sub hl [] rfl)
  ·
    replace h := ifT c h
    refine lv_sipush (v := 255) E.x E.b d_Ptm_factor_191 (by decide) ?_
    refine lv_goto (tgt := 235) E.x E.b d_Ptm_factor_194 (by decide) ?_
    exact bt_Ptm_factor_235 E hret o σ 255 h w (lv_sub hl [] rfl)
theorem clV_Ptm_factor {p : Program} {l : Launch} {e : Env} {R : Room} {s : State} {m : MethodId} {args : Array Value} {below : List Frame} {meth : Method} {c : Code} {H : Heap} {locs : List Loc} {Q : State → Prop} {cc : ByteArray} {nL pc lev : Nat} {own : String} {D : va_G} {τ : ClassId × ClassId × ClassId} {B : Nat} {A : Nat → Prop} {σ : Sg} {ad : Nat → Nat} {ls : Array Slot} {rest : List Value} (E : Cx p R s m args meth c cc nL own lev D τ B A) (w : Wd s D A (wdM τ σ ad) H locs) {x0 : Int32} {x1 : Int32} {o : Int32} (h : F_Ptm_factor σ x0 x1 = some o) {index : Nat} (hlk : Cond.methodLink own index y_Ptm_factor ∈ tw) (hlev : 0 < lev) (hsz : ls.size = nL) (hr : (rest.map fun v => v.category).sum ≤ 8) (hd : decode cc pc = .ok (.invokevirtual index, 3)) (kk : ∀ (H1 : Heap) (locs1 : List Loc), Wd s D A (wdM τ σ ad) H1 locs1 → W p l e R s m args below meth c H1 locs1 0 0 Q (F0 m (pc + 3) ls (.int o :: rest))) : W p l e R s m args below meth c H locs 0 0 Q (F0 m pc ls (.int x1 :: .int x0 :: .ref (ad 64) :: rest)) :=
  cr_i w E.C (va_runV (As := [.int x0, .int x1]) (rest := rest) E.fix (c_Ptm_factor l D τ B σ ad x0 x1 o h H.size) (cwV 2 E.w (tw_pre (tw_good k2473) (l := [_, _, _, _]) (List.forall_mem_cons.mpr ⟨hlk, List.forall_mem_cons.mpr ⟨k2472, List.forall_mem_cons.mpr ⟨ks114, List.forall_mem_cons.mpr ⟨k20, fun _ h => absurd h List.not_mem_nil⟩⟩⟩⟩)) rfl rfl rfl (by decide +kernel) (E.rm hlev (by decide))) (wd_preV w E.C [.int x0, .int x1] rcM_Ptm rfl) rfl rfl hsz rfl (lv_room hr) hd ⟨Nat.zero_le _, Nat.zero_le _⟩) kk

theorem d_Ptm_nearest_0 : decode prog_17_method_22_code 0 = .ok (.iload_n 0, 1) := by decide +kernel
theorem d_Ptm_nearest_1 : decode prog_17_method_22_code 1 = .ok (.ifCond .ge 7, 3) := by decide +kernel
theorem d_Ptm_nearest_4 : decode prog_17_method_22_code 4 = .ok (.iconst 0, 1) := by decide +kernel
theorem d_Ptm_nearest_5 : decode prog_17_method_22_code 5 = .ok (.goto 14, 3) := by decide +kernel
theorem d_Ptm_nearest_8 : decode prog_17_method_22_code 8 = .ok (.iconst 2, 1) := by decide +kernel
theorem d_Ptm_nearest_9 : decode prog_17_method_22_code 9 = .ok (.iload_n 0, 1) := by decide +kernel
theorem d_Ptm_nearest_10 : decode prog_17_method_22_code 10 = .ok (.imul, 1) := by decide +kernel
theorem d_Ptm_nearest_11 : decode prog_17_method_22_code 11 = .ok (.sipush 255, 3) := by decide +kernel
theorem d_Ptm_nearest_14 : decode prog_17_method_22_code 14 = .ok (.iadd, 1) := by decide +kernel
theorem d_Ptm_nearest_15 : decode prog_17_method_22_code 15 = .ok (.sipush 510, 3) := by decide +kernel
theorem d_Ptm_nearest_18 : decode prog_17_method_22_code 18 = .ok (.idiv, 1) := by decide +kernel
theorem d_Ptm_nearest_19 : decode prog_17_method_22_code 19 = .ok (.istore_n 1, 1) := by decide +kernel
theorem d_Ptm_nearest_20 : decode prog_17_method_22_code 20 = .ok (.iload_n 1, 1) := by decide +kernel
theorem d_Ptm_nearest_21 : decode prog_17_method_22_code 21 = .ok (.sipush 255, 3) := by decide +kernel
theorem d_Ptm_nearest_24 : decode prog_17_method_22_code 24 = .ok (.if_icmp .le 9, 3) := by decide +kernel
theorem d_Ptm_nearest_27 : decode prog_17_method_22_code 27 = .ok (.sipush 255, 3) := by decide +kernel
theorem d_Ptm_nearest_30 : decode prog_17_method_22_code 30 = .ok (.goto 4, 3) := by decide +kernel
theorem d_Ptm_nearest_33 : decode prog_17_method_22_code 33 = .ok (.iload_n 1, 1) := by decide +kernel
theorem d_Ptm_nearest_34 : decode prog_17_method_22_code 34 = .ok (.ireturn, 1) := by decide +kernel
def F_Ptm_nearest_34  (s0 : Int32) : Option (Int32) := some s0
set_option maxRecDepth 10000 in
set_option maxHeartbeats 4000000 in
theorem bt_Ptm_nearest_34 {p : Program} {l : Launch} {e : Env} {R : Room} {s : State} {m : MethodId} {args : Array Value} {below : List Frame} {meth : Method} {c : Code} {D : va_G} {τ : ClassId × ClassId × ClassId} {B : Nat} {A : Nat → Prop} {ad : Nat → Nat} {σ0 : Sg} (E : Cx p R s m args meth c prog_17_method_22_code 2 "DrawingMachineModel$PlaceTestsModel" 0 D τ B A) (hret : meth.sig.returnType = (some .int)) (o : Int32) (s0 : Int32) (h : F_Ptm_nearest_34 s0 = some o) {H : Heap} {locs : List Loc} {ls : Array Slot} (w : Wd s D A (wdM τ σ0 ad) H locs) (hl : lv_has ls 2 []) : W p l e R s m args below meth c H locs 0 0 (QI below args s A D τ (wdM τ σ0 ad) o) (F0 m 34 ls [.int s0]) := by
  obtain rfl := Option.some.inj h
  exact rt_i E w hret d_Ptm_nearest_34
def F_Ptm_nearest_19  (s0 : Int32) : Option (Int32) := if s0 ≤ 255 then (F_Ptm_nearest_34 s0) else (F_Ptm_nearest_34 255)
set_option maxRecDepth 10000 in
set_option maxHeartbeats 4000000 in
theorem bt_Ptm_nearest_19 {p : Program} {l : Launch} {e : Env} {R : Room} {s : State} {m : MethodId} {args : Array Value} {below : List Frame} {meth : Method} {c : Code} {D : va_G} {τ : ClassId × ClassId × ClassId} {B : Nat} {A : Nat → Prop} {ad : Nat → Nat} {σ0 : Sg} (E : Cx p R s m args meth c prog_17_method_22_code 2 "DrawingMachineModel$PlaceTestsModel" 0 D τ B A) (hret : meth.sig.returnType = (some .int)) (o : Int32) (s0 : Int32) (h : F_Ptm_nearest_19 s0 = some o) {H : Heap} {locs : List Loc} {ls : Array Slot} (w : Wd s D A (wdM τ σ0 ad) H locs) (hl : lv_has ls 2 []) : W p l e R s m args below meth c H locs 0 0 (QI below args s A D τ (wdM τ σ0 ad) o) (F0 m 19 ls [.int s0]) := by
  refine lv_istore_n (lv' := [(1, .int s0)]) E.x E.b d_Ptm_nearest_19 rfl hl (by decide) rfl (fun ls hl => ?_)
  refine lv_iload_n E.x E.b d_Ptm_nearest_20 rfl (lv_at hl 0 rfl) ?_
  refine lv_sipush (v := 255) E.x E.b d_Ptm_nearest_21 (by decide) ?_
  refine lv_icmp_le (tgt := 33) E.x E.b d_Ptm_nearest_24 (by decide) (fun c => ?_) (fun c => ?_)
  ·
    replace h := ifT c h
    refine lv_iload_n E.x E.b d_Ptm_nearest_33 rfl (lv_at hl 0 rfl) ?_
    exact bt_Ptm_nearest_34 E hret o s0 h w (lv_sub hl [] rfl)
  ·
    replace h := ifF c h
    refine lv_sipush (v := 255) E.x E.b d_Ptm_nearest_27 (by decide) ?_
    refine lv_goto (tgt := 34) E.x E.b d_Ptm_nearest_30 (by decide) ?_
    exact bt_Ptm_nearest_34 E hret o 255 h w (lv_sub hl [] rfl)
def F_Ptm_nearest  (x0 : Int32) : Option (Int32) := if 0 ≤ x0 then (F_Ptm_nearest_19 (((2 * x0) + 255) / 510)) else (F_Ptm_nearest_19 0)
set_option maxRecDepth 10000 in
set_option maxHeartbeats 4000000 in
theorem c_Ptm_nearest (l : Launch) (D : va_G) (τ : ClassId × ClassId × ClassId) (B : Nat) (σ0 : Sg) (ad : Nat → Nat) (x0 : Int32) (o : Int32) (h : F_Ptm_nearest x0 = some o) : MI l y_Ptm_nearest (Cond.code y_Ptm_nearest prog_17_method_22_code 2 (some .int)) 0 D τ B [.int x0] (wdM τ σ0 ad) (wdM τ σ0 ad) o := by
  refine en_i (by decide) (Nat.le_of_ble_eq_true rfl) ?_
  intro p e R s m args below meth c H locs ls A E hret w hl
  have E : Cx p R s m args meth c prog_17_method_22_code 2 "DrawingMachineModel$PlaceTestsModel" 0 D τ B A := E
  have hl : lv_has ls 2 [(0, .int x0)] := hl
  refine lv_iload_n E.x E.b d_Ptm_nearest_0 rfl (lv_at hl 0 rfl) ?_
  refine lv_if_ge (tgt := 8) E.x E.b d_Ptm_nearest_1 (by decide) (fun c => ?_) (fun c => ?_)
  ·
    replace h := ifT c h
    refine lv_iconst (v := 2) E.x E.b d_Ptm_nearest_8 (by decide) ?_
    refine lv_iload_n E.x E.b d_Ptm_nearest_9 rfl (lv_at hl 0 rfl) ?_
    refine lv_imul E.x E.b d_Ptm_nearest_10 ?_
    refine lv_sipush (v := 255) E.x E.b d_Ptm_nearest_11 (by decide) ?_
    refine lv_iadd E.x E.b d_Ptm_nearest_14 ?_
    refine lv_sipush (v := 510) E.x E.b d_Ptm_nearest_15 (by decide) ?_
    refine lv_idiv E.x E.b d_Ptm_nearest_18 (by decide) ?_
    exact bt_Ptm_nearest_19 E hret o (((2 * x0) + 255) / 510) h w (lv_sub hl [] rfl)
  ·
    replace h := ifF c h
    refine lv_iconst (v := 0) E.x E.b d_Ptm_nearest_4 (by decide) ?_
    refine lv_goto (tgt := 19) E.x E.b d_Ptm_nearest_5 (by decide) ?_
    exact bt_Ptm_nearest_19 E hret o 0 h w (lv_sub hl [] rfl)
theorem clS_Ptm_nearest {p : Program} {l : Launch} {e : Env} {R : Room} {s : State} {m : MethodId} {args : Array Value} {below : List Frame} {meth : Method} {c : Code} {H : Heap} {locs : List Loc} {Q : State → Prop} {cc : ByteArray} {nL pc lev : Nat} {own : String} {D : va_G} {τ : ClassId × ClassId × ClassId} {B : Nat} {A : Nat → Prop} {σ : Sg} {ad : Nat → Nat} {ls : Array Slot} {rest : List Value} (E : Cx p R s m args meth c cc nL own lev D τ B A) (w : Wd s D A (wdM τ σ ad) H locs) {x0 : Int32} {o : Int32} (h : F_Ptm_nearest x0 = some o) {index : Nat} (hlk : Cond.methodLink own index y_Ptm_nearest ∈ tw) (hlev : 0 < lev) (hsz : ls.size = nL) (hr : (rest.map fun v => v.category).sum ≤ 8) (hd : decode cc pc = .ok (.invokestatic index, 3)) (kk : ∀ (H1 : Heap) (locs1 : List Loc), Wd s D A (wdM τ σ ad) H1 locs1 → W p l e R s m args below meth c H1 locs1 0 0 Q (F0 m (pc + 3) ls (.int o :: rest))) : W p l e R s m args below meth c H locs 0 0 Q (F0 m pc ls (.int x0 :: rest)) :=
  cr_i w E.C (va_runS (As := [.int x0]) (rest := rest) E.fix (c_Ptm_nearest l D τ B σ ad x0 o h H.size) (va_cwS 1 E.w (tw_pre (tw_good k2476) (l := [_, _, _]) (List.forall_mem_cons.mpr ⟨hlk, List.forall_mem_cons.mpr ⟨k2475, List.forall_mem_cons.mpr ⟨k20, fun _ h => absurd h List.not_mem_nil⟩⟩⟩)) rfl rfl rfl (by decide +kernel) (E.rm hlev (by decide))) (wd_pre w E.C [.int x0]) rfl rfl hsz rfl (lv_room hr) hd ⟨Nat.zero_le _, Nat.zero_le _⟩) kk

theorem d_Ptm_blended_0 : decode prog_17_method_23_code 0 = .ok (.iload_n 1, 1) := by decide +kernel
theorem d_Ptm_blended_1 : decode prog_17_method_23_code 1 = .ok (.iconst 3, 1) := by decide +kernel
theorem d_Ptm_blended_2 : decode prog_17_method_23_code 2 = .ok (.if_icmp .ne 7, 3) := by decide +kernel
theorem d_Ptm_blended_5 : decode prog_17_method_23_code 5 = .ok (.iconst 2, 1) := by decide +kernel
theorem d_Ptm_blended_6 : decode prog_17_method_23_code 6 = .ok (.goto 4, 3) := by decide +kernel
theorem d_Ptm_blended_9 : decode prog_17_method_23_code 9 = .ok (.iconst 0, 1) := by decide +kernel
theorem d_Ptm_blended_10 : decode prog_17_method_23_code 10 = .ok (.istore_n 2, 1) := by decide +kernel
theorem d_Ptm_blended_11 : decode prog_17_method_23_code 11 = .ok (.iload_n 1, 1) := by decide +kernel
theorem d_Ptm_blended_12 : decode prog_17_method_23_code 12 = .ok (.iconst 3, 1) := by decide +kernel
theorem d_Ptm_blended_13 : decode prog_17_method_23_code 13 = .ok (.if_icmp .ne 10, 3) := by decide +kernel
theorem d_Ptm_blended_16 : decode prog_17_method_23_code 16 = .ok (.aload_n 0, 1) := by decide +kernel
theorem d_Ptm_blended_17 : decode prog_17_method_23_code 17 = .ok (.getfield 84, 3) := by decide +kernel
theorem d_Ptm_blended_20 : decode prog_17_method_23_code 20 = .ok (.goto 7, 3) := by decide +kernel
theorem d_Ptm_blended_23 : decode prog_17_method_23_code 23 = .ok (.aload_n 0, 1) := by decide +kernel
theorem d_Ptm_blended_24 : decode prog_17_method_23_code 24 = .ok (.getfield 39, 3) := by decide +kernel
theorem d_Ptm_blended_27 : decode prog_17_method_23_code 27 = .ok (.istore_n 3, 1) := by decide +kernel
theorem d_Ptm_blended_28 : decode prog_17_method_23_code 28 = .ok (.aload_n 0, 1) := by decide +kernel
theorem d_Ptm_blended_29 : decode prog_17_method_23_code 29 = .ok (.getfield 54, 3) := by decide +kernel
theorem d_Ptm_blended_32 : decode prog_17_method_23_code 32 = .ok (.iload_n 1, 1) := by decide +kernel
theorem d_Ptm_blended_33 : decode prog_17_method_23_code 33 = .ok (.iaload, 1) := by decide +kernel
theorem d_Ptm_blended_34 : decode prog_17_method_23_code 34 = .ok (.aload_n 0, 1) := by decide +kernel
theorem d_Ptm_blended_35 : decode prog_17_method_23_code 35 = .ok (.aload_n 0, 1) := by decide +kernel
theorem d_Ptm_blended_36 : decode prog_17_method_23_code 36 = .ok (.getfield 36, 3) := by decide +kernel
theorem d_Ptm_blended_39 : decode prog_17_method_23_code 39 = .ok (.iload_n 2, 1) := by decide +kernel
theorem d_Ptm_blended_40 : decode prog_17_method_23_code 40 = .ok (.iaload, 1) := by decide +kernel
theorem d_Ptm_blended_41 : decode prog_17_method_23_code 41 = .ok (.iload_n 1, 1) := by decide +kernel
theorem d_Ptm_blended_42 : decode prog_17_method_23_code 42 = .ok (.invokevirtual 108, 3) := by decide +kernel
theorem d_Ptm_blended_45 : decode prog_17_method_23_code 45 = .ok (.imul, 1) := by decide +kernel
theorem d_Ptm_blended_46 : decode prog_17_method_23_code 46 = .ok (.istore 4, 2) := by decide +kernel
theorem d_Ptm_blended_48 : decode prog_17_method_23_code 48 = .ok (.aload_n 0, 1) := by decide +kernel
theorem d_Ptm_blended_49 : decode prog_17_method_23_code 49 = .ok (.getfield 57, 3) := by decide +kernel
theorem d_Ptm_blended_52 : decode prog_17_method_23_code 52 = .ok (.iload_n 1, 1) := by decide +kernel
theorem d_Ptm_blended_53 : decode prog_17_method_23_code 53 = .ok (.iaload, 1) := by decide +kernel
theorem d_Ptm_blended_54 : decode prog_17_method_23_code 54 = .ok (.aload_n 0, 1) := by decide +kernel
theorem d_Ptm_blended_55 : decode prog_17_method_23_code 55 = .ok (.aload_n 0, 1) := by decide +kernel
theorem d_Ptm_blended_56 : decode prog_17_method_23_code 56 = .ok (.getfield 36, 3) := by decide +kernel
theorem d_Ptm_blended_59 : decode prog_17_method_23_code 59 = .ok (.iload_n 2, 1) := by decide +kernel
theorem d_Ptm_blended_60 : decode prog_17_method_23_code 60 = .ok (.iconst 1, 1) := by decide +kernel
theorem d_Ptm_blended_61 : decode prog_17_method_23_code 61 = .ok (.iadd, 1) := by decide +kernel
theorem d_Ptm_blended_62 : decode prog_17_method_23_code 62 = .ok (.iaload, 1) := by decide +kernel
theorem d_Ptm_blended_63 : decode prog_17_method_23_code 63 = .ok (.iload_n 1, 1) := by decide +kernel
theorem d_Ptm_blended_64 : decode prog_17_method_23_code 64 = .ok (.invokevirtual 108, 3) := by decide +kernel
theorem d_Ptm_blended_67 : decode prog_17_method_23_code 67 = .ok (.imul, 1) := by decide +kernel
theorem d_Ptm_blended_68 : decode prog_17_method_23_code 68 = .ok (.istore 5, 2) := by decide +kernel
theorem d_Ptm_blended_70 : decode prog_17_method_23_code 70 = .ok (.iload_n 3, 1) := by decide +kernel
theorem d_Ptm_blended_71 : decode prog_17_method_23_code 71 = .ok (.tableswitch 87 0 3 #[29, 38, 47, 56], 29) := by decide +kernel
theorem d_Ptm_blended_100 : decode prog_17_method_23_code 100 = .ok (.iload 4, 2) := by decide +kernel
theorem d_Ptm_blended_102 : decode prog_17_method_23_code 102 = .ok (.iload 5, 2) := by decide +kernel
theorem d_Ptm_blended_104 : decode prog_17_method_23_code 104 = .ok (.iadd, 1) := by decide +kernel
theorem d_Ptm_blended_105 : decode prog_17_method_23_code 105 = .ok (.invokestatic 111, 3) := by decide +kernel
theorem d_Ptm_blended_108 : decode prog_17_method_23_code 108 = .ok (.ireturn, 1) := by decide +kernel
theorem d_Ptm_blended_109 : decode prog_17_method_23_code 109 = .ok (.iload 4, 2) := by decide +kernel
theorem d_Ptm_blended_111 : decode prog_17_method_23_code 111 = .ok (.iload 5, 2) := by decide +kernel
theorem d_Ptm_blended_113 : decode prog_17_method_23_code 113 = .ok (.isub, 1) := by decide +kernel
theorem d_Ptm_blended_114 : decode prog_17_method_23_code 114 = .ok (.invokestatic 111, 3) := by decide +kernel
theorem d_Ptm_blended_117 : decode prog_17_method_23_code 117 = .ok (.ireturn, 1) := by decide +kernel
theorem d_Ptm_blended_118 : decode prog_17_method_23_code 118 = .ok (.iload 5, 2) := by decide +kernel
theorem d_Ptm_blended_120 : decode prog_17_method_23_code 120 = .ok (.iload 4, 2) := by decide +kernel
theorem d_Ptm_blended_122 : decode prog_17_method_23_code 122 = .ok (.isub, 1) := by decide +kernel
theorem d_Ptm_blended_123 : decode prog_17_method_23_code 123 = .ok (.invokestatic 111, 3) := by decide +kernel
theorem d_Ptm_blended_126 : decode prog_17_method_23_code 126 = .ok (.ireturn, 1) := by decide +kernel
theorem d_Ptm_blended_127 : decode prog_17_method_23_code 127 = .ok (.aload_n 0, 1) := by decide +kernel
theorem d_Ptm_blended_128 : decode prog_17_method_23_code 128 = .ok (.getfield 54, 3) := by decide +kernel
theorem d_Ptm_blended_131 : decode prog_17_method_23_code 131 = .ok (.iload_n 1, 1) := by decide +kernel
theorem d_Ptm_blended_132 : decode prog_17_method_23_code 132 = .ok (.iaload, 1) := by decide +kernel
theorem d_Ptm_blended_133 : decode prog_17_method_23_code 133 = .ok (.aload_n 0, 1) := by decide +kernel
theorem d_Ptm_blended_134 : decode prog_17_method_23_code 134 = .ok (.getfield 57, 3) := by decide +kernel
theorem d_Ptm_blended_137 : decode prog_17_method_23_code 137 = .ok (.iload_n 1, 1) := by decide +kernel
theorem d_Ptm_blended_138 : decode prog_17_method_23_code 138 = .ok (.iaload, 1) := by decide +kernel
theorem d_Ptm_blended_139 : decode prog_17_method_23_code 139 = .ok (.if_icmp .ge 12, 3) := by decide +kernel
theorem d_Ptm_blended_142 : decode prog_17_method_23_code 142 = .ok (.aload_n 0, 1) := by decide +kernel
theorem d_Ptm_blended_143 : decode prog_17_method_23_code 143 = .ok (.getfield 54, 3) := by decide +kernel
theorem d_Ptm_blended_146 : decode prog_17_method_23_code 146 = .ok (.iload_n 1, 1) := by decide +kernel
theorem d_Ptm_blended_147 : decode prog_17_method_23_code 147 = .ok (.iaload, 1) := by decide +kernel
theorem d_Ptm_blended_148 : decode prog_17_method_23_code 148 = .ok (.goto 9, 3) := by decide +kernel
theorem d_Ptm_blended_151 : decode prog_17_method_23_code 151 = .ok (.aload_n 0, 1) := by decide +kernel
theorem d_Ptm_blended_152 : decode prog_17_method_23_code 152 = .ok (.getfield 57, 3) := by decide +kernel
theorem d_Ptm_blended_155 : decode prog_17_method_23_code 155 = .ok (.iload_n 1, 1) := by decide +kernel
theorem d_Ptm_blended_156 : decode prog_17_method_23_code 156 = .ok (.iaload, 1) := by decide +kernel
theorem d_Ptm_blended_157 : decode prog_17_method_23_code 157 = .ok (.ireturn, 1) := by decide +kernel
theorem d_Ptm_blended_158 : decode prog_17_method_23_code 158 = .ok (.aload_n 0, 1) := by decide +kernel
theorem d_Ptm_blended_159 : decode prog_17_method_23_code 159 = .ok (.getfield 54, 3) := by decide +kernel
theorem d_Ptm_blended_162 : decode prog_17_method_23_code 162 = .ok (.iload_n 1, 1) := by decide +kernel
theorem d_Ptm_blended_163 : decode prog_17_method_23_code 163 = .ok (.iaload, 1) := by decide +kernel
theorem d_Ptm_blended_164 : decode prog_17_method_23_code 164 = .ok (.aload_n 0, 1) := by decide +kernel
theorem d_Ptm_blended_165 : decode prog_17_method_23_code 165 = .ok (.getfield 57, 3) := by decide +kernel
theorem d_Ptm_blended_168 : decode prog_17_method_23_code 168 = .ok (.iload_n 1, 1) := by decide +kernel
theorem d_Ptm_blended_169 : decode prog_17_method_23_code 169 = .ok (.iaload, 1) := by decide +kernel
theorem d_Ptm_blended_170 : decode prog_17_method_23_code 170 = .ok (.if_icmp .le 12, 3) := by decide +kernel
theorem d_Ptm_blended_173 : decode prog_17_method_23_code 173 = .ok (.aload_n 0, 1) := by decide +kernel
theorem d_Ptm_blended_174 : decode prog_17_method_23_code 174 = .ok (.getfield 54, 3) := by decide +kernel
theorem d_Ptm_blended_177 : decode prog_17_method_23_code 177 = .ok (.iload_n 1, 1) := by decide +kernel
theorem d_Ptm_blended_178 : decode prog_17_method_23_code 178 = .ok (.iaload, 1) := by decide +kernel
theorem d_Ptm_blended_179 : decode prog_17_method_23_code 179 = .ok (.goto 9, 3) := by decide +kernel
theorem d_Ptm_blended_182 : decode prog_17_method_23_code 182 = .ok (.aload_n 0, 1) := by decide +kernel
theorem d_Ptm_blended_183 : decode prog_17_method_23_code 183 = .ok (.getfield 57, 3) := by decide +kernel
theorem d_Ptm_blended_186 : decode prog_17_method_23_code 186 = .ok (.iload_n 1, 1) := by decide +kernel
theorem d_Ptm_blended_187 : decode prog_17_method_23_code 187 = .ok (.iaload, 1) := by decide +kernel
theorem d_Ptm_blended_188 : decode prog_17_method_23_code 188 = .ok (.ireturn, 1) := by decide +kernel
def F_Ptm_blended_188 (σ : Sg) (s0 : Int32) : Option (Int32) := some s0
set_option maxRecDepth 10000 in
set_option maxHeartbeats 4000000 in
theorem bt_Ptm_blended_188 {p : Program} {l : Launch} {e : Env} {R : Room} {s : State} {m : MethodId} {args : Array Value} {below : List Frame} {meth : Method} {c : Code} {D : va_G} {τ : ClassId × ClassId × ClassId} {B : Nat} {A : Nat → Prop} {ad : Nat → Nat} (E : Cx p R s m args meth c prog_17_method_23_code 6 "DrawingMachineModel$PlaceTestsModel" 1 D τ B A) (hret : meth.sig.returnType = (some .int)) (o : Int32) (σ : Sg) (s0 : Int32) (h : F_Ptm_blended_188 σ s0 = some o) {H : Heap} {locs : List Loc} {ls : Array Slot} (w : Wd s D A (wdM τ σ ad) H locs) (hl : lv_has ls 6 []) : W p l e R s m args below meth c H locs 0 0 (QI below args s A D τ (wdM τ σ ad) o) (F0 m 188 ls [.int s0]) := by
  obtain rfl := Option.some.inj h
  exact rt_i E w hret d_Ptm_blended_188
def F_Ptm_blended_157 (σ : Sg) (s0 : Int32) : Option (Int32) := some s0
set_option maxRecDepth 10000 in
set_option maxHeartbeats 4000000 in
theorem bt_Ptm_blended_157 {p : Program} {l : Launch} {e : Env} {R : Room} {s : State} {m : MethodId} {args : Array Value} {below : List Frame} {meth : Method} {c : Code} {D : va_G} {τ : ClassId × ClassId × ClassId} {B : Nat} {A : Nat → Prop} {ad : Nat → Nat} (E : Cx p R s m args meth c prog_17_method_23_code 6 "DrawingMachineModel$PlaceTestsModel" 1 D τ B A) (hret : meth.sig.returnType = (some .int)) (o : Int32) (σ : Sg) (s0 : Int32) (h : F_Ptm_blended_157 σ s0 = some o) {H : Heap} {locs : List Loc} {ls : Array Slot} (w : Wd s D A (wdM τ σ ad) H locs) (hl : lv_has ls 6 []) : W p l e R s m args below meth c H locs 0 0 (QI below args s A D τ (wdM τ σ ad) o) (F0 m 157 ls [.int s0]) := by
  obtain rfl := Option.some.inj h
  exact rt_i E w hret d_Ptm_blended_157
def F_Ptm_blended_27 (σ : Sg) (v1 : Int32) (v2 : Int32) (s0 : Int32) : Option (Int32) := ck (inb v1 4) (ck (inb v2 4) (bd (F_Ptm_factor σ (σ.2.2.1 50 v2.toNatClampNeg) v1) (fun o26 => lt ((σ.2.2.1 53 v1.toNatClampNeg) * o26) (fun y27 => ck (inb v1 4) (ck (inb (v2 + 1) 4) (bd (F_Ptm_factor σ (σ.2.2.1 50 (v2 + 1).toNatClampNeg) v1) (fun o30 => lt ((σ.2.2.1 54 v1.toNatClampNeg) * o30) (fun y31 => if s0 = 0 then (bd (F_Ptm_nearest (y27 + y31)) (fun o33 => some o33)) else (if s0 = 1 then (bd (F_Ptm_nearest (y27 - y31)) (fun o35 => some o35)) else (if s0 = 2 then (bd (F_Ptm_nearest (y31 - y27)) (fun o37 => some o37)) else (if s0 = 3 then (ck (inb v1 4) (ck (inb v1 4) (if (σ.2.2.1 54 v1.toNatClampNeg) ≤ (σ.2.2.1 53 v1.toNatClampNeg) then (ck (inb v1 4) (F_Ptm_blended_157 σ (σ.2.2.1 54 v1.toNatClampNeg))) else (ck (inb v1 4) (F_Ptm_blended_157 σ (σ.2.2.1 53 v1.toNatClampNeg)))))) else (ck (inb v1 4) (ck (inb v1 4) (if (σ.2.2.1 53 v1.toNatClampNeg) ≤ (σ.2.2.1 54 v1.toNatClampNeg) then (ck (inb v1 4) (F_Ptm_blended_188 σ (σ.2.2.1 54 v1.toNatClampNeg))) else (ck (inb v1 4) (F_Ptm_blended_188 σ (σ.2.2.1 53 v1.toNatClampNeg)))))))))))))))))
set_option maxRecDepth 10000 in
set_option maxHeartbeats 4000000 in
theorem bt_Ptm_blended_27 {p : Program} {l : Launch} {e : Env} {R : Room} {s : State} {m : MethodId} {args : Array Value} {below : List Frame} {meth : Method} {c : Code} {D : va_G} {τ : ClassId × ClassId × ClassId} {B : Nat} {A : Nat → Prop} {ad : Nat → Nat} (E : Cx p R s m args meth c prog_17_method_23_code 6 "DrawingMachineModel$PlaceTestsModel" 1 D τ B A) (hret : meth.sig.returnType = (some .int)) (o : Int32) (σ : Sg) (v1 : Int32) (v2 : Int32) (s0 : Int32) (h : F_Ptm_blended_27 σ v1 v2 s0 = some o) {H : Heap} {locs : List Loc} {ls : Array Slot} (w : Wd s D A (wdM τ σ ad) H locs) (hl : lv_has ls 6 [(0, .ref (ad 64)), (1, .int v1), (2, .int v2)]) : W p l e R s m args below meth c H locs 0 0 (QI below args s A D τ (wdM τ σ ad) o) (F0 m 27 ls [.int s0]) := by
  refine lv_istore_n (lv' := [(3, .int s0), (0, .ref (ad 64)), (1, .int v1), (2, .int v2)]) E.x E.b d_Ptm_blended_27 rfl hl (by decide) rfl (fun ls hl => ?_)
  refine lv_aload_n E.x E.b d_Ptm_blended_28 rfl (lv_at hl 1 rfl) ?_
  refine gM_Ptm_s E w k1718 d_Ptm_blended_29 ?_
  refine lv_iload_n E.x E.b d_Ptm_blended_32 rfl (lv_at hl 2 rfl) ?_
  obtain ⟨c24, h⟩ := ck_some h
  refine ialM E w (k := 53) (by decide) c24 d_Ptm_blended_33 ?_
  refine lv_aload_n E.x E.b d_Ptm_blended_34 rfl (lv_at hl 1 rfl) ?_
  refine lv_aload_n E.x E.b d_Ptm_blended_35 rfl (lv_at hl 1 rfl) ?_
  refine gM_Ptm_factors E w k1711 d_Ptm_blended_36 ?_
  refine lv_iload_n E.x E.b d_Ptm_blended_39 rfl (lv_at hl 3 rfl) ?_
  obtain ⟨c25, h⟩ := ck_some h
  refine ialM E w (k := 50) (by decide) c25 d_Ptm_blended_40 ?_
  refine lv_iload_n E.x E.b d_Ptm_blended_41 rfl (lv_at hl 2 rfl) ?_
  obtain ⟨o26, h_o26, h⟩ := bd_some h
  refine clV_Ptm_factor E w (x0 := (σ.2.2.1 50 v2.toNatClampNeg)) (x1 := v1) h_o26 k2470 (by decide) hl.1 (Nat.le_of_ble_eq_true rfl) d_Ptm_blended_42 (fun H locs w => ?_)
  refine lv_imul E.x E.b d_Ptm_blended_45 ?_
  obtain ⟨y27, e_y27, h⟩ := lt_some h
  refine wi_e (v := y27) e_y27 ?_
  refine lv_istore (lv' := [(4, .int y27), (3, .int s0), (0, .ref (ad 64)), (1, .int v1), (2, .int v2)]) E.x E.b d_Ptm_blended_46 hl (by decide) rfl (fun ls hl => ?_)
  refine lv_aload_n E.x E.b d_Ptm_blended_48 rfl (lv_at hl 2 rfl) ?_
  refine gM_Ptm_d E w k1719 d_Ptm_blended_49 ?_
  refine lv_iload_n E.x E.b d_Ptm_blended_52 rfl (lv_at hl 3 rfl) ?_
  obtain ⟨c28, h⟩ := ck_some h
  refine ialM E w (k := 54) (by decide) c28 d_Ptm_blended_53 ?_
  refine lv_aload_n E.x E.b d_Ptm_blended_54 rfl (lv_at hl 2 rfl) ?_
  refine lv_aload_n E.x E.b d_Ptm_blended_55 rfl (lv_at hl 2 rfl) ?_
  refine gM_Ptm_factors E w k1711 d_Ptm_blended_56 ?_
  refine lv_iload_n E.x E.b d_Ptm_blended_59 rfl (lv_at hl 4 rfl) ?_
  refine lv_iconst (v := 1) E.x E.b d_Ptm_blended_60 (by decide) ?_
  refine lv_iadd E.x E.b d_Ptm_blended_61 ?_
  obtain ⟨c29, h⟩ := ck_some h
  refine ialM E w (k := 50) (by decide) c29 d_Ptm_blended_62 ?_
  refine lv_iload_n E.x E.b d_Ptm_blended_63 rfl (lv_at hl 3 rfl) ?_
  obtain ⟨o30, h_o30, h⟩ := bd_some h
  refine clV_Ptm_factor E w (x0 := (σ.2.2.1 50 (v2 + 1).toNatClampNeg)) (x1 := v1) h_o30 k2470 (by decide) hl.1 (Nat.le_of_ble_eq_true rfl) d_Ptm_blended_64 (fun H locs w => ?_)
  refine lv_imul E.x E.b d_Ptm_blended_67 ?_
  obtain ⟨y31, e_y31, h⟩ := lt_some h
  refine wi_e (v := y31) e_y31 ?_
  refine lv_istore (lv' := [(5, .int y31), (4, .int y27), (3, .int s0), (0, .ref (ad 64)), (1, .int v1), (2, .int v2)]) E.x E.b d_Ptm_blended_68 hl (by decide) rfl (fun ls hl => ?_)
  refine lv_iload_n E.x E.b d_Ptm_blended_70 rfl (lv_at hl 2 rfl) ?_
  by_cases q32 : s0 = 0
  ·
    replace h := ifT q32 h
    refine wi_e (v := 0) q32 ?_
    refine lv_tableIn (off := 29) (tgt := 100) E.x E.b d_Ptm_blended_71 (by decide) (by decide) (by decide) (by decide) ?_
    refine lv_iload E.x E.b d_Ptm_blended_100 (lv_at hl 1 rfl) ?_
    refine lv_iload E.x E.b d_Ptm_blended_102 (lv_at hl 0 rfl) ?_
    refine lv_iadd E.x E.b d_Ptm_blended_104 ?_
    obtain ⟨o33, h_o33, h⟩ := bd_some h
    refine clS_Ptm_nearest E w (x0 := (y27 + y31)) h_o33 k2474 (by decide) hl.1 (Nat.le_of_ble_eq_true rfl) d_Ptm_blended_105 (fun H locs w => ?_)
    obtain rfl := Option.some.inj h
    exact rt_i E w hret d_Ptm_blended_108
  replace h := ifF q32 h
  replace q32 := ne_ti (k := 0) (by decide) q32
  by_cases q34 : s0 = 1
  ·
    replace h := ifT q34 h
    refine wi_e (v := 1) q34 ?_
    refine lv_tableIn (off := 38) (tgt := 109) E.x E.b d_Ptm_blended_71 (by decide) (by decide) (by decide) (by decide) ?_
    refine lv_iload E.x E.b d_Ptm_blended_109 (lv_at hl 1 rfl) ?_
    refine lv_iload E.x E.b d_Ptm_blended_111 (lv_at hl 0 rfl) ?_
    refine lv_isub E.x E.b d_Ptm_blended_113 ?_
    obtain ⟨o35, h_o35, h⟩ := bd_some h
    refine clS_Ptm_nearest E w (x0 := (y27 - y31)) h_o35 k2474 (by decide) hl.1 (Nat.le_of_ble_eq_true rfl) d_Ptm_blended_114 (fun H locs w => ?_)
    obtain rfl := Option.some.inj h
    exact rt_i E w hret d_Ptm_blended_117
  replace h := ifF q34 h
  replace q34 := ne_ti (k := 1) (by decide) q34
  by_cases q36 : s0 = 2
  ·
    replace h := ifT q36 h
    refine wi_e (v := 2) q36 ?_
    refine lv_tableIn (off := 47) (tgt := 118) E.x E.b d_Ptm_blended_71 (by decide) (by decide) (by decide) (by decide) ?_
    refine lv_iload E.x E.b d_Ptm_blended_118 (lv_at hl 0 rfl) ?_
    refine lv_iload E.x E.b d_Ptm_blended_120 (lv_at hl 1 rfl) ?_
    refine lv_isub E.x E.b d_Ptm_blended_122 ?_
    obtain ⟨o37, h_o37, h⟩ := bd_some h
    refine clS_Ptm_nearest E w (x0 := (y31 - y27)) h_o37 k2474 (by decide) hl.1 (Nat.le_of_ble_eq_true rfl) d_Ptm_blended_123 (fun H locs w => ?_)
    obtain rfl := Option.some.inj h
    exact rt_i E w hret d_Ptm_blended_126
  replace h := ifF q36 h
  replace q36 := ne_ti (k := 2) (by decide) q36
  by_cases q38 : s0 = 3
  ·
    replace h := ifT q38 h
    refine wi_e (v := 3) q38 ?_
    refine lv_tableIn (off := 56) (tgt := 127) E.x E.b d_Ptm_blended_71 (by decide) (by decide) (by decide) (by decide) ?_
    refine lv_aload_n E.x E.b d_Ptm_blended_127 rfl (lv_at hl 3 rfl) ?_
    refine gM_Ptm_s E w k1718 d_Ptm_blended_128 ?_
    refine lv_iload_n E.x E.b d_Ptm_blended_131 rfl (lv_at hl 4 rfl) ?_
    obtain ⟨c39, h⟩ := ck_some h
    refine ialM E w (k := 53) (by decide) c39 d_Ptm_blended_132 ?_
    refine lv_aload_n E.x E.b d_Ptm_blended_133 rfl (lv_at hl 3 rfl) ?_
    refine gM_Ptm_d E w k1719 d_Ptm_blended_134 ?_
    refine lv_iload_n E.x E.b d_Ptm_blended_137 rfl (lv_at hl 4 rfl) ?_
    obtain ⟨c40, h⟩ := ck_some h
    refine ialM E w (k := 54) (by decide) c40 d_Ptm_blended_138 ?_
    refine lv_icmp_ge (tgt := 151) E.x E.b d_Ptm_blended_139 (by decide) (fun c => ?_) (fun c => ?_)
    ·
      replace h := ifT c h
      refine lv_aload_n E.x E.b d_Ptm_blended_151 rfl (lv_at hl 3 rfl) ?_
      refine gM_Ptm_d E w k1719 d_Ptm_blended_152 ?_
      refine lv_iload_n E.x E.b d_Ptm_blended_155 rfl (lv_at hl 4 rfl) ?_
      obtain ⟨c41, h⟩ := ck_some h
      refine ialM E w (k := 54) (by decide) c41 d_Ptm_blended_156 ?_
      exact bt_Ptm_blended_157 E hret o σ (σ.2.2.1 54 v1.toNatClampNeg) h w (lv_sub hl [] rfl)
    ·
      replace h := ifF c h
      refine lv_aload_n E.x E.b d_Ptm_blended_142 rfl (lv_at hl 3 rfl) ?_
      refine gM_Ptm_s E w k1718 d_Ptm_blended_143 ?_
      refine lv_iload_n E.x E.b d_Ptm_blended_146 rfl (lv_at hl 4 rfl) ?_
      obtain ⟨c42, h⟩ := ck_some h
      refine ialM E w (k := 53) (by decide) c42 d_Ptm_blended_147 ?_
      refine lv_goto (tgt := 157) E.x E.b d_Ptm_blended_148 (by decide) ?_
      exact bt_Ptm_blended_157 E hret o σ (σ.2.2.1 53 v1.toNatClampNeg) h w (lv_sub hl [] rfl)
  replace h := ifF q38 h
  replace q38 := ne_ti (k := 3) (by decide) q38
  refine lv_tableOut (tgt := 158) E.x E.b d_Ptm_blended_71 (by omega) (by decide) ?_
  refine lv_aload_n E.x E.b d_Ptm_blended_158 rfl (lv_at hl 3 rfl) ?_
  refine gM_Ptm_s E w k1718 d_Ptm_blended_159 ?_
  refine lv_iload_n E.x E.b d_Ptm_blended_162 rfl (lv_at hl 4 rfl) ?_
  obtain ⟨c43, h⟩ := ck_some h
  refine ialM E w (k := 53) (by decide) c43 d_Ptm_blended_163 ?_
  refine lv_aload_n E.x E.b d_Ptm_blended_164 rfl (lv_at hl 3 rfl) ?_
  refine gM_Ptm_d E w k1719 d_Ptm_blended_165 ?_
  refine lv_iload_n E.x E.b d_Ptm_blended_168 rfl (lv_at hl 4 rfl) ?_
  obtain ⟨c44, h⟩ := ck_some h
  refine ialM E w (k := 54) (by decide) c44 d_Ptm_blended_169 ?_
  refine lv_icmp_le (tgt := 182) E.x E.b d_Ptm_blended_170 (by decide) (fun c => ?_) (fun c => ?_)
  ·
    replace h := ifT c h
    refine lv_aload_n E.x E.b d_Ptm_blended_182 rfl (lv_at hl 3 rfl) ?_
    refine gM_Ptm_d E w k1719 d_Ptm_blended_183 ?_
    refine lv_iload_n E.x E.b d_Ptm_blended_186 rfl (lv_at hl 4 rfl) ?_
    obtain ⟨c45, h⟩ := ck_some h
    refine ialM E w (k := 54) (by decide) c45 d_Ptm_blended_187 ?_
    exact bt_Ptm_blended_188 E hret o σ (σ.2.2.1 54 v1.toNatClampNeg) h w (lv_sub hl [] rfl)
  ·
    replace h := ifF c h
    refine lv_aload_n E.x E.b d_Ptm_blended_173 rfl (lv_at hl 3 rfl) ?_
    refine gM_Ptm_s E w k1718 d_Ptm_blended_174 ?_
    refine lv_iload_n E.x E.b d_Ptm_blended_177 rfl (lv_at hl 4 rfl) ?_
    obtain ⟨c46, h⟩ := ck_some h
    refine ialM E w (k := 53) (by decide) c46 d_Ptm_blended_178 ?_
    refine lv_goto (tgt := 188) E.x E.b d_Ptm_blended_179 (by decide) ?_
    exact bt_Ptm_blended_188 E hret o σ (σ.2.2.1 53 v1.toNatClampNeg) h w (lv_sub hl [] rfl)
def F_Ptm_blended_10 (σ : Sg) (v1 : Int32) (s0 : Int32) : Option (Int32) := if v1 = 3 then (F_Ptm_blended_27 σ v1 s0 (σ.1 37)) else (F_Ptm_blended_27 σ v1 s0 (σ.1 36))
set_option maxRecDepth 10000 in
set_option maxHeartbeats 4000000 in
theorem bt_Ptm_blended_10 {p : Program} {l : Launch} {e : Env} {R : Room} {s : State} {m : MethodId} {args : Array Value} {below : List Frame} {meth : Method} {c : Code} {D : va_G} {τ : ClassId × ClassId × ClassId} {B : Nat} {A : Nat → Prop} {ad : Nat → Nat} (E : Cx p R s m args meth c prog_17_method_23_code 6 "DrawingMachineModel$PlaceTestsModel" 1 D τ B A) (hret : meth.sig.returnType = (some .int)) (o : Int32) (σ : Sg) (v1 : Int32) (s0 : Int32) (h : F_Ptm_blended_10 σ v1 s0 = some o) {H : Heap} {locs : List Loc} {ls : Array Slot} (w : Wd s D A (wdM τ σ ad) H locs) (hl : lv_has ls 6 [(0, .ref (ad 64)), (1, .int v1)]) : W p l e R s m args below meth c H locs 0 0 (QI below args s A D τ (wdM τ σ ad) o) (F0 m 10 ls [.int s0]) := by
  refine lv_istore_n (lv' := [(2, .int s0), (0, .ref (ad 64)), (1, .int v1)]) E.x E.b d_Ptm_blended_10 rfl hl (by decide) rfl (fun ls hl => ?_)
  refine lv_iload_n E.x E.b d_Ptm_blended_11 rfl (lv_at hl 2 rfl) ?_
  refine lv_iconst (v := 3) E.x E.b d_Ptm_blended_12 (by decide) ?_
  refine lv_icmp_ne (tgt := 23) E.x E.b d_Ptm_blended_13 (by decide) (fun c => ?_) (fun c => ?_)
  ·
    replace h := ifF c h
    refine lv_aload_n E.x E.b d_Ptm_blended_23 rfl (lv_at hl 1 rfl) ?_
    refine gM_Ptm_equation E w k1712 d_Ptm_blended_24 ?_
    exact bt_Ptm_blended_27 E hret o σ v1 s0 (σ.1 36) h w (lv_sub hl [1, 2, 0] rfl)
  ·
    replace h := ifT c h
    refine lv_aload_n E.x E.b d_Ptm_blended_16 rfl (lv_at hl 1 rfl) ?_
    refine gM_Ptm_equationA E w k1713 d_Ptm_blended_17 ?_
    refine lv_goto (tgt := 27) E.x E.b d_Ptm_blended_20 (by decide) ?_
    exact bt_Ptm_blended_27 E hret o σ v1 s0 (σ.1 37) h w (lv_sub hl [1, 2, 0] rfl)
def F_Ptm_blended (σ : Sg) (x0 : Int32) : Option (Int32) := if x0 = 3 then (F_Ptm_blended_10 σ x0 2) else (F_Ptm_blended_10 σ x0 0)
set_option maxRecDepth 10000 in
set_option maxHeartbeats 4000000 in
theorem c_Ptm_blended (l : Launch) (D : va_G) (τ : ClassId × ClassId × ClassId) (B : Nat) (σ : Sg) (ad : Nat → Nat) (x0 : Int32) (o : Int32) (h : F_Ptm_blended σ x0 = some o) : MI l y_Ptm_blended (Cond.code y_Ptm_blended prog_17_method_23_code 6 (some .int)) 1 D τ B [.ref (ad 64), .int x0] (wdM τ σ ad) (wdM τ σ ad) o := by
  refine en_i (by decide) (Nat.le_of_ble_eq_true rfl) ?_
  intro p e R s m args below meth c H locs ls A E hret w hl
  have E : Cx p R s m args meth c prog_17_method_23_code 6 "DrawingMachineModel$PlaceTestsModel" 1 D τ B A := E
  have hl : lv_has ls 6 [(0, .ref (ad 64)), (1, .int x0)] := hl
  refine lv_iload_n E.x E.b d_Ptm_blended_0 rfl (lv_at hl 1 rfl) ?_
  refine lv_iconst (v := 3) E.x E.b d_Ptm_blended_1 (by decide) ?_
  refine lv_icmp_ne (tgt := 9) E.x E.b d_Ptm_blended_2 (by decide) (fun c => ?_) (fun c => ?_)
  ·
    replace h := ifF c h
    refine lv_iconst (v := 0) E.x E.b d_Ptm_blended_9 (by decide) ?_
    exact bt_Ptm_blended_10 E hret o σ x0 0 h w (lv_sub hl [0, 1] rfl)
  ·
    replace h := ifT c h
    refine lv_iconst (v := 2) E.x E.b d_Ptm_blended_5 (by decide) ?_
    refine lv_goto (tgt := 10) E.x E.b d_Ptm_blended_6 (by decide) ?_
    exact bt_Ptm_blended_10 E hret o σ x0 2 h w (lv_sub hl [0, 1] rfl)
theorem clV_Ptm_blended {p : Program} {l : Launch} {e : Env} {R : Room} {s : State} {m : MethodId} {args : Array Value} {below : List Frame} {meth : Method} {c : Code} {H : Heap} {locs : List Loc} {Q : State → Prop} {cc : ByteArray} {nL pc lev : Nat} {own : String} {D : va_G} {τ : ClassId × ClassId × ClassId} {B : Nat} {A : Nat → Prop} {σ : Sg} {ad : Nat → Nat} {ls : Array Slot} {rest : List Value} (E : Cx p R s m args meth c cc nL own lev D τ B A) (w : Wd s D A (wdM τ σ ad) H locs) {x0 : Int32} {o : Int32} (h : F_Ptm_blended σ x0 = some o) {index : Nat} (hlk : Cond.methodLink own index y_Ptm_blended ∈ tw) (hlev : 1 < lev) (hsz : ls.size = nL) (hr : (rest.map fun v => v.category).sum ≤ 8) (hd : decode cc pc = .ok (.invokevirtual index, 3)) (kk : ∀ (H1 : Heap) (locs1 : List Loc), Wd s D A (wdM τ σ ad) H1 locs1 → W p l e R s m args below meth c H1 locs1 0 0 Q (F0 m (pc + 3) ls (.int o :: rest))) : W p l e R s m args below meth c H locs 0 0 Q (F0 m pc ls (.int x0 :: .ref (ad 64) :: rest)) :=
  cr_i w E.C (va_runV (As := [.int x0]) (rest := rest) E.fix (c_Ptm_blended l D τ B σ ad x0 o h H.size) (cwV 1 E.w (tw_pre (tw_good k2469) (l := [_, _, _, _]) (List.forall_mem_cons.mpr ⟨hlk, List.forall_mem_cons.mpr ⟨k2468, List.forall_mem_cons.mpr ⟨ks113, List.forall_mem_cons.mpr ⟨k20, fun _ h => absurd h List.not_mem_nil⟩⟩⟩⟩)) rfl rfl rfl (by decide +kernel) (E.rm hlev (by decide))) (wd_preV w E.C [.int x0] rcM_Ptm rfl) rfl rfl hsz rfl (lv_room hr) hd ⟨Nat.zero_le _, Nat.zero_le _⟩) kk

theorem d_Ptm_byteOf_0 : decode prog_17_method_20_code 0 = .ok (.iload_n 0, 1) := by decide +kernel
theorem d_Ptm_byteOf_1 : decode prog_17_method_20_code 1 = .ok (.ifCond .ge 7, 3) := by decide +kernel
theorem d_Ptm_byteOf_4 : decode prog_17_method_20_code 4 = .ok (.iconst 0, 1) := by decide +kernel
theorem d_Ptm_byteOf_5 : decode prog_17_method_20_code 5 = .ok (.goto 15, 3) := by decide +kernel
theorem d_Ptm_byteOf_8 : decode prog_17_method_20_code 8 = .ok (.iload_n 0, 1) := by decide +kernel
theorem d_Ptm_byteOf_9 : decode prog_17_method_20_code 9 = .ok (.ldc 16, 2) := by decide +kernel
theorem d_Ptm_byteOf_11 : decode prog_17_method_20_code 11 = .ok (.if_icmp .le 8, 3) := by decide +kernel
theorem d_Ptm_byteOf_14 : decode prog_17_method_20_code 14 = .ok (.ldc 16, 2) := by decide +kernel
theorem d_Ptm_byteOf_16 : decode prog_17_method_20_code 16 = .ok (.goto 4, 3) := by decide +kernel
theorem d_Ptm_byteOf_19 : decode prog_17_method_20_code 19 = .ok (.iload_n 0, 1) := by decide +kernel
theorem d_Ptm_byteOf_20 : decode prog_17_method_20_code 20 = .ok (.istore_n 1, 1) := by decide +kernel
theorem d_Ptm_byteOf_21 : decode prog_17_method_20_code 21 = .ok (.sipush 255, 3) := by decide +kernel
theorem d_Ptm_byteOf_24 : decode prog_17_method_20_code 24 = .ok (.iload_n 1, 1) := by decide +kernel
theorem d_Ptm_byteOf_25 : decode prog_17_method_20_code 25 = .ok (.imul, 1) := by decide +kernel
theorem d_Ptm_byteOf_26 : decode prog_17_method_20_code 26 = .ok (.ldc 107, 2) := by decide +kernel
theorem d_Ptm_byteOf_28 : decode prog_17_method_20_code 28 = .ok (.iadd, 1) := by decide +kernel
theorem d_Ptm_byteOf_29 : decode prog_17_method_20_code 29 = .ok (.ldc 16, 2) := by decide +kernel
theorem d_Ptm_byteOf_31 : decode prog_17_method_20_code 31 = .ok (.idiv, 1) := by decide +kernel
theorem d_Ptm_byteOf_32 : decode prog_17_method_20_code 32 = .ok (.ireturn, 1) := by decide +kernel
def F_Ptm_byteOf_20  (s0 : Int32) : Option (Int32) := some (((255 * s0) + 32768) / 65536)
set_option maxRecDepth 10000 in
set_option maxHeartbeats 4000000 in
theorem bt_Ptm_byteOf_20 {p : Program} {l : Launch} {e : Env} {R : Room} {s : State} {m : MethodId} {args : Array Value} {below : List Frame} {meth : Method} {c : Code} {D : va_G} {τ : ClassId × ClassId × ClassId} {B : Nat} {A : Nat → Prop} {ad : Nat → Nat} {σ0 : Sg} (E : Cx p R s m args meth c prog_17_method_20_code 2 "DrawingMachineModel$PlaceTestsModel" 0 D τ B A) (hret : meth.sig.returnType = (some .int)) (o : Int32) (s0 : Int32) (h : F_Ptm_byteOf_20 s0 = some o) {H : Heap} {locs : List Loc} {ls : Array Slot} (w : Wd s D A (wdM τ σ0 ad) H locs) (hl : lv_has ls 2 []) : W p l e R s m args below meth c H locs 0 0 (QI below args s A D τ (wdM τ σ0 ad) o) (F0 m 20 ls [.int s0]) := by
  refine lv_istore_n (lv' := [(1, .int s0)]) E.x E.b d_Ptm_byteOf_20 rfl hl (by decide) rfl (fun ls hl => ?_)
  refine lv_sipush (v := 255) E.x E.b d_Ptm_byteOf_21 (by decide) ?_
  refine lv_iload_n E.x E.b d_Ptm_byteOf_24 rfl (lv_at hl 0 rfl) ?_
  refine lv_imul E.x E.b d_Ptm_byteOf_25 ?_
  refine lv_ldc (v := 32768) E.x E.b E.o (E.w _ k2461) d_Ptm_byteOf_26 ?_
  refine lv_iadd E.x E.b d_Ptm_byteOf_28 ?_
  refine lv_ldc (v := 65536) E.x E.b E.o (E.w _ k1697) d_Ptm_byteOf_29 ?_
  refine lv_idiv E.x E.b d_Ptm_byteOf_31 (by decide) ?_
  obtain rfl := Option.some.inj h
  exact rt_i E w hret d_Ptm_byteOf_32
def F_Ptm_byteOf  (x0 : Int32) : Option (Int32) := if 0 ≤ x0 then (if x0 ≤ 65536 then (F_Ptm_byteOf_20 x0) else (F_Ptm_byteOf_20 65536)) else (F_Ptm_byteOf_20 0)
set_option maxRecDepth 10000 in
set_option maxHeartbeats 4000000 in
theorem c_Ptm_byteOf (l : Launch) (D : va_G) (τ : ClassId × ClassId × ClassId) (B : Nat) (σ0 : Sg) (ad : Nat → Nat) (x0 : Int32) (o : Int32) (h : F_Ptm_byteOf x0 = some o) : MI l y_Ptm_byteOf (Cond.code y_Ptm_byteOf prog_17_method_20_code 2 (some .int)) 0 D τ B [.int x0] (wdM τ σ0 ad) (wdM τ σ0 ad) o := by
  refine en_i (by decide) (Nat.le_of_ble_eq_true rfl) ?_
  intro p e R s m args below meth c H locs ls A E hret w hl
  have E : Cx p R s m args meth c prog_17_method_20_code 2 "DrawingMachineModel$PlaceTestsModel" 0 D τ B A := E
  have hl : lv_has ls 2 [(0, .int x0)] := hl
  refine lv_iload_n E.x E.b d_Ptm_byteOf_0 rfl (lv_at hl 0 rfl) ?_
  refine lv_if_ge (tgt := 8) E.x E.b d_Ptm_byteOf_1 (by decide) (fun c => ?_) (fun c => ?_)
  ·
    replace h := ifT c h
    refine lv_iload_n E.x E.b d_Ptm_byteOf_8 rfl (lv_at hl 0 rfl) ?_
    refine lv_ldc (v := 65536) E.x E.b E.o (E.w _ k1697) d_Ptm_byteOf_9 ?_
    refine lv_icmp_le (tgt := 19) E.x E.b d_Ptm_byteOf_11 (by decide) (fun c => ?_) (fun c => ?_)
    ·
      replace h := ifT c h
      refine lv_iload_n E.x E.b d_Ptm_byteOf_19 rfl (lv_at hl 0 rfl) ?_
      exact bt_Ptm_byteOf_20 E hret o x0 h w (lv_sub hl [] rfl)
    ·
      replace h := ifF c h
      refine lv_ldc (v := 65536) E.x E.b E.o (E.w _ k1697) d_Ptm_byteOf_14 ?_
      refine lv_goto (tgt := 20) E.x E.b d_Ptm_byteOf_16 (by decide) ?_
      exact bt_Ptm_byteOf_20 E hret o 65536 h w (lv_sub hl [] rfl)
  ·
    replace h := ifF c h
    refine lv_iconst (v := 0) E.x E.b d_Ptm_byteOf_4 (by decide) ?_
    refine lv_goto (tgt := 20) E.x E.b d_Ptm_byteOf_5 (by decide) ?_
    exact bt_Ptm_byteOf_20 E hret o 0 h w (lv_sub hl [] rfl)
theorem clS_Ptm_byteOf {p : Program} {l : Launch} {e : Env} {R : Room} {s : State} {m : MethodId} {args : Array Value} {below : List Frame} {meth : Method} {c : Code} {H : Heap} {locs : List Loc} {Q : State → Prop} {cc : ByteArray} {nL pc lev : Nat} {own : String} {D : va_G} {τ : ClassId × ClassId × ClassId} {B : Nat} {A : Nat → Prop} {σ : Sg} {ad : Nat → Nat} {ls : Array Slot} {rest : List Value} (E : Cx p R s m args meth c cc nL own lev D τ B A) (w : Wd s D A (wdM τ σ ad) H locs) {x0 : Int32} {o : Int32} (h : F_Ptm_byteOf x0 = some o) {index : Nat} (hlk : Cond.methodLink own index y_Ptm_byteOf ∈ tw) (hlev : 0 < lev) (hsz : ls.size = nL) (hr : (rest.map fun v => v.category).sum ≤ 8) (hd : decode cc pc = .ok (.invokestatic index, 3)) (kk : ∀ (H1 : Heap) (locs1 : List Loc), Wd s D A (wdM τ σ ad) H1 locs1 → W p l e R s m args below meth c H1 locs1 0 0 Q (F0 m (pc + 3) ls (.int o :: rest))) : W p l e R s m args below meth c H locs 0 0 Q (F0 m pc ls (.int x0 :: rest)) :=
  cr_i w E.C (va_runS (As := [.int x0]) (rest := rest) E.fix (c_Ptm_byteOf l D τ B σ ad x0 o h H.size) (va_cwS 1 E.w (tw_pre (tw_good k2460) (l := [_, _, _]) (List.forall_mem_cons.mpr ⟨hlk, List.forall_mem_cons.mpr ⟨k2459, List.forall_mem_cons.mpr ⟨k20, fun _ h => absurd h List.not_mem_nil⟩⟩⟩)) rfl rfl rfl (by decide +kernel) (E.rm hlev (by decide))) (wd_pre w E.C [.int x0]) rfl rfl hsz rfl (lv_room hr) hd ⟨Nat.zero_le _, Nat.zero_le _⟩) kk

theorem d_Ptm_holds_0 : decode prog_17_method_17_code 0 = .ok (.iload_n 0, 1) := by decide +kernel
theorem d_Ptm_holds_1 : decode prog_17_method_17_code 1 = .ok (.iconst 1, 1) := by decide +kernel
theorem d_Ptm_holds_2 : decode prog_17_method_17_code 2 = .ok (.if_icmp .eq 19, 3) := by decide +kernel
theorem d_Ptm_holds_5 : decode prog_17_method_17_code 5 = .ok (.iload_n 0, 1) := by decide +kernel
theorem d_Ptm_holds_6 : decode prog_17_method_17_code 6 = .ok (.iconst 3, 1) := by decide +kernel
theorem d_Ptm_holds_7 : decode prog_17_method_17_code 7 = .ok (.if_icmp .eq 14, 3) := by decide +kernel
theorem d_Ptm_holds_10 : decode prog_17_method_17_code 10 = .ok (.iload_n 0, 1) := by decide +kernel
theorem d_Ptm_holds_11 : decode prog_17_method_17_code 11 = .ok (.iconst 5, 1) := by decide +kernel
theorem d_Ptm_holds_12 : decode prog_17_method_17_code 12 = .ok (.if_icmp .eq 9, 3) := by decide +kernel
theorem d_Ptm_holds_15 : decode prog_17_method_17_code 15 = .ok (.iload_n 0, 1) := by decide +kernel
theorem d_Ptm_holds_16 : decode prog_17_method_17_code 16 = .ok (.bipush 7, 2) := by decide +kernel
theorem d_Ptm_holds_18 : decode prog_17_method_17_code 18 = .ok (.if_icmp .ne 7, 3) := by decide +kernel
theorem d_Ptm_holds_21 : decode prog_17_method_17_code 21 = .ok (.iconst 1, 1) := by decide +kernel
theorem d_Ptm_holds_22 : decode prog_17_method_17_code 22 = .ok (.goto 4, 3) := by decide +kernel
theorem d_Ptm_holds_25 : decode prog_17_method_17_code 25 = .ok (.iconst 0, 1) := by decide +kernel
theorem d_Ptm_holds_26 : decode prog_17_method_17_code 26 = .ok (.istore_n 3, 1) := by decide +kernel
theorem d_Ptm_holds_27 : decode prog_17_method_17_code 27 = .ok (.iload_n 0, 1) := by decide +kernel
theorem d_Ptm_holds_28 : decode prog_17_method_17_code 28 = .ok (.iconst 2, 1) := by decide +kernel
theorem d_Ptm_holds_29 : decode prog_17_method_17_code 29 = .ok (.if_icmp .eq 20, 3) := by decide +kernel
theorem d_Ptm_holds_32 : decode prog_17_method_17_code 32 = .ok (.iload_n 0, 1) := by decide +kernel
theorem d_Ptm_holds_33 : decode prog_17_method_17_code 33 = .ok (.iconst 3, 1) := by decide +kernel
theorem d_Ptm_holds_34 : decode prog_17_method_17_code 34 = .ok (.if_icmp .eq 15, 3) := by decide +kernel
theorem d_Ptm_holds_37 : decode prog_17_method_17_code 37 = .ok (.iload_n 0, 1) := by decide +kernel
theorem d_Ptm_holds_38 : decode prog_17_method_17_code 38 = .ok (.bipush 6, 2) := by decide +kernel
theorem d_Ptm_holds_40 : decode prog_17_method_17_code 40 = .ok (.if_icmp .eq 9, 3) := by decide +kernel
theorem d_Ptm_holds_43 : decode prog_17_method_17_code 43 = .ok (.iload_n 0, 1) := by decide +kernel
theorem d_Ptm_holds_44 : decode prog_17_method_17_code 44 = .ok (.bipush 7, 2) := by decide +kernel
theorem d_Ptm_holds_46 : decode prog_17_method_17_code 46 = .ok (.if_icmp .ne 7, 3) := by decide +kernel
theorem d_Ptm_holds_49 : decode prog_17_method_17_code 49 = .ok (.iconst 1, 1) := by decide +kernel
theorem d_Ptm_holds_50 : decode prog_17_method_17_code 50 = .ok (.goto 4, 3) := by decide +kernel
theorem d_Ptm_holds_53 : decode prog_17_method_17_code 53 = .ok (.iconst 0, 1) := by decide +kernel
theorem d_Ptm_holds_54 : decode prog_17_method_17_code 54 = .ok (.istore 4, 2) := by decide +kernel
theorem d_Ptm_holds_56 : decode prog_17_method_17_code 56 = .ok (.iload_n 0, 1) := by decide +kernel
theorem d_Ptm_holds_57 : decode prog_17_method_17_code 57 = .ok (.iconst 4, 1) := by decide +kernel
theorem d_Ptm_holds_58 : decode prog_17_method_17_code 58 = .ok (.if_icmp .eq 20, 3) := by decide +kernel
theorem d_Ptm_holds_61 : decode prog_17_method_17_code 61 = .ok (.iload_n 0, 1) := by decide +kernel
theorem d_Ptm_holds_62 : decode prog_17_method_17_code 62 = .ok (.iconst 5, 1) := by decide +kernel
theorem d_Ptm_holds_63 : decode prog_17_method_17_code 63 = .ok (.if_icmp .eq 15, 3) := by decide +kernel
theorem d_Ptm_holds_66 : decode prog_17_method_17_code 66 = .ok (.iload_n 0, 1) := by decide +kernel
theorem d_Ptm_holds_67 : decode prog_17_method_17_code 67 = .ok (.bipush 6, 2) := by decide +kernel
theorem d_Ptm_holds_69 : decode prog_17_method_17_code 69 = .ok (.if_icmp .eq 9, 3) := by decide +kernel
theorem d_Ptm_holds_72 : decode prog_17_method_17_code 72 = .ok (.iload_n 0, 1) := by decide +kernel
theorem d_Ptm_holds_73 : decode prog_17_method_17_code 73 = .ok (.bipush 7, 2) := by decide +kernel
theorem d_Ptm_holds_75 : decode prog_17_method_17_code 75 = .ok (.if_icmp .ne 7, 3) := by decide +kernel
theorem d_Ptm_holds_78 : decode prog_17_method_17_code 78 = .ok (.iconst 1, 1) := by decide +kernel
theorem d_Ptm_holds_79 : decode prog_17_method_17_code 79 = .ok (.goto 4, 3) := by decide +kernel
theorem d_Ptm_holds_82 : decode prog_17_method_17_code 82 = .ok (.iconst 0, 1) := by decide +kernel
theorem d_Ptm_holds_83 : decode prog_17_method_17_code 83 = .ok (.istore 5, 2) := by decide +kernel
theorem d_Ptm_holds_85 : decode prog_17_method_17_code 85 = .ok (.iload_n 1, 1) := by decide +kernel
theorem d_Ptm_holds_86 : decode prog_17_method_17_code 86 = .ok (.iload_n 2, 1) := by decide +kernel
theorem d_Ptm_holds_87 : decode prog_17_method_17_code 87 = .ok (.if_icmp .ge 7, 3) := by decide +kernel
theorem d_Ptm_holds_90 : decode prog_17_method_17_code 90 = .ok (.iload_n 3, 1) := by decide +kernel
theorem d_Ptm_holds_91 : decode prog_17_method_17_code 91 = .ok (.goto 15, 3) := by decide +kernel
theorem d_Ptm_holds_94 : decode prog_17_method_17_code 94 = .ok (.iload_n 1, 1) := by decide +kernel
theorem d_Ptm_holds_95 : decode prog_17_method_17_code 95 = .ok (.iload_n 2, 1) := by decide +kernel
theorem d_Ptm_holds_96 : decode prog_17_method_17_code 96 = .ok (.if_icmp .le 8, 3) := by decide +kernel
theorem d_Ptm_holds_99 : decode prog_17_method_17_code 99 = .ok (.iload 5, 2) := by decide +kernel
theorem d_Ptm_holds_101 : decode prog_17_method_17_code 101 = .ok (.goto 5, 3) := by decide +kernel
theorem d_Ptm_holds_104 : decode prog_17_method_17_code 104 = .ok (.iload 4, 2) := by decide +kernel
theorem d_Ptm_holds_106 : decode prog_17_method_17_code 106 = .ok (.ireturn, 1) := by decide +kernel
def F_Ptm_holds_106  (s0 : Int32) : Option (Int32) := ck (s0 = 0 ∨ s0 = 1) (some s0)
set_option maxRecDepth 10000 in
set_option maxHeartbeats 4000000 in
theorem bt_Ptm_holds_106 {p : Program} {l : Launch} {e : Env} {R : Room} {s : State} {m : MethodId} {args : Array Value} {below : List Frame} {meth : Method} {c : Code} {D : va_G} {τ : ClassId × ClassId × ClassId} {B : Nat} {A : Nat → Prop} {ad : Nat → Nat} {σ0 : Sg} (E : Cx p R s m args meth c prog_17_method_17_code 6 "DrawingMachineModel$PlaceTestsModel" 0 D τ B A) (hret : meth.sig.returnType = (some .boolean)) (o : Int32) (s0 : Int32) (h : F_Ptm_holds_106 s0 = some o) {H : Heap} {locs : List Loc} {ls : Array Slot} (w : Wd s D A (wdM τ σ0 ad) H locs) (hl : lv_has ls 6 []) : W p l e R s m args below meth c H locs 0 0 (QI below args s A D τ (wdM τ σ0 ad) o) (F0 m 106 ls [.int s0]) := by
  obtain ⟨c2, h⟩ := ck_some h
  obtain rfl := Option.some.inj h
  exact rt_z E w hret c2 d_Ptm_holds_106
def F_Ptm_holds_83  (v1 : Int32) (v2 : Int32) (v3 : Int32) (v4 : Int32) (s0 : Int32) : Option (Int32) := if v2 ≤ v1 then (if v1 ≤ v2 then (F_Ptm_holds_106 v4) else (F_Ptm_holds_106 s0)) else (F_Ptm_holds_106 v3)
set_option maxRecDepth 10000 in
set_option maxHeartbeats 4000000 in
theorem bt_Ptm_holds_83 {p : Program} {l : Launch} {e : Env} {R : Room} {s : State} {m : MethodId} {args : Array Value} {below : List Frame} {meth : Method} {c : Code} {D : va_G} {τ : ClassId × ClassId × ClassId} {B : Nat} {A : Nat → Prop} {ad : Nat → Nat} {σ0 : Sg} (E : Cx p R s m args meth c prog_17_method_17_code 6 "DrawingMachineModel$PlaceTestsModel" 0 D τ B A) (hret : meth.sig.returnType = (some .boolean)) (o : Int32) (v1 : Int32) (v2 : Int32) (v3 : Int32) (v4 : Int32) (s0 : Int32) (h : F_Ptm_holds_83 v1 v2 v3 v4 s0 = some o) {H : Heap} {locs : List Loc} {ls : Array Slot} (w : Wd s D A (wdM τ σ0 ad) H locs) (hl : lv_has ls 6 [(1, .int v1), (2, .int v2), (3, .int v3), (4, .int v4)]) : W p l e R s m args below meth c H locs 0 0 (QI below args s A D τ (wdM τ σ0 ad) o) (F0 m 83 ls [.int s0]) := by
  refine lv_istore (lv' := [(5, .int s0), (1, .int v1), (2, .int v2), (3, .int v3), (4, .int v4)]) E.x E.b d_Ptm_holds_83 hl (by decide) rfl (fun ls hl => ?_)
  refine lv_iload_n E.x E.b d_Ptm_holds_85 rfl (lv_at hl 1 rfl) ?_
  refine lv_iload_n E.x E.b d_Ptm_holds_86 rfl (lv_at hl 2 rfl) ?_
  refine lv_icmp_ge (tgt := 94) E.x E.b d_Ptm_holds_87 (by decide) (fun c => ?_) (fun c => ?_)
  ·
    replace h := ifT c h
    refine lv_iload_n E.x E.b d_Ptm_holds_94 rfl (lv_at hl 1 rfl) ?_
    refine lv_iload_n E.x E.b d_Ptm_holds_95 rfl (lv_at hl 2 rfl) ?_
    refine lv_icmp_le (tgt := 104) E.x E.b d_Ptm_holds_96 (by decide) (fun c => ?_) (fun c => ?_)
    ·
      replace h := ifT c h
      refine lv_iload E.x E.b d_Ptm_holds_104 (lv_at hl 4 rfl) ?_
      exact bt_Ptm_holds_106 E hret o v4 h w (lv_sub hl [] rfl)
    ·
      replace h := ifF c h
      refine lv_iload E.x E.b d_Ptm_holds_99 (lv_at hl 0 rfl) ?_
      refine lv_goto (tgt := 106) E.x E.b d_Ptm_holds_101 (by decide) ?_
      exact bt_Ptm_holds_106 E hret o s0 h w (lv_sub hl [] rfl)
  ·
    replace h := ifF c h
    refine lv_iload_n E.x E.b d_Ptm_holds_90 rfl (lv_at hl 3 rfl) ?_
    refine lv_goto (tgt := 106) E.x E.b d_Ptm_holds_91 (by decide) ?_
    exact bt_Ptm_holds_106 E hret o v3 h w (lv_sub hl [] rfl)
def F_Ptm_holds_78  (v1 : Int32) (v2 : Int32) (v3 : Int32) (v4 : Int32) : Option (Int32) := F_Ptm_holds_83 v1 v2 v3 v4 1
set_option maxRecDepth 10000 in
set_option maxHeartbeats 4000000 in
theorem bt_Ptm_holds_78 {p : Program} {l : Launch} {e : Env} {R : Room} {s : State} {m : MethodId} {args : Array Value} {below : List Frame} {meth : Method} {c : Code} {D : va_G} {τ : ClassId × ClassId × ClassId} {B : Nat} {A : Nat → Prop} {ad : Nat → Nat} {σ0 : Sg} (E : Cx p R s m args meth c prog_17_method_17_code 6 "DrawingMachineModel$PlaceTestsModel" 0 D τ B A) (hret : meth.sig.returnType = (some .boolean)) (o : Int32) (v1 : Int32) (v2 : Int32) (v3 : Int32) (v4 : Int32) (h : F_Ptm_holds_78 v1 v2 v3 v4 = some o) {H : Heap} {locs : List Loc} {ls : Array Slot} (w : Wd s D A (wdM τ σ0 ad) H locs) (hl : lv_has ls 6 [(1, .int v1), (2, .int v2), (3, .int v3), (4, .int v4)]) : W p l e R s m args below meth c H locs 0 0 (QI below args s A D τ (wdM τ σ0 ad) o) (F0 m 78 ls []) := by
  refine lv_iconst (v := 1) E.x E.b d_Ptm_holds_78 (by decide) ?_
  refine lv_goto (tgt := 83) E.x E.b d_Ptm_holds_79 (by decide) ?_
  exact bt_Ptm_holds_83 E hret o v1 v2 v3 v4 1 h w (lv_sub hl [0, 1, 2, 3] rfl)
def F_Ptm_holds_54  (v0 : Int32) (v1 : Int32) (v2 : Int32) (v3 : Int32) (s0 : Int32) : Option (Int32) := if v0 = 4 then (F_Ptm_holds_78 v1 v2 v3 s0) else (if v0 = 5 then (F_Ptm_holds_78 v1 v2 v3 s0) else (if v0 = 6 then (F_Ptm_holds_78 v1 v2 v3 s0) else (if v0 = 7 then (F_Ptm_holds_78 v1 v2 v3 s0) else (F_Ptm_holds_83 v1 v2 v3 s0 0))))
set_option maxRecDepth 10000 in
set_option maxHeartbeats 4000000 in
theorem bt_Ptm_holds_54 {p : Program} {l : Launch} {e : Env} {R : Room} {s : State} {m : MethodId} {args : Array Value} {below : List Frame} {meth : Method} {c : Code} {D : va_G} {τ : ClassId × ClassId × ClassId} {B : Nat} {A : Nat → Prop} {ad : Nat → Nat} {σ0 : Sg} (E : Cx p R s m args meth c prog_17_method_17_code 6 "DrawingMachineModel$PlaceTestsModel" 0 D τ B A) (hret : meth.sig.returnType = (some .boolean)) (o : Int32) (v0 : Int32) (v1 : Int32) (v2 : Int32) (v3 : Int32) (s0 : Int32) (h : F_Ptm_holds_54 v0 v1 v2 v3 s0 = some o) {H : Heap} {locs : List Loc} {ls : Array Slot} (w : Wd s D A (wdM τ σ0 ad) H locs) (hl : lv_has ls 6 [(0, .int v0), (1, .int v1), (2, .int v2), (3, .int v3)]) : W p l e R s m args below meth c H locs 0 0 (QI below args s A D τ (wdM τ σ0 ad) o) (F0 m 54 ls [.int s0]) := by
  refine lv_istore (lv' := [(4, .int s0), (0, .int v0), (1, .int v1), (2, .int v2), (3, .int v3)]) E.x E.b d_Ptm_holds_54 hl (by decide) rfl (fun ls hl => ?_)
  refine lv_iload_n E.x E.b d_Ptm_holds_56 rfl (lv_at hl 1 rfl) ?_
  refine lv_iconst (v := 4) E.x E.b d_Ptm_holds_57 (by decide) ?_
  refine lv_icmp_eq (tgt := 78) E.x E.b d_Ptm_holds_58 (by decide) (fun c => ?_) (fun c => ?_)
  ·
    replace h := ifT c h
    exact bt_Ptm_holds_78 E hret o v1 v2 v3 s0 h w (lv_sub hl [2, 3, 4, 0] rfl)
  ·
    replace h := ifF c h
    refine lv_iload_n E.x E.b d_Ptm_holds_61 rfl (lv_at hl 1 rfl) ?_
    refine lv_iconst (v := 5) E.x E.b d_Ptm_holds_62 (by decide) ?_
    refine lv_icmp_eq (tgt := 78) E.x E.b d_Ptm_holds_63 (by decide) (fun c => ?_) (fun c => ?_)
    ·
      replace h := ifT c h
      exact bt_Ptm_holds_78 E hret o v1 v2 v3 s0 h w (lv_sub hl [2, 3, 4, 0] rfl)
    ·
      replace h := ifF c h
      refine lv_iload_n E.x E.b d_Ptm_holds_66 rfl (lv_at hl 1 rfl) ?_
      refine lv_bipush (v := 6) E.x E.b d_Ptm_holds_67 (by decide) ?_
      refine lv_icmp_eq (tgt := 78) E.x E.b d_Ptm_holds_69 (by decide) (fun c => ?_) (fun c => ?_)
      ·
        replace h := ifT c h
        exact bt_Ptm_holds_78 E hret o v1 v2 v3 s0 h w (lv_sub hl [2, 3, 4, 0] rfl)
      ·
        replace h := ifF c h
        refine lv_iload_n E.x E.b d_Ptm_holds_72 rfl (lv_at hl 1 rfl) ?_
        refine lv_bipush (v := 7) E.x E.b d_Ptm_holds_73 (by decide) ?_
        refine lv_icmp_ne (tgt := 82) E.x E.b d_Ptm_holds_75 (by decide) (fun c => ?_) (fun c => ?_)
        ·
          replace h := ifF c h
          refine lv_iconst (v := 0) E.x E.b d_Ptm_holds_82 (by decide) ?_
          exact bt_Ptm_holds_83 E hret o v1 v2 v3 s0 0 h w (lv_sub hl [2, 3, 4, 0] rfl)
        ·
          replace h := ifT c h
          exact bt_Ptm_holds_78 E hret o v1 v2 v3 s0 h w (lv_sub hl [2, 3, 4, 0] rfl)
def F_Ptm_holds_49  (v0 : Int32) (v1 : Int32) (v2 : Int32) (v3 : Int32) : Option (Int32) := F_Ptm_holds_54 v0 v1 v2 v3 1
set_option maxRecDepth 10000 in
set_option maxHeartbeats 4000000 in
theorem bt_Ptm_holds_49 {p : Program} {l : Launch} {e : Env} {R : Room} {s : State} {m : MethodId} {args : Array Value} {below : List Frame} {meth : Method} {c : Code} {D : va_G} {τ : ClassId × ClassId × ClassId} {B : Nat} {A : Nat → Prop} {ad : Nat → Nat} {σ0 : Sg} (E : Cx p R s m args meth c prog_17_method_17_code 6 "DrawingMachineModel$PlaceTestsModel" 0 D τ B A) (hret : meth.sig.returnType = (some .boolean)) (o : Int32) (v0 : Int32) (v1 : Int32) (v2 : Int32) (v3 : Int32) (h : F_Ptm_holds_49 v0 v1 v2 v3 = some o) {H : Heap} {locs : List Loc} {ls : Array Slot} (w : Wd s D A (wdM τ σ0 ad) H locs) (hl : lv_has ls 6 [(0, .int v0), (1, .int v1), (2, .int v2), (3, .int v3)]) : W p l e R s m args below meth c H locs 0 0 (QI below args s A D τ (wdM τ σ0 ad) o) (F0 m 49 ls []) := by
  refine lv_iconst (v := 1) E.x E.b d_Ptm_holds_49 (by decide) ?_
  refine lv_goto (tgt := 54) E.x E.b d_Ptm_holds_50 (by decide) ?_
  exact bt_Ptm_holds_54 E hret o v0 v1 v2 v3 1 h w (lv_sub hl [0, 1, 2, 3] rfl)
def F_Ptm_holds_26  (v0 : Int32) (v1 : Int32) (v2 : Int32) (s0 : Int32) : Option (Int32) := if v0 = 2 then (F_Ptm_holds_49 v0 v1 v2 s0) else (if v0 = 3 then (F_Ptm_holds_49 v0 v1 v2 s0) else (if v0 = 6 then (F_Ptm_holds_49 v0 v1 v2 s0) else (if v0 = 7 then (F_Ptm_holds_49 v0 v1 v2 s0) else (F_Ptm_holds_54 v0 v1 v2 s0 0))))
set_option maxRecDepth 10000 in
set_option maxHeartbeats 4000000 in
theorem bt_Ptm_holds_26 {p : Program} {l : Launch} {e : Env} {R : Room} {s : State} {m : MethodId} {args : Array Value} {below : List Frame} {meth : Method} {c : Code} {D : va_G} {τ : ClassId × ClassId × ClassId} {B : Nat} {A : Nat → Prop} {ad : Nat → Nat} {σ0 : Sg} (E : Cx p R s m args meth c prog_17_method_17_code 6 "DrawingMachineModel$PlaceTestsModel" 0 D τ B A) (hret : meth.sig.returnType = (some .boolean)) (o : Int32) (v0 : Int32) (v1 : Int32) (v2 : Int32) (s0 : Int32) (h : F_Ptm_holds_26 v0 v1 v2 s0 = some o) {H : Heap} {locs : List Loc} {ls : Array Slot} (w : Wd s D A (wdM τ σ0 ad) H locs) (hl : lv_has ls 6 [(0, .int v0), (1, .int v1), (2, .int v2)]) : W p l e R s m args below meth c H locs 0 0 (QI below args s A D τ (wdM τ σ0 ad) o) (F0 m 26 ls [.int s0]) := by
  refine lv_istore_n (lv' := [(3, .int s0), (0, .int v0), (1, .int v1), (2, .int v2)]) E.x E.b d_Ptm_holds_26 rfl hl (by decide) rfl (fun ls hl => ?_)
  refine lv_iload_n E.x E.b d_Ptm_holds_27 rfl (lv_at hl 1 rfl) ?_
  refine lv_iconst (v := 2) E.x E.b d_Ptm_holds_28 (by decide) ?_
  refine lv_icmp_eq (tgt := 49) E.x E.b d_Ptm_holds_29 (by decide) (fun c => ?_) (fun c => ?_)
  ·
    replace h := ifT c h
    exact bt_Ptm_holds_49 E hret o v0 v1 v2 s0 h w (lv_sub hl [1, 2, 3, 0] rfl)
  ·
    replace h := ifF c h
    refine lv_iload_n E.x E.b d_Ptm_holds_32 rfl (lv_at hl 1 rfl) ?_
    refine lv_iconst (v := 3) E.x E.b d_Ptm_holds_33 (by decide) ?_
    refine lv_icmp_eq (tgt := 49) E.x E.b d_Ptm_holds_34 (by decide) (fun c => ?_) (fun c => ?_)
    ·
      replace h := ifT c h
      exact bt_Ptm_holds_49 E hret o v0 v1 v2 s0 h w (lv_sub hl [1, 2, 3, 0] rfl)
    ·
      replace h := ifF c h
      refine lv_iload_n E.x E.b d_Ptm_holds_37 rfl (lv_at hl 1 rfl) ?_
      refine lv_bipush (v := 6) E.x E.b d_Ptm_holds_38 (by decide) ?_
      refine lv_icmp_eq (tgt := 49) E.x E.b d_Ptm_holds_40 (by decide) (fun c => ?_) (fun c => ?_)
      ·
        replace h := ifT c h
        exact bt_Ptm_holds_49 E hret o v0 v1 v2 s0 h w (lv_sub hl [1, 2, 3, 0] rfl)
      ·
        replace h := ifF c h
        refine lv_iload_n E.x E.b d_Ptm_holds_43 rfl (lv_at hl 1 rfl) ?_
        refine lv_bipush (v := 7) E.x E.b d_Ptm_holds_44 (by decide) ?_
        refine lv_icmp_ne (tgt := 53) E.x E.b d_Ptm_holds_46 (by decide) (fun c => ?_) (fun c => ?_)
        ·
          replace h := ifF c h
          refine lv_iconst (v := 0) E.x E.b d_Ptm_holds_53 (by decide) ?_
          exact bt_Ptm_holds_54 E hret o v0 v1 v2 s0 0 h w (lv_sub hl [1, 2, 3, 0] rfl)
        ·
          replace h := ifT c h
          exact bt_Ptm_holds_49 E hret o v0 v1 v2 s0 h w (lv_sub hl [1, 2, 3, 0] rfl)
def F_Ptm_holds_21  (v0 : Int32) (v1 : Int32) (v2 : Int32) : Option (Int32) := F_Ptm_holds_26 v0 v1 v2 1
set_option maxRecDepth 10000 in
set_option maxHeartbeats 4000000 in
theorem bt_Ptm_holds_21 {p : Program} {l : Launch} {e : Env} {R : Room} {s : State} {m : MethodId} {args : Array Value} {below : List Frame} {meth : Method} {c : Code} {D : va_G} {τ : ClassId × ClassId × ClassId} {B : Nat} {A : Nat → Prop} {ad : Nat → Nat} {σ0 : Sg} (E : Cx p R s m args meth c prog_17_method_17_code 6 "DrawingMachineModel$PlaceTestsModel" 0 D τ B A) (hret : meth.sig.returnType = (some .boolean)) (o : Int32) (v0 : Int32) (v1 : Int32) (v2 : Int32) (h : F_Ptm_holds_21 v0 v1 v2 = some o) {H : Heap} {locs : List Loc} {ls : Array Slot} (w : Wd s D A (wdM τ σ0 ad) H locs) (hl : lv_has ls 6 [(0, .int v0), (1, .int v1), (2, .int v2)]) : W p l e R s m args below meth c H locs 0 0 (QI below args s A D τ (wdM τ σ0 ad) o) (F0 m 21 ls []) := by
  refine lv_iconst (v := 1) E.x E.b d_Ptm_holds_21 (by decide) ?_
  refine lv_goto (tgt := 26) E.x E.b d_Ptm_holds_22 (by decide) ?_
  exact bt_Ptm_holds_26 E hret o v0 v1 v2 1 h w (lv_sub hl [0, 1, 2] rfl)
def F_Ptm_holds  (x0 : Int32) (x1 : Int32) (x2 : Int32) : Option (Int32) := if x0 = 1 then (F_Ptm_holds_21 x0 x1 x2) else (if x0 = 3 then (F_Ptm_holds_21 x0 x1 x2) else (if x0 = 5 then (F_Ptm_holds_21 x0 x1 x2) else (if x0 = 7 then (F_Ptm_holds_21 x0 x1 x2) else (F_Ptm_holds_26 x0 x1 x2 0))))
set_option maxRecDepth 10000 in
set_option maxHeartbeats 4000000 in
theorem c_Ptm_holds (l : Launch) (D : va_G) (τ : ClassId × ClassId × ClassId) (B : Nat) (σ0 : Sg) (ad : Nat → Nat) (x0 : Int32) (x1 : Int32) (x2 : Int32) (o : Int32) (h : F_Ptm_holds x0 x1 x2 = some o) : MI l y_Ptm_holds (Cond.code y_Ptm_holds prog_17_method_17_code 6 (some .boolean)) 0 D τ B [.int x0, .int x1, .int x2] (wdM τ σ0 ad) (wdM τ σ0 ad) o := by
  refine en_i (by decide) (Nat.le_of_ble_eq_true rfl) ?_
  intro p e R s m args below meth c H locs ls A E hret w hl
  have E : Cx p R s m args meth c prog_17_method_17_code 6 "DrawingMachineModel$PlaceTestsModel" 0 D τ B A := E
  have hl : lv_has ls 6 [(0, .int x0), (1, .int x1), (2, .int x2)] := hl
  refine lv_iload_n E.x E.b d_Ptm_holds_0 rfl (lv_at hl 0 rfl) ?_
  refine lv_iconst (v := 1) E.x E.b d_Ptm_holds_1 (by decide) ?_
  refine lv_icmp_eq (tgt := 21) E.x E.b d_Ptm_holds_2 (by decide) (fun c => ?_) (fun c => ?_)
  ·
    replace h := ifT c h
    exact bt_Ptm_holds_21 E hret o x0 x1 x2 h w (lv_sub hl [0, 1, 2] rfl)
  ·
    replace h := ifF c h
    refine lv_iload_n E.x E.b d_Ptm_holds_5 rfl (lv_at hl 0 rfl) ?_
    refine lv_iconst (v := 3) E.x E.b d_Ptm_holds_6 (by decide) ?_
    refine lv_icmp_eq (tgt := 21) E.x E.b d_Ptm_holds_7 (by decide) (fun c => ?_) (fun c => ?_)
    ·
      replace h := ifT c h
      exact bt_Ptm_holds_21 E hret o x0 x1 x2 h w (lv_sub hl [0, 1, 2] rfl)
    ·
      replace h := ifF c h
      refine lv_iload_n E.x E.b d_Ptm_holds_10 rfl (lv_at hl 0 rfl) ?_
      refine lv_iconst (v := 5) E.x E.b d_Ptm_holds_11 (by decide) ?_
      refine lv_icmp_eq (tgt := 21) E.x E.b d_Ptm_holds_12 (by decide) (fun c => ?_) (fun c => ?_)
      ·
        replace h := ifT c h
        exact bt_Ptm_holds_21 E hret o x0 x1 x2 h w (lv_sub hl [0, 1, 2] rfl)
      ·
        replace h := ifF c h
        refine lv_iload_n E.x E.b d_Ptm_holds_15 rfl (lv_at hl 0 rfl) ?_
        refine lv_bipush (v := 7) E.x E.b d_Ptm_holds_16 (by decide) ?_
        refine lv_icmp_ne (tgt := 25) E.x E.b d_Ptm_holds_18 (by decide) (fun c => ?_) (fun c => ?_)
        ·
          replace h := ifF c h
          refine lv_iconst (v := 0) E.x E.b d_Ptm_holds_25 (by decide) ?_
          exact bt_Ptm_holds_26 E hret o x0 x1 x2 0 h w (lv_sub hl [0, 1, 2] rfl)
        ·
          replace h := ifT c h
          exact bt_Ptm_holds_21 E hret o x0 x1 x2 h w (lv_sub hl [0, 1, 2] rfl)
theorem clS_Ptm_holds {p : Program} {l : Launch} {e : Env} {R : Room} {s : State} {m : MethodId} {args : Array Value} {below : List Frame} {meth : Method} {c : Code} {H : Heap} {locs : List Loc} {Q : State → Prop} {cc : ByteArray} {nL pc lev : Nat} {own : String} {D : va_G} {τ : ClassId × ClassId × ClassId} {B : Nat} {A : Nat → Prop} {σ : Sg} {ad : Nat → Nat} {ls : Array Slot} {rest : List Value} (E : Cx p R s m args meth c cc nL own lev D τ B A) (w : Wd s D A (wdM τ σ ad) H locs) {x0 : Int32} {x1 : Int32} {x2 : Int32} {o : Int32} (h : F_Ptm_holds x0 x1 x2 = some o) {index : Nat} (hlk : Cond.methodLink own index y_Ptm_holds ∈ tw) (hlev : 0 < lev) (hsz : ls.size = nL) (hr : (rest.map fun v => v.category).sum ≤ 8) (hd : decode cc pc = .ok (.invokestatic index, 3)) (kk : ∀ (H1 : Heap) (locs1 : List Loc), Wd s D A (wdM τ σ ad) H1 locs1 → W p l e R s m args below meth c H1 locs1 0 0 Q (F0 m (pc + 3) ls (.int o :: rest))) : W p l e R s m args below meth c H locs 0 0 Q (F0 m pc ls (.int x2 :: .int x1 :: .int x0 :: rest)) :=
  cr_i w E.C (va_runS (As := [.int x0, .int x1, .int x2]) (rest := rest) E.fix (c_Ptm_holds l D τ B σ ad x0 x1 x2 o h H.size) (va_cwS 3 E.w (tw_pre (tw_good k2450) (l := [_, _, _]) (List.forall_mem_cons.mpr ⟨hlk, List.forall_mem_cons.mpr ⟨k2449, List.forall_mem_cons.mpr ⟨k20, fun _ h => absurd h List.not_mem_nil⟩⟩⟩)) rfl rfl rfl (by decide +kernel) (E.rm hlev (by decide))) (wd_pre w E.C [.int x0, .int x1, .int x2]) rfl rfl hsz rfl (lv_room hr) hd ⟨Nat.zero_le _, Nat.zero_le _⟩) kk
