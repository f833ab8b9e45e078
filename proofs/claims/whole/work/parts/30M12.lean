theorem d_Mod_isMuch_0 : decode prog_14_method_16_code 0 = .ok (.aload_n 0, 1) := by decide +kernel
theorem d_Mod_isMuch_1 : decode prog_14_method_16_code 1 = .ok (.getfield 51, 3) := by decide +kernel
theorem d_Mod_isMuch_4 : decode prog_14_method_16_code 4 = .ok (.aload_n 0, 1) := by decide +kernel
theorem d_Mod_isMuch_5 : decode prog_14_method_16_code 5 = .ok (.getfield 19, 3) := by decide +kernel
theorem d_Mod_isMuch_8 : decode prog_14_method_16_code 8 = .ok (.getfield 150, 3) := by decide +kernel
theorem d_Mod_isMuch_11 : decode prog_14_method_16_code 11 = .ok (.iconst 0, 1) := by decide +kernel
theorem d_Mod_isMuch_12 : decode prog_14_method_16_code 12 = .ok (.iaload, 1) := by decide +kernel
theorem d_Mod_isMuch_13 : decode prog_14_method_16_code 13 = .ok (.aload_n 0, 1) := by decide +kernel
theorem d_Mod_isMuch_14 : decode prog_14_method_16_code 14 = .ok (.getfield 19, 3) := by decide +kernel
theorem d_Mod_isMuch_17 : decode prog_14_method_16_code 17 = .ok (.getfield 150, 3) := by decide +kernel
theorem d_Mod_isMuch_20 : decode prog_14_method_16_code 20 = .ok (.iconst 2, 1) := by decide +kernel
theorem d_Mod_isMuch_21 : decode prog_14_method_16_code 21 = .ok (.iaload, 1) := by decide +kernel
theorem d_Mod_isMuch_22 : decode prog_14_method_16_code 22 = .ok (.invokevirtual 201, 3) := by decide +kernel
theorem d_Mod_isMuch_25 : decode prog_14_method_16_code 25 = .ok (.i2l, 1) := by decide +kernel
theorem d_Mod_isMuch_26 : decode prog_14_method_16_code 26 = .ok (.lstore_n 1, 1) := by decide +kernel
theorem d_Mod_isMuch_27 : decode prog_14_method_16_code 27 = .ok (.lload_n 1, 1) := by decide +kernel
theorem d_Mod_isMuch_28 : decode prog_14_method_16_code 28 = .ok (.ldc2_w 204, 3) := by decide +kernel
theorem d_Mod_isMuch_31 : decode prog_14_method_16_code 31 = .ok (.aload_n 0, 1) := by decide +kernel
theorem d_Mod_isMuch_32 : decode prog_14_method_16_code 32 = .ok (.getfield 186, 3) := by decide +kernel
theorem d_Mod_isMuch_35 : decode prog_14_method_16_code 35 = .ok (.i2l, 1) := by decide +kernel
theorem d_Mod_isMuch_36 : decode prog_14_method_16_code 36 = .ok (.lmul, 1) := by decide +kernel
theorem d_Mod_isMuch_37 : decode prog_14_method_16_code 37 = .ok (.aload_n 0, 1) := by decide +kernel
theorem d_Mod_isMuch_38 : decode prog_14_method_16_code 38 = .ok (.getfield 7, 3) := by decide +kernel
theorem d_Mod_isMuch_41 : decode prog_14_method_16_code 41 = .ok (.i2l, 1) := by decide +kernel
theorem d_Mod_isMuch_42 : decode prog_14_method_16_code 42 = .ok (.aload_n 0, 1) := by decide +kernel
theorem d_Mod_isMuch_43 : decode prog_14_method_16_code 43 = .ok (.getfield 13, 3) := by decide +kernel
theorem d_Mod_isMuch_46 : decode prog_14_method_16_code 46 = .ok (.i2l, 1) := by decide +kernel
theorem d_Mod_isMuch_47 : decode prog_14_method_16_code 47 = .ok (.lmul, 1) := by decide +kernel
theorem d_Mod_isMuch_48 : decode prog_14_method_16_code 48 = .ok (.aload_n 0, 1) := by decide +kernel
theorem d_Mod_isMuch_49 : decode prog_14_method_16_code 49 = .ok (.getfield 189, 3) := by decide +kernel
theorem d_Mod_isMuch_52 : decode prog_14_method_16_code 52 = .ok (.i2l, 1) := by decide +kernel
theorem d_Mod_isMuch_53 : decode prog_14_method_16_code 53 = .ok (.lmul, 1) := by decide +kernel
theorem d_Mod_isMuch_54 : decode prog_14_method_16_code 54 = .ok (.ladd, 1) := by decide +kernel
theorem d_Mod_isMuch_55 : decode prog_14_method_16_code 55 = .ok (.lmul, 1) := by decide +kernel
theorem d_Mod_isMuch_56 : decode prog_14_method_16_code 56 = .ok (.lstore_n 3, 1) := by decide +kernel
theorem d_Mod_isMuch_57 : decode prog_14_method_16_code 57 = .ok (.aload_n 0, 1) := by decide +kernel
theorem d_Mod_isMuch_58 : decode prog_14_method_16_code 58 = .ok (.getfield 122, 3) := by decide +kernel
theorem d_Mod_isMuch_61 : decode prog_14_method_16_code 61 = .ok (.lload_n 3, 1) := by decide +kernel
theorem d_Mod_isMuch_62 : decode prog_14_method_16_code 62 = .ok (.ladd, 1) := by decide +kernel
theorem d_Mod_isMuch_63 : decode prog_14_method_16_code 63 = .ok (.ldc2_w 206, 3) := by decide +kernel
theorem d_Mod_isMuch_66 : decode prog_14_method_16_code 66 = .ok (.lcmp, 1) := by decide +kernel
theorem d_Mod_isMuch_67 : decode prog_14_method_16_code 67 = .ok (.ifCond .le 7, 3) := by decide +kernel
theorem d_Mod_isMuch_70 : decode prog_14_method_16_code 70 = .ok (.iconst 1, 1) := by decide +kernel
theorem d_Mod_isMuch_71 : decode prog_14_method_16_code 71 = .ok (.goto 4, 3) := by decide +kernel
theorem d_Mod_isMuch_74 : decode prog_14_method_16_code 74 = .ok (.iconst 0, 1) := by decide +kernel
theorem d_Mod_isMuch_75 : decode prog_14_method_16_code 75 = .ok (.istore 5, 2) := by decide +kernel
theorem d_Mod_isMuch_77 : decode prog_14_method_16_code 77 = .ok (.aload_n 0, 1) := by decide +kernel
theorem d_Mod_isMuch_78 : decode prog_14_method_16_code 78 = .ok (.iload 5, 2) := by decide +kernel
theorem d_Mod_isMuch_80 : decode prog_14_method_16_code 80 = .ok (.ifCond .eq 10, 3) := by decide +kernel
theorem d_Mod_isMuch_83 : decode prog_14_method_16_code 83 = .ok (.aload_n 0, 1) := by decide +kernel
theorem d_Mod_isMuch_84 : decode prog_14_method_16_code 84 = .ok (.getfield 122, 3) := by decide +kernel
theorem d_Mod_isMuch_87 : decode prog_14_method_16_code 87 = .ok (.goto 9, 3) := by decide +kernel
theorem d_Mod_isMuch_90 : decode prog_14_method_16_code 90 = .ok (.aload_n 0, 1) := by decide +kernel
theorem d_Mod_isMuch_91 : decode prog_14_method_16_code 91 = .ok (.getfield 122, 3) := by decide +kernel
theorem d_Mod_isMuch_94 : decode prog_14_method_16_code 94 = .ok (.lload_n 3, 1) := by decide +kernel
theorem d_Mod_isMuch_95 : decode prog_14_method_16_code 95 = .ok (.ladd, 1) := by decide +kernel
theorem d_Mod_isMuch_96 : decode prog_14_method_16_code 96 = .ok (.putfield 122, 3) := by decide +kernel
theorem d_Mod_isMuch_99 : decode prog_14_method_16_code 99 = .ok (.iload 5, 2) := by decide +kernel
theorem d_Mod_isMuch_101 : decode prog_14_method_16_code 101 = .ok (.ireturn, 1) := by decide +kernel
def F_Mod_isMuch_96 (σ : Sg) (v5 : Int32) (s1 : Int64) : Option (Sg × Int32) := lt (sJ σ 0 s1) (fun σ5 => ck (v5 = 0 ∨ v5 = 1) (some (σ5, v5)))
set_option maxRecDepth 10000 in
set_option maxHeartbeats 4000000 in
theorem bt_Mod_isMuch_96 {p : Program} {l : Launch} {e : Env} {R : Room} {s : State} {m : MethodId} {args : Array Value} {below : List Frame} {meth : Method} {c : Code} {D : va_G} {τ : ClassId × ClassId × ClassId} {B : Nat} {A : Nat → Prop} {ad : Nat → Nat} (E : Cx p R s m args meth c prog_14_method_16_code 6 "DrawingMachineModel" 2 D τ B A) (hret : meth.sig.returnType = (some .boolean)) (o : Sg × Int32) (σ : Sg) (v5 : Int32) (s1 : Int64) (h : F_Mod_isMuch_96 σ v5 s1 = some o) {H : Heap} {locs : List Loc} {ls : Array Slot} (w : Wd s D A (wdM τ σ ad) H locs) (hl : lv_has ls 6 [(5, .int v5)]) : W p l e R s m args below meth c H locs 0 0 (QI below args s A D τ (wdM τ o.1 ad) o.2) (F0 m 96 ls [.long s1, .ref (ad 59)]) := by
  obtain ⟨σ5, e_σ5, h⟩ := lt_some h
  refine pM_Mod_work E w k1779 e_σ5 d_Mod_isMuch_96 (fun H locs w => ?_)
  refine lv_iload E.x E.b d_Mod_isMuch_99 (lv_at hl 0 rfl) ?_
  obtain ⟨c6, h⟩ := ck_some h
  obtain rfl := Option.some.inj h
  exact rt_z E w hret c6 d_Mod_isMuch_101
def F_Mod_isMuch_75 (σ : Sg) (v3 : Int64) (s0 : Int32) : Option (Sg × Int32) := if s0 = 0 then (F_Mod_isMuch_96 σ s0 ((σ.2.1 0) + v3)) else (F_Mod_isMuch_96 σ s0 (σ.2.1 0))
set_option maxRecDepth 10000 in
set_option maxHeartbeats 4000000 in
theorem bt_Mod_isMuch_75 {p : Program} {l : Launch} {e : Env} {R : Room} {s : State} {m : MethodId} {args : Array Value} {below : List Frame} {meth : Method} {c : Code} {D : va_G} {τ : ClassId × ClassId × ClassId} {B : Nat} {A : Nat → Prop} {ad : Nat → Nat} (E : Cx p R s m args meth c prog_14_method_16_code 6 "DrawingMachineModel" 2 D τ B A) (hret : meth.sig.returnType = (some .boolean)) (o : Sg × Int32) (σ : Sg) (v3 : Int64) (s0 : Int32) (h : F_Mod_isMuch_75 σ v3 s0 = some o) {H : Heap} {locs : List Loc} {ls : Array Slot} (w : Wd s D A (wdM τ σ ad) H locs) (hl : lv_has ls 6 [(0, .ref (ad 59)), (3, .long v3)]) : W p l e R s m args below meth c H locs 0 0 (QI below args s A D τ (wdM τ o.1 ad) o.2) (F0 m 75 ls [.int s0]) := by
  refine lv_istore (lv' := [(5, .int s0), (0, .ref (ad 59)), (3, .long v3)]) E.x E.b d_Mod_isMuch_75 hl (by decide) rfl (fun ls hl => ?_)
  refine lv_aload_n E.x E.b d_Mod_isMuch_77 rfl (lv_at hl 1 rfl) ?_
  refine lv_iload E.x E.b d_Mod_isMuch_78 (lv_at hl 0 rfl) ?_
  refine lv_if_eq (tgt := 90) E.x E.b d_Mod_isMuch_80 (by decide) (fun c => ?_) (fun c => ?_)
  ·
    replace h := ifT c h
    refine lv_aload_n E.x E.b d_Mod_isMuch_90 rfl (lv_at hl 1 rfl) ?_
    refine gM_Mod_work E w k1779 d_Mod_isMuch_91 ?_
    refine lv_lload_n E.x E.b d_Mod_isMuch_94 rfl (lv_at hl 2 rfl) ?_
    refine lv_ladd E.x E.b d_Mod_isMuch_95 ?_
    exact bt_Mod_isMuch_96 E hret o σ s0 ((σ.2.1 0) + v3) h w (lv_sub hl [0] rfl)
  ·
    replace h := ifF c h
    refine lv_aload_n E.x E.b d_Mod_isMuch_83 rfl (lv_at hl 1 rfl) ?_
    refine gM_Mod_work E w k1779 d_Mod_isMuch_84 ?_
    refine lv_goto (tgt := 96) E.x E.b d_Mod_isMuch_87 (by decide) ?_
    exact bt_Mod_isMuch_96 E hret o σ s0 (σ.2.1 0) h w (lv_sub hl [0] rfl)
def F_Mod_isMuch (σ : Sg) : Option (Sg × Int32) := bd (F_Vwm_triangles σ (σ.2.2.1 3 0) (σ.2.2.1 3 2)) (fun o7 => lt (o7.2.toInt64 * ((3 * ((o7.1.1 5).toInt64)) + ((((o7.1.1 1).toInt64) * ((o7.1.1 2).toInt64)) * ((o7.1.1 6).toInt64)))) (fun y8 => if ((o7.1.2.1 0) + y8) ≤ 8388608 then (F_Mod_isMuch_75 o7.1 y8 0) else (F_Mod_isMuch_75 o7.1 y8 1)))
set_option maxRecDepth 10000 in
set_option maxHeartbeats 4000000 in
theorem c_Mod_isMuch (l : Launch) (D : va_G) (τ : ClassId × ClassId × ClassId) (B : Nat) (σ : Sg) (ad : Nat → Nat) (o : Sg × Int32) (h : F_Mod_isMuch σ = some o) : MI l y_Mod_isMuch (Cond.code y_Mod_isMuch prog_14_method_16_code 6 (some .boolean)) 2 D τ B [.ref (ad 59)] (wdM τ σ ad) (wdM τ o.1 ad) o.2 := by
  refine en_i (by decide) (Nat.le_of_ble_eq_true rfl) ?_
  intro p e R s m args below meth c H locs ls A E hret w hl
  have E : Cx p R s m args meth c prog_14_method_16_code 6 "DrawingMachineModel" 2 D τ B A := E
  have hl : lv_has ls 6 [(0, .ref (ad 59))] := hl
  refine lv_aload_n E.x E.b d_Mod_isMuch_0 rfl (lv_at hl 0 rfl) ?_
  refine gM_Mod_vertices E w k1772 d_Mod_isMuch_1 ?_
  refine lv_aload_n E.x E.b d_Mod_isMuch_4 rfl (lv_at hl 0 rfl) ?_
  refine gM_Mod_commands E w k1768 d_Mod_isMuch_5 ?_
  refine gNM_Cmd_argument E w n1467 d_Mod_isMuch_8 ?_
  refine lv_iconst (v := 0) E.x E.b d_Mod_isMuch_11 (by decide) ?_
  refine ialM E w (k := 3) (by decide) (show inb 0 300 by decide) d_Mod_isMuch_12 ?_
  refine wi_e (v := σ.2.2.1 3 0) rfl ?_
  refine lv_aload_n E.x E.b d_Mod_isMuch_13 rfl (lv_at hl 0 rfl) ?_
  refine gM_Mod_commands E w k1768 d_Mod_isMuch_14 ?_
  refine gNM_Cmd_argument E w n1467 d_Mod_isMuch_17 ?_
  refine lv_iconst (v := 2) E.x E.b d_Mod_isMuch_20 (by decide) ?_
  refine ialM E w (k := 3) (by decide) (show inb 2 300 by decide) d_Mod_isMuch_21 ?_
  refine wi_e (v := σ.2.2.1 3 2) rfl ?_
  obtain ⟨o7, h_o7, h⟩ := bd_some h
  refine clV_Vwm_triangles E w (x0 := (σ.2.2.1 3 0)) (x1 := (σ.2.2.1 3 2)) h_o7 k2152 (by decide) hl.1 (Nat.le_of_ble_eq_true rfl) d_Mod_isMuch_22 (fun H locs w => ?_)
  refine lv_i2l (v := o7.2.toInt64) E.x E.b d_Mod_isMuch_25 rfl ?_
  refine lv_lstore_n (lv' := [(1, .long o7.2.toInt64), (0, .ref (ad 59))]) E.x E.b d_Mod_isMuch_26 rfl hl (by decide) rfl (fun ls hl => ?_)
  refine lv_lload_n E.x E.b d_Mod_isMuch_27 rfl (lv_at hl 0 rfl) ?_
  refine lv_ldc2 (v := 3) E.x E.b E.o (E.w _ k2156) d_Mod_isMuch_28 ?_
  refine lv_aload_n E.x E.b d_Mod_isMuch_31 rfl (lv_at hl 1 rfl) ?_
  refine gM_Mod_cornersSteps E w k1777 d_Mod_isMuch_32 ?_
  refine lv_i2l (v := (o7.1.1 5).toInt64) E.x E.b d_Mod_isMuch_35 rfl ?_
  refine lv_lmul E.x E.b d_Mod_isMuch_36 ?_
  refine lv_aload_n E.x E.b d_Mod_isMuch_37 rfl (lv_at hl 1 rfl) ?_
  refine gM_Mod_wide E w k1766 d_Mod_isMuch_38 ?_
  refine lv_i2l (v := (o7.1.1 1).toInt64) E.x E.b d_Mod_isMuch_41 rfl ?_
  refine lv_aload_n E.x E.b d_Mod_isMuch_42 rfl (lv_at hl 1 rfl) ?_
  refine gM_Mod_high E w k1767 d_Mod_isMuch_43 ?_
  refine lv_i2l (v := (o7.1.1 2).toInt64) E.x E.b d_Mod_isMuch_46 rfl ?_
  refine lv_lmul E.x E.b d_Mod_isMuch_47 ?_
  refine lv_aload_n E.x E.b d_Mod_isMuch_48 rfl (lv_at hl 1 rfl) ?_
  refine gM_Mod_placesSteps E w k1778 d_Mod_isMuch_49 ?_
  refine lv_i2l (v := (o7.1.1 6).toInt64) E.x E.b d_Mod_isMuch_52 rfl ?_
  refine lv_lmul E.x E.b d_Mod_isMuch_53 ?_
  refine lv_ladd E.x E.b d_Mod_isMuch_54 ?_
  refine lv_lmul E.x E.b d_Mod_isMuch_55 ?_
  obtain ⟨y8, e_y8, h⟩ := lt_some h
  refine wl_e (v := y8) e_y8 ?_
  refine lv_lstore_n (lv' := [(3, .long y8), (1, .long o7.2.toInt64), (0, .ref (ad 59))]) E.x E.b d_Mod_isMuch_56 rfl hl (by decide) rfl (fun ls hl => ?_)
  refine lv_aload_n E.x E.b d_Mod_isMuch_57 rfl (lv_at hl 2 rfl) ?_
  refine gM_Mod_work E w k1779 d_Mod_isMuch_58 ?_
  refine lv_lload_n E.x E.b d_Mod_isMuch_61 rfl (lv_at hl 0 rfl) ?_
  refine lv_ladd E.x E.b d_Mod_isMuch_62 ?_
  refine lv_ldc2 (v := 8388608) E.x E.b E.o (E.w _ k2157) d_Mod_isMuch_63 ?_
  refine W.lcmp E.x E.b d_Mod_isMuch_66 ?_
  refine lv_if_le (tgt := 74) E.x E.b d_Mod_isMuch_67 (by decide) (fun c => ?_) (fun c => ?_)
  ·
    replace h := ifT (lgc_le.mp c) h
    refine lv_iconst (v := 0) E.x E.b d_Mod_isMuch_74 (by decide) ?_
    exact bt_Mod_isMuch_75 E hret o o7.1 y8 0 h w (lv_sub hl [2, 0] rfl)
  ·
    replace h := ifF (fun h9 => c (lgc_le.mpr h9)) h
    refine lv_iconst (v := 1) E.x E.b d_Mod_isMuch_70 (by decide) ?_
    refine lv_goto (tgt := 75) E.x E.b d_Mod_isMuch_71 (by decide) ?_
    exact bt_Mod_isMuch_75 E hret o o7.1 y8 1 h w (lv_sub hl [2, 0] rfl)
theorem clV_Mod_isMuch {p : Program} {l : Launch} {e : Env} {R : Room} {s : State} {m : MethodId} {args : Array Value} {below : List Frame} {meth : Method} {c : Code} {H : Heap} {locs : List Loc} {Q : State → Prop} {cc : ByteArray} {nL pc lev : Nat} {own : String} {D : va_G} {τ : ClassId × ClassId × ClassId} {B : Nat} {A : Nat → Prop} {σ : Sg} {ad : Nat → Nat} {ls : Array Slot} {rest : List Value} (E : Cx p R s m args meth c cc nL own lev D τ B A) (w : Wd s D A (wdM τ σ ad) H locs) {o : Sg × Int32} (h : F_Mod_isMuch σ = some o) {index : Nat} (hlk : Cond.methodLink own index y_Mod_isMuch ∈ tw) (hlev : 2 < lev) (hsz : ls.size = nL) (hr : (rest.map fun v => v.category).sum ≤ 8) (hd : decode cc pc = .ok (.invokevirtual index, 3)) (kk : ∀ (H1 : Heap) (locs1 : List Loc), Wd s D A (wdM τ o.1 ad) H1 locs1 → W p l e R s m args below meth c H1 locs1 0 0 Q (F0 m (pc + 3) ls (.int o.2 :: rest))) : W p l e R s m args below meth c H locs 0 0 Q (F0 m pc ls (.ref (ad 59) :: rest)) :=
  cr_i w E.C (va_runV (As := []) (rest := rest) E.fix (c_Mod_isMuch l D τ B σ ad o h H.size) (cwV 0 E.w (tw_pre (tw_good k2151) (l := [_, _, _, _]) (List.forall_mem_cons.mpr ⟨hlk, List.forall_mem_cons.mpr ⟨k2150, List.forall_mem_cons.mpr ⟨ks71, List.forall_mem_cons.mpr ⟨k14, fun _ h => absurd h List.not_mem_nil⟩⟩⟩⟩)) rfl rfl rfl (by decide +kernel) (E.rm hlev (by decide))) (wd_preV w E.C [] rcM_Mod rfl) rfl rfl hsz rfl (lv_room hr) hd ⟨Nat.zero_le _, Nat.zero_le _⟩) kk

theorem d_Mod_no_0 : decode prog_14_method_15_code 0 = .ok (.aload_n 0, 1) := by decide +kernel
theorem d_Mod_no_1 : decode prog_14_method_15_code 1 = .ok (.getfield 19, 3) := by decide +kernel
theorem d_Mod_no_4 : decode prog_14_method_15_code 4 = .ok (.dup, 1) := by decide +kernel
theorem d_Mod_no_5 : decode prog_14_method_15_code 5 = .ok (.getfield 192, 3) := by decide +kernel
theorem d_Mod_no_8 : decode prog_14_method_15_code 8 = .ok (.iconst 1, 1) := by decide +kernel
theorem d_Mod_no_9 : decode prog_14_method_15_code 9 = .ok (.isub, 1) := by decide +kernel
theorem d_Mod_no_10 : decode prog_14_method_15_code 10 = .ok (.putfield 192, 3) := by decide +kernel
theorem d_Mod_no_13 : decode prog_14_method_15_code 13 = .ok (.aload_n 0, 1) := by decide +kernel
theorem d_Mod_no_14 : decode prog_14_method_15_code 14 = .ok (.getfield 19, 3) := by decide +kernel
theorem d_Mod_no_17 : decode prog_14_method_15_code 17 = .ok (.iload_n 1, 1) := by decide +kernel
theorem d_Mod_no_18 : decode prog_14_method_15_code 18 = .ok (.putfield 195, 3) := by decide +kernel
theorem d_Mod_no_21 : decode prog_14_method_15_code 21 = .ok (.aload_n 0, 1) := by decide +kernel
theorem d_Mod_no_22 : decode prog_14_method_15_code 22 = .ok (.getfield 19, 3) := by decide +kernel
theorem d_Mod_no_25 : decode prog_14_method_15_code 25 = .ok (.iconst 1, 1) := by decide +kernel
theorem d_Mod_no_26 : decode prog_14_method_15_code 26 = .ok (.putfield 132, 3) := by decide +kernel
theorem d_Mod_no_29 : decode prog_14_method_15_code 29 = .ok (.aload_n 0, 1) := by decide +kernel
theorem d_Mod_no_30 : decode prog_14_method_15_code 30 = .ok (.getfield 19, 3) := by decide +kernel
theorem d_Mod_no_33 : decode prog_14_method_15_code 33 = .ok (.iconst 0, 1) := by decide +kernel
theorem d_Mod_no_34 : decode prog_14_method_15_code 34 = .ok (.putfield 198, 3) := by decide +kernel
theorem d_Mod_no_37 : decode prog_14_method_15_code 37 = .ok (.iconst 0, 1) := by decide +kernel
theorem d_Mod_no_38 : decode prog_14_method_15_code 38 = .ok (.ireturn, 1) := by decide +kernel
def F_Mod_no (σ : Sg) (x0 : Int32) : Option (Sg × Int32) := lt (sI σ 17 ((σ.1 17) - 1)) (fun σ5 => lt (sI σ5 14 x0) (fun σ6 => lt (sI σ6 13 1) (fun σ7 => lt (sI σ7 19 0) (fun σ8 => some (σ8, 0)))))
set_option maxRecDepth 10000 in
set_option maxHeartbeats 4000000 in
theorem c_Mod_no (l : Launch) (D : va_G) (τ : ClassId × ClassId × ClassId) (B : Nat) (σ : Sg) (ad : Nat → Nat) (x0 : Int32) (o : Sg × Int32) (h : F_Mod_no σ x0 = some o) : MI l y_Mod_no (Cond.code y_Mod_no prog_14_method_15_code 2 (some .boolean)) 0 D τ B [.ref (ad 59), .int x0] (wdM τ σ ad) (wdM τ o.1 ad) o.2 := by
  refine en_i (by decide) (Nat.le_of_ble_eq_true rfl) ?_
  intro p e R s m args below meth c H locs ls A E hret w hl
  have E : Cx p R s m args meth c prog_14_method_15_code 2 "DrawingMachineModel" 0 D τ B A := E
  have hl : lv_has ls 2 [(0, .ref (ad 59)), (1, .int x0)] := hl
  refine lv_aload_n E.x E.b d_Mod_no_0 rfl (lv_at hl 0 rfl) ?_
  refine gM_Mod_commands E w k1768 d_Mod_no_1 ?_
  refine lv_dup E.x E.b d_Mod_no_4 rfl ?_
  refine gNM_Cmd_done E w n1460 d_Mod_no_5 ?_
  refine lv_iconst (v := 1) E.x E.b d_Mod_no_8 (by decide) ?_
  refine lv_isub E.x E.b d_Mod_no_9 ?_
  obtain ⟨σ5, e_σ5, h⟩ := lt_some h
  refine pNM_Cmd_done E w n1460 e_σ5 d_Mod_no_10 (fun H locs w => ?_)
  refine lv_aload_n E.x E.b d_Mod_no_13 rfl (lv_at hl 0 rfl) ?_
  refine gM_Mod_commands E w k1768 d_Mod_no_14 ?_
  refine lv_iload_n E.x E.b d_Mod_no_17 rfl (lv_at hl 1 rfl) ?_
  obtain ⟨σ6, e_σ6, h⟩ := lt_some h
  refine pNM_Cmd_refusal E w n1456 e_σ6 d_Mod_no_18 (fun H locs w => ?_)
  refine lv_aload_n E.x E.b d_Mod_no_21 rfl (lv_at hl 0 rfl) ?_
  refine gM_Mod_commands E w k1768 d_Mod_no_22 ?_
  refine lv_iconst (v := 1) E.x E.b d_Mod_no_25 (by decide) ?_
  obtain ⟨σ7, e_σ7, h⟩ := lt_some h
  refine pNM_Cmd_over E w n1454 (by decide) e_σ7 d_Mod_no_26 (fun H locs w => ?_)
  refine lv_aload_n E.x E.b d_Mod_no_29 rfl (lv_at hl 0 rfl) ?_
  refine gM_Mod_commands E w k1768 d_Mod_no_30 ?_
  refine lv_iconst (v := 0) E.x E.b d_Mod_no_33 (by decide) ?_
  obtain ⟨σ8, e_σ8, h⟩ := lt_some h
  refine pNM_Cmd_arguments E w n1464 e_σ8 d_Mod_no_34 (fun H locs w => ?_)
  refine lv_iconst (v := 0) E.x E.b d_Mod_no_37 (by decide) ?_
  obtain rfl := Option.some.inj h
  exact rt_z E w hret (show (0 : Int32) = 0 ∨ (0 : Int32) = 1 by decide) d_Mod_no_38
theorem clV_Mod_no {p : Program} {l : Launch} {e : Env} {R : Room} {s : State} {m : MethodId} {args : Array Value} {below : List Frame} {meth : Method} {c : Code} {H : Heap} {locs : List Loc} {Q : State → Prop} {cc : ByteArray} {nL pc lev : Nat} {own : String} {D : va_G} {τ : ClassId × ClassId × ClassId} {B : Nat} {A : Nat → Prop} {σ : Sg} {ad : Nat → Nat} {ls : Array Slot} {rest : List Value} (E : Cx p R s m args meth c cc nL own lev D τ B A) (w : Wd s D A (wdM τ σ ad) H locs) {x0 : Int32} {o : Sg × Int32} (h : F_Mod_no σ x0 = some o) {index : Nat} (hlk : Cond.methodLink own index y_Mod_no ∈ tw) (hlev : 0 < lev) (hsz : ls.size = nL) (hr : (rest.map fun v => v.category).sum ≤ 8) (hd : decode cc pc = .ok (.invokevirtual index, 3)) (kk : ∀ (H1 : Heap) (locs1 : List Loc), Wd s D A (wdM τ o.1 ad) H1 locs1 → W p l e R s m args below meth c H1 locs1 0 0 Q (F0 m (pc + 3) ls (.int o.2 :: rest))) : W p l e R s m args below meth c H locs 0 0 Q (F0 m pc ls (.int x0 :: .ref (ad 59) :: rest)) :=
  cr_i w E.C (va_runV (As := [.int x0]) (rest := rest) E.fix (c_Mod_no l D τ B σ ad x0 o h H.size) (cwV 1 E.w (tw_pre (tw_good k2147) (l := [_, _, _, _]) (List.forall_mem_cons.mpr ⟨hlk, List.forall_mem_cons.mpr ⟨k2146, List.forall_mem_cons.mpr ⟨ks70, List.forall_mem_cons.mpr ⟨k14, fun _ h => absurd h List.not_mem_nil⟩⟩⟩⟩)) rfl rfl rfl (by decide +kernel) (E.rm hlev (by decide))) (wd_preV w E.C [.int x0] rcM_Mod rfl) rfl rfl hsz rfl (lv_room hr) hd ⟨Nat.zero_le _, Nat.zero_le _⟩) kk

theorem d_Shm_around_0 : decode prog_18_method_13_code 0 = .ok (.iconst 0, 1) := by decide +kernel
theorem d_Shm_around_1 : decode prog_18_method_13_code 1 = .ok (.istore_n 2, 1) := by decide +kernel
theorem d_Shm_around_2 : decode prog_18_method_13_code 2 = .ok (.iload_n 1, 1) := by decide +kernel
theorem d_Shm_around_3 : decode prog_18_method_13_code 3 = .ok (.iconst 1, 1) := by decide +kernel
theorem d_Shm_around_4 : decode prog_18_method_13_code 4 = .ok (.isub, 1) := by decide +kernel
theorem d_Shm_around_5 : decode prog_18_method_13_code 5 = .ok (.istore_n 3, 1) := by decide +kernel
theorem d_Shm_around_6 : decode prog_18_method_13_code 6 = .ok (.iload_n 3, 1) := by decide +kernel
theorem d_Shm_around_7 : decode prog_18_method_13_code 7 = .ok (.ifCond .lt 44, 3) := by decide +kernel
theorem d_Shm_around_10 : decode prog_18_method_13_code 10 = .ok (.aload_n 0, 1) := by decide +kernel
theorem d_Shm_around_11 : decode prog_18_method_13_code 11 = .ok (.iload_n 3, 1) := by decide +kernel
theorem d_Shm_around_12 : decode prog_18_method_13_code 12 = .ok (.invokestatic 56, 3) := by decide +kernel
theorem d_Shm_around_15 : decode prog_18_method_13_code 15 = .ok (.bipush 35, 2) := by decide +kernel
theorem d_Shm_around_17 : decode prog_18_method_13_code 17 = .ok (.if_icmp .ne 9, 3) := by decide +kernel
theorem d_Shm_around_20 : decode prog_18_method_13_code 20 = .ok (.iinc 2 1, 3) := by decide +kernel
theorem d_Shm_around_23 : decode prog_18_method_13_code 23 = .ok (.goto 22, 3) := by decide +kernel
theorem d_Shm_around_26 : decode prog_18_method_13_code 26 = .ok (.aload_n 0, 1) := by decide +kernel
theorem d_Shm_around_27 : decode prog_18_method_13_code 27 = .ok (.iload_n 3, 1) := by decide +kernel
theorem d_Shm_around_28 : decode prog_18_method_13_code 28 = .ok (.invokestatic 56, 3) := by decide +kernel
theorem d_Shm_around_31 : decode prog_18_method_13_code 31 = .ok (.bipush 34, 2) := by decide +kernel
theorem d_Shm_around_33 : decode prog_18_method_13_code 33 = .ok (.if_icmp .ne 12, 3) := by decide +kernel
theorem d_Shm_around_36 : decode prog_18_method_13_code 36 = .ok (.iload_n 2, 1) := by decide +kernel
theorem d_Shm_around_37 : decode prog_18_method_13_code 37 = .ok (.ifCond .ne 5, 3) := by decide +kernel
theorem d_Shm_around_40 : decode prog_18_method_13_code 40 = .ok (.iload_n 3, 1) := by decide +kernel
theorem d_Shm_around_41 : decode prog_18_method_13_code 41 = .ok (.ireturn, 1) := by decide +kernel
theorem d_Shm_around_42 : decode prog_18_method_13_code 42 = .ok (.iinc 2 (-1), 3) := by decide +kernel
theorem d_Shm_around_45 : decode prog_18_method_13_code 45 = .ok (.iinc 3 (-1), 3) := by decide +kernel
theorem d_Shm_around_48 : decode prog_18_method_13_code 48 = .ok (.goto (-42), 3) := by decide +kernel
theorem d_Shm_around_51 : decode prog_18_method_13_code 51 = .ok (.iconst (-1), 1) := by decide +kernel
theorem d_Shm_around_52 : decode prog_18_method_13_code 52 = .ok (.ireturn, 1) := by decide +kernel
def F_Shm_around_45 (rc_6 : Sg → Nat → Int32 → Int32 → Option (Int32)) (σ : Sg) (v0 : Nat) (v2 : Int32) (v3 : Int32) : Option (Int32) := ck (v0 < 58) (lt (v3 + (-1)) (fun y8 => rc_6 σ v0 v2 y8))
set_option maxRecDepth 10000 in
set_option maxHeartbeats 4000000 in
theorem bt_Shm_around_45 {p : Program} {l : Launch} {e : Env} {R : Room} {s : State} {m : MethodId} {args : Array Value} {below : List Frame} {meth : Method} {c : Code} {D : va_G} {τ : ClassId × ClassId × ClassId} {B : Nat} {A : Nat → Prop} {ad : Nat → Nat} (E : Cx p R s m args meth c prog_18_method_13_code 4 "DrawingMachineModel$ShaderMachineModel" 1 D τ B A) (hret : meth.sig.returnType = (some .int)) (o : Int32) (rc_6 : Sg → Nat → Int32 → Int32 → Option (Int32)) (σ : Sg) (hr_6 : ∀ (v0 : Nat) (v2 : Int32) (v3 : Int32) (H : Heap) (locs : List Loc) (ls : Array Slot), rc_6 σ v0 v2 v3 = some o → Wd s D A (wdM τ σ ad) H locs → lv_has ls 4 [(0, .ref (ad v0)), (2, .int v2), (3, .int v3)] → W p l e R s m args below meth c H locs 0 0 (QI below args s A D τ (wdM τ σ ad) o) (F0 m 6 ls [])) (v0 : Nat) (v2 : Int32) (v3 : Int32) (h : F_Shm_around_45 rc_6 σ v0 v2 v3 = some o) {H : Heap} {locs : List Loc} {ls : Array Slot} (w : Wd s D A (wdM τ σ ad) H locs) (hl : lv_has ls 4 [(0, .ref (ad v0)), (2, .int v2), (3, .int v3)]) : W p l e R s m args below meth c H locs 0 0 (QI below args s A D τ (wdM τ σ ad) o) (F0 m 45 ls []) := by
  obtain ⟨c7, h⟩ := ck_some h
  obtain ⟨y8, e_y8, h⟩ := lt_some h
  refine lv_iinc (v := y8) (lv' := [(3, .int y8), (0, .ref (ad v0)), (2, .int v2)]) E.x E.b d_Shm_around_45 hl (k := 2) rfl (e_y8) (by decide) rfl (fun ls hl => ?_)
  refine lv_goto (tgt := 6) E.x E.b d_Shm_around_48 (by decide) ?_
  exact hr_6 v0 v2 y8 _ _ _ h w (lv_sub hl [1, 2, 0] rfl)
def L_Shm_around_6 : Nat → Sg → Nat → Int32 → Int32 → Option (Int32)
  | 0, _, _, _, _ => none
  | n + 1, σ, v0, v2, v3 => ck (v0 < 58) (if v3 < 0 then (some (-1)) else (bd (F_Shm_kindOf σ v0 v3) (fun o10 => if o10 = 35 then (lt (v2 + 1) (fun y13 => F_Shm_around_45 (L_Shm_around_6 n) σ v0 y13 v3)) else (bd (F_Shm_kindOf σ v0 v3) (fun o11 => if o11 = 34 then (if v2 = 0 then (some v3) else (lt (v2 + (-1)) (fun y12 => F_Shm_around_45 (L_Shm_around_6 n) σ v0 y12 v3))) else (F_Shm_around_45 (L_Shm_around_6 n) σ v0 v2 v3))))))
set_option maxRecDepth 10000 in
set_option maxHeartbeats 4000000 in
theorem lt_Shm_around_6 {p : Program} {l : Launch} {e : Env} {R : Room} {s : State} {m : MethodId} {args : Array Value} {below : List Frame} {meth : Method} {c : Code} {D : va_G} {τ : ClassId × ClassId × ClassId} {B : Nat} {A : Nat → Prop} {ad : Nat → Nat} (E : Cx p R s m args meth c prog_18_method_13_code 4 "DrawingMachineModel$ShaderMachineModel" 1 D τ B A) (hret : meth.sig.returnType = (some .int)) (o : Int32) (σ : Sg) : ∀ (n : Nat) (v0 : Nat) (v2 : Int32) (v3 : Int32) (H : Heap) (locs : List Loc) (ls : Array Slot), L_Shm_around_6 n σ v0 v2 v3 = some o → Wd s D A (wdM τ σ ad) H locs → lv_has ls 4 [(0, .ref (ad v0)), (2, .int v2), (3, .int v3)] → W p l e R s m args below meth c H locs 0 0 (QI below args s A D τ (wdM τ σ ad) o) (F0 m 6 ls []) := by
  intro n
  induction n with
  | zero =>
    intro v0 v2 v3 H locs ls h w hl
    cases h
  | succ n hr_6 =>
    intro v0 v2 v3 H locs ls h w hl
    obtain ⟨c9, h⟩ := ck_some h
    refine lv_iload_n E.x E.b d_Shm_around_6 rfl (lv_at hl 2 rfl) ?_
    refine lv_if_lt (tgt := 51) E.x E.b d_Shm_around_7 (by decide) (fun c => ?_) (fun c => ?_)
    ·
      replace h := ifT c h
      refine lv_iconst (v := (-1)) E.x E.b d_Shm_around_51 (by decide) ?_
      obtain rfl := Option.some.inj h
      exact rt_i E w hret d_Shm_around_52
    ·
      replace h := ifF c h
      refine lv_aload_n E.x E.b d_Shm_around_10 rfl (lv_at hl 0 rfl) ?_
      refine lv_iload_n E.x E.b d_Shm_around_11 rfl (lv_at hl 2 rfl) ?_
      obtain ⟨o10, h_o10, h⟩ := bd_some h
      refine clS_Shm_kindOf E w (ar0 := v0) (x1 := v3) h_o10 k2099 (by decide) hl.1 (Nat.le_of_ble_eq_true rfl) d_Shm_around_12 (fun H locs w => ?_)
      refine lv_bipush (v := 35) E.x E.b d_Shm_around_15 (by decide) ?_
      refine lv_icmp_ne (tgt := 26) E.x E.b d_Shm_around_17 (by decide) (fun c => ?_) (fun c => ?_)
      ·
        replace h := ifF c h
        refine lv_aload_n E.x E.b d_Shm_around_26 rfl (lv_at hl 0 rfl) ?_
        refine lv_iload_n E.x E.b d_Shm_around_27 rfl (lv_at hl 2 rfl) ?_
        obtain ⟨o11, h_o11, h⟩ := bd_some h
        refine clS_Shm_kindOf E w (ar0 := v0) (x1 := v3) h_o11 k2099 (by decide) hl.1 (Nat.le_of_ble_eq_true rfl) d_Shm_around_28 (fun H locs w => ?_)
        refine lv_bipush (v := 34) E.x E.b d_Shm_around_31 (by decide) ?_
        refine lv_icmp_ne (tgt := 45) E.x E.b d_Shm_around_33 (by decide) (fun c => ?_) (fun c => ?_)
        ·
          replace h := ifF c h
          exact bt_Shm_around_45 E hret o (L_Shm_around_6 n) σ hr_6 v0 v2 v3 h w (lv_sub hl [0, 1, 2] rfl)
        ·
          replace h := ifT c h
          refine lv_iload_n E.x E.b d_Shm_around_36 rfl (lv_at hl 1 rfl) ?_
          refine lv_if_ne (tgt := 42) E.x E.b d_Shm_around_37 (by decide) (fun c => ?_) (fun c => ?_)
          ·
            replace h := ifF c h
            obtain ⟨y12, e_y12, h⟩ := lt_some h
            refine lv_iinc (v := y12) (lv' := [(2, .int y12), (0, .ref (ad v0)), (3, .int v3)]) E.x E.b d_Shm_around_42 hl (k := 1) rfl (e_y12) (by decide) rfl (fun ls hl => ?_)
            exact bt_Shm_around_45 E hret o (L_Shm_around_6 n) σ hr_6 v0 y12 v3 h w (lv_sub hl [1, 0, 2] rfl)
          ·
            replace h := ifT c h
            refine lv_iload_n E.x E.b d_Shm_around_40 rfl (lv_at hl 2 rfl) ?_
            obtain rfl := Option.some.inj h
            exact rt_i E w hret d_Shm_around_41
      ·
        replace h := ifT c h
        obtain ⟨y13, e_y13, h⟩ := lt_some h
        refine lv_iinc (v := y13) (lv' := [(2, .int y13), (0, .ref (ad v0)), (3, .int v3)]) E.x E.b d_Shm_around_20 hl (k := 1) rfl (e_y13) (by decide) rfl (fun ls hl => ?_)
        refine lv_goto (tgt := 45) E.x E.b d_Shm_around_23 (by decide) ?_
        exact bt_Shm_around_45 E hret o (L_Shm_around_6 n) σ hr_6 v0 y13 v3 h w (lv_sub hl [1, 0, 2] rfl)
def F_Shm_around (σ : Sg) (ar0 : Nat) (x1 : Int32) : Option (Int32) := ck (ar0 < 58) (lt (x1 - 1) (fun y15 => L_Shm_around_6 100000 σ ar0 0 y15))
set_option maxRecDepth 10000 in
set_option maxHeartbeats 4000000 in
theorem c_Shm_around (l : Launch) (D : va_G) (τ : ClassId × ClassId × ClassId) (B : Nat) (σ : Sg) (ad : Nat → Nat) (ar0 : Nat) (x1 : Int32) (o : Int32) (h : F_Shm_around σ ar0 x1 = some o) : MI l y_Shm_around (Cond.code y_Shm_around prog_18_method_13_code 4 (some .int)) 1 D τ B [.ref (ad ar0), .int x1] (wdM τ σ ad) (wdM τ σ ad) o := by
  refine en_i (by decide) (Nat.le_of_ble_eq_true rfl) ?_
  intro p e R s m args below meth c H locs ls A E hret w hl
  have E : Cx p R s m args meth c prog_18_method_13_code 4 "DrawingMachineModel$ShaderMachineModel" 1 D τ B A := E
  have hl : lv_has ls 4 [(0, .ref (ad ar0)), (1, .int x1)] := hl
  obtain ⟨c14, h⟩ := ck_some h
  refine lv_iconst (v := 0) E.x E.b d_Shm_around_0 (by decide) ?_
  refine lv_istore_n (lv' := [(2, .int 0), (0, .ref (ad ar0)), (1, .int x1)]) E.x E.b d_Shm_around_1 rfl hl (by decide) rfl (fun ls hl => ?_)
  refine lv_iload_n E.x E.b d_Shm_around_2 rfl (lv_at hl 2 rfl) ?_
  refine lv_iconst (v := 1) E.x E.b d_Shm_around_3 (by decide) ?_
  refine lv_isub E.x E.b d_Shm_around_4 ?_
  obtain ⟨y15, e_y15, h⟩ := lt_some h
  refine wi_e (v := y15) e_y15 ?_
  refine lv_istore_n (lv' := [(3, .int y15), (2, .int 0), (0, .ref (ad ar0)), (1, .int x1)]) E.x E.b d_Shm_around_5 rfl hl (by decide) rfl (fun ls hl => ?_)
  exact lt_Shm_around_6 E hret o σ 100000 ar0 0 y15 _ _ _ h w (lv_sub hl [2, 1, 0] rfl)
theorem clS_Shm_around {p : Program} {l : Launch} {e : Env} {R : Room} {s : State} {m : MethodId} {args : Array Value} {below : List Frame} {meth : Method} {c : Code} {H : Heap} {locs : List Loc} {Q : State → Prop} {cc : ByteArray} {nL pc lev : Nat} {own : String} {D : va_G} {τ : ClassId × ClassId × ClassId} {B : Nat} {A : Nat → Prop} {σ : Sg} {ad : Nat → Nat} {ls : Array Slot} {rest : List Value} (E : Cx p R s m args meth c cc nL own lev D τ B A) (w : Wd s D A (wdM τ σ ad) H locs) {ar0 : Nat} {x1 : Int32} {o : Int32} (h : F_Shm_around σ ar0 x1 = some o) {index : Nat} (hlk : Cond.methodLink own index y_Shm_around ∈ tw) (hlev : 1 < lev) (hsz : ls.size = nL) (hr : (rest.map fun v => v.category).sum ≤ 8) (hd : decode cc pc = .ok (.invokestatic index, 3)) (kk : ∀ (H1 : Heap) (locs1 : List Loc), Wd s D A (wdM τ σ ad) H1 locs1 → W p l e R s m args below meth c H1 locs1 0 0 Q (F0 m (pc + 3) ls (.int o :: rest))) : W p l e R s m args below meth c H locs 0 0 Q (F0 m pc ls (.int x1 :: .ref (ad ar0) :: rest)) :=
  cr_i w E.C (va_runS (As := [.ref (ad ar0), .int x1]) (rest := rest) E.fix (c_Shm_around l D τ B σ ad ar0 x1 o h H.size) (va_cwS 2 E.w (tw_pre (tw_good k2139) (l := [_, _, _]) (List.forall_mem_cons.mpr ⟨hlk, List.forall_mem_cons.mpr ⟨k2138, List.forall_mem_cons.mpr ⟨k17, fun _ h => absurd h List.not_mem_nil⟩⟩⟩)) rfl rfl rfl (by decide +kernel) (E.rm hlev (by decide))) (wd_pre w E.C [.ref (ad ar0), .int x1]) rfl rfl hsz rfl (lv_room hr) hd ⟨Nat.zero_le _, Nat.zero_le _⟩) kk

theorem d_Shm_closing_0 : decode prog_18_method_14_code 0 = .ok (.iconst 0, 1) := by decide +kernel
theorem d_Shm_closing_1 : decode prog_18_method_14_code 1 = .ok (.istore_n 3, 1) := by decide +kernel
theorem d_Shm_closing_2 : decode prog_18_method_14_code 2 = .ok (.iload_n 1, 1) := by decide +kernel
theorem d_Shm_closing_3 : decode prog_18_method_14_code 3 = .ok (.iconst 1, 1) := by decide +kernel
theorem d_Shm_closing_4 : decode prog_18_method_14_code 4 = .ok (.iadd, 1) := by decide +kernel
theorem d_Shm_closing_5 : decode prog_18_method_14_code 5 = .ok (.istore 4, 2) := by decide +kernel
theorem d_Shm_closing_7 : decode prog_18_method_14_code 7 = .ok (.iload 4, 2) := by decide +kernel
theorem d_Shm_closing_9 : decode prog_18_method_14_code 9 = .ok (.iload_n 2, 1) := by decide +kernel
theorem d_Shm_closing_10 : decode prog_18_method_14_code 10 = .ok (.if_icmp .ge 47, 3) := by decide +kernel
theorem d_Shm_closing_13 : decode prog_18_method_14_code 13 = .ok (.aload_n 0, 1) := by decide +kernel
theorem d_Shm_closing_14 : decode prog_18_method_14_code 14 = .ok (.iload 4, 2) := by decide +kernel
theorem d_Shm_closing_16 : decode prog_18_method_14_code 16 = .ok (.invokestatic 56, 3) := by decide +kernel
theorem d_Shm_closing_19 : decode prog_18_method_14_code 19 = .ok (.bipush 34, 2) := by decide +kernel
theorem d_Shm_closing_21 : decode prog_18_method_14_code 21 = .ok (.if_icmp .ne 9, 3) := by decide +kernel
theorem d_Shm_closing_24 : decode prog_18_method_14_code 24 = .ok (.iinc 3 1, 3) := by decide +kernel
theorem d_Shm_closing_27 : decode prog_18_method_14_code 27 = .ok (.goto 24, 3) := by decide +kernel
theorem d_Shm_closing_30 : decode prog_18_method_14_code 30 = .ok (.aload_n 0, 1) := by decide +kernel
theorem d_Shm_closing_31 : decode prog_18_method_14_code 31 = .ok (.iload 4, 2) := by decide +kernel
theorem d_Shm_closing_33 : decode prog_18_method_14_code 33 = .ok (.invokestatic 56, 3) := by decide +kernel
theorem d_Shm_closing_36 : decode prog_18_method_14_code 36 = .ok (.bipush 35, 2) := by decide +kernel
theorem d_Shm_closing_38 : decode prog_18_method_14_code 38 = .ok (.if_icmp .ne 13, 3) := by decide +kernel
theorem d_Shm_closing_41 : decode prog_18_method_14_code 41 = .ok (.iload_n 3, 1) := by decide +kernel
theorem d_Shm_closing_42 : decode prog_18_method_14_code 42 = .ok (.ifCond .ne 6, 3) := by decide +kernel
theorem d_Shm_closing_45 : decode prog_18_method_14_code 45 = .ok (.iload 4, 2) := by decide +kernel
theorem d_Shm_closing_47 : decode prog_18_method_14_code 47 = .ok (.ireturn, 1) := by decide +kernel
theorem d_Shm_closing_48 : decode prog_18_method_14_code 48 = .ok (.iinc 3 (-1), 3) := by decide +kernel
theorem d_Shm_closing_51 : decode prog_18_method_14_code 51 = .ok (.iinc 4 1, 3) := by decide +kernel
theorem d_Shm_closing_54 : decode prog_18_method_14_code 54 = .ok (.goto (-47), 3) := by decide +kernel
theorem d_Shm_closing_57 : decode prog_18_method_14_code 57 = .ok (.iconst (-1), 1) := by decide +kernel
theorem d_Shm_closing_58 : decode prog_18_method_14_code 58 = .ok (.ireturn, 1) := by decide +kernel
def F_Shm_closing_51 (rc_7 : Sg → Nat → Int32 → Int32 → Int32 → Option (Int32)) (σ : Sg) (v0 : Nat) (v2 : Int32) (v3 : Int32) (v4 : Int32) : Option (Int32) := ck (v0 < 58) (lt (v4 + 1) (fun y8 => rc_7 σ v0 v2 v3 y8))
set_option maxRecDepth 10000 in
set_option maxHeartbeats 4000000 in
theorem bt_Shm_closing_51 {p : Program} {l : Launch} {e : Env} {R : Room} {s : State} {m : MethodId} {args : Array Value} {below : List Frame} {meth : Method} {c : Code} {D : va_G} {τ : ClassId × ClassId × ClassId} {B : Nat} {A : Nat → Prop} {ad : Nat → Nat} (E : Cx p R s m args meth c prog_18_method_14_code 5 "DrawingMachineModel$ShaderMachineModel" 1 D τ B A) (hret : meth.sig.returnType = (some .int)) (o : Int32) (rc_7 : Sg → Nat → Int32 → Int32 → Int32 → Option (Int32)) (σ : Sg) (hr_7 : ∀ (v0 : Nat) (v2 : Int32) (v3 : Int32) (v4 : Int32) (H : Heap) (locs : List Loc) (ls : Array Slot), rc_7 σ v0 v2 v3 v4 = some o → Wd s D A (wdM τ σ ad) H locs → lv_has ls 5 [(0, .ref (ad v0)), (2, .int v2), (3, .int v3), (4, .int v4)] → W p l e R s m args below meth c H locs 0 0 (QI below args s A D τ (wdM τ σ ad) o) (F0 m 7 ls [])) (v0 : Nat) (v2 : Int32) (v3 : Int32) (v4 : Int32) (h : F_Shm_closing_51 rc_7 σ v0 v2 v3 v4 = some o) {H : Heap} {locs : List Loc} {ls : Array Slot} (w : Wd s D A (wdM τ σ ad) H locs) (hl : lv_has ls 5 [(0, .ref (ad v0)), (2, .int v2), (3, .int v3), (4, .int v4)]) : W p l e R s m args below meth c H locs 0 0 (QI below args s A D τ (wdM τ σ ad) o) (F0 m 51 ls []) := by
  obtain ⟨c7, h⟩ := ck_some h
  obtain ⟨y8, e_y8, h⟩ := lt_some h
  refine lv_iinc (v := y8) (lv' := [(4, .int y8), (0, .ref (ad v0)), (2, .int v2), (3, .int v3)]) E.x E.b d_Shm_closing_51 hl (k := 3) rfl (e_y8) (by decide) rfl (fun ls hl => ?_)
  refine lv_goto (tgt := 7) E.x E.b d_Shm_closing_54 (by decide) ?_
  exact hr_7 v0 v2 v3 y8 _ _ _ h w (lv_sub hl [1, 2, 3, 0] rfl)
def L_Shm_closing_7 : Nat → Sg → Nat → Int32 → Int32 → Int32 → Option (Int32)
  | 0, _, _, _, _, _ => none
  | n + 1, σ, v0, v2, v3, v4 => ck (v0 < 58) (if v2 ≤ v4 then (some (-1)) else (bd (F_Shm_kindOf σ v0 v4) (fun o10 => if o10 = 34 then (lt (v3 + 1) (fun y13 => F_Shm_closing_51 (L_Shm_closing_7 n) σ v0 v2 y13 v4)) else (bd (F_Shm_kindOf σ v0 v4) (fun o11 => if o11 = 35 then (if v3 = 0 then (some v4) else (lt (v3 + (-1)) (fun y12 => F_Shm_closing_51 (L_Shm_closing_7 n) σ v0 v2 y12 v4))) else (F_Shm_closing_51 (L_Shm_closing_7 n) σ v0 v2 v3 v4))))))
set_option maxRecDepth 10000 in
set_option maxHeartbeats 4000000 in
theorem lt_Shm_closing_7 {p : Program} {l : Launch} {e : Env} {R : Room} {s : State} {m : MethodId} {args : Array Value} {below : List Frame} {meth : Method} {c : Code} {D : va_G} {τ : ClassId × ClassId × ClassId} {B : Nat} {A : Nat → Prop} {ad : Nat → Nat} (E : Cx p R s m args meth c prog_18_method_14_code 5 "DrawingMachineModel$ShaderMachineModel" 1 D τ B A) (hret : meth.sig.returnType = (some .int)) (o : Int32) (σ : Sg) : ∀ (n : Nat) (v0 : Nat) (v2 : Int32) (v3 : Int32) (v4 : Int32) (H : Heap) (locs : List Loc) (ls : Array Slot), L_Shm_closing_7 n σ v0 v2 v3 v4 = some o → Wd s D A (wdM τ σ ad) H locs → lv_has ls 5 [(0, .ref (ad v0)), (2, .int v2), (3, .int v3), (4, .int v4)] → W p l e R s m args below meth c H locs 0 0 (QI below args s A D τ (wdM τ σ ad) o) (F0 m 7 ls []) := by
  intro n
  induction n with
  | zero =>
    intro v0 v2 v3 v4 H locs ls h w hl
    cases h
  | succ n hr_7 =>
    intro v0 v2 v3 v4 H locs ls h w hl
    obtain ⟨c9, h⟩ := ck_some h
    refine lv_iload E.x E.b d_Shm_closing_7 (lv_at hl 3 rfl) ?_
    refine lv_iload_n E.x E.b d_Shm_closing_9 rfl (lv_at hl 1 rfl) ?_
    refine lv_icmp_ge (tgt := 57) E.x E.b d_Shm_closing_10 (by decide) (fun c => ?_) (fun c => ?_)
    ·
      replace h := ifT c h
      refine lv_iconst (v := (-1)) E.x E.b d_Shm_closing_57 (by decide) ?_
      obtain rfl := Option.some.inj h
      exact rt_i E w hret d_Shm_closing_58
    ·
      replace h := ifF c h
      refine lv_aload_n E.x E.b d_Shm_closing_13 rfl (lv_at hl 0 rfl) ?_
      refine lv_iload E.x E.b d_Shm_closing_14 (lv_at hl 3 rfl) ?_
      obtain ⟨o10, h_o10, h⟩ := bd_some h
      refine clS_Shm_kindOf E w (ar0 := v0) (x1 := v4) h_o10 k2099 (by decide) hl.1 (Nat.le_of_ble_eq_true rfl) d_Shm_closing_16 (fun H locs w => ?_)
      refine lv_bipush (v := 34) E.x E.b d_Shm_closing_19 (by decide) ?_
      refine lv_icmp_ne (tgt := 30) E.x E.b d_Shm_closing_21 (by decide) (fun c => ?_) (fun c => ?_)
      ·
        replace h := ifF c h
        refine lv_aload_n E.x E.b d_Shm_closing_30 rfl (lv_at hl 0 rfl) ?_
        refine lv_iload E.x E.b d_Shm_closing_31 (lv_at hl 3 rfl) ?_
        obtain ⟨o11, h_o11, h⟩ := bd_some h
        refine clS_Shm_kindOf E w (ar0 := v0) (x1 := v4) h_o11 k2099 (by decide) hl.1 (Nat.le_of_ble_eq_true rfl) d_Shm_closing_33 (fun H locs w => ?_)
        refine lv_bipush (v := 35) E.x E.b d_Shm_closing_36 (by decide) ?_
        refine lv_icmp_ne (tgt := 51) E.x E.b d_Shm_closing_38 (by decide) (fun c => ?_) (fun c => ?_)
        ·
          replace h := ifF c h
          exact bt_Shm_closing_51 E hret o (L_Shm_closing_7 n) σ hr_7 v0 v2 v3 v4 h w (lv_sub hl [0, 1, 2, 3] rfl)
        ·
          replace h := ifT c h
          refine lv_iload_n E.x E.b d_Shm_closing_41 rfl (lv_at hl 2 rfl) ?_
          refine lv_if_ne (tgt := 48) E.x E.b d_Shm_closing_42 (by decide) (fun c => ?_) (fun c => ?_)
          ·
            replace h := ifF c h
            obtain ⟨y12, e_y12, h⟩ := lt_some h
            refine lv_iinc (v := y12) (lv' := [(3, .int y12), (0, .ref (ad v0)), (2, .int v2), (4, .int v4)]) E.x E.b d_Shm_closing_48 hl (k := 2) rfl (e_y12) (by decide) rfl (fun ls hl => ?_)
            exact bt_Shm_closing_51 E hret o (L_Shm_closing_7 n) σ hr_7 v0 v2 y12 v4 h w (lv_sub hl [1, 2, 0, 3] rfl)
          ·
            replace h := ifT c h
            refine lv_iload E.x E.b d_Shm_closing_45 (lv_at hl 3 rfl) ?_
            obtain rfl := Option.some.inj h
            exact rt_i E w hret d_Shm_closing_47
      ·
        replace h := ifT c h
        obtain ⟨y13, e_y13, h⟩ := lt_some h
        refine lv_iinc (v := y13) (lv' := [(3, .int y13), (0, .ref (ad v0)), (2, .int v2), (4, .int v4)]) E.x E.b d_Shm_closing_24 hl (k := 2) rfl (e_y13) (by decide) rfl (fun ls hl => ?_)
        refine lv_goto (tgt := 51) E.x E.b d_Shm_closing_27 (by decide) ?_
        exact bt_Shm_closing_51 E hret o (L_Shm_closing_7 n) σ hr_7 v0 v2 y13 v4 h w (lv_sub hl [1, 2, 0, 3] rfl)
def F_Shm_closing (σ : Sg) (ar0 : Nat) (x1 : Int32) (x2 : Int32) : Option (Int32) := ck (ar0 < 58) (lt (x1 + 1) (fun y15 => L_Shm_closing_7 100000 σ ar0 x2 0 y15))
set_option maxRecDepth 10000 in
set_option maxHeartbeats 4000000 in
theorem c_Shm_closing (l : Launch) (D : va_G) (τ : ClassId × ClassId × ClassId) (B : Nat) (σ : Sg) (ad : Nat → Nat) (ar0 : Nat) (x1 : Int32) (x2 : Int32) (o : Int32) (h : F_Shm_closing σ ar0 x1 x2 = some o) : MI l y_Shm_closing (Cond.code y_Shm_closing prog_18_method_14_code 5 (some .int)) 1 D τ B [.ref (ad ar0), .int x1, .int x2] (wdM τ σ ad) (wdM τ σ ad) o := by
  refine en_i (by decide) (Nat.le_of_ble_eq_true rfl) ?_
  intro p e R s m args below meth c H locs ls A E hret w hl
  have E : Cx p R s m args meth c prog_18_method_14_code 5 "DrawingMachineModel$ShaderMachineModel" 1 D τ B A := E
  have hl : lv_has ls 5 [(0, .ref (ad ar0)), (1, .int x1), (2, .int x2)] := hl
  obtain ⟨c14, h⟩ := ck_some h
  refine lv_iconst (v := 0) E.x E.b d_Shm_closing_0 (by decide) ?_
  refine lv_istore_n (lv' := [(3, .int 0), (0, .ref (ad ar0)), (1, .int x1), (2, .int x2)]) E.x E.b d_Shm_closing_1 rfl hl (by decide) rfl (fun ls hl => ?_)
  refine lv_iload_n E.x E.b d_Shm_closing_2 rfl (lv_at hl 2 rfl) ?_
  refine lv_iconst (v := 1) E.x E.b d_Shm_closing_3 (by decide) ?_
  refine lv_iadd E.x E.b d_Shm_closing_4 ?_
  obtain ⟨y15, e_y15, h⟩ := lt_some h
  refine wi_e (v := y15) e_y15 ?_
  refine lv_istore (lv' := [(4, .int y15), (3, .int 0), (0, .ref (ad ar0)), (1, .int x1), (2, .int x2)]) E.x E.b d_Shm_closing_5 hl (by decide) rfl (fun ls hl => ?_)
  exact lt_Shm_closing_7 E hret o σ 100000 ar0 x2 0 y15 _ _ _ h w (lv_sub hl [2, 4, 1, 0] rfl)
theorem clS_Shm_closing {p : Program} {l : Launch} {e : Env} {R : Room} {s : State} {m : MethodId} {args : Array Value} {below : List Frame} {meth : Method} {c : Code} {H : Heap} {locs : List Loc} {Q : State → Prop} {cc : ByteArray} {nL pc lev : Nat} {own : String} {D : va_G} {τ : ClassId × ClassId × ClassId} {B : Nat} {A : Nat → Prop} {σ : Sg} {ad : Nat → Nat} {ls : Array Slot} {rest : List Value} (E : Cx p R s m args meth c cc nL own lev D τ B A) (w : Wd s D A (wdM τ σ ad) H locs) {ar0 : Nat} {x1 : Int32} {x2 : Int32} {o : Int32} (h : F_Shm_closing σ ar0 x1 x2 = some o) {index : Nat} (hlk : Cond.methodLink own index y_Shm_closing ∈ tw) (hlev : 1 < lev) (hsz : ls.size = nL) (hr : (rest.map fun v => v.category).sum ≤ 8) (hd : decode cc pc = .ok (.invokestatic index, 3)) (kk : ∀ (H1 : Heap) (locs1 : List Loc), Wd s D A (wdM τ σ ad) H1 locs1 → W p l e R s m args below meth c H1 locs1 0 0 Q (F0 m (pc + 3) ls (.int o :: rest))) : W p l e R s m args below meth c H locs 0 0 Q (F0 m pc ls (.int x2 :: .int x1 :: .ref (ad ar0) :: rest)) :=
  cr_i w E.C (va_runS (As := [.ref (ad ar0), .int x1, .int x2]) (rest := rest) E.fix (c_Shm_closing l D τ B σ ad ar0 x1 x2 o h H.size) (va_cwS 3 E.w (tw_pre (tw_good k2136) (l := [_, _, _]) (List.forall_mem_cons.mpr ⟨hlk, List.forall_mem_cons.mpr ⟨k2135, List.forall_mem_cons.mpr ⟨k17, fun _ h => absurd h List.not_mem_nil⟩⟩⟩)) rfl rfl rfl (by decide +kernel) (E.rm hlev (by decide))) (wd_pre w E.C [.ref (ad ar0), .int x1, .int x2]) rfl rfl hsz rfl (lv_room hr) hd ⟨Nat.zero_le _, Nat.zero_le _⟩) kk

theorem d_Shm_badNumber_0 : decode prog_18_method_10_code 0 = .ok (.aload_n 0, 1) := by decide +kernel
theorem d_Shm_badNumber_1 : decode prog_18_method_10_code 1 = .ok (.iload_n 1, 1) := by decide +kernel
theorem d_Shm_badNumber_2 : decode prog_18_method_10_code 2 = .ok (.invokestatic 72, 3) := by decide +kernel
theorem d_Shm_badNumber_5 : decode prog_18_method_10_code 5 = .ok (.istore_n 3, 1) := by decide +kernel
theorem d_Shm_badNumber_6 : decode prog_18_method_10_code 6 = .ok (.aload_n 0, 1) := by decide +kernel
theorem d_Shm_badNumber_7 : decode prog_18_method_10_code 7 = .ok (.iload_n 1, 1) := by decide +kernel
theorem d_Shm_badNumber_8 : decode prog_18_method_10_code 8 = .ok (.invokestatic 56, 3) := by decide +kernel
theorem d_Shm_badNumber_11 : decode prog_18_method_10_code 11 = .ok (.tableswitch 82 32 37 #[71, 71, 53, 82, 37, 37], 37) := by decide +kernel
theorem d_Shm_badNumber_48 : decode prog_18_method_10_code 48 = .ok (.iload_n 3, 1) := by decide +kernel
theorem d_Shm_badNumber_49 : decode prog_18_method_10_code 49 = .ok (.iload_n 1, 1) := by decide +kernel
theorem d_Shm_badNumber_50 : decode prog_18_method_10_code 50 = .ok (.if_icmp .le 8, 3) := by decide +kernel
theorem d_Shm_badNumber_53 : decode prog_18_method_10_code 53 = .ok (.iload_n 3, 1) := by decide +kernel
theorem d_Shm_badNumber_54 : decode prog_18_method_10_code 54 = .ok (.iload_n 2, 1) := by decide +kernel
theorem d_Shm_badNumber_55 : decode prog_18_method_10_code 55 = .ok (.if_icmp .lt 7, 3) := by decide +kernel
theorem d_Shm_badNumber_58 : decode prog_18_method_10_code 58 = .ok (.iconst 1, 1) := by decide +kernel
theorem d_Shm_badNumber_59 : decode prog_18_method_10_code 59 = .ok (.goto 4, 3) := by decide +kernel
theorem d_Shm_badNumber_62 : decode prog_18_method_10_code 62 = .ok (.iconst 0, 1) := by decide +kernel
theorem d_Shm_badNumber_63 : decode prog_18_method_10_code 63 = .ok (.ireturn, 1) := by decide +kernel
theorem d_Shm_badNumber_64 : decode prog_18_method_10_code 64 = .ok (.iload_n 3, 1) := by decide +kernel
theorem d_Shm_badNumber_65 : decode prog_18_method_10_code 65 = .ok (.iconst 1, 1) := by decide +kernel
theorem d_Shm_badNumber_66 : decode prog_18_method_10_code 66 = .ok (.if_icmp .lt 10, 3) := by decide +kernel
theorem d_Shm_badNumber_69 : decode prog_18_method_10_code 69 = .ok (.iload_n 3, 1) := by decide +kernel
theorem d_Shm_badNumber_70 : decode prog_18_method_10_code 70 = .ok (.sipush 255, 3) := by decide +kernel
theorem d_Shm_badNumber_73 : decode prog_18_method_10_code 73 = .ok (.if_icmp .le 7, 3) := by decide +kernel
theorem d_Shm_badNumber_76 : decode prog_18_method_10_code 76 = .ok (.iconst 1, 1) := by decide +kernel
theorem d_Shm_badNumber_77 : decode prog_18_method_10_code 77 = .ok (.goto 4, 3) := by decide +kernel
theorem d_Shm_badNumber_80 : decode prog_18_method_10_code 80 = .ok (.iconst 0, 1) := by decide +kernel
theorem d_Shm_badNumber_81 : decode prog_18_method_10_code 81 = .ok (.ireturn, 1) := by decide +kernel
theorem d_Shm_badNumber_82 : decode prog_18_method_10_code 82 = .ok (.iload_n 3, 1) := by decide +kernel
theorem d_Shm_badNumber_83 : decode prog_18_method_10_code 83 = .ok (.iconst 3, 1) := by decide +kernel
theorem d_Shm_badNumber_84 : decode prog_18_method_10_code 84 = .ok (.if_icmp .le 7, 3) := by decide +kernel
theorem d_Shm_badNumber_87 : decode prog_18_method_10_code 87 = .ok (.iconst 1, 1) := by decide +kernel
theorem d_Shm_badNumber_88 : decode prog_18_method_10_code 88 = .ok (.goto 4, 3) := by decide +kernel
theorem d_Shm_badNumber_91 : decode prog_18_method_10_code 91 = .ok (.iconst 0, 1) := by decide +kernel
theorem d_Shm_badNumber_92 : decode prog_18_method_10_code 92 = .ok (.ireturn, 1) := by decide +kernel
theorem d_Shm_badNumber_93 : decode prog_18_method_10_code 93 = .ok (.iload_n 3, 1) := by decide +kernel
theorem d_Shm_badNumber_94 : decode prog_18_method_10_code 94 = .ok (.ifCond .eq 7, 3) := by decide +kernel
theorem d_Shm_badNumber_97 : decode prog_18_method_10_code 97 = .ok (.iconst 1, 1) := by decide +kernel
theorem d_Shm_badNumber_98 : decode prog_18_method_10_code 98 = .ok (.goto 4, 3) := by decide +kernel
theorem d_Shm_badNumber_101 : decode prog_18_method_10_code 101 = .ok (.iconst 0, 1) := by decide +kernel
theorem d_Shm_badNumber_102 : decode prog_18_method_10_code 102 = .ok (.ireturn, 1) := by decide +kernel
def F_Shm_badNumber_102 (σ : Sg) (s0 : Int32) : Option (Int32) := ck (s0 = 0 ∨ s0 = 1) (some s0)
set_option maxRecDepth 10000 in
set_option maxHeartbeats 4000000 in
theorem bt_Shm_badNumber_102 {p : Program} {l : Launch} {e : Env} {R : Room} {s : State} {m : MethodId} {args : Array Value} {below : List Frame} {meth : Method} {c : Code} {D : va_G} {τ : ClassId × ClassId × ClassId} {B : Nat} {A : Nat → Prop} {ad : Nat → Nat} (E : Cx p R s m args meth c prog_18_method_10_code 4 "DrawingMachineModel$ShaderMachineModel" 1 D τ B A) (hret : meth.sig.returnType = (some .boolean)) (o : Int32) (σ : Sg) (s0 : Int32) (h : F_Shm_badNumber_102 σ s0 = some o) {H : Heap} {locs : List Loc} {ls : Array Slot} (w : Wd s D A (wdM τ σ ad) H locs) (hl : lv_has ls 4 []) : W p l e R s m args below meth c H locs 0 0 (QI below args s A D τ (wdM τ σ ad) o) (F0 m 102 ls [.int s0]) := by
  obtain ⟨c13, h⟩ := ck_some h
  obtain rfl := Option.some.inj h
  exact rt_z E w hret c13 d_Shm_badNumber_102
def F_Shm_badNumber_93 (σ : Sg) (v3 : Int32) : Option (Int32) := if v3 = 0 then (F_Shm_badNumber_102 σ 0) else (F_Shm_badNumber_102 σ 1)
set_option maxRecDepth 10000 in
set_option maxHeartbeats 4000000 in
theorem bt_Shm_badNumber_93 {p : Program} {l : Launch} {e : Env} {R : Room} {s : State} {m : MethodId} {args : Array Value} {below : List Frame} {meth : Method} {c : Code} {D : va_G} {τ : ClassId × ClassId × ClassId} {B : Nat} {A : Nat → Prop} {ad : Nat → Nat} (E : Cx p R s m args meth c prog_18_method_10_code 4 "DrawingMachineModel$ShaderMachineModel" 1 D τ B A) (hret : meth.sig.returnType = (some .boolean)) (o : Int32) (σ : Sg) (v3 : Int32) (h : F_Shm_badNumber_93 σ v3 = some o) {H : Heap} {locs : List Loc} {ls : Array Slot} (w : Wd s D A (wdM τ σ ad) H locs) (hl : lv_has ls 4 [(3, .int v3)]) : W p l e R s m args below meth c H locs 0 0 (QI below args s A D τ (wdM τ σ ad) o) (F0 m 93 ls []) := by
  refine lv_iload_n E.x E.b d_Shm_badNumber_93 rfl (lv_at hl 0 rfl) ?_
  refine lv_if_eq (tgt := 101) E.x E.b d_Shm_badNumber_94 (by decide) (fun c => ?_) (fun c => ?_)
  ·
    replace h := ifT c h
    refine lv_iconst (v := 0) E.x E.b d_Shm_badNumber_101 (by decide) ?_
    exact bt_Shm_badNumber_102 E hret o σ 0 h w (lv_sub hl [] rfl)
  ·
    replace h := ifF c h
    refine lv_iconst (v := 1) E.x E.b d_Shm_badNumber_97 (by decide) ?_
    refine lv_goto (tgt := 102) E.x E.b d_Shm_badNumber_98 (by decide) ?_
    exact bt_Shm_badNumber_102 E hret o σ 1 h w (lv_sub hl [] rfl)
def F_Shm_badNumber_92 (σ : Sg) (s0 : Int32) : Option (Int32) := ck (s0 = 0 ∨ s0 = 1) (some s0)
set_option maxRecDepth 10000 in
set_option maxHeartbeats 4000000 in
theorem bt_Shm_badNumber_92 {p : Program} {l : Launch} {e : Env} {R : Room} {s : State} {m : MethodId} {args : Array Value} {below : List Frame} {meth : Method} {c : Code} {D : va_G} {τ : ClassId × ClassId × ClassId} {B : Nat} {A : Nat → Prop} {ad : Nat → Nat} (E : Cx p R s m args meth c prog_18_method_10_code 4 "DrawingMachineModel$ShaderMachineModel" 1 D τ B A) (hret : meth.sig.returnType = (some .boolean)) (o : Int32) (σ : Sg) (s0 : Int32) (h : F_Shm_badNumber_92 σ s0 = some o) {H : Heap} {locs : List Loc} {ls : Array Slot} (w : Wd s D A (wdM τ σ ad) H locs) (hl : lv_has ls 4 []) : W p l e R s m args below meth c H locs 0 0 (QI below args s A D τ (wdM τ σ ad) o) (F0 m 92 ls [.int s0]) := by
  obtain ⟨c14, h⟩ := ck_some h
  obtain rfl := Option.some.inj h
  exact rt_z E w hret c14 d_Shm_badNumber_92
def F_Shm_badNumber_82 (σ : Sg) (v3 : Int32) : Option (Int32) := if v3 ≤ 3 then (F_Shm_badNumber_92 σ 0) else (F_Shm_badNumber_92 σ 1)
set_option maxRecDepth 10000 in
set_option maxHeartbeats 4000000 in
theorem bt_Shm_badNumber_82 {p : Program} {l : Launch} {e : Env} {R : Room} {s : State} {m : MethodId} {args : Array Value} {below : List Frame} {meth : Method} {c : Code} {D : va_G} {τ : ClassId × ClassId × ClassId} {B : Nat} {A : Nat → Prop} {ad : Nat → Nat} (E : Cx p R s m args meth c prog_18_method_10_code 4 "DrawingMachineModel$ShaderMachineModel" 1 D τ B A) (hret : meth.sig.returnType = (some .boolean)) (o : Int32) (σ : Sg) (v3 : Int32) (h : F_Shm_badNumber_82 σ v3 = some o) {H : Heap} {locs : List Loc} {ls : Array Slot} (w : Wd s D A (wdM τ σ ad) H locs) (hl : lv_has ls 4 [(3, .int v3)]) : W p l e R s m args below meth c H locs 0 0 (QI below args s A D τ (wdM τ σ ad) o) (F0 m 82 ls []) := by
  refine lv_iload_n E.x E.b d_Shm_badNumber_82 rfl (lv_at hl 0 rfl) ?_
  refine lv_iconst (v := 3) E.x E.b d_Shm_badNumber_83 (by decide) ?_
  refine lv_icmp_le (tgt := 91) E.x E.b d_Shm_badNumber_84 (by decide) (fun c => ?_) (fun c => ?_)
  ·
    replace h := ifT c h
    refine lv_iconst (v := 0) E.x E.b d_Shm_badNumber_91 (by decide) ?_
    exact bt_Shm_badNumber_92 E hret o σ 0 h w (lv_sub hl [] rfl)
  ·
    replace h := ifF c h
    refine lv_iconst (v := 1) E.x E.b d_Shm_badNumber_87 (by decide) ?_
    refine lv_goto (tgt := 92) E.x E.b d_Shm_badNumber_88 (by decide) ?_
    exact bt_Shm_badNumber_92 E hret o σ 1 h w (lv_sub hl [] rfl)
def F_Shm_badNumber_81 (σ : Sg) (s0 : Int32) : Option (Int32) := ck (s0 = 0 ∨ s0 = 1) (some s0)
set_option maxRecDepth 10000 in
set_option maxHeartbeats 4000000 in
theorem bt_Shm_badNumber_81 {p : Program} {l : Launch} {e : Env} {R : Room} {s : State} {m : MethodId} {args : Array Value} {below : List Frame} {meth : Method} {c : Code} {D : va_G} {τ : ClassId × ClassId × ClassId} {B : Nat} {A : Nat → Prop} {ad : Nat → Nat} (E : Cx p R s m args meth c prog_18_method_10_code 4 "DrawingMachineModel$ShaderMachineModel" 1 D τ B A) (hret : meth.sig.returnType = (some .boolean)) (o : Int32) (σ : Sg) (s0 : Int32) (h : F_Shm_badNumber_81 σ s0 = some o) {H : Heap} {locs : List Loc} {ls : Array Slot} (w : Wd s D A (wdM τ σ ad) H locs) (hl : lv_has ls 4 []) : W p l e R s m args below meth c H locs 0 0 (QI below args s A D τ (wdM τ σ ad) o) (F0 m 81 ls [.int s0]) := by
  obtain ⟨c15, h⟩ := ck_some h
  obtain rfl := Option.some.inj h
  exact rt_z E w hret c15 d_Shm_badNumber_81
def F_Shm_badNumber_76 (σ : Sg) : Option (Int32) := F_Shm_badNumber_81 σ 1
set_option maxRecDepth 10000 in
set_option maxHeartbeats 4000000 in
theorem bt_Shm_badNumber_76 {p : Program} {l : Launch} {e : Env} {R : Room} {s : State} {m : MethodId} {args : Array Value} {below : List Frame} {meth : Method} {c : Code} {D : va_G} {τ : ClassId × ClassId × ClassId} {B : Nat} {A : Nat → Prop} {ad : Nat → Nat} (E : Cx p R s m args meth c prog_18_method_10_code 4 "DrawingMachineModel$ShaderMachineModel" 1 D τ B A) (hret : meth.sig.returnType = (some .boolean)) (o : Int32) (σ : Sg) (h : F_Shm_badNumber_76 σ = some o) {H : Heap} {locs : List Loc} {ls : Array Slot} (w : Wd s D A (wdM τ σ ad) H locs) (hl : lv_has ls 4 []) : W p l e R s m args below meth c H locs 0 0 (QI below args s A D τ (wdM τ σ ad) o) (F0 m 76 ls []) := by
  refine lv_iconst (v := 1) E.x E.b d_Shm_badNumber_76 (by decide) ?_
  refine lv_goto (tgt := 81) E.x E.b d_Shm_badNumber_77 (by decide) ?_
  exact bt_Shm_badNumber_81 E hret o σ 1 h w (lv_sub hl [] rfl)
def F_Shm_badNumber_63 (σ : Sg) (s0 : Int32) : Option (Int32) := ck (s0 = 0 ∨ s0 = 1) (some s0)
set_option maxRecDepth 10000 in
set_option maxHeartbeats 4000000 in
theorem bt_Shm_badNumber_63 {p : Program} {l : Launch} {e : Env} {R : Room} {s : State} {m : MethodId} {args : Array Value} {below : List Frame} {meth : Method} {c : Code} {D : va_G} {τ : ClassId × ClassId × ClassId} {B : Nat} {A : Nat → Prop} {ad : Nat → Nat} (E : Cx p R s m args meth c prog_18_method_10_code 4 "DrawingMachineModel$ShaderMachineModel" 1 D τ B A) (hret : meth.sig.returnType = (some .boolean)) (o : Int32) (σ : Sg) (s0 : Int32) (h : F_Shm_badNumber_63 σ s0 = some o) {H : Heap} {locs : List Loc} {ls : Array Slot} (w : Wd s D A (wdM τ σ ad) H locs) (hl : lv_has ls 4 []) : W p l e R s m args below meth c H locs 0 0 (QI below args s A D τ (wdM τ σ ad) o) (F0 m 63 ls [.int s0]) := by
  obtain ⟨c16, h⟩ := ck_some h
  obtain rfl := Option.some.inj h
  exact rt_z E w hret c16 d_Shm_badNumber_63
def F_Shm_badNumber_58 (σ : Sg) : Option (Int32) := F_Shm_badNumber_63 σ 1
set_option maxRecDepth 10000 in
set_option maxHeartbeats 4000000 in
theorem bt_Shm_badNumber_58 {p : Program} {l : Launch} {e : Env} {R : Room} {s : State} {m : MethodId} {args : Array Value} {below : List Frame} {meth : Method} {c : Code} {D : va_G} {τ : ClassId × ClassId × ClassId} {B : Nat} {A : Nat → Prop} {ad : Nat → Nat} (E : Cx p R s m args meth c prog_18_method_10_code 4 "DrawingMachineModel$ShaderMachineModel" 1 D τ B A) (hret : meth.sig.returnType = (some .boolean)) (o : Int32) (σ : Sg) (h : F_Shm_badNumber_58 σ = some o) {H : Heap} {locs : List Loc} {ls : Array Slot} (w : Wd s D A (wdM τ σ ad) H locs) (hl : lv_has ls 4 []) : W p l e R s m args below meth c H locs 0 0 (QI below args s A D τ (wdM τ σ ad) o) (F0 m 58 ls []) := by
  refine lv_iconst (v := 1) E.x E.b d_Shm_badNumber_58 (by decide) ?_
  refine lv_goto (tgt := 63) E.x E.b d_Shm_badNumber_59 (by decide) ?_
  exact bt_Shm_badNumber_63 E hret o σ 1 h w (lv_sub hl [] rfl)
def F_Shm_badNumber_48 (σ : Sg) (v1 : Int32) (v2 : Int32) (v3 : Int32) : Option (Int32) := if v3 ≤ v1 then (F_Shm_badNumber_58 σ) else (if v3 < v2 then (F_Shm_badNumber_63 σ 0) else (F_Shm_badNumber_58 σ))
set_option maxRecDepth 10000 in
set_option maxHeartbeats 4000000 in
theorem bt_Shm_badNumber_48 {p : Program} {l : Launch} {e : Env} {R : Room} {s : State} {m : MethodId} {args : Array Value} {below : List Frame} {meth : Method} {c : Code} {D : va_G} {τ : ClassId × ClassId × ClassId} {B : Nat} {A : Nat → Prop} {ad : Nat → Nat} (E : Cx p R s m args meth c prog_18_method_10_code 4 "DrawingMachineModel$ShaderMachineModel" 1 D τ B A) (hret : meth.sig.returnType = (some .boolean)) (o : Int32) (σ : Sg) (v1 : Int32) (v2 : Int32) (v3 : Int32) (h : F_Shm_badNumber_48 σ v1 v2 v3 = some o) {H : Heap} {locs : List Loc} {ls : Array Slot} (w : Wd s D A (wdM τ σ ad) H locs) (hl : lv_has ls 4 [(1, .int v1), (2, .int v2), (3, .int v3)]) : W p l e R s m args below meth c H locs 0 0 (QI below args s A D τ (wdM τ σ ad) o) (F0 m 48 ls []) := by
  refine lv_iload_n E.x E.b d_Shm_badNumber_48 rfl (lv_at hl 2 rfl) ?_
  refine lv_iload_n E.x E.b d_Shm_badNumber_49 rfl (lv_at hl 0 rfl) ?_
  refine lv_icmp_le (tgt := 58) E.x E.b d_Shm_badNumber_50 (by decide) (fun c => ?_) (fun c => ?_)
  ·
    replace h := ifT c h
    exact bt_Shm_badNumber_58 E hret o σ h w (lv_sub hl [] rfl)
  ·
    replace h := ifF c h
    refine lv_iload_n E.x E.b d_Shm_badNumber_53 rfl (lv_at hl 2 rfl) ?_
    refine lv_iload_n E.x E.b d_Shm_badNumber_54 rfl (lv_at hl 1 rfl) ?_
    refine lv_icmp_lt (tgt := 62) E.x E.b d_Shm_badNumber_55 (by decide) (fun c => ?_) (fun c => ?_)
    ·
      replace h := ifT c h
      refine lv_iconst (v := 0) E.x E.b d_Shm_badNumber_62 (by decide) ?_
      exact bt_Shm_badNumber_63 E hret o σ 0 h w (lv_sub hl [] rfl)
    ·
      replace h := ifF c h
      exact bt_Shm_badNumber_58 E hret o σ h w (lv_sub hl [] rfl)
def F_Shm_badNumber (σ : Sg) (ar0 : Nat) (x1 : Int32) (x2 : Int32) : Option (Int32) := ck (ar0 < 58) (bd (F_Shm_numberOf σ ar0 x1) (fun o18 => bd (F_Shm_kindOf σ ar0 x1) (fun o19 => if o19 = 32 then (F_Shm_badNumber_82 σ o18) else (if o19 = 33 then (F_Shm_badNumber_82 σ o18) else (if o19 = 34 then (if o18 < 1 then (F_Shm_badNumber_76 σ) else (if o18 ≤ 255 then (F_Shm_badNumber_81 σ 0) else (F_Shm_badNumber_76 σ))) else (if o19 = 35 then (F_Shm_badNumber_93 σ o18) else (if o19 = 36 then (F_Shm_badNumber_48 σ x1 x2 o18) else (if o19 = 37 then (F_Shm_badNumber_48 σ x1 x2 o18) else (F_Shm_badNumber_93 σ o18)))))))))
set_option maxRecDepth 10000 in
set_option maxHeartbeats 4000000 in
theorem c_Shm_badNumber (l : Launch) (D : va_G) (τ : ClassId × ClassId × ClassId) (B : Nat) (σ : Sg) (ad : Nat → Nat) (ar0 : Nat) (x1 : Int32) (x2 : Int32) (o : Int32) (h : F_Shm_badNumber σ ar0 x1 x2 = some o) : MI l y_Shm_badNumber (Cond.code y_Shm_badNumber prog_18_method_10_code 4 (some .boolean)) 1 D τ B [.ref (ad ar0), .int x1, .int x2] (wdM τ σ ad) (wdM τ σ ad) o := by
  refine en_i (by decide) (Nat.le_of_ble_eq_true rfl) ?_
  intro p e R s m args below meth c H locs ls A E hret w hl
  have E : Cx p R s m args meth c prog_18_method_10_code 4 "DrawingMachineModel$ShaderMachineModel" 1 D τ B A := E
  have hl : lv_has ls 4 [(0, .ref (ad ar0)), (1, .int x1), (2, .int x2)] := hl
  obtain ⟨c17, h⟩ := ck_some h
  refine lv_aload_n E.x E.b d_Shm_badNumber_0 rfl (lv_at hl 0 rfl) ?_
  refine lv_iload_n E.x E.b d_Shm_badNumber_1 rfl (lv_at hl 1 rfl) ?_
  obtain ⟨o18, h_o18, h⟩ := bd_some h
  refine clS_Shm_numberOf E w (ar0 := ar0) (x1 := x1) h_o18 k2124 (by decide) hl.1 (Nat.le_of_ble_eq_true rfl) d_Shm_badNumber_2 (fun H locs w => ?_)
  refine lv_istore_n (lv' := [(3, .int o18), (0, .ref (ad ar0)), (1, .int x1), (2, .int x2)]) E.x E.b d_Shm_badNumber_5 rfl hl (by decide) rfl (fun ls hl => ?_)
  refine lv_aload_n E.x E.b d_Shm_badNumber_6 rfl (lv_at hl 1 rfl) ?_
  refine lv_iload_n E.x E.b d_Shm_badNumber_7 rfl (lv_at hl 2 rfl) ?_
  obtain ⟨o19, h_o19, h⟩ := bd_some h
  refine clS_Shm_kindOf E w (ar0 := ar0) (x1 := x1) h_o19 k2099 (by decide) hl.1 (Nat.le_of_ble_eq_true rfl) d_Shm_badNumber_8 (fun H locs w => ?_)
  by_cases q20 : o19 = 32
  ·
    replace h := ifT q20 h
    refine wi_e (v := 32) q20 ?_
    refine lv_tableIn (off := 71) (tgt := 82) E.x E.b d_Shm_badNumber_11 (by decide) (by decide) (by decide) (by decide) ?_
    exact bt_Shm_badNumber_82 E hret o σ o18 h w (lv_sub hl [0] rfl)
  replace h := ifF q20 h
  replace q20 := ne_ti (k := 32) (by decide) q20
  by_cases q21 : o19 = 33
  ·
    replace h := ifT q21 h
    refine wi_e (v := 33) q21 ?_
    refine lv_tableIn (off := 71) (tgt := 82) E.x E.b d_Shm_badNumber_11 (by decide) (by decide) (by decide) (by decide) ?_
    exact bt_Shm_badNumber_82 E hret o σ o18 h w (lv_sub hl [0] rfl)
  replace h := ifF q21 h
  replace q21 := ne_ti (k := 33) (by decide) q21
  by_cases q22 : o19 = 34
  ·
    replace h := ifT q22 h
    refine wi_e (v := 34) q22 ?_
    refine lv_tableIn (off := 53) (tgt := 64) E.x E.b d_Shm_badNumber_11 (by decide) (by decide) (by decide) (by decide) ?_
    refine lv_iload_n E.x E.b d_Shm_badNumber_64 rfl (lv_at hl 0 rfl) ?_
    refine lv_iconst (v := 1) E.x E.b d_Shm_badNumber_65 (by decide) ?_
    refine lv_icmp_lt (tgt := 76) E.x E.b d_Shm_badNumber_66 (by decide) (fun c => ?_) (fun c => ?_)
    ·
      replace h := ifT c h
      exact bt_Shm_badNumber_76 E hret o σ h w (lv_sub hl [] rfl)
    ·
      replace h := ifF c h
      refine lv_iload_n E.x E.b d_Shm_badNumber_69 rfl (lv_at hl 0 rfl) ?_
      refine lv_sipush (v := 255) E.x E.b d_Shm_badNumber_70 (by decide) ?_
      refine lv_icmp_le (tgt := 80) E.x E.b d_Shm_badNumber_73 (by decide) (fun c => ?_) (fun c => ?_)
      ·
        replace h := ifT c h
        refine lv_iconst (v := 0) E.x E.b d_Shm_badNumber_80 (by decide) ?_
        exact bt_Shm_badNumber_81 E hret o σ 0 h w (lv_sub hl [] rfl)
      ·
        replace h := ifF c h
        exact bt_Shm_badNumber_76 E hret o σ h w (lv_sub hl [] rfl)
  replace h := ifF q22 h
  replace q22 := ne_ti (k := 34) (by decide) q22
  by_cases q23 : o19 = 35
  ·
    replace h := ifT q23 h
    refine wi_e (v := 35) q23 ?_
    refine lv_tableIn (off := 82) (tgt := 93) E.x E.b d_Shm_badNumber_11 (by decide) (by decide) (by decide) (by decide) ?_
    exact bt_Shm_badNumber_93 E hret o σ o18 h w (lv_sub hl [0] rfl)
  replace h := ifF q23 h
  replace q23 := ne_ti (k := 35) (by decide) q23
  by_cases q24 : o19 = 36
  ·
    replace h := ifT q24 h
    refine wi_e (v := 36) q24 ?_
    refine lv_tableIn (off := 37) (tgt := 48) E.x E.b d_Shm_badNumber_11 (by decide) (by decide) (by decide) (by decide) ?_
    exact bt_Shm_badNumber_48 E hret o σ x1 x2 o18 h w (lv_sub hl [2, 3, 0] rfl)
  replace h := ifF q24 h
  replace q24 := ne_ti (k := 36) (by decide) q24
  by_cases q25 : o19 = 37
  ·
    replace h := ifT q25 h
    refine wi_e (v := 37) q25 ?_
    refine lv_tableIn (off := 37) (tgt := 48) E.x E.b d_Shm_badNumber_11 (by decide) (by decide) (by decide) (by decide) ?_
    exact bt_Shm_badNumber_48 E hret o σ x1 x2 o18 h w (lv_sub hl [2, 3, 0] rfl)
  replace h := ifF q25 h
  replace q25 := ne_ti (k := 37) (by decide) q25
  refine lv_tableOut (tgt := 93) E.x E.b d_Shm_badNumber_11 (by omega) (by decide) ?_
  exact bt_Shm_badNumber_93 E hret o σ o18 h w (lv_sub hl [0] rfl)
theorem clS_Shm_badNumber {p : Program} {l : Launch} {e : Env} {R : Room} {s : State} {m : MethodId} {args : Array Value} {below : List Frame} {meth : Method} {c : Code} {H : Heap} {locs : List Loc} {Q : State → Prop} {cc : ByteArray} {nL pc lev : Nat} {own : String} {D : va_G} {τ : ClassId × ClassId × ClassId} {B : Nat} {A : Nat → Prop} {σ : Sg} {ad : Nat → Nat} {ls : Array Slot} {rest : List Value} (E : Cx p R s m args meth c cc nL own lev D τ B A) (w : Wd s D A (wdM τ σ ad) H locs) {ar0 : Nat} {x1 : Int32} {x2 : Int32} {o : Int32} (h : F_Shm_badNumber σ ar0 x1 x2 = some o) {index : Nat} (hlk : Cond.methodLink own index y_Shm_badNumber ∈ tw) (hlev : 1 < lev) (hsz : ls.size = nL) (hr : (rest.map fun v => v.category).sum ≤ 8) (hd : decode cc pc = .ok (.invokestatic index, 3)) (kk : ∀ (H1 : Heap) (locs1 : List Loc), Wd s D A (wdM τ σ ad) H1 locs1 → W p l e R s m args below meth c H1 locs1 0 0 Q (F0 m (pc + 3) ls (.int o :: rest))) : W p l e R s m args below meth c H locs 0 0 Q (F0 m pc ls (.int x2 :: .int x1 :: .ref (ad ar0) :: rest)) :=
  cr_i w E.C (va_runS (As := [.ref (ad ar0), .int x1, .int x2]) (rest := rest) E.fix (c_Shm_badNumber l D τ B σ ad ar0 x1 x2 o h H.size) (va_cwS 3 E.w (tw_pre (tw_good k2123) (l := [_, _, _]) (List.forall_mem_cons.mpr ⟨hlk, List.forall_mem_cons.mpr ⟨k2122, List.forall_mem_cons.mpr ⟨k17, fun _ h => absurd h List.not_mem_nil⟩⟩⟩)) rfl rfl rfl (by decide +kernel) (E.rm hlev (by decide))) (wd_pre w E.C [.ref (ad ar0), .int x1, .int x2]) rfl rfl hsz rfl (lv_room hr) hd ⟨Nat.zero_le _, Nat.zero_le _⟩) kk

theorem d_Shm_badSource_0 : decode prog_18_method_8_code 0 = .ok (.iload_n 1, 1) := by decide +kernel
theorem d_Shm_badSource_1 : decode prog_18_method_8_code 1 = .ok (.ifCond .ne 13, 3) := by decide +kernel
theorem d_Shm_badSource_4 : decode prog_18_method_8_code 4 = .ok (.iload_n 0, 1) := by decide +kernel
theorem d_Shm_badSource_5 : decode prog_18_method_8_code 5 = .ok (.ifCond .eq 7, 3) := by decide +kernel
theorem d_Shm_badSource_8 : decode prog_18_method_8_code 8 = .ok (.iconst 1, 1) := by decide +kernel
theorem d_Shm_badSource_9 : decode prog_18_method_8_code 9 = .ok (.goto 4, 3) := by decide +kernel
theorem d_Shm_badSource_12 : decode prog_18_method_8_code 12 = .ok (.iconst 0, 1) := by decide +kernel
theorem d_Shm_badSource_13 : decode prog_18_method_8_code 13 = .ok (.ireturn, 1) := by decide +kernel
theorem d_Shm_badSource_14 : decode prog_18_method_8_code 14 = .ok (.iload_n 0, 1) := by decide +kernel
theorem d_Shm_badSource_15 : decode prog_18_method_8_code 15 = .ok (.iconst 3, 1) := by decide +kernel
theorem d_Shm_badSource_16 : decode prog_18_method_8_code 16 = .ok (.iand, 1) := by decide +kernel
theorem d_Shm_badSource_17 : decode prog_18_method_8_code 17 = .ok (.istore_n 2, 1) := by decide +kernel
theorem d_Shm_badSource_18 : decode prog_18_method_8_code 18 = .ok (.iload_n 0, 1) := by decide +kernel
theorem d_Shm_badSource_19 : decode prog_18_method_8_code 19 = .ok (.iconst 2, 1) := by decide +kernel
theorem d_Shm_badSource_20 : decode prog_18_method_8_code 20 = .ok (.ishr, 1) := by decide +kernel
theorem d_Shm_badSource_21 : decode prog_18_method_8_code 21 = .ok (.bipush 31, 2) := by decide +kernel
theorem d_Shm_badSource_23 : decode prog_18_method_8_code 23 = .ok (.iand, 1) := by decide +kernel
theorem d_Shm_badSource_24 : decode prog_18_method_8_code 24 = .ok (.istore_n 3, 1) := by decide +kernel
theorem d_Shm_badSource_25 : decode prog_18_method_8_code 25 = .ok (.iload_n 2, 1) := by decide +kernel
theorem d_Shm_badSource_26 : decode prog_18_method_8_code 26 = .ok (.ifCond .ne 9, 3) := by decide +kernel
theorem d_Shm_badSource_29 : decode prog_18_method_8_code 29 = .ok (.iload_n 3, 1) := by decide +kernel
theorem d_Shm_badSource_30 : decode prog_18_method_8_code 30 = .ok (.bipush 15, 2) := by decide +kernel
theorem d_Shm_badSource_32 : decode prog_18_method_8_code 32 = .ok (.if_icmp .gt 23, 3) := by decide +kernel
theorem d_Shm_badSource_35 : decode prog_18_method_8_code 35 = .ok (.iload_n 2, 1) := by decide +kernel
theorem d_Shm_badSource_36 : decode prog_18_method_8_code 36 = .ok (.iconst 1, 1) := by decide +kernel
theorem d_Shm_badSource_37 : decode prog_18_method_8_code 37 = .ok (.if_icmp .ne 9, 3) := by decide +kernel
theorem d_Shm_badSource_40 : decode prog_18_method_8_code 40 = .ok (.iload_n 3, 1) := by decide +kernel
theorem d_Shm_badSource_41 : decode prog_18_method_8_code 41 = .ok (.bipush 7, 2) := by decide +kernel
theorem d_Shm_badSource_43 : decode prog_18_method_8_code 43 = .ok (.if_icmp .gt 12, 3) := by decide +kernel
theorem d_Shm_badSource_46 : decode prog_18_method_8_code 46 = .ok (.iload_n 2, 1) := by decide +kernel
theorem d_Shm_badSource_47 : decode prog_18_method_8_code 47 = .ok (.iconst 3, 1) := by decide +kernel
theorem d_Shm_badSource_48 : decode prog_18_method_8_code 48 = .ok (.if_icmp .ne 11, 3) := by decide +kernel
theorem d_Shm_badSource_51 : decode prog_18_method_8_code 51 = .ok (.iload_n 3, 1) := by decide +kernel
theorem d_Shm_badSource_52 : decode prog_18_method_8_code 52 = .ok (.ifCond .le 7, 3) := by decide +kernel
theorem d_Shm_badSource_55 : decode prog_18_method_8_code 55 = .ok (.iconst 1, 1) := by decide +kernel
theorem d_Shm_badSource_56 : decode prog_18_method_8_code 56 = .ok (.goto 4, 3) := by decide +kernel
theorem d_Shm_badSource_59 : decode prog_18_method_8_code 59 = .ok (.iconst 0, 1) := by decide +kernel
theorem d_Shm_badSource_60 : decode prog_18_method_8_code 60 = .ok (.ireturn, 1) := by decide +kernel
def F_Shm_badSource_60  (s0 : Int32) : Option (Int32) := ck (s0 = 0 ∨ s0 = 1) (some s0)
set_option maxRecDepth 10000 in
set_option maxHeartbeats 4000000 in
theorem bt_Shm_badSource_60 {p : Program} {l : Launch} {e : Env} {R : Room} {s : State} {m : MethodId} {args : Array Value} {below : List Frame} {meth : Method} {c : Code} {D : va_G} {τ : ClassId × ClassId × ClassId} {B : Nat} {A : Nat → Prop} {ad : Nat → Nat} {σ0 : Sg} (E : Cx p R s m args meth c prog_18_method_8_code 4 "DrawingMachineModel$ShaderMachineModel" 0 D τ B A) (hret : meth.sig.returnType = (some .boolean)) (o : Int32) (s0 : Int32) (h : F_Shm_badSource_60 s0 = some o) {H : Heap} {locs : List Loc} {ls : Array Slot} (w : Wd s D A (wdM τ σ0 ad) H locs) (hl : lv_has ls 4 []) : W p l e R s m args below meth c H locs 0 0 (QI below args s A D τ (wdM τ σ0 ad) o) (F0 m 60 ls [.int s0]) := by
  obtain ⟨c5, h⟩ := ck_some h
  obtain rfl := Option.some.inj h
  exact rt_z E w hret c5 d_Shm_badSource_60
def F_Shm_badSource_59  : Option (Int32) := F_Shm_badSource_60 0
set_option maxRecDepth 10000 in
set_option maxHeartbeats 4000000 in
theorem bt_Shm_badSource_59 {p : Program} {l : Launch} {e : Env} {R : Room} {s : State} {m : MethodId} {args : Array Value} {below : List Frame} {meth : Method} {c : Code} {D : va_G} {τ : ClassId × ClassId × ClassId} {B : Nat} {A : Nat → Prop} {ad : Nat → Nat} {σ0 : Sg} (E : Cx p R s m args meth c prog_18_method_8_code 4 "DrawingMachineModel$ShaderMachineModel" 0 D τ B A) (hret : meth.sig.returnType = (some .boolean)) (o : Int32) (h : F_Shm_badSource_59 = some o) {H : Heap} {locs : List Loc} {ls : Array Slot} (w : Wd s D A (wdM τ σ0 ad) H locs) (hl : lv_has ls 4 []) : W p l e R s m args below meth c H locs 0 0 (QI below args s A D τ (wdM τ σ0 ad) o) (F0 m 59 ls []) := by
  refine lv_iconst (v := 0) E.x E.b d_Shm_badSource_59 (by decide) ?_
  exact bt_Shm_badSource_60 E hret o 0 h w (lv_sub hl [] rfl)
def F_Shm_badSource_55  : Option (Int32) := F_Shm_badSource_60 1
set_option maxRecDepth 10000 in
set_option maxHeartbeats 4000000 in
theorem bt_Shm_badSource_55 {p : Program} {l : Launch} {e : Env} {R : Room} {s : State} {m : MethodId} {args : Array Value} {below : List Frame} {meth : Method} {c : Code} {D : va_G} {τ : ClassId × ClassId × ClassId} {B : Nat} {A : Nat → Prop} {ad : Nat → Nat} {σ0 : Sg} (E : Cx p R s m args meth c prog_18_method_8_code 4 "DrawingMachineModel$ShaderMachineModel" 0 D τ B A) (hret : meth.sig.returnType = (some .boolean)) (o : Int32) (h : F_Shm_badSource_55 = some o) {H : Heap} {locs : List Loc} {ls : Array Slot} (w : Wd s D A (wdM τ σ0 ad) H locs) (hl : lv_has ls 4 []) : W p l e R s m args below meth c H locs 0 0 (QI below args s A D τ (wdM τ σ0 ad) o) (F0 m 55 ls []) := by
  refine lv_iconst (v := 1) E.x E.b d_Shm_badSource_55 (by decide) ?_
  refine lv_goto (tgt := 60) E.x E.b d_Shm_badSource_56 (by decide) ?_
  exact bt_Shm_badSource_60 E hret o 1 h w (lv_sub hl [] rfl)
def F_Shm_badSource_46  (v2 : Int32) (v3 : Int32) : Option (Int32) := if v2 = 3 then (if v3 ≤ 0 then (F_Shm_badSource_59) else (F_Shm_badSource_55)) else (F_Shm_badSource_59)
set_option maxRecDepth 10000 in
set_option maxHeartbeats 4000000 in
theorem bt_Shm_badSource_46 {p : Program} {l : Launch} {e : Env} {R : Room} {s : State} {m : MethodId} {args : Array Value} {below : List Frame} {meth : Method} {c : Code} {D : va_G} {τ : ClassId × ClassId × ClassId} {B : Nat} {A : Nat → Prop} {ad : Nat → Nat} {σ0 : Sg} (E : Cx p R s m args meth c prog_18_method_8_code 4 "DrawingMachineModel$ShaderMachineModel" 0 D τ B A) (hret : meth.sig.returnType = (some .boolean)) (o : Int32) (v2 : Int32) (v3 : Int32) (h : F_Shm_badSource_46 v2 v3 = some o) {H : Heap} {locs : List Loc} {ls : Array Slot} (w : Wd s D A (wdM τ σ0 ad) H locs) (hl : lv_has ls 4 [(2, .int v2), (3, .int v3)]) : W p l e R s m args below meth c H locs 0 0 (QI below args s A D τ (wdM τ σ0 ad) o) (F0 m 46 ls []) := by
  refine lv_iload_n E.x E.b d_Shm_badSource_46 rfl (lv_at hl 0 rfl) ?_
  refine lv_iconst (v := 3) E.x E.b d_Shm_badSource_47 (by decide) ?_
  refine lv_icmp_ne (tgt := 59) E.x E.b d_Shm_badSource_48 (by decide) (fun c => ?_) (fun c => ?_)
  ·
    replace h := ifF c h
    exact bt_Shm_badSource_59 E hret o h w (lv_sub hl [] rfl)
  ·
    replace h := ifT c h
    refine lv_iload_n E.x E.b d_Shm_badSource_51 rfl (lv_at hl 1 rfl) ?_
    refine lv_if_le (tgt := 59) E.x E.b d_Shm_badSource_52 (by decide) (fun c => ?_) (fun c => ?_)
    ·
      replace h := ifT c h
      exact bt_Shm_badSource_59 E hret o h w (lv_sub hl [] rfl)
    ·
      replace h := ifF c h
      exact bt_Shm_badSource_55 E hret o h w (lv_sub hl [] rfl)
def F_Shm_badSource_35  (v2 : Int32) (v3 : Int32) : Option (Int32) := if v2 = 1 then (if 7 < v3 then (F_Shm_badSource_55) else (F_Shm_badSource_46 v2 v3)) else (F_Shm_badSource_46 v2 v3)
set_option maxRecDepth 10000 in
set_option maxHeartbeats 4000000 in
theorem bt_Shm_badSource_35 {p : Program} {l : Launch} {e : Env} {R : Room} {s : State} {m : MethodId} {args : Array Value} {below : List Frame} {meth : Method} {c : Code} {D : va_G} {τ : ClassId × ClassId × ClassId} {B : Nat} {A : Nat → Prop} {ad : Nat → Nat} {σ0 : Sg} (E : Cx p R s m args meth c prog_18_method_8_code 4 "DrawingMachineModel$ShaderMachineModel" 0 D τ B A) (hret : meth.sig.returnType = (some .boolean)) (o : Int32) (v2 : Int32) (v3 : Int32) (h : F_Shm_badSource_35 v2 v3 = some o) {H : Heap} {locs : List Loc} {ls : Array Slot} (w : Wd s D A (wdM τ σ0 ad) H locs) (hl : lv_has ls 4 [(2, .int v2), (3, .int v3)]) : W p l e R s m args below meth c H locs 0 0 (QI below args s A D τ (wdM τ σ0 ad) o) (F0 m 35 ls []) := by
  refine lv_iload_n E.x E.b d_Shm_badSource_35 rfl (lv_at hl 0 rfl) ?_
  refine lv_iconst (v := 1) E.x E.b d_Shm_badSource_36 (by decide) ?_
  refine lv_icmp_ne (tgt := 46) E.x E.b d_Shm_badSource_37 (by decide) (fun c => ?_) (fun c => ?_)
  ·
    replace h := ifF c h
    exact bt_Shm_badSource_46 E hret o v2 v3 h w (lv_sub hl [0, 1] rfl)
  ·
    replace h := ifT c h
    refine lv_iload_n E.x E.b d_Shm_badSource_40 rfl (lv_at hl 1 rfl) ?_
    refine lv_bipush (v := 7) E.x E.b d_Shm_badSource_41 (by decide) ?_
    refine lv_icmp_gt (tgt := 55) E.x E.b d_Shm_badSource_43 (by decide) (fun c => ?_) (fun c => ?_)
    ·
      replace h := ifT c h
      exact bt_Shm_badSource_55 E hret o h w (lv_sub hl [] rfl)
    ·
      replace h := ifF c h
      exact bt_Shm_badSource_46 E hret o v2 v3 h w (lv_sub hl [0, 1] rfl)
def F_Shm_badSource_13  (s0 : Int32) : Option (Int32) := ck (s0 = 0 ∨ s0 = 1) (some s0)
set_option maxRecDepth 10000 in
set_option maxHeartbeats 4000000 in
theorem bt_Shm_badSource_13 {p : Program} {l : Launch} {e : Env} {R : Room} {s : State} {m : MethodId} {args : Array Value} {below : List Frame} {meth : Method} {c : Code} {D : va_G} {τ : ClassId × ClassId × ClassId} {B : Nat} {A : Nat → Prop} {ad : Nat → Nat} {σ0 : Sg} (E : Cx p R s m args meth c prog_18_method_8_code 4 "DrawingMachineModel$ShaderMachineModel" 0 D τ B A) (hret : meth.sig.returnType = (some .boolean)) (o : Int32) (s0 : Int32) (h : F_Shm_badSource_13 s0 = some o) {H : Heap} {locs : List Loc} {ls : Array Slot} (w : Wd s D A (wdM τ σ0 ad) H locs) (hl : lv_has ls 4 []) : W p l e R s m args below meth c H locs 0 0 (QI below args s A D τ (wdM τ σ0 ad) o) (F0 m 13 ls [.int s0]) := by
  obtain ⟨c6, h⟩ := ck_some h
  obtain rfl := Option.some.inj h
  exact rt_z E w hret c6 d_Shm_badSource_13
def F_Shm_badSource  (x0 : Int32) (x1 : Int32) : Option (Int32) := if x1 = 0 then (if x0 = 0 then (F_Shm_badSource_13 0) else (F_Shm_badSource_13 1)) else (lt (x0 &&& 3) (fun y7 => lt ((x0 >>> 2) &&& 31) (fun y8 => if y7 = 0 then (if 15 < y8 then (F_Shm_badSource_55) else (F_Shm_badSource_35 y7 y8)) else (F_Shm_badSource_35 y7 y8))))
set_option maxRecDepth 10000 in
set_option maxHeartbeats 4000000 in
theorem c_Shm_badSource (l : Launch) (D : va_G) (τ : ClassId × ClassId × ClassId) (B : Nat) (σ0 : Sg) (ad : Nat → Nat) (x0 : Int32) (x1 : Int32) (o : Int32) (h : F_Shm_badSource x0 x1 = some o) : MI l y_Shm_badSource (Cond.code y_Shm_badSource prog_18_method_8_code 4 (some .boolean)) 0 D τ B [.int x0, .int x1] (wdM τ σ0 ad) (wdM τ σ0 ad) o := by
  refine en_i (by decide) (Nat.le_of_ble_eq_true rfl) ?_
  intro p e R s m args below meth c H locs ls A E hret w hl
  have E : Cx p R s m args meth c prog_18_method_8_code 4 "DrawingMachineModel$ShaderMachineModel" 0 D τ B A := E
  have hl : lv_has ls 4 [(0, .int x0), (1, .int x1)] := hl
  refine lv_iload_n E.x E.b d_Shm_badSource_0 rfl (lv_at hl 1 rfl) ?_
  refine lv_if_ne (tgt := 14) E.x E.b d_Shm_badSource_1 (by decide) (fun c => ?_) (fun c => ?_)
  ·
    replace h := ifF c h
    refine lv_iload_n E.x E.b d_Shm_badSource_14 rfl (lv_at hl 0 rfl) ?_
    refine lv_iconst (v := 3) E.x E.b d_Shm_badSource_15 (by decide) ?_
    refine lv_iand E.x E.b d_Shm_badSource_16 ?_
    obtain ⟨y7, e_y7, h⟩ := lt_some h
    refine wi_e (v := y7) e_y7 ?_
    refine lv_istore_n (lv' := [(2, .int y7), (0, .int x0), (1, .int x1)]) E.x E.b d_Shm_badSource_17 rfl hl (by decide) rfl (fun ls hl => ?_)
    refine lv_iload_n E.x E.b d_Shm_badSource_18 rfl (lv_at hl 1 rfl) ?_
    refine lv_iconst (v := 2) E.x E.b d_Shm_badSource_19 (by decide) ?_
    refine lv_ishr E.x E.b d_Shm_badSource_20 ?_
    refine wi_e (v := x0 >>> 2) rfl ?_
    refine lv_bipush (v := 31) E.x E.b d_Shm_badSource_21 (by decide) ?_
    refine lv_iand E.x E.b d_Shm_badSource_23 ?_
    obtain ⟨y8, e_y8, h⟩ := lt_some h
    refine wi_e (v := y8) e_y8 ?_
    refine lv_istore_n (lv' := [(3, .int y8), (2, .int y7), (0, .int x0), (1, .int x1)]) E.x E.b d_Shm_badSource_24 rfl hl (by decide) rfl (fun ls hl => ?_)
    refine lv_iload_n E.x E.b d_Shm_badSource_25 rfl (lv_at hl 1 rfl) ?_
    refine lv_if_ne (tgt := 35) E.x E.b d_Shm_badSource_26 (by decide) (fun c => ?_) (fun c => ?_)
    ·
      replace h := ifF c h
      exact bt_Shm_badSource_35 E hret o y7 y8 h w (lv_sub hl [1, 0] rfl)
    ·
      replace h := ifT c h
      refine lv_iload_n E.x E.b d_Shm_badSource_29 rfl (lv_at hl 0 rfl) ?_
      refine lv_bipush (v := 15) E.x E.b d_Shm_badSource_30 (by decide) ?_
      refine lv_icmp_gt (tgt := 55) E.x E.b d_Shm_badSource_32 (by decide) (fun c => ?_) (fun c => ?_)
      ·
        replace h := ifT c h
        exact bt_Shm_badSource_55 E hret o h w (lv_sub hl [] rfl)
      ·
        replace h := ifF c h
        exact bt_Shm_badSource_35 E hret o y7 y8 h w (lv_sub hl [1, 0] rfl)
  ·
    replace h := ifT c h
    refine lv_iload_n E.x E.b d_Shm_badSource_4 rfl (lv_at hl 0 rfl) ?_
    refine lv_if_eq (tgt := 12) E.x E.b d_Shm_badSource_5 (by decide) (fun c => ?_) (fun c => ?_)
    ·
      replace h := ifT c h
      refine lv_iconst (v := 0) E.x E.b d_Shm_badSource_12 (by decide) ?_
      exact bt_Shm_badSource_13 E hret o 0 h w (lv_sub hl [] rfl)
    ·
      replace h := ifF c h
      refine lv_iconst (v := 1) E.x E.b d_Shm_badSource_8 (by decide) ?_
      refine lv_goto (tgt := 13) E.x E.b d_Shm_badSource_9 (by decide) ?_
      exact bt_Shm_badSource_13 E hret o 1 h w (lv_sub hl [] rfl)
theorem clS_Shm_badSource {p : Program} {l : Launch} {e : Env} {R : Room} {s : State} {m : MethodId} {args : Array Value} {below : List Frame} {meth : Method} {c : Code} {H : Heap} {locs : List Loc} {Q : State → Prop} {cc : ByteArray} {nL pc lev : Nat} {own : String} {D : va_G} {τ : ClassId × ClassId × ClassId} {B : Nat} {A : Nat → Prop} {σ : Sg} {ad : Nat → Nat} {ls : Array Slot} {rest : List Value} (E : Cx p R s m args meth c cc nL own lev D τ B A) (w : Wd s D A (wdM τ σ ad) H locs) {x0 : Int32} {x1 : Int32} {o : Int32} (h : F_Shm_badSource x0 x1 = some o) {index : Nat} (hlk : Cond.methodLink own index y_Shm_badSource ∈ tw) (hlev : 0 < lev) (hsz : ls.size = nL) (hr : (rest.map fun v => v.category).sum ≤ 8) (hd : decode cc pc = .ok (.invokestatic index, 3)) (kk : ∀ (H1 : Heap) (locs1 : List Loc), Wd s D A (wdM τ σ ad) H1 locs1 → W p l e R s m args below meth c H1 locs1 0 0 Q (F0 m (pc + 3) ls (.int o :: rest))) : W p l e R s m args below meth c H locs 0 0 Q (F0 m pc ls (.int x1 :: .int x0 :: rest)) :=
  cr_i w E.C (va_runS (As := [.int x0, .int x1]) (rest := rest) E.fix (c_Shm_badSource l D τ B σ ad x0 x1 o h H.size) (va_cwS 2 E.w (tw_pre (tw_good k2120) (l := [_, _, _]) (List.forall_mem_cons.mpr ⟨hlk, List.forall_mem_cons.mpr ⟨k2119, List.forall_mem_cons.mpr ⟨k17, fun _ h => absurd h List.not_mem_nil⟩⟩⟩)) rfl rfl rfl (by decide +kernel) (E.rm hlev (by decide))) (wd_pre w E.C [.int x0, .int x1]) rfl rfl hsz rfl (lv_room hr) hd ⟨Nat.zero_le _, Nat.zero_le _⟩) kk

theorem d_Shm_sources_0 : decode prog_18_method_6_code 0 = .ok (.iload_n 0, 1) := by decide +kernel
theorem d_Shm_sources_1 : decode prog_18_method_6_code 1 = .ok (.tableswitch 173 0 37 #[167, 173, 171, 171, 171, 169, 171, 171, 171, 171, 173, 173, 173, 173, 173, 173, 171, 171, 171, 171, 169, 169, 171, 171, 171, 171, 173, 171, 171, 171, 173, 173, 173, 173, 167, 167, 173, 167], 167) := by decide +kernel
theorem d_Shm_sources_168 : decode prog_18_method_6_code 168 = .ok (.iconst 0, 1) := by decide +kernel
theorem d_Shm_sources_169 : decode prog_18_method_6_code 169 = .ok (.ireturn, 1) := by decide +kernel
theorem d_Shm_sources_170 : decode prog_18_method_6_code 170 = .ok (.iconst 3, 1) := by decide +kernel
theorem d_Shm_sources_171 : decode prog_18_method_6_code 171 = .ok (.ireturn, 1) := by decide +kernel
theorem d_Shm_sources_172 : decode prog_18_method_6_code 172 = .ok (.iconst 2, 1) := by decide +kernel
theorem d_Shm_sources_173 : decode prog_18_method_6_code 173 = .ok (.ireturn, 1) := by decide +kernel
theorem d_Shm_sources_174 : decode prog_18_method_6_code 174 = .ok (.iconst 1, 1) := by decide +kernel
theorem d_Shm_sources_175 : decode prog_18_method_6_code 175 = .ok (.ireturn, 1) := by decide +kernel
def F_Shm_sources_174  : Option (Int32) := some 1
set_option maxRecDepth 10000 in
set_option maxHeartbeats 4000000 in
theorem bt_Shm_sources_174 {p : Program} {l : Launch} {e : Env} {R : Room} {s : State} {m : MethodId} {args : Array Value} {below : List Frame} {meth : Method} {c : Code} {D : va_G} {τ : ClassId × ClassId × ClassId} {B : Nat} {A : Nat → Prop} {ad : Nat → Nat} {σ0 : Sg} (E : Cx p R s m args meth c prog_18_method_6_code 1 "DrawingMachineModel$ShaderMachineModel" 0 D τ B A) (hret : meth.sig.returnType = (some .int)) (o : Int32) (h : F_Shm_sources_174 = some o) {H : Heap} {locs : List Loc} {ls : Array Slot} (w : Wd s D A (wdM τ σ0 ad) H locs) (hl : lv_has ls 1 []) : W p l e R s m args below meth c H locs 0 0 (QI below args s A D τ (wdM τ σ0 ad) o) (F0 m 174 ls []) := by
  refine lv_iconst (v := 1) E.x E.b d_Shm_sources_174 (by decide) ?_
  obtain rfl := Option.some.inj h
  exact rt_i E w hret d_Shm_sources_175
def F_Shm_sources_172  : Option (Int32) := some 2
set_option maxRecDepth 10000 in
set_option maxHeartbeats 4000000 in
theorem bt_Shm_sources_172 {p : Program} {l : Launch} {e : Env} {R : Room} {s : State} {m : MethodId} {args : Array Value} {below : List Frame} {meth : Method} {c : Code} {D : va_G} {τ : ClassId × ClassId × ClassId} {B : Nat} {A : Nat → Prop} {ad : Nat → Nat} {σ0 : Sg} (E : Cx p R s m args meth c prog_18_method_6_code 1 "DrawingMachineModel$ShaderMachineModel" 0 D τ B A) (hret : meth.sig.returnType = (some .int)) (o : Int32) (h : F_Shm_sources_172 = some o) {H : Heap} {locs : List Loc} {ls : Array Slot} (w : Wd s D A (wdM τ σ0 ad) H locs) (hl : lv_has ls 1 []) : W p l e R s m args below meth c H locs 0 0 (QI below args s A D τ (wdM τ σ0 ad) o) (F0 m 172 ls []) := by
  refine lv_iconst (v := 2) E.x E.b d_Shm_sources_172 (by decide) ?_
  obtain rfl := Option.some.inj h
  exact rt_i E w hret d_Shm_sources_173
def F_Shm_sources_170  : Option (Int32) := some 3
set_option maxRecDepth 10000 in
set_option maxHeartbeats 4000000 in
theorem bt_Shm_sources_170 {p : Program} {l : Launch} {e : Env} {R : Room} {s : State} {m : MethodId} {args : Array Value} {below : List Frame} {meth : Method} {c : Code} {D : va_G} {τ : ClassId × ClassId × ClassId} {B : Nat} {A : Nat → Prop} {ad : Nat → Nat} {σ0 : Sg} (E : Cx p R s m args meth c prog_18_method_6_code 1 "DrawingMachineModel$ShaderMachineModel" 0 D τ B A) (hret : meth.sig.returnType = (some .int)) (o : Int32) (h : F_Shm_sources_170 = some o) {H : Heap} {locs : List Loc} {ls : Array Slot} (w : Wd s D A (wdM τ σ0 ad) H locs) (hl : lv_has ls 1 []) : W p l e R s m args below meth c H locs 0 0 (QI below args s A D τ (wdM τ σ0 ad) o) (F0 m 170 ls []) := by
  refine lv_iconst (v := 3) E.x E.b d_Shm_sources_170 (by decide) ?_
  obtain rfl := Option.some.inj h
  exact rt_i E w hret d_Shm_sources_171
def F_Shm_sources_168  : Option (Int32) := some 0
set_option maxRecDepth 10000 in
set_option maxHeartbeats 4000000 in
theorem bt_Shm_sources_168 {p : Program} {l : Launch} {e : Env} {R : Room} {s : State} {m : MethodId} {args : Array Value} {below : List Frame} {meth : Method} {c : Code} {D : va_G} {τ : ClassId × ClassId × ClassId} {B : Nat} {A : Nat → Prop} {ad : Nat → Nat} {σ0 : Sg} (E : Cx p R s m args meth c prog_18_method_6_code 1 "DrawingMachineModel$ShaderMachineModel" 0 D τ B A) (hret : meth.sig.returnType = (some .int)) (o : Int32) (h : F_Shm_sources_168 = some o) {H : Heap} {locs : List Loc} {ls : Array Slot} (w : Wd s D A (wdM τ σ0 ad) H locs) (hl : lv_has ls 1 []) : W p l e R s m args below meth c H locs 0 0 (QI below args s A D τ (wdM τ σ0 ad) o) (F0 m 168 ls []) := by
  refine lv_iconst (v := 0) E.x E.b d_Shm_sources_168 (by decide) ?_
  obtain rfl := Option.some.inj h
  exact rt_i E w hret d_Shm_sources_169
def F_Shm_sources  (x0 : Int32) : Option (Int32) := if x0 = 0 then (F_Shm_sources_168) else (if x0 = 1 then (F_Shm_sources_174) else (if x0 = 2 then (F_Shm_sources_172) else (if x0 = 3 then (F_Shm_sources_172) else (if x0 = 4 then (F_Shm_sources_172) else (if x0 = 5 then (F_Shm_sources_170) else (if x0 = 6 then (F_Shm_sources_172) else (if x0 = 7 then (F_Shm_sources_172) else (if x0 = 8 then (F_Shm_sources_172) else (if x0 = 9 then (F_Shm_sources_172) else (if x0 = 10 then (F_Shm_sources_174) else (if x0 = 11 then (F_Shm_sources_174) else (if x0 = 12 then (F_Shm_sources_174) else (if x0 = 13 then (F_Shm_sources_174) else (if x0 = 14 then (F_Shm_sources_174) else (if x0 = 15 then (F_Shm_sources_174) else (if x0 = 16 then (F_Shm_sources_172) else (if x0 = 17 then (F_Shm_sources_172) else (if x0 = 18 then (F_Shm_sources_172) else (if x0 = 19 then (F_Shm_sources_172) else (if x0 = 20 then (F_Shm_sources_170) else (if x0 = 21 then (F_Shm_sources_170) else (if x0 = 22 then (F_Shm_sources_172) else (if x0 = 23 then (F_Shm_sources_172) else (if x0 = 24 then (F_Shm_sources_172) else (if x0 = 25 then (F_Shm_sources_172) else (if x0 = 26 then (F_Shm_sources_174) else (if x0 = 27 then (F_Shm_sources_172) else (if x0 = 28 then (F_Shm_sources_172) else (if x0 = 29 then (F_Shm_sources_172) else (if x0 = 30 then (F_Shm_sources_174) else (if x0 = 31 then (F_Shm_sources_174) else (if x0 = 32 then (F_Shm_sources_174) else (if x0 = 33 then (F_Shm_sources_174) else (if x0 = 34 then (F_Shm_sources_168) else (if x0 = 35 then (F_Shm_sources_168) else (if x0 = 36 then (F_Shm_sources_174) else (if x0 = 37 then (F_Shm_sources_168) else (F_Shm_sources_174))))))))))))))))))))))))))))))))))))))
set_option maxRecDepth 10000 in
set_option maxHeartbeats 4000000 in
theorem c_Shm_sources (l : Launch) (D : va_G) (τ : ClassId × ClassId × ClassId) (B : Nat) (σ0 : Sg) (ad : Nat → Nat) (x0 : Int32) (o : Int32) (h : F_Shm_sources x0 = some o) : MI l y_Shm_sources (Cond.code y_Shm_sources prog_18_method_6_code 1 (some .int)) 0 D τ B [.int x0] (wdM τ σ0 ad) (wdM τ σ0 ad) o := by
  refine en_i (by decide) (Nat.le_of_ble_eq_true rfl) ?_
  intro p e R s m args below meth c H locs ls A E hret w hl
  have E : Cx p R s m args meth c prog_18_method_6_code 1 "DrawingMachineModel$ShaderMachineModel" 0 D τ B A := E
  have hl : lv_has ls 1 [(0, .int x0)] := hl
  refine lv_iload_n E.x E.b d_Shm_sources_0 rfl (lv_at hl 0 rfl) ?_
  by_cases q39 : x0 = 0
  ·
    replace h := ifT q39 h
    refine wi_e (v := 0) q39 ?_
    refine lv_tableIn (off := 167) (tgt := 168) E.x E.b d_Shm_sources_1 (by decide) (by decide) (by decide) (by decide) ?_
    exact bt_Shm_sources_168 E hret o h w (lv_sub hl [] rfl)
  replace h := ifF q39 h
  replace q39 := ne_ti (k := 0) (by decide) q39
  by_cases q40 : x0 = 1
  ·
    replace h := ifT q40 h
    refine wi_e (v := 1) q40 ?_
    refine lv_tableIn (off := 173) (tgt := 174) E.x E.b d_Shm_sources_1 (by decide) (by decide) (by decide) (by decide) ?_
    exact bt_Shm_sources_174 E hret o h w (lv_sub hl [] rfl)
  replace h := ifF q40 h
  replace q40 := ne_ti (k := 1) (by decide) q40
  by_cases q41 : x0 = 2
  ·
    replace h := ifT q41 h
    refine wi_e (v := 2) q41 ?_
    refine lv_tableIn (off := 171) (tgt := 172) E.x E.b d_Shm_sources_1 (by decide) (by decide) (by decide) (by decide) ?_
    exact bt_Shm_sources_172 E hret o h w (lv_sub hl [] rfl)
  replace h := ifF q41 h
  replace q41 := ne_ti (k := 2) (by decide) q41
  by_cases q42 : x0 = 3
  ·
    replace h := ifT q42 h
    refine wi_e (v := 3) q42 ?_
    refine lv_tableIn (off := 171) (tgt := 172) E.x E.b d_Shm_sources_1 (by decide) (by decide) (by decide) (by decide) ?_
    exact bt_Shm_sources_172 E hret o h w (lv_sub hl [] rfl)
  replace h := ifF q42 h
  replace q42 := ne_ti (k := 3) (by decide) q42
  by_cases q43 : x0 = 4
  ·
    replace h := ifT q43 h
    refine wi_e (v := 4) q43 ?_
    refine lv_tableIn (off := 171) (tgt := 172) E.x E.b d_Shm_sources_1 (by decide) (by decide) (by decide) (by decide) ?_
    exact bt_Shm_sources_172 E hret o h w (lv_sub hl [] rfl)
  replace h := ifF q43 h
  replace q43 := ne_ti (k := 4) (by decide) q43
  by_cases q44 : x0 = 5
  ·
    replace h := ifT q44 h
    refine wi_e (v := 5) q44 ?_
    refine lv_tableIn (off := 169) (tgt := 170) E.x E.b d_Shm_sources_1 (by decide) (by decide) (by decide) (by decide) ?_
    exact bt_Shm_sources_170 E hret o h w (lv_sub hl [] rfl)
  replace h := ifF q44 h
  replace q44 := ne_ti (k := 5) (by decide) q44
  by_cases q45 : x0 = 6
  ·
    replace h := ifT q45 h
    refine wi_e (v := 6) q45 ?_
    refine lv_tableIn (off := 171) (tgt := 172) E.x E.b d_Shm_sources_1 (by decide) (by decide) (by decide) (by decide) ?_
    exact bt_Shm_sources_172 E hret o h w (lv_sub hl [] rfl)
  replace h := ifF q45 h
  replace q45 := ne_ti (k := 6) (by decide) q45
  by_cases q46 : x0 = 7
  ·
    replace h := ifT q46 h
    refine wi_e (v := 7) q46 ?_
    refine lv_tableIn (off := 171) (tgt := 172) E.x E.b d_Shm_sources_1 (by decide) (by decide) (by decide) (by decide) ?_
    exact bt_Shm_sources_172 E hret o h w (lv_sub hl [] rfl)
  replace h := ifF q46 h
  replace q46 := ne_ti (k := 7) (by decide) q46
  by_cases q47 : x0 = 8
  ·
    replace h := ifT q47 h
    refine wi_e (v := 8) q47 ?_
    refine lv_tableIn (off := 171) (tgt := 172) E.x E.b d_Shm_sources_1 (by decide) (by decide) (by decide) (by decide) ?_
    exact bt_Shm_sources_172 E hret o h w (lv_sub hl [] rfl)
  replace h := ifF q47 h
  replace q47 := ne_ti (k := 8) (by decide) q47
  by_cases q48 : x0 = 9
  ·
    replace h := ifT q48 h
    refine wi_e (v := 9) q48 ?_
    refine lv_tableIn (off := 171) (tgt := 172) E.x E.b d_Shm_sources_1 (by decide) (by decide) (by decide) (by decide) ?_
    exact bt_Shm_sources_172 E hret o h w (lv_sub hl [] rfl)
  replace h := ifF q48 h
  replace q48 := ne_ti (k := 9) (by decide) q48
  by_cases q49 : x0 = 10
  ·
    replace h := ifT q49 h
    refine wi_e (v := 10) q49 ?_
    refine lv_tableIn (off := 173) (tgt := 174) E.x E.b d_Shm_sources_1 (by decide) (by decide) (by decide) (by decide) ?_
    exact bt_Shm_sources_174 E hret o h w (lv_sub hl [] rfl)
  replace h := ifF q49 h
  replace q49 := ne_ti (k := 10) (by decide) q49
  by_cases q50 : x0 = 11
  ·
    replace h := ifT q50 h
    refine wi_e (v := 11) q50 ?_
    refine lv_tableIn (off := 173) (tgt := 174) E.x E.b d_Shm_sources_1 (by decide) (by decide) (by decide) (by decide) ?_
    exact bt_Shm_sources_174 E hret o h w (lv_sub hl [] rfl)
  replace h := ifF q50 h
  replace q50 := ne_ti (k := 11) (by decide) q50
  by_cases q51 : x0 = 12
  ·
    replace h := ifT q51 h
    refine wi_e (v := 12) q51 ?_
    refine lv_tableIn (off := 173) (tgt := 174) E.x E.b d_Shm_sources_1 (by decide) (by decide) (by decide) (by decide) ?_
    exact bt_Shm_sources_174 E hret o h w (lv_sub hl [] rfl)
  replace h := ifF q51 h
  replace q51 := ne_ti (k := 12) (by decide) q51
  by_cases q52 : x0 = 13
  ·
    replace h := ifT q52 h
    refine wi_e (v := 13) q52 ?_
    refine lv_tableIn (off := 173) (tgt := 174) E.x E.b d_Shm_sources_1 (by decide) (by decide) (by decide) (by decide) ?_
    exact bt_Shm_sources_174 E hret o h w (lv_sub hl [] rfl)
  replace h := ifF q52 h
  replace q52 := ne_ti (k := 13) (by decide) q52
  by_cases q53 : x0 = 14
  ·
    replace h := ifT q53 h
    refine wi_e (v := 14) q53 ?_
    refine lv_tableIn (off := 173) (tgt := 174) E.x E.b d_Shm_sources_1 (by decide) (by decide) (by decide) (by decide) ?_
    exact bt_Shm_sources_174 E hret o h w (lv_sub hl [] rfl)
  replace h := ifF q53 h
  replace q53 := ne_ti (k := 14) (by decide) q53
  by_cases q54 : x0 = 15
  ·
    replace h := ifT q54 h
    refine wi_e (v := 15) q54 ?_
    refine lv_tableIn (off := 173) (tgt := 174) E.x E.b d_Shm_sources_1 (by decide) (by decide) (by decide) (by decide) ?_
    exact bt_Shm_sources_174 E hret o h w (lv_sub hl [] rfl)
  replace h := ifF q54 h
  replace q54 := ne_ti (k := 15) (by decide) q54
  by_cases q55 : x0 = 16
  ·
    replace h := ifT q55 h
    refine wi_e (v := 16) q55 ?_
    refine lv_tableIn (off := 171) (tgt := 172) E.x E.b d_Shm_sources_1 (by decide) (by decide) (by decide) (by decide) ?_
    exact bt_Shm_sources_172 E hret o h w (lv_sub hl [] rfl)
  replace h := ifF q55 h
  replace q55 := ne_ti (k := 16) (by decide) q55
  by_cases q56 : x0 = 17
  ·
    replace h := ifT q56 h
    refine wi_e (v := 17) q56 ?_
    refine lv_tableIn (off := 171) (tgt := 172) E.x E.b d_Shm_sources_1 (by decide) (by decide) (by decide) (by decide) ?_
    exact bt_Shm_sources_172 E hret o h w (lv_sub hl [] rfl)
  replace h := ifF q56 h
  replace q56 := ne_ti (k := 17) (by decide) q56
  by_cases q57 : x0 = 18
  ·
    replace h := ifT q57 h
    refine wi_e (v := 18) q57 ?_
    refine lv_tableIn (off := 171) (tgt := 172) E.x E.b d_Shm_sources_1 (by decide) (by decide) (by decide) (by decide) ?_
    exact bt_Shm_sources_172 E hret o h w (lv_sub hl [] rfl)
  replace h := ifF q57 h
  replace q57 := ne_ti (k := 18) (by decide) q57
  by_cases q58 : x0 = 19
  ·
    replace h := ifT q58 h
    refine wi_e (v := 19) q58 ?_
    refine lv_tableIn (off := 171) (tgt := 172) E.x E.b d_Shm_sources_1 (by decide) (by decide) (by decide) (by decide) ?_
    exact bt_Shm_sources_172 E hret o h w (lv_sub hl [] rfl)
  replace h := ifF q58 h
  replace q58 := ne_ti (k := 19) (by decide) q58
  by_cases q59 : x0 = 20
  ·
    replace h := ifT q59 h
    refine wi_e (v := 20) q59 ?_
    refine lv_tableIn (off := 169) (tgt := 170) E.x E.b d_Shm_sources_1 (by decide) (by decide) (by decide) (by decide) ?_
    exact bt_Shm_sources_170 E hret o h w (lv_sub hl [] rfl)
  replace h := ifF q59 h
  replace q59 := ne_ti (k := 20) (by decide) q59
  by_cases q60 : x0 = 21
  ·
    replace h := ifT q60 h
    refine wi_e (v := 21) q60 ?_
    refine lv_tableIn (off := 169) (tgt := 170) E.x E.b d_Shm_sources_1 (by decide) (by decide) (by decide) (by decide) ?_
    exact bt_Shm_sources_170 E hret o h w (lv_sub hl [] rfl)
  replace h := ifF q60 h
  replace q60 := ne_ti (k := 21) (by decide) q60
  by_cases q61 : x0 = 22
  ·
    replace h := ifT q61 h
    refine wi_e (v := 22) q61 ?_
    refine lv_tableIn (off := 171) (tgt := 172) E.x E.b d_Shm_sources_1 (by decide) (by decide) (by decide) (by decide) ?_
    exact bt_Shm_sources_172 E hret o h w (lv_sub hl [] rfl)
  replace h := ifF q61 h
  replace q61 := ne_ti (k := 22) (by decide) q61
  by_cases q62 : x0 = 23
  ·
    replace h := ifT q62 h
    refine wi_e (v := 23) q62 ?_
    refine lv_tableIn (off := 171) (tgt := 172) E.x E.b d_Shm_sources_1 (by decide) (by decide) (by decide) (by decide) ?_
    exact bt_Shm_sources_172 E hret o h w (lv_sub hl [] rfl)
  replace h := ifF q62 h
  replace q62 := ne_ti (k := 23) (by decide) q62
  by_cases q63 : x0 = 24
  ·
    replace h := ifT q63 h
    refine wi_e (v := 24) q63 ?_
    refine lv_tableIn (off := 171) (tgt := 172) E.x E.b d_Shm_sources_1 (by decide) (by decide) (by decide) (by decide) ?_
    exact bt_Shm_sources_172 E hret o h w (lv_sub hl [] rfl)
  replace h := ifF q63 h
  replace q63 := ne_ti (k := 24) (by decide) q63
  by_cases q64 : x0 = 25
  ·
    replace h := ifT q64 h
    refine wi_e (v := 25) q64 ?_
    refine lv_tableIn (off := 171) (tgt := 172) E.x E.b d_Shm_sources_1 (by decide) (by decide) (by decide) (by decide) ?_
    exact bt_Shm_sources_172 E hret o h w (lv_sub hl [] rfl)
  replace h := ifF q64 h
  replace q64 := ne_ti (k := 25) (by decide) q64
  by_cases q65 : x0 = 26
  ·
    replace h := ifT q65 h
    refine wi_e (v := 26) q65 ?_
    refine lv_tableIn (off := 173) (tgt := 174) E.x E.b d_Shm_sources_1 (by decide) (by decide) (by decide) (by decide) ?_
    exact bt_Shm_sources_174 E hret o h w (lv_sub hl [] rfl)
  replace h := ifF q65 h
  replace q65 := ne_ti (k := 26) (by decide) q65
  by_cases q66 : x0 = 27
  ·
    replace h := ifT q66 h
    refine wi_e (v := 27) q66 ?_
    refine lv_tableIn (off := 171) (tgt := 172) E.x E.b d_Shm_sources_1 (by decide) (by decide) (by decide) (by decide) ?_
    exact bt_Shm_sources_172 E hret o h w (lv_sub hl [] rfl)
  replace h := ifF q66 h
  replace q66 := ne_ti (k := 27) (by decide) q66
  by_cases q67 : x0 = 28
  ·
    replace h := ifT q67 h
    refine wi_e (v := 28) q67 ?_
    refine lv_tableIn (off := 171) (tgt := 172) E.x E.b d_Shm_sources_1 (by decide) (by decide) (by decide) (by decide) ?_
    exact bt_Shm_sources_172 E hret o h w (lv_sub hl [] rfl)
  replace h := ifF q67 h
  replace q67 := ne_ti (k := 28) (by decide) q67
  by_cases q68 : x0 = 29
  ·
    replace h := ifT q68 h
    refine wi_e (v := 29) q68 ?_
    refine lv_tableIn (off := 171) (tgt := 172) E.x E.b d_Shm_sources_1 (by decide) (by decide) (by decide) (by decide) ?_
    exact bt_Shm_sources_172 E hret o h w (lv_sub hl [] rfl)
  replace h := ifF q68 h
  replace q68 := ne_ti (k := 29) (by decide) q68
  by_cases q69 : x0 = 30
  ·
    replace h := ifT q69 h
    refine wi_e (v := 30) q69 ?_
    refine lv_tableIn (off := 173) (tgt := 174) E.x E.b d_Shm_sources_1 (by decide) (by decide) (by decide) (by decide) ?_
    exact bt_Shm_sources_174 E hret o h w (lv_sub hl [] rfl)
  replace h := ifF q69 h
  replace q69 := ne_ti (k := 30) (by decide) q69
  by_cases q70 : x0 = 31
  ·
    replace h := ifT q70 h
    refine wi_e (v := 31) q70 ?_
    refine lv_tableIn (off := 173) (tgt := 174) E.x E.b d_Shm_sources_1 (by decide) (by decide) (by decide) (by decide) ?_
    exact bt_Shm_sources_174 E hret o h w (lv_sub hl [] rfl)
  replace h := ifF q70 h
  replace q70 := ne_ti (k := 31) (by decide) q70
  by_cases q71 : x0 = 32
  ·
    replace h := ifT q71 h
    refine wi_e (v := 32) q71 ?_
    refine lv_tableIn (off := 173) (tgt := 174) E.x E.b d_Shm_sources_1 (by decide) (by decide) (by decide) (by decide) ?_
    exact bt_Shm_sources_174 E hret o h w (lv_sub hl [] rfl)
  replace h := ifF q71 h
  replace q71 := ne_ti (k := 32) (by decide) q71
  by_cases q72 : x0 = 33
  ·
    replace h := ifT q72 h
    refine wi_e (v := 33) q72 ?_
    refine lv_tableIn (off := 173) (tgt := 174) E.x E.b d_Shm_sources_1 (by decide) (by decide) (by decide) (by decide) ?_
    exact bt_Shm_sources_174 E hret o h w (lv_sub hl [] rfl)
  replace h := ifF q72 h
  replace q72 := ne_ti (k := 33) (by decide) q72
  by_cases q73 : x0 = 34
  ·
    replace h := ifT q73 h
    refine wi_e (v := 34) q73 ?_
    refine lv_tableIn (off := 167) (tgt := 168) E.x E.b d_Shm_sources_1 (by decide) (by decide) (by decide) (by decide) ?_
    exact bt_Shm_sources_168 E hret o h w (lv_sub hl [] rfl)
  replace h := ifF q73 h
  replace q73 := ne_ti (k := 34) (by decide) q73
  by_cases q74 : x0 = 35
  ·
    replace h := ifT q74 h
    refine wi_e (v := 35) q74 ?_
    refine lv_tableIn (off := 167) (tgt := 168) E.x E.b d_Shm_sources_1 (by decide) (by decide) (by decide) (by decide) ?_
    exact bt_Shm_sources_168 E hret o h w (lv_sub hl [] rfl)
  replace h := ifF q74 h
  replace q74 := ne_ti (k := 35) (by decide) q74
  by_cases q75 : x0 = 36
  ·
    replace h := ifT q75 h
    refine wi_e (v := 36) q75 ?_
    refine lv_tableIn (off := 173) (tgt := 174) E.x E.b d_Shm_sources_1 (by decide) (by decide) (by decide) (by decide) ?_
    exact bt_Shm_sources_174 E hret o h w (lv_sub hl [] rfl)
  replace h := ifF q75 h
  replace q75 := ne_ti (k := 36) (by decide) q75
  by_cases q76 : x0 = 37
  ·
    replace h := ifT q76 h
    refine wi_e (v := 37) q76 ?_
    refine lv_tableIn (off := 167) (tgt := 168) E.x E.b d_Shm_sources_1 (by decide) (by decide) (by decide) (by decide) ?_
    exact bt_Shm_sources_168 E hret o h w (lv_sub hl [] rfl)
  replace h := ifF q76 h
  replace q76 := ne_ti (k := 37) (by decide) q76
  refine lv_tableOut (tgt := 174) E.x E.b d_Shm_sources_1 (by omega) (by decide) ?_
  exact bt_Shm_sources_174 E hret o h w (lv_sub hl [] rfl)
theorem clS_Shm_sources {p : Program} {l : Launch} {e : Env} {R : Room} {s : State} {m : MethodId} {args : Array Value} {below : List Frame} {meth : Method} {c : Code} {H : Heap} {locs : List Loc} {Q : State → Prop} {cc : ByteArray} {nL pc lev : Nat} {own : String} {D : va_G} {τ : ClassId × ClassId × ClassId} {B : Nat} {A : Nat → Prop} {σ : Sg} {ad : Nat → Nat} {ls : Array Slot} {rest : List Value} (E : Cx p R s m args meth c cc nL own lev D τ B A) (w : Wd s D A (wdM τ σ ad) H locs) {x0 : Int32} {o : Int32} (h : F_Shm_sources x0 = some o) {index : Nat} (hlk : Cond.methodLink own index y_Shm_sources ∈ tw) (hlev : 0 < lev) (hsz : ls.size = nL) (hr : (rest.map fun v => v.category).sum ≤ 8) (hd : decode cc pc = .ok (.invokestatic index, 3)) (kk : ∀ (H1 : Heap) (locs1 : List Loc), Wd s D A (wdM τ σ ad) H1 locs1 → W p l e R s m args below meth c H1 locs1 0 0 Q (F0 m (pc + 3) ls (.int o :: rest))) : W p l e R s m args below meth c H locs 0 0 Q (F0 m pc ls (.int x0 :: rest)) :=
  cr_i w E.C (va_runS (As := [.int x0]) (rest := rest) E.fix (c_Shm_sources l D τ B σ ad x0 o h H.size) (va_cwS 1 E.w (tw_pre (tw_good k2113) (l := [_, _, _]) (List.forall_mem_cons.mpr ⟨hlk, List.forall_mem_cons.mpr ⟨k2112, List.forall_mem_cons.mpr ⟨k17, fun _ h => absurd h List.not_mem_nil⟩⟩⟩)) rfl rfl rfl (by decide +kernel) (E.rm hlev (by decide))) (wd_pre w E.C [.int x0]) rfl rfl hsz rfl (lv_room hr) hd ⟨Nat.zero_le _, Nat.zero_le _⟩) kk

theorem d_Shm_badSources_0 : decode prog_18_method_9_code 0 = .ok (.aload_n 0, 1) := by decide +kernel
theorem d_Shm_badSources_1 : decode prog_18_method_9_code 1 = .ok (.iload_n 1, 1) := by decide +kernel
theorem d_Shm_badSources_2 : decode prog_18_method_9_code 2 = .ok (.invokestatic 56, 3) := by decide +kernel
theorem d_Shm_badSources_5 : decode prog_18_method_9_code 5 = .ok (.invokestatic 60, 3) := by decide +kernel
theorem d_Shm_badSources_8 : decode prog_18_method_9_code 8 = .ok (.istore_n 2, 1) := by decide +kernel
theorem d_Shm_badSources_9 : decode prog_18_method_9_code 9 = .ok (.aload_n 0, 1) := by decide +kernel
theorem d_Shm_badSources_10 : decode prog_18_method_9_code 10 = .ok (.iconst 3, 1) := by decide +kernel
theorem d_Shm_badSources_11 : decode prog_18_method_9_code 11 = .ok (.iload_n 1, 1) := by decide +kernel
theorem d_Shm_badSources_12 : decode prog_18_method_9_code 12 = .ok (.imul, 1) := by decide +kernel
theorem d_Shm_badSources_13 : decode prog_18_method_9_code 13 = .ok (.iconst 2, 1) := by decide +kernel
theorem d_Shm_badSources_14 : decode prog_18_method_9_code 14 = .ok (.iadd, 1) := by decide +kernel
theorem d_Shm_badSources_15 : decode prog_18_method_9_code 15 = .ok (.iaload, 1) := by decide +kernel
theorem d_Shm_badSources_16 : decode prog_18_method_9_code 16 = .ok (.bipush 16, 2) := by decide +kernel
theorem d_Shm_badSources_18 : decode prog_18_method_9_code 18 = .ok (.iushr, 1) := by decide +kernel
theorem d_Shm_badSources_19 : decode prog_18_method_9_code 19 = .ok (.ifCond .eq 7, 3) := by decide +kernel
theorem d_Shm_badSources_22 : decode prog_18_method_9_code 22 = .ok (.iconst 1, 1) := by decide +kernel
theorem d_Shm_badSources_23 : decode prog_18_method_9_code 23 = .ok (.goto 4, 3) := by decide +kernel
theorem d_Shm_badSources_26 : decode prog_18_method_9_code 26 = .ok (.iconst 0, 1) := by decide +kernel
theorem d_Shm_badSources_27 : decode prog_18_method_9_code 27 = .ok (.istore_n 3, 1) := by decide +kernel
theorem d_Shm_badSources_28 : decode prog_18_method_9_code 28 = .ok (.iconst 0, 1) := by decide +kernel
theorem d_Shm_badSources_29 : decode prog_18_method_9_code 29 = .ok (.istore 4, 2) := by decide +kernel
theorem d_Shm_badSources_31 : decode prog_18_method_9_code 31 = .ok (.iload 4, 2) := by decide +kernel
theorem d_Shm_badSources_33 : decode prog_18_method_9_code 33 = .ok (.iconst 3, 1) := by decide +kernel
theorem d_Shm_badSources_34 : decode prog_18_method_9_code 34 = .ok (.if_icmp .ge 43, 3) := by decide +kernel
theorem d_Shm_badSources_37 : decode prog_18_method_9_code 37 = .ok (.iload_n 3, 1) := by decide +kernel
theorem d_Shm_badSources_38 : decode prog_18_method_9_code 38 = .ok (.ifCond .ne 27, 3) := by decide +kernel
theorem d_Shm_badSources_41 : decode prog_18_method_9_code 41 = .ok (.aload_n 0, 1) := by decide +kernel
theorem d_Shm_badSources_42 : decode prog_18_method_9_code 42 = .ok (.iload_n 1, 1) := by decide +kernel
theorem d_Shm_badSources_43 : decode prog_18_method_9_code 43 = .ok (.iload 4, 2) := by decide +kernel
theorem d_Shm_badSources_45 : decode prog_18_method_9_code 45 = .ok (.invokestatic 64, 3) := by decide +kernel
theorem d_Shm_badSources_48 : decode prog_18_method_9_code 48 = .ok (.iload 4, 2) := by decide +kernel
theorem d_Shm_badSources_50 : decode prog_18_method_9_code 50 = .ok (.iload_n 2, 1) := by decide +kernel
theorem d_Shm_badSources_51 : decode prog_18_method_9_code 51 = .ok (.if_icmp .ge 7, 3) := by decide +kernel
theorem d_Shm_badSources_54 : decode prog_18_method_9_code 54 = .ok (.iconst 1, 1) := by decide +kernel
theorem d_Shm_badSources_55 : decode prog_18_method_9_code 55 = .ok (.goto 4, 3) := by decide +kernel
theorem d_Shm_badSources_58 : decode prog_18_method_9_code 58 = .ok (.iconst 0, 1) := by decide +kernel
theorem d_Shm_badSources_59 : decode prog_18_method_9_code 59 = .ok (.invokestatic 68, 3) := by decide +kernel
theorem d_Shm_badSources_62 : decode prog_18_method_9_code 62 = .ok (.ifCond .eq 7, 3) := by decide +kernel
theorem d_Shm_badSources_65 : decode prog_18_method_9_code 65 = .ok (.iconst 1, 1) := by decide +kernel
theorem d_Shm_badSources_66 : decode prog_18_method_9_code 66 = .ok (.goto 4, 3) := by decide +kernel
theorem d_Shm_badSources_69 : decode prog_18_method_9_code 69 = .ok (.iconst 0, 1) := by decide +kernel
theorem d_Shm_badSources_70 : decode prog_18_method_9_code 70 = .ok (.istore_n 3, 1) := by decide +kernel
theorem d_Shm_badSources_71 : decode prog_18_method_9_code 71 = .ok (.iinc 4 1, 3) := by decide +kernel
theorem d_Shm_badSources_74 : decode prog_18_method_9_code 74 = .ok (.goto (-43), 3) := by decide +kernel
theorem d_Shm_badSources_77 : decode prog_18_method_9_code 77 = .ok (.iload_n 3, 1) := by decide +kernel
theorem d_Shm_badSources_78 : decode prog_18_method_9_code 78 = .ok (.ireturn, 1) := by decide +kernel
def F_Shm_badSources_70 (rc_31 : Sg → Nat → Int32 → Int32 → Int32 → Int32 → Option (Int32)) (σ : Sg) (v0 : Nat) (v1 : Int32) (v2 : Int32) (v4 : Int32) (s0 : Int32) : Option (Int32) := ck (v0 < 58) (lt (v4 + 1) (fun y9 => rc_31 σ v0 v1 v2 s0 y9))
set_option maxRecDepth 10000 in
set_option maxHeartbeats 4000000 in
theorem bt_Shm_badSources_70 {p : Program} {l : Launch} {e : Env} {R : Room} {s : State} {m : MethodId} {args : Array Value} {below : List Frame} {meth : Method} {c : Code} {D : va_G} {τ : ClassId × ClassId × ClassId} {B : Nat} {A : Nat → Prop} {ad : Nat → Nat} (E : Cx p R s m args meth c prog_18_method_9_code 5 "DrawingMachineModel$ShaderMachineModel" 1 D τ B A) (hret : meth.sig.returnType = (some .boolean)) (o : Int32) (rc_31 : Sg → Nat → Int32 → Int32 → Int32 → Int32 → Option (Int32)) (σ : Sg) (hr_31 : ∀ (v0 : Nat) (v1 : Int32) (v2 : Int32) (v3 : Int32) (v4 : Int32) (H : Heap) (locs : List Loc) (ls : Array Slot), rc_31 σ v0 v1 v2 v3 v4 = some o → Wd s D A (wdM τ σ ad) H locs → lv_has ls 5 [(0, .ref (ad v0)), (1, .int v1), (2, .int v2), (3, .int v3), (4, .int v4)] → W p l e R s m args below meth c H locs 0 0 (QI below args s A D τ (wdM τ σ ad) o) (F0 m 31 ls [])) (v0 : Nat) (v1 : Int32) (v2 : Int32) (v4 : Int32) (s0 : Int32) (h : F_Shm_badSources_70 rc_31 σ v0 v1 v2 v4 s0 = some o) {H : Heap} {locs : List Loc} {ls : Array Slot} (w : Wd s D A (wdM τ σ ad) H locs) (hl : lv_has ls 5 [(0, .ref (ad v0)), (1, .int v1), (2, .int v2), (4, .int v4)]) : W p l e R s m args below meth c H locs 0 0 (QI below args s A D τ (wdM τ σ ad) o) (F0 m 70 ls [.int s0]) := by
  obtain ⟨c8, h⟩ := ck_some h
  refine lv_istore_n (lv' := [(3, .int s0), (0, .ref (ad v0)), (1, .int v1), (2, .int v2), (4, .int v4)]) E.x E.b d_Shm_badSources_70 rfl hl (by decide) rfl (fun ls hl => ?_)
  obtain ⟨y9, e_y9, h⟩ := lt_some h
  refine lv_iinc (v := y9) (lv' := [(4, .int y9), (3, .int s0), (0, .ref (ad v0)), (1, .int v1), (2, .int v2)]) E.x E.b d_Shm_badSources_71 hl (k := 4) rfl (e_y9) (by decide) rfl (fun ls hl => ?_)
  refine lv_goto (tgt := 31) E.x E.b d_Shm_badSources_74 (by decide) ?_
  exact hr_31 v0 v1 v2 s0 y9 _ _ _ h w (lv_sub hl [2, 3, 4, 1, 0] rfl)
def F_Shm_badSources_65 (rc_31 : Sg → Nat → Int32 → Int32 → Int32 → Int32 → Option (Int32)) (σ : Sg) (v0 : Nat) (v1 : Int32) (v2 : Int32) (v4 : Int32) : Option (Int32) := ck (v0 < 58) (F_Shm_badSources_70 rc_31 σ v0 v1 v2 v4 1)
set_option maxRecDepth 10000 in
set_option maxHeartbeats 4000000 in
theorem bt_Shm_badSources_65 {p : Program} {l : Launch} {e : Env} {R : Room} {s : State} {m : MethodId} {args : Array Value} {below : List Frame} {meth : Method} {c : Code} {D : va_G} {τ : ClassId × ClassId × ClassId} {B : Nat} {A : Nat → Prop} {ad : Nat → Nat} (E : Cx p R s m args meth c prog_18_method_9_code 5 "DrawingMachineModel$ShaderMachineModel" 1 D τ B A) (hret : meth.sig.returnType = (some .boolean)) (o : Int32) (rc_31 : Sg → Nat → Int32 → Int32 → Int32 → Int32 → Option (Int32)) (σ : Sg) (hr_31 : ∀ (v0 : Nat) (v1 : Int32) (v2 : Int32) (v3 : Int32) (v4 : Int32) (H : Heap) (locs : List Loc) (ls : Array Slot), rc_31 σ v0 v1 v2 v3 v4 = some o → Wd s D A (wdM τ σ ad) H locs → lv_has ls 5 [(0, .ref (ad v0)), (1, .int v1), (2, .int v2), (3, .int v3), (4, .int v4)] → W p l e R s m args below meth c H locs 0 0 (QI below args s A D τ (wdM τ σ ad) o) (F0 m 31 ls [])) (v0 : Nat) (v1 : Int32) (v2 : Int32) (v4 : Int32) (h : F_Shm_badSources_65 rc_31 σ v0 v1 v2 v4 = some o) {H : Heap} {locs : List Loc} {ls : Array Slot} (w : Wd s D A (wdM τ σ ad) H locs) (hl : lv_has ls 5 [(0, .ref (ad v0)), (1, .int v1), (2, .int v2), (4, .int v4)]) : W p l e R s m args below meth c H locs 0 0 (QI below args s A D τ (wdM τ σ ad) o) (F0 m 65 ls []) := by
  obtain ⟨c10, h⟩ := ck_some h
  refine lv_iconst (v := 1) E.x E.b d_Shm_badSources_65 (by decide) ?_
  refine lv_goto (tgt := 70) E.x E.b d_Shm_badSources_66 (by decide) ?_
  exact bt_Shm_badSources_70 E hret o rc_31 σ hr_31 v0 v1 v2 v4 1 h w (lv_sub hl [0, 1, 2, 3] rfl)
def F_Shm_badSources_59 (rc_31 : Sg → Nat → Int32 → Int32 → Int32 → Int32 → Option (Int32)) (σ : Sg) (v0 : Nat) (v1 : Int32) (v2 : Int32) (v4 : Int32) (s0 : Int32) (s1 : Int32) : Option (Int32) := ck (v0 < 58) (bd (F_Shm_badSource s0 s1) (fun o12 => if o12 = 0 then (F_Shm_badSources_70 rc_31 σ v0 v1 v2 v4 0) else (F_Shm_badSources_65 rc_31 σ v0 v1 v2 v4)))
set_option maxRecDepth 10000 in
set_option maxHeartbeats 4000000 in
theorem bt_Shm_badSources_59 {p : Program} {l : Launch} {e : Env} {R : Room} {s : State} {m : MethodId} {args : Array Value} {below : List Frame} {meth : Method} {c : Code} {D : va_G} {τ : ClassId × ClassId × ClassId} {B : Nat} {A : Nat → Prop} {ad : Nat → Nat} (E : Cx p R s m args meth c prog_18_method_9_code 5 "DrawingMachineModel$ShaderMachineModel" 1 D τ B A) (hret : meth.sig.returnType = (some .boolean)) (o : Int32) (rc_31 : Sg → Nat → Int32 → Int32 → Int32 → Int32 → Option (Int32)) (σ : Sg) (hr_31 : ∀ (v0 : Nat) (v1 : Int32) (v2 : Int32) (v3 : Int32) (v4 : Int32) (H : Heap) (locs : List Loc) (ls : Array Slot), rc_31 σ v0 v1 v2 v3 v4 = some o → Wd s D A (wdM τ σ ad) H locs → lv_has ls 5 [(0, .ref (ad v0)), (1, .int v1), (2, .int v2), (3, .int v3), (4, .int v4)] → W p l e R s m args below meth c H locs 0 0 (QI below args s A D τ (wdM τ σ ad) o) (F0 m 31 ls [])) (v0 : Nat) (v1 : Int32) (v2 : Int32) (v4 : Int32) (s0 : Int32) (s1 : Int32) (h : F_Shm_badSources_59 rc_31 σ v0 v1 v2 v4 s0 s1 = some o) {H : Heap} {locs : List Loc} {ls : Array Slot} (w : Wd s D A (wdM τ σ ad) H locs) (hl : lv_has ls 5 [(0, .ref (ad v0)), (1, .int v1), (2, .int v2), (4, .int v4)]) : W p l e R s m args below meth c H locs 0 0 (QI below args s A D τ (wdM τ σ ad) o) (F0 m 59 ls [.int s1, .int s0]) := by
  obtain ⟨c11, h⟩ := ck_some h
  obtain ⟨o12, h_o12, h⟩ := bd_some h
  refine clS_Shm_badSource E w (x0 := s0) (x1 := s1) h_o12 k2118 (by decide) hl.1 (Nat.le_of_ble_eq_true rfl) d_Shm_badSources_59 (fun H locs w => ?_)
  refine lv_if_eq (tgt := 69) E.x E.b d_Shm_badSources_62 (by decide) (fun c => ?_) (fun c => ?_)
  ·
    replace h := ifT c h
    refine lv_iconst (v := 0) E.x E.b d_Shm_badSources_69 (by decide) ?_
    exact bt_Shm_badSources_70 E hret o rc_31 σ hr_31 v0 v1 v2 v4 0 h w (lv_sub hl [0, 1, 2, 3] rfl)
  ·
    replace h := ifF c h
    exact bt_Shm_badSources_65 E hret o rc_31 σ hr_31 v0 v1 v2 v4 h w (lv_sub hl [0, 1, 2, 3] rfl)
def L_Shm_badSources_31 : Nat → Sg → Nat → Int32 → Int32 → Int32 → Int32 → Option (Int32)
  | 0, _, _, _, _, _, _ => none
  | n + 1, σ, v0, v1, v2, v3, v4 => ck (v0 < 58) (if 3 ≤ v4 then (ck (v3 = 0 ∨ v3 = 1) (some v3)) else (if v3 = 0 then (bd (F_Shm_sourceOf σ v0 v1 v4) (fun o15 => if v2 ≤ v4 then (F_Shm_badSources_59 (L_Shm_badSources_31 n) σ v0 v1 v2 v4 o15 0) else (F_Shm_badSources_59 (L_Shm_badSources_31 n) σ v0 v1 v2 v4 o15 1))) else (F_Shm_badSources_65 (L_Shm_badSources_31 n) σ v0 v1 v2 v4)))
set_option maxRecDepth 10000 in
set_option maxHeartbeats 4000000 in
theorem lt_Shm_badSources_31 {p : Program} {l : Launch} {e : Env} {R : Room} {s : State} {m : MethodId} {args : Array Value} {below : List Frame} {meth : Method} {c : Code} {D : va_G} {τ : ClassId × ClassId × ClassId} {B : Nat} {A : Nat → Prop} {ad : Nat → Nat} (E : Cx p R s m args meth c prog_18_method_9_code 5 "DrawingMachineModel$ShaderMachineModel" 1 D τ B A) (hret : meth.sig.returnType = (some .boolean)) (o : Int32) (σ : Sg) : ∀ (n : Nat) (v0 : Nat) (v1 : Int32) (v2 : Int32) (v3 : Int32) (v4 : Int32) (H : Heap) (locs : List Loc) (ls : Array Slot), L_Shm_badSources_31 n σ v0 v1 v2 v3 v4 = some o → Wd s D A (wdM τ σ ad) H locs → lv_has ls 5 [(0, .ref (ad v0)), (1, .int v1), (2, .int v2), (3, .int v3), (4, .int v4)] → W p l e R s m args below meth c H locs 0 0 (QI below args s A D τ (wdM τ σ ad) o) (F0 m 31 ls []) := by
  intro n
  induction n with
  | zero =>
    intro v0 v1 v2 v3 v4 H locs ls h w hl
    cases h
  | succ n hr_31 =>
    intro v0 v1 v2 v3 v4 H locs ls h w hl
    obtain ⟨c13, h⟩ := ck_some h
    refine lv_iload E.x E.b d_Shm_badSources_31 (lv_at hl 4 rfl) ?_
    refine lv_iconst (v := 3) E.x E.b d_Shm_badSources_33 (by decide) ?_
    refine lv_icmp_ge (tgt := 77) E.x E.b d_Shm_badSources_34 (by decide) (fun c => ?_) (fun c => ?_)
    ·
      replace h := ifT c h
      refine lv_iload_n E.x E.b d_Shm_badSources_77 rfl (lv_at hl 3 rfl) ?_
      obtain ⟨c14, h⟩ := ck_some h
      obtain rfl := Option.some.inj h
      exact rt_z E w hret c14 d_Shm_badSources_78
    ·
      replace h := ifF c h
      refine lv_iload_n E.x E.b d_Shm_badSources_37 rfl (lv_at hl 3 rfl) ?_
      refine lv_if_ne (tgt := 65) E.x E.b d_Shm_badSources_38 (by decide) (fun c => ?_) (fun c => ?_)
      ·
        replace h := ifF c h
        exact bt_Shm_badSources_65 E hret o (L_Shm_badSources_31 n) σ hr_31 v0 v1 v2 v4 h w (lv_sub hl [0, 1, 2, 4] rfl)
      ·
        replace h := ifT c h
        refine lv_aload_n E.x E.b d_Shm_badSources_41 rfl (lv_at hl 0 rfl) ?_
        refine lv_iload_n E.x E.b d_Shm_badSources_42 rfl (lv_at hl 1 rfl) ?_
        refine lv_iload E.x E.b d_Shm_badSources_43 (lv_at hl 4 rfl) ?_
        obtain ⟨o15, h_o15, h⟩ := bd_some h
        refine clS_Shm_sourceOf E w (ar0 := v0) (x1 := v1) (x2 := v4) h_o15 k2114 (by decide) hl.1 (Nat.le_of_ble_eq_true rfl) d_Shm_badSources_45 (fun H locs w => ?_)
        refine lv_iload E.x E.b d_Shm_badSources_48 (lv_at hl 4 rfl) ?_
        refine lv_iload_n E.x E.b d_Shm_badSources_50 rfl (lv_at hl 2 rfl) ?_
        refine lv_icmp_ge (tgt := 58) E.x E.b d_Shm_badSources_51 (by decide) (fun c => ?_) (fun c => ?_)
        ·
          replace h := ifT c h
          refine lv_iconst (v := 0) E.x E.b d_Shm_badSources_58 (by decide) ?_
          exact bt_Shm_badSources_59 E hret o (L_Shm_badSources_31 n) σ hr_31 v0 v1 v2 v4 o15 0 h w (lv_sub hl [0, 1, 2, 4] rfl)
        ·
          replace h := ifF c h
          refine lv_iconst (v := 1) E.x E.b d_Shm_badSources_54 (by decide) ?_
          refine lv_goto (tgt := 59) E.x E.b d_Shm_badSources_55 (by decide) ?_
          exact bt_Shm_badSources_59 E hret o (L_Shm_badSources_31 n) σ hr_31 v0 v1 v2 v4 o15 1 h w (lv_sub hl [0, 1, 2, 4] rfl)
def F_Shm_badSources_27 (σ : Sg) (v0 : Nat) (v1 : Int32) (v2 : Int32) (s0 : Int32) : Option (Int32) := ck (v0 < 58) (L_Shm_badSources_31 100000 σ v0 v1 v2 s0 0)
set_option maxRecDepth 10000 in
set_option maxHeartbeats 4000000 in
theorem bt_Shm_badSources_27 {p : Program} {l : Launch} {e : Env} {R : Room} {s : State} {m : MethodId} {args : Array Value} {below : List Frame} {meth : Method} {c : Code} {D : va_G} {τ : ClassId × ClassId × ClassId} {B : Nat} {A : Nat → Prop} {ad : Nat → Nat} (E : Cx p R s m args meth c prog_18_method_9_code 5 "DrawingMachineModel$ShaderMachineModel" 1 D τ B A) (hret : meth.sig.returnType = (some .boolean)) (o : Int32) (σ : Sg) (v0 : Nat) (v1 : Int32) (v2 : Int32) (s0 : Int32) (h : F_Shm_badSources_27 σ v0 v1 v2 s0 = some o) {H : Heap} {locs : List Loc} {ls : Array Slot} (w : Wd s D A (wdM τ σ ad) H locs) (hl : lv_has ls 5 [(0, .ref (ad v0)), (1, .int v1), (2, .int v2)]) : W p l e R s m args below meth c H locs 0 0 (QI below args s A D τ (wdM τ σ ad) o) (F0 m 27 ls [.int s0]) := by
  obtain ⟨c16, h⟩ := ck_some h
  refine lv_istore_n (lv' := [(3, .int s0), (0, .ref (ad v0)), (1, .int v1), (2, .int v2)]) E.x E.b d_Shm_badSources_27 rfl hl (by decide) rfl (fun ls hl => ?_)
  refine lv_iconst (v := 0) E.x E.b d_Shm_badSources_28 (by decide) ?_
  refine lv_istore (lv' := [(4, .int 0), (3, .int s0), (0, .ref (ad v0)), (1, .int v1), (2, .int v2)]) E.x E.b d_Shm_badSources_29 hl (by decide) rfl (fun ls hl => ?_)
  exact lt_Shm_badSources_31 E hret o σ 100000 v0 v1 v2 s0 0 _ _ _ h w (lv_sub hl [2, 3, 4, 1, 0] rfl)
def F_Shm_badSources (σ : Sg) (ar0 : Nat) (x1 : Int32) : Option (Int32) := ck (ar0 < 58) (bd (F_Shm_kindOf σ ar0 x1) (fun o18 => bd (F_Shm_sources o18) (fun o19 => ck (inb ((3 * x1) + 2) (lenM σ ar0)) (if (ushr (σ.2.2.1 ar0 ((3 * x1) + 2).toNatClampNeg) 16) = 0 then (F_Shm_badSources_27 σ ar0 x1 o19 0) else (F_Shm_badSources_27 σ ar0 x1 o19 1)))))
set_option maxRecDepth 10000 in
set_option maxHeartbeats 4000000 in
theorem c_Shm_badSources (l : Launch) (D : va_G) (τ : ClassId × ClassId × ClassId) (B : Nat) (σ : Sg) (ad : Nat → Nat) (ar0 : Nat) (x1 : Int32) (o : Int32) (h : F_Shm_badSources σ ar0 x1 = some o) : MI l y_Shm_badSources (Cond.code y_Shm_badSources prog_18_method_9_code 5 (some .boolean)) 1 D τ B [.ref (ad ar0), .int x1] (wdM τ σ ad) (wdM τ σ ad) o := by
  refine en_i (by decide) (Nat.le_of_ble_eq_true rfl) ?_
  intro p e R s m args below meth c H locs ls A E hret w hl
  have E : Cx p R s m args meth c prog_18_method_9_code 5 "DrawingMachineModel$ShaderMachineModel" 1 D τ B A := E
  have hl : lv_has ls 5 [(0, .ref (ad ar0)), (1, .int x1)] := hl
  obtain ⟨c17, h⟩ := ck_some h
  refine lv_aload_n E.x E.b d_Shm_badSources_0 rfl (lv_at hl 0 rfl) ?_
  refine lv_iload_n E.x E.b d_Shm_badSources_1 rfl (lv_at hl 1 rfl) ?_
  obtain ⟨o18, h_o18, h⟩ := bd_some h
  refine clS_Shm_kindOf E w (ar0 := ar0) (x1 := x1) h_o18 k2099 (by decide) hl.1 (Nat.le_of_ble_eq_true rfl) d_Shm_badSources_2 (fun H locs w => ?_)
  obtain ⟨o19, h_o19, h⟩ := bd_some h
  refine clS_Shm_sources E w (x0 := o18) h_o19 k2111 (by decide) hl.1 (Nat.le_of_ble_eq_true rfl) d_Shm_badSources_5 (fun H locs w => ?_)
  refine lv_istore_n (lv' := [(2, .int o19), (0, .ref (ad ar0)), (1, .int x1)]) E.x E.b d_Shm_badSources_8 rfl hl (by decide) rfl (fun ls hl => ?_)
  refine lv_aload_n E.x E.b d_Shm_badSources_9 rfl (lv_at hl 1 rfl) ?_
  refine lv_iconst (v := 3) E.x E.b d_Shm_badSources_10 (by decide) ?_
  refine lv_iload_n E.x E.b d_Shm_badSources_11 rfl (lv_at hl 2 rfl) ?_
  refine lv_imul E.x E.b d_Shm_badSources_12 ?_
  refine lv_iconst (v := 2) E.x E.b d_Shm_badSources_13 (by decide) ?_
  refine lv_iadd E.x E.b d_Shm_badSources_14 ?_
  obtain ⟨c20, h⟩ := ck_some h
  refine ialM E w (k := ar0) c17 c20 d_Shm_badSources_15 ?_
  refine lv_bipush (v := 16) E.x E.b d_Shm_badSources_16 (by decide) ?_
  refine lv_iushr (v := ushr (σ.2.2.1 ar0 ((3 * x1) + 2).toNatClampNeg) 16) E.x E.b d_Shm_badSources_18 rfl ?_
  refine lv_if_eq (tgt := 26) E.x E.b d_Shm_badSources_19 (by decide) (fun c => ?_) (fun c => ?_)
  ·
    replace h := ifT c h
    refine lv_iconst (v := 0) E.x E.b d_Shm_badSources_26 (by decide) ?_
    exact bt_Shm_badSources_27 E hret o σ ar0 x1 o19 0 h w (lv_sub hl [1, 2, 0] rfl)
  ·
    replace h := ifF c h
    refine lv_iconst (v := 1) E.x E.b d_Shm_badSources_22 (by decide) ?_
    refine lv_goto (tgt := 27) E.x E.b d_Shm_badSources_23 (by decide) ?_
    exact bt_Shm_badSources_27 E hret o σ ar0 x1 o19 1 h w (lv_sub hl [1, 2, 0] rfl)
theorem clS_Shm_badSources {p : Program} {l : Launch} {e : Env} {R : Room} {s : State} {m : MethodId} {args : Array Value} {below : List Frame} {meth : Method} {c : Code} {H : Heap} {locs : List Loc} {Q : State → Prop} {cc : ByteArray} {nL pc lev : Nat} {own : String} {D : va_G} {τ : ClassId × ClassId × ClassId} {B : Nat} {A : Nat → Prop} {σ : Sg} {ad : Nat → Nat} {ls : Array Slot} {rest : List Value} (E : Cx p R s m args meth c cc nL own lev D τ B A) (w : Wd s D A (wdM τ σ ad) H locs) {ar0 : Nat} {x1 : Int32} {o : Int32} (h : F_Shm_badSources σ ar0 x1 = some o) {index : Nat} (hlk : Cond.methodLink own index y_Shm_badSources ∈ tw) (hlev : 1 < lev) (hsz : ls.size = nL) (hr : (rest.map fun v => v.category).sum ≤ 8) (hd : decode cc pc = .ok (.invokestatic index, 3)) (kk : ∀ (H1 : Heap) (locs1 : List Loc), Wd s D A (wdM τ σ ad) H1 locs1 → W p l e R s m args below meth c H1 locs1 0 0 Q (F0 m (pc + 3) ls (.int o :: rest))) : W p l e R s m args below meth c H locs 0 0 Q (F0 m pc ls (.int x1 :: .ref (ad ar0) :: rest)) :=
  cr_i w E.C (va_runS (As := [.ref (ad ar0), .int x1]) (rest := rest) E.fix (c_Shm_badSources l D τ B σ ad ar0 x1 o h H.size) (va_cwS 2 E.w (tw_pre (tw_good k2110) (l := [_, _, _]) (List.forall_mem_cons.mpr ⟨hlk, List.forall_mem_cons.mpr ⟨k2109, List.forall_mem_cons.mpr ⟨k17, fun _ h => absurd h List.not_mem_nil⟩⟩⟩)) rfl rfl rfl (by decide +kernel) (E.rm hlev (by decide))) (wd_pre w E.C [.ref (ad ar0), .int x1]) rfl rfl hsz rfl (lv_room hr) hd ⟨Nat.zero_le _, Nat.zero_le _⟩) kk

theorem d_Shm_badTarget_0 : decode prog_18_method_7_code 0 = .ok (.aload_n 0, 1) := by decide +kernel
theorem d_Shm_badTarget_1 : decode prog_18_method_7_code 1 = .ok (.iconst 3, 1) := by decide +kernel
theorem d_Shm_badTarget_2 : decode prog_18_method_7_code 2 = .ok (.iload_n 1, 1) := by decide +kernel
theorem d_Shm_badTarget_3 : decode prog_18_method_7_code 3 = .ok (.imul, 1) := by decide +kernel
theorem d_Shm_badTarget_4 : decode prog_18_method_7_code 4 = .ok (.iaload, 1) := by decide +kernel
theorem d_Shm_badTarget_5 : decode prog_18_method_7_code 5 = .ok (.istore_n 2, 1) := by decide +kernel
theorem d_Shm_badTarget_6 : decode prog_18_method_7_code 6 = .ok (.iload_n 2, 1) := by decide +kernel
theorem d_Shm_badTarget_7 : decode prog_18_method_7_code 7 = .ok (.bipush 63, 2) := by decide +kernel
theorem d_Shm_badTarget_9 : decode prog_18_method_7_code 9 = .ok (.iand, 1) := by decide +kernel
theorem d_Shm_badTarget_10 : decode prog_18_method_7_code 10 = .ok (.invokestatic 52, 3) := by decide +kernel
theorem d_Shm_badTarget_13 : decode prog_18_method_7_code 13 = .ok (.ifCond .ne 20, 3) := by decide +kernel
theorem d_Shm_badTarget_16 : decode prog_18_method_7_code 16 = .ok (.iload_n 2, 1) := by decide +kernel
theorem d_Shm_badTarget_17 : decode prog_18_method_7_code 17 = .ok (.bipush 6, 2) := by decide +kernel
theorem d_Shm_badTarget_19 : decode prog_18_method_7_code 19 = .ok (.ishr, 1) := by decide +kernel
theorem d_Shm_badTarget_20 : decode prog_18_method_7_code 20 = .ok (.sipush 2047, 3) := by decide +kernel
theorem d_Shm_badTarget_23 : decode prog_18_method_7_code 23 = .ok (.iand, 1) := by decide +kernel
theorem d_Shm_badTarget_24 : decode prog_18_method_7_code 24 = .ok (.ifCond .eq 7, 3) := by decide +kernel
theorem d_Shm_badTarget_27 : decode prog_18_method_7_code 27 = .ok (.iconst 1, 1) := by decide +kernel
theorem d_Shm_badTarget_28 : decode prog_18_method_7_code 28 = .ok (.goto 4, 3) := by decide +kernel
theorem d_Shm_badTarget_31 : decode prog_18_method_7_code 31 = .ok (.iconst 0, 1) := by decide +kernel
theorem d_Shm_badTarget_32 : decode prog_18_method_7_code 32 = .ok (.ireturn, 1) := by decide +kernel
theorem d_Shm_badTarget_33 : decode prog_18_method_7_code 33 = .ok (.iload_n 2, 1) := by decide +kernel
theorem d_Shm_badTarget_34 : decode prog_18_method_7_code 34 = .ok (.bipush 6, 2) := by decide +kernel
theorem d_Shm_badTarget_36 : decode prog_18_method_7_code 36 = .ok (.ishr, 1) := by decide +kernel
theorem d_Shm_badTarget_37 : decode prog_18_method_7_code 37 = .ok (.iconst 3, 1) := by decide +kernel
theorem d_Shm_badTarget_38 : decode prog_18_method_7_code 38 = .ok (.iand, 1) := by decide +kernel
theorem d_Shm_badTarget_39 : decode prog_18_method_7_code 39 = .ok (.istore_n 3, 1) := by decide +kernel
theorem d_Shm_badTarget_40 : decode prog_18_method_7_code 40 = .ok (.iload_n 3, 1) := by decide +kernel
theorem d_Shm_badTarget_41 : decode prog_18_method_7_code 41 = .ok (.iconst 1, 1) := by decide +kernel
theorem d_Shm_badTarget_42 : decode prog_18_method_7_code 42 = .ok (.if_icmp .gt 30, 3) := by decide +kernel
theorem d_Shm_badTarget_45 : decode prog_18_method_7_code 45 = .ok (.iload_n 3, 1) := by decide +kernel
theorem d_Shm_badTarget_46 : decode prog_18_method_7_code 46 = .ok (.iconst 1, 1) := by decide +kernel
theorem d_Shm_badTarget_47 : decode prog_18_method_7_code 47 = .ok (.if_icmp .ne 15, 3) := by decide +kernel
theorem d_Shm_badTarget_50 : decode prog_18_method_7_code 50 = .ok (.iload_n 2, 1) := by decide +kernel
theorem d_Shm_badTarget_51 : decode prog_18_method_7_code 51 = .ok (.bipush 8, 2) := by decide +kernel
theorem d_Shm_badTarget_53 : decode prog_18_method_7_code 53 = .ok (.ishr, 1) := by decide +kernel
theorem d_Shm_badTarget_54 : decode prog_18_method_7_code 54 = .ok (.bipush 15, 2) := by decide +kernel
theorem d_Shm_badTarget_56 : decode prog_18_method_7_code 56 = .ok (.iand, 1) := by decide +kernel
theorem d_Shm_badTarget_57 : decode prog_18_method_7_code 57 = .ok (.bipush 8, 2) := by decide +kernel
theorem d_Shm_badTarget_59 : decode prog_18_method_7_code 59 = .ok (.if_icmp .ge 13, 3) := by decide +kernel
theorem d_Shm_badTarget_62 : decode prog_18_method_7_code 62 = .ok (.iload_n 2, 1) := by decide +kernel
theorem d_Shm_badTarget_63 : decode prog_18_method_7_code 63 = .ok (.bipush 12, 2) := by decide +kernel
theorem d_Shm_badTarget_65 : decode prog_18_method_7_code 65 = .ok (.ishr, 1) := by decide +kernel
theorem d_Shm_badTarget_66 : decode prog_18_method_7_code 66 = .ok (.bipush 15, 2) := by decide +kernel
theorem d_Shm_badTarget_68 : decode prog_18_method_7_code 68 = .ok (.iand, 1) := by decide +kernel
theorem d_Shm_badTarget_69 : decode prog_18_method_7_code 69 = .ok (.ifCond .ne 7, 3) := by decide +kernel
theorem d_Shm_badTarget_72 : decode prog_18_method_7_code 72 = .ok (.iconst 1, 1) := by decide +kernel
theorem d_Shm_badTarget_73 : decode prog_18_method_7_code 73 = .ok (.goto 4, 3) := by decide +kernel
theorem d_Shm_badTarget_76 : decode prog_18_method_7_code 76 = .ok (.iconst 0, 1) := by decide +kernel
theorem d_Shm_badTarget_77 : decode prog_18_method_7_code 77 = .ok (.ireturn, 1) := by decide +kernel
def F_Shm_badTarget_77 (σ : Sg) (s0 : Int32) : Option (Int32) := ck (s0 = 0 ∨ s0 = 1) (some s0)
set_option maxRecDepth 10000 in
set_option maxHeartbeats 4000000 in
theorem bt_Shm_badTarget_77 {p : Program} {l : Launch} {e : Env} {R : Room} {s : State} {m : MethodId} {args : Array Value} {below : List Frame} {meth : Method} {c : Code} {D : va_G} {τ : ClassId × ClassId × ClassId} {B : Nat} {A : Nat → Prop} {ad : Nat → Nat} (E : Cx p R s m args meth c prog_18_method_7_code 4 "DrawingMachineModel$ShaderMachineModel" 1 D τ B A) (hret : meth.sig.returnType = (some .boolean)) (o : Int32) (σ : Sg) (s0 : Int32) (h : F_Shm_badTarget_77 σ s0 = some o) {H : Heap} {locs : List Loc} {ls : Array Slot} (w : Wd s D A (wdM τ σ ad) H locs) (hl : lv_has ls 4 []) : W p l e R s m args below meth c H locs 0 0 (QI below args s A D τ (wdM τ σ ad) o) (F0 m 77 ls [.int s0]) := by
  obtain ⟨c7, h⟩ := ck_some h
  obtain rfl := Option.some.inj h
  exact rt_z E w hret c7 d_Shm_badTarget_77
def F_Shm_badTarget_72 (σ : Sg) : Option (Int32) := F_Shm_badTarget_77 σ 1
set_option maxRecDepth 10000 in
set_option maxHeartbeats 4000000 in
theorem bt_Shm_badTarget_72 {p : Program} {l : Launch} {e : Env} {R : Room} {s : State} {m : MethodId} {args : Array Value} {below : List Frame} {meth : Method} {c : Code} {D : va_G} {τ : ClassId × ClassId × ClassId} {B : Nat} {A : Nat → Prop} {ad : Nat → Nat} (E : Cx p R s m args meth c prog_18_method_7_code 4 "DrawingMachineModel$ShaderMachineModel" 1 D τ B A) (hret : meth.sig.returnType = (some .boolean)) (o : Int32) (σ : Sg) (h : F_Shm_badTarget_72 σ = some o) {H : Heap} {locs : List Loc} {ls : Array Slot} (w : Wd s D A (wdM τ σ ad) H locs) (hl : lv_has ls 4 []) : W p l e R s m args below meth c H locs 0 0 (QI below args s A D τ (wdM τ σ ad) o) (F0 m 72 ls []) := by
  refine lv_iconst (v := 1) E.x E.b d_Shm_badTarget_72 (by decide) ?_
  refine lv_goto (tgt := 77) E.x E.b d_Shm_badTarget_73 (by decide) ?_
  exact bt_Shm_badTarget_77 E hret o σ 1 h w (lv_sub hl [] rfl)
def F_Shm_badTarget_62 (σ : Sg) (v2 : Int32) : Option (Int32) := if ((v2 >>> 12 : Int32) &&& 15) = (0 : Int32) then (F_Shm_badTarget_72 σ) else (F_Shm_badTarget_77 σ 0)
set_option maxRecDepth 10000 in
set_option maxHeartbeats 4000000 in
theorem bt_Shm_badTarget_62 {p : Program} {l : Launch} {e : Env} {R : Room} {s : State} {m : MethodId} {args : Array Value} {below : List Frame} {meth : Method} {c : Code} {D : va_G} {τ : ClassId × ClassId × ClassId} {B : Nat} {A : Nat → Prop} {ad : Nat → Nat} (E : Cx p R s m args meth c prog_18_method_7_code 4 "DrawingMachineModel$ShaderMachineModel" 1 D τ B A) (hret : meth.sig.returnType = (some .boolean)) (o : Int32) (σ : Sg) (v2 : Int32) (h : F_Shm_badTarget_62 σ v2 = some o) {H : Heap} {locs : List Loc} {ls : Array Slot} (w : Wd s D A (wdM τ σ ad) H locs) (hl : lv_has ls 4 [(2, .int v2)]) : W p l e R s m args below meth c H locs 0 0 (QI below args s A D τ (wdM τ σ ad) o) (F0 m 62 ls []) := by
  refine lv_iload_n E.x E.b d_Shm_badTarget_62 rfl (lv_at hl 0 rfl) ?_
  refine lv_bipush (v := 12) E.x E.b d_Shm_badTarget_63 (by decide) ?_
  refine lv_ishr E.x E.b d_Shm_badTarget_65 ?_
  refine wi_e (v := v2 >>> 12) rfl ?_
  refine lv_bipush (v := 15) E.x E.b d_Shm_badTarget_66 (by decide) ?_
  refine lv_iand E.x E.b d_Shm_badTarget_68 ?_
  refine lv_if_ne (tgt := 76) E.x E.b d_Shm_badTarget_69 (by decide) (fun c => ?_) (fun c => ?_)
  ·
    replace h := ifF c h
    refine lv_iconst (v := 0) E.x E.b d_Shm_badTarget_76 (by decide) ?_
    exact bt_Shm_badTarget_77 E hret o σ 0 h w (lv_sub hl [] rfl)
  ·
    replace h := ifT c h
    exact bt_Shm_badTarget_72 E hret o σ h w (lv_sub hl [] rfl)
def F_Shm_badTarget_32 (σ : Sg) (s0 : Int32) : Option (Int32) := ck (s0 = 0 ∨ s0 = 1) (some s0)
set_option maxRecDepth 10000 in
set_option maxHeartbeats 4000000 in
theorem bt_Shm_badTarget_32 {p : Program} {l : Launch} {e : Env} {R : Room} {s : State} {m : MethodId} {args : Array Value} {below : List Frame} {meth : Method} {c : Code} {D : va_G} {τ : ClassId × ClassId × ClassId} {B : Nat} {A : Nat → Prop} {ad : Nat → Nat} (E : Cx p R s m args meth c prog_18_method_7_code 4 "DrawingMachineModel$ShaderMachineModel" 1 D τ B A) (hret : meth.sig.returnType = (some .boolean)) (o : Int32) (σ : Sg) (s0 : Int32) (h : F_Shm_badTarget_32 σ s0 = some o) {H : Heap} {locs : List Loc} {ls : Array Slot} (w : Wd s D A (wdM τ σ ad) H locs) (hl : lv_has ls 4 []) : W p l e R s m args below meth c H locs 0 0 (QI below args s A D τ (wdM τ σ ad) o) (F0 m 32 ls [.int s0]) := by
  obtain ⟨c8, h⟩ := ck_some h
  obtain rfl := Option.some.inj h
  exact rt_z E w hret c8 d_Shm_badTarget_32
def F_Shm_badTarget (σ : Sg) (ar0 : Nat) (x1 : Int32) : Option (Int32) := ck (ar0 < 58) (ck (inb (3 * x1) (lenM σ ar0)) (lt (σ.2.2.1 ar0 (3 * x1).toNatClampNeg : Int32) (fun y11 => bd (F_Shm_hasTarget (y11 &&& 63)) (fun o12 => if o12 = (0 : Int32) then (if ((y11 >>> 6 : Int32) &&& 2047) = (0 : Int32) then (F_Shm_badTarget_32 σ 0) else (F_Shm_badTarget_32 σ 1)) else (lt ((y11 >>> 6 : Int32) &&& 3 : Int32) (fun y13 => if (1 : Int32) < y13 then (F_Shm_badTarget_72 σ) else (if y13 = (1 : Int32) then (if (8 : Int32) ≤ ((y11 >>> 8 : Int32) &&& 15) then (F_Shm_badTarget_72 σ) else (F_Shm_badTarget_62 σ y11)) else (F_Shm_badTarget_62 σ y11))))))))
set_option maxRecDepth 10000 in
set_option maxHeartbeats 4000000 in
theorem c_Shm_badTarget (l : Launch) (D : va_G) (τ : ClassId × ClassId × ClassId) (B : Nat) (σ : Sg) (ad : Nat → Nat) (ar0 : Nat) (x1 : Int32) (o : Int32) (h : F_Shm_badTarget σ ar0 x1 = some o) : MI l y_Shm_badTarget (Cond.code y_Shm_badTarget prog_18_method_7_code 4 (some .boolean)) 1 D τ B [.ref (ad ar0), .int x1] (wdM τ σ ad) (wdM τ σ ad) o := by
  refine en_i (by decide) (Nat.le_of_ble_eq_true rfl) ?_
  intro p e R s m args below meth c H locs ls A E hret w hl
  have E : Cx p R s m args meth c prog_18_method_7_code 4 "DrawingMachineModel$ShaderMachineModel" 1 D τ B A := E
  have hl : lv_has ls 4 [(0, .ref (ad ar0)), (1, .int x1)] := hl
  obtain ⟨c9, h⟩ := ck_some h
  refine lv_aload_n E.x E.b d_Shm_badTarget_0 rfl (lv_at hl 0 rfl) ?_
  refine lv_iconst (v := 3) E.x E.b d_Shm_badTarget_1 (by decide) ?_
  refine lv_iload_n E.x E.b d_Shm_badTarget_2 rfl (lv_at hl 1 rfl) ?_
  refine lv_imul E.x E.b d_Shm_badTarget_3 ?_
  obtain ⟨c10, h⟩ := ck_some h
  refine ialM E w (k := ar0) c9 c10 d_Shm_badTarget_4 ?_
  obtain ⟨y11, e_y11, h⟩ := lt_some h
  refine wi_e (v := y11) e_y11 ?_
  refine lv_istore_n (lv' := [(2, .int y11), (0, .ref (ad ar0)), (1, .int x1)]) E.x E.b d_Shm_badTarget_5 rfl hl (by decide) rfl (fun ls hl => ?_)
  refine lv_iload_n E.x E.b d_Shm_badTarget_6 rfl (lv_at hl 0 rfl) ?_
  refine lv_bipush (v := 63) E.x E.b d_Shm_badTarget_7 (by decide) ?_
  refine lv_iand E.x E.b d_Shm_badTarget_9 ?_
  obtain ⟨o12, h_o12, h⟩ := bd_some h
  refine clS_Shm_hasTarget E w (x0 := (y11 &&& 63)) h_o12 k2105 (by decide) hl.1 (Nat.le_of_ble_eq_true rfl) d_Shm_badTarget_10 (fun H locs w => ?_)
  refine lv_if_ne (tgt := 33) E.x E.b d_Shm_badTarget_13 (by decide) (fun c => ?_) (fun c => ?_)
  ·
    replace h := ifF c h
    refine lv_iload_n E.x E.b d_Shm_badTarget_33 rfl (lv_at hl 0 rfl) ?_
    refine lv_bipush (v := 6) E.x E.b d_Shm_badTarget_34 (by decide) ?_
    refine lv_ishr E.x E.b d_Shm_badTarget_36 ?_
    refine wi_e (v := y11 >>> 6) rfl ?_
    refine lv_iconst (v := 3) E.x E.b d_Shm_badTarget_37 (by decide) ?_
    refine lv_iand E.x E.b d_Shm_badTarget_38 ?_
    obtain ⟨y13, e_y13, h⟩ := lt_some h
    refine wi_e (v := y13) e_y13 ?_
    refine lv_istore_n (lv' := [(3, .int y13), (2, .int y11), (0, .ref (ad ar0)), (1, .int x1)]) E.x E.b d_Shm_badTarget_39 rfl hl (by decide) rfl (fun ls hl => ?_)
    refine lv_iload_n E.x E.b d_Shm_badTarget_40 rfl (lv_at hl 0 rfl) ?_
    refine lv_iconst (v := 1) E.x E.b d_Shm_badTarget_41 (by decide) ?_
    refine lv_icmp_gt (tgt := 72) E.x E.b d_Shm_badTarget_42 (by decide) (fun c => ?_) (fun c => ?_)
    ·
      replace h := ifT c h
      exact bt_Shm_badTarget_72 E hret o σ h w (lv_sub hl [] rfl)
    ·
      replace h := ifF c h
      refine lv_iload_n E.x E.b d_Shm_badTarget_45 rfl (lv_at hl 0 rfl) ?_
      refine lv_iconst (v := 1) E.x E.b d_Shm_badTarget_46 (by decide) ?_
      refine lv_icmp_ne (tgt := 62) E.x E.b d_Shm_badTarget_47 (by decide) (fun c => ?_) (fun c => ?_)
      ·
        replace h := ifF c h
        exact bt_Shm_badTarget_62 E hret o σ y11 h w (lv_sub hl [1] rfl)
      ·
        replace h := ifT c h
        refine lv_iload_n E.x E.b d_Shm_badTarget_50 rfl (lv_at hl 1 rfl) ?_
        refine lv_bipush (v := 8) E.x E.b d_Shm_badTarget_51 (by decide) ?_
        refine lv_ishr E.x E.b d_Shm_badTarget_53 ?_
        refine wi_e (v := y11 >>> 8) rfl ?_
        refine lv_bipush (v := 15) E.x E.b d_Shm_badTarget_54 (by decide) ?_
        refine lv_iand E.x E.b d_Shm_badTarget_56 ?_
        refine lv_bipush (v := 8) E.x E.b d_Shm_badTarget_57 (by decide) ?_
        refine lv_icmp_ge (tgt := 72) E.x E.b d_Shm_badTarget_59 (by decide) (fun c => ?_) (fun c => ?_)
        ·
          replace h := ifT c h
          exact bt_Shm_badTarget_72 E hret o σ h w (lv_sub hl [] rfl)
        ·
          replace h := ifF c h
          exact bt_Shm_badTarget_62 E hret o σ y11 h w (lv_sub hl [1] rfl)
  ·
    replace h := ifT c h
    refine lv_iload_n E.x E.b d_Shm_badTarget_16 rfl (lv_at hl 0 rfl) ?_
    refine lv_bipush (v := 6) E.x E.b d_Shm_badTarget_17 (by decide) ?_
    refine lv_ishr E.x E.b d_Shm_badTarget_19 ?_
    refine wi_e (v := y11 >>> 6) rfl ?_
    refine lv_sipush (v := 2047) E.x E.b d_Shm_badTarget_20 (by decide) ?_
    refine lv_iand E.x E.b d_Shm_badTarget_23 ?_
    refine lv_if_eq (tgt := 31) E.x E.b d_Shm_badTarget_24 (by decide) (fun c => ?_) (fun c => ?_)
    ·
      replace h := ifT c h
      refine lv_iconst (v := 0) E.x E.b d_Shm_badTarget_31 (by decide) ?_
      exact bt_Shm_badTarget_32 E hret o σ 0 h w (lv_sub hl [] rfl)
    ·
      replace h := ifF c h
      refine lv_iconst (v := 1) E.x E.b d_Shm_badTarget_27 (by decide) ?_
      refine lv_goto (tgt := 32) E.x E.b d_Shm_badTarget_28 (by decide) ?_
      exact bt_Shm_badTarget_32 E hret o σ 1 h w (lv_sub hl [] rfl)
theorem clS_Shm_badTarget {p : Program} {l : Launch} {e : Env} {R : Room} {s : State} {m : MethodId} {args : Array Value} {below : List Frame} {meth : Method} {c : Code} {H : Heap} {locs : List Loc} {Q : State → Prop} {cc : ByteArray} {nL pc lev : Nat} {own : String} {D : va_G} {τ : ClassId × ClassId × ClassId} {B : Nat} {A : Nat → Prop} {σ : Sg} {ad : Nat → Nat} {ls : Array Slot} {rest : List Value} (E : Cx p R s m args meth c cc nL own lev D τ B A) (w : Wd s D A (wdM τ σ ad) H locs) {ar0 : Nat} {x1 : Int32} {o : Int32} (h : F_Shm_badTarget σ ar0 x1 = some o) {index : Nat} (hlk : Cond.methodLink own index y_Shm_badTarget ∈ tw) (hlev : 1 < lev) (hsz : ls.size = nL) (hr : (rest.map fun v => v.category).sum ≤ 8) (hd : decode cc pc = .ok (.invokestatic index, 3)) (kk : ∀ (H1 : Heap) (locs1 : List Loc), Wd s D A (wdM τ σ ad) H1 locs1 → W p l e R s m args below meth c H1 locs1 0 0 Q (F0 m (pc + 3) ls (.int o :: rest))) : W p l e R s m args below meth c H locs 0 0 Q (F0 m pc ls (.int x1 :: .ref (ad ar0) :: rest)) :=
  cr_i w E.C (va_runS (As := [.ref (ad ar0), .int x1]) (rest := rest) E.fix (c_Shm_badTarget l D τ B σ ad ar0 x1 o h H.size) (va_cwS 2 E.w (tw_pre (tw_good k2104) (l := [_, _, _]) (List.forall_mem_cons.mpr ⟨hlk, List.forall_mem_cons.mpr ⟨k2103, List.forall_mem_cons.mpr ⟨k17, fun _ h => absurd h List.not_mem_nil⟩⟩⟩)) rfl rfl rfl (by decide +kernel) (E.rm hlev (by decide))) (wd_pre w E.C [.ref (ad ar0), .int x1]) rfl rfl hsz rfl (lv_room hr) hd ⟨Nat.zero_le _, Nat.zero_le _⟩) kk

theorem d_Shm_depth_0 : decode prog_18_method_11_code 0 = .ok (.iconst 0, 1) := by decide +kernel
theorem d_Shm_depth_1 : decode prog_18_method_11_code 1 = .ok (.istore_n 2, 1) := by decide +kernel
theorem d_Shm_depth_2 : decode prog_18_method_11_code 2 = .ok (.iconst 0, 1) := by decide +kernel
theorem d_Shm_depth_3 : decode prog_18_method_11_code 3 = .ok (.istore_n 3, 1) := by decide +kernel
theorem d_Shm_depth_4 : decode prog_18_method_11_code 4 = .ok (.iload_n 3, 1) := by decide +kernel
theorem d_Shm_depth_5 : decode prog_18_method_11_code 5 = .ok (.iload_n 1, 1) := by decide +kernel
theorem d_Shm_depth_6 : decode prog_18_method_11_code 6 = .ok (.if_icmp .ge 41, 3) := by decide +kernel
theorem d_Shm_depth_9 : decode prog_18_method_11_code 9 = .ok (.iload_n 2, 1) := by decide +kernel
theorem d_Shm_depth_10 : decode prog_18_method_11_code 10 = .ok (.aload_n 0, 1) := by decide +kernel
theorem d_Shm_depth_11 : decode prog_18_method_11_code 11 = .ok (.iload_n 3, 1) := by decide +kernel
theorem d_Shm_depth_12 : decode prog_18_method_11_code 12 = .ok (.invokestatic 56, 3) := by decide +kernel
theorem d_Shm_depth_15 : decode prog_18_method_11_code 15 = .ok (.bipush 34, 2) := by decide +kernel
theorem d_Shm_depth_17 : decode prog_18_method_11_code 17 = .ok (.if_icmp .ne 7, 3) := by decide +kernel
theorem d_Shm_depth_20 : decode prog_18_method_11_code 20 = .ok (.iconst 1, 1) := by decide +kernel
theorem d_Shm_depth_21 : decode prog_18_method_11_code 21 = .ok (.goto 18, 3) := by decide +kernel
theorem d_Shm_depth_24 : decode prog_18_method_11_code 24 = .ok (.aload_n 0, 1) := by decide +kernel
theorem d_Shm_depth_25 : decode prog_18_method_11_code 25 = .ok (.iload_n 3, 1) := by decide +kernel
theorem d_Shm_depth_26 : decode prog_18_method_11_code 26 = .ok (.invokestatic 56, 3) := by decide +kernel
theorem d_Shm_depth_29 : decode prog_18_method_11_code 29 = .ok (.bipush 35, 2) := by decide +kernel
theorem d_Shm_depth_31 : decode prog_18_method_11_code 31 = .ok (.if_icmp .ne 7, 3) := by decide +kernel
theorem d_Shm_depth_34 : decode prog_18_method_11_code 34 = .ok (.iconst (-1), 1) := by decide +kernel
theorem d_Shm_depth_35 : decode prog_18_method_11_code 35 = .ok (.goto 4, 3) := by decide +kernel
theorem d_Shm_depth_38 : decode prog_18_method_11_code 38 = .ok (.iconst 0, 1) := by decide +kernel
theorem d_Shm_depth_39 : decode prog_18_method_11_code 39 = .ok (.iadd, 1) := by decide +kernel
theorem d_Shm_depth_40 : decode prog_18_method_11_code 40 = .ok (.istore_n 2, 1) := by decide +kernel
theorem d_Shm_depth_41 : decode prog_18_method_11_code 41 = .ok (.iinc 3 1, 3) := by decide +kernel
theorem d_Shm_depth_44 : decode prog_18_method_11_code 44 = .ok (.goto (-40), 3) := by decide +kernel
theorem d_Shm_depth_47 : decode prog_18_method_11_code 47 = .ok (.iload_n 2, 1) := by decide +kernel
theorem d_Shm_depth_48 : decode prog_18_method_11_code 48 = .ok (.ireturn, 1) := by decide +kernel
def F_Shm_depth_39 (rc_4 : Sg → Nat → Int32 → Int32 → Int32 → Option (Int32)) (σ : Sg) (v0 : Nat) (v1 : Int32) (v3 : Int32) (s0 : Int32) (s1 : Int32) : Option (Int32) := ck (v0 < 58) (lt (s0 + s1 : Int32) (fun y6 => lt (v3 + 1) (fun y7 => rc_4 σ v0 v1 y6 y7)))
set_option maxRecDepth 10000 in
set_option maxHeartbeats 4000000 in
theorem bt_Shm_depth_39 {p : Program} {l : Launch} {e : Env} {R : Room} {s : State} {m : MethodId} {args : Array Value} {below : List Frame} {meth : Method} {c : Code} {D : va_G} {τ : ClassId × ClassId × ClassId} {B : Nat} {A : Nat → Prop} {ad : Nat → Nat} (E : Cx p R s m args meth c prog_18_method_11_code 4 "DrawingMachineModel$ShaderMachineModel" 1 D τ B A) (hret : meth.sig.returnType = (some .int)) (o : Int32) (rc_4 : Sg → Nat → Int32 → Int32 → Int32 → Option (Int32)) (σ : Sg) (hr_4 : ∀ (v0 : Nat) (v1 : Int32) (v2 : Int32) (v3 : Int32) (H : Heap) (locs : List Loc) (ls : Array Slot), rc_4 σ v0 v1 v2 v3 = some o → Wd s D A (wdM τ σ ad) H locs → lv_has ls 4 [(0, .ref (ad v0)), (1, .int v1), (2, .int v2), (3, .int v3)] → W p l e R s m args below meth c H locs 0 0 (QI below args s A D τ (wdM τ σ ad) o) (F0 m 4 ls [])) (v0 : Nat) (v1 : Int32) (v3 : Int32) (s0 : Int32) (s1 : Int32) (h : F_Shm_depth_39 rc_4 σ v0 v1 v3 s0 s1 = some o) {H : Heap} {locs : List Loc} {ls : Array Slot} (w : Wd s D A (wdM τ σ ad) H locs) (hl : lv_has ls 4 [(0, .ref (ad v0)), (1, .int v1), (3, .int v3)]) : W p l e R s m args below meth c H locs 0 0 (QI below args s A D τ (wdM τ σ ad) o) (F0 m 39 ls [.int s1, .int s0]) := by
  obtain ⟨c5, h⟩ := ck_some h
  refine lv_iadd E.x E.b d_Shm_depth_39 ?_
  obtain ⟨y6, e_y6, h⟩ := lt_some h
  refine wi_e (v := y6) e_y6 ?_
  refine lv_istore_n (lv' := [(2, .int y6), (0, .ref (ad v0)), (1, .int v1), (3, .int v3)]) E.x E.b d_Shm_depth_40 rfl hl (by decide) rfl (fun ls hl => ?_)
  obtain ⟨y7, e_y7, h⟩ := lt_some h
  refine lv_iinc (v := y7) (lv' := [(3, .int y7), (2, .int y6), (0, .ref (ad v0)), (1, .int v1)]) E.x E.b d_Shm_depth_41 hl (k := 3) rfl (e_y7) (by decide) rfl (fun ls hl => ?_)
  refine lv_goto (tgt := 4) E.x E.b d_Shm_depth_44 (by decide) ?_
  exact hr_4 v0 v1 y6 y7 _ _ _ h w (lv_sub hl [2, 3, 1, 0] rfl)
def L_Shm_depth_4 : Nat → Sg → Nat → Int32 → Int32 → Int32 → Option (Int32)
  | 0, _, _, _, _, _ => none
  | n + 1, σ, v0, v1, v2, v3 => ck (v0 < 58) (if v1 ≤ v3 then (some v2) else (bd (F_Shm_kindOf σ v0 v3) (fun o9 => if o9 = (34 : Int32) then (F_Shm_depth_39 (L_Shm_depth_4 n) σ v0 v1 v3 v2 1) else (bd (F_Shm_kindOf σ v0 v3) (fun o10 => if o10 = (35 : Int32) then (F_Shm_depth_39 (L_Shm_depth_4 n) σ v0 v1 v3 v2 (-1)) else (F_Shm_depth_39 (L_Shm_depth_4 n) σ v0 v1 v3 v2 0))))))
set_option maxRecDepth 10000 in
set_option maxHeartbeats 4000000 in
theorem lt_Shm_depth_4 {p : Program} {l : Launch} {e : Env} {R : Room} {s : State} {m : MethodId} {args : Array Value} {below : List Frame} {meth : Method} {c : Code} {D : va_G} {τ : ClassId × ClassId × ClassId} {B : Nat} {A : Nat → Prop} {ad : Nat → Nat} (E : Cx p R s m args meth c prog_18_method_11_code 4 "DrawingMachineModel$ShaderMachineModel" 1 D τ B A) (hret : meth.sig.returnType = (some .int)) (o : Int32) (σ : Sg) : ∀ (n : Nat) (v0 : Nat) (v1 : Int32) (v2 : Int32) (v3 : Int32) (H : Heap) (locs : List Loc) (ls : Array Slot), L_Shm_depth_4 n σ v0 v1 v2 v3 = some o → Wd s D A (wdM τ σ ad) H locs → lv_has ls 4 [(0, .ref (ad v0)), (1, .int v1), (2, .int v2), (3, .int v3)] → W p l e R s m args below meth c H locs 0 0 (QI below args s A D τ (wdM τ σ ad) o) (F0 m 4 ls []) := by
  intro n
  induction n with
  | zero =>
    intro v0 v1 v2 v3 H locs ls h w hl
    cases h
  | succ n hr_4 =>
    intro v0 v1 v2 v3 H locs ls h w hl
    obtain ⟨c8, h⟩ := ck_some h
    refine lv_iload_n E.x E.b d_Shm_depth_4 rfl (lv_at hl 3 rfl) ?_
    refine lv_iload_n E.x E.b d_Shm_depth_5 rfl (lv_at hl 1 rfl) ?_
    refine lv_icmp_ge (tgt := 47) E.x E.b d_Shm_depth_6 (by decide) (fun c => ?_) (fun c => ?_)
    ·
      replace h := ifT c h
      refine lv_iload_n E.x E.b d_Shm_depth_47 rfl (lv_at hl 2 rfl) ?_
      obtain rfl := Option.some.inj h
      exact rt_i E w hret d_Shm_depth_48
    ·
      replace h := ifF c h
      refine lv_iload_n E.x E.b d_Shm_depth_9 rfl (lv_at hl 2 rfl) ?_
      refine lv_aload_n E.x E.b d_Shm_depth_10 rfl (lv_at hl 0 rfl) ?_
      refine lv_iload_n E.x E.b d_Shm_depth_11 rfl (lv_at hl 3 rfl) ?_
      obtain ⟨o9, h_o9, h⟩ := bd_some h
      refine clS_Shm_kindOf E w (ar0 := v0) (x1 := v3) h_o9 k2099 (by decide) hl.1 (Nat.le_of_ble_eq_true rfl) d_Shm_depth_12 (fun H locs w => ?_)
      refine lv_bipush (v := 34) E.x E.b d_Shm_depth_15 (by decide) ?_
      refine lv_icmp_ne (tgt := 24) E.x E.b d_Shm_depth_17 (by decide) (fun c => ?_) (fun c => ?_)
      ·
        replace h := ifF c h
        refine lv_aload_n E.x E.b d_Shm_depth_24 rfl (lv_at hl 0 rfl) ?_
        refine lv_iload_n E.x E.b d_Shm_depth_25 rfl (lv_at hl 3 rfl) ?_
        obtain ⟨o10, h_o10, h⟩ := bd_some h
        refine clS_Shm_kindOf E w (ar0 := v0) (x1 := v3) h_o10 k2099 (by decide) hl.1 (Nat.le_of_ble_eq_true rfl) d_Shm_depth_26 (fun H locs w => ?_)
        refine lv_bipush (v := 35) E.x E.b d_Shm_depth_29 (by decide) ?_
        refine lv_icmp_ne (tgt := 38) E.x E.b d_Shm_depth_31 (by decide) (fun c => ?_) (fun c => ?_)
        ·
          replace h := ifF c h
          refine lv_iconst (v := 0) E.x E.b d_Shm_depth_38 (by decide) ?_
          exact bt_Shm_depth_39 E hret o (L_Shm_depth_4 n) σ hr_4 v0 v1 v3 v2 0 h w (lv_sub hl [0, 1, 3] rfl)
        ·
          replace h := ifT c h
          refine lv_iconst (v := (-1)) E.x E.b d_Shm_depth_34 (by decide) ?_
          refine lv_goto (tgt := 39) E.x E.b d_Shm_depth_35 (by decide) ?_
          exact bt_Shm_depth_39 E hret o (L_Shm_depth_4 n) σ hr_4 v0 v1 v3 v2 (-1) h w (lv_sub hl [0, 1, 3] rfl)
      ·
        replace h := ifT c h
        refine lv_iconst (v := 1) E.x E.b d_Shm_depth_20 (by decide) ?_
        refine lv_goto (tgt := 39) E.x E.b d_Shm_depth_21 (by decide) ?_
        exact bt_Shm_depth_39 E hret o (L_Shm_depth_4 n) σ hr_4 v0 v1 v3 v2 1 h w (lv_sub hl [0, 1, 3] rfl)
def F_Shm_depth (σ : Sg) (ar0 : Nat) (x1 : Int32) : Option (Int32) := ck (ar0 < 58) (L_Shm_depth_4 100000 σ ar0 x1 0 0)
set_option maxRecDepth 10000 in
set_option maxHeartbeats 4000000 in
theorem c_Shm_depth (l : Launch) (D : va_G) (τ : ClassId × ClassId × ClassId) (B : Nat) (σ : Sg) (ad : Nat → Nat) (ar0 : Nat) (x1 : Int32) (o : Int32) (h : F_Shm_depth σ ar0 x1 = some o) : MI l y_Shm_depth (Cond.code y_Shm_depth prog_18_method_11_code 4 (some .int)) 1 D τ B [.ref (ad ar0), .int x1] (wdM τ σ ad) (wdM τ σ ad) o := by
  refine en_i (by decide) (Nat.le_of_ble_eq_true rfl) ?_
  intro p e R s m args below meth c H locs ls A E hret w hl
  have E : Cx p R s m args meth c prog_18_method_11_code 4 "DrawingMachineModel$ShaderMachineModel" 1 D τ B A := E
  have hl : lv_has ls 4 [(0, .ref (ad ar0)), (1, .int x1)] := hl
  obtain ⟨c11, h⟩ := ck_some h
  refine lv_iconst (v := 0) E.x E.b d_Shm_depth_0 (by decide) ?_
  refine lv_istore_n (lv' := [(2, .int 0), (0, .ref (ad ar0)), (1, .int x1)]) E.x E.b d_Shm_depth_1 rfl hl (by decide) rfl (fun ls hl => ?_)
  refine lv_iconst (v := 0) E.x E.b d_Shm_depth_2 (by decide) ?_
  refine lv_istore_n (lv' := [(3, .int 0), (2, .int 0), (0, .ref (ad ar0)), (1, .int x1)]) E.x E.b d_Shm_depth_3 rfl hl (by decide) rfl (fun ls hl => ?_)
  exact lt_Shm_depth_4 E hret o σ 100000 ar0 x1 0 0 _ _ _ h w (lv_sub hl [2, 3, 1, 0] rfl)
theorem clS_Shm_depth {p : Program} {l : Launch} {e : Env} {R : Room} {s : State} {m : MethodId} {args : Array Value} {below : List Frame} {meth : Method} {c : Code} {H : Heap} {locs : List Loc} {Q : State → Prop} {cc : ByteArray} {nL pc lev : Nat} {own : String} {D : va_G} {τ : ClassId × ClassId × ClassId} {B : Nat} {A : Nat → Prop} {σ : Sg} {ad : Nat → Nat} {ls : Array Slot} {rest : List Value} (E : Cx p R s m args meth c cc nL own lev D τ B A) (w : Wd s D A (wdM τ σ ad) H locs) {ar0 : Nat} {x1 : Int32} {o : Int32} (h : F_Shm_depth σ ar0 x1 = some o) {index : Nat} (hlk : Cond.methodLink own index y_Shm_depth ∈ tw) (hlev : 1 < lev) (hsz : ls.size = nL) (hr : (rest.map fun v => v.category).sum ≤ 8) (hd : decode cc pc = .ok (.invokestatic index, 3)) (kk : ∀ (H1 : Heap) (locs1 : List Loc), Wd s D A (wdM τ σ ad) H1 locs1 → W p l e R s m args below meth c H1 locs1 0 0 Q (F0 m (pc + 3) ls (.int o :: rest))) : W p l e R s m args below meth c H locs 0 0 Q (F0 m pc ls (.int x1 :: .ref (ad ar0) :: rest)) :=
  cr_i w E.C (va_runS (As := [.ref (ad ar0), .int x1]) (rest := rest) E.fix (c_Shm_depth l D τ B σ ad ar0 x1 o h H.size) (va_cwS 2 E.w (tw_pre (tw_good k2129) (l := [_, _, _]) (List.forall_mem_cons.mpr ⟨hlk, List.forall_mem_cons.mpr ⟨k2128, List.forall_mem_cons.mpr ⟨k17, fun _ h => absurd h List.not_mem_nil⟩⟩⟩)) rfl rfl rfl (by decide +kernel) (E.rm hlev (by decide))) (wd_pre w E.C [.ref (ad ar0), .int x1]) rfl rfl hsz rfl (lv_room hr) hd ⟨Nat.zero_le _, Nat.zero_le _⟩) kk
