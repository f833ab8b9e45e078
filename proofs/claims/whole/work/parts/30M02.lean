theorem d_Txm_also_0 : decode prog_19_method_21_code 0 = .ok (.aload_n 0, 1) := by decide +kernel
theorem d_Txm_also_1 : decode prog_19_method_21_code 1 = .ok (.iload_n 1, 1) := by decide +kernel
theorem d_Txm_also_2 : decode prog_19_method_21_code 2 = .ok (.iconst 0, 1) := by decide +kernel
theorem d_Txm_also_3 : decode prog_19_method_21_code 3 = .ok (.iconst 3, 1) := by decide +kernel
theorem d_Txm_also_4 : decode prog_19_method_21_code 4 = .ok (.invokestatic 44, 3) := by decide +kernel
theorem d_Txm_also_7 : decode prog_19_method_21_code 7 = .ok (.ifCond .ne 7, 3) := by decide +kernel
theorem d_Txm_also_10 : decode prog_19_method_21_code 10 = .ok (.iconst 1, 1) := by decide +kernel
theorem d_Txm_also_11 : decode prog_19_method_21_code 11 = .ok (.goto 4, 3) := by decide +kernel
theorem d_Txm_also_14 : decode prog_19_method_21_code 14 = .ok (.iconst 0, 1) := by decide +kernel
theorem d_Txm_also_15 : decode prog_19_method_21_code 15 = .ok (.iconst 0, 1) := by decide +kernel
theorem d_Txm_also_16 : decode prog_19_method_21_code 16 = .ok (.invokevirtual 48, 3) := by decide +kernel
theorem d_Txm_also_19 : decode prog_19_method_21_code 19 = .ok (.ifCond .eq 5, 3) := by decide +kernel
theorem d_Txm_also_22 : decode prog_19_method_21_code 22 = .ok (.iconst 0, 1) := by decide +kernel
theorem d_Txm_also_23 : decode prog_19_method_21_code 23 = .ok (.ireturn, 1) := by decide +kernel
theorem d_Txm_also_24 : decode prog_19_method_21_code 24 = .ok (.aload_n 0, 1) := by decide +kernel
theorem d_Txm_also_25 : decode prog_19_method_21_code 25 = .ok (.getfield 16, 3) := by decide +kernel
theorem d_Txm_also_28 : decode prog_19_method_21_code 28 = .ok (.iload_n 1, 1) := by decide +kernel
theorem d_Txm_also_29 : decode prog_19_method_21_code 29 = .ok (.iaload, 1) := by decide +kernel
theorem d_Txm_also_30 : decode prog_19_method_21_code 30 = .ok (.ireturn, 1) := by decide +kernel
def F_Txm_also_15 (σ : Sg) (v1 : Int32) (s1 : Int32) : Option (Sg × Int32) := bd (F_Txm_refuse σ s1 0) (fun o4 => if o4.2 = 0 then (ck (inb v1 4) (some (o4.1, o4.1.2.2.1 7 v1.toNatClampNeg))) else (some (o4.1, 0)))
set_option maxRecDepth 10000 in
set_option maxHeartbeats 4000000 in
theorem bt_Txm_also_15 {p : Program} {l : Launch} {e : Env} {R : Room} {s : State} {m : MethodId} {args : Array Value} {below : List Frame} {meth : Method} {c : Code} {D : va_G} {τ : ClassId × ClassId × ClassId} {B : Nat} {A : Nat → Prop} {ad : Nat → Nat} (E : Cx p R s m args meth c prog_19_method_21_code 2 "DrawingMachineModel$TextureUnitsModel" 1 D τ B A) (hret : meth.sig.returnType = (some .int)) (o : Sg × Int32) (σ : Sg) (v1 : Int32) (s1 : Int32) (h : F_Txm_also_15 σ v1 s1 = some o) {H : Heap} {locs : List Loc} {ls : Array Slot} (w : Wd s D A (wdM τ σ ad) H locs) (hl : lv_has ls 2 [(0, .ref (ad 61)), (1, .int v1)]) : W p l e R s m args below meth c H locs 0 0 (QI below args s A D τ (wdM τ o.1 ad) o.2) (F0 m 15 ls [.int s1, .ref (ad 61)]) := by
  refine lv_iconst (v := 0) E.x E.b d_Txm_also_15 (by decide) ?_
  obtain ⟨o4, h_o4, h⟩ := bd_some h
  refine clV_Txm_refuse E w (x0 := s1) (x1 := 0) h_o4 k2047 (by decide) hl.1 (Nat.le_of_ble_eq_true rfl) d_Txm_also_16 (fun H locs w => ?_)
  refine lv_if_eq (tgt := 24) E.x E.b d_Txm_also_19 (by decide) (fun c => ?_) (fun c => ?_)
  ·
    replace h := ifT c h
    refine lv_aload_n E.x E.b d_Txm_also_24 rfl (lv_at hl 0 rfl) ?_
    refine gM_Txm_latest E w k1517 d_Txm_also_25 ?_
    refine lv_iload_n E.x E.b d_Txm_also_28 rfl (lv_at hl 1 rfl) ?_
    obtain ⟨c5, h⟩ := ck_some h
    refine ialM E w (k := 7) (by decide) c5 d_Txm_also_29 ?_
    obtain rfl := Option.some.inj h
    exact rt_i E w hret d_Txm_also_30
  ·
    replace h := ifF c h
    refine lv_iconst (v := 0) E.x E.b d_Txm_also_22 (by decide) ?_
    obtain rfl := Option.some.inj h
    exact rt_i E w hret d_Txm_also_23
def F_Txm_also (σ : Sg) (x0 : Int32) : Option (Sg × Int32) := bd (F_Txm_in x0 0 3) (fun o6 => if o6 = 0 then (F_Txm_also_15 σ x0 1) else (F_Txm_also_15 σ x0 0))
set_option maxRecDepth 10000 in
set_option maxHeartbeats 4000000 in
theorem c_Txm_also (l : Launch) (D : va_G) (τ : ClassId × ClassId × ClassId) (B : Nat) (σ : Sg) (ad : Nat → Nat) (x0 : Int32) (o : Sg × Int32) (h : F_Txm_also σ x0 = some o) : MI l y_Txm_also (Cond.code y_Txm_also prog_19_method_21_code 2 (some .int)) 1 D τ B [.ref (ad 61), .int x0] (wdM τ σ ad) (wdM τ o.1 ad) o.2 := by
  refine en_i (by decide) (Nat.le_of_ble_eq_true rfl) ?_
  intro p e R s m args below meth c H locs ls A E hret w hl
  have E : Cx p R s m args meth c prog_19_method_21_code 2 "DrawingMachineModel$TextureUnitsModel" 1 D τ B A := E
  have hl : lv_has ls 2 [(0, .ref (ad 61)), (1, .int x0)] := hl
  refine lv_aload_n E.x E.b d_Txm_also_0 rfl (lv_at hl 0 rfl) ?_
  refine lv_iload_n E.x E.b d_Txm_also_1 rfl (lv_at hl 1 rfl) ?_
  refine lv_iconst (v := 0) E.x E.b d_Txm_also_2 (by decide) ?_
  refine lv_iconst (v := 3) E.x E.b d_Txm_also_3 (by decide) ?_
  obtain ⟨o6, h_o6, h⟩ := bd_some h
  refine clS_Txm_in E w (x0 := x0) (x1 := 0) (x2 := 3) h_o6 k2044 (by decide) hl.1 (Nat.le_of_ble_eq_true rfl) d_Txm_also_4 (fun H locs w => ?_)
  refine lv_if_ne (tgt := 14) E.x E.b d_Txm_also_7 (by decide) (fun c => ?_) (fun c => ?_)
  ·
    replace h := ifF c h
    refine lv_iconst (v := 0) E.x E.b d_Txm_also_14 (by decide) ?_
    exact bt_Txm_also_15 E hret o σ x0 0 h w (lv_sub hl [0, 1] rfl)
  ·
    replace h := ifT c h
    refine lv_iconst (v := 1) E.x E.b d_Txm_also_10 (by decide) ?_
    refine lv_goto (tgt := 15) E.x E.b d_Txm_also_11 (by decide) ?_
    exact bt_Txm_also_15 E hret o σ x0 1 h w (lv_sub hl [0, 1] rfl)
theorem clV_Txm_also {p : Program} {l : Launch} {e : Env} {R : Room} {s : State} {m : MethodId} {args : Array Value} {below : List Frame} {meth : Method} {c : Code} {H : Heap} {locs : List Loc} {Q : State → Prop} {cc : ByteArray} {nL pc lev : Nat} {own : String} {D : va_G} {τ : ClassId × ClassId × ClassId} {B : Nat} {A : Nat → Prop} {σ : Sg} {ad : Nat → Nat} {ls : Array Slot} {rest : List Value} (E : Cx p R s m args meth c cc nL own lev D τ B A) (w : Wd s D A (wdM τ σ ad) H locs) {x0 : Int32} {o : Sg × Int32} (h : F_Txm_also σ x0 = some o) {index : Nat} (hlk : Cond.methodLink own index y_Txm_also ∈ tw) (hlev : 1 < lev) (hsz : ls.size = nL) (hr : (rest.map fun v => v.category).sum ≤ 8) (hd : decode cc pc = .ok (.invokevirtual index, 3)) (kk : ∀ (H1 : Heap) (locs1 : List Loc), Wd s D A (wdM τ o.1 ad) H1 locs1 → W p l e R s m args below meth c H1 locs1 0 0 Q (F0 m (pc + 3) ls (.int o.2 :: rest))) : W p l e R s m args below meth c H locs 0 0 Q (F0 m pc ls (.int x0 :: .ref (ad 61) :: rest)) :=
  cr_i w E.C (va_runV (As := [.int x0]) (rest := rest) E.fix (c_Txm_also l D τ B σ ad x0 o h H.size) (cwV 1 E.w (tw_pre (tw_good k2304) (l := [_, _, _, _]) (List.forall_mem_cons.mpr ⟨hlk, List.forall_mem_cons.mpr ⟨k2302, List.forall_mem_cons.mpr ⟨k2303, List.forall_mem_cons.mpr ⟨k16, fun _ h => absurd h List.not_mem_nil⟩⟩⟩⟩)) rfl rfl rfl (by decide +kernel) (E.rm hlev (by decide))) (wd_preV w E.C [.int x0] rcM_Txm rfl) rfl rfl hsz rfl (lv_room hr) hd ⟨Nat.zero_le _, Nat.zero_le _⟩) kk

theorem d_Txm_mix_0 : decode prog_19_method_17_code 0 = .ok (.iload_n 0, 1) := by decide +kernel
theorem d_Txm_mix_1 : decode prog_19_method_17_code 1 = .ok (.i2l, 1) := by decide +kernel
theorem d_Txm_mix_2 : decode prog_19_method_17_code 2 = .ok (.iload_n 1, 1) := by decide +kernel
theorem d_Txm_mix_3 : decode prog_19_method_17_code 3 = .ok (.i2l, 1) := by decide +kernel
theorem d_Txm_mix_4 : decode prog_19_method_17_code 4 = .ok (.iload_n 0, 1) := by decide +kernel
theorem d_Txm_mix_5 : decode prog_19_method_17_code 5 = .ok (.i2l, 1) := by decide +kernel
theorem d_Txm_mix_6 : decode prog_19_method_17_code 6 = .ok (.lsub, 1) := by decide +kernel
theorem d_Txm_mix_7 : decode prog_19_method_17_code 7 = .ok (.iload_n 2, 1) := by decide +kernel
theorem d_Txm_mix_8 : decode prog_19_method_17_code 8 = .ok (.i2l, 1) := by decide +kernel
theorem d_Txm_mix_9 : decode prog_19_method_17_code 9 = .ok (.lmul, 1) := by decide +kernel
theorem d_Txm_mix_10 : decode prog_19_method_17_code 10 = .ok (.bipush 16, 2) := by decide +kernel
theorem d_Txm_mix_12 : decode prog_19_method_17_code 12 = .ok (.lshr, 1) := by decide +kernel
theorem d_Txm_mix_13 : decode prog_19_method_17_code 13 = .ok (.ladd, 1) := by decide +kernel
theorem d_Txm_mix_14 : decode prog_19_method_17_code 14 = .ok (.l2i, 1) := by decide +kernel
theorem d_Txm_mix_15 : decode prog_19_method_17_code 15 = .ok (.ireturn, 1) := by decide +kernel
def F_Txm_mix  (x0 : Int32) (x1 : Int32) (x2 : Int32) : Option (Int32) := some ((x0.toInt64 + (lshr ((x1.toInt64 - x0.toInt64) * x2.toInt64) 16)).toInt32)
set_option maxRecDepth 10000 in
set_option maxHeartbeats 4000000 in
theorem c_Txm_mix (l : Launch) (D : va_G) (τ : ClassId × ClassId × ClassId) (B : Nat) (σ0 : Sg) (ad : Nat → Nat) (x0 : Int32) (x1 : Int32) (x2 : Int32) (o : Int32) (h : F_Txm_mix x0 x1 x2 = some o) : MI l y_Txm_mix (Cond.code y_Txm_mix prog_19_method_17_code 3 (some .int)) 0 D τ B [.int x0, .int x1, .int x2] (wdM τ σ0 ad) (wdM τ σ0 ad) o := by
  refine en_i (by decide) (Nat.le_of_ble_eq_true rfl) ?_
  intro p e R s m args below meth c H locs ls A E hret w hl
  have E : Cx p R s m args meth c prog_19_method_17_code 3 "DrawingMachineModel$TextureUnitsModel" 0 D τ B A := E
  have hl : lv_has ls 3 [(0, .int x0), (1, .int x1), (2, .int x2)] := hl
  refine lv_iload_n E.x E.b d_Txm_mix_0 rfl (lv_at hl 0 rfl) ?_
  refine lv_i2l (v := x0.toInt64) E.x E.b d_Txm_mix_1 rfl ?_
  refine lv_iload_n E.x E.b d_Txm_mix_2 rfl (lv_at hl 1 rfl) ?_
  refine lv_i2l (v := x1.toInt64) E.x E.b d_Txm_mix_3 rfl ?_
  refine lv_iload_n E.x E.b d_Txm_mix_4 rfl (lv_at hl 0 rfl) ?_
  refine lv_i2l (v := x0.toInt64) E.x E.b d_Txm_mix_5 rfl ?_
  refine lv_lsub E.x E.b d_Txm_mix_6 ?_
  refine lv_iload_n E.x E.b d_Txm_mix_7 rfl (lv_at hl 2 rfl) ?_
  refine lv_i2l (v := x2.toInt64) E.x E.b d_Txm_mix_8 rfl ?_
  refine lv_lmul E.x E.b d_Txm_mix_9 ?_
  refine lv_bipush (v := 16) E.x E.b d_Txm_mix_10 (by decide) ?_
  refine lv_lshr (v := lshr ((x1.toInt64 - x0.toInt64) * x2.toInt64) 16) E.x E.b d_Txm_mix_12 rfl ?_
  refine lv_ladd E.x E.b d_Txm_mix_13 ?_
  refine lv_l2i (v := (x0.toInt64 + (lshr ((x1.toInt64 - x0.toInt64) * x2.toInt64) 16)).toInt32) E.x E.b d_Txm_mix_14 rfl ?_
  obtain rfl := Option.some.inj h
  exact rt_i E w hret d_Txm_mix_15
theorem clS_Txm_mix {p : Program} {l : Launch} {e : Env} {R : Room} {s : State} {m : MethodId} {args : Array Value} {below : List Frame} {meth : Method} {c : Code} {H : Heap} {locs : List Loc} {Q : State → Prop} {cc : ByteArray} {nL pc lev : Nat} {own : String} {D : va_G} {τ : ClassId × ClassId × ClassId} {B : Nat} {A : Nat → Prop} {σ : Sg} {ad : Nat → Nat} {ls : Array Slot} {rest : List Value} (E : Cx p R s m args meth c cc nL own lev D τ B A) (w : Wd s D A (wdM τ σ ad) H locs) {x0 : Int32} {x1 : Int32} {x2 : Int32} {o : Int32} (h : F_Txm_mix x0 x1 x2 = some o) {index : Nat} (hlk : Cond.methodLink own index y_Txm_mix ∈ tw) (hlev : 0 < lev) (hsz : ls.size = nL) (hr : (rest.map fun v => v.category).sum ≤ 8) (hd : decode cc pc = .ok (.invokestatic index, 3)) (kk : ∀ (H1 : Heap) (locs1 : List Loc), Wd s D A (wdM τ σ ad) H1 locs1 → W p l e R s m args below meth c H1 locs1 0 0 Q (F0 m (pc + 3) ls (.int o :: rest))) : W p l e R s m args below meth c H locs 0 0 Q (F0 m pc ls (.int x2 :: .int x1 :: .int x0 :: rest)) :=
  cr_i w E.C (va_runS (As := [.int x0, .int x1, .int x2]) (rest := rest) E.fix (c_Txm_mix l D τ B σ ad x0 x1 x2 o h H.size) (va_cwS 3 E.w (tw_pre (tw_good k2299) (l := [_, _, _]) (List.forall_mem_cons.mpr ⟨hlk, List.forall_mem_cons.mpr ⟨k2298, List.forall_mem_cons.mpr ⟨k16, fun _ h => absurd h List.not_mem_nil⟩⟩⟩)) rfl rfl rfl (by decide +kernel) (E.rm hlev (by decide))) (wd_pre w E.C [.int x0, .int x1, .int x2]) rfl rfl hsz rfl (lv_room hr) hd ⟨Nat.zero_le _, Nat.zero_le _⟩) kk

theorem d_Txm_exponent_0 : decode prog_19_method_7_code 0 = .ok (.aload_n 0, 1) := by decide +kernel
theorem d_Txm_exponent_1 : decode prog_19_method_7_code 1 = .ok (.getfield 7, 3) := by decide +kernel
theorem d_Txm_exponent_4 : decode prog_19_method_7_code 4 = .ok (.bipush 8, 2) := by decide +kernel
theorem d_Txm_exponent_6 : decode prog_19_method_7_code 6 = .ok (.iload_n 1, 1) := by decide +kernel
theorem d_Txm_exponent_7 : decode prog_19_method_7_code 7 = .ok (.imul, 1) := by decide +kernel
theorem d_Txm_exponent_8 : decode prog_19_method_7_code 8 = .ok (.iconst 1, 1) := by decide +kernel
theorem d_Txm_exponent_9 : decode prog_19_method_7_code 9 = .ok (.iadd, 1) := by decide +kernel
theorem d_Txm_exponent_10 : decode prog_19_method_7_code 10 = .ok (.iload_n 3, 1) := by decide +kernel
theorem d_Txm_exponent_11 : decode prog_19_method_7_code 11 = .ok (.iadd, 1) := by decide +kernel
theorem d_Txm_exponent_12 : decode prog_19_method_7_code 12 = .ok (.iaload, 1) := by decide +kernel
theorem d_Txm_exponent_13 : decode prog_19_method_7_code 13 = .ok (.iload_n 2, 1) := by decide +kernel
theorem d_Txm_exponent_14 : decode prog_19_method_7_code 14 = .ok (.isub, 1) := by decide +kernel
theorem d_Txm_exponent_15 : decode prog_19_method_7_code 15 = .ok (.istore 4, 2) := by decide +kernel
theorem d_Txm_exponent_17 : decode prog_19_method_7_code 17 = .ok (.iload 4, 2) := by decide +kernel
theorem d_Txm_exponent_19 : decode prog_19_method_7_code 19 = .ok (.ifCond .ge 7, 3) := by decide +kernel
theorem d_Txm_exponent_22 : decode prog_19_method_7_code 22 = .ok (.iconst 0, 1) := by decide +kernel
theorem d_Txm_exponent_23 : decode prog_19_method_7_code 23 = .ok (.goto 5, 3) := by decide +kernel
theorem d_Txm_exponent_26 : decode prog_19_method_7_code 26 = .ok (.iload 4, 2) := by decide +kernel
theorem d_Txm_exponent_28 : decode prog_19_method_7_code 28 = .ok (.ireturn, 1) := by decide +kernel
def F_Txm_exponent_28 (σ : Sg) (s0 : Int32) : Option (Int32) := some s0
set_option maxRecDepth 10000 in
set_option maxHeartbeats 4000000 in
theorem bt_Txm_exponent_28 {p : Program} {l : Launch} {e : Env} {R : Room} {s : State} {m : MethodId} {args : Array Value} {below : List Frame} {meth : Method} {c : Code} {D : va_G} {τ : ClassId × ClassId × ClassId} {B : Nat} {A : Nat → Prop} {ad : Nat → Nat} (E : Cx p R s m args meth c prog_19_method_7_code 5 "DrawingMachineModel$TextureUnitsModel" 0 D τ B A) (hret : meth.sig.returnType = (some .int)) (o : Int32) (σ : Sg) (s0 : Int32) (h : F_Txm_exponent_28 σ s0 = some o) {H : Heap} {locs : List Loc} {ls : Array Slot} (w : Wd s D A (wdM τ σ ad) H locs) (hl : lv_has ls 5 []) : W p l e R s m args below meth c H locs 0 0 (QI below args s A D τ (wdM τ σ ad) o) (F0 m 28 ls [.int s0]) := by
  obtain rfl := Option.some.inj h
  exact rt_i E w hret d_Txm_exponent_28
def F_Txm_exponent (σ : Sg) (x0 : Int32) (x1 : Int32) (x2 : Int32) : Option (Int32) := ck (inb (((8 * x0) + 1) + x2) 32) (lt ((σ.2.2.1 5 (((8 * x0) + 1) + x2).toNatClampNeg) - x1) (fun y4 => if 0 ≤ y4 then (F_Txm_exponent_28 σ y4) else (F_Txm_exponent_28 σ 0)))
set_option maxRecDepth 10000 in
set_option maxHeartbeats 4000000 in
theorem c_Txm_exponent (l : Launch) (D : va_G) (τ : ClassId × ClassId × ClassId) (B : Nat) (σ : Sg) (ad : Nat → Nat) (x0 : Int32) (x1 : Int32) (x2 : Int32) (o : Int32) (h : F_Txm_exponent σ x0 x1 x2 = some o) : MI l y_Txm_exponent (Cond.code y_Txm_exponent prog_19_method_7_code 5 (some .int)) 0 D τ B [.ref (ad 61), .int x0, .int x1, .int x2] (wdM τ σ ad) (wdM τ σ ad) o := by
  refine en_i (by decide) (Nat.le_of_ble_eq_true rfl) ?_
  intro p e R s m args below meth c H locs ls A E hret w hl
  have E : Cx p R s m args meth c prog_19_method_7_code 5 "DrawingMachineModel$TextureUnitsModel" 0 D τ B A := E
  have hl : lv_has ls 5 [(0, .ref (ad 61)), (1, .int x0), (2, .int x1), (3, .int x2)] := hl
  refine lv_aload_n E.x E.b d_Txm_exponent_0 rfl (lv_at hl 0 rfl) ?_
  refine gM_Txm_units E w k1515 d_Txm_exponent_1 ?_
  refine lv_bipush (v := 8) E.x E.b d_Txm_exponent_4 (by decide) ?_
  refine lv_iload_n E.x E.b d_Txm_exponent_6 rfl (lv_at hl 1 rfl) ?_
  refine lv_imul E.x E.b d_Txm_exponent_7 ?_
  refine lv_iconst (v := 1) E.x E.b d_Txm_exponent_8 (by decide) ?_
  refine lv_iadd E.x E.b d_Txm_exponent_9 ?_
  refine lv_iload_n E.x E.b d_Txm_exponent_10 rfl (lv_at hl 3 rfl) ?_
  refine lv_iadd E.x E.b d_Txm_exponent_11 ?_
  obtain ⟨c3, h⟩ := ck_some h
  refine ialM E w (k := 5) (by decide) c3 d_Txm_exponent_12 ?_
  refine lv_iload_n E.x E.b d_Txm_exponent_13 rfl (lv_at hl 2 rfl) ?_
  refine lv_isub E.x E.b d_Txm_exponent_14 ?_
  obtain ⟨y4, e_y4, h⟩ := lt_some h
  refine wi_e (v := y4) e_y4 ?_
  refine lv_istore (lv' := [(4, .int y4), (0, .ref (ad 61)), (1, .int x0), (2, .int x1), (3, .int x2)]) E.x E.b d_Txm_exponent_15 hl (by decide) rfl (fun ls hl => ?_)
  refine lv_iload E.x E.b d_Txm_exponent_17 (lv_at hl 0 rfl) ?_
  refine lv_if_ge (tgt := 26) E.x E.b d_Txm_exponent_19 (by decide) (fun c => ?_) (fun c => ?_)
  ·
    replace h := ifT c h
    refine lv_iload E.x E.b d_Txm_exponent_26 (lv_at hl 0 rfl) ?_
    exact bt_Txm_exponent_28 E hret o σ y4 h w (lv_sub hl [] rfl)
  ·
    replace h := ifF c h
    refine lv_iconst (v := 0) E.x E.b d_Txm_exponent_22 (by decide) ?_
    refine lv_goto (tgt := 28) E.x E.b d_Txm_exponent_23 (by decide) ?_
    exact bt_Txm_exponent_28 E hret o σ 0 h w (lv_sub hl [] rfl)
theorem clV_Txm_exponent {p : Program} {l : Launch} {e : Env} {R : Room} {s : State} {m : MethodId} {args : Array Value} {below : List Frame} {meth : Method} {c : Code} {H : Heap} {locs : List Loc} {Q : State → Prop} {cc : ByteArray} {nL pc lev : Nat} {own : String} {D : va_G} {τ : ClassId × ClassId × ClassId} {B : Nat} {A : Nat → Prop} {σ : Sg} {ad : Nat → Nat} {ls : Array Slot} {rest : List Value} (E : Cx p R s m args meth c cc nL own lev D τ B A) (w : Wd s D A (wdM τ σ ad) H locs) {x0 : Int32} {x1 : Int32} {x2 : Int32} {o : Int32} (h : F_Txm_exponent σ x0 x1 x2 = some o) {index : Nat} (hlk : Cond.methodLink own index y_Txm_exponent ∈ tw) (hlev : 0 < lev) (hsz : ls.size = nL) (hr : (rest.map fun v => v.category).sum ≤ 8) (hd : decode cc pc = .ok (.invokevirtual index, 3)) (kk : ∀ (H1 : Heap) (locs1 : List Loc), Wd s D A (wdM τ σ ad) H1 locs1 → W p l e R s m args below meth c H1 locs1 0 0 Q (F0 m (pc + 3) ls (.int o :: rest))) : W p l e R s m args below meth c H locs 0 0 Q (F0 m pc ls (.int x2 :: .int x1 :: .int x0 :: .ref (ad 61) :: rest)) :=
  cr_i w E.C (va_runV (As := [.int x0, .int x1, .int x2]) (rest := rest) E.fix (c_Txm_exponent l D τ B σ ad x0 x1 x2 o h H.size) (cwV 3 E.w (tw_pre (tw_good k2252) (l := [_, _, _, _]) (List.forall_mem_cons.mpr ⟨hlk, List.forall_mem_cons.mpr ⟨k2251, List.forall_mem_cons.mpr ⟨ks84, List.forall_mem_cons.mpr ⟨k16, fun _ h => absurd h List.not_mem_nil⟩⟩⟩⟩)) rfl rfl rfl (by decide +kernel) (E.rm hlev (by decide))) (wd_preV w E.C [.int x0, .int x1, .int x2] rcM_Txm rfl) rfl rfl hsz rfl (lv_room hr) hd ⟨Nat.zero_le _, Nat.zero_le _⟩) kk

theorem d_Txm_high_0 : decode prog_19_method_9_code 0 = .ok (.iconst 1, 1) := by decide +kernel
theorem d_Txm_high_1 : decode prog_19_method_9_code 1 = .ok (.aload_n 0, 1) := by decide +kernel
theorem d_Txm_high_2 : decode prog_19_method_9_code 2 = .ok (.iload_n 1, 1) := by decide +kernel
theorem d_Txm_high_3 : decode prog_19_method_9_code 3 = .ok (.iload_n 2, 1) := by decide +kernel
theorem d_Txm_high_4 : decode prog_19_method_9_code 4 = .ok (.iconst 1, 1) := by decide +kernel
theorem d_Txm_high_5 : decode prog_19_method_9_code 5 = .ok (.invokevirtual 52, 3) := by decide +kernel
theorem d_Txm_high_8 : decode prog_19_method_9_code 8 = .ok (.ishl, 1) := by decide +kernel
theorem d_Txm_high_9 : decode prog_19_method_9_code 9 = .ok (.ireturn, 1) := by decide +kernel
def F_Txm_high (σ : Sg) (x0 : Int32) (x1 : Int32) : Option (Int32) := bd (F_Txm_exponent σ x0 x1 1) (fun o2 => some (1 <<< (o2 &&& 31)))
set_option maxRecDepth 10000 in
set_option maxHeartbeats 4000000 in
theorem c_Txm_high (l : Launch) (D : va_G) (τ : ClassId × ClassId × ClassId) (B : Nat) (σ : Sg) (ad : Nat → Nat) (x0 : Int32) (x1 : Int32) (o : Int32) (h : F_Txm_high σ x0 x1 = some o) : MI l y_Txm_high (Cond.code y_Txm_high prog_19_method_9_code 3 (some .int)) 1 D τ B [.ref (ad 61), .int x0, .int x1] (wdM τ σ ad) (wdM τ σ ad) o := by
  refine en_i (by decide) (Nat.le_of_ble_eq_true rfl) ?_
  intro p e R s m args below meth c H locs ls A E hret w hl
  have E : Cx p R s m args meth c prog_19_method_9_code 3 "DrawingMachineModel$TextureUnitsModel" 1 D τ B A := E
  have hl : lv_has ls 3 [(0, .ref (ad 61)), (1, .int x0), (2, .int x1)] := hl
  refine lv_iconst (v := 1) E.x E.b d_Txm_high_0 (by decide) ?_
  refine lv_aload_n E.x E.b d_Txm_high_1 rfl (lv_at hl 0 rfl) ?_
  refine lv_iload_n E.x E.b d_Txm_high_2 rfl (lv_at hl 1 rfl) ?_
  refine lv_iload_n E.x E.b d_Txm_high_3 rfl (lv_at hl 2 rfl) ?_
  refine lv_iconst (v := 1) E.x E.b d_Txm_high_4 (by decide) ?_
  obtain ⟨o2, h_o2, h⟩ := bd_some h
  refine clV_Txm_exponent E w (x0 := x0) (x1 := x1) (x2 := 1) h_o2 k2249 (by decide) hl.1 (Nat.le_of_ble_eq_true rfl) d_Txm_high_5 (fun H locs w => ?_)
  refine lv_ishl E.x E.b d_Txm_high_8 ?_
  obtain rfl := Option.some.inj h
  exact rt_i E w hret d_Txm_high_9
theorem clV_Txm_high {p : Program} {l : Launch} {e : Env} {R : Room} {s : State} {m : MethodId} {args : Array Value} {below : List Frame} {meth : Method} {c : Code} {H : Heap} {locs : List Loc} {Q : State → Prop} {cc : ByteArray} {nL pc lev : Nat} {own : String} {D : va_G} {τ : ClassId × ClassId × ClassId} {B : Nat} {A : Nat → Prop} {σ : Sg} {ad : Nat → Nat} {ls : Array Slot} {rest : List Value} (E : Cx p R s m args meth c cc nL own lev D τ B A) (w : Wd s D A (wdM τ σ ad) H locs) {x0 : Int32} {x1 : Int32} {o : Int32} (h : F_Txm_high σ x0 x1 = some o) {index : Nat} (hlk : Cond.methodLink own index y_Txm_high ∈ tw) (hlev : 1 < lev) (hsz : ls.size = nL) (hr : (rest.map fun v => v.category).sum ≤ 8) (hd : decode cc pc = .ok (.invokevirtual index, 3)) (kk : ∀ (H1 : Heap) (locs1 : List Loc), Wd s D A (wdM τ σ ad) H1 locs1 → W p l e R s m args below meth c H1 locs1 0 0 Q (F0 m (pc + 3) ls (.int o :: rest))) : W p l e R s m args below meth c H locs 0 0 Q (F0 m pc ls (.int x1 :: .int x0 :: .ref (ad 61) :: rest)) :=
  cr_i w E.C (va_runV (As := [.int x0, .int x1]) (rest := rest) E.fix (c_Txm_high l D τ B σ ad x0 x1 o h H.size) (cwV 2 E.w (tw_pre (tw_good k2267) (l := [_, _, _, _]) (List.forall_mem_cons.mpr ⟨hlk, List.forall_mem_cons.mpr ⟨k2266, List.forall_mem_cons.mpr ⟨ks87, List.forall_mem_cons.mpr ⟨k16, fun _ h => absurd h List.not_mem_nil⟩⟩⟩⟩)) rfl rfl rfl (by decide +kernel) (E.rm hlev (by decide))) (wd_preV w E.C [.int x0, .int x1] rcM_Txm rfl) rfl rfl hsz rfl (lv_room hr) hd ⟨Nat.zero_le _, Nat.zero_le _⟩) kk

theorem d_Txm_wide_0 : decode prog_19_method_8_code 0 = .ok (.iconst 1, 1) := by decide +kernel
theorem d_Txm_wide_1 : decode prog_19_method_8_code 1 = .ok (.aload_n 0, 1) := by decide +kernel
theorem d_Txm_wide_2 : decode prog_19_method_8_code 2 = .ok (.iload_n 1, 1) := by decide +kernel
theorem d_Txm_wide_3 : decode prog_19_method_8_code 3 = .ok (.iload_n 2, 1) := by decide +kernel
theorem d_Txm_wide_4 : decode prog_19_method_8_code 4 = .ok (.iconst 0, 1) := by decide +kernel
theorem d_Txm_wide_5 : decode prog_19_method_8_code 5 = .ok (.invokevirtual 52, 3) := by decide +kernel
theorem d_Txm_wide_8 : decode prog_19_method_8_code 8 = .ok (.ishl, 1) := by decide +kernel
theorem d_Txm_wide_9 : decode prog_19_method_8_code 9 = .ok (.ireturn, 1) := by decide +kernel
def F_Txm_wide (σ : Sg) (x0 : Int32) (x1 : Int32) : Option (Int32) := bd (F_Txm_exponent σ x0 x1 0) (fun o2 => some (1 <<< (o2 &&& 31)))
set_option maxRecDepth 10000 in
set_option maxHeartbeats 4000000 in
theorem c_Txm_wide (l : Launch) (D : va_G) (τ : ClassId × ClassId × ClassId) (B : Nat) (σ : Sg) (ad : Nat → Nat) (x0 : Int32) (x1 : Int32) (o : Int32) (h : F_Txm_wide σ x0 x1 = some o) : MI l y_Txm_wide (Cond.code y_Txm_wide prog_19_method_8_code 3 (some .int)) 1 D τ B [.ref (ad 61), .int x0, .int x1] (wdM τ σ ad) (wdM τ σ ad) o := by
  refine en_i (by decide) (Nat.le_of_ble_eq_true rfl) ?_
  intro p e R s m args below meth c H locs ls A E hret w hl
  have E : Cx p R s m args meth c prog_19_method_8_code 3 "DrawingMachineModel$TextureUnitsModel" 1 D τ B A := E
  have hl : lv_has ls 3 [(0, .ref (ad 61)), (1, .int x0), (2, .int x1)] := hl
  refine lv_iconst (v := 1) E.x E.b d_Txm_wide_0 (by decide) ?_
  refine lv_aload_n E.x E.b d_Txm_wide_1 rfl (lv_at hl 0 rfl) ?_
  refine lv_iload_n E.x E.b d_Txm_wide_2 rfl (lv_at hl 1 rfl) ?_
  refine lv_iload_n E.x E.b d_Txm_wide_3 rfl (lv_at hl 2 rfl) ?_
  refine lv_iconst (v := 0) E.x E.b d_Txm_wide_4 (by decide) ?_
  obtain ⟨o2, h_o2, h⟩ := bd_some h
  refine clV_Txm_exponent E w (x0 := x0) (x1 := x1) (x2 := 0) h_o2 k2249 (by decide) hl.1 (Nat.le_of_ble_eq_true rfl) d_Txm_wide_5 (fun H locs w => ?_)
  refine lv_ishl E.x E.b d_Txm_wide_8 ?_
  obtain rfl := Option.some.inj h
  exact rt_i E w hret d_Txm_wide_9
theorem clV_Txm_wide {p : Program} {l : Launch} {e : Env} {R : Room} {s : State} {m : MethodId} {args : Array Value} {below : List Frame} {meth : Method} {c : Code} {H : Heap} {locs : List Loc} {Q : State → Prop} {cc : ByteArray} {nL pc lev : Nat} {own : String} {D : va_G} {τ : ClassId × ClassId × ClassId} {B : Nat} {A : Nat → Prop} {σ : Sg} {ad : Nat → Nat} {ls : Array Slot} {rest : List Value} (E : Cx p R s m args meth c cc nL own lev D τ B A) (w : Wd s D A (wdM τ σ ad) H locs) {x0 : Int32} {x1 : Int32} {o : Int32} (h : F_Txm_wide σ x0 x1 = some o) {index : Nat} (hlk : Cond.methodLink own index y_Txm_wide ∈ tw) (hlev : 1 < lev) (hsz : ls.size = nL) (hr : (rest.map fun v => v.category).sum ≤ 8) (hd : decode cc pc = .ok (.invokevirtual index, 3)) (kk : ∀ (H1 : Heap) (locs1 : List Loc), Wd s D A (wdM τ σ ad) H1 locs1 → W p l e R s m args below meth c H1 locs1 0 0 Q (F0 m (pc + 3) ls (.int o :: rest))) : W p l e R s m args below meth c H locs 0 0 Q (F0 m pc ls (.int x1 :: .int x0 :: .ref (ad 61) :: rest)) :=
  cr_i w E.C (va_runV (As := [.int x0, .int x1]) (rest := rest) E.fix (c_Txm_wide l D τ B σ ad x0 x1 o h H.size) (cwV 2 E.w (tw_pre (tw_good k2260) (l := [_, _, _, _]) (List.forall_mem_cons.mpr ⟨hlk, List.forall_mem_cons.mpr ⟨k2259, List.forall_mem_cons.mpr ⟨ks86, List.forall_mem_cons.mpr ⟨k16, fun _ h => absurd h List.not_mem_nil⟩⟩⟩⟩)) rfl rfl rfl (by decide +kernel) (E.rm hlev (by decide))) (wd_preV w E.C [.int x0, .int x1] rcM_Txm rfl) rfl rfl hsz rfl (lv_room hr) hd ⟨Nat.zero_le _, Nat.zero_le _⟩) kk

theorem d_Txm_ahead_0 : decode prog_19_method_10_code 0 = .ok (.iconst 0, 1) := by decide +kernel
theorem d_Txm_ahead_1 : decode prog_19_method_10_code 1 = .ok (.istore_n 3, 1) := by decide +kernel
theorem d_Txm_ahead_2 : decode prog_19_method_10_code 2 = .ok (.iconst 0, 1) := by decide +kernel
theorem d_Txm_ahead_3 : decode prog_19_method_10_code 3 = .ok (.istore 4, 2) := by decide +kernel
theorem d_Txm_ahead_5 : decode prog_19_method_10_code 5 = .ok (.iload 4, 2) := by decide +kernel
theorem d_Txm_ahead_7 : decode prog_19_method_10_code 7 = .ok (.iload_n 2, 1) := by decide +kernel
theorem d_Txm_ahead_8 : decode prog_19_method_10_code 8 = .ok (.if_icmp .ge 27, 3) := by decide +kernel
theorem d_Txm_ahead_11 : decode prog_19_method_10_code 11 = .ok (.iload_n 3, 1) := by decide +kernel
theorem d_Txm_ahead_12 : decode prog_19_method_10_code 12 = .ok (.aload_n 0, 1) := by decide +kernel
theorem d_Txm_ahead_13 : decode prog_19_method_10_code 13 = .ok (.iload_n 1, 1) := by decide +kernel
theorem d_Txm_ahead_14 : decode prog_19_method_10_code 14 = .ok (.iload 4, 2) := by decide +kernel
theorem d_Txm_ahead_16 : decode prog_19_method_10_code 16 = .ok (.invokevirtual 56, 3) := by decide +kernel
theorem d_Txm_ahead_19 : decode prog_19_method_10_code 19 = .ok (.aload_n 0, 1) := by decide +kernel
theorem d_Txm_ahead_20 : decode prog_19_method_10_code 20 = .ok (.iload_n 1, 1) := by decide +kernel
theorem d_Txm_ahead_21 : decode prog_19_method_10_code 21 = .ok (.iload 4, 2) := by decide +kernel
theorem d_Txm_ahead_23 : decode prog_19_method_10_code 23 = .ok (.invokevirtual 60, 3) := by decide +kernel
theorem d_Txm_ahead_26 : decode prog_19_method_10_code 26 = .ok (.imul, 1) := by decide +kernel
theorem d_Txm_ahead_27 : decode prog_19_method_10_code 27 = .ok (.iadd, 1) := by decide +kernel
theorem d_Txm_ahead_28 : decode prog_19_method_10_code 28 = .ok (.istore_n 3, 1) := by decide +kernel
theorem d_Txm_ahead_29 : decode prog_19_method_10_code 29 = .ok (.iinc 4 1, 3) := by decide +kernel
theorem d_Txm_ahead_32 : decode prog_19_method_10_code 32 = .ok (.goto (-27), 3) := by decide +kernel
theorem d_Txm_ahead_35 : decode prog_19_method_10_code 35 = .ok (.iload_n 3, 1) := by decide +kernel
theorem d_Txm_ahead_36 : decode prog_19_method_10_code 36 = .ok (.ireturn, 1) := by decide +kernel
def L_Txm_ahead_5 : Nat → Sg → Int32 → Int32 → Int32 → Int32 → Option (Int32)
  | 0, _, _, _, _, _ => none
  | n + 1, σ, v1, v2, v3, v4 => if v2 ≤ v4 then (some v3) else (bd (F_Txm_wide σ v1 v4) (fun o5 => bd (F_Txm_high σ v1 v4) (fun o6 => lt (v3 + (o5 * o6)) (fun y7 => lt (v4 + 1) (fun y8 => L_Txm_ahead_5 n σ v1 v2 y7 y8)))))
set_option maxRecDepth 10000 in
set_option maxHeartbeats 4000000 in
theorem lt_Txm_ahead_5 {p : Program} {l : Launch} {e : Env} {R : Room} {s : State} {m : MethodId} {args : Array Value} {below : List Frame} {meth : Method} {c : Code} {D : va_G} {τ : ClassId × ClassId × ClassId} {B : Nat} {A : Nat → Prop} {ad : Nat → Nat} (E : Cx p R s m args meth c prog_19_method_10_code 5 "DrawingMachineModel$TextureUnitsModel" 2 D τ B A) (hret : meth.sig.returnType = (some .int)) (o : Int32) (σ : Sg) : ∀ (n : Nat) (v1 : Int32) (v2 : Int32) (v3 : Int32) (v4 : Int32) (H : Heap) (locs : List Loc) (ls : Array Slot), L_Txm_ahead_5 n σ v1 v2 v3 v4 = some o → Wd s D A (wdM τ σ ad) H locs → lv_has ls 5 [(0, .ref (ad 61)), (1, .int v1), (2, .int v2), (3, .int v3), (4, .int v4)] → W p l e R s m args below meth c H locs 0 0 (QI below args s A D τ (wdM τ σ ad) o) (F0 m 5 ls []) := by
  intro n
  induction n with
  | zero =>
    intro v1 v2 v3 v4 H locs ls h w hl
    cases h
  | succ n hr_5 =>
    intro v1 v2 v3 v4 H locs ls h w hl
    refine lv_iload E.x E.b d_Txm_ahead_5 (lv_at hl 4 rfl) ?_
    refine lv_iload_n E.x E.b d_Txm_ahead_7 rfl (lv_at hl 2 rfl) ?_
    refine lv_icmp_ge (tgt := 35) E.x E.b d_Txm_ahead_8 (by decide) (fun c => ?_) (fun c => ?_)
    ·
      replace h := ifT c h
      refine lv_iload_n E.x E.b d_Txm_ahead_35 rfl (lv_at hl 3 rfl) ?_
      obtain rfl := Option.some.inj h
      exact rt_i E w hret d_Txm_ahead_36
    ·
      replace h := ifF c h
      refine lv_iload_n E.x E.b d_Txm_ahead_11 rfl (lv_at hl 3 rfl) ?_
      refine lv_aload_n E.x E.b d_Txm_ahead_12 rfl (lv_at hl 0 rfl) ?_
      refine lv_iload_n E.x E.b d_Txm_ahead_13 rfl (lv_at hl 1 rfl) ?_
      refine lv_iload E.x E.b d_Txm_ahead_14 (lv_at hl 4 rfl) ?_
      obtain ⟨o5, h_o5, h⟩ := bd_some h
      refine clV_Txm_wide E w (x0 := v1) (x1 := v4) h_o5 k2257 (by decide) hl.1 (Nat.le_of_ble_eq_true rfl) d_Txm_ahead_16 (fun H locs w => ?_)
      refine lv_aload_n E.x E.b d_Txm_ahead_19 rfl (lv_at hl 0 rfl) ?_
      refine lv_iload_n E.x E.b d_Txm_ahead_20 rfl (lv_at hl 1 rfl) ?_
      refine lv_iload E.x E.b d_Txm_ahead_21 (lv_at hl 4 rfl) ?_
      obtain ⟨o6, h_o6, h⟩ := bd_some h
      refine clV_Txm_high E w (x0 := v1) (x1 := v4) h_o6 k2264 (by decide) hl.1 (Nat.le_of_ble_eq_true rfl) d_Txm_ahead_23 (fun H locs w => ?_)
      refine lv_imul E.x E.b d_Txm_ahead_26 ?_
      refine lv_iadd E.x E.b d_Txm_ahead_27 ?_
      obtain ⟨y7, e_y7, h⟩ := lt_some h
      refine wi_e (v := y7) e_y7 ?_
      refine lv_istore_n (lv' := [(3, .int y7), (0, .ref (ad 61)), (1, .int v1), (2, .int v2), (4, .int v4)]) E.x E.b d_Txm_ahead_28 rfl hl (by decide) rfl (fun ls hl => ?_)
      obtain ⟨y8, e_y8, h⟩ := lt_some h
      refine lv_iinc (v := y8) (lv' := [(4, .int y8), (3, .int y7), (0, .ref (ad 61)), (1, .int v1), (2, .int v2)]) E.x E.b d_Txm_ahead_29 hl (k := 4) rfl (e_y8) (by decide) rfl (fun ls hl => ?_)
      refine lv_goto (tgt := 5) E.x E.b d_Txm_ahead_32 (by decide) ?_
      exact hr_5 v1 v2 y7 y8 _ _ _ h w (lv_sub hl [2, 3, 4, 1, 0] rfl)
def F_Txm_ahead (σ : Sg) (x0 : Int32) (x1 : Int32) : Option (Int32) := L_Txm_ahead_5 100000 σ x0 x1 0 0
set_option maxRecDepth 10000 in
set_option maxHeartbeats 4000000 in
theorem c_Txm_ahead (l : Launch) (D : va_G) (τ : ClassId × ClassId × ClassId) (B : Nat) (σ : Sg) (ad : Nat → Nat) (x0 : Int32) (x1 : Int32) (o : Int32) (h : F_Txm_ahead σ x0 x1 = some o) : MI l y_Txm_ahead (Cond.code y_Txm_ahead prog_19_method_10_code 5 (some .int)) 2 D τ B [.ref (ad 61), .int x0, .int x1] (wdM τ σ ad) (wdM τ σ ad) o := by
  refine en_i (by decide) (Nat.le_of_ble_eq_true rfl) ?_
  intro p e R s m args below meth c H locs ls A E hret w hl
  have E : Cx p R s m args meth c prog_19_method_10_code 5 "DrawingMachineModel$TextureUnitsModel" 2 D τ B A := E
  have hl : lv_has ls 5 [(0, .ref (ad 61)), (1, .int x0), (2, .int x1)] := hl
  refine lv_iconst (v := 0) E.x E.b d_Txm_ahead_0 (by decide) ?_
  refine lv_istore_n (lv' := [(3, .int 0), (0, .ref (ad 61)), (1, .int x0), (2, .int x1)]) E.x E.b d_Txm_ahead_1 rfl hl (by decide) rfl (fun ls hl => ?_)
  refine lv_iconst (v := 0) E.x E.b d_Txm_ahead_2 (by decide) ?_
  refine lv_istore (lv' := [(4, .int 0), (3, .int 0), (0, .ref (ad 61)), (1, .int x0), (2, .int x1)]) E.x E.b d_Txm_ahead_3 hl (by decide) rfl (fun ls hl => ?_)
  exact lt_Txm_ahead_5 E hret o σ 100000 x0 x1 0 0 _ _ _ h w (lv_sub hl [2, 3, 4, 1, 0] rfl)
theorem clV_Txm_ahead {p : Program} {l : Launch} {e : Env} {R : Room} {s : State} {m : MethodId} {args : Array Value} {below : List Frame} {meth : Method} {c : Code} {H : Heap} {locs : List Loc} {Q : State → Prop} {cc : ByteArray} {nL pc lev : Nat} {own : String} {D : va_G} {τ : ClassId × ClassId × ClassId} {B : Nat} {A : Nat → Prop} {σ : Sg} {ad : Nat → Nat} {ls : Array Slot} {rest : List Value} (E : Cx p R s m args meth c cc nL own lev D τ B A) (w : Wd s D A (wdM τ σ ad) H locs) {x0 : Int32} {x1 : Int32} {o : Int32} (h : F_Txm_ahead σ x0 x1 = some o) {index : Nat} (hlk : Cond.methodLink own index y_Txm_ahead ∈ tw) (hlev : 2 < lev) (hsz : ls.size = nL) (hr : (rest.map fun v => v.category).sum ≤ 8) (hd : decode cc pc = .ok (.invokevirtual index, 3)) (kk : ∀ (H1 : Heap) (locs1 : List Loc), Wd s D A (wdM τ σ ad) H1 locs1 → W p l e R s m args below meth c H1 locs1 0 0 Q (F0 m (pc + 3) ls (.int o :: rest))) : W p l e R s m args below meth c H locs 0 0 Q (F0 m pc ls (.int x1 :: .int x0 :: .ref (ad 61) :: rest)) :=
  cr_i w E.C (va_runV (As := [.int x0, .int x1]) (rest := rest) E.fix (c_Txm_ahead l D τ B σ ad x0 x1 o h H.size) (cwV 2 E.w (tw_pre (tw_good k2283) (l := [_, _, _, _]) (List.forall_mem_cons.mpr ⟨hlk, List.forall_mem_cons.mpr ⟨k2282, List.forall_mem_cons.mpr ⟨ks91, List.forall_mem_cons.mpr ⟨k16, fun _ h => absurd h List.not_mem_nil⟩⟩⟩⟩)) rfl rfl rfl (by decide +kernel) (E.rm hlev (by decide))) (wd_preV w E.C [.int x0, .int x1] rcM_Txm rfl) rfl rfl hsz rfl (lv_room hr) hd ⟨Nat.zero_le _, Nat.zero_le _⟩) kk

theorem d_Txm_bit_0 : decode prog_19_method_13_code 0 = .ok (.iload_n 1, 1) := by decide +kernel
theorem d_Txm_bit_1 : decode prog_19_method_13_code 1 = .ok (.i2l, 1) := by decide +kernel
theorem d_Txm_bit_2 : decode prog_19_method_13_code 2 = .ok (.lload_n 2, 1) := by decide +kernel
theorem d_Txm_bit_3 : decode prog_19_method_13_code 3 = .ok (.ldc2_w 67, 3) := by decide +kernel
theorem d_Txm_bit_6 : decode prog_19_method_13_code 6 = .ok (.ldiv, 1) := by decide +kernel
theorem d_Txm_bit_7 : decode prog_19_method_13_code 7 = .ok (.ladd, 1) := by decide +kernel
theorem d_Txm_bit_8 : decode prog_19_method_13_code 8 = .ok (.lstore 4, 2) := by decide +kernel
theorem d_Txm_bit_10 : decode prog_19_method_13_code 10 = .ok (.lload 4, 2) := by decide +kernel
theorem d_Txm_bit_12 : decode prog_19_method_13_code 12 = .ok (.ldc2_w 69, 3) := by decide +kernel
theorem d_Txm_bit_15 : decode prog_19_method_13_code 15 = .ok (.lcmp, 1) := by decide +kernel
theorem d_Txm_bit_16 : decode prog_19_method_13_code 16 = .ok (.ifCond .ge 23, 3) := by decide +kernel
theorem d_Txm_bit_19 : decode prog_19_method_13_code 19 = .ok (.aload_n 0, 1) := by decide +kernel
theorem d_Txm_bit_20 : decode prog_19_method_13_code 20 = .ok (.getfield 37, 3) := by decide +kernel
theorem d_Txm_bit_23 : decode prog_19_method_13_code 23 = .ok (.lload 4, 2) := by decide +kernel
theorem d_Txm_bit_25 : decode prog_19_method_13_code 25 = .ok (.l2i, 1) := by decide +kernel
theorem d_Txm_bit_26 : decode prog_19_method_13_code 26 = .ok (.iaload, 1) := by decide +kernel
theorem d_Txm_bit_27 : decode prog_19_method_13_code 27 = .ok (.lload_n 2, 1) := by decide +kernel
theorem d_Txm_bit_28 : decode prog_19_method_13_code 28 = .ok (.ldc2_w 67, 3) := by decide +kernel
theorem d_Txm_bit_31 : decode prog_19_method_13_code 31 = .ok (.lrem, 1) := by decide +kernel
theorem d_Txm_bit_32 : decode prog_19_method_13_code 32 = .ok (.l2i, 1) := by decide +kernel
theorem d_Txm_bit_33 : decode prog_19_method_13_code 33 = .ok (.ishr, 1) := by decide +kernel
theorem d_Txm_bit_34 : decode prog_19_method_13_code 34 = .ok (.iconst 1, 1) := by decide +kernel
theorem d_Txm_bit_35 : decode prog_19_method_13_code 35 = .ok (.iand, 1) := by decide +kernel
theorem d_Txm_bit_36 : decode prog_19_method_13_code 36 = .ok (.goto 4, 3) := by decide +kernel
theorem d_Txm_bit_39 : decode prog_19_method_13_code 39 = .ok (.iconst 0, 1) := by decide +kernel
theorem d_Txm_bit_40 : decode prog_19_method_13_code 40 = .ok (.ireturn, 1) := by decide +kernel
def F_Txm_bit_40 (σ : Sg) (s0 : Int32) : Option (Int32) := some s0
set_option maxRecDepth 10000 in
set_option maxHeartbeats 4000000 in
theorem bt_Txm_bit_40 {p : Program} {l : Launch} {e : Env} {R : Room} {s : State} {m : MethodId} {args : Array Value} {below : List Frame} {meth : Method} {c : Code} {D : va_G} {τ : ClassId × ClassId × ClassId} {B : Nat} {A : Nat → Prop} {ad : Nat → Nat} (E : Cx p R s m args meth c prog_19_method_13_code 6 "DrawingMachineModel$TextureUnitsModel" 0 D τ B A) (hret : meth.sig.returnType = (some .int)) (o : Int32) (σ : Sg) (s0 : Int32) (h : F_Txm_bit_40 σ s0 = some o) {H : Heap} {locs : List Loc} {ls : Array Slot} (w : Wd s D A (wdM τ σ ad) H locs) (hl : lv_has ls 6 []) : W p l e R s m args below meth c H locs 0 0 (QI below args s A D τ (wdM τ σ ad) o) (F0 m 40 ls [.int s0]) := by
  obtain rfl := Option.some.inj h
  exact rt_i E w hret d_Txm_bit_40
def F_Txm_bit (σ : Sg) (x0 : Int32) (x1 : Int64) : Option (Int32) := lt (x0.toInt64 + (x1 / 32)) (fun y3 => if 4096 ≤ y3 then (F_Txm_bit_40 σ 0) else (ck (inb y3.toInt32 4096) (F_Txm_bit_40 σ (((σ.2.2.1 0 y3.toInt32.toNatClampNeg) >>> (((lrem x1 32).toInt32) &&& 31)) &&& 1))))
set_option maxRecDepth 10000 in
set_option maxHeartbeats 4000000 in
theorem c_Txm_bit (l : Launch) (D : va_G) (τ : ClassId × ClassId × ClassId) (B : Nat) (σ : Sg) (ad : Nat → Nat) (x0 : Int32) (x1 : Int64) (o : Int32) (h : F_Txm_bit σ x0 x1 = some o) : MI l y_Txm_bit (Cond.code y_Txm_bit prog_19_method_13_code 6 (some .int)) 0 D τ B [.ref (ad 61), .int x0, .long x1] (wdM τ σ ad) (wdM τ σ ad) o := by
  refine en_i (by decide) (Nat.le_of_ble_eq_true rfl) ?_
  intro p e R s m args below meth c H locs ls A E hret w hl
  have E : Cx p R s m args meth c prog_19_method_13_code 6 "DrawingMachineModel$TextureUnitsModel" 0 D τ B A := E
  have hl : lv_has ls 6 [(0, .ref (ad 61)), (1, .int x0), (2, .long x1)] := hl
  refine lv_iload_n E.x E.b d_Txm_bit_0 rfl (lv_at hl 1 rfl) ?_
  refine lv_i2l (v := x0.toInt64) E.x E.b d_Txm_bit_1 rfl ?_
  refine lv_lload_n E.x E.b d_Txm_bit_2 rfl (lv_at hl 2 rfl) ?_
  refine lv_ldc2 (v := 32) E.x E.b E.o (E.w _ k2288) d_Txm_bit_3 ?_
  refine lv_ldiv E.x E.b d_Txm_bit_6 (by decide) ?_
  refine lv_ladd E.x E.b d_Txm_bit_7 ?_
  obtain ⟨y3, e_y3, h⟩ := lt_some h
  refine wl_e (v := y3) e_y3 ?_
  refine lv_lstore (lv' := [(4, .long y3), (0, .ref (ad 61)), (1, .int x0), (2, .long x1)]) E.x E.b d_Txm_bit_8 hl (by decide) rfl (fun ls hl => ?_)
  refine lv_lload E.x E.b d_Txm_bit_10 (lv_at hl 0 rfl) ?_
  refine lv_ldc2 (v := 4096) E.x E.b E.o (E.w _ k2289) d_Txm_bit_12 ?_
  refine W.lcmp E.x E.b d_Txm_bit_15 ?_
  refine lv_if_ge (tgt := 39) E.x E.b d_Txm_bit_16 (by decide) (fun c => ?_) (fun c => ?_)
  ·
    replace h := ifT (lgc_ge.mp c) h
    refine lv_iconst (v := 0) E.x E.b d_Txm_bit_39 (by decide) ?_
    exact bt_Txm_bit_40 E hret o σ 0 h w (lv_sub hl [] rfl)
  ·
    replace h := ifF (fun h9 => c (lgc_ge.mpr h9)) h
    refine lv_aload_n E.x E.b d_Txm_bit_19 rfl (lv_at hl 1 rfl) ?_
    refine gM_Txm_memory E w k1514 d_Txm_bit_20 ?_
    refine lv_lload E.x E.b d_Txm_bit_23 (lv_at hl 0 rfl) ?_
    refine lv_l2i (v := y3.toInt32) E.x E.b d_Txm_bit_25 rfl ?_
    obtain ⟨c4, h⟩ := ck_some h
    refine ialM E w (k := 0) (by decide) c4 d_Txm_bit_26 ?_
    refine lv_lload_n E.x E.b d_Txm_bit_27 rfl (lv_at hl 3 rfl) ?_
    refine lv_ldc2 (v := 32) E.x E.b E.o (E.w _ k2288) d_Txm_bit_28 ?_
    refine lv_lrem E.x E.b d_Txm_bit_31 (by decide) ?_
    refine wl_e (v := lrem x1 32) rfl ?_
    refine lv_l2i (v := (lrem x1 32).toInt32) E.x E.b d_Txm_bit_32 rfl ?_
    refine lv_ishr E.x E.b d_Txm_bit_33 ?_
    refine lv_iconst (v := 1) E.x E.b d_Txm_bit_34 (by decide) ?_
    refine lv_iand E.x E.b d_Txm_bit_35 ?_
    refine lv_goto (tgt := 40) E.x E.b d_Txm_bit_36 (by decide) ?_
    exact bt_Txm_bit_40 E hret o σ (((σ.2.2.1 0 y3.toInt32.toNatClampNeg) >>> (((lrem x1 32).toInt32) &&& 31)) &&& 1) h w (lv_sub hl [] rfl)
theorem clV_Txm_bit {p : Program} {l : Launch} {e : Env} {R : Room} {s : State} {m : MethodId} {args : Array Value} {below : List Frame} {meth : Method} {c : Code} {H : Heap} {locs : List Loc} {Q : State → Prop} {cc : ByteArray} {nL pc lev : Nat} {own : String} {D : va_G} {τ : ClassId × ClassId × ClassId} {B : Nat} {A : Nat → Prop} {σ : Sg} {ad : Nat → Nat} {ls : Array Slot} {rest : List Value} (E : Cx p R s m args meth c cc nL own lev D τ B A) (w : Wd s D A (wdM τ σ ad) H locs) {x0 : Int32} {x1 : Int64} {o : Int32} (h : F_Txm_bit σ x0 x1 = some o) {index : Nat} (hlk : Cond.methodLink own index y_Txm_bit ∈ tw) (hlev : 0 < lev) (hsz : ls.size = nL) (hr : (rest.map fun v => v.category).sum ≤ 8) (hd : decode cc pc = .ok (.invokevirtual index, 3)) (kk : ∀ (H1 : Heap) (locs1 : List Loc), Wd s D A (wdM τ σ ad) H1 locs1 → W p l e R s m args below meth c H1 locs1 0 0 Q (F0 m (pc + 3) ls (.int o :: rest))) : W p l e R s m args below meth c H locs 0 0 Q (F0 m pc ls (.long x1 :: .int x0 :: .ref (ad 61) :: rest)) :=
  cr_i w E.C (va_runV (As := [.int x0, .long x1]) (rest := rest) E.fix (c_Txm_bit l D τ B σ ad x0 x1 o h H.size) (cwV 2 E.w (tw_pre (tw_good k2287) (l := [_, _, _, _]) (List.forall_mem_cons.mpr ⟨hlk, List.forall_mem_cons.mpr ⟨k2286, List.forall_mem_cons.mpr ⟨ks92, List.forall_mem_cons.mpr ⟨k16, fun _ h => absurd h List.not_mem_nil⟩⟩⟩⟩)) rfl rfl rfl (by decide +kernel) (E.rm hlev (by decide))) (wd_preV w E.C [.int x0, .long x1] rcM_Txm rfl) rfl rfl hsz rfl (lv_room hr) hd ⟨Nat.zero_le _, Nat.zero_le _⟩) kk

theorem d_Txm_lay_0 : decode prog_19_method_11_code 0 = .ok (.aload_n 0, 1) := by decide +kernel
theorem d_Txm_lay_1 : decode prog_19_method_11_code 1 = .ok (.getfield 31, 3) := by decide +kernel
theorem d_Txm_lay_4 : decode prog_19_method_11_code 4 = .ok (.iconst 0, 1) := by decide +kernel
theorem d_Txm_lay_5 : decode prog_19_method_11_code 5 = .ok (.iload_n 1, 1) := by decide +kernel
theorem d_Txm_lay_6 : decode prog_19_method_11_code 6 = .ok (.iastore, 1) := by decide +kernel
theorem d_Txm_lay_7 : decode prog_19_method_11_code 7 = .ok (.aload_n 0, 1) := by decide +kernel
theorem d_Txm_lay_8 : decode prog_19_method_11_code 8 = .ok (.getfield 31, 3) := by decide +kernel
theorem d_Txm_lay_11 : decode prog_19_method_11_code 11 = .ok (.iconst 1, 1) := by decide +kernel
theorem d_Txm_lay_12 : decode prog_19_method_11_code 12 = .ok (.iload_n 2, 1) := by decide +kernel
theorem d_Txm_lay_13 : decode prog_19_method_11_code 13 = .ok (.iastore, 1) := by decide +kernel
theorem d_Txm_lay_14 : decode prog_19_method_11_code 14 = .ok (.aload_n 0, 1) := by decide +kernel
theorem d_Txm_lay_15 : decode prog_19_method_11_code 15 = .ok (.getfield 31, 3) := by decide +kernel
theorem d_Txm_lay_18 : decode prog_19_method_11_code 18 = .ok (.iconst 2, 1) := by decide +kernel
theorem d_Txm_lay_19 : decode prog_19_method_11_code 19 = .ok (.iload_n 3, 1) := by decide +kernel
theorem d_Txm_lay_20 : decode prog_19_method_11_code 20 = .ok (.iastore, 1) := by decide +kernel
theorem d_Txm_lay_21 : decode prog_19_method_11_code 21 = .ok (.aload_n 0, 1) := by decide +kernel
theorem d_Txm_lay_22 : decode prog_19_method_11_code 22 = .ok (.getfield 31, 3) := by decide +kernel
theorem d_Txm_lay_25 : decode prog_19_method_11_code 25 = .ok (.iconst 3, 1) := by decide +kernel
theorem d_Txm_lay_26 : decode prog_19_method_11_code 26 = .ok (.iload 4, 2) := by decide +kernel
theorem d_Txm_lay_28 : decode prog_19_method_11_code 28 = .ok (.iastore, 1) := by decide +kernel
theorem d_Txm_lay_29 : decode prog_19_method_11_code 29 = .ok (.aload_n 0, 1) := by decide +kernel
theorem d_Txm_lay_30 : decode prog_19_method_11_code 30 = .ok (.getfield 34, 3) := by decide +kernel
theorem d_Txm_lay_33 : decode prog_19_method_11_code 33 = .ok (.iconst 0, 1) := by decide +kernel
theorem d_Txm_lay_34 : decode prog_19_method_11_code 34 = .ok (.iload 5, 2) := by decide +kernel
theorem d_Txm_lay_36 : decode prog_19_method_11_code 36 = .ok (.iastore, 1) := by decide +kernel
theorem d_Txm_lay_37 : decode prog_19_method_11_code 37 = .ok (.aload_n 0, 1) := by decide +kernel
theorem d_Txm_lay_38 : decode prog_19_method_11_code 38 = .ok (.getfield 34, 3) := by decide +kernel
theorem d_Txm_lay_41 : decode prog_19_method_11_code 41 = .ok (.iconst 1, 1) := by decide +kernel
theorem d_Txm_lay_42 : decode prog_19_method_11_code 42 = .ok (.iload 6, 2) := by decide +kernel
theorem d_Txm_lay_44 : decode prog_19_method_11_code 44 = .ok (.iastore, 1) := by decide +kernel
theorem d_Txm_lay_45 : decode prog_19_method_11_code 45 = .ok (.aload_n 0, 1) := by decide +kernel
theorem d_Txm_lay_46 : decode prog_19_method_11_code 46 = .ok (.getfield 34, 3) := by decide +kernel
theorem d_Txm_lay_49 : decode prog_19_method_11_code 49 = .ok (.iconst 2, 1) := by decide +kernel
theorem d_Txm_lay_50 : decode prog_19_method_11_code 50 = .ok (.iload 7, 2) := by decide +kernel
theorem d_Txm_lay_52 : decode prog_19_method_11_code 52 = .ok (.iastore, 1) := by decide +kernel
theorem d_Txm_lay_53 : decode prog_19_method_11_code 53 = .ok (.aload_n 0, 1) := by decide +kernel
theorem d_Txm_lay_54 : decode prog_19_method_11_code 54 = .ok (.getfield 34, 3) := by decide +kernel
theorem d_Txm_lay_57 : decode prog_19_method_11_code 57 = .ok (.iconst 3, 1) := by decide +kernel
theorem d_Txm_lay_58 : decode prog_19_method_11_code 58 = .ok (.iload 8, 2) := by decide +kernel
theorem d_Txm_lay_60 : decode prog_19_method_11_code 60 = .ok (.iastore, 1) := by decide +kernel
theorem d_Txm_lay_61 : decode prog_19_method_11_code 61 = .ok (.return_, 1) := by decide +kernel
def F_Txm_lay (σ : Sg) (x0 : Int32) (x1 : Int32) (x2 : Int32) (x3 : Int32) (x4 : Int32) (x5 : Int32) (x6 : Int32) (x7 : Int32) : Option (Sg) := lt (sA σ 12 (upd (σ.2.2.1 12) 0 x0)) (fun σ9 => lt (sA σ9 12 (upd (σ9.2.2.1 12) 1 x1)) (fun σ10 => lt (sA σ10 12 (upd (σ10.2.2.1 12) 2 x2)) (fun σ11 => lt (sA σ11 12 (upd (σ11.2.2.1 12) 3 x3)) (fun σ12 => lt (sA σ12 13 (upd (σ12.2.2.1 13) 0 x4)) (fun σ13 => lt (sA σ13 13 (upd (σ13.2.2.1 13) 1 x5)) (fun σ14 => lt (sA σ14 13 (upd (σ14.2.2.1 13) 2 x6)) (fun σ15 => lt (sA σ15 13 (upd (σ15.2.2.1 13) 3 x7)) (fun σ16 => some σ16))))))))
set_option maxRecDepth 10000 in
set_option maxHeartbeats 4000000 in
theorem c_Txm_lay (l : Launch) (D : va_G) (τ : ClassId × ClassId × ClassId) (B : Nat) (σ : Sg) (ad : Nat → Nat) (x0 : Int32) (x1 : Int32) (x2 : Int32) (x3 : Int32) (x4 : Int32) (x5 : Int32) (x6 : Int32) (x7 : Int32) (o : Sg) (h : F_Txm_lay σ x0 x1 x2 x3 x4 x5 x6 x7 = some o) : MV l y_Txm_lay (Cond.code y_Txm_lay prog_19_method_11_code 9 none) 0 D τ B [.ref (ad 61), .int x0, .int x1, .int x2, .int x3, .int x4, .int x5, .int x6, .int x7] (wdM τ σ ad) (wdM τ o ad) := by
  refine en_v (by decide) (Nat.le_of_ble_eq_true rfl) ?_
  intro p e R s m args below meth c H locs ls A E hret w hl
  have E : Cx p R s m args meth c prog_19_method_11_code 9 "DrawingMachineModel$TextureUnitsModel" 0 D τ B A := E
  have hl : lv_has ls 9 [(0, .ref (ad 61)), (1, .int x0), (2, .int x1), (3, .int x2), (4, .int x3), (5, .int x4), (6, .int x5), (7, .int x6), (8, .int x7)] := hl
  refine lv_aload_n E.x E.b d_Txm_lay_0 rfl (lv_at hl 0 rfl) ?_
  refine gM_Txm_first E w k1522 d_Txm_lay_1 ?_
  refine lv_iconst (v := 0) E.x E.b d_Txm_lay_4 (by decide) ?_
  refine lv_iload_n E.x E.b d_Txm_lay_5 rfl (lv_at hl 1 rfl) ?_
  obtain ⟨σ9, e_σ9, h⟩ := lt_some h
  refine iasM E w (k := 12) (by decide) (show inb 0 4 by decide) e_σ9 d_Txm_lay_6 (fun H locs w => ?_)
  refine lv_aload_n E.x E.b d_Txm_lay_7 rfl (lv_at hl 0 rfl) ?_
  refine gM_Txm_first E w k1522 d_Txm_lay_8 ?_
  refine lv_iconst (v := 1) E.x E.b d_Txm_lay_11 (by decide) ?_
  refine lv_iload_n E.x E.b d_Txm_lay_12 rfl (lv_at hl 2 rfl) ?_
  obtain ⟨σ10, e_σ10, h⟩ := lt_some h
  refine iasM E w (k := 12) (by decide) (show inb 1 4 by decide) e_σ10 d_Txm_lay_13 (fun H locs w => ?_)
  refine lv_aload_n E.x E.b d_Txm_lay_14 rfl (lv_at hl 0 rfl) ?_
  refine gM_Txm_first E w k1522 d_Txm_lay_15 ?_
  refine lv_iconst (v := 2) E.x E.b d_Txm_lay_18 (by decide) ?_
  refine lv_iload_n E.x E.b d_Txm_lay_19 rfl (lv_at hl 3 rfl) ?_
  obtain ⟨σ11, e_σ11, h⟩ := lt_some h
  refine iasM E w (k := 12) (by decide) (show inb 2 4 by decide) e_σ11 d_Txm_lay_20 (fun H locs w => ?_)
  refine lv_aload_n E.x E.b d_Txm_lay_21 rfl (lv_at hl 0 rfl) ?_
  refine gM_Txm_first E w k1522 d_Txm_lay_22 ?_
  refine lv_iconst (v := 3) E.x E.b d_Txm_lay_25 (by decide) ?_
  refine lv_iload E.x E.b d_Txm_lay_26 (lv_at hl 4 rfl) ?_
  obtain ⟨σ12, e_σ12, h⟩ := lt_some h
  refine iasM E w (k := 12) (by decide) (show inb 3 4 by decide) e_σ12 d_Txm_lay_28 (fun H locs w => ?_)
  refine lv_aload_n E.x E.b d_Txm_lay_29 rfl (lv_at hl 0 rfl) ?_
  refine gM_Txm_size E w k1523 d_Txm_lay_30 ?_
  refine lv_iconst (v := 0) E.x E.b d_Txm_lay_33 (by decide) ?_
  refine lv_iload E.x E.b d_Txm_lay_34 (lv_at hl 5 rfl) ?_
  obtain ⟨σ13, e_σ13, h⟩ := lt_some h
  refine iasM E w (k := 13) (by decide) (show inb 0 4 by decide) e_σ13 d_Txm_lay_36 (fun H locs w => ?_)
  refine lv_aload_n E.x E.b d_Txm_lay_37 rfl (lv_at hl 0 rfl) ?_
  refine gM_Txm_size E w k1523 d_Txm_lay_38 ?_
  refine lv_iconst (v := 1) E.x E.b d_Txm_lay_41 (by decide) ?_
  refine lv_iload E.x E.b d_Txm_lay_42 (lv_at hl 6 rfl) ?_
  obtain ⟨σ14, e_σ14, h⟩ := lt_some h
  refine iasM E w (k := 13) (by decide) (show inb 1 4 by decide) e_σ14 d_Txm_lay_44 (fun H locs w => ?_)
  refine lv_aload_n E.x E.b d_Txm_lay_45 rfl (lv_at hl 0 rfl) ?_
  refine gM_Txm_size E w k1523 d_Txm_lay_46 ?_
  refine lv_iconst (v := 2) E.x E.b d_Txm_lay_49 (by decide) ?_
  refine lv_iload E.x E.b d_Txm_lay_50 (lv_at hl 7 rfl) ?_
  obtain ⟨σ15, e_σ15, h⟩ := lt_some h
  refine iasM E w (k := 13) (by decide) (show inb 2 4 by decide) e_σ15 d_Txm_lay_52 (fun H locs w => ?_)
  refine lv_aload_n E.x E.b d_Txm_lay_53 rfl (lv_at hl 0 rfl) ?_
  refine gM_Txm_size E w k1523 d_Txm_lay_54 ?_
  refine lv_iconst (v := 3) E.x E.b d_Txm_lay_57 (by decide) ?_
  refine lv_iload E.x E.b d_Txm_lay_58 (lv_at hl 8 rfl) ?_
  obtain ⟨σ16, e_σ16, h⟩ := lt_some h
  refine iasM E w (k := 13) (by decide) (show inb 3 4 by decide) e_σ16 d_Txm_lay_60 (fun H locs w => ?_)
  obtain rfl := Option.some.inj h
  exact rt_v E w hret d_Txm_lay_61
theorem clV_Txm_lay {p : Program} {l : Launch} {e : Env} {R : Room} {s : State} {m : MethodId} {args : Array Value} {below : List Frame} {meth : Method} {c : Code} {H : Heap} {locs : List Loc} {Q : State → Prop} {cc : ByteArray} {nL pc lev : Nat} {own : String} {D : va_G} {τ : ClassId × ClassId × ClassId} {B : Nat} {A : Nat → Prop} {σ : Sg} {ad : Nat → Nat} {ls : Array Slot} {rest : List Value} (E : Cx p R s m args meth c cc nL own lev D τ B A) (w : Wd s D A (wdM τ σ ad) H locs) {x0 : Int32} {x1 : Int32} {x2 : Int32} {x3 : Int32} {x4 : Int32} {x5 : Int32} {x6 : Int32} {x7 : Int32} {o : Sg} (h : F_Txm_lay σ x0 x1 x2 x3 x4 x5 x6 x7 = some o) {index : Nat} (hlk : Cond.methodLink own index y_Txm_lay ∈ tw) (hlev : 0 < lev) (hsz : ls.size = nL) (hr : (rest.map fun v => v.category).sum ≤ 8) (hd : decode cc pc = .ok (.invokevirtual index, 3)) (kk : ∀ (H1 : Heap) (locs1 : List Loc), Wd s D A (wdM τ o ad) H1 locs1 → W p l e R s m args below meth c H1 locs1 0 0 Q (F0 m (pc + 3) ls (rest))) : W p l e R s m args below meth c H locs 0 0 Q (F0 m pc ls (.int x7 :: .int x6 :: .int x5 :: .int x4 :: .int x3 :: .int x2 :: .int x1 :: .int x0 :: .ref (ad 61) :: rest)) :=
  cr_v w E.C (va_runV (As := [.int x0, .int x1, .int x2, .int x3, .int x4, .int x5, .int x6, .int x7]) (rest := rest) E.fix (c_Txm_lay l D τ B σ ad x0 x1 x2 x3 x4 x5 x6 x7 o h H.size) (cwV 8 E.w (tw_pre (tw_good k2279) (l := [_, _, _, _]) (List.forall_mem_cons.mpr ⟨hlk, List.forall_mem_cons.mpr ⟨k2278, List.forall_mem_cons.mpr ⟨ks90, List.forall_mem_cons.mpr ⟨k16, fun _ h => absurd h List.not_mem_nil⟩⟩⟩⟩)) rfl rfl rfl (by decide +kernel) (E.rm hlev (by decide))) (wd_preV w E.C [.int x0, .int x1, .int x2, .int x3, .int x4, .int x5, .int x6, .int x7] rcM_Txm rfl) rfl rfl hsz rfl (lv_room hr) hd ⟨Nat.zero_le _, Nat.zero_le _⟩) kk

theorem d_Txm_layOut_0 : decode prog_19_method_12_code 0 = .ok (.iload_n 1, 1) := by decide +kernel
theorem d_Txm_layOut_1 : decode prog_19_method_12_code 1 = .ok (.tableswitch 170 0 6 #[43, 65, 82, 99, 116, 134, 150], 43) := by decide +kernel
theorem d_Txm_layOut_44 : decode prog_19_method_12_code 44 = .ok (.aload_n 0, 1) := by decide +kernel
theorem d_Txm_layOut_45 : decode prog_19_method_12_code 45 = .ok (.iconst 0, 1) := by decide +kernel
theorem d_Txm_layOut_46 : decode prog_19_method_12_code 46 = .ok (.bipush 8, 2) := by decide +kernel
theorem d_Txm_layOut_48 : decode prog_19_method_12_code 48 = .ok (.bipush 16, 2) := by decide +kernel
theorem d_Txm_layOut_50 : decode prog_19_method_12_code 50 = .ok (.bipush 24, 2) := by decide +kernel
theorem d_Txm_layOut_52 : decode prog_19_method_12_code 52 = .ok (.bipush 8, 2) := by decide +kernel
theorem d_Txm_layOut_54 : decode prog_19_method_12_code 54 = .ok (.bipush 8, 2) := by decide +kernel
theorem d_Txm_layOut_56 : decode prog_19_method_12_code 56 = .ok (.bipush 8, 2) := by decide +kernel
theorem d_Txm_layOut_58 : decode prog_19_method_12_code 58 = .ok (.bipush 8, 2) := by decide +kernel
theorem d_Txm_layOut_60 : decode prog_19_method_12_code 60 = .ok (.invokevirtual 63, 3) := by decide +kernel
theorem d_Txm_layOut_63 : decode prog_19_method_12_code 63 = .ok (.bipush 32, 2) := by decide +kernel
theorem d_Txm_layOut_65 : decode prog_19_method_12_code 65 = .ok (.ireturn, 1) := by decide +kernel
theorem d_Txm_layOut_66 : decode prog_19_method_12_code 66 = .ok (.aload_n 0, 1) := by decide +kernel
theorem d_Txm_layOut_67 : decode prog_19_method_12_code 67 = .ok (.iconst 0, 1) := by decide +kernel
theorem d_Txm_layOut_68 : decode prog_19_method_12_code 68 = .ok (.iconst 5, 1) := by decide +kernel
theorem d_Txm_layOut_69 : decode prog_19_method_12_code 69 = .ok (.bipush 11, 2) := by decide +kernel
theorem d_Txm_layOut_71 : decode prog_19_method_12_code 71 = .ok (.iconst 0, 1) := by decide +kernel
theorem d_Txm_layOut_72 : decode prog_19_method_12_code 72 = .ok (.iconst 5, 1) := by decide +kernel
theorem d_Txm_layOut_73 : decode prog_19_method_12_code 73 = .ok (.bipush 6, 2) := by decide +kernel
theorem d_Txm_layOut_75 : decode prog_19_method_12_code 75 = .ok (.iconst 5, 1) := by decide +kernel
theorem d_Txm_layOut_76 : decode prog_19_method_12_code 76 = .ok (.iconst 0, 1) := by decide +kernel
theorem d_Txm_layOut_77 : decode prog_19_method_12_code 77 = .ok (.invokevirtual 63, 3) := by decide +kernel
theorem d_Txm_layOut_80 : decode prog_19_method_12_code 80 = .ok (.bipush 16, 2) := by decide +kernel
theorem d_Txm_layOut_82 : decode prog_19_method_12_code 82 = .ok (.ireturn, 1) := by decide +kernel
theorem d_Txm_layOut_83 : decode prog_19_method_12_code 83 = .ok (.aload_n 0, 1) := by decide +kernel
theorem d_Txm_layOut_84 : decode prog_19_method_12_code 84 = .ok (.iconst 0, 1) := by decide +kernel
theorem d_Txm_layOut_85 : decode prog_19_method_12_code 85 = .ok (.iconst 4, 1) := by decide +kernel
theorem d_Txm_layOut_86 : decode prog_19_method_12_code 86 = .ok (.bipush 8, 2) := by decide +kernel
theorem d_Txm_layOut_88 : decode prog_19_method_12_code 88 = .ok (.bipush 12, 2) := by decide +kernel
theorem d_Txm_layOut_90 : decode prog_19_method_12_code 90 = .ok (.iconst 4, 1) := by decide +kernel
theorem d_Txm_layOut_91 : decode prog_19_method_12_code 91 = .ok (.iconst 4, 1) := by decide +kernel
theorem d_Txm_layOut_92 : decode prog_19_method_12_code 92 = .ok (.iconst 4, 1) := by decide +kernel
theorem d_Txm_layOut_93 : decode prog_19_method_12_code 93 = .ok (.iconst 4, 1) := by decide +kernel
theorem d_Txm_layOut_94 : decode prog_19_method_12_code 94 = .ok (.invokevirtual 63, 3) := by decide +kernel
theorem d_Txm_layOut_97 : decode prog_19_method_12_code 97 = .ok (.bipush 16, 2) := by decide +kernel
theorem d_Txm_layOut_99 : decode prog_19_method_12_code 99 = .ok (.ireturn, 1) := by decide +kernel
theorem d_Txm_layOut_100 : decode prog_19_method_12_code 100 = .ok (.aload_n 0, 1) := by decide +kernel
theorem d_Txm_layOut_101 : decode prog_19_method_12_code 101 = .ok (.iconst 0, 1) := by decide +kernel
theorem d_Txm_layOut_102 : decode prog_19_method_12_code 102 = .ok (.iconst 5, 1) := by decide +kernel
theorem d_Txm_layOut_103 : decode prog_19_method_12_code 103 = .ok (.bipush 10, 2) := by decide +kernel
theorem d_Txm_layOut_105 : decode prog_19_method_12_code 105 = .ok (.bipush 15, 2) := by decide +kernel
theorem d_Txm_layOut_107 : decode prog_19_method_12_code 107 = .ok (.iconst 5, 1) := by decide +kernel
theorem d_Txm_layOut_108 : decode prog_19_method_12_code 108 = .ok (.iconst 5, 1) := by decide +kernel
theorem d_Txm_layOut_109 : decode prog_19_method_12_code 109 = .ok (.iconst 5, 1) := by decide +kernel
theorem d_Txm_layOut_110 : decode prog_19_method_12_code 110 = .ok (.iconst 1, 1) := by decide +kernel
theorem d_Txm_layOut_111 : decode prog_19_method_12_code 111 = .ok (.invokevirtual 63, 3) := by decide +kernel
theorem d_Txm_layOut_114 : decode prog_19_method_12_code 114 = .ok (.bipush 16, 2) := by decide +kernel
theorem d_Txm_layOut_116 : decode prog_19_method_12_code 116 = .ok (.ireturn, 1) := by decide +kernel
theorem d_Txm_layOut_117 : decode prog_19_method_12_code 117 = .ok (.aload_n 0, 1) := by decide +kernel
theorem d_Txm_layOut_118 : decode prog_19_method_12_code 118 = .ok (.iconst 0, 1) := by decide +kernel
theorem d_Txm_layOut_119 : decode prog_19_method_12_code 119 = .ok (.iconst 0, 1) := by decide +kernel
theorem d_Txm_layOut_120 : decode prog_19_method_12_code 120 = .ok (.iconst 0, 1) := by decide +kernel
theorem d_Txm_layOut_121 : decode prog_19_method_12_code 121 = .ok (.iconst 0, 1) := by decide +kernel
theorem d_Txm_layOut_122 : decode prog_19_method_12_code 122 = .ok (.bipush 8, 2) := by decide +kernel
theorem d_Txm_layOut_124 : decode prog_19_method_12_code 124 = .ok (.bipush 8, 2) := by decide +kernel
theorem d_Txm_layOut_126 : decode prog_19_method_12_code 126 = .ok (.bipush 8, 2) := by decide +kernel
theorem d_Txm_layOut_128 : decode prog_19_method_12_code 128 = .ok (.iconst 0, 1) := by decide +kernel
theorem d_Txm_layOut_129 : decode prog_19_method_12_code 129 = .ok (.invokevirtual 63, 3) := by decide +kernel
theorem d_Txm_layOut_132 : decode prog_19_method_12_code 132 = .ok (.bipush 8, 2) := by decide +kernel
theorem d_Txm_layOut_134 : decode prog_19_method_12_code 134 = .ok (.ireturn, 1) := by decide +kernel
theorem d_Txm_layOut_135 : decode prog_19_method_12_code 135 = .ok (.aload_n 0, 1) := by decide +kernel
theorem d_Txm_layOut_136 : decode prog_19_method_12_code 136 = .ok (.iconst 0, 1) := by decide +kernel
theorem d_Txm_layOut_137 : decode prog_19_method_12_code 137 = .ok (.iconst 0, 1) := by decide +kernel
theorem d_Txm_layOut_138 : decode prog_19_method_12_code 138 = .ok (.iconst 0, 1) := by decide +kernel
theorem d_Txm_layOut_139 : decode prog_19_method_12_code 139 = .ok (.iconst 0, 1) := by decide +kernel
theorem d_Txm_layOut_140 : decode prog_19_method_12_code 140 = .ok (.iconst 0, 1) := by decide +kernel
theorem d_Txm_layOut_141 : decode prog_19_method_12_code 141 = .ok (.iconst 0, 1) := by decide +kernel
theorem d_Txm_layOut_142 : decode prog_19_method_12_code 142 = .ok (.iconst 0, 1) := by decide +kernel
theorem d_Txm_layOut_143 : decode prog_19_method_12_code 143 = .ok (.bipush 8, 2) := by decide +kernel
theorem d_Txm_layOut_145 : decode prog_19_method_12_code 145 = .ok (.invokevirtual 63, 3) := by decide +kernel
theorem d_Txm_layOut_148 : decode prog_19_method_12_code 148 = .ok (.bipush 8, 2) := by decide +kernel
theorem d_Txm_layOut_150 : decode prog_19_method_12_code 150 = .ok (.ireturn, 1) := by decide +kernel
theorem d_Txm_layOut_151 : decode prog_19_method_12_code 151 = .ok (.aload_n 0, 1) := by decide +kernel
theorem d_Txm_layOut_152 : decode prog_19_method_12_code 152 = .ok (.iconst 0, 1) := by decide +kernel
theorem d_Txm_layOut_153 : decode prog_19_method_12_code 153 = .ok (.iconst 0, 1) := by decide +kernel
theorem d_Txm_layOut_154 : decode prog_19_method_12_code 154 = .ok (.iconst 0, 1) := by decide +kernel
theorem d_Txm_layOut_155 : decode prog_19_method_12_code 155 = .ok (.bipush 8, 2) := by decide +kernel
theorem d_Txm_layOut_157 : decode prog_19_method_12_code 157 = .ok (.bipush 8, 2) := by decide +kernel
theorem d_Txm_layOut_159 : decode prog_19_method_12_code 159 = .ok (.bipush 8, 2) := by decide +kernel
theorem d_Txm_layOut_161 : decode prog_19_method_12_code 161 = .ok (.bipush 8, 2) := by decide +kernel
theorem d_Txm_layOut_163 : decode prog_19_method_12_code 163 = .ok (.bipush 8, 2) := by decide +kernel
theorem d_Txm_layOut_165 : decode prog_19_method_12_code 165 = .ok (.invokevirtual 63, 3) := by decide +kernel
theorem d_Txm_layOut_168 : decode prog_19_method_12_code 168 = .ok (.bipush 16, 2) := by decide +kernel
theorem d_Txm_layOut_170 : decode prog_19_method_12_code 170 = .ok (.ireturn, 1) := by decide +kernel
theorem d_Txm_layOut_171 : decode prog_19_method_12_code 171 = .ok (.aload_n 0, 1) := by decide +kernel
theorem d_Txm_layOut_172 : decode prog_19_method_12_code 172 = .ok (.iconst 0, 1) := by decide +kernel
theorem d_Txm_layOut_173 : decode prog_19_method_12_code 173 = .ok (.iconst 0, 1) := by decide +kernel
theorem d_Txm_layOut_174 : decode prog_19_method_12_code 174 = .ok (.iconst 0, 1) := by decide +kernel
theorem d_Txm_layOut_175 : decode prog_19_method_12_code 175 = .ok (.iconst 0, 1) := by decide +kernel
theorem d_Txm_layOut_176 : decode prog_19_method_12_code 176 = .ok (.iconst 4, 1) := by decide +kernel
theorem d_Txm_layOut_177 : decode prog_19_method_12_code 177 = .ok (.iconst 4, 1) := by decide +kernel
theorem d_Txm_layOut_178 : decode prog_19_method_12_code 178 = .ok (.iconst 4, 1) := by decide +kernel
theorem d_Txm_layOut_179 : decode prog_19_method_12_code 179 = .ok (.iconst 0, 1) := by decide +kernel
theorem d_Txm_layOut_180 : decode prog_19_method_12_code 180 = .ok (.invokevirtual 63, 3) := by decide +kernel
theorem d_Txm_layOut_183 : decode prog_19_method_12_code 183 = .ok (.iconst 4, 1) := by decide +kernel
theorem d_Txm_layOut_184 : decode prog_19_method_12_code 184 = .ok (.ireturn, 1) := by decide +kernel
def F_Txm_layOut (σ : Sg) (x0 : Int32) : Option (Sg × Int32) := if x0 = 0 then (bd (F_Txm_lay σ 0 8 16 24 8 8 8 8) (fun o17 => some (o17, 32))) else (if x0 = 1 then (bd (F_Txm_lay σ 0 5 11 0 5 6 5 0) (fun o19 => some (o19, 16))) else (if x0 = 2 then (bd (F_Txm_lay σ 0 4 8 12 4 4 4 4) (fun o21 => some (o21, 16))) else (if x0 = 3 then (bd (F_Txm_lay σ 0 5 10 15 5 5 5 1) (fun o23 => some (o23, 16))) else (if x0 = 4 then (bd (F_Txm_lay σ 0 0 0 0 8 8 8 0) (fun o25 => some (o25, 8))) else (if x0 = 5 then (bd (F_Txm_lay σ 0 0 0 0 0 0 0 8) (fun o27 => some (o27, 8))) else (if x0 = 6 then (bd (F_Txm_lay σ 0 0 0 8 8 8 8 8) (fun o29 => some (o29, 16))) else (bd (F_Txm_lay σ 0 0 0 0 4 4 4 0) (fun o30 => some (o30, 4)))))))))
set_option maxRecDepth 10000 in
set_option maxHeartbeats 4000000 in
theorem c_Txm_layOut (l : Launch) (D : va_G) (τ : ClassId × ClassId × ClassId) (B : Nat) (σ : Sg) (ad : Nat → Nat) (x0 : Int32) (o : Sg × Int32) (h : F_Txm_layOut σ x0 = some o) : MI l y_Txm_layOut (Cond.code y_Txm_layOut prog_19_method_12_code 2 (some .int)) 1 D τ B [.ref (ad 61), .int x0] (wdM τ σ ad) (wdM τ o.1 ad) o.2 := by
  refine en_i (by decide) (Nat.le_of_ble_eq_true rfl) ?_
  intro p e R s m args below meth c H locs ls A E hret w hl
  have E : Cx p R s m args meth c prog_19_method_12_code 2 "DrawingMachineModel$TextureUnitsModel" 1 D τ B A := E
  have hl : lv_has ls 2 [(0, .ref (ad 61)), (1, .int x0)] := hl
  refine lv_iload_n E.x E.b d_Txm_layOut_0 rfl (lv_at hl 1 rfl) ?_
  by_cases q16 : x0 = 0
  ·
    replace h := ifT q16 h
    refine wi_e (v := 0) q16 ?_
    refine lv_tableIn (off := 43) (tgt := 44) E.x E.b d_Txm_layOut_1 (by decide) (by decide) (by decide) (by decide) ?_
    refine lv_aload_n E.x E.b d_Txm_layOut_44 rfl (lv_at hl 0 rfl) ?_
    refine lv_iconst (v := 0) E.x E.b d_Txm_layOut_45 (by decide) ?_
    refine lv_bipush (v := 8) E.x E.b d_Txm_layOut_46 (by decide) ?_
    refine lv_bipush (v := 16) E.x E.b d_Txm_layOut_48 (by decide) ?_
    refine lv_bipush (v := 24) E.x E.b d_Txm_layOut_50 (by decide) ?_
    refine lv_bipush (v := 8) E.x E.b d_Txm_layOut_52 (by decide) ?_
    refine lv_bipush (v := 8) E.x E.b d_Txm_layOut_54 (by decide) ?_
    refine lv_bipush (v := 8) E.x E.b d_Txm_layOut_56 (by decide) ?_
    refine lv_bipush (v := 8) E.x E.b d_Txm_layOut_58 (by decide) ?_
    obtain ⟨o17, h_o17, h⟩ := bd_some h
    refine clV_Txm_lay E w (x0 := 0) (x1 := 8) (x2 := 16) (x3 := 24) (x4 := 8) (x5 := 8) (x6 := 8) (x7 := 8) h_o17 k2276 (by decide) hl.1 (Nat.le_of_ble_eq_true rfl) d_Txm_layOut_60 (fun H locs w => ?_)
    refine lv_bipush (v := 32) E.x E.b d_Txm_layOut_63 (by decide) ?_
    obtain rfl := Option.some.inj h
    exact rt_i E w hret d_Txm_layOut_65
  replace h := ifF q16 h
  replace q16 := ne_ti (k := 0) (by decide) q16
  by_cases q18 : x0 = 1
  ·
    replace h := ifT q18 h
    refine wi_e (v := 1) q18 ?_
    refine lv_tableIn (off := 65) (tgt := 66) E.x E.b d_Txm_layOut_1 (by decide) (by decide) (by decide) (by decide) ?_
    refine lv_aload_n E.x E.b d_Txm_layOut_66 rfl (lv_at hl 0 rfl) ?_
    refine lv_iconst (v := 0) E.x E.b d_Txm_layOut_67 (by decide) ?_
    refine lv_iconst (v := 5) E.x E.b d_Txm_layOut_68 (by decide) ?_
    refine lv_bipush (v := 11) E.x E.b d_Txm_layOut_69 (by decide) ?_
    refine lv_iconst (v := 0) E.x E.b d_Txm_layOut_71 (by decide) ?_
    refine lv_iconst (v := 5) E.x E.b d_Txm_layOut_72 (by decide) ?_
    refine lv_bipush (v := 6) E.x E.b d_Txm_layOut_73 (by decide) ?_
    refine lv_iconst (v := 5) E.x E.b d_Txm_layOut_75 (by decide) ?_
    refine lv_iconst (v := 0) E.x E.b d_Txm_layOut_76 (by decide) ?_
    obtain ⟨o19, h_o19, h⟩ := bd_some h
    refine clV_Txm_lay E w (x0 := 0) (x1 := 5) (x2 := 11) (x3 := 0) (x4 := 5) (x5 := 6) (x6 := 5) (x7 := 0) h_o19 k2276 (by decide) hl.1 (Nat.le_of_ble_eq_true rfl) d_Txm_layOut_77 (fun H locs w => ?_)
    refine lv_bipush (v := 16) E.x E.b d_Txm_layOut_80 (by decide) ?_
    obtain rfl := Option.some.inj h
    exact rt_i E w hret d_Txm_layOut_82
  replace h := ifF q18 h
  replace q18 := ne_ti (k := 1) (by decide) q18
  by_cases q20 : x0 = 2
  ·
    replace h := ifT q20 h
    refine wi_e (v := 2) q20 ?_
    refine lv_tableIn (off := 82) (tgt := 83) E.x E.b d_Txm_layOut_1 (by decide) (by decide) (by decide) (by decide) ?_
    refine lv_aload_n E.x E.b d_Txm_layOut_83 rfl (lv_at hl 0 rfl) ?_
    refine lv_iconst (v := 0) E.x E.b d_Txm_layOut_84 (by decide) ?_
    refine lv_iconst (v := 4) E.x E.b d_Txm_layOut_85 (by decide) ?_
    refine lv_bipush (v := 8) E.x E.b d_Txm_layOut_86 (by decide) ?_
    refine lv_bipush (v := 12) E.x E.b d_Txm_layOut_88 (by decide) ?_
    refine lv_iconst (v := 4) E.x E.b d_Txm_layOut_90 (by decide) ?_
    refine lv_iconst (v := 4) E.x E.b d_Txm_layOut_91 (by decide) ?_
    refine lv_iconst (v := 4) E.x E.b d_Txm_layOut_92 (by decide) ?_
    refine lv_iconst (v := 4) E.x E.b d_Txm_layOut_93 (by decide) ?_
    obtain ⟨o21, h_o21, h⟩ := bd_some h
    refine clV_Txm_lay E w (x0 := 0) (x1 := 4) (x2 := 8) (x3 := 12) (x4 := 4) (x5 := 4) (x6 := 4) (x7 := 4) h_o21 k2276 (by decide) hl.1 (Nat.le_of_ble_eq_true rfl) d_Txm_layOut_94 (fun H locs w => ?_)
    refine lv_bipush (v := 16) E.x E.b d_Txm_layOut_97 (by decide) ?_
    obtain rfl := Option.some.inj h
    exact rt_i E w hret d_Txm_layOut_99
  replace h := ifF q20 h
  replace q20 := ne_ti (k := 2) (by decide) q20
  by_cases q22 : x0 = 3
  ·
    replace h := ifT q22 h
    refine wi_e (v := 3) q22 ?_
    refine lv_tableIn (off := 99) (tgt := 100) E.x E.b d_Txm_layOut_1 (by decide) (by decide) (by decide) (by decide) ?_
    refine lv_aload_n E.x E.b d_Txm_layOut_100 rfl (lv_at hl 0 rfl) ?_
    refine lv_iconst (v := 0) E.x E.b d_Txm_layOut_101 (by decide) ?_
    refine lv_iconst (v := 5) E.x E.b d_Txm_layOut_102 (by decide) ?_
    refine lv_bipush (v := 10) E.x E.b d_Txm_layOut_103 (by decide) ?_
    refine lv_bipush (v := 15) E.x E.b d_Txm_layOut_105 (by decide) ?_
    refine lv_iconst (v := 5) E.x E.b d_Txm_layOut_107 (by decide) ?_
    refine lv_iconst (v := 5) E.x E.b d_Txm_layOut_108 (by decide) ?_
    refine lv_iconst (v := 5) E.x E.b d_Txm_layOut_109 (by decide) ?_
    refine lv_iconst (v := 1) E.x E.b d_Txm_layOut_110 (by decide) ?_
    obtain ⟨o23, h_o23, h⟩ := bd_some h
    refine clV_Txm_lay E w (x0 := 0) (x1 := 5) (x2 := 10) (x3 := 15) (x4 := 5) (x5 := 5) (x6 := 5) (x7 := 1) h_o23 k2276 (by decide) hl.1 (Nat.le_of_ble_eq_true rfl) d_Txm_layOut_111 (fun H locs w => ?_)
    refine lv_bipush (v := 16) E.x E.b d_Txm_layOut_114 (by decide) ?_
    obtain rfl := Option.some.inj h
    exact rt_i E w hret d_Txm_layOut_116
  replace h := ifF q22 h
  replace q22 := ne_ti (k := 3) (by decide) q22
  by_cases q24 : x0 = 4
  ·
    replace h := ifT q24 h
    refine wi_e (v := 4) q24 ?_
    refine lv_tableIn (off := 116) (tgt := 117) E.x E.b d_Txm_layOut_1 (by decide) (by decide) (by decide) (by decide) ?_
    refine lv_aload_n E.x E.b d_Txm_layOut_117 rfl (lv_at hl 0 rfl) ?_
    refine lv_iconst (v := 0) E.x E.b d_Txm_layOut_118 (by decide) ?_
    refine lv_iconst (v := 0) E.x E.b d_Txm_layOut_119 (by decide) ?_
    refine lv_iconst (v := 0) E.x E.b d_Txm_layOut_120 (by decide) ?_
    refine lv_iconst (v := 0) E.x E.b d_Txm_layOut_121 (by decide) ?_
    refine lv_bipush (v := 8) E.x E.b d_Txm_layOut_122 (by decide) ?_
    refine lv_bipush (v := 8) E.x E.b d_Txm_layOut_124 (by decide) ?_
    refine lv_bipush (v := 8) E.x E.b d_Txm_layOut_126 (by decide) ?_
    refine lv_iconst (v := 0) E.x E.b d_Txm_layOut_128 (by decide) ?_
    obtain ⟨o25, h_o25, h⟩ := bd_some h
    refine clV_Txm_lay E w (x0 := 0) (x1 := 0) (x2 := 0) (x3 := 0) (x4 := 8) (x5 := 8) (x6 := 8) (x7 := 0) h_o25 k2276 (by decide) hl.1 (Nat.le_of_ble_eq_true rfl) d_Txm_layOut_129 (fun H locs w => ?_)
    refine lv_bipush (v := 8) E.x E.b d_Txm_layOut_132 (by decide) ?_
    obtain rfl := Option.some.inj h
    exact rt_i E w hret d_Txm_layOut_134
  replace h := ifF q24 h
  replace q24 := ne_ti (k := 4) (by decide) q24
  by_cases q26 : x0 = 5
  ·
    replace h := ifT q26 h
    refine wi_e (v := 5) q26 ?_
    refine lv_tableIn (off := 134) (tgt := 135) E.x E.b d_Txm_layOut_1 (by decide) (by decide) (by decide) (by decide) ?_
    refine lv_aload_n E.x E.b d_Txm_layOut_135 rfl (lv_at hl 0 rfl) ?_
    refine lv_iconst (v := 0) E.x E.b d_Txm_layOut_136 (by decide) ?_
    refine lv_iconst (v := 0) E.x E.b d_Txm_layOut_137 (by decide) ?_
    refine lv_iconst (v := 0) E.x E.b d_Txm_layOut_138 (by decide) ?_
    refine lv_iconst (v := 0) E.x E.b d_Txm_layOut_139 (by decide) ?_
    refine lv_iconst (v := 0) E.x E.b d_Txm_layOut_140 (by decide) ?_
    refine lv_iconst (v := 0) E.x E.b d_Txm_layOut_141 (by decide) ?_
    refine lv_iconst (v := 0) E.x E.b d_Txm_layOut_142 (by decide) ?_
    refine lv_bipush (v := 8) E.x E.b d_Txm_layOut_143 (by decide) ?_
    obtain ⟨o27, h_o27, h⟩ := bd_some h
    refine clV_Txm_lay E w (x0 := 0) (x1 := 0) (x2 := 0) (x3 := 0) (x4 := 0) (x5 := 0) (x6 := 0) (x7 := 8) h_o27 k2276 (by decide) hl.1 (Nat.le_of_ble_eq_true rfl) d_Txm_layOut_145 (fun H locs w => ?_)
    refine lv_bipush (v := 8) E.x E.b d_Txm_layOut_148 (by decide) ?_
    obtain rfl := Option.some.inj h
    exact rt_i E w hret d_Txm_layOut_150
  replace h := ifF q26 h
  replace q26 := ne_ti (k := 5) (by decide) q26
  by_cases q28 : x0 = 6
  ·
    replace h := ifT q28 h
    refine wi_e (v := 6) q28 ?_
    refine lv_tableIn (off := 150) (tgt := 151) E.x E.b d_Txm_layOut_1 (by decide) (by decide) (by decide) (by decide) ?_
    refine lv_aload_n E.x E.b d_Txm_layOut_151 rfl (lv_at hl 0 rfl) ?_
    refine lv_iconst (v := 0) E.x E.b d_Txm_layOut_152 (by decide) ?_
    refine lv_iconst (v := 0) E.x E.b d_Txm_layOut_153 (by decide) ?_
    refine lv_iconst (v := 0) E.x E.b d_Txm_layOut_154 (by decide) ?_
    refine lv_bipush (v := 8) E.x E.b d_Txm_layOut_155 (by decide) ?_
    refine lv_bipush (v := 8) E.x E.b d_Txm_layOut_157 (by decide) ?_
    refine lv_bipush (v := 8) E.x E.b d_Txm_layOut_159 (by decide) ?_
    refine lv_bipush (v := 8) E.x E.b d_Txm_layOut_161 (by decide) ?_
    refine lv_bipush (v := 8) E.x E.b d_Txm_layOut_163 (by decide) ?_
    obtain ⟨o29, h_o29, h⟩ := bd_some h
    refine clV_Txm_lay E w (x0 := 0) (x1 := 0) (x2 := 0) (x3 := 8) (x4 := 8) (x5 := 8) (x6 := 8) (x7 := 8) h_o29 k2276 (by decide) hl.1 (Nat.le_of_ble_eq_true rfl) d_Txm_layOut_165 (fun H locs w => ?_)
    refine lv_bipush (v := 16) E.x E.b d_Txm_layOut_168 (by decide) ?_
    obtain rfl := Option.some.inj h
    exact rt_i E w hret d_Txm_layOut_170
  replace h := ifF q28 h
  replace q28 := ne_ti (k := 6) (by decide) q28
  refine lv_tableOut (tgt := 171) E.x E.b d_Txm_layOut_1 (by omega) (by decide) ?_
  refine lv_aload_n E.x E.b d_Txm_layOut_171 rfl (lv_at hl 0 rfl) ?_
  refine lv_iconst (v := 0) E.x E.b d_Txm_layOut_172 (by decide) ?_
  refine lv_iconst (v := 0) E.x E.b d_Txm_layOut_173 (by decide) ?_
  refine lv_iconst (v := 0) E.x E.b d_Txm_layOut_174 (by decide) ?_
  refine lv_iconst (v := 0) E.x E.b d_Txm_layOut_175 (by decide) ?_
  refine lv_iconst (v := 4) E.x E.b d_Txm_layOut_176 (by decide) ?_
  refine lv_iconst (v := 4) E.x E.b d_Txm_layOut_177 (by decide) ?_
  refine lv_iconst (v := 4) E.x E.b d_Txm_layOut_178 (by decide) ?_
  refine lv_iconst (v := 0) E.x E.b d_Txm_layOut_179 (by decide) ?_
  obtain ⟨o30, h_o30, h⟩ := bd_some h
  refine clV_Txm_lay E w (x0 := 0) (x1 := 0) (x2 := 0) (x3 := 0) (x4 := 4) (x5 := 4) (x6 := 4) (x7 := 0) h_o30 k2276 (by decide) hl.1 (Nat.le_of_ble_eq_true rfl) d_Txm_layOut_180 (fun H locs w => ?_)
  refine lv_iconst (v := 4) E.x E.b d_Txm_layOut_183 (by decide) ?_
  obtain rfl := Option.some.inj h
  exact rt_i E w hret d_Txm_layOut_184
theorem clV_Txm_layOut {p : Program} {l : Launch} {e : Env} {R : Room} {s : State} {m : MethodId} {args : Array Value} {below : List Frame} {meth : Method} {c : Code} {H : Heap} {locs : List Loc} {Q : State → Prop} {cc : ByteArray} {nL pc lev : Nat} {own : String} {D : va_G} {τ : ClassId × ClassId × ClassId} {B : Nat} {A : Nat → Prop} {σ : Sg} {ad : Nat → Nat} {ls : Array Slot} {rest : List Value} (E : Cx p R s m args meth c cc nL own lev D τ B A) (w : Wd s D A (wdM τ σ ad) H locs) {x0 : Int32} {o : Sg × Int32} (h : F_Txm_layOut σ x0 = some o) {index : Nat} (hlk : Cond.methodLink own index y_Txm_layOut ∈ tw) (hlev : 1 < lev) (hsz : ls.size = nL) (hr : (rest.map fun v => v.category).sum ≤ 8) (hd : decode cc pc = .ok (.invokevirtual index, 3)) (kk : ∀ (H1 : Heap) (locs1 : List Loc), Wd s D A (wdM τ o.1 ad) H1 locs1 → W p l e R s m args below meth c H1 locs1 0 0 Q (F0 m (pc + 3) ls (.int o.2 :: rest))) : W p l e R s m args below meth c H locs 0 0 Q (F0 m pc ls (.int x0 :: .ref (ad 61) :: rest)) :=
  cr_i w E.C (va_runV (As := [.int x0]) (rest := rest) E.fix (c_Txm_layOut l D τ B σ ad x0 o h H.size) (cwV 1 E.w (tw_pre (tw_good k2275) (l := [_, _, _, _]) (List.forall_mem_cons.mpr ⟨hlk, List.forall_mem_cons.mpr ⟨k2274, List.forall_mem_cons.mpr ⟨ks89, List.forall_mem_cons.mpr ⟨k16, fun _ h => absurd h List.not_mem_nil⟩⟩⟩⟩)) rfl rfl rfl (by decide +kernel) (E.rm hlev (by decide))) (wd_preV w E.C [.int x0] rcM_Txm rfl) rfl rfl hsz rfl (lv_room hr) hd ⟨Nat.zero_le _, Nat.zero_le _⟩) kk

theorem d_Txm_look_0 : decode prog_19_method_14_code 0 = .ok (.aload_n 0, 1) := by decide +kernel
theorem d_Txm_look_1 : decode prog_19_method_14_code 1 = .ok (.aload_n 0, 1) := by decide +kernel
theorem d_Txm_look_2 : decode prog_19_method_14_code 2 = .ok (.getfield 7, 3) := by decide +kernel
theorem d_Txm_look_5 : decode prog_19_method_14_code 5 = .ok (.bipush 8, 2) := by decide +kernel
theorem d_Txm_look_7 : decode prog_19_method_14_code 7 = .ok (.iload_n 1, 1) := by decide +kernel
theorem d_Txm_look_8 : decode prog_19_method_14_code 8 = .ok (.imul, 1) := by decide +kernel
theorem d_Txm_look_9 : decode prog_19_method_14_code 9 = .ok (.iconst 4, 1) := by decide +kernel
theorem d_Txm_look_10 : decode prog_19_method_14_code 10 = .ok (.iadd, 1) := by decide +kernel
theorem d_Txm_look_11 : decode prog_19_method_14_code 11 = .ok (.iaload, 1) := by decide +kernel
theorem d_Txm_look_12 : decode prog_19_method_14_code 12 = .ok (.invokevirtual 71, 3) := by decide +kernel
theorem d_Txm_look_15 : decode prog_19_method_14_code 15 = .ok (.istore 5, 2) := by decide +kernel
theorem d_Txm_look_17 : decode prog_19_method_14_code 17 = .ok (.aload_n 0, 1) := by decide +kernel
theorem d_Txm_look_18 : decode prog_19_method_14_code 18 = .ok (.iload_n 1, 1) := by decide +kernel
theorem d_Txm_look_19 : decode prog_19_method_14_code 19 = .ok (.iload_n 2, 1) := by decide +kernel
theorem d_Txm_look_20 : decode prog_19_method_14_code 20 = .ok (.invokevirtual 75, 3) := by decide +kernel
theorem d_Txm_look_23 : decode prog_19_method_14_code 23 = .ok (.iload 4, 2) := by decide +kernel
theorem d_Txm_look_25 : decode prog_19_method_14_code 25 = .ok (.aload_n 0, 1) := by decide +kernel
theorem d_Txm_look_26 : decode prog_19_method_14_code 26 = .ok (.iload_n 1, 1) := by decide +kernel
theorem d_Txm_look_27 : decode prog_19_method_14_code 27 = .ok (.iload_n 2, 1) := by decide +kernel
theorem d_Txm_look_28 : decode prog_19_method_14_code 28 = .ok (.invokevirtual 56, 3) := by decide +kernel
theorem d_Txm_look_31 : decode prog_19_method_14_code 31 = .ok (.imul, 1) := by decide +kernel
theorem d_Txm_look_32 : decode prog_19_method_14_code 32 = .ok (.iadd, 1) := by decide +kernel
theorem d_Txm_look_33 : decode prog_19_method_14_code 33 = .ok (.iload_n 3, 1) := by decide +kernel
theorem d_Txm_look_34 : decode prog_19_method_14_code 34 = .ok (.iadd, 1) := by decide +kernel
theorem d_Txm_look_35 : decode prog_19_method_14_code 35 = .ok (.i2l, 1) := by decide +kernel
theorem d_Txm_look_36 : decode prog_19_method_14_code 36 = .ok (.iload 5, 2) := by decide +kernel
theorem d_Txm_look_38 : decode prog_19_method_14_code 38 = .ok (.i2l, 1) := by decide +kernel
theorem d_Txm_look_39 : decode prog_19_method_14_code 39 = .ok (.lmul, 1) := by decide +kernel
theorem d_Txm_look_40 : decode prog_19_method_14_code 40 = .ok (.lstore 6, 2) := by decide +kernel
theorem d_Txm_look_42 : decode prog_19_method_14_code 42 = .ok (.iconst 0, 1) := by decide +kernel
theorem d_Txm_look_43 : decode prog_19_method_14_code 43 = .ok (.istore 8, 2) := by decide +kernel
theorem d_Txm_look_45 : decode prog_19_method_14_code 45 = .ok (.iload 8, 2) := by decide +kernel
theorem d_Txm_look_47 : decode prog_19_method_14_code 47 = .ok (.iconst 4, 1) := by decide +kernel
theorem d_Txm_look_48 : decode prog_19_method_14_code 48 = .ok (.if_icmp .ge 122, 3) := by decide +kernel
theorem d_Txm_look_51 : decode prog_19_method_14_code 51 = .ok (.iconst 0, 1) := by decide +kernel
theorem d_Txm_look_52 : decode prog_19_method_14_code 52 = .ok (.istore 9, 2) := by decide +kernel
theorem d_Txm_look_54 : decode prog_19_method_14_code 54 = .ok (.aload_n 0, 1) := by decide +kernel
theorem d_Txm_look_55 : decode prog_19_method_14_code 55 = .ok (.getfield 34, 3) := by decide +kernel
theorem d_Txm_look_58 : decode prog_19_method_14_code 58 = .ok (.iload 8, 2) := by decide +kernel
theorem d_Txm_look_60 : decode prog_19_method_14_code 60 = .ok (.iaload, 1) := by decide +kernel
theorem d_Txm_look_61 : decode prog_19_method_14_code 61 = .ok (.iconst 1, 1) := by decide +kernel
theorem d_Txm_look_62 : decode prog_19_method_14_code 62 = .ok (.isub, 1) := by decide +kernel
theorem d_Txm_look_63 : decode prog_19_method_14_code 63 = .ok (.istore 10, 2) := by decide +kernel
theorem d_Txm_look_65 : decode prog_19_method_14_code 65 = .ok (.iload 10, 2) := by decide +kernel
theorem d_Txm_look_67 : decode prog_19_method_14_code 67 = .ok (.ifCond .lt 44, 3) := by decide +kernel
theorem d_Txm_look_70 : decode prog_19_method_14_code 70 = .ok (.iconst 2, 1) := by decide +kernel
theorem d_Txm_look_71 : decode prog_19_method_14_code 71 = .ok (.iload 9, 2) := by decide +kernel
theorem d_Txm_look_73 : decode prog_19_method_14_code 73 = .ok (.imul, 1) := by decide +kernel
theorem d_Txm_look_74 : decode prog_19_method_14_code 74 = .ok (.aload_n 0, 1) := by decide +kernel
theorem d_Txm_look_75 : decode prog_19_method_14_code 75 = .ok (.aload_n 0, 1) := by decide +kernel
theorem d_Txm_look_76 : decode prog_19_method_14_code 76 = .ok (.getfield 7, 3) := by decide +kernel
theorem d_Txm_look_79 : decode prog_19_method_14_code 79 = .ok (.bipush 8, 2) := by decide +kernel
theorem d_Txm_look_81 : decode prog_19_method_14_code 81 = .ok (.iload_n 1, 1) := by decide +kernel
theorem d_Txm_look_82 : decode prog_19_method_14_code 82 = .ok (.imul, 1) := by decide +kernel
theorem d_Txm_look_83 : decode prog_19_method_14_code 83 = .ok (.iaload, 1) := by decide +kernel
theorem d_Txm_look_84 : decode prog_19_method_14_code 84 = .ok (.lload 6, 2) := by decide +kernel
theorem d_Txm_look_86 : decode prog_19_method_14_code 86 = .ok (.aload_n 0, 1) := by decide +kernel
theorem d_Txm_look_87 : decode prog_19_method_14_code 87 = .ok (.getfield 31, 3) := by decide +kernel
theorem d_Txm_look_90 : decode prog_19_method_14_code 90 = .ok (.iload 8, 2) := by decide +kernel
theorem d_Txm_look_92 : decode prog_19_method_14_code 92 = .ok (.iaload, 1) := by decide +kernel
theorem d_Txm_look_93 : decode prog_19_method_14_code 93 = .ok (.i2l, 1) := by decide +kernel
theorem d_Txm_look_94 : decode prog_19_method_14_code 94 = .ok (.ladd, 1) := by decide +kernel
theorem d_Txm_look_95 : decode prog_19_method_14_code 95 = .ok (.iload 10, 2) := by decide +kernel
theorem d_Txm_look_97 : decode prog_19_method_14_code 97 = .ok (.i2l, 1) := by decide +kernel
theorem d_Txm_look_98 : decode prog_19_method_14_code 98 = .ok (.ladd, 1) := by decide +kernel
theorem d_Txm_look_99 : decode prog_19_method_14_code 99 = .ok (.invokevirtual 78, 3) := by decide +kernel
theorem d_Txm_look_102 : decode prog_19_method_14_code 102 = .ok (.iadd, 1) := by decide +kernel
theorem d_Txm_look_103 : decode prog_19_method_14_code 103 = .ok (.istore 9, 2) := by decide +kernel
theorem d_Txm_look_105 : decode prog_19_method_14_code 105 = .ok (.iinc 10 (-1), 3) := by decide +kernel
theorem d_Txm_look_108 : decode prog_19_method_14_code 108 = .ok (.goto (-43), 3) := by decide +kernel
theorem d_Txm_look_111 : decode prog_19_method_14_code 111 = .ok (.iconst 1, 1) := by decide +kernel
theorem d_Txm_look_112 : decode prog_19_method_14_code 112 = .ok (.aload_n 0, 1) := by decide +kernel
theorem d_Txm_look_113 : decode prog_19_method_14_code 113 = .ok (.getfield 34, 3) := by decide +kernel
theorem d_Txm_look_116 : decode prog_19_method_14_code 116 = .ok (.iload 8, 2) := by decide +kernel
theorem d_Txm_look_118 : decode prog_19_method_14_code 118 = .ok (.iaload, 1) := by decide +kernel
theorem d_Txm_look_119 : decode prog_19_method_14_code 119 = .ok (.ishl, 1) := by decide +kernel
theorem d_Txm_look_120 : decode prog_19_method_14_code 120 = .ok (.iconst 1, 1) := by decide +kernel
theorem d_Txm_look_121 : decode prog_19_method_14_code 121 = .ok (.isub, 1) := by decide +kernel
theorem d_Txm_look_122 : decode prog_19_method_14_code 122 = .ok (.istore 10, 2) := by decide +kernel
theorem d_Txm_look_124 : decode prog_19_method_14_code 124 = .ok (.aload_n 0, 1) := by decide +kernel
theorem d_Txm_look_125 : decode prog_19_method_14_code 125 = .ok (.getfield 19, 3) := by decide +kernel
theorem d_Txm_look_128 : decode prog_19_method_14_code 128 = .ok (.iload 8, 2) := by decide +kernel
theorem d_Txm_look_130 : decode prog_19_method_14_code 130 = .ok (.iload 10, 2) := by decide +kernel
theorem d_Txm_look_132 : decode prog_19_method_14_code 132 = .ok (.ifCond .ne 18, 3) := by decide +kernel
theorem d_Txm_look_135 : decode prog_19_method_14_code 135 = .ok (.iload 8, 2) := by decide +kernel
theorem d_Txm_look_137 : decode prog_19_method_14_code 137 = .ok (.iconst 3, 1) := by decide +kernel
theorem d_Txm_look_138 : decode prog_19_method_14_code 138 = .ok (.if_icmp .ne 8, 3) := by decide +kernel
theorem d_Txm_look_141 : decode prog_19_method_14_code 141 = .ok (.ldc 82, 2) := by decide +kernel
theorem d_Txm_look_143 : decode prog_19_method_14_code 143 = .ok (.goto 20, 3) := by decide +kernel
theorem d_Txm_look_146 : decode prog_19_method_14_code 146 = .ok (.iconst 0, 1) := by decide +kernel
theorem d_Txm_look_147 : decode prog_19_method_14_code 147 = .ok (.goto 16, 3) := by decide +kernel
theorem d_Txm_look_150 : decode prog_19_method_14_code 150 = .ok (.ldc 83, 2) := by decide +kernel
theorem d_Txm_look_152 : decode prog_19_method_14_code 152 = .ok (.iload 9, 2) := by decide +kernel
theorem d_Txm_look_154 : decode prog_19_method_14_code 154 = .ok (.imul, 1) := by decide +kernel
theorem d_Txm_look_155 : decode prog_19_method_14_code 155 = .ok (.iload 10, 2) := by decide +kernel
theorem d_Txm_look_157 : decode prog_19_method_14_code 157 = .ok (.iadd, 1) := by decide +kernel
theorem d_Txm_look_158 : decode prog_19_method_14_code 158 = .ok (.iconst 2, 1) := by decide +kernel
theorem d_Txm_look_159 : decode prog_19_method_14_code 159 = .ok (.iload 10, 2) := by decide +kernel
theorem d_Txm_look_161 : decode prog_19_method_14_code 161 = .ok (.imul, 1) := by decide +kernel
theorem d_Txm_look_162 : decode prog_19_method_14_code 162 = .ok (.idiv, 1) := by decide +kernel
theorem d_Txm_look_163 : decode prog_19_method_14_code 163 = .ok (.iastore, 1) := by decide +kernel
theorem d_Txm_look_164 : decode prog_19_method_14_code 164 = .ok (.iinc 8 1, 3) := by decide +kernel
theorem d_Txm_look_167 : decode prog_19_method_14_code 167 = .ok (.goto (-122), 3) := by decide +kernel
theorem d_Txm_look_170 : decode prog_19_method_14_code 170 = .ok (.return_, 1) := by decide +kernel
def F_Txm_look_163 (rc_45 : Sg → Int32 → Int64 → Int32 → Option (Sg)) (σ : Sg) (v1 : Int32) (v6 : Int64) (v8 : Int32) (s1 : Int32) (s2 : Int32) : Option (Sg) := ck (inb s1 4) (lt (sA σ 8 (upd (σ.2.2.1 8) s1.toNatClampNeg s2)) (fun σ20 => lt (v8 + 1) (fun y21 => rc_45 σ20 v1 v6 y21)))
set_option maxRecDepth 10000 in
set_option maxHeartbeats 4000000 in
theorem bt_Txm_look_163 {p : Program} {l : Launch} {e : Env} {R : Room} {s : State} {m : MethodId} {args : Array Value} {below : List Frame} {meth : Method} {c : Code} {D : va_G} {τ : ClassId × ClassId × ClassId} {B : Nat} {A : Nat → Prop} {ad : Nat → Nat} (E : Cx p R s m args meth c prog_19_method_14_code 11 "DrawingMachineModel$TextureUnitsModel" 3 D τ B A) (hret : meth.sig.returnType = none) (o : Sg) (rc_45 : Sg → Int32 → Int64 → Int32 → Option (Sg)) (hr_45 : ∀ (σ : Sg) (v1 : Int32) (v6 : Int64) (v8 : Int32) (H : Heap) (locs : List Loc) (ls : Array Slot), rc_45 σ v1 v6 v8 = some o → Wd s D A (wdM τ σ ad) H locs → lv_has ls 11 [(0, .ref (ad 61)), (1, .int v1), (6, .long v6), (8, .int v8)] → W p l e R s m args below meth c H locs 0 0 (QV below args s A D τ (wdM τ o ad)) (F0 m 45 ls [])) (σ : Sg) (v1 : Int32) (v6 : Int64) (v8 : Int32) (s1 : Int32) (s2 : Int32) (h : F_Txm_look_163 rc_45 σ v1 v6 v8 s1 s2 = some o) {H : Heap} {locs : List Loc} {ls : Array Slot} (w : Wd s D A (wdM τ σ ad) H locs) (hl : lv_has ls 11 [(0, .ref (ad 61)), (1, .int v1), (6, .long v6), (8, .int v8)]) : W p l e R s m args below meth c H locs 0 0 (QV below args s A D τ (wdM τ o ad)) (F0 m 163 ls [.int s2, .int s1, .ref (ad 8)]) := by
  obtain ⟨c19, h⟩ := ck_some h
  obtain ⟨σ20, e_σ20, h⟩ := lt_some h
  refine iasM E w (k := 8) (by decide) c19 e_σ20 d_Txm_look_163 (fun H locs w => ?_)
  obtain ⟨y21, e_y21, h⟩ := lt_some h
  refine lv_iinc (v := y21) (lv' := [(8, .int y21), (0, .ref (ad 61)), (1, .int v1), (6, .long v6)]) E.x E.b d_Txm_look_164 hl (k := 3) rfl (e_y21) (by decide) rfl (fun ls hl => ?_)
  refine lv_goto (tgt := 45) E.x E.b d_Txm_look_167 (by decide) ?_
  exact hr_45 σ20 v1 v6 y21 _ _ _ h w (lv_sub hl [1, 2, 3, 0] rfl)
def L_Txm_look_65 (rc_45 : Sg → Int32 → Int64 → Int32 → Option (Sg)) : Nat → Sg → Int32 → Int64 → Int32 → Int32 → Int32 → Option (Sg)
  | 0, _, _, _, _, _, _ => none
  | n + 1, σ, v1, v6, v8, v9, v10 => if v10 < 0 then (ck (inb v8 4) (lt ((1 <<< ((σ.2.2.1 13 v8.toNatClampNeg) &&& 31)) - 1) (fun y23 => if y23 = 0 then (if v8 = 3 then (F_Txm_look_163 rc_45 σ v1 v6 v8 v8 65536) else (F_Txm_look_163 rc_45 σ v1 v6 v8 v8 0)) else (ck (¬ (2 * y23) = 0) (F_Txm_look_163 rc_45 σ v1 v6 v8 v8 (((131072 * v9) + y23) / (2 * y23))))))) else (ck (inb (8 * v1) 32) (ck (inb v8 4) (bd (F_Txm_bit σ (σ.2.2.1 5 (8 * v1).toNatClampNeg) ((v6 + ((σ.2.2.1 12 v8.toNatClampNeg).toInt64)) + v10.toInt64)) (fun o27 => lt (((2 : Int32) * v9) + o27) (fun y28 => lt (v10 + (-1)) (fun y29 => L_Txm_look_65 rc_45 n σ v1 v6 v8 y28 y29))))))
set_option maxRecDepth 10000 in
set_option maxHeartbeats 4000000 in
theorem lt_Txm_look_65 {p : Program} {l : Launch} {e : Env} {R : Room} {s : State} {m : MethodId} {args : Array Value} {below : List Frame} {meth : Method} {c : Code} {D : va_G} {τ : ClassId × ClassId × ClassId} {B : Nat} {A : Nat → Prop} {ad : Nat → Nat} (E : Cx p R s m args meth c prog_19_method_14_code 11 "DrawingMachineModel$TextureUnitsModel" 3 D τ B A) (hret : meth.sig.returnType = none) (o : Sg) (rc_45 : Sg → Int32 → Int64 → Int32 → Option (Sg)) (hr_45 : ∀ (σ : Sg) (v1 : Int32) (v6 : Int64) (v8 : Int32) (H : Heap) (locs : List Loc) (ls : Array Slot), rc_45 σ v1 v6 v8 = some o → Wd s D A (wdM τ σ ad) H locs → lv_has ls 11 [(0, .ref (ad 61)), (1, .int v1), (6, .long v6), (8, .int v8)] → W p l e R s m args below meth c H locs 0 0 (QV below args s A D τ (wdM τ o ad)) (F0 m 45 ls [])) : ∀ (n : Nat) (σ : Sg) (v1 : Int32) (v6 : Int64) (v8 : Int32) (v9 : Int32) (v10 : Int32) (H : Heap) (locs : List Loc) (ls : Array Slot), L_Txm_look_65 rc_45 n σ v1 v6 v8 v9 v10 = some o → Wd s D A (wdM τ σ ad) H locs → lv_has ls 11 [(0, .ref (ad 61)), (1, .int v1), (6, .long v6), (8, .int v8), (9, .int v9), (10, .int v10)] → W p l e R s m args below meth c H locs 0 0 (QV below args s A D τ (wdM τ o ad)) (F0 m 65 ls []) := by
  intro n
  induction n with
  | zero =>
    intro σ v1 v6 v8 v9 v10 H locs ls h w hl
    cases h
  | succ n hr_65 =>
    intro σ v1 v6 v8 v9 v10 H locs ls h w hl
    refine lv_iload E.x E.b d_Txm_look_65 (lv_at hl 5 rfl) ?_
    refine lv_if_lt (tgt := 111) E.x E.b d_Txm_look_67 (by decide) (fun c => ?_) (fun c => ?_)
    ·
      replace h := ifT c h
      refine lv_iconst (v := 1) E.x E.b d_Txm_look_111 (by decide) ?_
      refine lv_aload_n E.x E.b d_Txm_look_112 rfl (lv_at hl 0 rfl) ?_
      refine gM_Txm_size E w k1523 d_Txm_look_113 ?_
      refine lv_iload E.x E.b d_Txm_look_116 (lv_at hl 3 rfl) ?_
      obtain ⟨c22, h⟩ := ck_some h
      refine ialM E w (k := 13) (by decide) c22 d_Txm_look_118 ?_
      refine lv_ishl E.x E.b d_Txm_look_119 ?_
      refine lv_iconst (v := 1) E.x E.b d_Txm_look_120 (by decide) ?_
      refine lv_isub E.x E.b d_Txm_look_121 ?_
      obtain ⟨y23, e_y23, h⟩ := lt_some h
      refine wi_e (v := y23) e_y23 ?_
      refine lv_istore (lv' := [(10, .int y23), (0, .ref (ad 61)), (1, .int v1), (6, .long v6), (8, .int v8), (9, .int v9)]) E.x E.b d_Txm_look_122 hl (by decide) rfl (fun ls hl => ?_)
      refine lv_aload_n E.x E.b d_Txm_look_124 rfl (lv_at hl 1 rfl) ?_
      refine gM_Txm_found E w k1518 d_Txm_look_125 ?_
      refine lv_iload E.x E.b d_Txm_look_128 (lv_at hl 4 rfl) ?_
      refine lv_iload E.x E.b d_Txm_look_130 (lv_at hl 0 rfl) ?_
      refine lv_if_ne (tgt := 150) E.x E.b d_Txm_look_132 (by decide) (fun c => ?_) (fun c => ?_)
      ·
        replace h := ifF c h
        refine lv_ldc (v := 131072) E.x E.b E.o (E.w _ k2290) d_Txm_look_150 ?_
        refine lv_iload E.x E.b d_Txm_look_152 (lv_at hl 5 rfl) ?_
        refine lv_imul E.x E.b d_Txm_look_154 ?_
        refine lv_iload E.x E.b d_Txm_look_155 (lv_at hl 0 rfl) ?_
        refine lv_iadd E.x E.b d_Txm_look_157 ?_
        refine lv_iconst (v := 2) E.x E.b d_Txm_look_158 (by decide) ?_
        refine lv_iload E.x E.b d_Txm_look_159 (lv_at hl 0 rfl) ?_
        refine lv_imul E.x E.b d_Txm_look_161 ?_
        obtain ⟨c24, h⟩ := ck_some h
        refine lv_idiv E.x E.b d_Txm_look_162 c24 ?_
        exact bt_Txm_look_163 E hret o rc_45 hr_45 σ v1 v6 v8 v8 (((131072 * v9) + y23) / (2 * y23)) h w (lv_sub hl [1, 2, 3, 4] rfl)
      ·
        replace h := ifT c h
        refine lv_iload E.x E.b d_Txm_look_135 (lv_at hl 4 rfl) ?_
        refine lv_iconst (v := 3) E.x E.b d_Txm_look_137 (by decide) ?_
        refine lv_icmp_ne (tgt := 146) E.x E.b d_Txm_look_138 (by decide) (fun c => ?_) (fun c => ?_)
        ·
          replace h := ifF c h
          refine lv_iconst (v := 0) E.x E.b d_Txm_look_146 (by decide) ?_
          refine lv_goto (tgt := 163) E.x E.b d_Txm_look_147 (by decide) ?_
          exact bt_Txm_look_163 E hret o rc_45 hr_45 σ v1 v6 v8 v8 0 h w (lv_sub hl [1, 2, 3, 4] rfl)
        ·
          replace h := ifT c h
          refine lv_ldc (v := 65536) E.x E.b E.o (E.w _ k2244) d_Txm_look_141 ?_
          refine lv_goto (tgt := 163) E.x E.b d_Txm_look_143 (by decide) ?_
          exact bt_Txm_look_163 E hret o rc_45 hr_45 σ v1 v6 v8 v8 65536 h w (lv_sub hl [1, 2, 3, 4] rfl)
    ·
      replace h := ifF c h
      refine lv_iconst (v := 2) E.x E.b d_Txm_look_70 (by decide) ?_
      refine lv_iload E.x E.b d_Txm_look_71 (lv_at hl 4 rfl) ?_
      refine lv_imul E.x E.b d_Txm_look_73 ?_
      refine lv_aload_n E.x E.b d_Txm_look_74 rfl (lv_at hl 0 rfl) ?_
      refine lv_aload_n E.x E.b d_Txm_look_75 rfl (lv_at hl 0 rfl) ?_
      refine gM_Txm_units E w k1515 d_Txm_look_76 ?_
      refine lv_bipush (v := 8) E.x E.b d_Txm_look_79 (by decide) ?_
      refine lv_iload_n E.x E.b d_Txm_look_81 rfl (lv_at hl 1 rfl) ?_
      refine lv_imul E.x E.b d_Txm_look_82 ?_
      obtain ⟨c25, h⟩ := ck_some h
      refine ialM E w (k := 5) (by decide) c25 d_Txm_look_83 ?_
      refine lv_lload E.x E.b d_Txm_look_84 (lv_at hl 2 rfl) ?_
      refine lv_aload_n E.x E.b d_Txm_look_86 rfl (lv_at hl 0 rfl) ?_
      refine gM_Txm_first E w k1522 d_Txm_look_87 ?_
      refine lv_iload E.x E.b d_Txm_look_90 (lv_at hl 3 rfl) ?_
      obtain ⟨c26, h⟩ := ck_some h
      refine ialM E w (k := 12) (by decide) c26 d_Txm_look_92 ?_
      refine lv_i2l (v := (σ.2.2.1 12 v8.toNatClampNeg).toInt64) E.x E.b d_Txm_look_93 rfl ?_
      refine lv_ladd E.x E.b d_Txm_look_94 ?_
      refine lv_iload E.x E.b d_Txm_look_95 (lv_at hl 5 rfl) ?_
      refine lv_i2l (v := v10.toInt64) E.x E.b d_Txm_look_97 rfl ?_
      refine lv_ladd E.x E.b d_Txm_look_98 ?_
      obtain ⟨o27, h_o27, h⟩ := bd_some h
      refine clV_Txm_bit E w (x0 := (σ.2.2.1 5 (8 * v1).toNatClampNeg)) (x1 := ((v6 + ((σ.2.2.1 12 v8.toNatClampNeg).toInt64)) + v10.toInt64)) h_o27 k2284 (by decide) hl.1 (Nat.le_of_ble_eq_true rfl) d_Txm_look_99 (fun H locs w => ?_)
      refine lv_iadd E.x E.b d_Txm_look_102 ?_
      obtain ⟨y28, e_y28, h⟩ := lt_some h
      refine wi_e (v := y28) e_y28 ?_
      refine lv_istore (lv' := [(9, .int y28), (0, .ref (ad 61)), (1, .int v1), (6, .long v6), (8, .int v8), (10, .int v10)]) E.x E.b d_Txm_look_103 hl (by decide) rfl (fun ls hl => ?_)
      obtain ⟨y29, e_y29, h⟩ := lt_some h
      refine lv_iinc (v := y29) (lv' := [(10, .int y29), (9, .int y28), (0, .ref (ad 61)), (1, .int v1), (6, .long v6), (8, .int v8)]) E.x E.b d_Txm_look_105 hl (k := 5) rfl (e_y29) (by decide) rfl (fun ls hl => ?_)
      refine lv_goto (tgt := 65) E.x E.b d_Txm_look_108 (by decide) ?_
      exact hr_65 σ v1 v6 v8 y28 y29 _ _ _ h w (lv_sub hl [2, 3, 4, 5, 1, 0] rfl)
def L_Txm_look_45 : Nat → Sg → Int32 → Int64 → Int32 → Option (Sg)
  | 0, _, _, _, _ => none
  | n + 1, σ, v1, v6, v8 => if 4 ≤ v8 then (some σ) else (ck (inb v8 4) (lt ((σ.2.2.1 13 v8.toNatClampNeg) - 1) (fun y31 => L_Txm_look_65 (L_Txm_look_45 n) 100000 σ v1 v6 v8 0 y31)))
set_option maxRecDepth 10000 in
set_option maxHeartbeats 4000000 in
theorem lt_Txm_look_45 {p : Program} {l : Launch} {e : Env} {R : Room} {s : State} {m : MethodId} {args : Array Value} {below : List Frame} {meth : Method} {c : Code} {D : va_G} {τ : ClassId × ClassId × ClassId} {B : Nat} {A : Nat → Prop} {ad : Nat → Nat} (E : Cx p R s m args meth c prog_19_method_14_code 11 "DrawingMachineModel$TextureUnitsModel" 3 D τ B A) (hret : meth.sig.returnType = none) (o : Sg) : ∀ (n : Nat) (σ : Sg) (v1 : Int32) (v6 : Int64) (v8 : Int32) (H : Heap) (locs : List Loc) (ls : Array Slot), L_Txm_look_45 n σ v1 v6 v8 = some o → Wd s D A (wdM τ σ ad) H locs → lv_has ls 11 [(0, .ref (ad 61)), (1, .int v1), (6, .long v6), (8, .int v8)] → W p l e R s m args below meth c H locs 0 0 (QV below args s A D τ (wdM τ o ad)) (F0 m 45 ls []) := by
  intro n
  induction n with
  | zero =>
    intro σ v1 v6 v8 H locs ls h w hl
    cases h
  | succ n hr_45 =>
    intro σ v1 v6 v8 H locs ls h w hl
    refine lv_iload E.x E.b d_Txm_look_45 (lv_at hl 3 rfl) ?_
    refine lv_iconst (v := 4) E.x E.b d_Txm_look_47 (by decide) ?_
    refine lv_icmp_ge (tgt := 170) E.x E.b d_Txm_look_48 (by decide) (fun c => ?_) (fun c => ?_)
    ·
      replace h := ifT c h
      obtain rfl := Option.some.inj h
      exact rt_v E w hret d_Txm_look_170
    ·
      replace h := ifF c h
      refine lv_iconst (v := 0) E.x E.b d_Txm_look_51 (by decide) ?_
      refine lv_istore (lv' := [(9, .int 0), (0, .ref (ad 61)), (1, .int v1), (6, .long v6), (8, .int v8)]) E.x E.b d_Txm_look_52 hl (by decide) rfl (fun ls hl => ?_)
      refine lv_aload_n E.x E.b d_Txm_look_54 rfl (lv_at hl 1 rfl) ?_
      refine gM_Txm_size E w k1523 d_Txm_look_55 ?_
      refine lv_iload E.x E.b d_Txm_look_58 (lv_at hl 4 rfl) ?_
      obtain ⟨c30, h⟩ := ck_some h
      refine ialM E w (k := 13) (by decide) c30 d_Txm_look_60 ?_
      refine lv_iconst (v := 1) E.x E.b d_Txm_look_61 (by decide) ?_
      refine lv_isub E.x E.b d_Txm_look_62 ?_
      obtain ⟨y31, e_y31, h⟩ := lt_some h
      refine wi_e (v := y31) e_y31 ?_
      refine lv_istore (lv' := [(10, .int y31), (9, .int 0), (0, .ref (ad 61)), (1, .int v1), (6, .long v6), (8, .int v8)]) E.x E.b d_Txm_look_63 hl (by decide) rfl (fun ls hl => ?_)
      exact lt_Txm_look_65 E hret o (L_Txm_look_45 n) hr_45 100000 σ v1 v6 v8 0 y31 _ _ _ h w (lv_sub hl [2, 3, 4, 5, 1, 0] rfl)
def F_Txm_look (σ : Sg) (x0 : Int32) (x1 : Int32) (x2 : Int32) (x3 : Int32) : Option (Sg) := ck (inb ((8 * x0) + 4) 32) (bd (F_Txm_layOut σ (σ.2.2.1 5 ((8 * x0) + 4).toNatClampNeg)) (fun o33 => bd (F_Txm_ahead o33.1 x0 x1) (fun o34 => bd (F_Txm_wide o33.1 x0 x1) (fun o35 => lt ((((o34 + (x3 * o35)) + x2).toInt64) * o33.2.toInt64) (fun y36 => L_Txm_look_45 100000 o33.1 x0 y36 0)))))
set_option maxRecDepth 10000 in
set_option maxHeartbeats 4000000 in
theorem c_Txm_look (l : Launch) (D : va_G) (τ : ClassId × ClassId × ClassId) (B : Nat) (σ : Sg) (ad : Nat → Nat) (x0 : Int32) (x1 : Int32) (x2 : Int32) (x3 : Int32) (o : Sg) (h : F_Txm_look σ x0 x1 x2 x3 = some o) : MV l y_Txm_look (Cond.code y_Txm_look prog_19_method_14_code 11 none) 3 D τ B [.ref (ad 61), .int x0, .int x1, .int x2, .int x3] (wdM τ σ ad) (wdM τ o ad) := by
  refine en_v (by decide) (Nat.le_of_ble_eq_true rfl) ?_
  intro p e R s m args below meth c H locs ls A E hret w hl
  have E : Cx p R s m args meth c prog_19_method_14_code 11 "DrawingMachineModel$TextureUnitsModel" 3 D τ B A := E
  have hl : lv_has ls 11 [(0, .ref (ad 61)), (1, .int x0), (2, .int x1), (3, .int x2), (4, .int x3)] := hl
  refine lv_aload_n E.x E.b d_Txm_look_0 rfl (lv_at hl 0 rfl) ?_
  refine lv_aload_n E.x E.b d_Txm_look_1 rfl (lv_at hl 0 rfl) ?_
  refine gM_Txm_units E w k1515 d_Txm_look_2 ?_
  refine lv_bipush (v := 8) E.x E.b d_Txm_look_5 (by decide) ?_
  refine lv_iload_n E.x E.b d_Txm_look_7 rfl (lv_at hl 1 rfl) ?_
  refine lv_imul E.x E.b d_Txm_look_8 ?_
  refine lv_iconst (v := 4) E.x E.b d_Txm_look_9 (by decide) ?_
  refine lv_iadd E.x E.b d_Txm_look_10 ?_
  obtain ⟨c32, h⟩ := ck_some h
  refine ialM E w (k := 5) (by decide) c32 d_Txm_look_11 ?_
  obtain ⟨o33, h_o33, h⟩ := bd_some h
  refine clV_Txm_layOut E w (x0 := (σ.2.2.1 5 ((8 * x0) + 4).toNatClampNeg)) h_o33 k2272 (by decide) hl.1 (Nat.le_of_ble_eq_true rfl) d_Txm_look_12 (fun H locs w => ?_)
  refine lv_istore (lv' := [(5, .int o33.2), (0, .ref (ad 61)), (1, .int x0), (2, .int x1), (3, .int x2), (4, .int x3)]) E.x E.b d_Txm_look_15 hl (by decide) rfl (fun ls hl => ?_)
  refine lv_aload_n E.x E.b d_Txm_look_17 rfl (lv_at hl 1 rfl) ?_
  refine lv_iload_n E.x E.b d_Txm_look_18 rfl (lv_at hl 2 rfl) ?_
  refine lv_iload_n E.x E.b d_Txm_look_19 rfl (lv_at hl 3 rfl) ?_
  obtain ⟨o34, h_o34, h⟩ := bd_some h
  refine clV_Txm_ahead E w (x0 := x0) (x1 := x1) h_o34 k2280 (by decide) hl.1 (Nat.le_of_ble_eq_true rfl) d_Txm_look_20 (fun H locs w => ?_)
  refine lv_iload E.x E.b d_Txm_look_23 (lv_at hl 5 rfl) ?_
  refine lv_aload_n E.x E.b d_Txm_look_25 rfl (lv_at hl 1 rfl) ?_
  refine lv_iload_n E.x E.b d_Txm_look_26 rfl (lv_at hl 2 rfl) ?_
  refine lv_iload_n E.x E.b d_Txm_look_27 rfl (lv_at hl 3 rfl) ?_
  obtain ⟨o35, h_o35, h⟩ := bd_some h
  refine clV_Txm_wide E w (x0 := x0) (x1 := x1) h_o35 k2257 (by decide) hl.1 (Nat.le_of_ble_eq_true rfl) d_Txm_look_28 (fun H locs w => ?_)
  refine lv_imul E.x E.b d_Txm_look_31 ?_
  refine lv_iadd E.x E.b d_Txm_look_32 ?_
  refine lv_iload_n E.x E.b d_Txm_look_33 rfl (lv_at hl 4 rfl) ?_
  refine lv_iadd E.x E.b d_Txm_look_34 ?_
  refine lv_i2l (v := ((o34 + (x3 * o35)) + x2).toInt64) E.x E.b d_Txm_look_35 rfl ?_
  refine lv_iload E.x E.b d_Txm_look_36 (lv_at hl 0 rfl) ?_
  refine lv_i2l (v := o33.2.toInt64) E.x E.b d_Txm_look_38 rfl ?_
  refine lv_lmul E.x E.b d_Txm_look_39 ?_
  obtain ⟨y36, e_y36, h⟩ := lt_some h
  refine wl_e (v := y36) e_y36 ?_
  refine lv_lstore (lv' := [(6, .long y36), (5, .int o33.2), (0, .ref (ad 61)), (1, .int x0), (2, .int x1), (3, .int x2), (4, .int x3)]) E.x E.b d_Txm_look_40 hl (by decide) rfl (fun ls hl => ?_)
  refine lv_iconst (v := 0) E.x E.b d_Txm_look_42 (by decide) ?_
  refine lv_istore (lv' := [(8, .int 0), (6, .long y36), (5, .int o33.2), (0, .ref (ad 61)), (1, .int x0), (2, .int x1), (3, .int x2), (4, .int x3)]) E.x E.b d_Txm_look_43 hl (by decide) rfl (fun ls hl => ?_)
  exact lt_Txm_look_45 E hret o 100000 o33.1 x0 y36 0 _ _ _ h w (lv_sub hl [3, 4, 1, 0] rfl)
theorem clV_Txm_look {p : Program} {l : Launch} {e : Env} {R : Room} {s : State} {m : MethodId} {args : Array Value} {below : List Frame} {meth : Method} {c : Code} {H : Heap} {locs : List Loc} {Q : State → Prop} {cc : ByteArray} {nL pc lev : Nat} {own : String} {D : va_G} {τ : ClassId × ClassId × ClassId} {B : Nat} {A : Nat → Prop} {σ : Sg} {ad : Nat → Nat} {ls : Array Slot} {rest : List Value} (E : Cx p R s m args meth c cc nL own lev D τ B A) (w : Wd s D A (wdM τ σ ad) H locs) {x0 : Int32} {x1 : Int32} {x2 : Int32} {x3 : Int32} {o : Sg} (h : F_Txm_look σ x0 x1 x2 x3 = some o) {index : Nat} (hlk : Cond.methodLink own index y_Txm_look ∈ tw) (hlev : 3 < lev) (hsz : ls.size = nL) (hr : (rest.map fun v => v.category).sum ≤ 8) (hd : decode cc pc = .ok (.invokevirtual index, 3)) (kk : ∀ (H1 : Heap) (locs1 : List Loc), Wd s D A (wdM τ o ad) H1 locs1 → W p l e R s m args below meth c H1 locs1 0 0 Q (F0 m (pc + 3) ls (rest))) : W p l e R s m args below meth c H locs 0 0 Q (F0 m pc ls (.int x3 :: .int x2 :: .int x1 :: .int x0 :: .ref (ad 61) :: rest)) :=
  cr_v w E.C (va_runV (As := [.int x0, .int x1, .int x2, .int x3]) (rest := rest) E.fix (c_Txm_look l D τ B σ ad x0 x1 x2 x3 o h H.size) (cwV 4 E.w (tw_pre (tw_good k2271) (l := [_, _, _, _]) (List.forall_mem_cons.mpr ⟨hlk, List.forall_mem_cons.mpr ⟨k2270, List.forall_mem_cons.mpr ⟨ks88, List.forall_mem_cons.mpr ⟨k16, fun _ h => absurd h List.not_mem_nil⟩⟩⟩⟩)) rfl rfl rfl (by decide +kernel) (E.rm hlev (by decide))) (wd_preV w E.C [.int x0, .int x1, .int x2, .int x3] rcM_Txm rfl) rfl rfl hsz rfl (lv_room hr) hd ⟨Nat.zero_le _, Nat.zero_le _⟩) kk

theorem d_Txm_wrap_0 : decode prog_19_method_15_code 0 = .ok (.iload_n 2, 1) := by decide +kernel
theorem d_Txm_wrap_1 : decode prog_19_method_15_code 1 = .ok (.iconst 2, 1) := by decide +kernel
theorem d_Txm_wrap_2 : decode prog_19_method_15_code 2 = .ok (.if_icmp .ne 9, 3) := by decide +kernel
theorem d_Txm_wrap_5 : decode prog_19_method_15_code 5 = .ok (.iconst 2, 1) := by decide +kernel
theorem d_Txm_wrap_6 : decode prog_19_method_15_code 6 = .ok (.iload_n 1, 1) := by decide +kernel
theorem d_Txm_wrap_7 : decode prog_19_method_15_code 7 = .ok (.imul, 1) := by decide +kernel
theorem d_Txm_wrap_8 : decode prog_19_method_15_code 8 = .ok (.goto 4, 3) := by decide +kernel
theorem d_Txm_wrap_11 : decode prog_19_method_15_code 11 = .ok (.iload_n 1, 1) := by decide +kernel
theorem d_Txm_wrap_12 : decode prog_19_method_15_code 12 = .ok (.istore_n 3, 1) := by decide +kernel
theorem d_Txm_wrap_13 : decode prog_19_method_15_code 13 = .ok (.iload_n 0, 1) := by decide +kernel
theorem d_Txm_wrap_14 : decode prog_19_method_15_code 14 = .ok (.iload_n 3, 1) := by decide +kernel
theorem d_Txm_wrap_15 : decode prog_19_method_15_code 15 = .ok (.irem, 1) := by decide +kernel
theorem d_Txm_wrap_16 : decode prog_19_method_15_code 16 = .ok (.iload_n 3, 1) := by decide +kernel
theorem d_Txm_wrap_17 : decode prog_19_method_15_code 17 = .ok (.iadd, 1) := by decide +kernel
theorem d_Txm_wrap_18 : decode prog_19_method_15_code 18 = .ok (.iload_n 3, 1) := by decide +kernel
theorem d_Txm_wrap_19 : decode prog_19_method_15_code 19 = .ok (.irem, 1) := by decide +kernel
theorem d_Txm_wrap_20 : decode prog_19_method_15_code 20 = .ok (.istore 4, 2) := by decide +kernel
theorem d_Txm_wrap_22 : decode prog_19_method_15_code 22 = .ok (.iload_n 2, 1) := by decide +kernel
theorem d_Txm_wrap_23 : decode prog_19_method_15_code 23 = .ok (.tableswitch 69 0 2 #[25, 28, 49], 25) := by decide +kernel
theorem d_Txm_wrap_48 : decode prog_19_method_15_code 48 = .ok (.iload 4, 2) := by decide +kernel
theorem d_Txm_wrap_50 : decode prog_19_method_15_code 50 = .ok (.ireturn, 1) := by decide +kernel
theorem d_Txm_wrap_51 : decode prog_19_method_15_code 51 = .ok (.iload_n 0, 1) := by decide +kernel
theorem d_Txm_wrap_52 : decode prog_19_method_15_code 52 = .ok (.ifCond .ge 7, 3) := by decide +kernel
theorem d_Txm_wrap_55 : decode prog_19_method_15_code 55 = .ok (.iconst 0, 1) := by decide +kernel
theorem d_Txm_wrap_56 : decode prog_19_method_15_code 56 = .ok (.goto 15, 3) := by decide +kernel
theorem d_Txm_wrap_59 : decode prog_19_method_15_code 59 = .ok (.iload_n 0, 1) := by decide +kernel
theorem d_Txm_wrap_60 : decode prog_19_method_15_code 60 = .ok (.iload_n 1, 1) := by decide +kernel
theorem d_Txm_wrap_61 : decode prog_19_method_15_code 61 = .ok (.if_icmp .lt 9, 3) := by decide +kernel
theorem d_Txm_wrap_64 : decode prog_19_method_15_code 64 = .ok (.iload_n 1, 1) := by decide +kernel
theorem d_Txm_wrap_65 : decode prog_19_method_15_code 65 = .ok (.iconst 1, 1) := by decide +kernel
theorem d_Txm_wrap_66 : decode prog_19_method_15_code 66 = .ok (.isub, 1) := by decide +kernel
theorem d_Txm_wrap_67 : decode prog_19_method_15_code 67 = .ok (.goto 4, 3) := by decide +kernel
theorem d_Txm_wrap_70 : decode prog_19_method_15_code 70 = .ok (.iload_n 0, 1) := by decide +kernel
theorem d_Txm_wrap_71 : decode prog_19_method_15_code 71 = .ok (.ireturn, 1) := by decide +kernel
theorem d_Txm_wrap_72 : decode prog_19_method_15_code 72 = .ok (.iload 4, 2) := by decide +kernel
theorem d_Txm_wrap_74 : decode prog_19_method_15_code 74 = .ok (.iload_n 1, 1) := by decide +kernel
theorem d_Txm_wrap_75 : decode prog_19_method_15_code 75 = .ok (.if_icmp .ge 8, 3) := by decide +kernel
theorem d_Txm_wrap_78 : decode prog_19_method_15_code 78 = .ok (.iload 4, 2) := by decide +kernel
theorem d_Txm_wrap_80 : decode prog_19_method_15_code 80 = .ok (.goto 11, 3) := by decide +kernel
theorem d_Txm_wrap_83 : decode prog_19_method_15_code 83 = .ok (.iconst 2, 1) := by decide +kernel
theorem d_Txm_wrap_84 : decode prog_19_method_15_code 84 = .ok (.iload_n 1, 1) := by decide +kernel
theorem d_Txm_wrap_85 : decode prog_19_method_15_code 85 = .ok (.imul, 1) := by decide +kernel
theorem d_Txm_wrap_86 : decode prog_19_method_15_code 86 = .ok (.iconst 1, 1) := by decide +kernel
theorem d_Txm_wrap_87 : decode prog_19_method_15_code 87 = .ok (.isub, 1) := by decide +kernel
theorem d_Txm_wrap_88 : decode prog_19_method_15_code 88 = .ok (.iload 4, 2) := by decide +kernel
theorem d_Txm_wrap_90 : decode prog_19_method_15_code 90 = .ok (.isub, 1) := by decide +kernel
theorem d_Txm_wrap_91 : decode prog_19_method_15_code 91 = .ok (.ireturn, 1) := by decide +kernel
theorem d_Txm_wrap_92 : decode prog_19_method_15_code 92 = .ok (.iload_n 0, 1) := by decide +kernel
theorem d_Txm_wrap_93 : decode prog_19_method_15_code 93 = .ok (.ifCond .lt 12, 3) := by decide +kernel
theorem d_Txm_wrap_96 : decode prog_19_method_15_code 96 = .ok (.iload_n 0, 1) := by decide +kernel
theorem d_Txm_wrap_97 : decode prog_19_method_15_code 97 = .ok (.iload_n 1, 1) := by decide +kernel
theorem d_Txm_wrap_98 : decode prog_19_method_15_code 98 = .ok (.if_icmp .ge 7, 3) := by decide +kernel
theorem d_Txm_wrap_101 : decode prog_19_method_15_code 101 = .ok (.iload_n 0, 1) := by decide +kernel
theorem d_Txm_wrap_102 : decode prog_19_method_15_code 102 = .ok (.goto 4, 3) := by decide +kernel
theorem d_Txm_wrap_105 : decode prog_19_method_15_code 105 = .ok (.iconst (-1), 1) := by decide +kernel
theorem d_Txm_wrap_106 : decode prog_19_method_15_code 106 = .ok (.ireturn, 1) := by decide +kernel
def F_Txm_wrap_106  (s0 : Int32) : Option (Int32) := some s0
set_option maxRecDepth 10000 in
set_option maxHeartbeats 4000000 in
theorem bt_Txm_wrap_106 {p : Program} {l : Launch} {e : Env} {R : Room} {s : State} {m : MethodId} {args : Array Value} {below : List Frame} {meth : Method} {c : Code} {D : va_G} {τ : ClassId × ClassId × ClassId} {B : Nat} {A : Nat → Prop} {ad : Nat → Nat} {σ0 : Sg} (E : Cx p R s m args meth c prog_19_method_15_code 5 "DrawingMachineModel$TextureUnitsModel" 0 D τ B A) (hret : meth.sig.returnType = (some .int)) (o : Int32) (s0 : Int32) (h : F_Txm_wrap_106 s0 = some o) {H : Heap} {locs : List Loc} {ls : Array Slot} (w : Wd s D A (wdM τ σ0 ad) H locs) (hl : lv_has ls 5 []) : W p l e R s m args below meth c H locs 0 0 (QI below args s A D τ (wdM τ σ0 ad) o) (F0 m 106 ls [.int s0]) := by
  obtain rfl := Option.some.inj h
  exact rt_i E w hret d_Txm_wrap_106
def F_Txm_wrap_105  : Option (Int32) := F_Txm_wrap_106 (-1)
set_option maxRecDepth 10000 in
set_option maxHeartbeats 4000000 in
theorem bt_Txm_wrap_105 {p : Program} {l : Launch} {e : Env} {R : Room} {s : State} {m : MethodId} {args : Array Value} {below : List Frame} {meth : Method} {c : Code} {D : va_G} {τ : ClassId × ClassId × ClassId} {B : Nat} {A : Nat → Prop} {ad : Nat → Nat} {σ0 : Sg} (E : Cx p R s m args meth c prog_19_method_15_code 5 "DrawingMachineModel$TextureUnitsModel" 0 D τ B A) (hret : meth.sig.returnType = (some .int)) (o : Int32) (h : F_Txm_wrap_105 = some o) {H : Heap} {locs : List Loc} {ls : Array Slot} (w : Wd s D A (wdM τ σ0 ad) H locs) (hl : lv_has ls 5 []) : W p l e R s m args below meth c H locs 0 0 (QI below args s A D τ (wdM τ σ0 ad) o) (F0 m 105 ls []) := by
  refine lv_iconst (v := (-1)) E.x E.b d_Txm_wrap_105 (by decide) ?_
  exact bt_Txm_wrap_106 E hret o (-1) h w (lv_sub hl [] rfl)
def F_Txm_wrap_91  (s0 : Int32) : Option (Int32) := some s0
set_option maxRecDepth 10000 in
set_option maxHeartbeats 4000000 in
theorem bt_Txm_wrap_91 {p : Program} {l : Launch} {e : Env} {R : Room} {s : State} {m : MethodId} {args : Array Value} {below : List Frame} {meth : Method} {c : Code} {D : va_G} {τ : ClassId × ClassId × ClassId} {B : Nat} {A : Nat → Prop} {ad : Nat → Nat} {σ0 : Sg} (E : Cx p R s m args meth c prog_19_method_15_code 5 "DrawingMachineModel$TextureUnitsModel" 0 D τ B A) (hret : meth.sig.returnType = (some .int)) (o : Int32) (s0 : Int32) (h : F_Txm_wrap_91 s0 = some o) {H : Heap} {locs : List Loc} {ls : Array Slot} (w : Wd s D A (wdM τ σ0 ad) H locs) (hl : lv_has ls 5 []) : W p l e R s m args below meth c H locs 0 0 (QI below args s A D τ (wdM τ σ0 ad) o) (F0 m 91 ls [.int s0]) := by
  obtain rfl := Option.some.inj h
  exact rt_i E w hret d_Txm_wrap_91
def F_Txm_wrap_71  (s0 : Int32) : Option (Int32) := some s0
set_option maxRecDepth 10000 in
set_option maxHeartbeats 4000000 in
theorem bt_Txm_wrap_71 {p : Program} {l : Launch} {e : Env} {R : Room} {s : State} {m : MethodId} {args : Array Value} {below : List Frame} {meth : Method} {c : Code} {D : va_G} {τ : ClassId × ClassId × ClassId} {B : Nat} {A : Nat → Prop} {ad : Nat → Nat} {σ0 : Sg} (E : Cx p R s m args meth c prog_19_method_15_code 5 "DrawingMachineModel$TextureUnitsModel" 0 D τ B A) (hret : meth.sig.returnType = (some .int)) (o : Int32) (s0 : Int32) (h : F_Txm_wrap_71 s0 = some o) {H : Heap} {locs : List Loc} {ls : Array Slot} (w : Wd s D A (wdM τ σ0 ad) H locs) (hl : lv_has ls 5 []) : W p l e R s m args below meth c H locs 0 0 (QI below args s A D τ (wdM τ σ0 ad) o) (F0 m 71 ls [.int s0]) := by
  obtain rfl := Option.some.inj h
  exact rt_i E w hret d_Txm_wrap_71
def F_Txm_wrap_12  (v0 : Int32) (v1 : Int32) (v2 : Int32) (s0 : Int32) : Option (Int32) := ck (¬ s0 = 0) (ck (¬ s0 = 0) (lt (irem ((irem v0 s0) + s0) s0) (fun y9 => if v2 = 0 then (some y9) else (if v2 = 1 then (if 0 ≤ v0 then (if v0 < v1 then (F_Txm_wrap_71 v0) else (F_Txm_wrap_71 (v1 - 1))) else (F_Txm_wrap_71 0)) else (if v2 = 2 then (if v1 ≤ y9 then (F_Txm_wrap_91 (((2 * v1) - 1) - y9)) else (F_Txm_wrap_91 y9)) else (if v0 < 0 then (F_Txm_wrap_105) else (if v1 ≤ v0 then (F_Txm_wrap_105) else (F_Txm_wrap_106 v0))))))))
set_option maxRecDepth 10000 in
set_option maxHeartbeats 4000000 in
theorem bt_Txm_wrap_12 {p : Program} {l : Launch} {e : Env} {R : Room} {s : State} {m : MethodId} {args : Array Value} {below : List Frame} {meth : Method} {c : Code} {D : va_G} {τ : ClassId × ClassId × ClassId} {B : Nat} {A : Nat → Prop} {ad : Nat → Nat} {σ0 : Sg} (E : Cx p R s m args meth c prog_19_method_15_code 5 "DrawingMachineModel$TextureUnitsModel" 0 D τ B A) (hret : meth.sig.returnType = (some .int)) (o : Int32) (v0 : Int32) (v1 : Int32) (v2 : Int32) (s0 : Int32) (h : F_Txm_wrap_12 v0 v1 v2 s0 = some o) {H : Heap} {locs : List Loc} {ls : Array Slot} (w : Wd s D A (wdM τ σ0 ad) H locs) (hl : lv_has ls 5 [(0, .int v0), (1, .int v1), (2, .int v2)]) : W p l e R s m args below meth c H locs 0 0 (QI below args s A D τ (wdM τ σ0 ad) o) (F0 m 12 ls [.int s0]) := by
  refine lv_istore_n (lv' := [(3, .int s0), (0, .int v0), (1, .int v1), (2, .int v2)]) E.x E.b d_Txm_wrap_12 rfl hl (by decide) rfl (fun ls hl => ?_)
  refine lv_iload_n E.x E.b d_Txm_wrap_13 rfl (lv_at hl 1 rfl) ?_
  refine lv_iload_n E.x E.b d_Txm_wrap_14 rfl (lv_at hl 0 rfl) ?_
  obtain ⟨c7, h⟩ := ck_some h
  refine lv_irem E.x E.b d_Txm_wrap_15 c7 ?_
  refine wi_e (v := irem v0 s0) rfl ?_
  refine lv_iload_n E.x E.b d_Txm_wrap_16 rfl (lv_at hl 0 rfl) ?_
  refine lv_iadd E.x E.b d_Txm_wrap_17 ?_
  refine lv_iload_n E.x E.b d_Txm_wrap_18 rfl (lv_at hl 0 rfl) ?_
  obtain ⟨c8, h⟩ := ck_some h
  refine lv_irem E.x E.b d_Txm_wrap_19 c8 ?_
  refine wi_e (v := irem ((irem v0 s0) + s0) s0) rfl ?_
  obtain ⟨y9, e_y9, h⟩ := lt_some h
  refine wi_e (v := y9) e_y9 ?_
  refine lv_istore (lv' := [(4, .int y9), (3, .int s0), (0, .int v0), (1, .int v1), (2, .int v2)]) E.x E.b d_Txm_wrap_20 hl (by decide) rfl (fun ls hl => ?_)
  refine lv_iload_n E.x E.b d_Txm_wrap_22 rfl (lv_at hl 4 rfl) ?_
  by_cases q10 : v2 = 0
  ·
    replace h := ifT q10 h
    refine wi_e (v := 0) q10 ?_
    refine lv_tableIn (off := 25) (tgt := 48) E.x E.b d_Txm_wrap_23 (by decide) (by decide) (by decide) (by decide) ?_
    refine lv_iload E.x E.b d_Txm_wrap_48 (lv_at hl 0 rfl) ?_
    obtain rfl := Option.some.inj h
    exact rt_i E w hret d_Txm_wrap_50
  replace h := ifF q10 h
  replace q10 := ne_ti (k := 0) (by decide) q10
  by_cases q11 : v2 = 1
  ·
    replace h := ifT q11 h
    refine wi_e (v := 1) q11 ?_
    refine lv_tableIn (off := 28) (tgt := 51) E.x E.b d_Txm_wrap_23 (by decide) (by decide) (by decide) (by decide) ?_
    refine lv_iload_n E.x E.b d_Txm_wrap_51 rfl (lv_at hl 2 rfl) ?_
    refine lv_if_ge (tgt := 59) E.x E.b d_Txm_wrap_52 (by decide) (fun c => ?_) (fun c => ?_)
    ·
      replace h := ifT c h
      refine lv_iload_n E.x E.b d_Txm_wrap_59 rfl (lv_at hl 2 rfl) ?_
      refine lv_iload_n E.x E.b d_Txm_wrap_60 rfl (lv_at hl 3 rfl) ?_
      refine lv_icmp_lt (tgt := 70) E.x E.b d_Txm_wrap_61 (by decide) (fun c => ?_) (fun c => ?_)
      ·
        replace h := ifT c h
        refine lv_iload_n E.x E.b d_Txm_wrap_70 rfl (lv_at hl 2 rfl) ?_
        exact bt_Txm_wrap_71 E hret o v0 h w (lv_sub hl [] rfl)
      ·
        replace h := ifF c h
        refine lv_iload_n E.x E.b d_Txm_wrap_64 rfl (lv_at hl 3 rfl) ?_
        refine lv_iconst (v := 1) E.x E.b d_Txm_wrap_65 (by decide) ?_
        refine lv_isub E.x E.b d_Txm_wrap_66 ?_
        refine lv_goto (tgt := 71) E.x E.b d_Txm_wrap_67 (by decide) ?_
        exact bt_Txm_wrap_71 E hret o (v1 - 1) h w (lv_sub hl [] rfl)
    ·
      replace h := ifF c h
      refine lv_iconst (v := 0) E.x E.b d_Txm_wrap_55 (by decide) ?_
      refine lv_goto (tgt := 71) E.x E.b d_Txm_wrap_56 (by decide) ?_
      exact bt_Txm_wrap_71 E hret o 0 h w (lv_sub hl [] rfl)
  replace h := ifF q11 h
  replace q11 := ne_ti (k := 1) (by decide) q11
  by_cases q12 : v2 = 2
  ·
    replace h := ifT q12 h
    refine wi_e (v := 2) q12 ?_
    refine lv_tableIn (off := 49) (tgt := 72) E.x E.b d_Txm_wrap_23 (by decide) (by decide) (by decide) (by decide) ?_
    refine lv_iload E.x E.b d_Txm_wrap_72 (lv_at hl 0 rfl) ?_
    refine lv_iload_n E.x E.b d_Txm_wrap_74 rfl (lv_at hl 3 rfl) ?_
    refine lv_icmp_ge (tgt := 83) E.x E.b d_Txm_wrap_75 (by decide) (fun c => ?_) (fun c => ?_)
    ·
      replace h := ifT c h
      refine lv_iconst (v := 2) E.x E.b d_Txm_wrap_83 (by decide) ?_
      refine lv_iload_n E.x E.b d_Txm_wrap_84 rfl (lv_at hl 3 rfl) ?_
      refine lv_imul E.x E.b d_Txm_wrap_85 ?_
      refine lv_iconst (v := 1) E.x E.b d_Txm_wrap_86 (by decide) ?_
      refine lv_isub E.x E.b d_Txm_wrap_87 ?_
      refine lv_iload E.x E.b d_Txm_wrap_88 (lv_at hl 0 rfl) ?_
      refine lv_isub E.x E.b d_Txm_wrap_90 ?_
      exact bt_Txm_wrap_91 E hret o (((2 * v1) - 1) - y9) h w (lv_sub hl [] rfl)
    ·
      replace h := ifF c h
      refine lv_iload E.x E.b d_Txm_wrap_78 (lv_at hl 0 rfl) ?_
      refine lv_goto (tgt := 91) E.x E.b d_Txm_wrap_80 (by decide) ?_
      exact bt_Txm_wrap_91 E hret o y9 h w (lv_sub hl [] rfl)
  replace h := ifF q12 h
  replace q12 := ne_ti (k := 2) (by decide) q12
  refine lv_tableOut (tgt := 92) E.x E.b d_Txm_wrap_23 (by omega) (by decide) ?_
  refine lv_iload_n E.x E.b d_Txm_wrap_92 rfl (lv_at hl 2 rfl) ?_
  refine lv_if_lt (tgt := 105) E.x E.b d_Txm_wrap_93 (by decide) (fun c => ?_) (fun c => ?_)
  ·
    replace h := ifT c h
    exact bt_Txm_wrap_105 E hret o h w (lv_sub hl [] rfl)
  ·
    replace h := ifF c h
    refine lv_iload_n E.x E.b d_Txm_wrap_96 rfl (lv_at hl 2 rfl) ?_
    refine lv_iload_n E.x E.b d_Txm_wrap_97 rfl (lv_at hl 3 rfl) ?_
    refine lv_icmp_ge (tgt := 105) E.x E.b d_Txm_wrap_98 (by decide) (fun c => ?_) (fun c => ?_)
    ·
      replace h := ifT c h
      exact bt_Txm_wrap_105 E hret o h w (lv_sub hl [] rfl)
    ·
      replace h := ifF c h
      refine lv_iload_n E.x E.b d_Txm_wrap_101 rfl (lv_at hl 2 rfl) ?_
      refine lv_goto (tgt := 106) E.x E.b d_Txm_wrap_102 (by decide) ?_
      exact bt_Txm_wrap_106 E hret o v0 h w (lv_sub hl [] rfl)
def F_Txm_wrap  (x0 : Int32) (x1 : Int32) (x2 : Int32) : Option (Int32) := if x2 = 2 then (F_Txm_wrap_12 x0 x1 x2 (2 * x1)) else (F_Txm_wrap_12 x0 x1 x2 x1)
set_option maxRecDepth 10000 in
set_option maxHeartbeats 4000000 in
theorem c_Txm_wrap (l : Launch) (D : va_G) (τ : ClassId × ClassId × ClassId) (B : Nat) (σ0 : Sg) (ad : Nat → Nat) (x0 : Int32) (x1 : Int32) (x2 : Int32) (o : Int32) (h : F_Txm_wrap x0 x1 x2 = some o) : MI l y_Txm_wrap (Cond.code y_Txm_wrap prog_19_method_15_code 5 (some .int)) 0 D τ B [.int x0, .int x1, .int x2] (wdM τ σ0 ad) (wdM τ σ0 ad) o := by
  refine en_i (by decide) (Nat.le_of_ble_eq_true rfl) ?_
  intro p e R s m args below meth c H locs ls A E hret w hl
  have E : Cx p R s m args meth c prog_19_method_15_code 5 "DrawingMachineModel$TextureUnitsModel" 0 D τ B A := E
  have hl : lv_has ls 5 [(0, .int x0), (1, .int x1), (2, .int x2)] := hl
  refine lv_iload_n E.x E.b d_Txm_wrap_0 rfl (lv_at hl 2 rfl) ?_
  refine lv_iconst (v := 2) E.x E.b d_Txm_wrap_1 (by decide) ?_
  refine lv_icmp_ne (tgt := 11) E.x E.b d_Txm_wrap_2 (by decide) (fun c => ?_) (fun c => ?_)
  ·
    replace h := ifF c h
    refine lv_iload_n E.x E.b d_Txm_wrap_11 rfl (lv_at hl 1 rfl) ?_
    exact bt_Txm_wrap_12 E hret o x0 x1 x2 x1 h w (lv_sub hl [0, 1, 2] rfl)
  ·
    replace h := ifT c h
    refine lv_iconst (v := 2) E.x E.b d_Txm_wrap_5 (by decide) ?_
    refine lv_iload_n E.x E.b d_Txm_wrap_6 rfl (lv_at hl 1 rfl) ?_
    refine lv_imul E.x E.b d_Txm_wrap_7 ?_
    refine lv_goto (tgt := 12) E.x E.b d_Txm_wrap_8 (by decide) ?_
    exact bt_Txm_wrap_12 E hret o x0 x1 x2 (2 * x1) h w (lv_sub hl [0, 1, 2] rfl)
theorem clS_Txm_wrap {p : Program} {l : Launch} {e : Env} {R : Room} {s : State} {m : MethodId} {args : Array Value} {below : List Frame} {meth : Method} {c : Code} {H : Heap} {locs : List Loc} {Q : State → Prop} {cc : ByteArray} {nL pc lev : Nat} {own : String} {D : va_G} {τ : ClassId × ClassId × ClassId} {B : Nat} {A : Nat → Prop} {σ : Sg} {ad : Nat → Nat} {ls : Array Slot} {rest : List Value} (E : Cx p R s m args meth c cc nL own lev D τ B A) (w : Wd s D A (wdM τ σ ad) H locs) {x0 : Int32} {x1 : Int32} {x2 : Int32} {o : Int32} (h : F_Txm_wrap x0 x1 x2 = some o) {index : Nat} (hlk : Cond.methodLink own index y_Txm_wrap ∈ tw) (hlev : 0 < lev) (hsz : ls.size = nL) (hr : (rest.map fun v => v.category).sum ≤ 8) (hd : decode cc pc = .ok (.invokestatic index, 3)) (kk : ∀ (H1 : Heap) (locs1 : List Loc), Wd s D A (wdM τ σ ad) H1 locs1 → W p l e R s m args below meth c H1 locs1 0 0 Q (F0 m (pc + 3) ls (.int o :: rest))) : W p l e R s m args below meth c H locs 0 0 Q (F0 m pc ls (.int x2 :: .int x1 :: .int x0 :: rest)) :=
  cr_i w E.C (va_runS (As := [.int x0, .int x1, .int x2]) (rest := rest) E.fix (c_Txm_wrap l D τ B σ ad x0 x1 x2 o h H.size) (va_cwS 3 E.w (tw_pre (tw_good k2263) (l := [_, _, _]) (List.forall_mem_cons.mpr ⟨hlk, List.forall_mem_cons.mpr ⟨k2262, List.forall_mem_cons.mpr ⟨k16, fun _ h => absurd h List.not_mem_nil⟩⟩⟩)) rfl rfl rfl (by decide +kernel) (E.rm hlev (by decide))) (wd_pre w E.C [.int x0, .int x1, .int x2]) rfl rfl hsz rfl (lv_room hr) hd ⟨Nat.zero_le _, Nat.zero_le _⟩) kk

theorem d_Txm_wrapped_0 : decode prog_19_method_16_code 0 = .ok (.iload_n 3, 1) := by decide +kernel
theorem d_Txm_wrapped_1 : decode prog_19_method_16_code 1 = .ok (.aload_n 0, 1) := by decide +kernel
theorem d_Txm_wrapped_2 : decode prog_19_method_16_code 2 = .ok (.iload_n 1, 1) := by decide +kernel
theorem d_Txm_wrapped_3 : decode prog_19_method_16_code 3 = .ok (.iload_n 2, 1) := by decide +kernel
theorem d_Txm_wrapped_4 : decode prog_19_method_16_code 4 = .ok (.invokevirtual 56, 3) := by decide +kernel
theorem d_Txm_wrapped_7 : decode prog_19_method_16_code 7 = .ok (.aload_n 0, 1) := by decide +kernel
theorem d_Txm_wrapped_8 : decode prog_19_method_16_code 8 = .ok (.getfield 7, 3) := by decide +kernel
theorem d_Txm_wrapped_11 : decode prog_19_method_16_code 11 = .ok (.bipush 8, 2) := by decide +kernel
theorem d_Txm_wrapped_13 : decode prog_19_method_16_code 13 = .ok (.iload_n 1, 1) := by decide +kernel
theorem d_Txm_wrapped_14 : decode prog_19_method_16_code 14 = .ok (.imul, 1) := by decide +kernel
theorem d_Txm_wrapped_15 : decode prog_19_method_16_code 15 = .ok (.iconst 5, 1) := by decide +kernel
theorem d_Txm_wrapped_16 : decode prog_19_method_16_code 16 = .ok (.iadd, 1) := by decide +kernel
theorem d_Txm_wrapped_17 : decode prog_19_method_16_code 17 = .ok (.iaload, 1) := by decide +kernel
theorem d_Txm_wrapped_18 : decode prog_19_method_16_code 18 = .ok (.invokestatic 84, 3) := by decide +kernel
theorem d_Txm_wrapped_21 : decode prog_19_method_16_code 21 = .ok (.istore 5, 2) := by decide +kernel
theorem d_Txm_wrapped_23 : decode prog_19_method_16_code 23 = .ok (.iload 4, 2) := by decide +kernel
theorem d_Txm_wrapped_25 : decode prog_19_method_16_code 25 = .ok (.aload_n 0, 1) := by decide +kernel
theorem d_Txm_wrapped_26 : decode prog_19_method_16_code 26 = .ok (.iload_n 1, 1) := by decide +kernel
theorem d_Txm_wrapped_27 : decode prog_19_method_16_code 27 = .ok (.iload_n 2, 1) := by decide +kernel
theorem d_Txm_wrapped_28 : decode prog_19_method_16_code 28 = .ok (.invokevirtual 60, 3) := by decide +kernel
theorem d_Txm_wrapped_31 : decode prog_19_method_16_code 31 = .ok (.aload_n 0, 1) := by decide +kernel
theorem d_Txm_wrapped_32 : decode prog_19_method_16_code 32 = .ok (.getfield 7, 3) := by decide +kernel
theorem d_Txm_wrapped_35 : decode prog_19_method_16_code 35 = .ok (.bipush 8, 2) := by decide +kernel
theorem d_Txm_wrapped_37 : decode prog_19_method_16_code 37 = .ok (.iload_n 1, 1) := by decide +kernel
theorem d_Txm_wrapped_38 : decode prog_19_method_16_code 38 = .ok (.imul, 1) := by decide +kernel
theorem d_Txm_wrapped_39 : decode prog_19_method_16_code 39 = .ok (.bipush 6, 2) := by decide +kernel
theorem d_Txm_wrapped_41 : decode prog_19_method_16_code 41 = .ok (.iadd, 1) := by decide +kernel
theorem d_Txm_wrapped_42 : decode prog_19_method_16_code 42 = .ok (.iaload, 1) := by decide +kernel
theorem d_Txm_wrapped_43 : decode prog_19_method_16_code 43 = .ok (.invokestatic 84, 3) := by decide +kernel
theorem d_Txm_wrapped_46 : decode prog_19_method_16_code 46 = .ok (.istore 6, 2) := by decide +kernel
theorem d_Txm_wrapped_48 : decode prog_19_method_16_code 48 = .ok (.iload 5, 2) := by decide +kernel
theorem d_Txm_wrapped_50 : decode prog_19_method_16_code 50 = .ok (.ifCond .lt 19, 3) := by decide +kernel
theorem d_Txm_wrapped_53 : decode prog_19_method_16_code 53 = .ok (.iload 6, 2) := by decide +kernel
theorem d_Txm_wrapped_55 : decode prog_19_method_16_code 55 = .ok (.ifCond .lt 14, 3) := by decide +kernel
theorem d_Txm_wrapped_58 : decode prog_19_method_16_code 58 = .ok (.aload_n 0, 1) := by decide +kernel
theorem d_Txm_wrapped_59 : decode prog_19_method_16_code 59 = .ok (.iload_n 1, 1) := by decide +kernel
theorem d_Txm_wrapped_60 : decode prog_19_method_16_code 60 = .ok (.iload_n 2, 1) := by decide +kernel
theorem d_Txm_wrapped_61 : decode prog_19_method_16_code 61 = .ok (.iload 5, 2) := by decide +kernel
theorem d_Txm_wrapped_63 : decode prog_19_method_16_code 63 = .ok (.iload 6, 2) := by decide +kernel
theorem d_Txm_wrapped_65 : decode prog_19_method_16_code 65 = .ok (.invokevirtual 87, 3) := by decide +kernel
theorem d_Txm_wrapped_68 : decode prog_19_method_16_code 68 = .ok (.return_, 1) := by decide +kernel
theorem d_Txm_wrapped_69 : decode prog_19_method_16_code 69 = .ok (.iconst 0, 1) := by decide +kernel
theorem d_Txm_wrapped_70 : decode prog_19_method_16_code 70 = .ok (.istore 7, 2) := by decide +kernel
theorem d_Txm_wrapped_72 : decode prog_19_method_16_code 72 = .ok (.iload 7, 2) := by decide +kernel
theorem d_Txm_wrapped_74 : decode prog_19_method_16_code 74 = .ok (.iconst 4, 1) := by decide +kernel
theorem d_Txm_wrapped_75 : decode prog_19_method_16_code 75 = .ok (.if_icmp .ge 27, 3) := by decide +kernel
theorem d_Txm_wrapped_78 : decode prog_19_method_16_code 78 = .ok (.aload_n 0, 1) := by decide +kernel
theorem d_Txm_wrapped_79 : decode prog_19_method_16_code 79 = .ok (.getfield 19, 3) := by decide +kernel
theorem d_Txm_wrapped_82 : decode prog_19_method_16_code 82 = .ok (.iload 7, 2) := by decide +kernel
theorem d_Txm_wrapped_84 : decode prog_19_method_16_code 84 = .ok (.aload_n 0, 1) := by decide +kernel
theorem d_Txm_wrapped_85 : decode prog_19_method_16_code 85 = .ok (.getfield 13, 3) := by decide +kernel
theorem d_Txm_wrapped_88 : decode prog_19_method_16_code 88 = .ok (.iconst 4, 1) := by decide +kernel
theorem d_Txm_wrapped_89 : decode prog_19_method_16_code 89 = .ok (.iload_n 1, 1) := by decide +kernel
theorem d_Txm_wrapped_90 : decode prog_19_method_16_code 90 = .ok (.imul, 1) := by decide +kernel
theorem d_Txm_wrapped_91 : decode prog_19_method_16_code 91 = .ok (.iload 7, 2) := by decide +kernel
theorem d_Txm_wrapped_93 : decode prog_19_method_16_code 93 = .ok (.iadd, 1) := by decide +kernel
theorem d_Txm_wrapped_94 : decode prog_19_method_16_code 94 = .ok (.iaload, 1) := by decide +kernel
theorem d_Txm_wrapped_95 : decode prog_19_method_16_code 95 = .ok (.iastore, 1) := by decide +kernel
theorem d_Txm_wrapped_96 : decode prog_19_method_16_code 96 = .ok (.iinc 7 1, 3) := by decide +kernel
theorem d_Txm_wrapped_99 : decode prog_19_method_16_code 99 = .ok (.goto (-27), 3) := by decide +kernel
theorem d_Txm_wrapped_102 : decode prog_19_method_16_code 102 = .ok (.return_, 1) := by decide +kernel
def L_Txm_wrapped_72 : Nat → Sg → Int32 → Int32 → Option (Sg)
  | 0, _, _, _ => none
  | n + 1, σ, v1, v7 => if 4 ≤ v7 then (some σ) else (ck (inb ((4 * v1) + v7) 16) (ck (inb v7 4) (lt (sA σ 8 (upd (σ.2.2.1 8) v7.toNatClampNeg (σ.2.2.1 6 ((4 * v1) + v7).toNatClampNeg))) (fun σ14 => lt (v7 + 1) (fun y15 => L_Txm_wrapped_72 n σ14 v1 y15)))))
set_option maxRecDepth 10000 in
set_option maxHeartbeats 4000000 in
theorem lt_Txm_wrapped_72 {p : Program} {l : Launch} {e : Env} {R : Room} {s : State} {m : MethodId} {args : Array Value} {below : List Frame} {meth : Method} {c : Code} {D : va_G} {τ : ClassId × ClassId × ClassId} {B : Nat} {A : Nat → Prop} {ad : Nat → Nat} (E : Cx p R s m args meth c prog_19_method_16_code 8 "DrawingMachineModel$TextureUnitsModel" 4 D τ B A) (hret : meth.sig.returnType = none) (o : Sg) : ∀ (n : Nat) (σ : Sg) (v1 : Int32) (v7 : Int32) (H : Heap) (locs : List Loc) (ls : Array Slot), L_Txm_wrapped_72 n σ v1 v7 = some o → Wd s D A (wdM τ σ ad) H locs → lv_has ls 8 [(0, .ref (ad 61)), (1, .int v1), (7, .int v7)] → W p l e R s m args below meth c H locs 0 0 (QV below args s A D τ (wdM τ o ad)) (F0 m 72 ls []) := by
  intro n
  induction n with
  | zero =>
    intro σ v1 v7 H locs ls h w hl
    cases h
  | succ n hr_72 =>
    intro σ v1 v7 H locs ls h w hl
    refine lv_iload E.x E.b d_Txm_wrapped_72 (lv_at hl 2 rfl) ?_
    refine lv_iconst (v := 4) E.x E.b d_Txm_wrapped_74 (by decide) ?_
    refine lv_icmp_ge (tgt := 102) E.x E.b d_Txm_wrapped_75 (by decide) (fun c => ?_) (fun c => ?_)
    ·
      replace h := ifT c h
      obtain rfl := Option.some.inj h
      exact rt_v E w hret d_Txm_wrapped_102
    ·
      replace h := ifF c h
      refine lv_aload_n E.x E.b d_Txm_wrapped_78 rfl (lv_at hl 0 rfl) ?_
      refine gM_Txm_found E w k1518 d_Txm_wrapped_79 ?_
      refine lv_iload E.x E.b d_Txm_wrapped_82 (lv_at hl 2 rfl) ?_
      refine lv_aload_n E.x E.b d_Txm_wrapped_84 rfl (lv_at hl 0 rfl) ?_
      refine gM_Txm_borders E w k1516 d_Txm_wrapped_85 ?_
      refine lv_iconst (v := 4) E.x E.b d_Txm_wrapped_88 (by decide) ?_
      refine lv_iload_n E.x E.b d_Txm_wrapped_89 rfl (lv_at hl 1 rfl) ?_
      refine lv_imul E.x E.b d_Txm_wrapped_90 ?_
      refine lv_iload E.x E.b d_Txm_wrapped_91 (lv_at hl 2 rfl) ?_
      refine lv_iadd E.x E.b d_Txm_wrapped_93 ?_
      obtain ⟨c12, h⟩ := ck_some h
      refine ialM E w (k := 6) (by decide) c12 d_Txm_wrapped_94 ?_
      obtain ⟨c13, h⟩ := ck_some h
      obtain ⟨σ14, e_σ14, h⟩ := lt_some h
      refine iasM E w (k := 8) (by decide) c13 e_σ14 d_Txm_wrapped_95 (fun H locs w => ?_)
      obtain ⟨y15, e_y15, h⟩ := lt_some h
      refine lv_iinc (v := y15) (lv' := [(7, .int y15), (0, .ref (ad 61)), (1, .int v1)]) E.x E.b d_Txm_wrapped_96 hl (k := 2) rfl (e_y15) (by decide) rfl (fun ls hl => ?_)
      refine lv_goto (tgt := 72) E.x E.b d_Txm_wrapped_99 (by decide) ?_
      exact hr_72 σ14 v1 y15 _ _ _ h w (lv_sub hl [1, 2, 0] rfl)
def F_Txm_wrapped_69 (σ : Sg) (v1 : Int32) : Option (Sg) := L_Txm_wrapped_72 100000 σ v1 0
set_option maxRecDepth 10000 in
set_option maxHeartbeats 4000000 in
theorem bt_Txm_wrapped_69 {p : Program} {l : Launch} {e : Env} {R : Room} {s : State} {m : MethodId} {args : Array Value} {below : List Frame} {meth : Method} {c : Code} {D : va_G} {τ : ClassId × ClassId × ClassId} {B : Nat} {A : Nat → Prop} {ad : Nat → Nat} (E : Cx p R s m args meth c prog_19_method_16_code 8 "DrawingMachineModel$TextureUnitsModel" 4 D τ B A) (hret : meth.sig.returnType = none) (o : Sg) (σ : Sg) (v1 : Int32) (h : F_Txm_wrapped_69 σ v1 = some o) {H : Heap} {locs : List Loc} {ls : Array Slot} (w : Wd s D A (wdM τ σ ad) H locs) (hl : lv_has ls 8 [(0, .ref (ad 61)), (1, .int v1)]) : W p l e R s m args below meth c H locs 0 0 (QV below args s A D τ (wdM τ o ad)) (F0 m 69 ls []) := by
  refine lv_iconst (v := 0) E.x E.b d_Txm_wrapped_69 (by decide) ?_
  refine lv_istore (lv' := [(7, .int 0), (0, .ref (ad 61)), (1, .int v1)]) E.x E.b d_Txm_wrapped_70 hl (by decide) rfl (fun ls hl => ?_)
  exact lt_Txm_wrapped_72 E hret o 100000 σ v1 0 _ _ _ h w (lv_sub hl [1, 2, 0] rfl)
def F_Txm_wrapped (σ : Sg) (x0 : Int32) (x1 : Int32) (x2 : Int32) (x3 : Int32) : Option (Sg) := bd (F_Txm_wide σ x0 x1) (fun o16 => ck (inb ((8 * x0) + 5) 32) (bd (F_Txm_wrap x2 o16 (σ.2.2.1 5 ((8 * x0) + 5).toNatClampNeg)) (fun o18 => bd (F_Txm_high σ x0 x1) (fun o19 => ck (inb ((8 * x0) + 6) 32) (bd (F_Txm_wrap x3 o19 (σ.2.2.1 5 ((8 * x0) + 6).toNatClampNeg)) (fun o21 => if o18 < 0 then (F_Txm_wrapped_69 σ x0) else (if o21 < 0 then (F_Txm_wrapped_69 σ x0) else (bd (F_Txm_look σ x0 x1 o18 o21) (fun o22 => some o22)))))))))
set_option maxRecDepth 10000 in
set_option maxHeartbeats 4000000 in
theorem c_Txm_wrapped (l : Launch) (D : va_G) (τ : ClassId × ClassId × ClassId) (B : Nat) (σ : Sg) (ad : Nat → Nat) (x0 : Int32) (x1 : Int32) (x2 : Int32) (x3 : Int32) (o : Sg) (h : F_Txm_wrapped σ x0 x1 x2 x3 = some o) : MV l y_Txm_wrapped (Cond.code y_Txm_wrapped prog_19_method_16_code 8 none) 4 D τ B [.ref (ad 61), .int x0, .int x1, .int x2, .int x3] (wdM τ σ ad) (wdM τ o ad) := by
  refine en_v (by decide) (Nat.le_of_ble_eq_true rfl) ?_
  intro p e R s m args below meth c H locs ls A E hret w hl
  have E : Cx p R s m args meth c prog_19_method_16_code 8 "DrawingMachineModel$TextureUnitsModel" 4 D τ B A := E
  have hl : lv_has ls 8 [(0, .ref (ad 61)), (1, .int x0), (2, .int x1), (3, .int x2), (4, .int x3)] := hl
  refine lv_iload_n E.x E.b d_Txm_wrapped_0 rfl (lv_at hl 3 rfl) ?_
  refine lv_aload_n E.x E.b d_Txm_wrapped_1 rfl (lv_at hl 0 rfl) ?_
  refine lv_iload_n E.x E.b d_Txm_wrapped_2 rfl (lv_at hl 1 rfl) ?_
  refine lv_iload_n E.x E.b d_Txm_wrapped_3 rfl (lv_at hl 2 rfl) ?_
  obtain ⟨o16, h_o16, h⟩ := bd_some h
  refine clV_Txm_wide E w (x0 := x0) (x1 := x1) h_o16 k2257 (by decide) hl.1 (Nat.le_of_ble_eq_true rfl) d_Txm_wrapped_4 (fun H locs w => ?_)
  refine lv_aload_n E.x E.b d_Txm_wrapped_7 rfl (lv_at hl 0 rfl) ?_
  refine gM_Txm_units E w k1515 d_Txm_wrapped_8 ?_
  refine lv_bipush (v := 8) E.x E.b d_Txm_wrapped_11 (by decide) ?_
  refine lv_iload_n E.x E.b d_Txm_wrapped_13 rfl (lv_at hl 1 rfl) ?_
  refine lv_imul E.x E.b d_Txm_wrapped_14 ?_
  refine lv_iconst (v := 5) E.x E.b d_Txm_wrapped_15 (by decide) ?_
  refine lv_iadd E.x E.b d_Txm_wrapped_16 ?_
  obtain ⟨c17, h⟩ := ck_some h
  refine ialM E w (k := 5) (by decide) c17 d_Txm_wrapped_17 ?_
  obtain ⟨o18, h_o18, h⟩ := bd_some h
  refine clS_Txm_wrap E w (x0 := x2) (x1 := o16) (x2 := (σ.2.2.1 5 ((8 * x0) + 5).toNatClampNeg)) h_o18 k2261 (by decide) hl.1 (Nat.le_of_ble_eq_true rfl) d_Txm_wrapped_18 (fun H locs w => ?_)
  refine lv_istore (lv' := [(5, .int o18), (0, .ref (ad 61)), (1, .int x0), (2, .int x1), (3, .int x2), (4, .int x3)]) E.x E.b d_Txm_wrapped_21 hl (by decide) rfl (fun ls hl => ?_)
  refine lv_iload E.x E.b d_Txm_wrapped_23 (lv_at hl 5 rfl) ?_
  refine lv_aload_n E.x E.b d_Txm_wrapped_25 rfl (lv_at hl 1 rfl) ?_
  refine lv_iload_n E.x E.b d_Txm_wrapped_26 rfl (lv_at hl 2 rfl) ?_
  refine lv_iload_n E.x E.b d_Txm_wrapped_27 rfl (lv_at hl 3 rfl) ?_
  obtain ⟨o19, h_o19, h⟩ := bd_some h
  refine clV_Txm_high E w (x0 := x0) (x1 := x1) h_o19 k2264 (by decide) hl.1 (Nat.le_of_ble_eq_true rfl) d_Txm_wrapped_28 (fun H locs w => ?_)
  refine lv_aload_n E.x E.b d_Txm_wrapped_31 rfl (lv_at hl 1 rfl) ?_
  refine gM_Txm_units E w k1515 d_Txm_wrapped_32 ?_
  refine lv_bipush (v := 8) E.x E.b d_Txm_wrapped_35 (by decide) ?_
  refine lv_iload_n E.x E.b d_Txm_wrapped_37 rfl (lv_at hl 2 rfl) ?_
  refine lv_imul E.x E.b d_Txm_wrapped_38 ?_
  refine lv_bipush (v := 6) E.x E.b d_Txm_wrapped_39 (by decide) ?_
  refine lv_iadd E.x E.b d_Txm_wrapped_41 ?_
  obtain ⟨c20, h⟩ := ck_some h
  refine ialM E w (k := 5) (by decide) c20 d_Txm_wrapped_42 ?_
  obtain ⟨o21, h_o21, h⟩ := bd_some h
  refine clS_Txm_wrap E w (x0 := x3) (x1 := o19) (x2 := (σ.2.2.1 5 ((8 * x0) + 6).toNatClampNeg)) h_o21 k2261 (by decide) hl.1 (Nat.le_of_ble_eq_true rfl) d_Txm_wrapped_43 (fun H locs w => ?_)
  refine lv_istore (lv' := [(6, .int o21), (5, .int o18), (0, .ref (ad 61)), (1, .int x0), (2, .int x1), (3, .int x2), (4, .int x3)]) E.x E.b d_Txm_wrapped_46 hl (by decide) rfl (fun ls hl => ?_)
  refine lv_iload E.x E.b d_Txm_wrapped_48 (lv_at hl 1 rfl) ?_
  refine lv_if_lt (tgt := 69) E.x E.b d_Txm_wrapped_50 (by decide) (fun c => ?_) (fun c => ?_)
  ·
    replace h := ifT c h
    exact bt_Txm_wrapped_69 E hret o σ x0 h w (lv_sub hl [2, 3] rfl)
  ·
    replace h := ifF c h
    refine lv_iload E.x E.b d_Txm_wrapped_53 (lv_at hl 0 rfl) ?_
    refine lv_if_lt (tgt := 69) E.x E.b d_Txm_wrapped_55 (by decide) (fun c => ?_) (fun c => ?_)
    ·
      replace h := ifT c h
      exact bt_Txm_wrapped_69 E hret o σ x0 h w (lv_sub hl [2, 3] rfl)
    ·
      replace h := ifF c h
      refine lv_aload_n E.x E.b d_Txm_wrapped_58 rfl (lv_at hl 2 rfl) ?_
      refine lv_iload_n E.x E.b d_Txm_wrapped_59 rfl (lv_at hl 3 rfl) ?_
      refine lv_iload_n E.x E.b d_Txm_wrapped_60 rfl (lv_at hl 4 rfl) ?_
      refine lv_iload E.x E.b d_Txm_wrapped_61 (lv_at hl 1 rfl) ?_
      refine lv_iload E.x E.b d_Txm_wrapped_63 (lv_at hl 0 rfl) ?_
      obtain ⟨o22, h_o22, h⟩ := bd_some h
      refine clV_Txm_look E w (x0 := x0) (x1 := x1) (x2 := o18) (x3 := o21) h_o22 k2268 (by decide) hl.1 (Nat.le_of_ble_eq_true rfl) d_Txm_wrapped_65 (fun H locs w => ?_)
      obtain rfl := Option.some.inj h
      exact rt_v E w hret d_Txm_wrapped_68
theorem clV_Txm_wrapped {p : Program} {l : Launch} {e : Env} {R : Room} {s : State} {m : MethodId} {args : Array Value} {below : List Frame} {meth : Method} {c : Code} {H : Heap} {locs : List Loc} {Q : State → Prop} {cc : ByteArray} {nL pc lev : Nat} {own : String} {D : va_G} {τ : ClassId × ClassId × ClassId} {B : Nat} {A : Nat → Prop} {σ : Sg} {ad : Nat → Nat} {ls : Array Slot} {rest : List Value} (E : Cx p R s m args meth c cc nL own lev D τ B A) (w : Wd s D A (wdM τ σ ad) H locs) {x0 : Int32} {x1 : Int32} {x2 : Int32} {x3 : Int32} {o : Sg} (h : F_Txm_wrapped σ x0 x1 x2 x3 = some o) {index : Nat} (hlk : Cond.methodLink own index y_Txm_wrapped ∈ tw) (hlev : 4 < lev) (hsz : ls.size = nL) (hr : (rest.map fun v => v.category).sum ≤ 8) (hd : decode cc pc = .ok (.invokevirtual index, 3)) (kk : ∀ (H1 : Heap) (locs1 : List Loc), Wd s D A (wdM τ o ad) H1 locs1 → W p l e R s m args below meth c H1 locs1 0 0 Q (F0 m (pc + 3) ls (rest))) : W p l e R s m args below meth c H locs 0 0 Q (F0 m pc ls (.int x3 :: .int x2 :: .int x1 :: .int x0 :: .ref (ad 61) :: rest)) :=
  cr_v w E.C (va_runV (As := [.int x0, .int x1, .int x2, .int x3]) (rest := rest) E.fix (c_Txm_wrapped l D τ B σ ad x0 x1 x2 x3 o h H.size) (cwV 4 E.w (tw_pre (tw_good k2256) (l := [_, _, _, _]) (List.forall_mem_cons.mpr ⟨hlk, List.forall_mem_cons.mpr ⟨k2255, List.forall_mem_cons.mpr ⟨ks85, List.forall_mem_cons.mpr ⟨k16, fun _ h => absurd h List.not_mem_nil⟩⟩⟩⟩)) rfl rfl rfl (by decide +kernel) (E.rm hlev (by decide))) (wd_preV w E.C [.int x0, .int x1, .int x2, .int x3] rcM_Txm rfl) rfl rfl hsz rfl (lv_room hr) hd ⟨Nat.zero_le _, Nat.zero_le _⟩) kk

theorem d_Txm_mixRow_0 : decode prog_19_method_18_code 0 = .ok (.aload_n 0, 1) := by decide +kernel
theorem d_Txm_mixRow_1 : decode prog_19_method_18_code 1 = .ok (.iload_n 1, 1) := by decide +kernel
theorem d_Txm_mixRow_2 : decode prog_19_method_18_code 2 = .ok (.iload_n 2, 1) := by decide +kernel
theorem d_Txm_mixRow_3 : decode prog_19_method_18_code 3 = .ok (.iload_n 3, 1) := by decide +kernel
theorem d_Txm_mixRow_4 : decode prog_19_method_18_code 4 = .ok (.iload 4, 2) := by decide +kernel
theorem d_Txm_mixRow_6 : decode prog_19_method_18_code 6 = .ok (.invokevirtual 91, 3) := by decide +kernel
theorem d_Txm_mixRow_9 : decode prog_19_method_18_code 9 = .ok (.iconst 0, 1) := by decide +kernel
theorem d_Txm_mixRow_10 : decode prog_19_method_18_code 10 = .ok (.istore 6, 2) := by decide +kernel
theorem d_Txm_mixRow_12 : decode prog_19_method_18_code 12 = .ok (.iload 6, 2) := by decide +kernel
theorem d_Txm_mixRow_14 : decode prog_19_method_18_code 14 = .ok (.iconst 4, 1) := by decide +kernel
theorem d_Txm_mixRow_15 : decode prog_19_method_18_code 15 = .ok (.if_icmp .ge 23, 3) := by decide +kernel
theorem d_Txm_mixRow_18 : decode prog_19_method_18_code 18 = .ok (.aload_n 0, 1) := by decide +kernel
theorem d_Txm_mixRow_19 : decode prog_19_method_18_code 19 = .ok (.getfield 22, 3) := by decide +kernel
theorem d_Txm_mixRow_22 : decode prog_19_method_18_code 22 = .ok (.iload 6, 2) := by decide +kernel
theorem d_Txm_mixRow_24 : decode prog_19_method_18_code 24 = .ok (.aload_n 0, 1) := by decide +kernel
theorem d_Txm_mixRow_25 : decode prog_19_method_18_code 25 = .ok (.getfield 19, 3) := by decide +kernel
theorem d_Txm_mixRow_28 : decode prog_19_method_18_code 28 = .ok (.iload 6, 2) := by decide +kernel
theorem d_Txm_mixRow_30 : decode prog_19_method_18_code 30 = .ok (.iaload, 1) := by decide +kernel
theorem d_Txm_mixRow_31 : decode prog_19_method_18_code 31 = .ok (.iastore, 1) := by decide +kernel
theorem d_Txm_mixRow_32 : decode prog_19_method_18_code 32 = .ok (.iinc 6 1, 3) := by decide +kernel
theorem d_Txm_mixRow_35 : decode prog_19_method_18_code 35 = .ok (.goto (-23), 3) := by decide +kernel
theorem d_Txm_mixRow_38 : decode prog_19_method_18_code 38 = .ok (.aload_n 0, 1) := by decide +kernel
theorem d_Txm_mixRow_39 : decode prog_19_method_18_code 39 = .ok (.iload_n 1, 1) := by decide +kernel
theorem d_Txm_mixRow_40 : decode prog_19_method_18_code 40 = .ok (.iload_n 2, 1) := by decide +kernel
theorem d_Txm_mixRow_41 : decode prog_19_method_18_code 41 = .ok (.iload_n 3, 1) := by decide +kernel
theorem d_Txm_mixRow_42 : decode prog_19_method_18_code 42 = .ok (.iconst 1, 1) := by decide +kernel
theorem d_Txm_mixRow_43 : decode prog_19_method_18_code 43 = .ok (.iadd, 1) := by decide +kernel
theorem d_Txm_mixRow_44 : decode prog_19_method_18_code 44 = .ok (.iload 4, 2) := by decide +kernel
theorem d_Txm_mixRow_46 : decode prog_19_method_18_code 46 = .ok (.invokevirtual 91, 3) := by decide +kernel
theorem d_Txm_mixRow_49 : decode prog_19_method_18_code 49 = .ok (.iconst 0, 1) := by decide +kernel
theorem d_Txm_mixRow_50 : decode prog_19_method_18_code 50 = .ok (.istore 6, 2) := by decide +kernel
theorem d_Txm_mixRow_52 : decode prog_19_method_18_code 52 = .ok (.iload 6, 2) := by decide +kernel
theorem d_Txm_mixRow_54 : decode prog_19_method_18_code 54 = .ok (.iconst 4, 1) := by decide +kernel
theorem d_Txm_mixRow_55 : decode prog_19_method_18_code 55 = .ok (.if_icmp .ge 35, 3) := by decide +kernel
theorem d_Txm_mixRow_58 : decode prog_19_method_18_code 58 = .ok (.aload_n 0, 1) := by decide +kernel
theorem d_Txm_mixRow_59 : decode prog_19_method_18_code 59 = .ok (.getfield 22, 3) := by decide +kernel
theorem d_Txm_mixRow_62 : decode prog_19_method_18_code 62 = .ok (.iload 6, 2) := by decide +kernel
theorem d_Txm_mixRow_64 : decode prog_19_method_18_code 64 = .ok (.aload_n 0, 1) := by decide +kernel
theorem d_Txm_mixRow_65 : decode prog_19_method_18_code 65 = .ok (.getfield 22, 3) := by decide +kernel
theorem d_Txm_mixRow_68 : decode prog_19_method_18_code 68 = .ok (.iload 6, 2) := by decide +kernel
theorem d_Txm_mixRow_70 : decode prog_19_method_18_code 70 = .ok (.iaload, 1) := by decide +kernel
theorem d_Txm_mixRow_71 : decode prog_19_method_18_code 71 = .ok (.aload_n 0, 1) := by decide +kernel
theorem d_Txm_mixRow_72 : decode prog_19_method_18_code 72 = .ok (.getfield 19, 3) := by decide +kernel
theorem d_Txm_mixRow_75 : decode prog_19_method_18_code 75 = .ok (.iload 6, 2) := by decide +kernel
theorem d_Txm_mixRow_77 : decode prog_19_method_18_code 77 = .ok (.iaload, 1) := by decide +kernel
theorem d_Txm_mixRow_78 : decode prog_19_method_18_code 78 = .ok (.iload 5, 2) := by decide +kernel
theorem d_Txm_mixRow_80 : decode prog_19_method_18_code 80 = .ok (.invokestatic 94, 3) := by decide +kernel
theorem d_Txm_mixRow_83 : decode prog_19_method_18_code 83 = .ok (.iastore, 1) := by decide +kernel
theorem d_Txm_mixRow_84 : decode prog_19_method_18_code 84 = .ok (.iinc 6 1, 3) := by decide +kernel
theorem d_Txm_mixRow_87 : decode prog_19_method_18_code 87 = .ok (.goto (-35), 3) := by decide +kernel
theorem d_Txm_mixRow_90 : decode prog_19_method_18_code 90 = .ok (.return_, 1) := by decide +kernel
def L_Txm_mixRow_52 : Nat → Sg → Int32 → Int32 → Option (Sg)
  | 0, _, _, _ => none
  | n + 1, σ, v5, v6 => if 4 ≤ v6 then (some σ) else (ck (inb v6 4) (ck (inb v6 4) (bd (F_Txm_mix (σ.2.2.1 9 v6.toNatClampNeg) (σ.2.2.1 8 v6.toNatClampNeg) v5) (fun o15 => ck (inb v6 4) (lt (sA σ 9 (upd (σ.2.2.1 9) v6.toNatClampNeg o15)) (fun σ17 => lt (v6 + 1) (fun y18 => L_Txm_mixRow_52 n σ17 v5 y18)))))))
set_option maxRecDepth 10000 in
set_option maxHeartbeats 4000000 in
theorem lt_Txm_mixRow_52 {p : Program} {l : Launch} {e : Env} {R : Room} {s : State} {m : MethodId} {args : Array Value} {below : List Frame} {meth : Method} {c : Code} {D : va_G} {τ : ClassId × ClassId × ClassId} {B : Nat} {A : Nat → Prop} {ad : Nat → Nat} (E : Cx p R s m args meth c prog_19_method_18_code 7 "DrawingMachineModel$TextureUnitsModel" 5 D τ B A) (hret : meth.sig.returnType = none) (o : Sg) : ∀ (n : Nat) (σ : Sg) (v5 : Int32) (v6 : Int32) (H : Heap) (locs : List Loc) (ls : Array Slot), L_Txm_mixRow_52 n σ v5 v6 = some o → Wd s D A (wdM τ σ ad) H locs → lv_has ls 7 [(0, .ref (ad 61)), (5, .int v5), (6, .int v6)] → W p l e R s m args below meth c H locs 0 0 (QV below args s A D τ (wdM τ o ad)) (F0 m 52 ls []) := by
  intro n
  induction n with
  | zero =>
    intro σ v5 v6 H locs ls h w hl
    cases h
  | succ n hr_52 =>
    intro σ v5 v6 H locs ls h w hl
    refine lv_iload E.x E.b d_Txm_mixRow_52 (lv_at hl 2 rfl) ?_
    refine lv_iconst (v := 4) E.x E.b d_Txm_mixRow_54 (by decide) ?_
    refine lv_icmp_ge (tgt := 90) E.x E.b d_Txm_mixRow_55 (by decide) (fun c => ?_) (fun c => ?_)
    ·
      replace h := ifT c h
      obtain rfl := Option.some.inj h
      exact rt_v E w hret d_Txm_mixRow_90
    ·
      replace h := ifF c h
      refine lv_aload_n E.x E.b d_Txm_mixRow_58 rfl (lv_at hl 0 rfl) ?_
      refine gM_Txm_row E w k1519 d_Txm_mixRow_59 ?_
      refine lv_iload E.x E.b d_Txm_mixRow_62 (lv_at hl 2 rfl) ?_
      refine lv_aload_n E.x E.b d_Txm_mixRow_64 rfl (lv_at hl 0 rfl) ?_
      refine gM_Txm_row E w k1519 d_Txm_mixRow_65 ?_
      refine lv_iload E.x E.b d_Txm_mixRow_68 (lv_at hl 2 rfl) ?_
      obtain ⟨c13, h⟩ := ck_some h
      refine ialM E w (k := 9) (by decide) c13 d_Txm_mixRow_70 ?_
      refine lv_aload_n E.x E.b d_Txm_mixRow_71 rfl (lv_at hl 0 rfl) ?_
      refine gM_Txm_found E w k1518 d_Txm_mixRow_72 ?_
      refine lv_iload E.x E.b d_Txm_mixRow_75 (lv_at hl 2 rfl) ?_
      obtain ⟨c14, h⟩ := ck_some h
      refine ialM E w (k := 8) (by decide) c14 d_Txm_mixRow_77 ?_
      refine lv_iload E.x E.b d_Txm_mixRow_78 (lv_at hl 1 rfl) ?_
      obtain ⟨o15, h_o15, h⟩ := bd_some h
      refine clS_Txm_mix E w (x0 := (σ.2.2.1 9 v6.toNatClampNeg)) (x1 := (σ.2.2.1 8 v6.toNatClampNeg)) (x2 := v5) h_o15 k2297 (by decide) hl.1 (Nat.le_of_ble_eq_true rfl) d_Txm_mixRow_80 (fun H locs w => ?_)
      obtain ⟨c16, h⟩ := ck_some h
      obtain ⟨σ17, e_σ17, h⟩ := lt_some h
      refine iasM E w (k := 9) (by decide) c16 e_σ17 d_Txm_mixRow_83 (fun H locs w => ?_)
      obtain ⟨y18, e_y18, h⟩ := lt_some h
      refine lv_iinc (v := y18) (lv' := [(6, .int y18), (0, .ref (ad 61)), (5, .int v5)]) E.x E.b d_Txm_mixRow_84 hl (k := 2) rfl (e_y18) (by decide) rfl (fun ls hl => ?_)
      refine lv_goto (tgt := 52) E.x E.b d_Txm_mixRow_87 (by decide) ?_
      exact hr_52 σ17 v5 y18 _ _ _ h w (lv_sub hl [1, 2, 0] rfl)
def L_Txm_mixRow_12 : Nat → Sg → Int32 → Int32 → Int32 → Int32 → Int32 → Int32 → Option (Sg)
  | 0, _, _, _, _, _, _, _ => none
  | n + 1, σ, v1, v2, v3, v4, v5, v6 => if 4 ≤ v6 then (bd (F_Txm_wrapped σ v1 v2 (v3 + 1) v4) (fun o19 => L_Txm_mixRow_52 100000 o19 v5 0)) else (ck (inb v6 4) (ck (inb v6 4) (lt (sA σ 9 (upd (σ.2.2.1 9) v6.toNatClampNeg (σ.2.2.1 8 v6.toNatClampNeg))) (fun σ22 => lt (v6 + 1) (fun y23 => L_Txm_mixRow_12 n σ22 v1 v2 v3 v4 v5 y23)))))
set_option maxRecDepth 10000 in
set_option maxHeartbeats 4000000 in
theorem lt_Txm_mixRow_12 {p : Program} {l : Launch} {e : Env} {R : Room} {s : State} {m : MethodId} {args : Array Value} {below : List Frame} {meth : Method} {c : Code} {D : va_G} {τ : ClassId × ClassId × ClassId} {B : Nat} {A : Nat → Prop} {ad : Nat → Nat} (E : Cx p R s m args meth c prog_19_method_18_code 7 "DrawingMachineModel$TextureUnitsModel" 5 D τ B A) (hret : meth.sig.returnType = none) (o : Sg) : ∀ (n : Nat) (σ : Sg) (v1 : Int32) (v2 : Int32) (v3 : Int32) (v4 : Int32) (v5 : Int32) (v6 : Int32) (H : Heap) (locs : List Loc) (ls : Array Slot), L_Txm_mixRow_12 n σ v1 v2 v3 v4 v5 v6 = some o → Wd s D A (wdM τ σ ad) H locs → lv_has ls 7 [(0, .ref (ad 61)), (1, .int v1), (2, .int v2), (3, .int v3), (4, .int v4), (5, .int v5), (6, .int v6)] → W p l e R s m args below meth c H locs 0 0 (QV below args s A D τ (wdM τ o ad)) (F0 m 12 ls []) := by
  intro n
  induction n with
  | zero =>
    intro σ v1 v2 v3 v4 v5 v6 H locs ls h w hl
    cases h
  | succ n hr_12 =>
    intro σ v1 v2 v3 v4 v5 v6 H locs ls h w hl
    refine lv_iload E.x E.b d_Txm_mixRow_12 (lv_at hl 6 rfl) ?_
    refine lv_iconst (v := 4) E.x E.b d_Txm_mixRow_14 (by decide) ?_
    refine lv_icmp_ge (tgt := 38) E.x E.b d_Txm_mixRow_15 (by decide) (fun c => ?_) (fun c => ?_)
    ·
      replace h := ifT c h
      refine lv_aload_n E.x E.b d_Txm_mixRow_38 rfl (lv_at hl 0 rfl) ?_
      refine lv_iload_n E.x E.b d_Txm_mixRow_39 rfl (lv_at hl 1 rfl) ?_
      refine lv_iload_n E.x E.b d_Txm_mixRow_40 rfl (lv_at hl 2 rfl) ?_
      refine lv_iload_n E.x E.b d_Txm_mixRow_41 rfl (lv_at hl 3 rfl) ?_
      refine lv_iconst (v := 1) E.x E.b d_Txm_mixRow_42 (by decide) ?_
      refine lv_iadd E.x E.b d_Txm_mixRow_43 ?_
      refine lv_iload E.x E.b d_Txm_mixRow_44 (lv_at hl 4 rfl) ?_
      obtain ⟨o19, h_o19, h⟩ := bd_some h
      refine clV_Txm_wrapped E w (x0 := v1) (x1 := v2) (x2 := (v3 + 1)) (x3 := v4) h_o19 k2253 (by decide) hl.1 (Nat.le_of_ble_eq_true rfl) d_Txm_mixRow_46 (fun H locs w => ?_)
      refine lv_iconst (v := 0) E.x E.b d_Txm_mixRow_49 (by decide) ?_
      refine lv_istore (lv' := [(6, .int 0), (0, .ref (ad 61)), (1, .int v1), (2, .int v2), (3, .int v3), (4, .int v4), (5, .int v5)]) E.x E.b d_Txm_mixRow_50 hl (by decide) rfl (fun ls hl => ?_)
      exact lt_Txm_mixRow_52 E hret o 100000 o19 v5 0 _ _ _ h w (lv_sub hl [1, 6, 0] rfl)
    ·
      replace h := ifF c h
      refine lv_aload_n E.x E.b d_Txm_mixRow_18 rfl (lv_at hl 0 rfl) ?_
      refine gM_Txm_row E w k1519 d_Txm_mixRow_19 ?_
      refine lv_iload E.x E.b d_Txm_mixRow_22 (lv_at hl 6 rfl) ?_
      refine lv_aload_n E.x E.b d_Txm_mixRow_24 rfl (lv_at hl 0 rfl) ?_
      refine gM_Txm_found E w k1518 d_Txm_mixRow_25 ?_
      refine lv_iload E.x E.b d_Txm_mixRow_28 (lv_at hl 6 rfl) ?_
      obtain ⟨c20, h⟩ := ck_some h
      refine ialM E w (k := 8) (by decide) c20 d_Txm_mixRow_30 ?_
      obtain ⟨c21, h⟩ := ck_some h
      obtain ⟨σ22, e_σ22, h⟩ := lt_some h
      refine iasM E w (k := 9) (by decide) c21 e_σ22 d_Txm_mixRow_31 (fun H locs w => ?_)
      obtain ⟨y23, e_y23, h⟩ := lt_some h
      refine lv_iinc (v := y23) (lv' := [(6, .int y23), (0, .ref (ad 61)), (1, .int v1), (2, .int v2), (3, .int v3), (4, .int v4), (5, .int v5)]) E.x E.b d_Txm_mixRow_32 hl (k := 6) rfl (e_y23) (by decide) rfl (fun ls hl => ?_)
      refine lv_goto (tgt := 12) E.x E.b d_Txm_mixRow_35 (by decide) ?_
      exact hr_12 σ22 v1 v2 v3 v4 v5 y23 _ _ _ h w (lv_sub hl [1, 2, 3, 4, 5, 6, 0] rfl)
def F_Txm_mixRow (σ : Sg) (x0 : Int32) (x1 : Int32) (x2 : Int32) (x3 : Int32) (x4 : Int32) : Option (Sg) := bd (F_Txm_wrapped σ x0 x1 x2 x3) (fun o24 => L_Txm_mixRow_12 100000 o24 x0 x1 x2 x3 x4 0)
set_option maxRecDepth 10000 in
set_option maxHeartbeats 4000000 in
theorem c_Txm_mixRow (l : Launch) (D : va_G) (τ : ClassId × ClassId × ClassId) (B : Nat) (σ : Sg) (ad : Nat → Nat) (x0 : Int32) (x1 : Int32) (x2 : Int32) (x3 : Int32) (x4 : Int32) (o : Sg) (h : F_Txm_mixRow σ x0 x1 x2 x3 x4 = some o) : MV l y_Txm_mixRow (Cond.code y_Txm_mixRow prog_19_method_18_code 7 none) 5 D τ B [.ref (ad 61), .int x0, .int x1, .int x2, .int x3, .int x4] (wdM τ σ ad) (wdM τ o ad) := by
  refine en_v (by decide) (Nat.le_of_ble_eq_true rfl) ?_
  intro p e R s m args below meth c H locs ls A E hret w hl
  have E : Cx p R s m args meth c prog_19_method_18_code 7 "DrawingMachineModel$TextureUnitsModel" 5 D τ B A := E
  have hl : lv_has ls 7 [(0, .ref (ad 61)), (1, .int x0), (2, .int x1), (3, .int x2), (4, .int x3), (5, .int x4)] := hl
  refine lv_aload_n E.x E.b d_Txm_mixRow_0 rfl (lv_at hl 0 rfl) ?_
  refine lv_iload_n E.x E.b d_Txm_mixRow_1 rfl (lv_at hl 1 rfl) ?_
  refine lv_iload_n E.x E.b d_Txm_mixRow_2 rfl (lv_at hl 2 rfl) ?_
  refine lv_iload_n E.x E.b d_Txm_mixRow_3 rfl (lv_at hl 3 rfl) ?_
  refine lv_iload E.x E.b d_Txm_mixRow_4 (lv_at hl 4 rfl) ?_
  obtain ⟨o24, h_o24, h⟩ := bd_some h
  refine clV_Txm_wrapped E w (x0 := x0) (x1 := x1) (x2 := x2) (x3 := x3) h_o24 k2253 (by decide) hl.1 (Nat.le_of_ble_eq_true rfl) d_Txm_mixRow_6 (fun H locs w => ?_)
  refine lv_iconst (v := 0) E.x E.b d_Txm_mixRow_9 (by decide) ?_
  refine lv_istore (lv' := [(6, .int 0), (0, .ref (ad 61)), (1, .int x0), (2, .int x1), (3, .int x2), (4, .int x3), (5, .int x4)]) E.x E.b d_Txm_mixRow_10 hl (by decide) rfl (fun ls hl => ?_)
  exact lt_Txm_mixRow_12 E hret o 100000 o24 x0 x1 x2 x3 x4 0 _ _ _ h w (lv_sub hl [1, 2, 3, 4, 5, 6, 0] rfl)
theorem clV_Txm_mixRow {p : Program} {l : Launch} {e : Env} {R : Room} {s : State} {m : MethodId} {args : Array Value} {below : List Frame} {meth : Method} {c : Code} {H : Heap} {locs : List Loc} {Q : State → Prop} {cc : ByteArray} {nL pc lev : Nat} {own : String} {D : va_G} {τ : ClassId × ClassId × ClassId} {B : Nat} {A : Nat → Prop} {σ : Sg} {ad : Nat → Nat} {ls : Array Slot} {rest : List Value} (E : Cx p R s m args meth c cc nL own lev D τ B A) (w : Wd s D A (wdM τ σ ad) H locs) {x0 : Int32} {x1 : Int32} {x2 : Int32} {x3 : Int32} {x4 : Int32} {o : Sg} (h : F_Txm_mixRow σ x0 x1 x2 x3 x4 = some o) {index : Nat} (hlk : Cond.methodLink own index y_Txm_mixRow ∈ tw) (hlev : 5 < lev) (hsz : ls.size = nL) (hr : (rest.map fun v => v.category).sum ≤ 8) (hd : decode cc pc = .ok (.invokevirtual index, 3)) (kk : ∀ (H1 : Heap) (locs1 : List Loc), Wd s D A (wdM τ o ad) H1 locs1 → W p l e R s m args below meth c H1 locs1 0 0 Q (F0 m (pc + 3) ls (rest))) : W p l e R s m args below meth c H locs 0 0 Q (F0 m pc ls (.int x4 :: .int x3 :: .int x2 :: .int x1 :: .int x0 :: .ref (ad 61) :: rest)) :=
  cr_v w E.C (va_runV (As := [.int x0, .int x1, .int x2, .int x3, .int x4]) (rest := rest) E.fix (c_Txm_mixRow l D τ B σ ad x0 x1 x2 x3 x4 o h H.size) (cwV 5 E.w (tw_pre (tw_good k2296) (l := [_, _, _, _]) (List.forall_mem_cons.mpr ⟨hlk, List.forall_mem_cons.mpr ⟨k2295, List.forall_mem_cons.mpr ⟨ks93, List.forall_mem_cons.mpr ⟨k16, fun _ h => absurd h List.not_mem_nil⟩⟩⟩⟩)) rfl rfl rfl (by decide +kernel) (E.rm hlev (by decide))) (wd_preV w E.C [.int x0, .int x1, .int x2, .int x3, .int x4] rcM_Txm rfl) rfl rfl hsz rfl (lv_room hr) hd ⟨Nat.zero_le _, Nat.zero_le _⟩) kk
