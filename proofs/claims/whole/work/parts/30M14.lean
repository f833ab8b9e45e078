theorem d_Cmd_isThere_0 : decode prog_15_method_19_code 0 = .ok (.iload_n 1, 1) := by decide +kernel
theorem d_Cmd_isThere_1 : decode prog_15_method_19_code 1 = .ok (.aload_n 0, 1) := by decide +kernel
theorem d_Cmd_isThere_2 : decode prog_15_method_19_code 2 = .ok (.getfield 130, 3) := by decide +kernel
theorem d_Cmd_isThere_5 : decode prog_15_method_19_code 5 = .ok (.ifCond .ne 10, 3) := by decide +kernel
theorem d_Cmd_isThere_8 : decode prog_15_method_19_code 8 = .ok (.aload_n 0, 1) := by decide +kernel
theorem d_Cmd_isThere_9 : decode prog_15_method_19_code 9 = .ok (.getfield 124, 3) := by decide +kernel
theorem d_Cmd_isThere_12 : decode prog_15_method_19_code 12 = .ok (.goto 6, 3) := by decide +kernel
theorem d_Cmd_isThere_15 : decode prog_15_method_19_code 15 = .ok (.sipush 4096, 3) := by decide +kernel
theorem d_Cmd_isThere_18 : decode prog_15_method_19_code 18 = .ok (.if_icmp .ge 7, 3) := by decide +kernel
theorem d_Cmd_isThere_21 : decode prog_15_method_19_code 21 = .ok (.iconst 1, 1) := by decide +kernel
theorem d_Cmd_isThere_22 : decode prog_15_method_19_code 22 = .ok (.goto 4, 3) := by decide +kernel
theorem d_Cmd_isThere_25 : decode prog_15_method_19_code 25 = .ok (.iconst 0, 1) := by decide +kernel
theorem d_Cmd_isThere_26 : decode prog_15_method_19_code 26 = .ok (.ireturn, 1) := by decide +kernel
def F_Cmd_isThere_26 (σ : Sg) (s0 : Int32) : Option (Int32) := ck (s0 = 0 ∨ s0 = 1) (some s0)
set_option maxRecDepth 10000 in
set_option maxHeartbeats 4000000 in
theorem bt_Cmd_isThere_26 {p : Program} {l : Launch} {e : Env} {R : Room} {s : State} {m : MethodId} {args : Array Value} {below : List Frame} {meth : Method} {c : Code} {D : va_G} {τ : ClassId × ClassId × ClassId} {B : Nat} {A : Nat → Prop} {ad : Nat → Nat} (E : Cx p R s m args meth c prog_15_method_19_code 2 "DrawingMachineModel$DrawCommandsModel" 0 D τ B A) (hret : meth.sig.returnType = (some .boolean)) (o : Int32) (σ : Sg) (s0 : Int32) (h : F_Cmd_isThere_26 σ s0 = some o) {H : Heap} {locs : List Loc} {ls : Array Slot} (w : Wd s D A (wdM τ σ ad) H locs) (hl : lv_has ls 2 []) : W p l e R s m args below meth c H locs 0 0 (QI below args s A D τ (wdM τ σ ad) o) (F0 m 26 ls [.int s0]) := by
  obtain ⟨c2, h⟩ := ck_some h
  obtain rfl := Option.some.inj h
  exact rt_z E w hret c2 d_Cmd_isThere_26
def F_Cmd_isThere_18 (σ : Sg) (s0 : Int32) (s1 : Int32) : Option (Int32) := if s1 ≤ s0 then (F_Cmd_isThere_26 σ 0) else (F_Cmd_isThere_26 σ 1)
set_option maxRecDepth 10000 in
set_option maxHeartbeats 4000000 in
theorem bt_Cmd_isThere_18 {p : Program} {l : Launch} {e : Env} {R : Room} {s : State} {m : MethodId} {args : Array Value} {below : List Frame} {meth : Method} {c : Code} {D : va_G} {τ : ClassId × ClassId × ClassId} {B : Nat} {A : Nat → Prop} {ad : Nat → Nat} (E : Cx p R s m args meth c prog_15_method_19_code 2 "DrawingMachineModel$DrawCommandsModel" 0 D τ B A) (hret : meth.sig.returnType = (some .boolean)) (o : Int32) (σ : Sg) (s0 : Int32) (s1 : Int32) (h : F_Cmd_isThere_18 σ s0 s1 = some o) {H : Heap} {locs : List Loc} {ls : Array Slot} (w : Wd s D A (wdM τ σ ad) H locs) (hl : lv_has ls 2 []) : W p l e R s m args below meth c H locs 0 0 (QI below args s A D τ (wdM τ σ ad) o) (F0 m 18 ls [.int s1, .int s0]) := by
  refine lv_icmp_ge (tgt := 25) E.x E.b d_Cmd_isThere_18 (by decide) (fun c => ?_) (fun c => ?_)
  ·
    replace h := ifT c h
    refine lv_iconst (v := 0) E.x E.b d_Cmd_isThere_25 (by decide) ?_
    exact bt_Cmd_isThere_26 E hret o σ 0 h w (lv_sub hl [] rfl)
  ·
    replace h := ifF c h
    refine lv_iconst (v := 1) E.x E.b d_Cmd_isThere_21 (by decide) ?_
    refine lv_goto (tgt := 26) E.x E.b d_Cmd_isThere_22 (by decide) ?_
    exact bt_Cmd_isThere_26 E hret o σ 1 h w (lv_sub hl [] rfl)
def F_Cmd_isThere (σ : Sg) (x0 : Int32) : Option (Int32) := if (σ.1 12) = (0 : Int32) then (F_Cmd_isThere_18 σ x0 (σ.1 10)) else (F_Cmd_isThere_18 σ x0 4096)
set_option maxRecDepth 10000 in
set_option maxHeartbeats 4000000 in
theorem c_Cmd_isThere (l : Launch) (D : va_G) (τ : ClassId × ClassId × ClassId) (B : Nat) (σ : Sg) (ad : Nat → Nat) (x0 : Int32) (o : Int32) (h : F_Cmd_isThere σ x0 = some o) : MI l y_Cmd_isThere (Cond.code y_Cmd_isThere prog_15_method_19_code 2 (some .boolean)) 0 D τ B [.ref (ad 60), .int x0] (wdM τ σ ad) (wdM τ σ ad) o := by
  refine en_i (by decide) (Nat.le_of_ble_eq_true rfl) ?_
  intro p e R s m args below meth c H locs ls A E hret w hl
  have E : Cx p R s m args meth c prog_15_method_19_code 2 "DrawingMachineModel$DrawCommandsModel" 0 D τ B A := E
  have hl : lv_has ls 2 [(0, .ref (ad 60)), (1, .int x0)] := hl
  refine lv_iload_n E.x E.b d_Cmd_isThere_0 rfl (lv_at hl 1 rfl) ?_
  refine lv_aload_n E.x E.b d_Cmd_isThere_1 rfl (lv_at hl 0 rfl) ?_
  refine gM_Cmd_depth E w k1452 d_Cmd_isThere_2 ?_
  refine lv_if_ne (tgt := 15) E.x E.b d_Cmd_isThere_5 (by decide) (fun c => ?_) (fun c => ?_)
  ·
    replace h := ifF c h
    refine lv_sipush (v := 4096) E.x E.b d_Cmd_isThere_15 (by decide) ?_
    exact bt_Cmd_isThere_18 E hret o σ x0 4096 h w (lv_sub hl [] rfl)
  ·
    replace h := ifT c h
    refine lv_aload_n E.x E.b d_Cmd_isThere_8 rfl (lv_at hl 0 rfl) ?_
    refine gM_Cmd_size E w k1450 d_Cmd_isThere_9 ?_
    refine lv_goto (tgt := 18) E.x E.b d_Cmd_isThere_12 (by decide) ?_
    exact bt_Cmd_isThere_18 E hret o σ x0 (σ.1 10) h w (lv_sub hl [] rfl)
theorem clV_Cmd_isThere {p : Program} {l : Launch} {e : Env} {R : Room} {s : State} {m : MethodId} {args : Array Value} {below : List Frame} {meth : Method} {c : Code} {H : Heap} {locs : List Loc} {Q : State → Prop} {cc : ByteArray} {nL pc lev : Nat} {own : String} {D : va_G} {τ : ClassId × ClassId × ClassId} {B : Nat} {A : Nat → Prop} {σ : Sg} {ad : Nat → Nat} {ls : Array Slot} {rest : List Value} (E : Cx p R s m args meth c cc nL own lev D τ B A) (w : Wd s D A (wdM τ σ ad) H locs) {x0 : Int32} {o : Int32} (h : F_Cmd_isThere σ x0 = some o) {index : Nat} (hlk : Cond.methodLink own index y_Cmd_isThere ∈ tw) (hlev : 0 < lev) (hsz : ls.size = nL) (hr : (rest.map fun v => v.category).sum ≤ 8) (hd : decode cc pc = .ok (.invokevirtual index, 3)) (kk : ∀ (H1 : Heap) (locs1 : List Loc), Wd s D A (wdM τ σ ad) H1 locs1 → W p l e R s m args below meth c H1 locs1 0 0 Q (F0 m (pc + 3) ls (.int o :: rest))) : W p l e R s m args below meth c H locs 0 0 Q (F0 m pc ls (.int x0 :: .ref (ad 60) :: rest)) :=
  cr_i w E.C (va_runV (As := [.int x0]) (rest := rest) E.fix (c_Cmd_isThere l D τ B σ ad x0 o h H.size) (cwV 1 E.w (tw_pre (tw_good k1924) (l := [_, _, _, _]) (List.forall_mem_cons.mpr ⟨hlk, List.forall_mem_cons.mpr ⟨k1923, List.forall_mem_cons.mpr ⟨ks51, List.forall_mem_cons.mpr ⟨k15, fun _ h => absurd h List.not_mem_nil⟩⟩⟩⟩)) rfl rfl rfl (by decide +kernel) (E.rm hlev (by decide))) (wd_preV w E.C [.int x0] rcM_Cmd rfl) rfl rfl hsz rfl (lv_room hr) hd ⟨Nat.zero_le _, Nat.zero_le _⟩) kk

theorem d_Cmd_read_0 : decode prog_15_method_20_code 0 = .ok (.aload_n 0, 1) := by decide +kernel
theorem d_Cmd_read_1 : decode prog_15_method_20_code 1 = .ok (.getfield 130, 3) := by decide +kernel
theorem d_Cmd_read_4 : decode prog_15_method_20_code 4 = .ok (.ifCond .ne 12, 3) := by decide +kernel
theorem d_Cmd_read_7 : decode prog_15_method_20_code 7 = .ok (.aload_n 0, 1) := by decide +kernel
theorem d_Cmd_read_8 : decode prog_15_method_20_code 8 = .ok (.getfield 20, 3) := by decide +kernel
theorem d_Cmd_read_11 : decode prog_15_method_20_code 11 = .ok (.iload_n 1, 1) := by decide +kernel
theorem d_Cmd_read_12 : decode prog_15_method_20_code 12 = .ok (.iaload, 1) := by decide +kernel
theorem d_Cmd_read_13 : decode prog_15_method_20_code 13 = .ok (.goto 9, 3) := by decide +kernel
theorem d_Cmd_read_16 : decode prog_15_method_20_code 16 = .ok (.aload_n 0, 1) := by decide +kernel
theorem d_Cmd_read_17 : decode prog_15_method_20_code 17 = .ok (.getfield 7, 3) := by decide +kernel
theorem d_Cmd_read_20 : decode prog_15_method_20_code 20 = .ok (.iload_n 1, 1) := by decide +kernel
theorem d_Cmd_read_21 : decode prog_15_method_20_code 21 = .ok (.iaload, 1) := by decide +kernel
theorem d_Cmd_read_22 : decode prog_15_method_20_code 22 = .ok (.ireturn, 1) := by decide +kernel
def F_Cmd_read_22 (σ : Sg) (s0 : Int32) : Option (Int32) := some s0
set_option maxRecDepth 10000 in
set_option maxHeartbeats 4000000 in
theorem bt_Cmd_read_22 {p : Program} {l : Launch} {e : Env} {R : Room} {s : State} {m : MethodId} {args : Array Value} {below : List Frame} {meth : Method} {c : Code} {D : va_G} {τ : ClassId × ClassId × ClassId} {B : Nat} {A : Nat → Prop} {ad : Nat → Nat} (E : Cx p R s m args meth c prog_15_method_20_code 2 "DrawingMachineModel$DrawCommandsModel" 0 D τ B A) (hret : meth.sig.returnType = (some .int)) (o : Int32) (σ : Sg) (s0 : Int32) (h : F_Cmd_read_22 σ s0 = some o) {H : Heap} {locs : List Loc} {ls : Array Slot} (w : Wd s D A (wdM τ σ ad) H locs) (hl : lv_has ls 2 []) : W p l e R s m args below meth c H locs 0 0 (QI below args s A D τ (wdM τ σ ad) o) (F0 m 22 ls [.int s0]) := by
  obtain rfl := Option.some.inj h
  exact rt_i E w hret d_Cmd_read_22
def F_Cmd_read (σ : Sg) (x0 : Int32) : Option (Int32) := if (σ.1 12) = (0 : Int32) then (ck (inb x0 4096) (F_Cmd_read_22 σ (σ.2.2.1 1 x0.toNatClampNeg))) else (ck (inb x0 4096) (F_Cmd_read_22 σ (σ.2.2.1 0 x0.toNatClampNeg)))
set_option maxRecDepth 10000 in
set_option maxHeartbeats 4000000 in
theorem c_Cmd_read (l : Launch) (D : va_G) (τ : ClassId × ClassId × ClassId) (B : Nat) (σ : Sg) (ad : Nat → Nat) (x0 : Int32) (o : Int32) (h : F_Cmd_read σ x0 = some o) : MI l y_Cmd_read (Cond.code y_Cmd_read prog_15_method_20_code 2 (some .int)) 0 D τ B [.ref (ad 60), .int x0] (wdM τ σ ad) (wdM τ σ ad) o := by
  refine en_i (by decide) (Nat.le_of_ble_eq_true rfl) ?_
  intro p e R s m args below meth c H locs ls A E hret w hl
  have E : Cx p R s m args meth c prog_15_method_20_code 2 "DrawingMachineModel$DrawCommandsModel" 0 D τ B A := E
  have hl : lv_has ls 2 [(0, .ref (ad 60)), (1, .int x0)] := hl
  refine lv_aload_n E.x E.b d_Cmd_read_0 rfl (lv_at hl 0 rfl) ?_
  refine gM_Cmd_depth E w k1452 d_Cmd_read_1 ?_
  refine lv_if_ne (tgt := 16) E.x E.b d_Cmd_read_4 (by decide) (fun c => ?_) (fun c => ?_)
  ·
    replace h := ifF c h
    refine lv_aload_n E.x E.b d_Cmd_read_16 rfl (lv_at hl 0 rfl) ?_
    refine gM_Cmd_memory E w k1444 d_Cmd_read_17 ?_
    refine lv_iload_n E.x E.b d_Cmd_read_20 rfl (lv_at hl 1 rfl) ?_
    obtain ⟨c3, h⟩ := ck_some h
    refine ialM E w (k := 0) (by decide) c3 d_Cmd_read_21 ?_
    exact bt_Cmd_read_22 E hret o σ (σ.2.2.1 0 x0.toNatClampNeg) h w (lv_sub hl [] rfl)
  ·
    replace h := ifT c h
    refine lv_aload_n E.x E.b d_Cmd_read_7 rfl (lv_at hl 0 rfl) ?_
    refine gM_Cmd_stream E w k1448 d_Cmd_read_8 ?_
    refine lv_iload_n E.x E.b d_Cmd_read_11 rfl (lv_at hl 1 rfl) ?_
    obtain ⟨c4, h⟩ := ck_some h
    refine ialM E w (k := 1) (by decide) c4 d_Cmd_read_12 ?_
    refine lv_goto (tgt := 22) E.x E.b d_Cmd_read_13 (by decide) ?_
    exact bt_Cmd_read_22 E hret o σ (σ.2.2.1 1 x0.toNatClampNeg) h w (lv_sub hl [] rfl)
theorem clV_Cmd_read {p : Program} {l : Launch} {e : Env} {R : Room} {s : State} {m : MethodId} {args : Array Value} {below : List Frame} {meth : Method} {c : Code} {H : Heap} {locs : List Loc} {Q : State → Prop} {cc : ByteArray} {nL pc lev : Nat} {own : String} {D : va_G} {τ : ClassId × ClassId × ClassId} {B : Nat} {A : Nat → Prop} {σ : Sg} {ad : Nat → Nat} {ls : Array Slot} {rest : List Value} (E : Cx p R s m args meth c cc nL own lev D τ B A) (w : Wd s D A (wdM τ σ ad) H locs) {x0 : Int32} {o : Int32} (h : F_Cmd_read σ x0 = some o) {index : Nat} (hlk : Cond.methodLink own index y_Cmd_read ∈ tw) (hlev : 0 < lev) (hsz : ls.size = nL) (hr : (rest.map fun v => v.category).sum ≤ 8) (hd : decode cc pc = .ok (.invokevirtual index, 3)) (kk : ∀ (H1 : Heap) (locs1 : List Loc), Wd s D A (wdM τ σ ad) H1 locs1 → W p l e R s m args below meth c H1 locs1 0 0 Q (F0 m (pc + 3) ls (.int o :: rest))) : W p l e R s m args below meth c H locs 0 0 Q (F0 m pc ls (.int x0 :: .ref (ad 60) :: rest)) :=
  cr_i w E.C (va_runV (As := [.int x0]) (rest := rest) E.fix (c_Cmd_read l D τ B σ ad x0 o h H.size) (cwV 1 E.w (tw_pre (tw_good k1928) (l := [_, _, _, _]) (List.forall_mem_cons.mpr ⟨hlk, List.forall_mem_cons.mpr ⟨k1927, List.forall_mem_cons.mpr ⟨ks52, List.forall_mem_cons.mpr ⟨k15, fun _ h => absurd h List.not_mem_nil⟩⟩⟩⟩)) rfl rfl rfl (by decide +kernel) (E.rm hlev (by decide))) (wd_preV w E.C [.int x0] rcM_Cmd rfl) rfl rfl hsz rfl (lv_room hr) hd ⟨Nat.zero_le _, Nat.zero_le _⟩) kk

theorem d_Cmd_length_0 : decode prog_15_method_21_code 0 = .ok (.iconst 0, 1) := by decide +kernel
theorem d_Cmd_length_1 : decode prog_15_method_21_code 1 = .ok (.istore_n 2, 1) := by decide +kernel
theorem d_Cmd_length_2 : decode prog_15_method_21_code 2 = .ok (.iload_n 1, 1) := by decide +kernel
theorem d_Cmd_length_3 : decode prog_15_method_21_code 3 = .ok (.bipush 21, 2) := by decide +kernel
theorem d_Cmd_length_5 : decode prog_15_method_21_code 5 = .ok (.if_icmp .ne 50, 3) := by decide +kernel
theorem d_Cmd_length_8 : decode prog_15_method_21_code 8 = .ok (.aload_n 0, 1) := by decide +kernel
theorem d_Cmd_length_9 : decode prog_15_method_21_code 9 = .ok (.aload_n 0, 1) := by decide +kernel
theorem d_Cmd_length_10 : decode prog_15_method_21_code 10 = .ok (.getfield 127, 3) := by decide +kernel
theorem d_Cmd_length_13 : decode prog_15_method_21_code 13 = .ok (.iconst 2, 1) := by decide +kernel
theorem d_Cmd_length_14 : decode prog_15_method_21_code 14 = .ok (.iadd, 1) := by decide +kernel
theorem d_Cmd_length_15 : decode prog_15_method_21_code 15 = .ok (.invokevirtual 149, 3) := by decide +kernel
theorem d_Cmd_length_18 : decode prog_15_method_21_code 18 = .ok (.ifCond .eq 37, 3) := by decide +kernel
theorem d_Cmd_length_21 : decode prog_15_method_21_code 21 = .ok (.aload_n 0, 1) := by decide +kernel
theorem d_Cmd_length_22 : decode prog_15_method_21_code 22 = .ok (.aload_n 0, 1) := by decide +kernel
theorem d_Cmd_length_23 : decode prog_15_method_21_code 23 = .ok (.getfield 127, 3) := by decide +kernel
theorem d_Cmd_length_26 : decode prog_15_method_21_code 26 = .ok (.iconst 2, 1) := by decide +kernel
theorem d_Cmd_length_27 : decode prog_15_method_21_code 27 = .ok (.iadd, 1) := by decide +kernel
theorem d_Cmd_length_28 : decode prog_15_method_21_code 28 = .ok (.invokevirtual 153, 3) := by decide +kernel
theorem d_Cmd_length_31 : decode prog_15_method_21_code 31 = .ok (.istore_n 2, 1) := by decide +kernel
theorem d_Cmd_length_32 : decode prog_15_method_21_code 32 = .ok (.iload_n 2, 1) := by decide +kernel
theorem d_Cmd_length_33 : decode prog_15_method_21_code 33 = .ok (.ifCond .ge 7, 3) := by decide +kernel
theorem d_Cmd_length_36 : decode prog_15_method_21_code 36 = .ok (.iconst 0, 1) := by decide +kernel
theorem d_Cmd_length_37 : decode prog_15_method_21_code 37 = .ok (.goto 17, 3) := by decide +kernel
theorem d_Cmd_length_40 : decode prog_15_method_21_code 40 = .ok (.iload_n 2, 1) := by decide +kernel
theorem d_Cmd_length_41 : decode prog_15_method_21_code 41 = .ok (.sipush 256, 3) := by decide +kernel
theorem d_Cmd_length_44 : decode prog_15_method_21_code 44 = .ok (.if_icmp .le 9, 3) := by decide +kernel
theorem d_Cmd_length_47 : decode prog_15_method_21_code 47 = .ok (.sipush 256, 3) := by decide +kernel
theorem d_Cmd_length_50 : decode prog_15_method_21_code 50 = .ok (.goto 4, 3) := by decide +kernel
theorem d_Cmd_length_53 : decode prog_15_method_21_code 53 = .ok (.iload_n 2, 1) := by decide +kernel
theorem d_Cmd_length_54 : decode prog_15_method_21_code 54 = .ok (.istore_n 2, 1) := by decide +kernel
theorem d_Cmd_length_55 : decode prog_15_method_21_code 55 = .ok (.iload_n 1, 1) := by decide +kernel
theorem d_Cmd_length_56 : decode prog_15_method_21_code 56 = .ok (.invokestatic 106, 3) := by decide +kernel
theorem d_Cmd_length_59 : decode prog_15_method_21_code 59 = .ok (.iload_n 2, 1) := by decide +kernel
theorem d_Cmd_length_60 : decode prog_15_method_21_code 60 = .ok (.iadd, 1) := by decide +kernel
theorem d_Cmd_length_61 : decode prog_15_method_21_code 61 = .ok (.ireturn, 1) := by decide +kernel
def F_Cmd_length_55 (σ : Sg) (v1 : Int32) (v2 : Int32) : Option (Int32) := bd (F_Cmd_count v1) (fun o4 => some (o4 + v2))
set_option maxRecDepth 10000 in
set_option maxHeartbeats 4000000 in
theorem bt_Cmd_length_55 {p : Program} {l : Launch} {e : Env} {R : Room} {s : State} {m : MethodId} {args : Array Value} {below : List Frame} {meth : Method} {c : Code} {D : va_G} {τ : ClassId × ClassId × ClassId} {B : Nat} {A : Nat → Prop} {ad : Nat → Nat} (E : Cx p R s m args meth c prog_15_method_21_code 3 "DrawingMachineModel$DrawCommandsModel" 1 D τ B A) (hret : meth.sig.returnType = (some .int)) (o : Int32) (σ : Sg) (v1 : Int32) (v2 : Int32) (h : F_Cmd_length_55 σ v1 v2 = some o) {H : Heap} {locs : List Loc} {ls : Array Slot} (w : Wd s D A (wdM τ σ ad) H locs) (hl : lv_has ls 3 [(1, .int v1), (2, .int v2)]) : W p l e R s m args below meth c H locs 0 0 (QI below args s A D τ (wdM τ σ ad) o) (F0 m 55 ls []) := by
  refine lv_iload_n E.x E.b d_Cmd_length_55 rfl (lv_at hl 0 rfl) ?_
  obtain ⟨o4, h_o4, h⟩ := bd_some h
  refine clS_Cmd_count E w (x0 := v1) h_o4 k1439 (by decide) hl.1 (Nat.le_of_ble_eq_true rfl) d_Cmd_length_56 (fun H locs w => ?_)
  refine lv_iload_n E.x E.b d_Cmd_length_59 rfl (lv_at hl 1 rfl) ?_
  refine lv_iadd E.x E.b d_Cmd_length_60 ?_
  obtain rfl := Option.some.inj h
  exact rt_i E w hret d_Cmd_length_61
def F_Cmd_length_54 (σ : Sg) (v1 : Int32) (s0 : Int32) : Option (Int32) := F_Cmd_length_55 σ v1 s0
set_option maxRecDepth 10000 in
set_option maxHeartbeats 4000000 in
theorem bt_Cmd_length_54 {p : Program} {l : Launch} {e : Env} {R : Room} {s : State} {m : MethodId} {args : Array Value} {below : List Frame} {meth : Method} {c : Code} {D : va_G} {τ : ClassId × ClassId × ClassId} {B : Nat} {A : Nat → Prop} {ad : Nat → Nat} (E : Cx p R s m args meth c prog_15_method_21_code 3 "DrawingMachineModel$DrawCommandsModel" 1 D τ B A) (hret : meth.sig.returnType = (some .int)) (o : Int32) (σ : Sg) (v1 : Int32) (s0 : Int32) (h : F_Cmd_length_54 σ v1 s0 = some o) {H : Heap} {locs : List Loc} {ls : Array Slot} (w : Wd s D A (wdM τ σ ad) H locs) (hl : lv_has ls 3 [(1, .int v1)]) : W p l e R s m args below meth c H locs 0 0 (QI below args s A D τ (wdM τ σ ad) o) (F0 m 54 ls [.int s0]) := by
  refine lv_istore_n (lv' := [(2, .int s0), (1, .int v1)]) E.x E.b d_Cmd_length_54 rfl hl (by decide) rfl (fun ls hl => ?_)
  exact bt_Cmd_length_55 E hret o σ v1 s0 h w (lv_sub hl [1, 0] rfl)
def F_Cmd_length (σ : Sg) (x0 : Int32) : Option (Int32) := if x0 = (21 : Int32) then (bd (F_Cmd_isThere σ ((σ.1 11) + 2)) (fun o5 => if o5 = (0 : Int32) then (F_Cmd_length_55 σ x0 0) else (bd (F_Cmd_read σ ((σ.1 11) + 2)) (fun o6 => if (0 : Int32) ≤ o6 then (if o6 ≤ (256 : Int32) then (F_Cmd_length_54 σ x0 o6) else (F_Cmd_length_54 σ x0 256)) else (F_Cmd_length_54 σ x0 0))))) else (F_Cmd_length_55 σ x0 0)
set_option maxRecDepth 10000 in
set_option maxHeartbeats 4000000 in
theorem c_Cmd_length (l : Launch) (D : va_G) (τ : ClassId × ClassId × ClassId) (B : Nat) (σ : Sg) (ad : Nat → Nat) (x0 : Int32) (o : Int32) (h : F_Cmd_length σ x0 = some o) : MI l y_Cmd_length (Cond.code y_Cmd_length prog_15_method_21_code 3 (some .int)) 1 D τ B [.ref (ad 60), .int x0] (wdM τ σ ad) (wdM τ σ ad) o := by
  refine en_i (by decide) (Nat.le_of_ble_eq_true rfl) ?_
  intro p e R s m args below meth c H locs ls A E hret w hl
  have E : Cx p R s m args meth c prog_15_method_21_code 3 "DrawingMachineModel$DrawCommandsModel" 1 D τ B A := E
  have hl : lv_has ls 3 [(0, .ref (ad 60)), (1, .int x0)] := hl
  refine lv_iconst (v := 0) E.x E.b d_Cmd_length_0 (by decide) ?_
  refine lv_istore_n (lv' := [(2, .int 0), (0, .ref (ad 60)), (1, .int x0)]) E.x E.b d_Cmd_length_1 rfl hl (by decide) rfl (fun ls hl => ?_)
  refine lv_iload_n E.x E.b d_Cmd_length_2 rfl (lv_at hl 2 rfl) ?_
  refine lv_bipush (v := 21) E.x E.b d_Cmd_length_3 (by decide) ?_
  refine lv_icmp_ne (tgt := 55) E.x E.b d_Cmd_length_5 (by decide) (fun c => ?_) (fun c => ?_)
  ·
    replace h := ifF c h
    exact bt_Cmd_length_55 E hret o σ x0 0 h w (lv_sub hl [2, 0] rfl)
  ·
    replace h := ifT c h
    refine lv_aload_n E.x E.b d_Cmd_length_8 rfl (lv_at hl 1 rfl) ?_
    refine lv_aload_n E.x E.b d_Cmd_length_9 rfl (lv_at hl 1 rfl) ?_
    refine gM_Cmd_at E w k1451 d_Cmd_length_10 ?_
    refine lv_iconst (v := 2) E.x E.b d_Cmd_length_13 (by decide) ?_
    refine lv_iadd E.x E.b d_Cmd_length_14 ?_
    obtain ⟨o5, h_o5, h⟩ := bd_some h
    refine clV_Cmd_isThere E w (x0 := ((σ.1 11) + 2)) h_o5 k1921 (by decide) hl.1 (Nat.le_of_ble_eq_true rfl) d_Cmd_length_15 (fun H locs w => ?_)
    refine lv_if_eq (tgt := 55) E.x E.b d_Cmd_length_18 (by decide) (fun c => ?_) (fun c => ?_)
    ·
      replace h := ifT c h
      exact bt_Cmd_length_55 E hret o σ x0 0 h w (lv_sub hl [2, 0] rfl)
    ·
      replace h := ifF c h
      refine lv_aload_n E.x E.b d_Cmd_length_21 rfl (lv_at hl 1 rfl) ?_
      refine lv_aload_n E.x E.b d_Cmd_length_22 rfl (lv_at hl 1 rfl) ?_
      refine gM_Cmd_at E w k1451 d_Cmd_length_23 ?_
      refine lv_iconst (v := 2) E.x E.b d_Cmd_length_26 (by decide) ?_
      refine lv_iadd E.x E.b d_Cmd_length_27 ?_
      obtain ⟨o6, h_o6, h⟩ := bd_some h
      refine clV_Cmd_read E w (x0 := ((σ.1 11) + 2)) h_o6 k1925 (by decide) hl.1 (Nat.le_of_ble_eq_true rfl) d_Cmd_length_28 (fun H locs w => ?_)
      refine lv_istore_n (lv' := [(2, .int o6), (0, .ref (ad 60)), (1, .int x0)]) E.x E.b d_Cmd_length_31 rfl hl (by decide) rfl (fun ls hl => ?_)
      refine lv_iload_n E.x E.b d_Cmd_length_32 rfl (lv_at hl 0 rfl) ?_
      refine lv_if_ge (tgt := 40) E.x E.b d_Cmd_length_33 (by decide) (fun c => ?_) (fun c => ?_)
      ·
        replace h := ifT c h
        refine lv_iload_n E.x E.b d_Cmd_length_40 rfl (lv_at hl 0 rfl) ?_
        refine lv_sipush (v := 256) E.x E.b d_Cmd_length_41 (by decide) ?_
        refine lv_icmp_le (tgt := 53) E.x E.b d_Cmd_length_44 (by decide) (fun c => ?_) (fun c => ?_)
        ·
          replace h := ifT c h
          refine lv_iload_n E.x E.b d_Cmd_length_53 rfl (lv_at hl 0 rfl) ?_
          exact bt_Cmd_length_54 E hret o σ x0 o6 h w (lv_sub hl [2] rfl)
        ·
          replace h := ifF c h
          refine lv_sipush (v := 256) E.x E.b d_Cmd_length_47 (by decide) ?_
          refine lv_goto (tgt := 54) E.x E.b d_Cmd_length_50 (by decide) ?_
          exact bt_Cmd_length_54 E hret o σ x0 256 h w (lv_sub hl [2] rfl)
      ·
        replace h := ifF c h
        refine lv_iconst (v := 0) E.x E.b d_Cmd_length_36 (by decide) ?_
        refine lv_goto (tgt := 54) E.x E.b d_Cmd_length_37 (by decide) ?_
        exact bt_Cmd_length_54 E hret o σ x0 0 h w (lv_sub hl [2] rfl)
theorem clV_Cmd_length {p : Program} {l : Launch} {e : Env} {R : Room} {s : State} {m : MethodId} {args : Array Value} {below : List Frame} {meth : Method} {c : Code} {H : Heap} {locs : List Loc} {Q : State → Prop} {cc : ByteArray} {nL pc lev : Nat} {own : String} {D : va_G} {τ : ClassId × ClassId × ClassId} {B : Nat} {A : Nat → Prop} {σ : Sg} {ad : Nat → Nat} {ls : Array Slot} {rest : List Value} (E : Cx p R s m args meth c cc nL own lev D τ B A) (w : Wd s D A (wdM τ σ ad) H locs) {x0 : Int32} {o : Int32} (h : F_Cmd_length σ x0 = some o) {index : Nat} (hlk : Cond.methodLink own index y_Cmd_length ∈ tw) (hlev : 1 < lev) (hsz : ls.size = nL) (hr : (rest.map fun v => v.category).sum ≤ 8) (hd : decode cc pc = .ok (.invokevirtual index, 3)) (kk : ∀ (H1 : Heap) (locs1 : List Loc), Wd s D A (wdM τ σ ad) H1 locs1 → W p l e R s m args below meth c H1 locs1 0 0 Q (F0 m (pc + 3) ls (.int o :: rest))) : W p l e R s m args below meth c H locs 0 0 Q (F0 m pc ls (.int x0 :: .ref (ad 60) :: rest)) :=
  cr_i w E.C (va_runV (As := [.int x0]) (rest := rest) E.fix (c_Cmd_length l D τ B σ ad x0 o h H.size) (cwV 1 E.w (tw_pre (tw_good k1933) (l := [_, _, _, _]) (List.forall_mem_cons.mpr ⟨hlk, List.forall_mem_cons.mpr ⟨k1932, List.forall_mem_cons.mpr ⟨ks53, List.forall_mem_cons.mpr ⟨k15, fun _ h => absurd h List.not_mem_nil⟩⟩⟩⟩)) rfl rfl rfl (by decide +kernel) (E.rm hlev (by decide))) (wd_preV w E.C [.int x0] rcM_Cmd rfl) rfl rfl hsz rfl (lv_room hr) hd ⟨Nat.zero_le _, Nat.zero_le _⟩) kk

theorem d_Cmd_isInMemory_0 : decode prog_15_method_22_code 0 = .ok (.lload_n 3, 1) := by decide +kernel
theorem d_Cmd_isInMemory_1 : decode prog_15_method_22_code 1 = .ok (.lconst 0, 1) := by decide +kernel
theorem d_Cmd_isInMemory_2 : decode prog_15_method_22_code 2 = .ok (.lcmp, 1) := by decide +kernel
theorem d_Cmd_isInMemory_3 : decode prog_15_method_22_code 3 = .ok (.ifCond .eq 13, 3) := by decide +kernel
theorem d_Cmd_isInMemory_6 : decode prog_15_method_22_code 6 = .ok (.lload_n 1, 1) := by decide +kernel
theorem d_Cmd_isInMemory_7 : decode prog_15_method_22_code 7 = .ok (.lload_n 3, 1) := by decide +kernel
theorem d_Cmd_isInMemory_8 : decode prog_15_method_22_code 8 = .ok (.ladd, 1) := by decide +kernel
theorem d_Cmd_isInMemory_9 : decode prog_15_method_22_code 9 = .ok (.ldc2_w 101, 3) := by decide +kernel
theorem d_Cmd_isInMemory_12 : decode prog_15_method_22_code 12 = .ok (.lcmp, 1) := by decide +kernel
theorem d_Cmd_isInMemory_13 : decode prog_15_method_22_code 13 = .ok (.ifCond .gt 7, 3) := by decide +kernel
theorem d_Cmd_isInMemory_16 : decode prog_15_method_22_code 16 = .ok (.iconst 1, 1) := by decide +kernel
theorem d_Cmd_isInMemory_17 : decode prog_15_method_22_code 17 = .ok (.goto 4, 3) := by decide +kernel
theorem d_Cmd_isInMemory_20 : decode prog_15_method_22_code 20 = .ok (.iconst 0, 1) := by decide +kernel
theorem d_Cmd_isInMemory_21 : decode prog_15_method_22_code 21 = .ok (.ireturn, 1) := by decide +kernel
def F_Cmd_isInMemory_21  (s0 : Int32) : Option (Int32) := ck (s0 = 0 ∨ s0 = 1) (some s0)
set_option maxRecDepth 10000 in
set_option maxHeartbeats 4000000 in
theorem bt_Cmd_isInMemory_21 {p : Program} {l : Launch} {e : Env} {R : Room} {s : State} {m : MethodId} {args : Array Value} {below : List Frame} {meth : Method} {c : Code} {D : va_G} {τ : ClassId × ClassId × ClassId} {B : Nat} {A : Nat → Prop} {ad : Nat → Nat} {σ0 : Sg} (E : Cx p R s m args meth c prog_15_method_22_code 5 "DrawingMachineModel$DrawCommandsModel" 0 D τ B A) (hret : meth.sig.returnType = (some .boolean)) (o : Int32) (s0 : Int32) (h : F_Cmd_isInMemory_21 s0 = some o) {H : Heap} {locs : List Loc} {ls : Array Slot} (w : Wd s D A (wdM τ σ0 ad) H locs) (hl : lv_has ls 5 []) : W p l e R s m args below meth c H locs 0 0 (QI below args s A D τ (wdM τ σ0 ad) o) (F0 m 21 ls [.int s0]) := by
  obtain ⟨c2, h⟩ := ck_some h
  obtain rfl := Option.some.inj h
  exact rt_z E w hret c2 d_Cmd_isInMemory_21
def F_Cmd_isInMemory_16  : Option (Int32) := F_Cmd_isInMemory_21 1
set_option maxRecDepth 10000 in
set_option maxHeartbeats 4000000 in
theorem bt_Cmd_isInMemory_16 {p : Program} {l : Launch} {e : Env} {R : Room} {s : State} {m : MethodId} {args : Array Value} {below : List Frame} {meth : Method} {c : Code} {D : va_G} {τ : ClassId × ClassId × ClassId} {B : Nat} {A : Nat → Prop} {ad : Nat → Nat} {σ0 : Sg} (E : Cx p R s m args meth c prog_15_method_22_code 5 "DrawingMachineModel$DrawCommandsModel" 0 D τ B A) (hret : meth.sig.returnType = (some .boolean)) (o : Int32) (h : F_Cmd_isInMemory_16 = some o) {H : Heap} {locs : List Loc} {ls : Array Slot} (w : Wd s D A (wdM τ σ0 ad) H locs) (hl : lv_has ls 5 []) : W p l e R s m args below meth c H locs 0 0 (QI below args s A D τ (wdM τ σ0 ad) o) (F0 m 16 ls []) := by
  refine lv_iconst (v := 1) E.x E.b d_Cmd_isInMemory_16 (by decide) ?_
  refine lv_goto (tgt := 21) E.x E.b d_Cmd_isInMemory_17 (by decide) ?_
  exact bt_Cmd_isInMemory_21 E hret o 1 h w (lv_sub hl [] rfl)
def F_Cmd_isInMemory  (x0 : Int64) (x1 : Int64) : Option (Int32) := if x1 = 0 then (F_Cmd_isInMemory_16) else (if 4096 < (x0 + x1) then (F_Cmd_isInMemory_21 0) else (F_Cmd_isInMemory_16))
set_option maxRecDepth 10000 in
set_option maxHeartbeats 4000000 in
theorem c_Cmd_isInMemory (l : Launch) (D : va_G) (τ : ClassId × ClassId × ClassId) (B : Nat) (σ0 : Sg) (ad : Nat → Nat) (x0 : Int64) (x1 : Int64) (o : Int32) (h : F_Cmd_isInMemory x0 x1 = some o) : MI l y_Cmd_isInMemory (Cond.code y_Cmd_isInMemory prog_15_method_22_code 5 (some .boolean)) 0 D τ B [.ref (ad 60), .long x0, .long x1] (wdM τ σ0 ad) (wdM τ σ0 ad) o := by
  refine en_i (by decide) (Nat.le_of_ble_eq_true rfl) ?_
  intro p e R s m args below meth c H locs ls A E hret w hl
  have E : Cx p R s m args meth c prog_15_method_22_code 5 "DrawingMachineModel$DrawCommandsModel" 0 D τ B A := E
  have hl : lv_has ls 5 [(0, .ref (ad 60)), (1, .long x0), (3, .long x1)] := hl
  refine lv_lload_n E.x E.b d_Cmd_isInMemory_0 rfl (lv_at hl 2 rfl) ?_
  refine lv_lconst (v := 0) E.x E.b d_Cmd_isInMemory_1 (by decide) ?_
  refine W.lcmp E.x E.b d_Cmd_isInMemory_2 ?_
  refine lv_if_eq (tgt := 16) E.x E.b d_Cmd_isInMemory_3 (by decide) (fun c => ?_) (fun c => ?_)
  ·
    replace h := ifT (lgc_eq.mp c) h
    exact bt_Cmd_isInMemory_16 E hret o h w (lv_sub hl [] rfl)
  ·
    replace h := ifF (fun h9 => c (lgc_eq.mpr h9)) h
    refine lv_lload_n E.x E.b d_Cmd_isInMemory_6 rfl (lv_at hl 1 rfl) ?_
    refine lv_lload_n E.x E.b d_Cmd_isInMemory_7 rfl (lv_at hl 2 rfl) ?_
    refine lv_ladd E.x E.b d_Cmd_isInMemory_8 ?_
    refine lv_ldc2 (v := 4096) E.x E.b E.o (E.w _ k1964) d_Cmd_isInMemory_9 ?_
    refine W.lcmp E.x E.b d_Cmd_isInMemory_12 ?_
    refine lv_if_gt (tgt := 20) E.x E.b d_Cmd_isInMemory_13 (by decide) (fun c => ?_) (fun c => ?_)
    ·
      replace h := ifT (lgc_gt.mp c) h
      refine lv_iconst (v := 0) E.x E.b d_Cmd_isInMemory_20 (by decide) ?_
      exact bt_Cmd_isInMemory_21 E hret o 0 h w (lv_sub hl [] rfl)
    ·
      replace h := ifF (fun h9 => c (lgc_gt.mpr h9)) h
      exact bt_Cmd_isInMemory_16 E hret o h w (lv_sub hl [] rfl)
theorem clV_Cmd_isInMemory {p : Program} {l : Launch} {e : Env} {R : Room} {s : State} {m : MethodId} {args : Array Value} {below : List Frame} {meth : Method} {c : Code} {H : Heap} {locs : List Loc} {Q : State → Prop} {cc : ByteArray} {nL pc lev : Nat} {own : String} {D : va_G} {τ : ClassId × ClassId × ClassId} {B : Nat} {A : Nat → Prop} {σ : Sg} {ad : Nat → Nat} {ls : Array Slot} {rest : List Value} (E : Cx p R s m args meth c cc nL own lev D τ B A) (w : Wd s D A (wdM τ σ ad) H locs) {x0 : Int64} {x1 : Int64} {o : Int32} (h : F_Cmd_isInMemory x0 x1 = some o) {index : Nat} (hlk : Cond.methodLink own index y_Cmd_isInMemory ∈ tw) (hlev : 0 < lev) (hsz : ls.size = nL) (hr : (rest.map fun v => v.category).sum ≤ 8) (hd : decode cc pc = .ok (.invokevirtual index, 3)) (kk : ∀ (H1 : Heap) (locs1 : List Loc), Wd s D A (wdM τ σ ad) H1 locs1 → W p l e R s m args below meth c H1 locs1 0 0 Q (F0 m (pc + 3) ls (.int o :: rest))) : W p l e R s m args below meth c H locs 0 0 Q (F0 m pc ls (.long x1 :: .long x0 :: .ref (ad 60) :: rest)) :=
  cr_i w E.C (va_runV (As := [.long x0, .long x1]) (rest := rest) E.fix (c_Cmd_isInMemory l D τ B σ ad x0 x1 o h H.size) (cwV 2 E.w (tw_pre (tw_good k1976) (l := [_, _, _, _]) (List.forall_mem_cons.mpr ⟨hlk, List.forall_mem_cons.mpr ⟨k1975, List.forall_mem_cons.mpr ⟨ks55, List.forall_mem_cons.mpr ⟨k15, fun _ h => absurd h List.not_mem_nil⟩⟩⟩⟩)) rfl rfl rfl (by decide +kernel) (E.rm hlev (by decide))) (wd_preV w E.C [.long x0, .long x1] rcM_Cmd rfl) rfl rfl hsz rfl (lv_room hr) hd ⟨Nat.zero_le _, Nat.zero_le _⟩) kk

theorem d_Cmd_liesRight_0 : decode prog_15_method_23_code 0 = .ok (.aload_n 0, 1) := by decide +kernel
theorem d_Cmd_liesRight_1 : decode prog_15_method_23_code 1 = .ok (.getfield 35, 3) := by decide +kernel
theorem d_Cmd_liesRight_4 : decode prog_15_method_23_code 4 = .ok (.iconst 0, 1) := by decide +kernel
theorem d_Cmd_liesRight_5 : decode prog_15_method_23_code 5 = .ok (.iaload, 1) := by decide +kernel
theorem d_Cmd_liesRight_6 : decode prog_15_method_23_code 6 = .ok (.istore_n 2, 1) := by decide +kernel
theorem d_Cmd_liesRight_7 : decode prog_15_method_23_code 7 = .ok (.aload_n 0, 1) := by decide +kernel
theorem d_Cmd_liesRight_8 : decode prog_15_method_23_code 8 = .ok (.getfield 35, 3) := by decide +kernel
theorem d_Cmd_liesRight_11 : decode prog_15_method_23_code 11 = .ok (.iconst 1, 1) := by decide +kernel
theorem d_Cmd_liesRight_12 : decode prog_15_method_23_code 12 = .ok (.iaload, 1) := by decide +kernel
theorem d_Cmd_liesRight_13 : decode prog_15_method_23_code 13 = .ok (.istore_n 3, 1) := by decide +kernel
theorem d_Cmd_liesRight_14 : decode prog_15_method_23_code 14 = .ok (.iload_n 1, 1) := by decide +kernel
theorem d_Cmd_liesRight_15 : decode prog_15_method_23_code 15 = .ok (.tableswitch 219 6 23 #[85, 119, 119, 219, 219, 219, 219, 219, 219, 219, 219, 219, 219, 219, 132, 197, 219, 206], 85) := by decide +kernel
theorem d_Cmd_liesRight_100 : decode prog_15_method_23_code 100 = .ok (.iload_n 2, 1) := by decide +kernel
theorem d_Cmd_liesRight_101 : decode prog_15_method_23_code 101 = .ok (.iload_n 3, 1) := by decide +kernel
theorem d_Cmd_liesRight_102 : decode prog_15_method_23_code 102 = .ok (.iadd, 1) := by decide +kernel
theorem d_Cmd_liesRight_103 : decode prog_15_method_23_code 103 = .ok (.bipush 32, 2) := by decide +kernel
theorem d_Cmd_liesRight_105 : decode prog_15_method_23_code 105 = .ok (.if_icmp .gt 27, 3) := by decide +kernel
theorem d_Cmd_liesRight_108 : decode prog_15_method_23_code 108 = .ok (.aload_n 0, 1) := by decide +kernel
theorem d_Cmd_liesRight_109 : decode prog_15_method_23_code 109 = .ok (.aload_n 0, 1) := by decide +kernel
theorem d_Cmd_liesRight_110 : decode prog_15_method_23_code 110 = .ok (.getfield 35, 3) := by decide +kernel
theorem d_Cmd_liesRight_113 : decode prog_15_method_23_code 113 = .ok (.iconst 2, 1) := by decide +kernel
theorem d_Cmd_liesRight_114 : decode prog_15_method_23_code 114 = .ok (.iaload, 1) := by decide +kernel
theorem d_Cmd_liesRight_115 : decode prog_15_method_23_code 115 = .ok (.i2l, 1) := by decide +kernel
theorem d_Cmd_liesRight_116 : decode prog_15_method_23_code 116 = .ok (.ldc2_w 83, 3) := by decide +kernel
theorem d_Cmd_liesRight_119 : decode prog_15_method_23_code 119 = .ok (.iload_n 3, 1) := by decide +kernel
theorem d_Cmd_liesRight_120 : decode prog_15_method_23_code 120 = .ok (.i2l, 1) := by decide +kernel
theorem d_Cmd_liesRight_121 : decode prog_15_method_23_code 121 = .ok (.lmul, 1) := by decide +kernel
theorem d_Cmd_liesRight_122 : decode prog_15_method_23_code 122 = .ok (.invokevirtual 156, 3) := by decide +kernel
theorem d_Cmd_liesRight_125 : decode prog_15_method_23_code 125 = .ok (.ifCond .eq 7, 3) := by decide +kernel
theorem d_Cmd_liesRight_128 : decode prog_15_method_23_code 128 = .ok (.iconst 1, 1) := by decide +kernel
theorem d_Cmd_liesRight_129 : decode prog_15_method_23_code 129 = .ok (.goto 4, 3) := by decide +kernel
theorem d_Cmd_liesRight_132 : decode prog_15_method_23_code 132 = .ok (.iconst 0, 1) := by decide +kernel
theorem d_Cmd_liesRight_133 : decode prog_15_method_23_code 133 = .ok (.ireturn, 1) := by decide +kernel
theorem d_Cmd_liesRight_134 : decode prog_15_method_23_code 134 = .ok (.aload_n 0, 1) := by decide +kernel
theorem d_Cmd_liesRight_135 : decode prog_15_method_23_code 135 = .ok (.iload_n 2, 1) := by decide +kernel
theorem d_Cmd_liesRight_136 : decode prog_15_method_23_code 136 = .ok (.i2l, 1) := by decide +kernel
theorem d_Cmd_liesRight_137 : decode prog_15_method_23_code 137 = .ok (.ldc2_w 65, 3) := by decide +kernel
theorem d_Cmd_liesRight_140 : decode prog_15_method_23_code 140 = .ok (.iload_n 3, 1) := by decide +kernel
theorem d_Cmd_liesRight_141 : decode prog_15_method_23_code 141 = .ok (.i2l, 1) := by decide +kernel
theorem d_Cmd_liesRight_142 : decode prog_15_method_23_code 142 = .ok (.lmul, 1) := by decide +kernel
theorem d_Cmd_liesRight_143 : decode prog_15_method_23_code 143 = .ok (.invokevirtual 156, 3) := by decide +kernel
theorem d_Cmd_liesRight_146 : decode prog_15_method_23_code 146 = .ok (.ireturn, 1) := by decide +kernel
theorem d_Cmd_liesRight_147 : decode prog_15_method_23_code 147 = .ok (.iload_n 2, 1) := by decide +kernel
theorem d_Cmd_liesRight_148 : decode prog_15_method_23_code 148 = .ok (.aload_n 0, 1) := by decide +kernel
theorem d_Cmd_liesRight_149 : decode prog_15_method_23_code 149 = .ok (.getfield 35, 3) := by decide +kernel
theorem d_Cmd_liesRight_152 : decode prog_15_method_23_code 152 = .ok (.iconst 2, 1) := by decide +kernel
theorem d_Cmd_liesRight_153 : decode prog_15_method_23_code 153 = .ok (.iaload, 1) := by decide +kernel
theorem d_Cmd_liesRight_154 : decode prog_15_method_23_code 154 = .ok (.iadd, 1) := by decide +kernel
theorem d_Cmd_liesRight_155 : decode prog_15_method_23_code 155 = .ok (.aload_n 0, 1) := by decide +kernel
theorem d_Cmd_liesRight_156 : decode prog_15_method_23_code 156 = .ok (.getfield 13, 3) := by decide +kernel
theorem d_Cmd_liesRight_159 : decode prog_15_method_23_code 159 = .ok (.if_icmp .gt 51, 3) := by decide +kernel
theorem d_Cmd_liesRight_162 : decode prog_15_method_23_code 162 = .ok (.iload_n 3, 1) := by decide +kernel
theorem d_Cmd_liesRight_163 : decode prog_15_method_23_code 163 = .ok (.aload_n 0, 1) := by decide +kernel
theorem d_Cmd_liesRight_164 : decode prog_15_method_23_code 164 = .ok (.getfield 35, 3) := by decide +kernel
theorem d_Cmd_liesRight_167 : decode prog_15_method_23_code 167 = .ok (.iconst 3, 1) := by decide +kernel
theorem d_Cmd_liesRight_168 : decode prog_15_method_23_code 168 = .ok (.iaload, 1) := by decide +kernel
theorem d_Cmd_liesRight_169 : decode prog_15_method_23_code 169 = .ok (.iadd, 1) := by decide +kernel
theorem d_Cmd_liesRight_170 : decode prog_15_method_23_code 170 = .ok (.aload_n 0, 1) := by decide +kernel
theorem d_Cmd_liesRight_171 : decode prog_15_method_23_code 171 = .ok (.getfield 17, 3) := by decide +kernel
theorem d_Cmd_liesRight_174 : decode prog_15_method_23_code 174 = .ok (.if_icmp .gt 36, 3) := by decide +kernel
theorem d_Cmd_liesRight_177 : decode prog_15_method_23_code 177 = .ok (.aload_n 0, 1) := by decide +kernel
theorem d_Cmd_liesRight_178 : decode prog_15_method_23_code 178 = .ok (.aload_n 0, 1) := by decide +kernel
theorem d_Cmd_liesRight_179 : decode prog_15_method_23_code 179 = .ok (.getfield 35, 3) := by decide +kernel
theorem d_Cmd_liesRight_182 : decode prog_15_method_23_code 182 = .ok (.iconst 4, 1) := by decide +kernel
theorem d_Cmd_liesRight_183 : decode prog_15_method_23_code 183 = .ok (.iaload, 1) := by decide +kernel
theorem d_Cmd_liesRight_184 : decode prog_15_method_23_code 184 = .ok (.i2l, 1) := by decide +kernel
theorem d_Cmd_liesRight_185 : decode prog_15_method_23_code 185 = .ok (.aload_n 0, 1) := by decide +kernel
theorem d_Cmd_liesRight_186 : decode prog_15_method_23_code 186 = .ok (.getfield 35, 3) := by decide +kernel
theorem d_Cmd_liesRight_189 : decode prog_15_method_23_code 189 = .ok (.iconst 2, 1) := by decide +kernel
theorem d_Cmd_liesRight_190 : decode prog_15_method_23_code 190 = .ok (.iaload, 1) := by decide +kernel
theorem d_Cmd_liesRight_191 : decode prog_15_method_23_code 191 = .ok (.i2l, 1) := by decide +kernel
theorem d_Cmd_liesRight_192 : decode prog_15_method_23_code 192 = .ok (.aload_n 0, 1) := by decide +kernel
theorem d_Cmd_liesRight_193 : decode prog_15_method_23_code 193 = .ok (.getfield 35, 3) := by decide +kernel
theorem d_Cmd_liesRight_196 : decode prog_15_method_23_code 196 = .ok (.iconst 3, 1) := by decide +kernel
theorem d_Cmd_liesRight_197 : decode prog_15_method_23_code 197 = .ok (.iaload, 1) := by decide +kernel
theorem d_Cmd_liesRight_198 : decode prog_15_method_23_code 198 = .ok (.i2l, 1) := by decide +kernel
theorem d_Cmd_liesRight_199 : decode prog_15_method_23_code 199 = .ok (.lmul, 1) := by decide +kernel
theorem d_Cmd_liesRight_200 : decode prog_15_method_23_code 200 = .ok (.invokevirtual 156, 3) := by decide +kernel
theorem d_Cmd_liesRight_203 : decode prog_15_method_23_code 203 = .ok (.ifCond .eq 7, 3) := by decide +kernel
theorem d_Cmd_liesRight_206 : decode prog_15_method_23_code 206 = .ok (.iconst 1, 1) := by decide +kernel
theorem d_Cmd_liesRight_207 : decode prog_15_method_23_code 207 = .ok (.goto 4, 3) := by decide +kernel
theorem d_Cmd_liesRight_210 : decode prog_15_method_23_code 210 = .ok (.iconst 0, 1) := by decide +kernel
theorem d_Cmd_liesRight_211 : decode prog_15_method_23_code 211 = .ok (.ireturn, 1) := by decide +kernel
theorem d_Cmd_liesRight_212 : decode prog_15_method_23_code 212 = .ok (.aload_n 0, 1) := by decide +kernel
theorem d_Cmd_liesRight_213 : decode prog_15_method_23_code 213 = .ok (.iload_n 2, 1) := by decide +kernel
theorem d_Cmd_liesRight_214 : decode prog_15_method_23_code 214 = .ok (.i2l, 1) := by decide +kernel
theorem d_Cmd_liesRight_215 : decode prog_15_method_23_code 215 = .ok (.iload_n 3, 1) := by decide +kernel
theorem d_Cmd_liesRight_216 : decode prog_15_method_23_code 216 = .ok (.i2l, 1) := by decide +kernel
theorem d_Cmd_liesRight_217 : decode prog_15_method_23_code 217 = .ok (.invokevirtual 156, 3) := by decide +kernel
theorem d_Cmd_liesRight_220 : decode prog_15_method_23_code 220 = .ok (.ireturn, 1) := by decide +kernel
theorem d_Cmd_liesRight_221 : decode prog_15_method_23_code 221 = .ok (.iload_n 2, 1) := by decide +kernel
theorem d_Cmd_liesRight_222 : decode prog_15_method_23_code 222 = .ok (.sipush 4096, 3) := by decide +kernel
theorem d_Cmd_liesRight_225 : decode prog_15_method_23_code 225 = .ok (.if_icmp .ge 7, 3) := by decide +kernel
theorem d_Cmd_liesRight_228 : decode prog_15_method_23_code 228 = .ok (.iconst 1, 1) := by decide +kernel
theorem d_Cmd_liesRight_229 : decode prog_15_method_23_code 229 = .ok (.goto 4, 3) := by decide +kernel
theorem d_Cmd_liesRight_232 : decode prog_15_method_23_code 232 = .ok (.iconst 0, 1) := by decide +kernel
theorem d_Cmd_liesRight_233 : decode prog_15_method_23_code 233 = .ok (.ireturn, 1) := by decide +kernel
theorem d_Cmd_liesRight_234 : decode prog_15_method_23_code 234 = .ok (.iconst 1, 1) := by decide +kernel
theorem d_Cmd_liesRight_235 : decode prog_15_method_23_code 235 = .ok (.ireturn, 1) := by decide +kernel
def F_Cmd_liesRight_234 (σ : Sg) : Option (Int32) := some 1
set_option maxRecDepth 10000 in
set_option maxHeartbeats 4000000 in
theorem bt_Cmd_liesRight_234 {p : Program} {l : Launch} {e : Env} {R : Room} {s : State} {m : MethodId} {args : Array Value} {below : List Frame} {meth : Method} {c : Code} {D : va_G} {τ : ClassId × ClassId × ClassId} {B : Nat} {A : Nat → Prop} {ad : Nat → Nat} (E : Cx p R s m args meth c prog_15_method_23_code 4 "DrawingMachineModel$DrawCommandsModel" 1 D τ B A) (hret : meth.sig.returnType = (some .boolean)) (o : Int32) (σ : Sg) (h : F_Cmd_liesRight_234 σ = some o) {H : Heap} {locs : List Loc} {ls : Array Slot} (w : Wd s D A (wdM τ σ ad) H locs) (hl : lv_has ls 4 []) : W p l e R s m args below meth c H locs 0 0 (QI below args s A D τ (wdM τ σ ad) o) (F0 m 234 ls []) := by
  refine lv_iconst (v := 1) E.x E.b d_Cmd_liesRight_234 (by decide) ?_
  obtain rfl := Option.some.inj h
  exact rt_z E w hret (show (1 : Int32) = 0 ∨ (1 : Int32) = 1 by decide) d_Cmd_liesRight_235
def F_Cmd_liesRight_233 (σ : Sg) (s0 : Int32) : Option (Int32) := ck (s0 = 0 ∨ s0 = 1) (some s0)
set_option maxRecDepth 10000 in
set_option maxHeartbeats 4000000 in
theorem bt_Cmd_liesRight_233 {p : Program} {l : Launch} {e : Env} {R : Room} {s : State} {m : MethodId} {args : Array Value} {below : List Frame} {meth : Method} {c : Code} {D : va_G} {τ : ClassId × ClassId × ClassId} {B : Nat} {A : Nat → Prop} {ad : Nat → Nat} (E : Cx p R s m args meth c prog_15_method_23_code 4 "DrawingMachineModel$DrawCommandsModel" 1 D τ B A) (hret : meth.sig.returnType = (some .boolean)) (o : Int32) (σ : Sg) (s0 : Int32) (h : F_Cmd_liesRight_233 σ s0 = some o) {H : Heap} {locs : List Loc} {ls : Array Slot} (w : Wd s D A (wdM τ σ ad) H locs) (hl : lv_has ls 4 []) : W p l e R s m args below meth c H locs 0 0 (QI below args s A D τ (wdM τ σ ad) o) (F0 m 233 ls [.int s0]) := by
  obtain ⟨c30, h⟩ := ck_some h
  obtain rfl := Option.some.inj h
  exact rt_z E w hret c30 d_Cmd_liesRight_233
def F_Cmd_liesRight_211 (σ : Sg) (s0 : Int32) : Option (Int32) := ck (s0 = 0 ∨ s0 = 1) (some s0)
set_option maxRecDepth 10000 in
set_option maxHeartbeats 4000000 in
theorem bt_Cmd_liesRight_211 {p : Program} {l : Launch} {e : Env} {R : Room} {s : State} {m : MethodId} {args : Array Value} {below : List Frame} {meth : Method} {c : Code} {D : va_G} {τ : ClassId × ClassId × ClassId} {B : Nat} {A : Nat → Prop} {ad : Nat → Nat} (E : Cx p R s m args meth c prog_15_method_23_code 4 "DrawingMachineModel$DrawCommandsModel" 1 D τ B A) (hret : meth.sig.returnType = (some .boolean)) (o : Int32) (σ : Sg) (s0 : Int32) (h : F_Cmd_liesRight_211 σ s0 = some o) {H : Heap} {locs : List Loc} {ls : Array Slot} (w : Wd s D A (wdM τ σ ad) H locs) (hl : lv_has ls 4 []) : W p l e R s m args below meth c H locs 0 0 (QI below args s A D τ (wdM τ σ ad) o) (F0 m 211 ls [.int s0]) := by
  obtain ⟨c31, h⟩ := ck_some h
  obtain rfl := Option.some.inj h
  exact rt_z E w hret c31 d_Cmd_liesRight_211
def F_Cmd_liesRight_210 (σ : Sg) : Option (Int32) := F_Cmd_liesRight_211 σ 0
set_option maxRecDepth 10000 in
set_option maxHeartbeats 4000000 in
theorem bt_Cmd_liesRight_210 {p : Program} {l : Launch} {e : Env} {R : Room} {s : State} {m : MethodId} {args : Array Value} {below : List Frame} {meth : Method} {c : Code} {D : va_G} {τ : ClassId × ClassId × ClassId} {B : Nat} {A : Nat → Prop} {ad : Nat → Nat} (E : Cx p R s m args meth c prog_15_method_23_code 4 "DrawingMachineModel$DrawCommandsModel" 1 D τ B A) (hret : meth.sig.returnType = (some .boolean)) (o : Int32) (σ : Sg) (h : F_Cmd_liesRight_210 σ = some o) {H : Heap} {locs : List Loc} {ls : Array Slot} (w : Wd s D A (wdM τ σ ad) H locs) (hl : lv_has ls 4 []) : W p l e R s m args below meth c H locs 0 0 (QI below args s A D τ (wdM τ σ ad) o) (F0 m 210 ls []) := by
  refine lv_iconst (v := 0) E.x E.b d_Cmd_liesRight_210 (by decide) ?_
  exact bt_Cmd_liesRight_211 E hret o σ 0 h w (lv_sub hl [] rfl)
def F_Cmd_liesRight_134 (σ : Sg) (v2 : Int32) (v3 : Int32) : Option (Int32) := bd (F_Cmd_isInMemory v2.toInt64 (3 * v3.toInt64)) (fun o32 => ck (o32 = 0 ∨ o32 = 1) (some o32))
set_option maxRecDepth 10000 in
set_option maxHeartbeats 4000000 in
theorem bt_Cmd_liesRight_134 {p : Program} {l : Launch} {e : Env} {R : Room} {s : State} {m : MethodId} {args : Array Value} {below : List Frame} {meth : Method} {c : Code} {D : va_G} {τ : ClassId × ClassId × ClassId} {B : Nat} {A : Nat → Prop} {ad : Nat → Nat} (E : Cx p R s m args meth c prog_15_method_23_code 4 "DrawingMachineModel$DrawCommandsModel" 1 D τ B A) (hret : meth.sig.returnType = (some .boolean)) (o : Int32) (σ : Sg) (v2 : Int32) (v3 : Int32) (h : F_Cmd_liesRight_134 σ v2 v3 = some o) {H : Heap} {locs : List Loc} {ls : Array Slot} (w : Wd s D A (wdM τ σ ad) H locs) (hl : lv_has ls 4 [(0, .ref (ad 60)), (2, .int v2), (3, .int v3)]) : W p l e R s m args below meth c H locs 0 0 (QI below args s A D τ (wdM τ σ ad) o) (F0 m 134 ls []) := by
  refine lv_aload_n E.x E.b d_Cmd_liesRight_134 rfl (lv_at hl 0 rfl) ?_
  refine lv_iload_n E.x E.b d_Cmd_liesRight_135 rfl (lv_at hl 1 rfl) ?_
  refine lv_i2l (v := v2.toInt64) E.x E.b d_Cmd_liesRight_136 rfl ?_
  refine lv_ldc2 (v := 3) E.x E.b E.o (E.w _ k1948) d_Cmd_liesRight_137 ?_
  refine lv_iload_n E.x E.b d_Cmd_liesRight_140 rfl (lv_at hl 2 rfl) ?_
  refine lv_i2l (v := v3.toInt64) E.x E.b d_Cmd_liesRight_141 rfl ?_
  refine lv_lmul E.x E.b d_Cmd_liesRight_142 ?_
  obtain ⟨o32, h_o32, h⟩ := bd_some h
  refine clV_Cmd_isInMemory E w (x0 := v2.toInt64) (x1 := (3 * v3.toInt64)) h_o32 k1973 (by decide) hl.1 (Nat.le_of_ble_eq_true rfl) d_Cmd_liesRight_143 (fun H locs w => ?_)
  obtain ⟨c33, h⟩ := ck_some h
  obtain rfl := Option.some.inj h
  exact rt_z E w hret c33 d_Cmd_liesRight_146
def F_Cmd_liesRight_133 (σ : Sg) (s0 : Int32) : Option (Int32) := ck (s0 = 0 ∨ s0 = 1) (some s0)
set_option maxRecDepth 10000 in
set_option maxHeartbeats 4000000 in
theorem bt_Cmd_liesRight_133 {p : Program} {l : Launch} {e : Env} {R : Room} {s : State} {m : MethodId} {args : Array Value} {below : List Frame} {meth : Method} {c : Code} {D : va_G} {τ : ClassId × ClassId × ClassId} {B : Nat} {A : Nat → Prop} {ad : Nat → Nat} (E : Cx p R s m args meth c prog_15_method_23_code 4 "DrawingMachineModel$DrawCommandsModel" 1 D τ B A) (hret : meth.sig.returnType = (some .boolean)) (o : Int32) (σ : Sg) (s0 : Int32) (h : F_Cmd_liesRight_133 σ s0 = some o) {H : Heap} {locs : List Loc} {ls : Array Slot} (w : Wd s D A (wdM τ σ ad) H locs) (hl : lv_has ls 4 []) : W p l e R s m args below meth c H locs 0 0 (QI below args s A D τ (wdM τ σ ad) o) (F0 m 133 ls [.int s0]) := by
  obtain ⟨c34, h⟩ := ck_some h
  obtain rfl := Option.some.inj h
  exact rt_z E w hret c34 d_Cmd_liesRight_133
def F_Cmd_liesRight_132 (σ : Sg) : Option (Int32) := F_Cmd_liesRight_133 σ 0
set_option maxRecDepth 10000 in
set_option maxHeartbeats 4000000 in
theorem bt_Cmd_liesRight_132 {p : Program} {l : Launch} {e : Env} {R : Room} {s : State} {m : MethodId} {args : Array Value} {below : List Frame} {meth : Method} {c : Code} {D : va_G} {τ : ClassId × ClassId × ClassId} {B : Nat} {A : Nat → Prop} {ad : Nat → Nat} (E : Cx p R s m args meth c prog_15_method_23_code 4 "DrawingMachineModel$DrawCommandsModel" 1 D τ B A) (hret : meth.sig.returnType = (some .boolean)) (o : Int32) (σ : Sg) (h : F_Cmd_liesRight_132 σ = some o) {H : Heap} {locs : List Loc} {ls : Array Slot} (w : Wd s D A (wdM τ σ ad) H locs) (hl : lv_has ls 4 []) : W p l e R s m args below meth c H locs 0 0 (QI below args s A D τ (wdM τ σ ad) o) (F0 m 132 ls []) := by
  refine lv_iconst (v := 0) E.x E.b d_Cmd_liesRight_132 (by decide) ?_
  exact bt_Cmd_liesRight_133 E hret o σ 0 h w (lv_sub hl [] rfl)
def F_Cmd_liesRight (σ : Sg) (x0 : Int32) : Option (Int32) := lt (σ.2.2.1 3 0 : Int32) (fun y35 => lt (σ.2.2.1 3 1 : Int32) (fun y36 => if x0 = 6 then (if (32 : Int32) < (y35 + y36) then (F_Cmd_liesRight_132 σ) else (bd (F_Cmd_isInMemory ((σ.2.2.1 3 2).toInt64) (4 * y36.toInt64)) (fun o38 => if o38 = (0 : Int32) then (F_Cmd_liesRight_132 σ) else (F_Cmd_liesRight_133 σ 1)))) else (if x0 = 7 then (F_Cmd_liesRight_134 σ y35 y36) else (if x0 = 8 then (F_Cmd_liesRight_134 σ y35 y36) else (if x0 = 9 then (F_Cmd_liesRight_234 σ) else (if x0 = 10 then (F_Cmd_liesRight_234 σ) else (if x0 = 11 then (F_Cmd_liesRight_234 σ) else (if x0 = 12 then (F_Cmd_liesRight_234 σ) else (if x0 = 13 then (F_Cmd_liesRight_234 σ) else (if x0 = 14 then (F_Cmd_liesRight_234 σ) else (if x0 = 15 then (F_Cmd_liesRight_234 σ) else (if x0 = 16 then (F_Cmd_liesRight_234 σ) else (if x0 = 17 then (F_Cmd_liesRight_234 σ) else (if x0 = 18 then (F_Cmd_liesRight_234 σ) else (if x0 = 19 then (F_Cmd_liesRight_234 σ) else (if x0 = 20 then (if (σ.1 8) < (y35 + (σ.2.2.1 3 2)) then (F_Cmd_liesRight_210 σ) else (if (σ.1 9) < (y36 + (σ.2.2.1 3 3)) then (F_Cmd_liesRight_210 σ) else (bd (F_Cmd_isInMemory ((σ.2.2.1 3 4).toInt64) (((σ.2.2.1 3 2).toInt64) * ((σ.2.2.1 3 3).toInt64))) (fun o53 => if o53 = (0 : Int32) then (F_Cmd_liesRight_210 σ) else (F_Cmd_liesRight_211 σ 1))))) else (if x0 = 21 then (bd (F_Cmd_isInMemory y35.toInt64 y36.toInt64) (fun o55 => ck (o55 = 0 ∨ o55 = 1) (some o55))) else (if x0 = 22 then (F_Cmd_liesRight_234 σ) else (if x0 = 23 then (if (4096 : Int32) ≤ y35 then (F_Cmd_liesRight_233 σ 0) else (F_Cmd_liesRight_233 σ 1)) else (F_Cmd_liesRight_234 σ))))))))))))))))))))
set_option maxRecDepth 10000 in
set_option maxHeartbeats 4000000 in
theorem c_Cmd_liesRight (l : Launch) (D : va_G) (τ : ClassId × ClassId × ClassId) (B : Nat) (σ : Sg) (ad : Nat → Nat) (x0 : Int32) (o : Int32) (h : F_Cmd_liesRight σ x0 = some o) : MI l y_Cmd_liesRight (Cond.code y_Cmd_liesRight prog_15_method_23_code 4 (some .boolean)) 1 D τ B [.ref (ad 60), .int x0] (wdM τ σ ad) (wdM τ σ ad) o := by
  refine en_i (by decide) (Nat.le_of_ble_eq_true rfl) ?_
  intro p e R s m args below meth c H locs ls A E hret w hl
  have E : Cx p R s m args meth c prog_15_method_23_code 4 "DrawingMachineModel$DrawCommandsModel" 1 D τ B A := E
  have hl : lv_has ls 4 [(0, .ref (ad 60)), (1, .int x0)] := hl
  refine lv_aload_n E.x E.b d_Cmd_liesRight_0 rfl (lv_at hl 0 rfl) ?_
  refine gM_Cmd_argument E w k1466 d_Cmd_liesRight_1 ?_
  refine lv_iconst (v := 0) E.x E.b d_Cmd_liesRight_4 (by decide) ?_
  refine ialM E w (k := 3) (by decide) (show inb 0 300 by decide) d_Cmd_liesRight_5 ?_
  refine wi_e (v := σ.2.2.1 3 0) rfl ?_
  obtain ⟨y35, e_y35, h⟩ := lt_some h
  refine wi_e (v := y35) e_y35 ?_
  refine lv_istore_n (lv' := [(2, .int y35), (0, .ref (ad 60)), (1, .int x0)]) E.x E.b d_Cmd_liesRight_6 rfl hl (by decide) rfl (fun ls hl => ?_)
  refine lv_aload_n E.x E.b d_Cmd_liesRight_7 rfl (lv_at hl 1 rfl) ?_
  refine gM_Cmd_argument E w k1466 d_Cmd_liesRight_8 ?_
  refine lv_iconst (v := 1) E.x E.b d_Cmd_liesRight_11 (by decide) ?_
  refine ialM E w (k := 3) (by decide) (show inb 1 300 by decide) d_Cmd_liesRight_12 ?_
  refine wi_e (v := σ.2.2.1 3 1) rfl ?_
  obtain ⟨y36, e_y36, h⟩ := lt_some h
  refine wi_e (v := y36) e_y36 ?_
  refine lv_istore_n (lv' := [(3, .int y36), (2, .int y35), (0, .ref (ad 60)), (1, .int x0)]) E.x E.b d_Cmd_liesRight_13 rfl hl (by decide) rfl (fun ls hl => ?_)
  refine lv_iload_n E.x E.b d_Cmd_liesRight_14 rfl (lv_at hl 3 rfl) ?_
  by_cases q37 : x0 = 6
  ·
    replace h := ifT q37 h
    refine wi_e (v := 6) q37 ?_
    refine lv_tableIn (off := 85) (tgt := 100) E.x E.b d_Cmd_liesRight_15 (by decide) (by decide) (by decide) (by decide) ?_
    refine lv_iload_n E.x E.b d_Cmd_liesRight_100 rfl (lv_at hl 1 rfl) ?_
    refine lv_iload_n E.x E.b d_Cmd_liesRight_101 rfl (lv_at hl 0 rfl) ?_
    refine lv_iadd E.x E.b d_Cmd_liesRight_102 ?_
    refine lv_bipush (v := 32) E.x E.b d_Cmd_liesRight_103 (by decide) ?_
    refine lv_icmp_gt (tgt := 132) E.x E.b d_Cmd_liesRight_105 (by decide) (fun c => ?_) (fun c => ?_)
    ·
      replace h := ifT c h
      exact bt_Cmd_liesRight_132 E hret o σ h w (lv_sub hl [] rfl)
    ·
      replace h := ifF c h
      refine lv_aload_n E.x E.b d_Cmd_liesRight_108 rfl (lv_at hl 2 rfl) ?_
      refine lv_aload_n E.x E.b d_Cmd_liesRight_109 rfl (lv_at hl 2 rfl) ?_
      refine gM_Cmd_argument E w k1466 d_Cmd_liesRight_110 ?_
      refine lv_iconst (v := 2) E.x E.b d_Cmd_liesRight_113 (by decide) ?_
      refine ialM E w (k := 3) (by decide) (show inb 2 300 by decide) d_Cmd_liesRight_114 ?_
      refine wi_e (v := σ.2.2.1 3 2) rfl ?_
      refine lv_i2l (v := (σ.2.2.1 3 2).toInt64) E.x E.b d_Cmd_liesRight_115 rfl ?_
      refine lv_ldc2 (v := 4) E.x E.b E.o (E.w _ k1947) d_Cmd_liesRight_116 ?_
      refine lv_iload_n E.x E.b d_Cmd_liesRight_119 rfl (lv_at hl 0 rfl) ?_
      refine lv_i2l (v := y36.toInt64) E.x E.b d_Cmd_liesRight_120 rfl ?_
      refine lv_lmul E.x E.b d_Cmd_liesRight_121 ?_
      obtain ⟨o38, h_o38, h⟩ := bd_some h
      refine clV_Cmd_isInMemory E w (x0 := ((σ.2.2.1 3 2).toInt64)) (x1 := (4 * y36.toInt64)) h_o38 k1973 (by decide) hl.1 (Nat.le_of_ble_eq_true rfl) d_Cmd_liesRight_122 (fun H locs w => ?_)
      refine lv_if_eq (tgt := 132) E.x E.b d_Cmd_liesRight_125 (by decide) (fun c => ?_) (fun c => ?_)
      ·
        replace h := ifT c h
        exact bt_Cmd_liesRight_132 E hret o σ h w (lv_sub hl [] rfl)
      ·
        replace h := ifF c h
        refine lv_iconst (v := 1) E.x E.b d_Cmd_liesRight_128 (by decide) ?_
        refine lv_goto (tgt := 133) E.x E.b d_Cmd_liesRight_129 (by decide) ?_
        exact bt_Cmd_liesRight_133 E hret o σ 1 h w (lv_sub hl [] rfl)
  replace h := ifF q37 h
  replace q37 := ne_ti (k := 6) (by decide) q37
  by_cases q39 : x0 = 7
  ·
    replace h := ifT q39 h
    refine wi_e (v := 7) q39 ?_
    refine lv_tableIn (off := 119) (tgt := 134) E.x E.b d_Cmd_liesRight_15 (by decide) (by decide) (by decide) (by decide) ?_
    exact bt_Cmd_liesRight_134 E hret o σ y35 y36 h w (lv_sub hl [2, 1, 0] rfl)
  replace h := ifF q39 h
  replace q39 := ne_ti (k := 7) (by decide) q39
  by_cases q40 : x0 = 8
  ·
    replace h := ifT q40 h
    refine wi_e (v := 8) q40 ?_
    refine lv_tableIn (off := 119) (tgt := 134) E.x E.b d_Cmd_liesRight_15 (by decide) (by decide) (by decide) (by decide) ?_
    exact bt_Cmd_liesRight_134 E hret o σ y35 y36 h w (lv_sub hl [2, 1, 0] rfl)
  replace h := ifF q40 h
  replace q40 := ne_ti (k := 8) (by decide) q40
  by_cases q41 : x0 = 9
  ·
    replace h := ifT q41 h
    refine wi_e (v := 9) q41 ?_
    refine lv_tableIn (off := 219) (tgt := 234) E.x E.b d_Cmd_liesRight_15 (by decide) (by decide) (by decide) (by decide) ?_
    exact bt_Cmd_liesRight_234 E hret o σ h w (lv_sub hl [] rfl)
  replace h := ifF q41 h
  replace q41 := ne_ti (k := 9) (by decide) q41
  by_cases q42 : x0 = 10
  ·
    replace h := ifT q42 h
    refine wi_e (v := 10) q42 ?_
    refine lv_tableIn (off := 219) (tgt := 234) E.x E.b d_Cmd_liesRight_15 (by decide) (by decide) (by decide) (by decide) ?_
    exact bt_Cmd_liesRight_234 E hret o σ h w (lv_sub hl [] rfl)
  replace h := ifF q42 h
  replace q42 := ne_ti (k := 10) (by decide) q42
  by_cases q43 : x0 = 11
  ·
    replace h := ifT q43 h
    refine wi_e (v := 11) q43 ?_
    refine lv_tableIn (off := 219) (tgt := 234) E.x E.b d_Cmd_liesRight_15 (by decide) (by decide) (by decide) (by decide) ?_
    exact bt_Cmd_liesRight_234 E hret o σ h w (lv_sub hl [] rfl)
  replace h := ifF q43 h
  replace q43 := ne_ti (k := 11) (by decide) q43
  by_cases q44 : x0 = 12
  ·
    replace h := ifT q44 h
    refine wi_e (v := 12) q44 ?_
    refine lv_tableIn (off := 219) (tgt := 234) E.x E.b d_Cmd_liesRight_15 (by decide) (by decide) (by decide) (by decide) ?_
    exact bt_Cmd_liesRight_234 E hret o σ h w (lv_sub hl [] rfl)
  replace h := ifF q44 h
  replace q44 := ne_ti (k := 12) (by decide) q44
  by_cases q45 : x0 = 13
  ·
    replace h := ifT q45 h
    refine wi_e (v := 13) q45 ?_
    refine lv_tableIn (off := 219) (tgt := 234) E.x E.b d_Cmd_liesRight_15 (by decide) (by decide) (by decide) (by decide) ?_
    exact bt_Cmd_liesRight_234 E hret o σ h w (lv_sub hl [] rfl)
  replace h := ifF q45 h
  replace q45 := ne_ti (k := 13) (by decide) q45
  by_cases q46 : x0 = 14
  ·
    replace h := ifT q46 h
    refine wi_e (v := 14) q46 ?_
    refine lv_tableIn (off := 219) (tgt := 234) E.x E.b d_Cmd_liesRight_15 (by decide) (by decide) (by decide) (by decide) ?_
    exact bt_Cmd_liesRight_234 E hret o σ h w (lv_sub hl [] rfl)
  replace h := ifF q46 h
  replace q46 := ne_ti (k := 14) (by decide) q46
  by_cases q47 : x0 = 15
  ·
    replace h := ifT q47 h
    refine wi_e (v := 15) q47 ?_
    refine lv_tableIn (off := 219) (tgt := 234) E.x E.b d_Cmd_liesRight_15 (by decide) (by decide) (by decide) (by decide) ?_
    exact bt_Cmd_liesRight_234 E hret o σ h w (lv_sub hl [] rfl)
  replace h := ifF q47 h
  replace q47 := ne_ti (k := 15) (by decide) q47
  by_cases q48 : x0 = 16
  ·
    replace h := ifT q48 h
    refine wi_e (v := 16) q48 ?_
    refine lv_tableIn (off := 219) (tgt := 234) E.x E.b d_Cmd_liesRight_15 (by decide) (by decide) (by decide) (by decide) ?_
    exact bt_Cmd_liesRight_234 E hret o σ h w (lv_sub hl [] rfl)
  replace h := ifF q48 h
  replace q48 := ne_ti (k := 16) (by decide) q48
  by_cases q49 : x0 = 17
  ·
    replace h := ifT q49 h
    refine wi_e (v := 17) q49 ?_
    refine lv_tableIn (off := 219) (tgt := 234) E.x E.b d_Cmd_liesRight_15 (by decide) (by decide) (by decide) (by decide) ?_
    exact bt_Cmd_liesRight_234 E hret o σ h w (lv_sub hl [] rfl)
  replace h := ifF q49 h
  replace q49 := ne_ti (k := 17) (by decide) q49
  by_cases q50 : x0 = 18
  ·
    replace h := ifT q50 h
    refine wi_e (v := 18) q50 ?_
    refine lv_tableIn (off := 219) (tgt := 234) E.x E.b d_Cmd_liesRight_15 (by decide) (by decide) (by decide) (by decide) ?_
    exact bt_Cmd_liesRight_234 E hret o σ h w (lv_sub hl [] rfl)
  replace h := ifF q50 h
  replace q50 := ne_ti (k := 18) (by decide) q50
  by_cases q51 : x0 = 19
  ·
    replace h := ifT q51 h
    refine wi_e (v := 19) q51 ?_
    refine lv_tableIn (off := 219) (tgt := 234) E.x E.b d_Cmd_liesRight_15 (by decide) (by decide) (by decide) (by decide) ?_
    exact bt_Cmd_liesRight_234 E hret o σ h w (lv_sub hl [] rfl)
  replace h := ifF q51 h
  replace q51 := ne_ti (k := 19) (by decide) q51
  by_cases q52 : x0 = 20
  ·
    replace h := ifT q52 h
    refine wi_e (v := 20) q52 ?_
    refine lv_tableIn (off := 132) (tgt := 147) E.x E.b d_Cmd_liesRight_15 (by decide) (by decide) (by decide) (by decide) ?_
    refine lv_iload_n E.x E.b d_Cmd_liesRight_147 rfl (lv_at hl 1 rfl) ?_
    refine lv_aload_n E.x E.b d_Cmd_liesRight_148 rfl (lv_at hl 2 rfl) ?_
    refine gM_Cmd_argument E w k1466 d_Cmd_liesRight_149 ?_
    refine lv_iconst (v := 2) E.x E.b d_Cmd_liesRight_152 (by decide) ?_
    refine ialM E w (k := 3) (by decide) (show inb 2 300 by decide) d_Cmd_liesRight_153 ?_
    refine wi_e (v := σ.2.2.1 3 2) rfl ?_
    refine lv_iadd E.x E.b d_Cmd_liesRight_154 ?_
    refine lv_aload_n E.x E.b d_Cmd_liesRight_155 rfl (lv_at hl 2 rfl) ?_
    refine gM_Cmd_wide E w k1446 d_Cmd_liesRight_156 ?_
    refine lv_icmp_gt (tgt := 210) E.x E.b d_Cmd_liesRight_159 (by decide) (fun c => ?_) (fun c => ?_)
    ·
      replace h := ifT c h
      exact bt_Cmd_liesRight_210 E hret o σ h w (lv_sub hl [] rfl)
    ·
      replace h := ifF c h
      refine lv_iload_n E.x E.b d_Cmd_liesRight_162 rfl (lv_at hl 0 rfl) ?_
      refine lv_aload_n E.x E.b d_Cmd_liesRight_163 rfl (lv_at hl 2 rfl) ?_
      refine gM_Cmd_argument E w k1466 d_Cmd_liesRight_164 ?_
      refine lv_iconst (v := 3) E.x E.b d_Cmd_liesRight_167 (by decide) ?_
      refine ialM E w (k := 3) (by decide) (show inb 3 300 by decide) d_Cmd_liesRight_168 ?_
      refine wi_e (v := σ.2.2.1 3 3) rfl ?_
      refine lv_iadd E.x E.b d_Cmd_liesRight_169 ?_
      refine lv_aload_n E.x E.b d_Cmd_liesRight_170 rfl (lv_at hl 2 rfl) ?_
      refine gM_Cmd_high E w k1447 d_Cmd_liesRight_171 ?_
      refine lv_icmp_gt (tgt := 210) E.x E.b d_Cmd_liesRight_174 (by decide) (fun c => ?_) (fun c => ?_)
      ·
        replace h := ifT c h
        exact bt_Cmd_liesRight_210 E hret o σ h w (lv_sub hl [] rfl)
      ·
        replace h := ifF c h
        refine lv_aload_n E.x E.b d_Cmd_liesRight_177 rfl (lv_at hl 2 rfl) ?_
        refine lv_aload_n E.x E.b d_Cmd_liesRight_178 rfl (lv_at hl 2 rfl) ?_
        refine gM_Cmd_argument E w k1466 d_Cmd_liesRight_179 ?_
        refine lv_iconst (v := 4) E.x E.b d_Cmd_liesRight_182 (by decide) ?_
        refine ialM E w (k := 3) (by decide) (show inb 4 300 by decide) d_Cmd_liesRight_183 ?_
        refine wi_e (v := σ.2.2.1 3 4) rfl ?_
        refine lv_i2l (v := (σ.2.2.1 3 4).toInt64) E.x E.b d_Cmd_liesRight_184 rfl ?_
        refine lv_aload_n E.x E.b d_Cmd_liesRight_185 rfl (lv_at hl 2 rfl) ?_
        refine gM_Cmd_argument E w k1466 d_Cmd_liesRight_186 ?_
        refine lv_iconst (v := 2) E.x E.b d_Cmd_liesRight_189 (by decide) ?_
        refine ialM E w (k := 3) (by decide) (show inb 2 300 by decide) d_Cmd_liesRight_190 ?_
        refine wi_e (v := σ.2.2.1 3 2) rfl ?_
        refine lv_i2l (v := (σ.2.2.1 3 2).toInt64) E.x E.b d_Cmd_liesRight_191 rfl ?_
        refine lv_aload_n E.x E.b d_Cmd_liesRight_192 rfl (lv_at hl 2 rfl) ?_
        refine gM_Cmd_argument E w k1466 d_Cmd_liesRight_193 ?_
        refine lv_iconst (v := 3) E.x E.b d_Cmd_liesRight_196 (by decide) ?_
        refine ialM E w (k := 3) (by decide) (show inb 3 300 by decide) d_Cmd_liesRight_197 ?_
        refine wi_e (v := σ.2.2.1 3 3) rfl ?_
        refine lv_i2l (v := (σ.2.2.1 3 3).toInt64) E.x E.b d_Cmd_liesRight_198 rfl ?_
        refine lv_lmul E.x E.b d_Cmd_liesRight_199 ?_
        obtain ⟨o53, h_o53, h⟩ := bd_some h
        refine clV_Cmd_isInMemory E w (x0 := ((σ.2.2.1 3 4).toInt64)) (x1 := (((σ.2.2.1 3 2).toInt64) * ((σ.2.2.1 3 3).toInt64))) h_o53 k1973 (by decide) hl.1 (Nat.le_of_ble_eq_true rfl) d_Cmd_liesRight_200 (fun H locs w => ?_)
        refine lv_if_eq (tgt := 210) E.x E.b d_Cmd_liesRight_203 (by decide) (fun c => ?_) (fun c => ?_)
        ·
          replace h := ifT c h
          exact bt_Cmd_liesRight_210 E hret o σ h w (lv_sub hl [] rfl)
        ·
          replace h := ifF c h
          refine lv_iconst (v := 1) E.x E.b d_Cmd_liesRight_206 (by decide) ?_
          refine lv_goto (tgt := 211) E.x E.b d_Cmd_liesRight_207 (by decide) ?_
          exact bt_Cmd_liesRight_211 E hret o σ 1 h w (lv_sub hl [] rfl)
  replace h := ifF q52 h
  replace q52 := ne_ti (k := 20) (by decide) q52
  by_cases q54 : x0 = 21
  ·
    replace h := ifT q54 h
    refine wi_e (v := 21) q54 ?_
    refine lv_tableIn (off := 197) (tgt := 212) E.x E.b d_Cmd_liesRight_15 (by decide) (by decide) (by decide) (by decide) ?_
    refine lv_aload_n E.x E.b d_Cmd_liesRight_212 rfl (lv_at hl 2 rfl) ?_
    refine lv_iload_n E.x E.b d_Cmd_liesRight_213 rfl (lv_at hl 1 rfl) ?_
    refine lv_i2l (v := y35.toInt64) E.x E.b d_Cmd_liesRight_214 rfl ?_
    refine lv_iload_n E.x E.b d_Cmd_liesRight_215 rfl (lv_at hl 0 rfl) ?_
    refine lv_i2l (v := y36.toInt64) E.x E.b d_Cmd_liesRight_216 rfl ?_
    obtain ⟨o55, h_o55, h⟩ := bd_some h
    refine clV_Cmd_isInMemory E w (x0 := y35.toInt64) (x1 := y36.toInt64) h_o55 k1973 (by decide) hl.1 (Nat.le_of_ble_eq_true rfl) d_Cmd_liesRight_217 (fun H locs w => ?_)
    obtain ⟨c56, h⟩ := ck_some h
    obtain rfl := Option.some.inj h
    exact rt_z E w hret c56 d_Cmd_liesRight_220
  replace h := ifF q54 h
  replace q54 := ne_ti (k := 21) (by decide) q54
  by_cases q57 : x0 = 22
  ·
    replace h := ifT q57 h
    refine wi_e (v := 22) q57 ?_
    refine lv_tableIn (off := 219) (tgt := 234) E.x E.b d_Cmd_liesRight_15 (by decide) (by decide) (by decide) (by decide) ?_
    exact bt_Cmd_liesRight_234 E hret o σ h w (lv_sub hl [] rfl)
  replace h := ifF q57 h
  replace q57 := ne_ti (k := 22) (by decide) q57
  by_cases q58 : x0 = 23
  ·
    replace h := ifT q58 h
    refine wi_e (v := 23) q58 ?_
    refine lv_tableIn (off := 206) (tgt := 221) E.x E.b d_Cmd_liesRight_15 (by decide) (by decide) (by decide) (by decide) ?_
    refine lv_iload_n E.x E.b d_Cmd_liesRight_221 rfl (lv_at hl 1 rfl) ?_
    refine lv_sipush (v := 4096) E.x E.b d_Cmd_liesRight_222 (by decide) ?_
    refine lv_icmp_ge (tgt := 232) E.x E.b d_Cmd_liesRight_225 (by decide) (fun c => ?_) (fun c => ?_)
    ·
      replace h := ifT c h
      refine lv_iconst (v := 0) E.x E.b d_Cmd_liesRight_232 (by decide) ?_
      exact bt_Cmd_liesRight_233 E hret o σ 0 h w (lv_sub hl [] rfl)
    ·
      replace h := ifF c h
      refine lv_iconst (v := 1) E.x E.b d_Cmd_liesRight_228 (by decide) ?_
      refine lv_goto (tgt := 233) E.x E.b d_Cmd_liesRight_229 (by decide) ?_
      exact bt_Cmd_liesRight_233 E hret o σ 1 h w (lv_sub hl [] rfl)
  replace h := ifF q58 h
  replace q58 := ne_ti (k := 23) (by decide) q58
  refine lv_tableOut (tgt := 234) E.x E.b d_Cmd_liesRight_15 (by omega) (by decide) ?_
  exact bt_Cmd_liesRight_234 E hret o σ h w (lv_sub hl [] rfl)
theorem clV_Cmd_liesRight {p : Program} {l : Launch} {e : Env} {R : Room} {s : State} {m : MethodId} {args : Array Value} {below : List Frame} {meth : Method} {c : Code} {H : Heap} {locs : List Loc} {Q : State → Prop} {cc : ByteArray} {nL pc lev : Nat} {own : String} {D : va_G} {τ : ClassId × ClassId × ClassId} {B : Nat} {A : Nat → Prop} {σ : Sg} {ad : Nat → Nat} {ls : Array Slot} {rest : List Value} (E : Cx p R s m args meth c cc nL own lev D τ B A) (w : Wd s D A (wdM τ σ ad) H locs) {x0 : Int32} {o : Int32} (h : F_Cmd_liesRight σ x0 = some o) {index : Nat} (hlk : Cond.methodLink own index y_Cmd_liesRight ∈ tw) (hlev : 1 < lev) (hsz : ls.size = nL) (hr : (rest.map fun v => v.category).sum ≤ 8) (hd : decode cc pc = .ok (.invokevirtual index, 3)) (kk : ∀ (H1 : Heap) (locs1 : List Loc), Wd s D A (wdM τ σ ad) H1 locs1 → W p l e R s m args below meth c H1 locs1 0 0 Q (F0 m (pc + 3) ls (.int o :: rest))) : W p l e R s m args below meth c H locs 0 0 Q (F0 m pc ls (.int x0 :: .ref (ad 60) :: rest)) :=
  cr_i w E.C (va_runV (As := [.int x0]) (rest := rest) E.fix (c_Cmd_liesRight l D τ B σ ad x0 o h H.size) (cwV 1 E.w (tw_pre (tw_good k1972) (l := [_, _, _, _]) (List.forall_mem_cons.mpr ⟨hlk, List.forall_mem_cons.mpr ⟨k1971, List.forall_mem_cons.mpr ⟨ks54, List.forall_mem_cons.mpr ⟨k15, fun _ h => absurd h List.not_mem_nil⟩⟩⟩⟩)) rfl rfl rfl (by decide +kernel) (E.rm hlev (by decide))) (wd_preV w E.C [.int x0] rcM_Cmd rfl) rfl rfl hsz rfl (lv_room hr) hd ⟨Nat.zero_le _, Nat.zero_le _⟩) kk

theorem d_Cmd_isCopys_0 : decode prog_15_method_8_code 0 = .ok (.iload_n 0, 1) := by decide +kernel
theorem d_Cmd_isCopys_1 : decode prog_15_method_8_code 1 = .ok (.iconst 2, 1) := by decide +kernel
theorem d_Cmd_isCopys_2 : decode prog_15_method_8_code 2 = .ok (.if_icmp .ge 15, 3) := by decide +kernel
theorem d_Cmd_isCopys_5 : decode prog_15_method_8_code 5 = .ok (.iload_n 1, 1) := by decide +kernel
theorem d_Cmd_isCopys_6 : decode prog_15_method_8_code 6 = .ok (.i2l, 1) := by decide +kernel
theorem d_Cmd_isCopys_7 : decode prog_15_method_8_code 7 = .ok (.lconst 0, 1) := by decide +kernel
theorem d_Cmd_isCopys_8 : decode prog_15_method_8_code 8 = .ok (.ldc2_w 73, 3) := by decide +kernel
theorem d_Cmd_isCopys_11 : decode prog_15_method_8_code 11 = .ok (.invokestatic 51, 3) := by decide +kernel
theorem d_Cmd_isCopys_14 : decode prog_15_method_8_code 14 = .ok (.goto 46, 3) := by decide +kernel
theorem d_Cmd_isCopys_17 : decode prog_15_method_8_code 17 = .ok (.iload_n 0, 1) := by decide +kernel
theorem d_Cmd_isCopys_18 : decode prog_15_method_8_code 18 = .ok (.iconst 4, 1) := by decide +kernel
theorem d_Cmd_isCopys_19 : decode prog_15_method_8_code 19 = .ok (.if_icmp .ge 15, 3) := by decide +kernel
theorem d_Cmd_isCopys_22 : decode prog_15_method_8_code 22 = .ok (.iload_n 1, 1) := by decide +kernel
theorem d_Cmd_isCopys_23 : decode prog_15_method_8_code 23 = .ok (.i2l, 1) := by decide +kernel
theorem d_Cmd_isCopys_24 : decode prog_15_method_8_code 24 = .ok (.lconst 1, 1) := by decide +kernel
theorem d_Cmd_isCopys_25 : decode prog_15_method_8_code 25 = .ok (.ldc2_w 75, 3) := by decide +kernel
theorem d_Cmd_isCopys_28 : decode prog_15_method_8_code 28 = .ok (.invokestatic 51, 3) := by decide +kernel
theorem d_Cmd_isCopys_31 : decode prog_15_method_8_code 31 = .ok (.goto 29, 3) := by decide +kernel
theorem d_Cmd_isCopys_34 : decode prog_15_method_8_code 34 = .ok (.iload_n 0, 1) := by decide +kernel
theorem d_Cmd_isCopys_35 : decode prog_15_method_8_code 35 = .ok (.iconst 4, 1) := by decide +kernel
theorem d_Cmd_isCopys_36 : decode prog_15_method_8_code 36 = .ok (.if_icmp .ne 15, 3) := by decide +kernel
theorem d_Cmd_isCopys_39 : decode prog_15_method_8_code 39 = .ok (.iload_n 1, 1) := by decide +kernel
theorem d_Cmd_isCopys_40 : decode prog_15_method_8_code 40 = .ok (.i2l, 1) := by decide +kernel
theorem d_Cmd_isCopys_41 : decode prog_15_method_8_code 41 = .ok (.lconst 0, 1) := by decide +kernel
theorem d_Cmd_isCopys_42 : decode prog_15_method_8_code 42 = .ok (.ldc2_w 67, 3) := by decide +kernel
theorem d_Cmd_isCopys_45 : decode prog_15_method_8_code 45 = .ok (.invokestatic 51, 3) := by decide +kernel
theorem d_Cmd_isCopys_48 : decode prog_15_method_8_code 48 = .ok (.goto 12, 3) := by decide +kernel
theorem d_Cmd_isCopys_51 : decode prog_15_method_8_code 51 = .ok (.iload_n 1, 1) := by decide +kernel
theorem d_Cmd_isCopys_52 : decode prog_15_method_8_code 52 = .ok (.i2l, 1) := by decide +kernel
theorem d_Cmd_isCopys_53 : decode prog_15_method_8_code 53 = .ok (.lconst 0, 1) := by decide +kernel
theorem d_Cmd_isCopys_54 : decode prog_15_method_8_code 54 = .ok (.ldc2_w 77, 3) := by decide +kernel
theorem d_Cmd_isCopys_57 : decode prog_15_method_8_code 57 = .ok (.invokestatic 51, 3) := by decide +kernel
theorem d_Cmd_isCopys_60 : decode prog_15_method_8_code 60 = .ok (.ireturn, 1) := by decide +kernel
def F_Cmd_isCopys_60  (s0 : Int32) : Option (Int32) := ck (s0 = 0 ∨ s0 = 1) (some s0)
set_option maxRecDepth 10000 in
set_option maxHeartbeats 4000000 in
theorem bt_Cmd_isCopys_60 {p : Program} {l : Launch} {e : Env} {R : Room} {s : State} {m : MethodId} {args : Array Value} {below : List Frame} {meth : Method} {c : Code} {D : va_G} {τ : ClassId × ClassId × ClassId} {B : Nat} {A : Nat → Prop} {ad : Nat → Nat} {σ0 : Sg} (E : Cx p R s m args meth c prog_15_method_8_code 2 "DrawingMachineModel$DrawCommandsModel" 1 D τ B A) (hret : meth.sig.returnType = (some .boolean)) (o : Int32) (s0 : Int32) (h : F_Cmd_isCopys_60 s0 = some o) {H : Heap} {locs : List Loc} {ls : Array Slot} (w : Wd s D A (wdM τ σ0 ad) H locs) (hl : lv_has ls 2 []) : W p l e R s m args below meth c H locs 0 0 (QI below args s A D τ (wdM τ σ0 ad) o) (F0 m 60 ls [.int s0]) := by
  obtain ⟨c6, h⟩ := ck_some h
  obtain rfl := Option.some.inj h
  exact rt_z E w hret c6 d_Cmd_isCopys_60
def F_Cmd_isCopys  (x0 : Int32) (x1 : Int32) : Option (Int32) := if (2 : Int32) ≤ x0 then (if (4 : Int32) ≤ x0 then (if x0 = (4 : Int32) then (bd (F_Cmd_in x1.toInt64 0 1048576) (fun o8 => F_Cmd_isCopys_60 o8)) else (bd (F_Cmd_in x1.toInt64 0 2) (fun o7 => F_Cmd_isCopys_60 o7))) else (bd (F_Cmd_in x1.toInt64 1 128) (fun o9 => F_Cmd_isCopys_60 o9))) else (bd (F_Cmd_in x1.toInt64 0 127) (fun o10 => F_Cmd_isCopys_60 o10))
set_option maxRecDepth 10000 in
set_option maxHeartbeats 4000000 in
theorem c_Cmd_isCopys (l : Launch) (D : va_G) (τ : ClassId × ClassId × ClassId) (B : Nat) (σ0 : Sg) (ad : Nat → Nat) (x0 : Int32) (x1 : Int32) (o : Int32) (h : F_Cmd_isCopys x0 x1 = some o) : MI l y_Cmd_isCopys (Cond.code y_Cmd_isCopys prog_15_method_8_code 2 (some .boolean)) 1 D τ B [.int x0, .int x1] (wdM τ σ0 ad) (wdM τ σ0 ad) o := by
  refine en_i (by decide) (Nat.le_of_ble_eq_true rfl) ?_
  intro p e R s m args below meth c H locs ls A E hret w hl
  have E : Cx p R s m args meth c prog_15_method_8_code 2 "DrawingMachineModel$DrawCommandsModel" 1 D τ B A := E
  have hl : lv_has ls 2 [(0, .int x0), (1, .int x1)] := hl
  refine lv_iload_n E.x E.b d_Cmd_isCopys_0 rfl (lv_at hl 0 rfl) ?_
  refine lv_iconst (v := 2) E.x E.b d_Cmd_isCopys_1 (by decide) ?_
  refine lv_icmp_ge (tgt := 17) E.x E.b d_Cmd_isCopys_2 (by decide) (fun c => ?_) (fun c => ?_)
  ·
    replace h := ifT c h
    refine lv_iload_n E.x E.b d_Cmd_isCopys_17 rfl (lv_at hl 0 rfl) ?_
    refine lv_iconst (v := 4) E.x E.b d_Cmd_isCopys_18 (by decide) ?_
    refine lv_icmp_ge (tgt := 34) E.x E.b d_Cmd_isCopys_19 (by decide) (fun c => ?_) (fun c => ?_)
    ·
      replace h := ifT c h
      refine lv_iload_n E.x E.b d_Cmd_isCopys_34 rfl (lv_at hl 0 rfl) ?_
      refine lv_iconst (v := 4) E.x E.b d_Cmd_isCopys_35 (by decide) ?_
      refine lv_icmp_ne (tgt := 51) E.x E.b d_Cmd_isCopys_36 (by decide) (fun c => ?_) (fun c => ?_)
      ·
        replace h := ifF c h
        refine lv_iload_n E.x E.b d_Cmd_isCopys_51 rfl (lv_at hl 1 rfl) ?_
        refine lv_i2l (v := x1.toInt64) E.x E.b d_Cmd_isCopys_52 rfl ?_
        refine lv_lconst (v := 0) E.x E.b d_Cmd_isCopys_53 (by decide) ?_
        refine lv_ldc2 (v := 2) E.x E.b E.o (E.w _ k1963) d_Cmd_isCopys_54 ?_
        obtain ⟨o7, h_o7, h⟩ := bd_some h
        refine clS_Cmd_in E w (x0 := x1.toInt64) (x1 := 0) (x2 := 2) h_o7 k1844 (by decide) hl.1 (Nat.le_of_ble_eq_true rfl) d_Cmd_isCopys_57 (fun H locs w => ?_)
        exact bt_Cmd_isCopys_60 E hret o o7 h w (lv_sub hl [] rfl)
      ·
        replace h := ifT c h
        refine lv_iload_n E.x E.b d_Cmd_isCopys_39 rfl (lv_at hl 1 rfl) ?_
        refine lv_i2l (v := x1.toInt64) E.x E.b d_Cmd_isCopys_40 rfl ?_
        refine lv_lconst (v := 0) E.x E.b d_Cmd_isCopys_41 (by decide) ?_
        refine lv_ldc2 (v := 1048576) E.x E.b E.o (E.w _ k1946) d_Cmd_isCopys_42 ?_
        obtain ⟨o8, h_o8, h⟩ := bd_some h
        refine clS_Cmd_in E w (x0 := x1.toInt64) (x1 := 0) (x2 := 1048576) h_o8 k1844 (by decide) hl.1 (Nat.le_of_ble_eq_true rfl) d_Cmd_isCopys_45 (fun H locs w => ?_)
        refine lv_goto (tgt := 60) E.x E.b d_Cmd_isCopys_48 (by decide) ?_
        exact bt_Cmd_isCopys_60 E hret o o8 h w (lv_sub hl [] rfl)
    ·
      replace h := ifF c h
      refine lv_iload_n E.x E.b d_Cmd_isCopys_22 rfl (lv_at hl 1 rfl) ?_
      refine lv_i2l (v := x1.toInt64) E.x E.b d_Cmd_isCopys_23 rfl ?_
      refine lv_lconst (v := 1) E.x E.b d_Cmd_isCopys_24 (by decide) ?_
      refine lv_ldc2 (v := 128) E.x E.b E.o (E.w _ k1843) d_Cmd_isCopys_25 ?_
      obtain ⟨o9, h_o9, h⟩ := bd_some h
      refine clS_Cmd_in E w (x0 := x1.toInt64) (x1 := 1) (x2 := 128) h_o9 k1844 (by decide) hl.1 (Nat.le_of_ble_eq_true rfl) d_Cmd_isCopys_28 (fun H locs w => ?_)
      refine lv_goto (tgt := 60) E.x E.b d_Cmd_isCopys_31 (by decide) ?_
      exact bt_Cmd_isCopys_60 E hret o o9 h w (lv_sub hl [] rfl)
  ·
    replace h := ifF c h
    refine lv_iload_n E.x E.b d_Cmd_isCopys_5 rfl (lv_at hl 1 rfl) ?_
    refine lv_i2l (v := x1.toInt64) E.x E.b d_Cmd_isCopys_6 rfl ?_
    refine lv_lconst (v := 0) E.x E.b d_Cmd_isCopys_7 (by decide) ?_
    refine lv_ldc2 (v := 127) E.x E.b E.o (E.w _ k1968) d_Cmd_isCopys_8 ?_
    obtain ⟨o10, h_o10, h⟩ := bd_some h
    refine clS_Cmd_in E w (x0 := x1.toInt64) (x1 := 0) (x2 := 127) h_o10 k1844 (by decide) hl.1 (Nat.le_of_ble_eq_true rfl) d_Cmd_isCopys_11 (fun H locs w => ?_)
    refine lv_goto (tgt := 60) E.x E.b d_Cmd_isCopys_14 (by decide) ?_
    exact bt_Cmd_isCopys_60 E hret o o10 h w (lv_sub hl [] rfl)
theorem clS_Cmd_isCopys {p : Program} {l : Launch} {e : Env} {R : Room} {s : State} {m : MethodId} {args : Array Value} {below : List Frame} {meth : Method} {c : Code} {H : Heap} {locs : List Loc} {Q : State → Prop} {cc : ByteArray} {nL pc lev : Nat} {own : String} {D : va_G} {τ : ClassId × ClassId × ClassId} {B : Nat} {A : Nat → Prop} {σ : Sg} {ad : Nat → Nat} {ls : Array Slot} {rest : List Value} (E : Cx p R s m args meth c cc nL own lev D τ B A) (w : Wd s D A (wdM τ σ ad) H locs) {x0 : Int32} {x1 : Int32} {o : Int32} (h : F_Cmd_isCopys x0 x1 = some o) {index : Nat} (hlk : Cond.methodLink own index y_Cmd_isCopys ∈ tw) (hlev : 1 < lev) (hsz : ls.size = nL) (hr : (rest.map fun v => v.category).sum ≤ 8) (hd : decode cc pc = .ok (.invokestatic index, 3)) (kk : ∀ (H1 : Heap) (locs1 : List Loc), Wd s D A (wdM τ σ ad) H1 locs1 → W p l e R s m args below meth c H1 locs1 0 0 Q (F0 m (pc + 3) ls (.int o :: rest))) : W p l e R s m args below meth c H locs 0 0 Q (F0 m pc ls (.int x1 :: .int x0 :: rest)) :=
  cr_i w E.C (va_runS (As := [.int x0, .int x1]) (rest := rest) E.fix (c_Cmd_isCopys l D τ B σ ad x0 x1 o h H.size) (va_cwS 2 E.w (tw_pre (tw_good k1967) (l := [_, _, _]) (List.forall_mem_cons.mpr ⟨hlk, List.forall_mem_cons.mpr ⟨k1966, List.forall_mem_cons.mpr ⟨k15, fun _ h => absurd h List.not_mem_nil⟩⟩⟩)) rfl rfl rfl (by decide +kernel) (E.rm hlev (by decide))) (wd_pre w E.C [.int x0, .int x1]) rfl rfl hsz rfl (lv_room hr) hd ⟨Nat.zero_le _, Nat.zero_le _⟩) kk

theorem d_Cmd_isStencils_0 : decode prog_15_method_6_code 0 = .ok (.iload_n 0, 1) := by decide +kernel
theorem d_Cmd_isStencils_1 : decode prog_15_method_6_code 1 = .ok (.ifCond .ne 13, 3) := by decide +kernel
theorem d_Cmd_isStencils_4 : decode prog_15_method_6_code 4 = .ok (.iload_n 1, 1) := by decide +kernel
theorem d_Cmd_isStencils_5 : decode prog_15_method_6_code 5 = .ok (.i2l, 1) := by decide +kernel
theorem d_Cmd_isStencils_6 : decode prog_15_method_6_code 6 = .ok (.lconst 0, 1) := by decide +kernel
theorem d_Cmd_isStencils_7 : decode prog_15_method_6_code 7 = .ok (.lconst 1, 1) := by decide +kernel
theorem d_Cmd_isStencils_8 : decode prog_15_method_6_code 8 = .ok (.invokestatic 51, 3) := by decide +kernel
theorem d_Cmd_isStencils_11 : decode prog_15_method_6_code 11 = .ok (.goto 48, 3) := by decide +kernel
theorem d_Cmd_isStencils_14 : decode prog_15_method_6_code 14 = .ok (.iload_n 0, 1) := by decide +kernel
theorem d_Cmd_isStencils_15 : decode prog_15_method_6_code 15 = .ok (.iconst 1, 1) := by decide +kernel
theorem d_Cmd_isStencils_16 : decode prog_15_method_6_code 16 = .ok (.if_icmp .ne 17, 3) := by decide +kernel
theorem d_Cmd_isStencils_19 : decode prog_15_method_6_code 19 = .ok (.iload_n 1, 1) := by decide +kernel
theorem d_Cmd_isStencils_20 : decode prog_15_method_6_code 20 = .ok (.i2l, 1) := by decide +kernel
theorem d_Cmd_isStencils_21 : decode prog_15_method_6_code 21 = .ok (.ldc2_w 59, 3) := by decide +kernel
theorem d_Cmd_isStencils_24 : decode prog_15_method_6_code 24 = .ok (.ldc2_w 61, 3) := by decide +kernel
theorem d_Cmd_isStencils_27 : decode prog_15_method_6_code 27 = .ok (.invokestatic 51, 3) := by decide +kernel
theorem d_Cmd_isStencils_30 : decode prog_15_method_6_code 30 = .ok (.goto 29, 3) := by decide +kernel
theorem d_Cmd_isStencils_33 : decode prog_15_method_6_code 33 = .ok (.iload_n 0, 1) := by decide +kernel
theorem d_Cmd_isStencils_34 : decode prog_15_method_6_code 34 = .ok (.iconst 5, 1) := by decide +kernel
theorem d_Cmd_isStencils_35 : decode prog_15_method_6_code 35 = .ok (.if_icmp .ge 15, 3) := by decide +kernel
theorem d_Cmd_isStencils_38 : decode prog_15_method_6_code 38 = .ok (.iload_n 1, 1) := by decide +kernel
theorem d_Cmd_isStencils_39 : decode prog_15_method_6_code 39 = .ok (.i2l, 1) := by decide +kernel
theorem d_Cmd_isStencils_40 : decode prog_15_method_6_code 40 = .ok (.lconst 0, 1) := by decide +kernel
theorem d_Cmd_isStencils_41 : decode prog_15_method_6_code 41 = .ok (.ldc2_w 63, 3) := by decide +kernel
theorem d_Cmd_isStencils_44 : decode prog_15_method_6_code 44 = .ok (.invokestatic 51, 3) := by decide +kernel
theorem d_Cmd_isStencils_47 : decode prog_15_method_6_code 47 = .ok (.goto 12, 3) := by decide +kernel
theorem d_Cmd_isStencils_50 : decode prog_15_method_6_code 50 = .ok (.iload_n 1, 1) := by decide +kernel
theorem d_Cmd_isStencils_51 : decode prog_15_method_6_code 51 = .ok (.i2l, 1) := by decide +kernel
theorem d_Cmd_isStencils_52 : decode prog_15_method_6_code 52 = .ok (.lconst 0, 1) := by decide +kernel
theorem d_Cmd_isStencils_53 : decode prog_15_method_6_code 53 = .ok (.ldc2_w 61, 3) := by decide +kernel
theorem d_Cmd_isStencils_56 : decode prog_15_method_6_code 56 = .ok (.invokestatic 51, 3) := by decide +kernel
theorem d_Cmd_isStencils_59 : decode prog_15_method_6_code 59 = .ok (.ireturn, 1) := by decide +kernel
def F_Cmd_isStencils_59  (s0 : Int32) : Option (Int32) := ck (s0 = 0 ∨ s0 = 1) (some s0)
set_option maxRecDepth 10000 in
set_option maxHeartbeats 4000000 in
theorem bt_Cmd_isStencils_59 {p : Program} {l : Launch} {e : Env} {R : Room} {s : State} {m : MethodId} {args : Array Value} {below : List Frame} {meth : Method} {c : Code} {D : va_G} {τ : ClassId × ClassId × ClassId} {B : Nat} {A : Nat → Prop} {ad : Nat → Nat} {σ0 : Sg} (E : Cx p R s m args meth c prog_15_method_6_code 2 "DrawingMachineModel$DrawCommandsModel" 1 D τ B A) (hret : meth.sig.returnType = (some .boolean)) (o : Int32) (s0 : Int32) (h : F_Cmd_isStencils_59 s0 = some o) {H : Heap} {locs : List Loc} {ls : Array Slot} (w : Wd s D A (wdM τ σ0 ad) H locs) (hl : lv_has ls 2 []) : W p l e R s m args below meth c H locs 0 0 (QI below args s A D τ (wdM τ σ0 ad) o) (F0 m 59 ls [.int s0]) := by
  obtain ⟨c6, h⟩ := ck_some h
  obtain rfl := Option.some.inj h
  exact rt_z E w hret c6 d_Cmd_isStencils_59
def F_Cmd_isStencils  (x0 : Int32) (x1 : Int32) : Option (Int32) := if x0 = (0 : Int32) then (bd (F_Cmd_in x1.toInt64 0 1) (fun o10 => F_Cmd_isStencils_59 o10)) else (if x0 = (1 : Int32) then (bd (F_Cmd_in x1.toInt64 (-1) 7) (fun o9 => F_Cmd_isStencils_59 o9)) else (if (5 : Int32) ≤ x0 then (bd (F_Cmd_in x1.toInt64 0 7) (fun o7 => F_Cmd_isStencils_59 o7)) else (bd (F_Cmd_in x1.toInt64 0 255) (fun o8 => F_Cmd_isStencils_59 o8))))
set_option maxRecDepth 10000 in
set_option maxHeartbeats 4000000 in
theorem c_Cmd_isStencils (l : Launch) (D : va_G) (τ : ClassId × ClassId × ClassId) (B : Nat) (σ0 : Sg) (ad : Nat → Nat) (x0 : Int32) (x1 : Int32) (o : Int32) (h : F_Cmd_isStencils x0 x1 = some o) : MI l y_Cmd_isStencils (Cond.code y_Cmd_isStencils prog_15_method_6_code 2 (some .boolean)) 1 D τ B [.int x0, .int x1] (wdM τ σ0 ad) (wdM τ σ0 ad) o := by
  refine en_i (by decide) (Nat.le_of_ble_eq_true rfl) ?_
  intro p e R s m args below meth c H locs ls A E hret w hl
  have E : Cx p R s m args meth c prog_15_method_6_code 2 "DrawingMachineModel$DrawCommandsModel" 1 D τ B A := E
  have hl : lv_has ls 2 [(0, .int x0), (1, .int x1)] := hl
  refine lv_iload_n E.x E.b d_Cmd_isStencils_0 rfl (lv_at hl 0 rfl) ?_
  refine lv_if_ne (tgt := 14) E.x E.b d_Cmd_isStencils_1 (by decide) (fun c => ?_) (fun c => ?_)
  ·
    replace h := ifF c h
    refine lv_iload_n E.x E.b d_Cmd_isStencils_14 rfl (lv_at hl 0 rfl) ?_
    refine lv_iconst (v := 1) E.x E.b d_Cmd_isStencils_15 (by decide) ?_
    refine lv_icmp_ne (tgt := 33) E.x E.b d_Cmd_isStencils_16 (by decide) (fun c => ?_) (fun c => ?_)
    ·
      replace h := ifF c h
      refine lv_iload_n E.x E.b d_Cmd_isStencils_33 rfl (lv_at hl 0 rfl) ?_
      refine lv_iconst (v := 5) E.x E.b d_Cmd_isStencils_34 (by decide) ?_
      refine lv_icmp_ge (tgt := 50) E.x E.b d_Cmd_isStencils_35 (by decide) (fun c => ?_) (fun c => ?_)
      ·
        replace h := ifT c h
        refine lv_iload_n E.x E.b d_Cmd_isStencils_50 rfl (lv_at hl 1 rfl) ?_
        refine lv_i2l (v := x1.toInt64) E.x E.b d_Cmd_isStencils_51 rfl ?_
        refine lv_lconst (v := 0) E.x E.b d_Cmd_isStencils_52 (by decide) ?_
        refine lv_ldc2 (v := 7) E.x E.b E.o (E.w _ k1937) d_Cmd_isStencils_53 ?_
        obtain ⟨o7, h_o7, h⟩ := bd_some h
        refine clS_Cmd_in E w (x0 := x1.toInt64) (x1 := 0) (x2 := 7) h_o7 k1844 (by decide) hl.1 (Nat.le_of_ble_eq_true rfl) d_Cmd_isStencils_56 (fun H locs w => ?_)
        exact bt_Cmd_isStencils_59 E hret o o7 h w (lv_sub hl [] rfl)
      ·
        replace h := ifF c h
        refine lv_iload_n E.x E.b d_Cmd_isStencils_38 rfl (lv_at hl 1 rfl) ?_
        refine lv_i2l (v := x1.toInt64) E.x E.b d_Cmd_isStencils_39 rfl ?_
        refine lv_lconst (v := 0) E.x E.b d_Cmd_isStencils_40 (by decide) ?_
        refine lv_ldc2 (v := 255) E.x E.b E.o (E.w _ k1939) d_Cmd_isStencils_41 ?_
        obtain ⟨o8, h_o8, h⟩ := bd_some h
        refine clS_Cmd_in E w (x0 := x1.toInt64) (x1 := 0) (x2 := 255) h_o8 k1844 (by decide) hl.1 (Nat.le_of_ble_eq_true rfl) d_Cmd_isStencils_44 (fun H locs w => ?_)
        refine lv_goto (tgt := 59) E.x E.b d_Cmd_isStencils_47 (by decide) ?_
        exact bt_Cmd_isStencils_59 E hret o o8 h w (lv_sub hl [] rfl)
    ·
      replace h := ifT c h
      refine lv_iload_n E.x E.b d_Cmd_isStencils_19 rfl (lv_at hl 1 rfl) ?_
      refine lv_i2l (v := x1.toInt64) E.x E.b d_Cmd_isStencils_20 rfl ?_
      refine lv_ldc2 (v := (-1)) E.x E.b E.o (E.w _ k1957) d_Cmd_isStencils_21 ?_
      refine lv_ldc2 (v := 7) E.x E.b E.o (E.w _ k1937) d_Cmd_isStencils_24 ?_
      obtain ⟨o9, h_o9, h⟩ := bd_some h
      refine clS_Cmd_in E w (x0 := x1.toInt64) (x1 := (-1)) (x2 := 7) h_o9 k1844 (by decide) hl.1 (Nat.le_of_ble_eq_true rfl) d_Cmd_isStencils_27 (fun H locs w => ?_)
      refine lv_goto (tgt := 59) E.x E.b d_Cmd_isStencils_30 (by decide) ?_
      exact bt_Cmd_isStencils_59 E hret o o9 h w (lv_sub hl [] rfl)
  ·
    replace h := ifT c h
    refine lv_iload_n E.x E.b d_Cmd_isStencils_4 rfl (lv_at hl 1 rfl) ?_
    refine lv_i2l (v := x1.toInt64) E.x E.b d_Cmd_isStencils_5 rfl ?_
    refine lv_lconst (v := 0) E.x E.b d_Cmd_isStencils_6 (by decide) ?_
    refine lv_lconst (v := 1) E.x E.b d_Cmd_isStencils_7 (by decide) ?_
    obtain ⟨o10, h_o10, h⟩ := bd_some h
    refine clS_Cmd_in E w (x0 := x1.toInt64) (x1 := 0) (x2 := 1) h_o10 k1844 (by decide) hl.1 (Nat.le_of_ble_eq_true rfl) d_Cmd_isStencils_8 (fun H locs w => ?_)
    refine lv_goto (tgt := 59) E.x E.b d_Cmd_isStencils_11 (by decide) ?_
    exact bt_Cmd_isStencils_59 E hret o o10 h w (lv_sub hl [] rfl)
theorem clS_Cmd_isStencils {p : Program} {l : Launch} {e : Env} {R : Room} {s : State} {m : MethodId} {args : Array Value} {below : List Frame} {meth : Method} {c : Code} {H : Heap} {locs : List Loc} {Q : State → Prop} {cc : ByteArray} {nL pc lev : Nat} {own : String} {D : va_G} {τ : ClassId × ClassId × ClassId} {B : Nat} {A : Nat → Prop} {σ : Sg} {ad : Nat → Nat} {ls : Array Slot} {rest : List Value} (E : Cx p R s m args meth c cc nL own lev D τ B A) (w : Wd s D A (wdM τ σ ad) H locs) {x0 : Int32} {x1 : Int32} {o : Int32} (h : F_Cmd_isStencils x0 x1 = some o) {index : Nat} (hlk : Cond.methodLink own index y_Cmd_isStencils ∈ tw) (hlev : 1 < lev) (hsz : ls.size = nL) (hr : (rest.map fun v => v.category).sum ≤ 8) (hd : decode cc pc = .ok (.invokestatic index, 3)) (kk : ∀ (H1 : Heap) (locs1 : List Loc), Wd s D A (wdM τ σ ad) H1 locs1 → W p l e R s m args below meth c H1 locs1 0 0 Q (F0 m (pc + 3) ls (.int o :: rest))) : W p l e R s m args below meth c H locs 0 0 Q (F0 m pc ls (.int x1 :: .int x0 :: rest)) :=
  cr_i w E.C (va_runS (As := [.int x0, .int x1]) (rest := rest) E.fix (c_Cmd_isStencils l D τ B σ ad x0 x1 o h H.size) (va_cwS 2 E.w (tw_pre (tw_good k1960) (l := [_, _, _]) (List.forall_mem_cons.mpr ⟨hlk, List.forall_mem_cons.mpr ⟨k1959, List.forall_mem_cons.mpr ⟨k15, fun _ h => absurd h List.not_mem_nil⟩⟩⟩)) rfl rfl rfl (by decide +kernel) (E.rm hlev (by decide))) (wd_pre w E.C [.int x0, .int x1]) rfl rfl hsz rfl (lv_room hr) hd ⟨Nat.zero_le _, Nat.zero_le _⟩) kk

theorem d_Cmd_isTextures_0 : decode prog_15_method_7_code 0 = .ok (.iload_n 0, 1) := by decide +kernel
theorem d_Cmd_isTextures_1 : decode prog_15_method_7_code 1 = .ok (.ifCond .ne 15, 3) := by decide +kernel
theorem d_Cmd_isTextures_4 : decode prog_15_method_7_code 4 = .ok (.iload_n 1, 1) := by decide +kernel
theorem d_Cmd_isTextures_5 : decode prog_15_method_7_code 5 = .ok (.i2l, 1) := by decide +kernel
theorem d_Cmd_isTextures_6 : decode prog_15_method_7_code 6 = .ok (.lconst 0, 1) := by decide +kernel
theorem d_Cmd_isTextures_7 : decode prog_15_method_7_code 7 = .ok (.ldc2_w 65, 3) := by decide +kernel
theorem d_Cmd_isTextures_10 : decode prog_15_method_7_code 10 = .ok (.invokestatic 51, 3) := by decide +kernel
theorem d_Cmd_isTextures_13 : decode prog_15_method_7_code 13 = .ok (.goto 63, 3) := by decide +kernel
theorem d_Cmd_isTextures_16 : decode prog_15_method_7_code 16 = .ok (.iload_n 0, 1) := by decide +kernel
theorem d_Cmd_isTextures_17 : decode prog_15_method_7_code 17 = .ok (.iconst 1, 1) := by decide +kernel
theorem d_Cmd_isTextures_18 : decode prog_15_method_7_code 18 = .ok (.if_icmp .ne 15, 3) := by decide +kernel
theorem d_Cmd_isTextures_21 : decode prog_15_method_7_code 21 = .ok (.iload_n 1, 1) := by decide +kernel
theorem d_Cmd_isTextures_22 : decode prog_15_method_7_code 22 = .ok (.i2l, 1) := by decide +kernel
theorem d_Cmd_isTextures_23 : decode prog_15_method_7_code 23 = .ok (.lconst 0, 1) := by decide +kernel
theorem d_Cmd_isTextures_24 : decode prog_15_method_7_code 24 = .ok (.ldc2_w 67, 3) := by decide +kernel
theorem d_Cmd_isTextures_27 : decode prog_15_method_7_code 27 = .ok (.invokestatic 51, 3) := by decide +kernel
theorem d_Cmd_isTextures_30 : decode prog_15_method_7_code 30 = .ok (.goto 46, 3) := by decide +kernel
theorem d_Cmd_isTextures_33 : decode prog_15_method_7_code 33 = .ok (.iload_n 0, 1) := by decide +kernel
theorem d_Cmd_isTextures_34 : decode prog_15_method_7_code 34 = .ok (.iconst 4, 1) := by decide +kernel
theorem d_Cmd_isTextures_35 : decode prog_15_method_7_code 35 = .ok (.if_icmp .ge 15, 3) := by decide +kernel
theorem d_Cmd_isTextures_38 : decode prog_15_method_7_code 38 = .ok (.iload_n 1, 1) := by decide +kernel
theorem d_Cmd_isTextures_39 : decode prog_15_method_7_code 39 = .ok (.i2l, 1) := by decide +kernel
theorem d_Cmd_isTextures_40 : decode prog_15_method_7_code 40 = .ok (.lconst 0, 1) := by decide +kernel
theorem d_Cmd_isTextures_41 : decode prog_15_method_7_code 41 = .ok (.ldc2_w 69, 3) := by decide +kernel
theorem d_Cmd_isTextures_44 : decode prog_15_method_7_code 44 = .ok (.invokestatic 51, 3) := by decide +kernel
theorem d_Cmd_isTextures_47 : decode prog_15_method_7_code 47 = .ok (.goto 29, 3) := by decide +kernel
theorem d_Cmd_isTextures_50 : decode prog_15_method_7_code 50 = .ok (.iload_n 0, 1) := by decide +kernel
theorem d_Cmd_isTextures_51 : decode prog_15_method_7_code 51 = .ok (.iconst 4, 1) := by decide +kernel
theorem d_Cmd_isTextures_52 : decode prog_15_method_7_code 52 = .ok (.if_icmp .ne 15, 3) := by decide +kernel
theorem d_Cmd_isTextures_55 : decode prog_15_method_7_code 55 = .ok (.iload_n 1, 1) := by decide +kernel
theorem d_Cmd_isTextures_56 : decode prog_15_method_7_code 56 = .ok (.i2l, 1) := by decide +kernel
theorem d_Cmd_isTextures_57 : decode prog_15_method_7_code 57 = .ok (.lconst 1, 1) := by decide +kernel
theorem d_Cmd_isTextures_58 : decode prog_15_method_7_code 58 = .ok (.ldc2_w 71, 3) := by decide +kernel
theorem d_Cmd_isTextures_61 : decode prog_15_method_7_code 61 = .ok (.invokestatic 51, 3) := by decide +kernel
theorem d_Cmd_isTextures_64 : decode prog_15_method_7_code 64 = .ok (.goto 12, 3) := by decide +kernel
theorem d_Cmd_isTextures_67 : decode prog_15_method_7_code 67 = .ok (.iload_n 1, 1) := by decide +kernel
theorem d_Cmd_isTextures_68 : decode prog_15_method_7_code 68 = .ok (.i2l, 1) := by decide +kernel
theorem d_Cmd_isTextures_69 : decode prog_15_method_7_code 69 = .ok (.lconst 0, 1) := by decide +kernel
theorem d_Cmd_isTextures_70 : decode prog_15_method_7_code 70 = .ok (.ldc2_w 61, 3) := by decide +kernel
theorem d_Cmd_isTextures_73 : decode prog_15_method_7_code 73 = .ok (.invokestatic 51, 3) := by decide +kernel
theorem d_Cmd_isTextures_76 : decode prog_15_method_7_code 76 = .ok (.ireturn, 1) := by decide +kernel
def F_Cmd_isTextures_76  (s0 : Int32) : Option (Int32) := ck (s0 = 0 ∨ s0 = 1) (some s0)
set_option maxRecDepth 10000 in
set_option maxHeartbeats 4000000 in
theorem bt_Cmd_isTextures_76 {p : Program} {l : Launch} {e : Env} {R : Room} {s : State} {m : MethodId} {args : Array Value} {below : List Frame} {meth : Method} {c : Code} {D : va_G} {τ : ClassId × ClassId × ClassId} {B : Nat} {A : Nat → Prop} {ad : Nat → Nat} {σ0 : Sg} (E : Cx p R s m args meth c prog_15_method_7_code 2 "DrawingMachineModel$DrawCommandsModel" 1 D τ B A) (hret : meth.sig.returnType = (some .boolean)) (o : Int32) (s0 : Int32) (h : F_Cmd_isTextures_76 s0 = some o) {H : Heap} {locs : List Loc} {ls : Array Slot} (w : Wd s D A (wdM τ σ0 ad) H locs) (hl : lv_has ls 2 []) : W p l e R s m args below meth c H locs 0 0 (QI below args s A D τ (wdM τ σ0 ad) o) (F0 m 76 ls [.int s0]) := by
  obtain ⟨c7, h⟩ := ck_some h
  obtain rfl := Option.some.inj h
  exact rt_z E w hret c7 d_Cmd_isTextures_76
def F_Cmd_isTextures  (x0 : Int32) (x1 : Int32) : Option (Int32) := if x0 = (0 : Int32) then (bd (F_Cmd_in x1.toInt64 0 3) (fun o12 => F_Cmd_isTextures_76 o12)) else (if x0 = (1 : Int32) then (bd (F_Cmd_in x1.toInt64 0 1048576) (fun o11 => F_Cmd_isTextures_76 o11)) else (if (4 : Int32) ≤ x0 then (if x0 = (4 : Int32) then (bd (F_Cmd_in x1.toInt64 1 11) (fun o9 => F_Cmd_isTextures_76 o9)) else (bd (F_Cmd_in x1.toInt64 0 7) (fun o8 => F_Cmd_isTextures_76 o8))) else (bd (F_Cmd_in x1.toInt64 0 10) (fun o10 => F_Cmd_isTextures_76 o10))))
set_option maxRecDepth 10000 in
set_option maxHeartbeats 4000000 in
theorem c_Cmd_isTextures (l : Launch) (D : va_G) (τ : ClassId × ClassId × ClassId) (B : Nat) (σ0 : Sg) (ad : Nat → Nat) (x0 : Int32) (x1 : Int32) (o : Int32) (h : F_Cmd_isTextures x0 x1 = some o) : MI l y_Cmd_isTextures (Cond.code y_Cmd_isTextures prog_15_method_7_code 2 (some .boolean)) 1 D τ B [.int x0, .int x1] (wdM τ σ0 ad) (wdM τ σ0 ad) o := by
  refine en_i (by decide) (Nat.le_of_ble_eq_true rfl) ?_
  intro p e R s m args below meth c H locs ls A E hret w hl
  have E : Cx p R s m args meth c prog_15_method_7_code 2 "DrawingMachineModel$DrawCommandsModel" 1 D τ B A := E
  have hl : lv_has ls 2 [(0, .int x0), (1, .int x1)] := hl
  refine lv_iload_n E.x E.b d_Cmd_isTextures_0 rfl (lv_at hl 0 rfl) ?_
  refine lv_if_ne (tgt := 16) E.x E.b d_Cmd_isTextures_1 (by decide) (fun c => ?_) (fun c => ?_)
  ·
    replace h := ifF c h
    refine lv_iload_n E.x E.b d_Cmd_isTextures_16 rfl (lv_at hl 0 rfl) ?_
    refine lv_iconst (v := 1) E.x E.b d_Cmd_isTextures_17 (by decide) ?_
    refine lv_icmp_ne (tgt := 33) E.x E.b d_Cmd_isTextures_18 (by decide) (fun c => ?_) (fun c => ?_)
    ·
      replace h := ifF c h
      refine lv_iload_n E.x E.b d_Cmd_isTextures_33 rfl (lv_at hl 0 rfl) ?_
      refine lv_iconst (v := 4) E.x E.b d_Cmd_isTextures_34 (by decide) ?_
      refine lv_icmp_ge (tgt := 50) E.x E.b d_Cmd_isTextures_35 (by decide) (fun c => ?_) (fun c => ?_)
      ·
        replace h := ifT c h
        refine lv_iload_n E.x E.b d_Cmd_isTextures_50 rfl (lv_at hl 0 rfl) ?_
        refine lv_iconst (v := 4) E.x E.b d_Cmd_isTextures_51 (by decide) ?_
        refine lv_icmp_ne (tgt := 67) E.x E.b d_Cmd_isTextures_52 (by decide) (fun c => ?_) (fun c => ?_)
        ·
          replace h := ifF c h
          refine lv_iload_n E.x E.b d_Cmd_isTextures_67 rfl (lv_at hl 1 rfl) ?_
          refine lv_i2l (v := x1.toInt64) E.x E.b d_Cmd_isTextures_68 rfl ?_
          refine lv_lconst (v := 0) E.x E.b d_Cmd_isTextures_69 (by decide) ?_
          refine lv_ldc2 (v := 7) E.x E.b E.o (E.w _ k1937) d_Cmd_isTextures_70 ?_
          obtain ⟨o8, h_o8, h⟩ := bd_some h
          refine clS_Cmd_in E w (x0 := x1.toInt64) (x1 := 0) (x2 := 7) h_o8 k1844 (by decide) hl.1 (Nat.le_of_ble_eq_true rfl) d_Cmd_isTextures_73 (fun H locs w => ?_)
          exact bt_Cmd_isTextures_76 E hret o o8 h w (lv_sub hl [] rfl)
        ·
          replace h := ifT c h
          refine lv_iload_n E.x E.b d_Cmd_isTextures_55 rfl (lv_at hl 1 rfl) ?_
          refine lv_i2l (v := x1.toInt64) E.x E.b d_Cmd_isTextures_56 rfl ?_
          refine lv_lconst (v := 1) E.x E.b d_Cmd_isTextures_57 (by decide) ?_
          refine lv_ldc2 (v := 11) E.x E.b E.o (E.w _ k1956) d_Cmd_isTextures_58 ?_
          obtain ⟨o9, h_o9, h⟩ := bd_some h
          refine clS_Cmd_in E w (x0 := x1.toInt64) (x1 := 1) (x2 := 11) h_o9 k1844 (by decide) hl.1 (Nat.le_of_ble_eq_true rfl) d_Cmd_isTextures_61 (fun H locs w => ?_)
          refine lv_goto (tgt := 76) E.x E.b d_Cmd_isTextures_64 (by decide) ?_
          exact bt_Cmd_isTextures_76 E hret o o9 h w (lv_sub hl [] rfl)
      ·
        replace h := ifF c h
        refine lv_iload_n E.x E.b d_Cmd_isTextures_38 rfl (lv_at hl 1 rfl) ?_
        refine lv_i2l (v := x1.toInt64) E.x E.b d_Cmd_isTextures_39 rfl ?_
        refine lv_lconst (v := 0) E.x E.b d_Cmd_isTextures_40 (by decide) ?_
        refine lv_ldc2 (v := 10) E.x E.b E.o (E.w _ k1955) d_Cmd_isTextures_41 ?_
        obtain ⟨o10, h_o10, h⟩ := bd_some h
        refine clS_Cmd_in E w (x0 := x1.toInt64) (x1 := 0) (x2 := 10) h_o10 k1844 (by decide) hl.1 (Nat.le_of_ble_eq_true rfl) d_Cmd_isTextures_44 (fun H locs w => ?_)
        refine lv_goto (tgt := 76) E.x E.b d_Cmd_isTextures_47 (by decide) ?_
        exact bt_Cmd_isTextures_76 E hret o o10 h w (lv_sub hl [] rfl)
    ·
      replace h := ifT c h
      refine lv_iload_n E.x E.b d_Cmd_isTextures_21 rfl (lv_at hl 1 rfl) ?_
      refine lv_i2l (v := x1.toInt64) E.x E.b d_Cmd_isTextures_22 rfl ?_
      refine lv_lconst (v := 0) E.x E.b d_Cmd_isTextures_23 (by decide) ?_
      refine lv_ldc2 (v := 1048576) E.x E.b E.o (E.w _ k1946) d_Cmd_isTextures_24 ?_
      obtain ⟨o11, h_o11, h⟩ := bd_some h
      refine clS_Cmd_in E w (x0 := x1.toInt64) (x1 := 0) (x2 := 1048576) h_o11 k1844 (by decide) hl.1 (Nat.le_of_ble_eq_true rfl) d_Cmd_isTextures_27 (fun H locs w => ?_)
      refine lv_goto (tgt := 76) E.x E.b d_Cmd_isTextures_30 (by decide) ?_
      exact bt_Cmd_isTextures_76 E hret o o11 h w (lv_sub hl [] rfl)
  ·
    replace h := ifT c h
    refine lv_iload_n E.x E.b d_Cmd_isTextures_4 rfl (lv_at hl 1 rfl) ?_
    refine lv_i2l (v := x1.toInt64) E.x E.b d_Cmd_isTextures_5 rfl ?_
    refine lv_lconst (v := 0) E.x E.b d_Cmd_isTextures_6 (by decide) ?_
    refine lv_ldc2 (v := 3) E.x E.b E.o (E.w _ k1948) d_Cmd_isTextures_7 ?_
    obtain ⟨o12, h_o12, h⟩ := bd_some h
    refine clS_Cmd_in E w (x0 := x1.toInt64) (x1 := 0) (x2 := 3) h_o12 k1844 (by decide) hl.1 (Nat.le_of_ble_eq_true rfl) d_Cmd_isTextures_10 (fun H locs w => ?_)
    refine lv_goto (tgt := 76) E.x E.b d_Cmd_isTextures_13 (by decide) ?_
    exact bt_Cmd_isTextures_76 E hret o o12 h w (lv_sub hl [] rfl)
theorem clS_Cmd_isTextures {p : Program} {l : Launch} {e : Env} {R : Room} {s : State} {m : MethodId} {args : Array Value} {below : List Frame} {meth : Method} {c : Code} {H : Heap} {locs : List Loc} {Q : State → Prop} {cc : ByteArray} {nL pc lev : Nat} {own : String} {D : va_G} {τ : ClassId × ClassId × ClassId} {B : Nat} {A : Nat → Prop} {σ : Sg} {ad : Nat → Nat} {ls : Array Slot} {rest : List Value} (E : Cx p R s m args meth c cc nL own lev D τ B A) (w : Wd s D A (wdM τ σ ad) H locs) {x0 : Int32} {x1 : Int32} {o : Int32} (h : F_Cmd_isTextures x0 x1 = some o) {index : Nat} (hlk : Cond.methodLink own index y_Cmd_isTextures ∈ tw) (hlev : 1 < lev) (hsz : ls.size = nL) (hr : (rest.map fun v => v.category).sum ≤ 8) (hd : decode cc pc = .ok (.invokestatic index, 3)) (kk : ∀ (H1 : Heap) (locs1 : List Loc), Wd s D A (wdM τ σ ad) H1 locs1 → W p l e R s m args below meth c H1 locs1 0 0 Q (F0 m (pc + 3) ls (.int o :: rest))) : W p l e R s m args below meth c H locs 0 0 Q (F0 m pc ls (.int x1 :: .int x0 :: rest)) :=
  cr_i w E.C (va_runS (As := [.int x0, .int x1]) (rest := rest) E.fix (c_Cmd_isTextures l D τ B σ ad x0 x1 o h H.size) (va_cwS 2 E.w (tw_pre (tw_good k1954) (l := [_, _, _]) (List.forall_mem_cons.mpr ⟨hlk, List.forall_mem_cons.mpr ⟨k1953, List.forall_mem_cons.mpr ⟨k15, fun _ h => absurd h List.not_mem_nil⟩⟩⟩)) rfl rfl rfl (by decide +kernel) (E.rm hlev (by decide))) (wd_pre w E.C [.int x0, .int x1]) rfl rfl hsz rfl (lv_room hr) hd ⟨Nat.zero_le _, Nat.zero_le _⟩) kk

theorem d_Cmd_isViews_0 : decode prog_15_method_5_code 0 = .ok (.iload_n 0, 1) := by decide +kernel
theorem d_Cmd_isViews_1 : decode prog_15_method_5_code 1 = .ok (.iconst 2, 1) := by decide +kernel
theorem d_Cmd_isViews_2 : decode prog_15_method_5_code 2 = .ok (.if_icmp .ge 17, 3) := by decide +kernel
theorem d_Cmd_isViews_5 : decode prog_15_method_5_code 5 = .ok (.iload_n 1, 1) := by decide +kernel
theorem d_Cmd_isViews_6 : decode prog_15_method_5_code 6 = .ok (.i2l, 1) := by decide +kernel
theorem d_Cmd_isViews_7 : decode prog_15_method_5_code 7 = .ok (.ldc2_w 47, 3) := by decide +kernel
theorem d_Cmd_isViews_10 : decode prog_15_method_5_code 10 = .ok (.ldc2_w 49, 3) := by decide +kernel
theorem d_Cmd_isViews_13 : decode prog_15_method_5_code 13 = .ok (.invokestatic 51, 3) := by decide +kernel
theorem d_Cmd_isViews_16 : decode prog_15_method_5_code 16 = .ok (.goto 29, 3) := by decide +kernel
theorem d_Cmd_isViews_19 : decode prog_15_method_5_code 19 = .ok (.iload_n 0, 1) := by decide +kernel
theorem d_Cmd_isViews_20 : decode prog_15_method_5_code 20 = .ok (.iconst 4, 1) := by decide +kernel
theorem d_Cmd_isViews_21 : decode prog_15_method_5_code 21 = .ok (.if_icmp .ge 15, 3) := by decide +kernel
theorem d_Cmd_isViews_24 : decode prog_15_method_5_code 24 = .ok (.iload_n 1, 1) := by decide +kernel
theorem d_Cmd_isViews_25 : decode prog_15_method_5_code 25 = .ok (.i2l, 1) := by decide +kernel
theorem d_Cmd_isViews_26 : decode prog_15_method_5_code 26 = .ok (.lconst 1, 1) := by decide +kernel
theorem d_Cmd_isViews_27 : decode prog_15_method_5_code 27 = .ok (.ldc2_w 55, 3) := by decide +kernel
theorem d_Cmd_isViews_30 : decode prog_15_method_5_code 30 = .ok (.invokestatic 51, 3) := by decide +kernel
theorem d_Cmd_isViews_33 : decode prog_15_method_5_code 33 = .ok (.goto 12, 3) := by decide +kernel
theorem d_Cmd_isViews_36 : decode prog_15_method_5_code 36 = .ok (.iload_n 1, 1) := by decide +kernel
theorem d_Cmd_isViews_37 : decode prog_15_method_5_code 37 = .ok (.i2l, 1) := by decide +kernel
theorem d_Cmd_isViews_38 : decode prog_15_method_5_code 38 = .ok (.lconst 0, 1) := by decide +kernel
theorem d_Cmd_isViews_39 : decode prog_15_method_5_code 39 = .ok (.ldc2_w 57, 3) := by decide +kernel
theorem d_Cmd_isViews_42 : decode prog_15_method_5_code 42 = .ok (.invokestatic 51, 3) := by decide +kernel
theorem d_Cmd_isViews_45 : decode prog_15_method_5_code 45 = .ok (.ireturn, 1) := by decide +kernel
def F_Cmd_isViews_45  (s0 : Int32) : Option (Int32) := ck (s0 = 0 ∨ s0 = 1) (some s0)
set_option maxRecDepth 10000 in
set_option maxHeartbeats 4000000 in
theorem bt_Cmd_isViews_45 {p : Program} {l : Launch} {e : Env} {R : Room} {s : State} {m : MethodId} {args : Array Value} {below : List Frame} {meth : Method} {c : Code} {D : va_G} {τ : ClassId × ClassId × ClassId} {B : Nat} {A : Nat → Prop} {ad : Nat → Nat} {σ0 : Sg} (E : Cx p R s m args meth c prog_15_method_5_code 2 "DrawingMachineModel$DrawCommandsModel" 1 D τ B A) (hret : meth.sig.returnType = (some .boolean)) (o : Int32) (s0 : Int32) (h : F_Cmd_isViews_45 s0 = some o) {H : Heap} {locs : List Loc} {ls : Array Slot} (w : Wd s D A (wdM τ σ0 ad) H locs) (hl : lv_has ls 2 []) : W p l e R s m args below meth c H locs 0 0 (QI below args s A D τ (wdM τ σ0 ad) o) (F0 m 45 ls [.int s0]) := by
  obtain ⟨c5, h⟩ := ck_some h
  obtain rfl := Option.some.inj h
  exact rt_z E w hret c5 d_Cmd_isViews_45
def F_Cmd_isViews  (x0 : Int32) (x1 : Int32) : Option (Int32) := if (2 : Int32) ≤ x0 then (if (4 : Int32) ≤ x0 then (bd (F_Cmd_in x1.toInt64 0 16777215) (fun o6 => F_Cmd_isViews_45 o6)) else (bd (F_Cmd_in x1.toInt64 1 1024) (fun o7 => F_Cmd_isViews_45 o7))) else (bd (F_Cmd_in x1.toInt64 (-1023) 1023) (fun o8 => F_Cmd_isViews_45 o8))
set_option maxRecDepth 10000 in
set_option maxHeartbeats 4000000 in
theorem c_Cmd_isViews (l : Launch) (D : va_G) (τ : ClassId × ClassId × ClassId) (B : Nat) (σ0 : Sg) (ad : Nat → Nat) (x0 : Int32) (x1 : Int32) (o : Int32) (h : F_Cmd_isViews x0 x1 = some o) : MI l y_Cmd_isViews (Cond.code y_Cmd_isViews prog_15_method_5_code 2 (some .boolean)) 1 D τ B [.int x0, .int x1] (wdM τ σ0 ad) (wdM τ σ0 ad) o := by
  refine en_i (by decide) (Nat.le_of_ble_eq_true rfl) ?_
  intro p e R s m args below meth c H locs ls A E hret w hl
  have E : Cx p R s m args meth c prog_15_method_5_code 2 "DrawingMachineModel$DrawCommandsModel" 1 D τ B A := E
  have hl : lv_has ls 2 [(0, .int x0), (1, .int x1)] := hl
  refine lv_iload_n E.x E.b d_Cmd_isViews_0 rfl (lv_at hl 0 rfl) ?_
  refine lv_iconst (v := 2) E.x E.b d_Cmd_isViews_1 (by decide) ?_
  refine lv_icmp_ge (tgt := 19) E.x E.b d_Cmd_isViews_2 (by decide) (fun c => ?_) (fun c => ?_)
  ·
    replace h := ifT c h
    refine lv_iload_n E.x E.b d_Cmd_isViews_19 rfl (lv_at hl 0 rfl) ?_
    refine lv_iconst (v := 4) E.x E.b d_Cmd_isViews_20 (by decide) ?_
    refine lv_icmp_ge (tgt := 36) E.x E.b d_Cmd_isViews_21 (by decide) (fun c => ?_) (fun c => ?_)
    ·
      replace h := ifT c h
      refine lv_iload_n E.x E.b d_Cmd_isViews_36 rfl (lv_at hl 1 rfl) ?_
      refine lv_i2l (v := x1.toInt64) E.x E.b d_Cmd_isViews_37 rfl ?_
      refine lv_lconst (v := 0) E.x E.b d_Cmd_isViews_38 (by decide) ?_
      refine lv_ldc2 (v := 16777215) E.x E.b E.o (E.w _ k1938) d_Cmd_isViews_39 ?_
      obtain ⟨o6, h_o6, h⟩ := bd_some h
      refine clS_Cmd_in E w (x0 := x1.toInt64) (x1 := 0) (x2 := 16777215) h_o6 k1844 (by decide) hl.1 (Nat.le_of_ble_eq_true rfl) d_Cmd_isViews_42 (fun H locs w => ?_)
      exact bt_Cmd_isViews_45 E hret o o6 h w (lv_sub hl [] rfl)
    ·
      replace h := ifF c h
      refine lv_iload_n E.x E.b d_Cmd_isViews_24 rfl (lv_at hl 1 rfl) ?_
      refine lv_i2l (v := x1.toInt64) E.x E.b d_Cmd_isViews_25 rfl ?_
      refine lv_lconst (v := 1) E.x E.b d_Cmd_isViews_26 (by decide) ?_
      refine lv_ldc2 (v := 1024) E.x E.b E.o (E.w _ k1945) d_Cmd_isViews_27 ?_
      obtain ⟨o7, h_o7, h⟩ := bd_some h
      refine clS_Cmd_in E w (x0 := x1.toInt64) (x1 := 1) (x2 := 1024) h_o7 k1844 (by decide) hl.1 (Nat.le_of_ble_eq_true rfl) d_Cmd_isViews_30 (fun H locs w => ?_)
      refine lv_goto (tgt := 45) E.x E.b d_Cmd_isViews_33 (by decide) ?_
      exact bt_Cmd_isViews_45 E hret o o7 h w (lv_sub hl [] rfl)
  ·
    replace h := ifF c h
    refine lv_iload_n E.x E.b d_Cmd_isViews_5 rfl (lv_at hl 1 rfl) ?_
    refine lv_i2l (v := x1.toInt64) E.x E.b d_Cmd_isViews_6 rfl ?_
    refine lv_ldc2 (v := (-1023)) E.x E.b E.o (E.w _ k1943) d_Cmd_isViews_7 ?_
    refine lv_ldc2 (v := 1023) E.x E.b E.o (E.w _ k1944) d_Cmd_isViews_10 ?_
    obtain ⟨o8, h_o8, h⟩ := bd_some h
    refine clS_Cmd_in E w (x0 := x1.toInt64) (x1 := (-1023)) (x2 := 1023) h_o8 k1844 (by decide) hl.1 (Nat.le_of_ble_eq_true rfl) d_Cmd_isViews_13 (fun H locs w => ?_)
    refine lv_goto (tgt := 45) E.x E.b d_Cmd_isViews_16 (by decide) ?_
    exact bt_Cmd_isViews_45 E hret o o8 h w (lv_sub hl [] rfl)
theorem clS_Cmd_isViews {p : Program} {l : Launch} {e : Env} {R : Room} {s : State} {m : MethodId} {args : Array Value} {below : List Frame} {meth : Method} {c : Code} {H : Heap} {locs : List Loc} {Q : State → Prop} {cc : ByteArray} {nL pc lev : Nat} {own : String} {D : va_G} {τ : ClassId × ClassId × ClassId} {B : Nat} {A : Nat → Prop} {σ : Sg} {ad : Nat → Nat} {ls : Array Slot} {rest : List Value} (E : Cx p R s m args meth c cc nL own lev D τ B A) (w : Wd s D A (wdM τ σ ad) H locs) {x0 : Int32} {x1 : Int32} {o : Int32} (h : F_Cmd_isViews x0 x1 = some o) {index : Nat} (hlk : Cond.methodLink own index y_Cmd_isViews ∈ tw) (hlev : 1 < lev) (hsz : ls.size = nL) (hr : (rest.map fun v => v.category).sum ≤ 8) (hd : decode cc pc = .ok (.invokestatic index, 3)) (kk : ∀ (H1 : Heap) (locs1 : List Loc), Wd s D A (wdM τ σ ad) H1 locs1 → W p l e R s m args below meth c H1 locs1 0 0 Q (F0 m (pc + 3) ls (.int o :: rest))) : W p l e R s m args below meth c H locs 0 0 Q (F0 m pc ls (.int x1 :: .int x0 :: rest)) :=
  cr_i w E.C (va_runS (As := [.int x0, .int x1]) (rest := rest) E.fix (c_Cmd_isViews l D τ B σ ad x0 x1 o h H.size) (va_cwS 2 E.w (tw_pre (tw_good k1942) (l := [_, _, _]) (List.forall_mem_cons.mpr ⟨hlk, List.forall_mem_cons.mpr ⟨k1941, List.forall_mem_cons.mpr ⟨k15, fun _ h => absurd h List.not_mem_nil⟩⟩⟩)) rfl rfl rfl (by decide +kernel) (E.rm hlev (by decide))) (wd_pre w E.C [.int x0, .int x1]) rfl rfl hsz rfl (lv_room hr) hd ⟨Nat.zero_le _, Nat.zero_le _⟩) kk

theorem d_Cmd_may_0 : decode prog_15_method_9_code 0 = .ok (.iload_n 0, 1) := by decide +kernel
theorem d_Cmd_may_1 : decode prog_15_method_9_code 1 = .ok (.tableswitch 574 1 24 #[111, 161, 167, 169, 222, 244, 275, 275, 301, 307, 333, 339, 167, 377, 389, 399, 417, 448, 497, 515, 521, 574, 554, 564], 111) := by decide +kernel
theorem d_Cmd_may_112 : decode prog_15_method_9_code 112 = .ok (.iload_n 1, 1) := by decide +kernel
theorem d_Cmd_may_113 : decode prog_15_method_9_code 113 = .ok (.ifCond .ne 15, 3) := by decide +kernel
theorem d_Cmd_may_116 : decode prog_15_method_9_code 116 = .ok (.iload_n 2, 1) := by decide +kernel
theorem d_Cmd_may_117 : decode prog_15_method_9_code 117 = .ok (.i2l, 1) := by decide +kernel
theorem d_Cmd_may_118 : decode prog_15_method_9_code 118 = .ok (.lconst 0, 1) := by decide +kernel
theorem d_Cmd_may_119 : decode prog_15_method_9_code 119 = .ok (.ldc2_w 61, 3) := by decide +kernel
theorem d_Cmd_may_122 : decode prog_15_method_9_code 122 = .ok (.invokestatic 51, 3) := by decide +kernel
theorem d_Cmd_may_125 : decode prog_15_method_9_code 125 = .ok (.goto 36, 3) := by decide +kernel
theorem d_Cmd_may_128 : decode prog_15_method_9_code 128 = .ok (.iload_n 1, 1) := by decide +kernel
theorem d_Cmd_may_129 : decode prog_15_method_9_code 129 = .ok (.iconst 1, 1) := by decide +kernel
theorem d_Cmd_may_130 : decode prog_15_method_9_code 130 = .ok (.if_icmp .eq 26, 3) := by decide +kernel
theorem d_Cmd_may_133 : decode prog_15_method_9_code 133 = .ok (.iload_n 2, 1) := by decide +kernel
theorem d_Cmd_may_134 : decode prog_15_method_9_code 134 = .ok (.i2l, 1) := by decide +kernel
theorem d_Cmd_may_135 : decode prog_15_method_9_code 135 = .ok (.lconst 0, 1) := by decide +kernel
theorem d_Cmd_may_136 : decode prog_15_method_9_code 136 = .ok (.iload_n 1, 1) := by decide +kernel
theorem d_Cmd_may_137 : decode prog_15_method_9_code 137 = .ok (.iconst 2, 1) := by decide +kernel
theorem d_Cmd_may_138 : decode prog_15_method_9_code 138 = .ok (.if_icmp .ne 9, 3) := by decide +kernel
theorem d_Cmd_may_141 : decode prog_15_method_9_code 141 = .ok (.ldc2_w 57, 3) := by decide +kernel
theorem d_Cmd_may_144 : decode prog_15_method_9_code 144 = .ok (.goto 6, 3) := by decide +kernel
theorem d_Cmd_may_147 : decode prog_15_method_9_code 147 = .ok (.ldc2_w 63, 3) := by decide +kernel
theorem d_Cmd_may_150 : decode prog_15_method_9_code 150 = .ok (.invokestatic 51, 3) := by decide +kernel
theorem d_Cmd_may_153 : decode prog_15_method_9_code 153 = .ok (.ifCond .eq 7, 3) := by decide +kernel
theorem d_Cmd_may_156 : decode prog_15_method_9_code 156 = .ok (.iconst 1, 1) := by decide +kernel
theorem d_Cmd_may_157 : decode prog_15_method_9_code 157 = .ok (.goto 4, 3) := by decide +kernel
theorem d_Cmd_may_160 : decode prog_15_method_9_code 160 = .ok (.iconst 0, 1) := by decide +kernel
theorem d_Cmd_may_161 : decode prog_15_method_9_code 161 = .ok (.ireturn, 1) := by decide +kernel
theorem d_Cmd_may_162 : decode prog_15_method_9_code 162 = .ok (.iload_n 1, 1) := by decide +kernel
theorem d_Cmd_may_163 : decode prog_15_method_9_code 163 = .ok (.iload_n 2, 1) := by decide +kernel
theorem d_Cmd_may_164 : decode prog_15_method_9_code 164 = .ok (.invokestatic 79, 3) := by decide +kernel
theorem d_Cmd_may_167 : decode prog_15_method_9_code 167 = .ok (.ireturn, 1) := by decide +kernel
theorem d_Cmd_may_168 : decode prog_15_method_9_code 168 = .ok (.iconst 1, 1) := by decide +kernel
theorem d_Cmd_may_169 : decode prog_15_method_9_code 169 = .ok (.ireturn, 1) := by decide +kernel
theorem d_Cmd_may_170 : decode prog_15_method_9_code 170 = .ok (.iload_n 2, 1) := by decide +kernel
theorem d_Cmd_may_171 : decode prog_15_method_9_code 171 = .ok (.i2l, 1) := by decide +kernel
theorem d_Cmd_may_172 : decode prog_15_method_9_code 172 = .ok (.lconst 0, 1) := by decide +kernel
theorem d_Cmd_may_173 : decode prog_15_method_9_code 173 = .ok (.iload_n 1, 1) := by decide +kernel
theorem d_Cmd_may_174 : decode prog_15_method_9_code 174 = .ok (.ifCond .ne 9, 3) := by decide +kernel
theorem d_Cmd_may_177 : decode prog_15_method_9_code 177 = .ok (.ldc2_w 61, 3) := by decide +kernel
theorem d_Cmd_may_180 : decode prog_15_method_9_code 180 = .ok (.goto 39, 3) := by decide +kernel
theorem d_Cmd_may_183 : decode prog_15_method_9_code 183 = .ok (.iload_n 1, 1) := by decide +kernel
theorem d_Cmd_may_184 : decode prog_15_method_9_code 184 = .ok (.iconst 1, 1) := by decide +kernel
theorem d_Cmd_may_185 : decode prog_15_method_9_code 185 = .ok (.if_icmp .ne 9, 3) := by decide +kernel
theorem d_Cmd_may_188 : decode prog_15_method_9_code 188 = .ok (.ldc2_w 67, 3) := by decide +kernel
theorem d_Cmd_may_191 : decode prog_15_method_9_code 191 = .ok (.goto 28, 3) := by decide +kernel
theorem d_Cmd_may_194 : decode prog_15_method_9_code 194 = .ok (.iload_n 1, 1) := by decide +kernel
theorem d_Cmd_may_195 : decode prog_15_method_9_code 195 = .ok (.iconst 2, 1) := by decide +kernel
theorem d_Cmd_may_196 : decode prog_15_method_9_code 196 = .ok (.if_icmp .ne 9, 3) := by decide +kernel
theorem d_Cmd_may_199 : decode prog_15_method_9_code 199 = .ok (.ldc2_w 55, 3) := by decide +kernel
theorem d_Cmd_may_202 : decode prog_15_method_9_code 202 = .ok (.goto 17, 3) := by decide +kernel
theorem d_Cmd_may_205 : decode prog_15_method_9_code 205 = .ok (.iload_n 1, 1) := by decide +kernel
theorem d_Cmd_may_206 : decode prog_15_method_9_code 206 = .ok (.iconst 3, 1) := by decide +kernel
theorem d_Cmd_may_207 : decode prog_15_method_9_code 207 = .ok (.if_icmp .ne 9, 3) := by decide +kernel
theorem d_Cmd_may_210 : decode prog_15_method_9_code 210 = .ok (.ldc2_w 83, 3) := by decide +kernel
theorem d_Cmd_may_213 : decode prog_15_method_9_code 213 = .ok (.goto 6, 3) := by decide +kernel
theorem d_Cmd_may_216 : decode prog_15_method_9_code 216 = .ok (.ldc2_w 65, 3) := by decide +kernel
theorem d_Cmd_may_219 : decode prog_15_method_9_code 219 = .ok (.invokestatic 51, 3) := by decide +kernel
theorem d_Cmd_may_222 : decode prog_15_method_9_code 222 = .ok (.ireturn, 1) := by decide +kernel
theorem d_Cmd_may_223 : decode prog_15_method_9_code 223 = .ok (.iload_n 1, 1) := by decide +kernel
theorem d_Cmd_may_224 : decode prog_15_method_9_code 224 = .ok (.ifCond .gt 15, 3) := by decide +kernel
theorem d_Cmd_may_227 : decode prog_15_method_9_code 227 = .ok (.iload_n 2, 1) := by decide +kernel
theorem d_Cmd_may_228 : decode prog_15_method_9_code 228 = .ok (.i2l, 1) := by decide +kernel
theorem d_Cmd_may_229 : decode prog_15_method_9_code 229 = .ok (.lconst 0, 1) := by decide +kernel
theorem d_Cmd_may_230 : decode prog_15_method_9_code 230 = .ok (.ldc2_w 85, 3) := by decide +kernel
theorem d_Cmd_may_233 : decode prog_15_method_9_code 233 = .ok (.invokestatic 51, 3) := by decide +kernel
theorem d_Cmd_may_236 : decode prog_15_method_9_code 236 = .ok (.ifCond .eq 7, 3) := by decide +kernel
theorem d_Cmd_may_239 : decode prog_15_method_9_code 239 = .ok (.iconst 1, 1) := by decide +kernel
theorem d_Cmd_may_240 : decode prog_15_method_9_code 240 = .ok (.goto 4, 3) := by decide +kernel
theorem d_Cmd_may_243 : decode prog_15_method_9_code 243 = .ok (.iconst 0, 1) := by decide +kernel
theorem d_Cmd_may_244 : decode prog_15_method_9_code 244 = .ok (.ireturn, 1) := by decide +kernel
theorem d_Cmd_may_245 : decode prog_15_method_9_code 245 = .ok (.iload_n 2, 1) := by decide +kernel
theorem d_Cmd_may_246 : decode prog_15_method_9_code 246 = .ok (.i2l, 1) := by decide +kernel
theorem d_Cmd_may_247 : decode prog_15_method_9_code 247 = .ok (.lconst 0, 1) := by decide +kernel
theorem d_Cmd_may_248 : decode prog_15_method_9_code 248 = .ok (.iload_n 1, 1) := by decide +kernel
theorem d_Cmd_may_249 : decode prog_15_method_9_code 249 = .ok (.ifCond .ne 9, 3) := by decide +kernel
theorem d_Cmd_may_252 : decode prog_15_method_9_code 252 = .ok (.ldc2_w 85, 3) := by decide +kernel
theorem d_Cmd_may_255 : decode prog_15_method_9_code 255 = .ok (.goto 17, 3) := by decide +kernel
theorem d_Cmd_may_258 : decode prog_15_method_9_code 258 = .ok (.iload_n 1, 1) := by decide +kernel
theorem d_Cmd_may_259 : decode prog_15_method_9_code 259 = .ok (.iconst 1, 1) := by decide +kernel
theorem d_Cmd_may_260 : decode prog_15_method_9_code 260 = .ok (.if_icmp .ne 9, 3) := by decide +kernel
theorem d_Cmd_may_263 : decode prog_15_method_9_code 263 = .ok (.ldc2_w 87, 3) := by decide +kernel
theorem d_Cmd_may_266 : decode prog_15_method_9_code 266 = .ok (.goto 6, 3) := by decide +kernel
theorem d_Cmd_may_269 : decode prog_15_method_9_code 269 = .ok (.ldc2_w 67, 3) := by decide +kernel
theorem d_Cmd_may_272 : decode prog_15_method_9_code 272 = .ok (.invokestatic 51, 3) := by decide +kernel
theorem d_Cmd_may_275 : decode prog_15_method_9_code 275 = .ok (.ireturn, 1) := by decide +kernel
theorem d_Cmd_may_276 : decode prog_15_method_9_code 276 = .ok (.iload_n 1, 1) := by decide +kernel
theorem d_Cmd_may_277 : decode prog_15_method_9_code 277 = .ok (.ifCond .ne 15, 3) := by decide +kernel
theorem d_Cmd_may_280 : decode prog_15_method_9_code 280 = .ok (.iload_n 2, 1) := by decide +kernel
theorem d_Cmd_may_281 : decode prog_15_method_9_code 281 = .ok (.i2l, 1) := by decide +kernel
theorem d_Cmd_may_282 : decode prog_15_method_9_code 282 = .ok (.lconst 0, 1) := by decide +kernel
theorem d_Cmd_may_283 : decode prog_15_method_9_code 283 = .ok (.ldc2_w 67, 3) := by decide +kernel
theorem d_Cmd_may_286 : decode prog_15_method_9_code 286 = .ok (.invokestatic 51, 3) := by decide +kernel
theorem d_Cmd_may_289 : decode prog_15_method_9_code 289 = .ok (.goto 12, 3) := by decide +kernel
theorem d_Cmd_may_292 : decode prog_15_method_9_code 292 = .ok (.iload_n 2, 1) := by decide +kernel
theorem d_Cmd_may_293 : decode prog_15_method_9_code 293 = .ok (.i2l, 1) := by decide +kernel
theorem d_Cmd_may_294 : decode prog_15_method_9_code 294 = .ok (.lconst 1, 1) := by decide +kernel
theorem d_Cmd_may_295 : decode prog_15_method_9_code 295 = .ok (.ldc2_w 89, 3) := by decide +kernel
theorem d_Cmd_may_298 : decode prog_15_method_9_code 298 = .ok (.invokestatic 51, 3) := by decide +kernel
theorem d_Cmd_may_301 : decode prog_15_method_9_code 301 = .ok (.ireturn, 1) := by decide +kernel
theorem d_Cmd_may_302 : decode prog_15_method_9_code 302 = .ok (.iload_n 1, 1) := by decide +kernel
theorem d_Cmd_may_303 : decode prog_15_method_9_code 303 = .ok (.iload_n 2, 1) := by decide +kernel
theorem d_Cmd_may_304 : decode prog_15_method_9_code 304 = .ok (.invokestatic 91, 3) := by decide +kernel
theorem d_Cmd_may_307 : decode prog_15_method_9_code 307 = .ok (.ireturn, 1) := by decide +kernel
theorem d_Cmd_may_308 : decode prog_15_method_9_code 308 = .ok (.iload_n 1, 1) := by decide +kernel
theorem d_Cmd_may_309 : decode prog_15_method_9_code 309 = .ok (.ifCond .ne 17, 3) := by decide +kernel
theorem d_Cmd_may_312 : decode prog_15_method_9_code 312 = .ok (.iload_n 2, 1) := by decide +kernel
theorem d_Cmd_may_313 : decode prog_15_method_9_code 313 = .ok (.i2l, 1) := by decide +kernel
theorem d_Cmd_may_314 : decode prog_15_method_9_code 314 = .ok (.ldc2_w 59, 3) := by decide +kernel
theorem d_Cmd_may_317 : decode prog_15_method_9_code 317 = .ok (.ldc2_w 61, 3) := by decide +kernel
theorem d_Cmd_may_320 : decode prog_15_method_9_code 320 = .ok (.invokestatic 51, 3) := by decide +kernel
theorem d_Cmd_may_323 : decode prog_15_method_9_code 323 = .ok (.goto 10, 3) := by decide +kernel
theorem d_Cmd_may_326 : decode prog_15_method_9_code 326 = .ok (.iload_n 2, 1) := by decide +kernel
theorem d_Cmd_may_327 : decode prog_15_method_9_code 327 = .ok (.i2l, 1) := by decide +kernel
theorem d_Cmd_may_328 : decode prog_15_method_9_code 328 = .ok (.lconst 0, 1) := by decide +kernel
theorem d_Cmd_may_329 : decode prog_15_method_9_code 329 = .ok (.lconst 1, 1) := by decide +kernel
theorem d_Cmd_may_330 : decode prog_15_method_9_code 330 = .ok (.invokestatic 51, 3) := by decide +kernel
theorem d_Cmd_may_333 : decode prog_15_method_9_code 333 = .ok (.ireturn, 1) := by decide +kernel
theorem d_Cmd_may_334 : decode prog_15_method_9_code 334 = .ok (.iload_n 1, 1) := by decide +kernel
theorem d_Cmd_may_335 : decode prog_15_method_9_code 335 = .ok (.iload_n 2, 1) := by decide +kernel
theorem d_Cmd_may_336 : decode prog_15_method_9_code 336 = .ok (.invokestatic 94, 3) := by decide +kernel
theorem d_Cmd_may_339 : decode prog_15_method_9_code 339 = .ok (.ireturn, 1) := by decide +kernel
theorem d_Cmd_may_340 : decode prog_15_method_9_code 340 = .ok (.iload_n 1, 1) := by decide +kernel
theorem d_Cmd_may_341 : decode prog_15_method_9_code 341 = .ok (.iconst 4, 1) := by decide +kernel
theorem d_Cmd_may_342 : decode prog_15_method_9_code 342 = .ok (.if_icmp .ge 15, 3) := by decide +kernel
theorem d_Cmd_may_345 : decode prog_15_method_9_code 345 = .ok (.iload_n 2, 1) := by decide +kernel
theorem d_Cmd_may_346 : decode prog_15_method_9_code 346 = .ok (.i2l, 1) := by decide +kernel
theorem d_Cmd_may_347 : decode prog_15_method_9_code 347 = .ok (.lconst 0, 1) := by decide +kernel
theorem d_Cmd_may_348 : decode prog_15_method_9_code 348 = .ok (.ldc2_w 97, 3) := by decide +kernel
theorem d_Cmd_may_351 : decode prog_15_method_9_code 351 = .ok (.invokestatic 51, 3) := by decide +kernel
theorem d_Cmd_may_354 : decode prog_15_method_9_code 354 = .ok (.goto 23, 3) := by decide +kernel
theorem d_Cmd_may_357 : decode prog_15_method_9_code 357 = .ok (.iload_n 2, 1) := by decide +kernel
theorem d_Cmd_may_358 : decode prog_15_method_9_code 358 = .ok (.i2l, 1) := by decide +kernel
theorem d_Cmd_may_359 : decode prog_15_method_9_code 359 = .ok (.iload_n 1, 1) := by decide +kernel
theorem d_Cmd_may_360 : decode prog_15_method_9_code 360 = .ok (.iconst 4, 1) := by decide +kernel
theorem d_Cmd_may_361 : decode prog_15_method_9_code 361 = .ok (.if_icmp .ne 9, 3) := by decide +kernel
theorem d_Cmd_may_364 : decode prog_15_method_9_code 364 = .ok (.ldc2_w 59, 3) := by decide +kernel
theorem d_Cmd_may_367 : decode prog_15_method_9_code 367 = .ok (.goto 4, 3) := by decide +kernel
theorem d_Cmd_may_370 : decode prog_15_method_9_code 370 = .ok (.lconst 0, 1) := by decide +kernel
theorem d_Cmd_may_371 : decode prog_15_method_9_code 371 = .ok (.ldc2_w 83, 3) := by decide +kernel
theorem d_Cmd_may_374 : decode prog_15_method_9_code 374 = .ok (.invokestatic 51, 3) := by decide +kernel
theorem d_Cmd_may_377 : decode prog_15_method_9_code 377 = .ok (.ireturn, 1) := by decide +kernel
theorem d_Cmd_may_378 : decode prog_15_method_9_code 378 = .ok (.iload_n 2, 1) := by decide +kernel
theorem d_Cmd_may_379 : decode prog_15_method_9_code 379 = .ok (.i2l, 1) := by decide +kernel
theorem d_Cmd_may_380 : decode prog_15_method_9_code 380 = .ok (.ldc2_w 59, 3) := by decide +kernel
theorem d_Cmd_may_383 : decode prog_15_method_9_code 383 = .ok (.ldc2_w 99, 3) := by decide +kernel
theorem d_Cmd_may_386 : decode prog_15_method_9_code 386 = .ok (.invokestatic 51, 3) := by decide +kernel
theorem d_Cmd_may_389 : decode prog_15_method_9_code 389 = .ok (.ireturn, 1) := by decide +kernel
theorem d_Cmd_may_390 : decode prog_15_method_9_code 390 = .ok (.iload_n 2, 1) := by decide +kernel
theorem d_Cmd_may_391 : decode prog_15_method_9_code 391 = .ok (.i2l, 1) := by decide +kernel
theorem d_Cmd_may_392 : decode prog_15_method_9_code 392 = .ok (.lconst 0, 1) := by decide +kernel
theorem d_Cmd_may_393 : decode prog_15_method_9_code 393 = .ok (.ldc2_w 99, 3) := by decide +kernel
theorem d_Cmd_may_396 : decode prog_15_method_9_code 396 = .ok (.invokestatic 51, 3) := by decide +kernel
theorem d_Cmd_may_399 : decode prog_15_method_9_code 399 = .ok (.ireturn, 1) := by decide +kernel
theorem d_Cmd_may_400 : decode prog_15_method_9_code 400 = .ok (.iload_n 2, 1) := by decide +kernel
theorem d_Cmd_may_401 : decode prog_15_method_9_code 401 = .ok (.i2l, 1) := by decide +kernel
theorem d_Cmd_may_402 : decode prog_15_method_9_code 402 = .ok (.lconst 0, 1) := by decide +kernel
theorem d_Cmd_may_403 : decode prog_15_method_9_code 403 = .ok (.iload_n 1, 1) := by decide +kernel
theorem d_Cmd_may_404 : decode prog_15_method_9_code 404 = .ok (.ifCond .ne 9, 3) := by decide +kernel
theorem d_Cmd_may_407 : decode prog_15_method_9_code 407 = .ok (.ldc2_w 65, 3) := by decide +kernel
theorem d_Cmd_may_410 : decode prog_15_method_9_code 410 = .ok (.goto 4, 3) := by decide +kernel
theorem d_Cmd_may_413 : decode prog_15_method_9_code 413 = .ok (.lconst 1, 1) := by decide +kernel
theorem d_Cmd_may_414 : decode prog_15_method_9_code 414 = .ok (.invokestatic 51, 3) := by decide +kernel
theorem d_Cmd_may_417 : decode prog_15_method_9_code 417 = .ok (.ireturn, 1) := by decide +kernel
theorem d_Cmd_may_418 : decode prog_15_method_9_code 418 = .ok (.iload_n 2, 1) := by decide +kernel
theorem d_Cmd_may_419 : decode prog_15_method_9_code 419 = .ok (.i2l, 1) := by decide +kernel
theorem d_Cmd_may_420 : decode prog_15_method_9_code 420 = .ok (.lconst 0, 1) := by decide +kernel
theorem d_Cmd_may_421 : decode prog_15_method_9_code 421 = .ok (.iload_n 1, 1) := by decide +kernel
theorem d_Cmd_may_422 : decode prog_15_method_9_code 422 = .ok (.ifCond .ne 9, 3) := by decide +kernel
theorem d_Cmd_may_425 : decode prog_15_method_9_code 425 = .ok (.ldc2_w 77, 3) := by decide +kernel
theorem d_Cmd_may_428 : decode prog_15_method_9_code 428 = .ok (.goto 17, 3) := by decide +kernel
theorem d_Cmd_may_431 : decode prog_15_method_9_code 431 = .ok (.iload_n 1, 1) := by decide +kernel
theorem d_Cmd_may_432 : decode prog_15_method_9_code 432 = .ok (.iconst 1, 1) := by decide +kernel
theorem d_Cmd_may_433 : decode prog_15_method_9_code 433 = .ok (.if_icmp .ne 9, 3) := by decide +kernel
theorem d_Cmd_may_436 : decode prog_15_method_9_code 436 = .ok (.ldc2_w 67, 3) := by decide +kernel
theorem d_Cmd_may_439 : decode prog_15_method_9_code 439 = .ok (.goto 6, 3) := by decide +kernel
theorem d_Cmd_may_442 : decode prog_15_method_9_code 442 = .ok (.ldc2_w 101, 3) := by decide +kernel
theorem d_Cmd_may_445 : decode prog_15_method_9_code 445 = .ok (.invokestatic 51, 3) := by decide +kernel
theorem d_Cmd_may_448 : decode prog_15_method_9_code 448 = .ok (.ireturn, 1) := by decide +kernel
theorem d_Cmd_may_449 : decode prog_15_method_9_code 449 = .ok (.iload_n 1, 1) := by decide +kernel
theorem d_Cmd_may_450 : decode prog_15_method_9_code 450 = .ok (.iconst 4, 1) := by decide +kernel
theorem d_Cmd_may_451 : decode prog_15_method_9_code 451 = .ok (.if_icmp .eq 41, 3) := by decide +kernel
theorem d_Cmd_may_454 : decode prog_15_method_9_code 454 = .ok (.iload_n 2, 1) := by decide +kernel
theorem d_Cmd_may_455 : decode prog_15_method_9_code 455 = .ok (.i2l, 1) := by decide +kernel
theorem d_Cmd_may_456 : decode prog_15_method_9_code 456 = .ok (.lconst 0, 1) := by decide +kernel
theorem d_Cmd_may_457 : decode prog_15_method_9_code 457 = .ok (.iload_n 1, 1) := by decide +kernel
theorem d_Cmd_may_458 : decode prog_15_method_9_code 458 = .ok (.ifCond .eq 8, 3) := by decide +kernel
theorem d_Cmd_may_461 : decode prog_15_method_9_code 461 = .ok (.iload_n 1, 1) := by decide +kernel
theorem d_Cmd_may_462 : decode prog_15_method_9_code 462 = .ok (.iconst 3, 1) := by decide +kernel
theorem d_Cmd_may_463 : decode prog_15_method_9_code 463 = .ok (.if_icmp .ne 9, 3) := by decide +kernel
theorem d_Cmd_may_466 : decode prog_15_method_9_code 466 = .ok (.ldc2_w 77, 3) := by decide +kernel
theorem d_Cmd_may_469 : decode prog_15_method_9_code 469 = .ok (.goto 17, 3) := by decide +kernel
theorem d_Cmd_may_472 : decode prog_15_method_9_code 472 = .ok (.iload_n 1, 1) := by decide +kernel
theorem d_Cmd_may_473 : decode prog_15_method_9_code 473 = .ok (.iconst 1, 1) := by decide +kernel
theorem d_Cmd_may_474 : decode prog_15_method_9_code 474 = .ok (.if_icmp .ne 9, 3) := by decide +kernel
theorem d_Cmd_may_477 : decode prog_15_method_9_code 477 = .ok (.ldc2_w 67, 3) := by decide +kernel
theorem d_Cmd_may_480 : decode prog_15_method_9_code 480 = .ok (.goto 6, 3) := by decide +kernel
theorem d_Cmd_may_483 : decode prog_15_method_9_code 483 = .ok (.ldc2_w 101, 3) := by decide +kernel
theorem d_Cmd_may_486 : decode prog_15_method_9_code 486 = .ok (.invokestatic 51, 3) := by decide +kernel
theorem d_Cmd_may_489 : decode prog_15_method_9_code 489 = .ok (.ifCond .eq 7, 3) := by decide +kernel
theorem d_Cmd_may_492 : decode prog_15_method_9_code 492 = .ok (.iconst 1, 1) := by decide +kernel
theorem d_Cmd_may_493 : decode prog_15_method_9_code 493 = .ok (.goto 4, 3) := by decide +kernel
theorem d_Cmd_may_496 : decode prog_15_method_9_code 496 = .ok (.iconst 0, 1) := by decide +kernel
theorem d_Cmd_may_497 : decode prog_15_method_9_code 497 = .ok (.ireturn, 1) := by decide +kernel
theorem d_Cmd_may_498 : decode prog_15_method_9_code 498 = .ok (.iload_n 2, 1) := by decide +kernel
theorem d_Cmd_may_499 : decode prog_15_method_9_code 499 = .ok (.i2l, 1) := by decide +kernel
theorem d_Cmd_may_500 : decode prog_15_method_9_code 500 = .ok (.lconst 0, 1) := by decide +kernel
theorem d_Cmd_may_501 : decode prog_15_method_9_code 501 = .ok (.iload_n 1, 1) := by decide +kernel
theorem d_Cmd_may_502 : decode prog_15_method_9_code 502 = .ok (.ifCond .ne 9, 3) := by decide +kernel
theorem d_Cmd_may_505 : decode prog_15_method_9_code 505 = .ok (.ldc2_w 61, 3) := by decide +kernel
theorem d_Cmd_may_508 : decode prog_15_method_9_code 508 = .ok (.goto 4, 3) := by decide +kernel
theorem d_Cmd_may_511 : decode prog_15_method_9_code 511 = .ok (.lconst 1, 1) := by decide +kernel
theorem d_Cmd_may_512 : decode prog_15_method_9_code 512 = .ok (.invokestatic 51, 3) := by decide +kernel
theorem d_Cmd_may_515 : decode prog_15_method_9_code 515 = .ok (.ireturn, 1) := by decide +kernel
theorem d_Cmd_may_516 : decode prog_15_method_9_code 516 = .ok (.iload_n 1, 1) := by decide +kernel
theorem d_Cmd_may_517 : decode prog_15_method_9_code 517 = .ok (.iload_n 2, 1) := by decide +kernel
theorem d_Cmd_may_518 : decode prog_15_method_9_code 518 = .ok (.invokestatic 103, 3) := by decide +kernel
theorem d_Cmd_may_521 : decode prog_15_method_9_code 521 = .ok (.ireturn, 1) := by decide +kernel
theorem d_Cmd_may_522 : decode prog_15_method_9_code 522 = .ok (.iload_n 1, 1) := by decide +kernel
theorem d_Cmd_may_523 : decode prog_15_method_9_code 523 = .ok (.iconst 1, 1) := by decide +kernel
theorem d_Cmd_may_524 : decode prog_15_method_9_code 524 = .ok (.if_icmp .gt 25, 3) := by decide +kernel
theorem d_Cmd_may_527 : decode prog_15_method_9_code 527 = .ok (.iload_n 2, 1) := by decide +kernel
theorem d_Cmd_may_528 : decode prog_15_method_9_code 528 = .ok (.i2l, 1) := by decide +kernel
theorem d_Cmd_may_529 : decode prog_15_method_9_code 529 = .ok (.lconst 0, 1) := by decide +kernel
theorem d_Cmd_may_530 : decode prog_15_method_9_code 530 = .ok (.iload_n 1, 1) := by decide +kernel
theorem d_Cmd_may_531 : decode prog_15_method_9_code 531 = .ok (.ifCond .ne 9, 3) := by decide +kernel
theorem d_Cmd_may_534 : decode prog_15_method_9_code 534 = .ok (.ldc2_w 67, 3) := by decide +kernel
theorem d_Cmd_may_537 : decode prog_15_method_9_code 537 = .ok (.goto 6, 3) := by decide +kernel
theorem d_Cmd_may_540 : decode prog_15_method_9_code 540 = .ok (.ldc2_w 89, 3) := by decide +kernel
theorem d_Cmd_may_543 : decode prog_15_method_9_code 543 = .ok (.invokestatic 51, 3) := by decide +kernel
theorem d_Cmd_may_546 : decode prog_15_method_9_code 546 = .ok (.ifCond .eq 7, 3) := by decide +kernel
theorem d_Cmd_may_549 : decode prog_15_method_9_code 549 = .ok (.iconst 1, 1) := by decide +kernel
theorem d_Cmd_may_550 : decode prog_15_method_9_code 550 = .ok (.goto 4, 3) := by decide +kernel
theorem d_Cmd_may_553 : decode prog_15_method_9_code 553 = .ok (.iconst 0, 1) := by decide +kernel
theorem d_Cmd_may_554 : decode prog_15_method_9_code 554 = .ok (.ireturn, 1) := by decide +kernel
theorem d_Cmd_may_555 : decode prog_15_method_9_code 555 = .ok (.iload_n 2, 1) := by decide +kernel
theorem d_Cmd_may_556 : decode prog_15_method_9_code 556 = .ok (.i2l, 1) := by decide +kernel
theorem d_Cmd_may_557 : decode prog_15_method_9_code 557 = .ok (.lconst 0, 1) := by decide +kernel
theorem d_Cmd_may_558 : decode prog_15_method_9_code 558 = .ok (.ldc2_w 67, 3) := by decide +kernel
theorem d_Cmd_may_561 : decode prog_15_method_9_code 561 = .ok (.invokestatic 51, 3) := by decide +kernel
theorem d_Cmd_may_564 : decode prog_15_method_9_code 564 = .ok (.ireturn, 1) := by decide +kernel
theorem d_Cmd_may_565 : decode prog_15_method_9_code 565 = .ok (.iload_n 2, 1) := by decide +kernel
theorem d_Cmd_may_566 : decode prog_15_method_9_code 566 = .ok (.i2l, 1) := by decide +kernel
theorem d_Cmd_may_567 : decode prog_15_method_9_code 567 = .ok (.lconst 0, 1) := by decide +kernel
theorem d_Cmd_may_568 : decode prog_15_method_9_code 568 = .ok (.ldc2_w 65, 3) := by decide +kernel
theorem d_Cmd_may_571 : decode prog_15_method_9_code 571 = .ok (.invokestatic 51, 3) := by decide +kernel
theorem d_Cmd_may_574 : decode prog_15_method_9_code 574 = .ok (.ireturn, 1) := by decide +kernel
theorem d_Cmd_may_575 : decode prog_15_method_9_code 575 = .ok (.iload_n 1, 1) := by decide +kernel
theorem d_Cmd_may_576 : decode prog_15_method_9_code 576 = .ok (.ifCond .gt 15, 3) := by decide +kernel
theorem d_Cmd_may_579 : decode prog_15_method_9_code 579 = .ok (.iload_n 2, 1) := by decide +kernel
theorem d_Cmd_may_580 : decode prog_15_method_9_code 580 = .ok (.i2l, 1) := by decide +kernel
theorem d_Cmd_may_581 : decode prog_15_method_9_code 581 = .ok (.lconst 0, 1) := by decide +kernel
theorem d_Cmd_may_582 : decode prog_15_method_9_code 582 = .ok (.ldc2_w 65, 3) := by decide +kernel
theorem d_Cmd_may_585 : decode prog_15_method_9_code 585 = .ok (.invokestatic 51, 3) := by decide +kernel
theorem d_Cmd_may_588 : decode prog_15_method_9_code 588 = .ok (.ifCond .eq 7, 3) := by decide +kernel
theorem d_Cmd_may_591 : decode prog_15_method_9_code 591 = .ok (.iconst 1, 1) := by decide +kernel
theorem d_Cmd_may_592 : decode prog_15_method_9_code 592 = .ok (.goto 4, 3) := by decide +kernel
theorem d_Cmd_may_595 : decode prog_15_method_9_code 595 = .ok (.iconst 0, 1) := by decide +kernel
theorem d_Cmd_may_596 : decode prog_15_method_9_code 596 = .ok (.ireturn, 1) := by decide +kernel
def F_Cmd_may_596  (s0 : Int32) : Option (Int32) := ck (s0 = 0 ∨ s0 = 1) (some s0)
set_option maxRecDepth 10000 in
set_option maxHeartbeats 4000000 in
theorem bt_Cmd_may_596 {p : Program} {l : Launch} {e : Env} {R : Room} {s : State} {m : MethodId} {args : Array Value} {below : List Frame} {meth : Method} {c : Code} {D : va_G} {τ : ClassId × ClassId × ClassId} {B : Nat} {A : Nat → Prop} {ad : Nat → Nat} {σ0 : Sg} (E : Cx p R s m args meth c prog_15_method_9_code 3 "DrawingMachineModel$DrawCommandsModel" 2 D τ B A) (hret : meth.sig.returnType = (some .boolean)) (o : Int32) (s0 : Int32) (h : F_Cmd_may_596 s0 = some o) {H : Heap} {locs : List Loc} {ls : Array Slot} (w : Wd s D A (wdM τ σ0 ad) H locs) (hl : lv_has ls 3 []) : W p l e R s m args below meth c H locs 0 0 (QI below args s A D τ (wdM τ σ0 ad) o) (F0 m 596 ls [.int s0]) := by
  obtain ⟨c71, h⟩ := ck_some h
  obtain rfl := Option.some.inj h
  exact rt_z E w hret c71 d_Cmd_may_596
def F_Cmd_may_591  : Option (Int32) := F_Cmd_may_596 1
set_option maxRecDepth 10000 in
set_option maxHeartbeats 4000000 in
theorem bt_Cmd_may_591 {p : Program} {l : Launch} {e : Env} {R : Room} {s : State} {m : MethodId} {args : Array Value} {below : List Frame} {meth : Method} {c : Code} {D : va_G} {τ : ClassId × ClassId × ClassId} {B : Nat} {A : Nat → Prop} {ad : Nat → Nat} {σ0 : Sg} (E : Cx p R s m args meth c prog_15_method_9_code 3 "DrawingMachineModel$DrawCommandsModel" 2 D τ B A) (hret : meth.sig.returnType = (some .boolean)) (o : Int32) (h : F_Cmd_may_591 = some o) {H : Heap} {locs : List Loc} {ls : Array Slot} (w : Wd s D A (wdM τ σ0 ad) H locs) (hl : lv_has ls 3 []) : W p l e R s m args below meth c H locs 0 0 (QI below args s A D τ (wdM τ σ0 ad) o) (F0 m 591 ls []) := by
  refine lv_iconst (v := 1) E.x E.b d_Cmd_may_591 (by decide) ?_
  refine lv_goto (tgt := 596) E.x E.b d_Cmd_may_592 (by decide) ?_
  exact bt_Cmd_may_596 E hret o 1 h w (lv_sub hl [] rfl)
def F_Cmd_may_575  (v1 : Int32) (v2 : Int32) : Option (Int32) := if (0 : Int32) < v1 then (F_Cmd_may_591) else (bd (F_Cmd_in v2.toInt64 0 3) (fun o72 => if o72 = (0 : Int32) then (F_Cmd_may_596 0) else (F_Cmd_may_591)))
set_option maxRecDepth 10000 in
set_option maxHeartbeats 4000000 in
theorem bt_Cmd_may_575 {p : Program} {l : Launch} {e : Env} {R : Room} {s : State} {m : MethodId} {args : Array Value} {below : List Frame} {meth : Method} {c : Code} {D : va_G} {τ : ClassId × ClassId × ClassId} {B : Nat} {A : Nat → Prop} {ad : Nat → Nat} {σ0 : Sg} (E : Cx p R s m args meth c prog_15_method_9_code 3 "DrawingMachineModel$DrawCommandsModel" 2 D τ B A) (hret : meth.sig.returnType = (some .boolean)) (o : Int32) (v1 : Int32) (v2 : Int32) (h : F_Cmd_may_575 v1 v2 = some o) {H : Heap} {locs : List Loc} {ls : Array Slot} (w : Wd s D A (wdM τ σ0 ad) H locs) (hl : lv_has ls 3 [(1, .int v1), (2, .int v2)]) : W p l e R s m args below meth c H locs 0 0 (QI below args s A D τ (wdM τ σ0 ad) o) (F0 m 575 ls []) := by
  refine lv_iload_n E.x E.b d_Cmd_may_575 rfl (lv_at hl 0 rfl) ?_
  refine lv_if_gt (tgt := 591) E.x E.b d_Cmd_may_576 (by decide) (fun c => ?_) (fun c => ?_)
  ·
    replace h := ifT c h
    exact bt_Cmd_may_591 E hret o h w (lv_sub hl [] rfl)
  ·
    replace h := ifF c h
    refine lv_iload_n E.x E.b d_Cmd_may_579 rfl (lv_at hl 1 rfl) ?_
    refine lv_i2l (v := v2.toInt64) E.x E.b d_Cmd_may_580 rfl ?_
    refine lv_lconst (v := 0) E.x E.b d_Cmd_may_581 (by decide) ?_
    refine lv_ldc2 (v := 3) E.x E.b E.o (E.w _ k1948) d_Cmd_may_582 ?_
    obtain ⟨o72, h_o72, h⟩ := bd_some h
    refine clS_Cmd_in E w (x0 := v2.toInt64) (x1 := 0) (x2 := 3) h_o72 k1844 (by decide) hl.1 (Nat.le_of_ble_eq_true rfl) d_Cmd_may_585 (fun H locs w => ?_)
    refine lv_if_eq (tgt := 595) E.x E.b d_Cmd_may_588 (by decide) (fun c => ?_) (fun c => ?_)
    ·
      replace h := ifT c h
      refine lv_iconst (v := 0) E.x E.b d_Cmd_may_595 (by decide) ?_
      exact bt_Cmd_may_596 E hret o 0 h w (lv_sub hl [] rfl)
    ·
      replace h := ifF c h
      exact bt_Cmd_may_591 E hret o h w (lv_sub hl [] rfl)
def F_Cmd_may_554  (s0 : Int32) : Option (Int32) := ck (s0 = 0 ∨ s0 = 1) (some s0)
set_option maxRecDepth 10000 in
set_option maxHeartbeats 4000000 in
theorem bt_Cmd_may_554 {p : Program} {l : Launch} {e : Env} {R : Room} {s : State} {m : MethodId} {args : Array Value} {below : List Frame} {meth : Method} {c : Code} {D : va_G} {τ : ClassId × ClassId × ClassId} {B : Nat} {A : Nat → Prop} {ad : Nat → Nat} {σ0 : Sg} (E : Cx p R s m args meth c prog_15_method_9_code 3 "DrawingMachineModel$DrawCommandsModel" 2 D τ B A) (hret : meth.sig.returnType = (some .boolean)) (o : Int32) (s0 : Int32) (h : F_Cmd_may_554 s0 = some o) {H : Heap} {locs : List Loc} {ls : Array Slot} (w : Wd s D A (wdM τ σ0 ad) H locs) (hl : lv_has ls 3 []) : W p l e R s m args below meth c H locs 0 0 (QI below args s A D τ (wdM τ σ0 ad) o) (F0 m 554 ls [.int s0]) := by
  obtain ⟨c73, h⟩ := ck_some h
  obtain rfl := Option.some.inj h
  exact rt_z E w hret c73 d_Cmd_may_554
def F_Cmd_may_549  : Option (Int32) := F_Cmd_may_554 1
set_option maxRecDepth 10000 in
set_option maxHeartbeats 4000000 in
theorem bt_Cmd_may_549 {p : Program} {l : Launch} {e : Env} {R : Room} {s : State} {m : MethodId} {args : Array Value} {below : List Frame} {meth : Method} {c : Code} {D : va_G} {τ : ClassId × ClassId × ClassId} {B : Nat} {A : Nat → Prop} {ad : Nat → Nat} {σ0 : Sg} (E : Cx p R s m args meth c prog_15_method_9_code 3 "DrawingMachineModel$DrawCommandsModel" 2 D τ B A) (hret : meth.sig.returnType = (some .boolean)) (o : Int32) (h : F_Cmd_may_549 = some o) {H : Heap} {locs : List Loc} {ls : Array Slot} (w : Wd s D A (wdM τ σ0 ad) H locs) (hl : lv_has ls 3 []) : W p l e R s m args below meth c H locs 0 0 (QI below args s A D τ (wdM τ σ0 ad) o) (F0 m 549 ls []) := by
  refine lv_iconst (v := 1) E.x E.b d_Cmd_may_549 (by decide) ?_
  refine lv_goto (tgt := 554) E.x E.b d_Cmd_may_550 (by decide) ?_
  exact bt_Cmd_may_554 E hret o 1 h w (lv_sub hl [] rfl)
def F_Cmd_may_543  (s0 : Int64) (s1 : Int64) (s2 : Int64) : Option (Int32) := bd (F_Cmd_in s0 s1 s2) (fun o74 => if o74 = (0 : Int32) then (F_Cmd_may_554 0) else (F_Cmd_may_549))
set_option maxRecDepth 10000 in
set_option maxHeartbeats 4000000 in
theorem bt_Cmd_may_543 {p : Program} {l : Launch} {e : Env} {R : Room} {s : State} {m : MethodId} {args : Array Value} {below : List Frame} {meth : Method} {c : Code} {D : va_G} {τ : ClassId × ClassId × ClassId} {B : Nat} {A : Nat → Prop} {ad : Nat → Nat} {σ0 : Sg} (E : Cx p R s m args meth c prog_15_method_9_code 3 "DrawingMachineModel$DrawCommandsModel" 2 D τ B A) (hret : meth.sig.returnType = (some .boolean)) (o : Int32) (s0 : Int64) (s1 : Int64) (s2 : Int64) (h : F_Cmd_may_543 s0 s1 s2 = some o) {H : Heap} {locs : List Loc} {ls : Array Slot} (w : Wd s D A (wdM τ σ0 ad) H locs) (hl : lv_has ls 3 []) : W p l e R s m args below meth c H locs 0 0 (QI below args s A D τ (wdM τ σ0 ad) o) (F0 m 543 ls [.long s2, .long s1, .long s0]) := by
  obtain ⟨o74, h_o74, h⟩ := bd_some h
  refine clS_Cmd_in E w (x0 := s0) (x1 := s1) (x2 := s2) h_o74 k1844 (by decide) hl.1 (Nat.le_of_ble_eq_true rfl) d_Cmd_may_543 (fun H locs w => ?_)
  refine lv_if_eq (tgt := 553) E.x E.b d_Cmd_may_546 (by decide) (fun c => ?_) (fun c => ?_)
  ·
    replace h := ifT c h
    refine lv_iconst (v := 0) E.x E.b d_Cmd_may_553 (by decide) ?_
    exact bt_Cmd_may_554 E hret o 0 h w (lv_sub hl [] rfl)
  ·
    replace h := ifF c h
    exact bt_Cmd_may_549 E hret o h w (lv_sub hl [] rfl)
def F_Cmd_may_512  (s0 : Int64) (s1 : Int64) (s2 : Int64) : Option (Int32) := bd (F_Cmd_in s0 s1 s2) (fun o75 => ck (o75 = 0 ∨ o75 = 1) (some o75))
set_option maxRecDepth 10000 in
set_option maxHeartbeats 4000000 in
theorem bt_Cmd_may_512 {p : Program} {l : Launch} {e : Env} {R : Room} {s : State} {m : MethodId} {args : Array Value} {below : List Frame} {meth : Method} {c : Code} {D : va_G} {τ : ClassId × ClassId × ClassId} {B : Nat} {A : Nat → Prop} {ad : Nat → Nat} {σ0 : Sg} (E : Cx p R s m args meth c prog_15_method_9_code 3 "DrawingMachineModel$DrawCommandsModel" 2 D τ B A) (hret : meth.sig.returnType = (some .boolean)) (o : Int32) (s0 : Int64) (s1 : Int64) (s2 : Int64) (h : F_Cmd_may_512 s0 s1 s2 = some o) {H : Heap} {locs : List Loc} {ls : Array Slot} (w : Wd s D A (wdM τ σ0 ad) H locs) (hl : lv_has ls 3 []) : W p l e R s m args below meth c H locs 0 0 (QI below args s A D τ (wdM τ σ0 ad) o) (F0 m 512 ls [.long s2, .long s1, .long s0]) := by
  obtain ⟨o75, h_o75, h⟩ := bd_some h
  refine clS_Cmd_in E w (x0 := s0) (x1 := s1) (x2 := s2) h_o75 k1844 (by decide) hl.1 (Nat.le_of_ble_eq_true rfl) d_Cmd_may_512 (fun H locs w => ?_)
  obtain ⟨c76, h⟩ := ck_some h
  obtain rfl := Option.some.inj h
  exact rt_z E w hret c76 d_Cmd_may_515
def F_Cmd_may_497  (s0 : Int32) : Option (Int32) := ck (s0 = 0 ∨ s0 = 1) (some s0)
set_option maxRecDepth 10000 in
set_option maxHeartbeats 4000000 in
theorem bt_Cmd_may_497 {p : Program} {l : Launch} {e : Env} {R : Room} {s : State} {m : MethodId} {args : Array Value} {below : List Frame} {meth : Method} {c : Code} {D : va_G} {τ : ClassId × ClassId × ClassId} {B : Nat} {A : Nat → Prop} {ad : Nat → Nat} {σ0 : Sg} (E : Cx p R s m args meth c prog_15_method_9_code 3 "DrawingMachineModel$DrawCommandsModel" 2 D τ B A) (hret : meth.sig.returnType = (some .boolean)) (o : Int32) (s0 : Int32) (h : F_Cmd_may_497 s0 = some o) {H : Heap} {locs : List Loc} {ls : Array Slot} (w : Wd s D A (wdM τ σ0 ad) H locs) (hl : lv_has ls 3 []) : W p l e R s m args below meth c H locs 0 0 (QI below args s A D τ (wdM τ σ0 ad) o) (F0 m 497 ls [.int s0]) := by
  obtain ⟨c77, h⟩ := ck_some h
  obtain rfl := Option.some.inj h
  exact rt_z E w hret c77 d_Cmd_may_497
def F_Cmd_may_492  : Option (Int32) := F_Cmd_may_497 1
set_option maxRecDepth 10000 in
set_option maxHeartbeats 4000000 in
theorem bt_Cmd_may_492 {p : Program} {l : Launch} {e : Env} {R : Room} {s : State} {m : MethodId} {args : Array Value} {below : List Frame} {meth : Method} {c : Code} {D : va_G} {τ : ClassId × ClassId × ClassId} {B : Nat} {A : Nat → Prop} {ad : Nat → Nat} {σ0 : Sg} (E : Cx p R s m args meth c prog_15_method_9_code 3 "DrawingMachineModel$DrawCommandsModel" 2 D τ B A) (hret : meth.sig.returnType = (some .boolean)) (o : Int32) (h : F_Cmd_may_492 = some o) {H : Heap} {locs : List Loc} {ls : Array Slot} (w : Wd s D A (wdM τ σ0 ad) H locs) (hl : lv_has ls 3 []) : W p l e R s m args below meth c H locs 0 0 (QI below args s A D τ (wdM τ σ0 ad) o) (F0 m 492 ls []) := by
  refine lv_iconst (v := 1) E.x E.b d_Cmd_may_492 (by decide) ?_
  refine lv_goto (tgt := 497) E.x E.b d_Cmd_may_493 (by decide) ?_
  exact bt_Cmd_may_497 E hret o 1 h w (lv_sub hl [] rfl)
def F_Cmd_may_486  (s0 : Int64) (s1 : Int64) (s2 : Int64) : Option (Int32) := bd (F_Cmd_in s0 s1 s2) (fun o78 => if o78 = (0 : Int32) then (F_Cmd_may_497 0) else (F_Cmd_may_492))
set_option maxRecDepth 10000 in
set_option maxHeartbeats 4000000 in
theorem bt_Cmd_may_486 {p : Program} {l : Launch} {e : Env} {R : Room} {s : State} {m : MethodId} {args : Array Value} {below : List Frame} {meth : Method} {c : Code} {D : va_G} {τ : ClassId × ClassId × ClassId} {B : Nat} {A : Nat → Prop} {ad : Nat → Nat} {σ0 : Sg} (E : Cx p R s m args meth c prog_15_method_9_code 3 "DrawingMachineModel$DrawCommandsModel" 2 D τ B A) (hret : meth.sig.returnType = (some .boolean)) (o : Int32) (s0 : Int64) (s1 : Int64) (s2 : Int64) (h : F_Cmd_may_486 s0 s1 s2 = some o) {H : Heap} {locs : List Loc} {ls : Array Slot} (w : Wd s D A (wdM τ σ0 ad) H locs) (hl : lv_has ls 3 []) : W p l e R s m args below meth c H locs 0 0 (QI below args s A D τ (wdM τ σ0 ad) o) (F0 m 486 ls [.long s2, .long s1, .long s0]) := by
  obtain ⟨o78, h_o78, h⟩ := bd_some h
  refine clS_Cmd_in E w (x0 := s0) (x1 := s1) (x2 := s2) h_o78 k1844 (by decide) hl.1 (Nat.le_of_ble_eq_true rfl) d_Cmd_may_486 (fun H locs w => ?_)
  refine lv_if_eq (tgt := 496) E.x E.b d_Cmd_may_489 (by decide) (fun c => ?_) (fun c => ?_)
  ·
    replace h := ifT c h
    refine lv_iconst (v := 0) E.x E.b d_Cmd_may_496 (by decide) ?_
    exact bt_Cmd_may_497 E hret o 0 h w (lv_sub hl [] rfl)
  ·
    replace h := ifF c h
    exact bt_Cmd_may_492 E hret o h w (lv_sub hl [] rfl)
def F_Cmd_may_466  (s0 : Int64) (s1 : Int64) : Option (Int32) := F_Cmd_may_486 s0 s1 2
set_option maxRecDepth 10000 in
set_option maxHeartbeats 4000000 in
theorem bt_Cmd_may_466 {p : Program} {l : Launch} {e : Env} {R : Room} {s : State} {m : MethodId} {args : Array Value} {below : List Frame} {meth : Method} {c : Code} {D : va_G} {τ : ClassId × ClassId × ClassId} {B : Nat} {A : Nat → Prop} {ad : Nat → Nat} {σ0 : Sg} (E : Cx p R s m args meth c prog_15_method_9_code 3 "DrawingMachineModel$DrawCommandsModel" 2 D τ B A) (hret : meth.sig.returnType = (some .boolean)) (o : Int32) (s0 : Int64) (s1 : Int64) (h : F_Cmd_may_466 s0 s1 = some o) {H : Heap} {locs : List Loc} {ls : Array Slot} (w : Wd s D A (wdM τ σ0 ad) H locs) (hl : lv_has ls 3 []) : W p l e R s m args below meth c H locs 0 0 (QI below args s A D τ (wdM τ σ0 ad) o) (F0 m 466 ls [.long s1, .long s0]) := by
  refine lv_ldc2 (v := 2) E.x E.b E.o (E.w _ k1963) d_Cmd_may_466 ?_
  refine lv_goto (tgt := 486) E.x E.b d_Cmd_may_469 (by decide) ?_
  exact bt_Cmd_may_486 E hret o s0 s1 2 h w (lv_sub hl [] rfl)
def F_Cmd_may_445  (s0 : Int64) (s1 : Int64) (s2 : Int64) : Option (Int32) := bd (F_Cmd_in s0 s1 s2) (fun o79 => ck (o79 = 0 ∨ o79 = 1) (some o79))
set_option maxRecDepth 10000 in
set_option maxHeartbeats 4000000 in
theorem bt_Cmd_may_445 {p : Program} {l : Launch} {e : Env} {R : Room} {s : State} {m : MethodId} {args : Array Value} {below : List Frame} {meth : Method} {c : Code} {D : va_G} {τ : ClassId × ClassId × ClassId} {B : Nat} {A : Nat → Prop} {ad : Nat → Nat} {σ0 : Sg} (E : Cx p R s m args meth c prog_15_method_9_code 3 "DrawingMachineModel$DrawCommandsModel" 2 D τ B A) (hret : meth.sig.returnType = (some .boolean)) (o : Int32) (s0 : Int64) (s1 : Int64) (s2 : Int64) (h : F_Cmd_may_445 s0 s1 s2 = some o) {H : Heap} {locs : List Loc} {ls : Array Slot} (w : Wd s D A (wdM τ σ0 ad) H locs) (hl : lv_has ls 3 []) : W p l e R s m args below meth c H locs 0 0 (QI below args s A D τ (wdM τ σ0 ad) o) (F0 m 445 ls [.long s2, .long s1, .long s0]) := by
  obtain ⟨o79, h_o79, h⟩ := bd_some h
  refine clS_Cmd_in E w (x0 := s0) (x1 := s1) (x2 := s2) h_o79 k1844 (by decide) hl.1 (Nat.le_of_ble_eq_true rfl) d_Cmd_may_445 (fun H locs w => ?_)
  obtain ⟨c80, h⟩ := ck_some h
  obtain rfl := Option.some.inj h
  exact rt_z E w hret c80 d_Cmd_may_448
def F_Cmd_may_414  (s0 : Int64) (s1 : Int64) (s2 : Int64) : Option (Int32) := bd (F_Cmd_in s0 s1 s2) (fun o81 => ck (o81 = 0 ∨ o81 = 1) (some o81))
set_option maxRecDepth 10000 in
set_option maxHeartbeats 4000000 in
theorem bt_Cmd_may_414 {p : Program} {l : Launch} {e : Env} {R : Room} {s : State} {m : MethodId} {args : Array Value} {below : List Frame} {meth : Method} {c : Code} {D : va_G} {τ : ClassId × ClassId × ClassId} {B : Nat} {A : Nat → Prop} {ad : Nat → Nat} {σ0 : Sg} (E : Cx p R s m args meth c prog_15_method_9_code 3 "DrawingMachineModel$DrawCommandsModel" 2 D τ B A) (hret : meth.sig.returnType = (some .boolean)) (o : Int32) (s0 : Int64) (s1 : Int64) (s2 : Int64) (h : F_Cmd_may_414 s0 s1 s2 = some o) {H : Heap} {locs : List Loc} {ls : Array Slot} (w : Wd s D A (wdM τ σ0 ad) H locs) (hl : lv_has ls 3 []) : W p l e R s m args below meth c H locs 0 0 (QI below args s A D τ (wdM τ σ0 ad) o) (F0 m 414 ls [.long s2, .long s1, .long s0]) := by
  obtain ⟨o81, h_o81, h⟩ := bd_some h
  refine clS_Cmd_in E w (x0 := s0) (x1 := s1) (x2 := s2) h_o81 k1844 (by decide) hl.1 (Nat.le_of_ble_eq_true rfl) d_Cmd_may_414 (fun H locs w => ?_)
  obtain ⟨c82, h⟩ := ck_some h
  obtain rfl := Option.some.inj h
  exact rt_z E w hret c82 d_Cmd_may_417
def F_Cmd_may_377  (s0 : Int32) : Option (Int32) := ck (s0 = 0 ∨ s0 = 1) (some s0)
set_option maxRecDepth 10000 in
set_option maxHeartbeats 4000000 in
theorem bt_Cmd_may_377 {p : Program} {l : Launch} {e : Env} {R : Room} {s : State} {m : MethodId} {args : Array Value} {below : List Frame} {meth : Method} {c : Code} {D : va_G} {τ : ClassId × ClassId × ClassId} {B : Nat} {A : Nat → Prop} {ad : Nat → Nat} {σ0 : Sg} (E : Cx p R s m args meth c prog_15_method_9_code 3 "DrawingMachineModel$DrawCommandsModel" 2 D τ B A) (hret : meth.sig.returnType = (some .boolean)) (o : Int32) (s0 : Int32) (h : F_Cmd_may_377 s0 = some o) {H : Heap} {locs : List Loc} {ls : Array Slot} (w : Wd s D A (wdM τ σ0 ad) H locs) (hl : lv_has ls 3 []) : W p l e R s m args below meth c H locs 0 0 (QI below args s A D τ (wdM τ σ0 ad) o) (F0 m 377 ls [.int s0]) := by
  obtain ⟨c83, h⟩ := ck_some h
  obtain rfl := Option.some.inj h
  exact rt_z E w hret c83 d_Cmd_may_377
def F_Cmd_may_371  (s0 : Int64) (s1 : Int64) : Option (Int32) := bd (F_Cmd_in s0 s1 4) (fun o84 => F_Cmd_may_377 o84)
set_option maxRecDepth 10000 in
set_option maxHeartbeats 4000000 in
theorem bt_Cmd_may_371 {p : Program} {l : Launch} {e : Env} {R : Room} {s : State} {m : MethodId} {args : Array Value} {below : List Frame} {meth : Method} {c : Code} {D : va_G} {τ : ClassId × ClassId × ClassId} {B : Nat} {A : Nat → Prop} {ad : Nat → Nat} {σ0 : Sg} (E : Cx p R s m args meth c prog_15_method_9_code 3 "DrawingMachineModel$DrawCommandsModel" 2 D τ B A) (hret : meth.sig.returnType = (some .boolean)) (o : Int32) (s0 : Int64) (s1 : Int64) (h : F_Cmd_may_371 s0 s1 = some o) {H : Heap} {locs : List Loc} {ls : Array Slot} (w : Wd s D A (wdM τ σ0 ad) H locs) (hl : lv_has ls 3 []) : W p l e R s m args below meth c H locs 0 0 (QI below args s A D τ (wdM τ σ0 ad) o) (F0 m 371 ls [.long s1, .long s0]) := by
  refine lv_ldc2 (v := 4) E.x E.b E.o (E.w _ k1947) d_Cmd_may_371 ?_
  obtain ⟨o84, h_o84, h⟩ := bd_some h
  refine clS_Cmd_in E w (x0 := s0) (x1 := s1) (x2 := 4) h_o84 k1844 (by decide) hl.1 (Nat.le_of_ble_eq_true rfl) d_Cmd_may_374 (fun H locs w => ?_)
  exact bt_Cmd_may_377 E hret o o84 h w (lv_sub hl [] rfl)
def F_Cmd_may_333  (s0 : Int32) : Option (Int32) := ck (s0 = 0 ∨ s0 = 1) (some s0)
set_option maxRecDepth 10000 in
set_option maxHeartbeats 4000000 in
theorem bt_Cmd_may_333 {p : Program} {l : Launch} {e : Env} {R : Room} {s : State} {m : MethodId} {args : Array Value} {below : List Frame} {meth : Method} {c : Code} {D : va_G} {τ : ClassId × ClassId × ClassId} {B : Nat} {A : Nat → Prop} {ad : Nat → Nat} {σ0 : Sg} (E : Cx p R s m args meth c prog_15_method_9_code 3 "DrawingMachineModel$DrawCommandsModel" 2 D τ B A) (hret : meth.sig.returnType = (some .boolean)) (o : Int32) (s0 : Int32) (h : F_Cmd_may_333 s0 = some o) {H : Heap} {locs : List Loc} {ls : Array Slot} (w : Wd s D A (wdM τ σ0 ad) H locs) (hl : lv_has ls 3 []) : W p l e R s m args below meth c H locs 0 0 (QI below args s A D τ (wdM τ σ0 ad) o) (F0 m 333 ls [.int s0]) := by
  obtain ⟨c85, h⟩ := ck_some h
  obtain rfl := Option.some.inj h
  exact rt_z E w hret c85 d_Cmd_may_333
def F_Cmd_may_301  (s0 : Int32) : Option (Int32) := ck (s0 = 0 ∨ s0 = 1) (some s0)
set_option maxRecDepth 10000 in
set_option maxHeartbeats 4000000 in
theorem bt_Cmd_may_301 {p : Program} {l : Launch} {e : Env} {R : Room} {s : State} {m : MethodId} {args : Array Value} {below : List Frame} {meth : Method} {c : Code} {D : va_G} {τ : ClassId × ClassId × ClassId} {B : Nat} {A : Nat → Prop} {ad : Nat → Nat} {σ0 : Sg} (E : Cx p R s m args meth c prog_15_method_9_code 3 "DrawingMachineModel$DrawCommandsModel" 2 D τ B A) (hret : meth.sig.returnType = (some .boolean)) (o : Int32) (s0 : Int32) (h : F_Cmd_may_301 s0 = some o) {H : Heap} {locs : List Loc} {ls : Array Slot} (w : Wd s D A (wdM τ σ0 ad) H locs) (hl : lv_has ls 3 []) : W p l e R s m args below meth c H locs 0 0 (QI below args s A D τ (wdM τ σ0 ad) o) (F0 m 301 ls [.int s0]) := by
  obtain ⟨c86, h⟩ := ck_some h
  obtain rfl := Option.some.inj h
  exact rt_z E w hret c86 d_Cmd_may_301
def F_Cmd_may_276  (v1 : Int32) (v2 : Int32) : Option (Int32) := if v1 = (0 : Int32) then (bd (F_Cmd_in v2.toInt64 0 1048576) (fun o88 => F_Cmd_may_301 o88)) else (bd (F_Cmd_in v2.toInt64 1 256) (fun o87 => F_Cmd_may_301 o87))
set_option maxRecDepth 10000 in
set_option maxHeartbeats 4000000 in
theorem bt_Cmd_may_276 {p : Program} {l : Launch} {e : Env} {R : Room} {s : State} {m : MethodId} {args : Array Value} {below : List Frame} {meth : Method} {c : Code} {D : va_G} {τ : ClassId × ClassId × ClassId} {B : Nat} {A : Nat → Prop} {ad : Nat → Nat} {σ0 : Sg} (E : Cx p R s m args meth c prog_15_method_9_code 3 "DrawingMachineModel$DrawCommandsModel" 2 D τ B A) (hret : meth.sig.returnType = (some .boolean)) (o : Int32) (v1 : Int32) (v2 : Int32) (h : F_Cmd_may_276 v1 v2 = some o) {H : Heap} {locs : List Loc} {ls : Array Slot} (w : Wd s D A (wdM τ σ0 ad) H locs) (hl : lv_has ls 3 [(1, .int v1), (2, .int v2)]) : W p l e R s m args below meth c H locs 0 0 (QI below args s A D τ (wdM τ σ0 ad) o) (F0 m 276 ls []) := by
  refine lv_iload_n E.x E.b d_Cmd_may_276 rfl (lv_at hl 0 rfl) ?_
  refine lv_if_ne (tgt := 292) E.x E.b d_Cmd_may_277 (by decide) (fun c => ?_) (fun c => ?_)
  ·
    replace h := ifF c h
    refine lv_iload_n E.x E.b d_Cmd_may_292 rfl (lv_at hl 1 rfl) ?_
    refine lv_i2l (v := v2.toInt64) E.x E.b d_Cmd_may_293 rfl ?_
    refine lv_lconst (v := 1) E.x E.b d_Cmd_may_294 (by decide) ?_
    refine lv_ldc2 (v := 256) E.x E.b E.o (E.w _ k1951) d_Cmd_may_295 ?_
    obtain ⟨o87, h_o87, h⟩ := bd_some h
    refine clS_Cmd_in E w (x0 := v2.toInt64) (x1 := 1) (x2 := 256) h_o87 k1844 (by decide) hl.1 (Nat.le_of_ble_eq_true rfl) d_Cmd_may_298 (fun H locs w => ?_)
    exact bt_Cmd_may_301 E hret o o87 h w (lv_sub hl [] rfl)
  ·
    replace h := ifT c h
    refine lv_iload_n E.x E.b d_Cmd_may_280 rfl (lv_at hl 1 rfl) ?_
    refine lv_i2l (v := v2.toInt64) E.x E.b d_Cmd_may_281 rfl ?_
    refine lv_lconst (v := 0) E.x E.b d_Cmd_may_282 (by decide) ?_
    refine lv_ldc2 (v := 1048576) E.x E.b E.o (E.w _ k1946) d_Cmd_may_283 ?_
    obtain ⟨o88, h_o88, h⟩ := bd_some h
    refine clS_Cmd_in E w (x0 := v2.toInt64) (x1 := 0) (x2 := 1048576) h_o88 k1844 (by decide) hl.1 (Nat.le_of_ble_eq_true rfl) d_Cmd_may_286 (fun H locs w => ?_)
    refine lv_goto (tgt := 301) E.x E.b d_Cmd_may_289 (by decide) ?_
    exact bt_Cmd_may_301 E hret o o88 h w (lv_sub hl [] rfl)
def F_Cmd_may_272  (s0 : Int64) (s1 : Int64) (s2 : Int64) : Option (Int32) := bd (F_Cmd_in s0 s1 s2) (fun o89 => ck (o89 = 0 ∨ o89 = 1) (some o89))
set_option maxRecDepth 10000 in
set_option maxHeartbeats 4000000 in
theorem bt_Cmd_may_272 {p : Program} {l : Launch} {e : Env} {R : Room} {s : State} {m : MethodId} {args : Array Value} {below : List Frame} {meth : Method} {c : Code} {D : va_G} {τ : ClassId × ClassId × ClassId} {B : Nat} {A : Nat → Prop} {ad : Nat → Nat} {σ0 : Sg} (E : Cx p R s m args meth c prog_15_method_9_code 3 "DrawingMachineModel$DrawCommandsModel" 2 D τ B A) (hret : meth.sig.returnType = (some .boolean)) (o : Int32) (s0 : Int64) (s1 : Int64) (s2 : Int64) (h : F_Cmd_may_272 s0 s1 s2 = some o) {H : Heap} {locs : List Loc} {ls : Array Slot} (w : Wd s D A (wdM τ σ0 ad) H locs) (hl : lv_has ls 3 []) : W p l e R s m args below meth c H locs 0 0 (QI below args s A D τ (wdM τ σ0 ad) o) (F0 m 272 ls [.long s2, .long s1, .long s0]) := by
  obtain ⟨o89, h_o89, h⟩ := bd_some h
  refine clS_Cmd_in E w (x0 := s0) (x1 := s1) (x2 := s2) h_o89 k1844 (by decide) hl.1 (Nat.le_of_ble_eq_true rfl) d_Cmd_may_272 (fun H locs w => ?_)
  obtain ⟨c90, h⟩ := ck_some h
  obtain rfl := Option.some.inj h
  exact rt_z E w hret c90 d_Cmd_may_275
def F_Cmd_may_244  (s0 : Int32) : Option (Int32) := ck (s0 = 0 ∨ s0 = 1) (some s0)
set_option maxRecDepth 10000 in
set_option maxHeartbeats 4000000 in
theorem bt_Cmd_may_244 {p : Program} {l : Launch} {e : Env} {R : Room} {s : State} {m : MethodId} {args : Array Value} {below : List Frame} {meth : Method} {c : Code} {D : va_G} {τ : ClassId × ClassId × ClassId} {B : Nat} {A : Nat → Prop} {ad : Nat → Nat} {σ0 : Sg} (E : Cx p R s m args meth c prog_15_method_9_code 3 "DrawingMachineModel$DrawCommandsModel" 2 D τ B A) (hret : meth.sig.returnType = (some .boolean)) (o : Int32) (s0 : Int32) (h : F_Cmd_may_244 s0 = some o) {H : Heap} {locs : List Loc} {ls : Array Slot} (w : Wd s D A (wdM τ σ0 ad) H locs) (hl : lv_has ls 3 []) : W p l e R s m args below meth c H locs 0 0 (QI below args s A D τ (wdM τ σ0 ad) o) (F0 m 244 ls [.int s0]) := by
  obtain ⟨c91, h⟩ := ck_some h
  obtain rfl := Option.some.inj h
  exact rt_z E w hret c91 d_Cmd_may_244
def F_Cmd_may_239  : Option (Int32) := F_Cmd_may_244 1
set_option maxRecDepth 10000 in
set_option maxHeartbeats 4000000 in
theorem bt_Cmd_may_239 {p : Program} {l : Launch} {e : Env} {R : Room} {s : State} {m : MethodId} {args : Array Value} {below : List Frame} {meth : Method} {c : Code} {D : va_G} {τ : ClassId × ClassId × ClassId} {B : Nat} {A : Nat → Prop} {ad : Nat → Nat} {σ0 : Sg} (E : Cx p R s m args meth c prog_15_method_9_code 3 "DrawingMachineModel$DrawCommandsModel" 2 D τ B A) (hret : meth.sig.returnType = (some .boolean)) (o : Int32) (h : F_Cmd_may_239 = some o) {H : Heap} {locs : List Loc} {ls : Array Slot} (w : Wd s D A (wdM τ σ0 ad) H locs) (hl : lv_has ls 3 []) : W p l e R s m args below meth c H locs 0 0 (QI below args s A D τ (wdM τ σ0 ad) o) (F0 m 239 ls []) := by
  refine lv_iconst (v := 1) E.x E.b d_Cmd_may_239 (by decide) ?_
  refine lv_goto (tgt := 244) E.x E.b d_Cmd_may_240 (by decide) ?_
  exact bt_Cmd_may_244 E hret o 1 h w (lv_sub hl [] rfl)
def F_Cmd_may_219  (s0 : Int64) (s1 : Int64) (s2 : Int64) : Option (Int32) := bd (F_Cmd_in s0 s1 s2) (fun o92 => ck (o92 = 0 ∨ o92 = 1) (some o92))
set_option maxRecDepth 10000 in
set_option maxHeartbeats 4000000 in
theorem bt_Cmd_may_219 {p : Program} {l : Launch} {e : Env} {R : Room} {s : State} {m : MethodId} {args : Array Value} {below : List Frame} {meth : Method} {c : Code} {D : va_G} {τ : ClassId × ClassId × ClassId} {B : Nat} {A : Nat → Prop} {ad : Nat → Nat} {σ0 : Sg} (E : Cx p R s m args meth c prog_15_method_9_code 3 "DrawingMachineModel$DrawCommandsModel" 2 D τ B A) (hret : meth.sig.returnType = (some .boolean)) (o : Int32) (s0 : Int64) (s1 : Int64) (s2 : Int64) (h : F_Cmd_may_219 s0 s1 s2 = some o) {H : Heap} {locs : List Loc} {ls : Array Slot} (w : Wd s D A (wdM τ σ0 ad) H locs) (hl : lv_has ls 3 []) : W p l e R s m args below meth c H locs 0 0 (QI below args s A D τ (wdM τ σ0 ad) o) (F0 m 219 ls [.long s2, .long s1, .long s0]) := by
  obtain ⟨o92, h_o92, h⟩ := bd_some h
  refine clS_Cmd_in E w (x0 := s0) (x1 := s1) (x2 := s2) h_o92 k1844 (by decide) hl.1 (Nat.le_of_ble_eq_true rfl) d_Cmd_may_219 (fun H locs w => ?_)
  obtain ⟨c93, h⟩ := ck_some h
  obtain rfl := Option.some.inj h
  exact rt_z E w hret c93 d_Cmd_may_222
def F_Cmd_may_168  : Option (Int32) := some 1
set_option maxRecDepth 10000 in
set_option maxHeartbeats 4000000 in
theorem bt_Cmd_may_168 {p : Program} {l : Launch} {e : Env} {R : Room} {s : State} {m : MethodId} {args : Array Value} {below : List Frame} {meth : Method} {c : Code} {D : va_G} {τ : ClassId × ClassId × ClassId} {B : Nat} {A : Nat → Prop} {ad : Nat → Nat} {σ0 : Sg} (E : Cx p R s m args meth c prog_15_method_9_code 3 "DrawingMachineModel$DrawCommandsModel" 2 D τ B A) (hret : meth.sig.returnType = (some .boolean)) (o : Int32) (h : F_Cmd_may_168 = some o) {H : Heap} {locs : List Loc} {ls : Array Slot} (w : Wd s D A (wdM τ σ0 ad) H locs) (hl : lv_has ls 3 []) : W p l e R s m args below meth c H locs 0 0 (QI below args s A D τ (wdM τ σ0 ad) o) (F0 m 168 ls []) := by
  refine lv_iconst (v := 1) E.x E.b d_Cmd_may_168 (by decide) ?_
  obtain rfl := Option.some.inj h
  exact rt_z E w hret (show (1 : Int32) = 0 ∨ (1 : Int32) = 1 by decide) d_Cmd_may_169
def F_Cmd_may_161  (s0 : Int32) : Option (Int32) := ck (s0 = 0 ∨ s0 = 1) (some s0)
set_option maxRecDepth 10000 in
set_option maxHeartbeats 4000000 in
theorem bt_Cmd_may_161 {p : Program} {l : Launch} {e : Env} {R : Room} {s : State} {m : MethodId} {args : Array Value} {below : List Frame} {meth : Method} {c : Code} {D : va_G} {τ : ClassId × ClassId × ClassId} {B : Nat} {A : Nat → Prop} {ad : Nat → Nat} {σ0 : Sg} (E : Cx p R s m args meth c prog_15_method_9_code 3 "DrawingMachineModel$DrawCommandsModel" 2 D τ B A) (hret : meth.sig.returnType = (some .boolean)) (o : Int32) (s0 : Int32) (h : F_Cmd_may_161 s0 = some o) {H : Heap} {locs : List Loc} {ls : Array Slot} (w : Wd s D A (wdM τ σ0 ad) H locs) (hl : lv_has ls 3 []) : W p l e R s m args below meth c H locs 0 0 (QI below args s A D τ (wdM τ σ0 ad) o) (F0 m 161 ls [.int s0]) := by
  obtain ⟨c94, h⟩ := ck_some h
  obtain rfl := Option.some.inj h
  exact rt_z E w hret c94 d_Cmd_may_161
def F_Cmd_may_156  : Option (Int32) := F_Cmd_may_161 1
set_option maxRecDepth 10000 in
set_option maxHeartbeats 4000000 in
theorem bt_Cmd_may_156 {p : Program} {l : Launch} {e : Env} {R : Room} {s : State} {m : MethodId} {args : Array Value} {below : List Frame} {meth : Method} {c : Code} {D : va_G} {τ : ClassId × ClassId × ClassId} {B : Nat} {A : Nat → Prop} {ad : Nat → Nat} {σ0 : Sg} (E : Cx p R s m args meth c prog_15_method_9_code 3 "DrawingMachineModel$DrawCommandsModel" 2 D τ B A) (hret : meth.sig.returnType = (some .boolean)) (o : Int32) (h : F_Cmd_may_156 = some o) {H : Heap} {locs : List Loc} {ls : Array Slot} (w : Wd s D A (wdM τ σ0 ad) H locs) (hl : lv_has ls 3 []) : W p l e R s m args below meth c H locs 0 0 (QI below args s A D τ (wdM τ σ0 ad) o) (F0 m 156 ls []) := by
  refine lv_iconst (v := 1) E.x E.b d_Cmd_may_156 (by decide) ?_
  refine lv_goto (tgt := 161) E.x E.b d_Cmd_may_157 (by decide) ?_
  exact bt_Cmd_may_161 E hret o 1 h w (lv_sub hl [] rfl)
def F_Cmd_may_150  (s0 : Int64) (s1 : Int64) (s2 : Int64) : Option (Int32) := bd (F_Cmd_in s0 s1 s2) (fun o95 => if o95 = (0 : Int32) then (F_Cmd_may_161 0) else (F_Cmd_may_156))
set_option maxRecDepth 10000 in
set_option maxHeartbeats 4000000 in
theorem bt_Cmd_may_150 {p : Program} {l : Launch} {e : Env} {R : Room} {s : State} {m : MethodId} {args : Array Value} {below : List Frame} {meth : Method} {c : Code} {D : va_G} {τ : ClassId × ClassId × ClassId} {B : Nat} {A : Nat → Prop} {ad : Nat → Nat} {σ0 : Sg} (E : Cx p R s m args meth c prog_15_method_9_code 3 "DrawingMachineModel$DrawCommandsModel" 2 D τ B A) (hret : meth.sig.returnType = (some .boolean)) (o : Int32) (s0 : Int64) (s1 : Int64) (s2 : Int64) (h : F_Cmd_may_150 s0 s1 s2 = some o) {H : Heap} {locs : List Loc} {ls : Array Slot} (w : Wd s D A (wdM τ σ0 ad) H locs) (hl : lv_has ls 3 []) : W p l e R s m args below meth c H locs 0 0 (QI below args s A D τ (wdM τ σ0 ad) o) (F0 m 150 ls [.long s2, .long s1, .long s0]) := by
  obtain ⟨o95, h_o95, h⟩ := bd_some h
  refine clS_Cmd_in E w (x0 := s0) (x1 := s1) (x2 := s2) h_o95 k1844 (by decide) hl.1 (Nat.le_of_ble_eq_true rfl) d_Cmd_may_150 (fun H locs w => ?_)
  refine lv_if_eq (tgt := 160) E.x E.b d_Cmd_may_153 (by decide) (fun c => ?_) (fun c => ?_)
  ·
    replace h := ifT c h
    refine lv_iconst (v := 0) E.x E.b d_Cmd_may_160 (by decide) ?_
    exact bt_Cmd_may_161 E hret o 0 h w (lv_sub hl [] rfl)
  ·
    replace h := ifF c h
    exact bt_Cmd_may_156 E hret o h w (lv_sub hl [] rfl)
def F_Cmd_may  (x0 : Int32) (x1 : Int32) (x2 : Int32) : Option (Int32) := if x0 = 1 then (if x1 = (0 : Int32) then (bd (F_Cmd_in x2.toInt64 0 7) (fun o97 => F_Cmd_may_161 o97)) else (if x1 = (1 : Int32) then (F_Cmd_may_156) else (if x1 = (2 : Int32) then (F_Cmd_may_150 x2.toInt64 0 16777215) else (F_Cmd_may_150 x2.toInt64 0 255)))) else (if x0 = 2 then (bd (F_Cmd_isViews x1 x2) (fun o99 => ck (o99 = 0 ∨ o99 = 1) (some o99))) else (if x0 = 3 then (F_Cmd_may_168) else (if x0 = 4 then (if x1 = (0 : Int32) then (F_Cmd_may_219 x2.toInt64 0 7) else (if x1 = (1 : Int32) then (F_Cmd_may_219 x2.toInt64 0 1048576) else (if x1 = (2 : Int32) then (F_Cmd_may_219 x2.toInt64 0 1024) else (if x1 = (3 : Int32) then (F_Cmd_may_219 x2.toInt64 0 4) else (F_Cmd_may_219 x2.toInt64 0 3))))) else (if x0 = 5 then (if (0 : Int32) < x1 then (F_Cmd_may_239) else (bd (F_Cmd_in x2.toInt64 0 31) (fun o104 => if o104 = (0 : Int32) then (F_Cmd_may_244 0) else (F_Cmd_may_239)))) else (if x0 = 6 then (if x1 = (0 : Int32) then (F_Cmd_may_272 x2.toInt64 0 31) else (if x1 = (1 : Int32) then (F_Cmd_may_272 x2.toInt64 0 32) else (F_Cmd_may_272 x2.toInt64 0 1048576))) else (if x0 = 7 then (F_Cmd_may_276 x1 x2) else (if x0 = 8 then (F_Cmd_may_276 x1 x2) else (if x0 = 9 then (bd (F_Cmd_isTextures x1 x2) (fun o109 => ck (o109 = 0 ∨ o109 = 1) (some o109))) else (if x0 = 10 then (if x1 = (0 : Int32) then (bd (F_Cmd_in x2.toInt64 (-1) 7) (fun o113 => F_Cmd_may_333 o113)) else (bd (F_Cmd_in x2.toInt64 0 1) (fun o112 => F_Cmd_may_333 o112))) else (if x0 = 11 then (bd (F_Cmd_isStencils x1 x2) (fun o115 => ck (o115 = 0 ∨ o115 = 1) (some o115))) else (if x0 = 12 then (if (4 : Int32) ≤ x1 then (if x1 = (4 : Int32) then (F_Cmd_may_371 x2.toInt64 (-1)) else (F_Cmd_may_371 x2.toInt64 0)) else (bd (F_Cmd_in x2.toInt64 0 14) (fun o118 => F_Cmd_may_377 o118))) else (if x0 = 13 then (F_Cmd_may_168) else (if x0 = 14 then (bd (F_Cmd_in x2.toInt64 (-1) 15) (fun o121 => ck (o121 = 0 ∨ o121 = 1) (some o121))) else (if x0 = 15 then (bd (F_Cmd_in x2.toInt64 0 15) (fun o124 => ck (o124 = 0 ∨ o124 = 1) (some o124))) else (if x0 = 16 then (if x1 = (0 : Int32) then (F_Cmd_may_414 x2.toInt64 0 3) else (F_Cmd_may_414 x2.toInt64 0 1)) else (if x0 = 17 then (if x1 = (0 : Int32) then (F_Cmd_may_445 x2.toInt64 0 2) else (if x1 = (1 : Int32) then (F_Cmd_may_445 x2.toInt64 0 1048576) else (F_Cmd_may_445 x2.toInt64 0 4096))) else (if x0 = 18 then (if x1 = (4 : Int32) then (F_Cmd_may_492) else (if x1 = (0 : Int32) then (F_Cmd_may_466 x2.toInt64 0) else (if x1 = (3 : Int32) then (F_Cmd_may_466 x2.toInt64 0) else (if x1 = (1 : Int32) then (F_Cmd_may_486 x2.toInt64 0 1048576) else (F_Cmd_may_486 x2.toInt64 0 4096))))) else (if x0 = 19 then (if x1 = (0 : Int32) then (F_Cmd_may_512 x2.toInt64 0 7) else (F_Cmd_may_512 x2.toInt64 0 1)) else (if x0 = 20 then (bd (F_Cmd_isCopys x1 x2) (fun o131 => ck (o131 = 0 ∨ o131 = 1) (some o131))) else (if x0 = 21 then (if (1 : Int32) < x1 then (F_Cmd_may_549) else (if x1 = (0 : Int32) then (F_Cmd_may_543 x2.toInt64 0 1048576) else (F_Cmd_may_543 x2.toInt64 0 256))) else (if x0 = 22 then (F_Cmd_may_575 x1 x2) else (if x0 = 23 then (bd (F_Cmd_in x2.toInt64 0 1048576) (fun o136 => ck (o136 = 0 ∨ o136 = 1) (some o136))) else (if x0 = 24 then (bd (F_Cmd_in x2.toInt64 0 3) (fun o139 => ck (o139 = 0 ∨ o139 = 1) (some o139))) else (F_Cmd_may_575 x1 x2))))))))))))))))))))))))
set_option maxRecDepth 10000 in
set_option maxHeartbeats 4000000 in
theorem c_Cmd_may (l : Launch) (D : va_G) (τ : ClassId × ClassId × ClassId) (B : Nat) (σ0 : Sg) (ad : Nat → Nat) (x0 : Int32) (x1 : Int32) (x2 : Int32) (o : Int32) (h : F_Cmd_may x0 x1 x2 = some o) : MI l y_Cmd_may (Cond.code y_Cmd_may prog_15_method_9_code 3 (some .boolean)) 2 D τ B [.int x0, .int x1, .int x2] (wdM τ σ0 ad) (wdM τ σ0 ad) o := by
  refine en_i (by decide) (Nat.le_of_ble_eq_true rfl) ?_
  intro p e R s m args below meth c H locs ls A E hret w hl
  have E : Cx p R s m args meth c prog_15_method_9_code 3 "DrawingMachineModel$DrawCommandsModel" 2 D τ B A := E
  have hl : lv_has ls 3 [(0, .int x0), (1, .int x1), (2, .int x2)] := hl
  refine lv_iload_n E.x E.b d_Cmd_may_0 rfl (lv_at hl 0 rfl) ?_
  by_cases q96 : x0 = 1
  ·
    replace h := ifT q96 h
    refine wi_e (v := 1) q96 ?_
    refine lv_tableIn (off := 111) (tgt := 112) E.x E.b d_Cmd_may_1 (by decide) (by decide) (by decide) (by decide) ?_
    refine lv_iload_n E.x E.b d_Cmd_may_112 rfl (lv_at hl 1 rfl) ?_
    refine lv_if_ne (tgt := 128) E.x E.b d_Cmd_may_113 (by decide) (fun c => ?_) (fun c => ?_)
    ·
      replace h := ifF c h
      refine lv_iload_n E.x E.b d_Cmd_may_128 rfl (lv_at hl 1 rfl) ?_
      refine lv_iconst (v := 1) E.x E.b d_Cmd_may_129 (by decide) ?_
      refine lv_icmp_eq (tgt := 156) E.x E.b d_Cmd_may_130 (by decide) (fun c => ?_) (fun c => ?_)
      ·
        replace h := ifT c h
        exact bt_Cmd_may_156 E hret o h w (lv_sub hl [] rfl)
      ·
        replace h := ifF c h
        refine lv_iload_n E.x E.b d_Cmd_may_133 rfl (lv_at hl 2 rfl) ?_
        refine lv_i2l (v := x2.toInt64) E.x E.b d_Cmd_may_134 rfl ?_
        refine lv_lconst (v := 0) E.x E.b d_Cmd_may_135 (by decide) ?_
        refine lv_iload_n E.x E.b d_Cmd_may_136 rfl (lv_at hl 1 rfl) ?_
        refine lv_iconst (v := 2) E.x E.b d_Cmd_may_137 (by decide) ?_
        refine lv_icmp_ne (tgt := 147) E.x E.b d_Cmd_may_138 (by decide) (fun c => ?_) (fun c => ?_)
        ·
          replace h := ifF c h
          refine lv_ldc2 (v := 255) E.x E.b E.o (E.w _ k1939) d_Cmd_may_147 ?_
          exact bt_Cmd_may_150 E hret o x2.toInt64 0 255 h w (lv_sub hl [] rfl)
        ·
          replace h := ifT c h
          refine lv_ldc2 (v := 16777215) E.x E.b E.o (E.w _ k1938) d_Cmd_may_141 ?_
          refine lv_goto (tgt := 150) E.x E.b d_Cmd_may_144 (by decide) ?_
          exact bt_Cmd_may_150 E hret o x2.toInt64 0 16777215 h w (lv_sub hl [] rfl)
    ·
      replace h := ifT c h
      refine lv_iload_n E.x E.b d_Cmd_may_116 rfl (lv_at hl 2 rfl) ?_
      refine lv_i2l (v := x2.toInt64) E.x E.b d_Cmd_may_117 rfl ?_
      refine lv_lconst (v := 0) E.x E.b d_Cmd_may_118 (by decide) ?_
      refine lv_ldc2 (v := 7) E.x E.b E.o (E.w _ k1937) d_Cmd_may_119 ?_
      obtain ⟨o97, h_o97, h⟩ := bd_some h
      refine clS_Cmd_in E w (x0 := x2.toInt64) (x1 := 0) (x2 := 7) h_o97 k1844 (by decide) hl.1 (Nat.le_of_ble_eq_true rfl) d_Cmd_may_122 (fun H locs w => ?_)
      refine lv_goto (tgt := 161) E.x E.b d_Cmd_may_125 (by decide) ?_
      exact bt_Cmd_may_161 E hret o o97 h w (lv_sub hl [] rfl)
  replace h := ifF q96 h
  replace q96 := ne_ti (k := 1) (by decide) q96
  by_cases q98 : x0 = 2
  ·
    replace h := ifT q98 h
    refine wi_e (v := 2) q98 ?_
    refine lv_tableIn (off := 161) (tgt := 162) E.x E.b d_Cmd_may_1 (by decide) (by decide) (by decide) (by decide) ?_
    refine lv_iload_n E.x E.b d_Cmd_may_162 rfl (lv_at hl 1 rfl) ?_
    refine lv_iload_n E.x E.b d_Cmd_may_163 rfl (lv_at hl 2 rfl) ?_
    obtain ⟨o99, h_o99, h⟩ := bd_some h
    refine clS_Cmd_isViews E w (x0 := x1) (x1 := x2) h_o99 k1940 (by decide) hl.1 (Nat.le_of_ble_eq_true rfl) d_Cmd_may_164 (fun H locs w => ?_)
    obtain ⟨c100, h⟩ := ck_some h
    obtain rfl := Option.some.inj h
    exact rt_z E w hret c100 d_Cmd_may_167
  replace h := ifF q98 h
  replace q98 := ne_ti (k := 2) (by decide) q98
  by_cases q101 : x0 = 3
  ·
    replace h := ifT q101 h
    refine wi_e (v := 3) q101 ?_
    refine lv_tableIn (off := 167) (tgt := 168) E.x E.b d_Cmd_may_1 (by decide) (by decide) (by decide) (by decide) ?_
    exact bt_Cmd_may_168 E hret o h w (lv_sub hl [] rfl)
  replace h := ifF q101 h
  replace q101 := ne_ti (k := 3) (by decide) q101
  by_cases q102 : x0 = 4
  ·
    replace h := ifT q102 h
    refine wi_e (v := 4) q102 ?_
    refine lv_tableIn (off := 169) (tgt := 170) E.x E.b d_Cmd_may_1 (by decide) (by decide) (by decide) (by decide) ?_
    refine lv_iload_n E.x E.b d_Cmd_may_170 rfl (lv_at hl 2 rfl) ?_
    refine lv_i2l (v := x2.toInt64) E.x E.b d_Cmd_may_171 rfl ?_
    refine lv_lconst (v := 0) E.x E.b d_Cmd_may_172 (by decide) ?_
    refine lv_iload_n E.x E.b d_Cmd_may_173 rfl (lv_at hl 1 rfl) ?_
    refine lv_if_ne (tgt := 183) E.x E.b d_Cmd_may_174 (by decide) (fun c => ?_) (fun c => ?_)
    ·
      replace h := ifF c h
      refine lv_iload_n E.x E.b d_Cmd_may_183 rfl (lv_at hl 1 rfl) ?_
      refine lv_iconst (v := 1) E.x E.b d_Cmd_may_184 (by decide) ?_
      refine lv_icmp_ne (tgt := 194) E.x E.b d_Cmd_may_185 (by decide) (fun c => ?_) (fun c => ?_)
      ·
        replace h := ifF c h
        refine lv_iload_n E.x E.b d_Cmd_may_194 rfl (lv_at hl 1 rfl) ?_
        refine lv_iconst (v := 2) E.x E.b d_Cmd_may_195 (by decide) ?_
        refine lv_icmp_ne (tgt := 205) E.x E.b d_Cmd_may_196 (by decide) (fun c => ?_) (fun c => ?_)
        ·
          replace h := ifF c h
          refine lv_iload_n E.x E.b d_Cmd_may_205 rfl (lv_at hl 1 rfl) ?_
          refine lv_iconst (v := 3) E.x E.b d_Cmd_may_206 (by decide) ?_
          refine lv_icmp_ne (tgt := 216) E.x E.b d_Cmd_may_207 (by decide) (fun c => ?_) (fun c => ?_)
          ·
            replace h := ifF c h
            refine lv_ldc2 (v := 3) E.x E.b E.o (E.w _ k1948) d_Cmd_may_216 ?_
            exact bt_Cmd_may_219 E hret o x2.toInt64 0 3 h w (lv_sub hl [] rfl)
          ·
            replace h := ifT c h
            refine lv_ldc2 (v := 4) E.x E.b E.o (E.w _ k1947) d_Cmd_may_210 ?_
            refine lv_goto (tgt := 219) E.x E.b d_Cmd_may_213 (by decide) ?_
            exact bt_Cmd_may_219 E hret o x2.toInt64 0 4 h w (lv_sub hl [] rfl)
        ·
          replace h := ifT c h
          refine lv_ldc2 (v := 1024) E.x E.b E.o (E.w _ k1945) d_Cmd_may_199 ?_
          refine lv_goto (tgt := 219) E.x E.b d_Cmd_may_202 (by decide) ?_
          exact bt_Cmd_may_219 E hret o x2.toInt64 0 1024 h w (lv_sub hl [] rfl)
      ·
        replace h := ifT c h
        refine lv_ldc2 (v := 1048576) E.x E.b E.o (E.w _ k1946) d_Cmd_may_188 ?_
        refine lv_goto (tgt := 219) E.x E.b d_Cmd_may_191 (by decide) ?_
        exact bt_Cmd_may_219 E hret o x2.toInt64 0 1048576 h w (lv_sub hl [] rfl)
    ·
      replace h := ifT c h
      refine lv_ldc2 (v := 7) E.x E.b E.o (E.w _ k1937) d_Cmd_may_177 ?_
      refine lv_goto (tgt := 219) E.x E.b d_Cmd_may_180 (by decide) ?_
      exact bt_Cmd_may_219 E hret o x2.toInt64 0 7 h w (lv_sub hl [] rfl)
  replace h := ifF q102 h
  replace q102 := ne_ti (k := 4) (by decide) q102
  by_cases q103 : x0 = 5
  ·
    replace h := ifT q103 h
    refine wi_e (v := 5) q103 ?_
    refine lv_tableIn (off := 222) (tgt := 223) E.x E.b d_Cmd_may_1 (by decide) (by decide) (by decide) (by decide) ?_
    refine lv_iload_n E.x E.b d_Cmd_may_223 rfl (lv_at hl 1 rfl) ?_
    refine lv_if_gt (tgt := 239) E.x E.b d_Cmd_may_224 (by decide) (fun c => ?_) (fun c => ?_)
    ·
      replace h := ifT c h
      exact bt_Cmd_may_239 E hret o h w (lv_sub hl [] rfl)
    ·
      replace h := ifF c h
      refine lv_iload_n E.x E.b d_Cmd_may_227 rfl (lv_at hl 2 rfl) ?_
      refine lv_i2l (v := x2.toInt64) E.x E.b d_Cmd_may_228 rfl ?_
      refine lv_lconst (v := 0) E.x E.b d_Cmd_may_229 (by decide) ?_
      refine lv_ldc2 (v := 31) E.x E.b E.o (E.w _ k1949) d_Cmd_may_230 ?_
      obtain ⟨o104, h_o104, h⟩ := bd_some h
      refine clS_Cmd_in E w (x0 := x2.toInt64) (x1 := 0) (x2 := 31) h_o104 k1844 (by decide) hl.1 (Nat.le_of_ble_eq_true rfl) d_Cmd_may_233 (fun H locs w => ?_)
      refine lv_if_eq (tgt := 243) E.x E.b d_Cmd_may_236 (by decide) (fun c => ?_) (fun c => ?_)
      ·
        replace h := ifT c h
        refine lv_iconst (v := 0) E.x E.b d_Cmd_may_243 (by decide) ?_
        exact bt_Cmd_may_244 E hret o 0 h w (lv_sub hl [] rfl)
      ·
        replace h := ifF c h
        exact bt_Cmd_may_239 E hret o h w (lv_sub hl [] rfl)
  replace h := ifF q103 h
  replace q103 := ne_ti (k := 5) (by decide) q103
  by_cases q105 : x0 = 6
  ·
    replace h := ifT q105 h
    refine wi_e (v := 6) q105 ?_
    refine lv_tableIn (off := 244) (tgt := 245) E.x E.b d_Cmd_may_1 (by decide) (by decide) (by decide) (by decide) ?_
    refine lv_iload_n E.x E.b d_Cmd_may_245 rfl (lv_at hl 2 rfl) ?_
    refine lv_i2l (v := x2.toInt64) E.x E.b d_Cmd_may_246 rfl ?_
    refine lv_lconst (v := 0) E.x E.b d_Cmd_may_247 (by decide) ?_
    refine lv_iload_n E.x E.b d_Cmd_may_248 rfl (lv_at hl 1 rfl) ?_
    refine lv_if_ne (tgt := 258) E.x E.b d_Cmd_may_249 (by decide) (fun c => ?_) (fun c => ?_)
    ·
      replace h := ifF c h
      refine lv_iload_n E.x E.b d_Cmd_may_258 rfl (lv_at hl 1 rfl) ?_
      refine lv_iconst (v := 1) E.x E.b d_Cmd_may_259 (by decide) ?_
      refine lv_icmp_ne (tgt := 269) E.x E.b d_Cmd_may_260 (by decide) (fun c => ?_) (fun c => ?_)
      ·
        replace h := ifF c h
        refine lv_ldc2 (v := 1048576) E.x E.b E.o (E.w _ k1946) d_Cmd_may_269 ?_
        exact bt_Cmd_may_272 E hret o x2.toInt64 0 1048576 h w (lv_sub hl [] rfl)
      ·
        replace h := ifT c h
        refine lv_ldc2 (v := 32) E.x E.b E.o (E.w _ k1950) d_Cmd_may_263 ?_
        refine lv_goto (tgt := 272) E.x E.b d_Cmd_may_266 (by decide) ?_
        exact bt_Cmd_may_272 E hret o x2.toInt64 0 32 h w (lv_sub hl [] rfl)
    ·
      replace h := ifT c h
      refine lv_ldc2 (v := 31) E.x E.b E.o (E.w _ k1949) d_Cmd_may_252 ?_
      refine lv_goto (tgt := 272) E.x E.b d_Cmd_may_255 (by decide) ?_
      exact bt_Cmd_may_272 E hret o x2.toInt64 0 31 h w (lv_sub hl [] rfl)
  replace h := ifF q105 h
  replace q105 := ne_ti (k := 6) (by decide) q105
  by_cases q106 : x0 = 7
  ·
    replace h := ifT q106 h
    refine wi_e (v := 7) q106 ?_
    refine lv_tableIn (off := 275) (tgt := 276) E.x E.b d_Cmd_may_1 (by decide) (by decide) (by decide) (by decide) ?_
    exact bt_Cmd_may_276 E hret o x1 x2 h w (lv_sub hl [1, 2] rfl)
  replace h := ifF q106 h
  replace q106 := ne_ti (k := 7) (by decide) q106
  by_cases q107 : x0 = 8
  ·
    replace h := ifT q107 h
    refine wi_e (v := 8) q107 ?_
    refine lv_tableIn (off := 275) (tgt := 276) E.x E.b d_Cmd_may_1 (by decide) (by decide) (by decide) (by decide) ?_
    exact bt_Cmd_may_276 E hret o x1 x2 h w (lv_sub hl [1, 2] rfl)
  replace h := ifF q107 h
  replace q107 := ne_ti (k := 8) (by decide) q107
  by_cases q108 : x0 = 9
  ·
    replace h := ifT q108 h
    refine wi_e (v := 9) q108 ?_
    refine lv_tableIn (off := 301) (tgt := 302) E.x E.b d_Cmd_may_1 (by decide) (by decide) (by decide) (by decide) ?_
    refine lv_iload_n E.x E.b d_Cmd_may_302 rfl (lv_at hl 1 rfl) ?_
    refine lv_iload_n E.x E.b d_Cmd_may_303 rfl (lv_at hl 2 rfl) ?_
    obtain ⟨o109, h_o109, h⟩ := bd_some h
    refine clS_Cmd_isTextures E w (x0 := x1) (x1 := x2) h_o109 k1952 (by decide) hl.1 (Nat.le_of_ble_eq_true rfl) d_Cmd_may_304 (fun H locs w => ?_)
    obtain ⟨c110, h⟩ := ck_some h
    obtain rfl := Option.some.inj h
    exact rt_z E w hret c110 d_Cmd_may_307
  replace h := ifF q108 h
  replace q108 := ne_ti (k := 9) (by decide) q108
  by_cases q111 : x0 = 10
  ·
    replace h := ifT q111 h
    refine wi_e (v := 10) q111 ?_
    refine lv_tableIn (off := 307) (tgt := 308) E.x E.b d_Cmd_may_1 (by decide) (by decide) (by decide) (by decide) ?_
    refine lv_iload_n E.x E.b d_Cmd_may_308 rfl (lv_at hl 1 rfl) ?_
    refine lv_if_ne (tgt := 326) E.x E.b d_Cmd_may_309 (by decide) (fun c => ?_) (fun c => ?_)
    ·
      replace h := ifF c h
      refine lv_iload_n E.x E.b d_Cmd_may_326 rfl (lv_at hl 2 rfl) ?_
      refine lv_i2l (v := x2.toInt64) E.x E.b d_Cmd_may_327 rfl ?_
      refine lv_lconst (v := 0) E.x E.b d_Cmd_may_328 (by decide) ?_
      refine lv_lconst (v := 1) E.x E.b d_Cmd_may_329 (by decide) ?_
      obtain ⟨o112, h_o112, h⟩ := bd_some h
      refine clS_Cmd_in E w (x0 := x2.toInt64) (x1 := 0) (x2 := 1) h_o112 k1844 (by decide) hl.1 (Nat.le_of_ble_eq_true rfl) d_Cmd_may_330 (fun H locs w => ?_)
      exact bt_Cmd_may_333 E hret o o112 h w (lv_sub hl [] rfl)
    ·
      replace h := ifT c h
      refine lv_iload_n E.x E.b d_Cmd_may_312 rfl (lv_at hl 2 rfl) ?_
      refine lv_i2l (v := x2.toInt64) E.x E.b d_Cmd_may_313 rfl ?_
      refine lv_ldc2 (v := (-1)) E.x E.b E.o (E.w _ k1957) d_Cmd_may_314 ?_
      refine lv_ldc2 (v := 7) E.x E.b E.o (E.w _ k1937) d_Cmd_may_317 ?_
      obtain ⟨o113, h_o113, h⟩ := bd_some h
      refine clS_Cmd_in E w (x0 := x2.toInt64) (x1 := (-1)) (x2 := 7) h_o113 k1844 (by decide) hl.1 (Nat.le_of_ble_eq_true rfl) d_Cmd_may_320 (fun H locs w => ?_)
      refine lv_goto (tgt := 333) E.x E.b d_Cmd_may_323 (by decide) ?_
      exact bt_Cmd_may_333 E hret o o113 h w (lv_sub hl [] rfl)
  replace h := ifF q111 h
  replace q111 := ne_ti (k := 10) (by decide) q111
  by_cases q114 : x0 = 11
  ·
    replace h := ifT q114 h
    refine wi_e (v := 11) q114 ?_
    refine lv_tableIn (off := 333) (tgt := 334) E.x E.b d_Cmd_may_1 (by decide) (by decide) (by decide) (by decide) ?_
    refine lv_iload_n E.x E.b d_Cmd_may_334 rfl (lv_at hl 1 rfl) ?_
    refine lv_iload_n E.x E.b d_Cmd_may_335 rfl (lv_at hl 2 rfl) ?_
    obtain ⟨o115, h_o115, h⟩ := bd_some h
    refine clS_Cmd_isStencils E w (x0 := x1) (x1 := x2) h_o115 k1958 (by decide) hl.1 (Nat.le_of_ble_eq_true rfl) d_Cmd_may_336 (fun H locs w => ?_)
    obtain ⟨c116, h⟩ := ck_some h
    obtain rfl := Option.some.inj h
    exact rt_z E w hret c116 d_Cmd_may_339
  replace h := ifF q114 h
  replace q114 := ne_ti (k := 11) (by decide) q114
  by_cases q117 : x0 = 12
  ·
    replace h := ifT q117 h
    refine wi_e (v := 12) q117 ?_
    refine lv_tableIn (off := 339) (tgt := 340) E.x E.b d_Cmd_may_1 (by decide) (by decide) (by decide) (by decide) ?_
    refine lv_iload_n E.x E.b d_Cmd_may_340 rfl (lv_at hl 1 rfl) ?_
    refine lv_iconst (v := 4) E.x E.b d_Cmd_may_341 (by decide) ?_
    refine lv_icmp_ge (tgt := 357) E.x E.b d_Cmd_may_342 (by decide) (fun c => ?_) (fun c => ?_)
    ·
      replace h := ifT c h
      refine lv_iload_n E.x E.b d_Cmd_may_357 rfl (lv_at hl 2 rfl) ?_
      refine lv_i2l (v := x2.toInt64) E.x E.b d_Cmd_may_358 rfl ?_
      refine lv_iload_n E.x E.b d_Cmd_may_359 rfl (lv_at hl 1 rfl) ?_
      refine lv_iconst (v := 4) E.x E.b d_Cmd_may_360 (by decide) ?_
      refine lv_icmp_ne (tgt := 370) E.x E.b d_Cmd_may_361 (by decide) (fun c => ?_) (fun c => ?_)
      ·
        replace h := ifF c h
        refine lv_lconst (v := 0) E.x E.b d_Cmd_may_370 (by decide) ?_
        exact bt_Cmd_may_371 E hret o x2.toInt64 0 h w (lv_sub hl [] rfl)
      ·
        replace h := ifT c h
        refine lv_ldc2 (v := (-1)) E.x E.b E.o (E.w _ k1957) d_Cmd_may_364 ?_
        refine lv_goto (tgt := 371) E.x E.b d_Cmd_may_367 (by decide) ?_
        exact bt_Cmd_may_371 E hret o x2.toInt64 (-1) h w (lv_sub hl [] rfl)
    ·
      replace h := ifF c h
      refine lv_iload_n E.x E.b d_Cmd_may_345 rfl (lv_at hl 2 rfl) ?_
      refine lv_i2l (v := x2.toInt64) E.x E.b d_Cmd_may_346 rfl ?_
      refine lv_lconst (v := 0) E.x E.b d_Cmd_may_347 (by decide) ?_
      refine lv_ldc2 (v := 14) E.x E.b E.o (E.w _ k1961) d_Cmd_may_348 ?_
      obtain ⟨o118, h_o118, h⟩ := bd_some h
      refine clS_Cmd_in E w (x0 := x2.toInt64) (x1 := 0) (x2 := 14) h_o118 k1844 (by decide) hl.1 (Nat.le_of_ble_eq_true rfl) d_Cmd_may_351 (fun H locs w => ?_)
      refine lv_goto (tgt := 377) E.x E.b d_Cmd_may_354 (by decide) ?_
      exact bt_Cmd_may_377 E hret o o118 h w (lv_sub hl [] rfl)
  replace h := ifF q117 h
  replace q117 := ne_ti (k := 12) (by decide) q117
  by_cases q119 : x0 = 13
  ·
    replace h := ifT q119 h
    refine wi_e (v := 13) q119 ?_
    refine lv_tableIn (off := 167) (tgt := 168) E.x E.b d_Cmd_may_1 (by decide) (by decide) (by decide) (by decide) ?_
    exact bt_Cmd_may_168 E hret o h w (lv_sub hl [] rfl)
  replace h := ifF q119 h
  replace q119 := ne_ti (k := 13) (by decide) q119
  by_cases q120 : x0 = 14
  ·
    replace h := ifT q120 h
    refine wi_e (v := 14) q120 ?_
    refine lv_tableIn (off := 377) (tgt := 378) E.x E.b d_Cmd_may_1 (by decide) (by decide) (by decide) (by decide) ?_
    refine lv_iload_n E.x E.b d_Cmd_may_378 rfl (lv_at hl 2 rfl) ?_
    refine lv_i2l (v := x2.toInt64) E.x E.b d_Cmd_may_379 rfl ?_
    refine lv_ldc2 (v := (-1)) E.x E.b E.o (E.w _ k1957) d_Cmd_may_380 ?_
    refine lv_ldc2 (v := 15) E.x E.b E.o (E.w _ k1962) d_Cmd_may_383 ?_
    obtain ⟨o121, h_o121, h⟩ := bd_some h
    refine clS_Cmd_in E w (x0 := x2.toInt64) (x1 := (-1)) (x2 := 15) h_o121 k1844 (by decide) hl.1 (Nat.le_of_ble_eq_true rfl) d_Cmd_may_386 (fun H locs w => ?_)
    obtain ⟨c122, h⟩ := ck_some h
    obtain rfl := Option.some.inj h
    exact rt_z E w hret c122 d_Cmd_may_389
  replace h := ifF q120 h
  replace q120 := ne_ti (k := 14) (by decide) q120
  by_cases q123 : x0 = 15
  ·
    replace h := ifT q123 h
    refine wi_e (v := 15) q123 ?_
    refine lv_tableIn (off := 389) (tgt := 390) E.x E.b d_Cmd_may_1 (by decide) (by decide) (by decide) (by decide) ?_
    refine lv_iload_n E.x E.b d_Cmd_may_390 rfl (lv_at hl 2 rfl) ?_
    refine lv_i2l (v := x2.toInt64) E.x E.b d_Cmd_may_391 rfl ?_
    refine lv_lconst (v := 0) E.x E.b d_Cmd_may_392 (by decide) ?_
    refine lv_ldc2 (v := 15) E.x E.b E.o (E.w _ k1962) d_Cmd_may_393 ?_
    obtain ⟨o124, h_o124, h⟩ := bd_some h
    refine clS_Cmd_in E w (x0 := x2.toInt64) (x1 := 0) (x2 := 15) h_o124 k1844 (by decide) hl.1 (Nat.le_of_ble_eq_true rfl) d_Cmd_may_396 (fun H locs w => ?_)
    obtain ⟨c125, h⟩ := ck_some h
    obtain rfl := Option.some.inj h
    exact rt_z E w hret c125 d_Cmd_may_399
  replace h := ifF q123 h
  replace q123 := ne_ti (k := 15) (by decide) q123
  by_cases q126 : x0 = 16
  ·
    replace h := ifT q126 h
    refine wi_e (v := 16) q126 ?_
    refine lv_tableIn (off := 399) (tgt := 400) E.x E.b d_Cmd_may_1 (by decide) (by decide) (by decide) (by decide) ?_
    refine lv_iload_n E.x E.b d_Cmd_may_400 rfl (lv_at hl 2 rfl) ?_
    refine lv_i2l (v := x2.toInt64) E.x E.b d_Cmd_may_401 rfl ?_
    refine lv_lconst (v := 0) E.x E.b d_Cmd_may_402 (by decide) ?_
    refine lv_iload_n E.x E.b d_Cmd_may_403 rfl (lv_at hl 1 rfl) ?_
    refine lv_if_ne (tgt := 413) E.x E.b d_Cmd_may_404 (by decide) (fun c => ?_) (fun c => ?_)
    ·
      replace h := ifF c h
      refine lv_lconst (v := 1) E.x E.b d_Cmd_may_413 (by decide) ?_
      exact bt_Cmd_may_414 E hret o x2.toInt64 0 1 h w (lv_sub hl [] rfl)
    ·
      replace h := ifT c h
      refine lv_ldc2 (v := 3) E.x E.b E.o (E.w _ k1948) d_Cmd_may_407 ?_
      refine lv_goto (tgt := 414) E.x E.b d_Cmd_may_410 (by decide) ?_
      exact bt_Cmd_may_414 E hret o x2.toInt64 0 3 h w (lv_sub hl [] rfl)
  replace h := ifF q126 h
  replace q126 := ne_ti (k := 16) (by decide) q126
  by_cases q127 : x0 = 17
  ·
    replace h := ifT q127 h
    refine wi_e (v := 17) q127 ?_
    refine lv_tableIn (off := 417) (tgt := 418) E.x E.b d_Cmd_may_1 (by decide) (by decide) (by decide) (by decide) ?_
    refine lv_iload_n E.x E.b d_Cmd_may_418 rfl (lv_at hl 2 rfl) ?_
    refine lv_i2l (v := x2.toInt64) E.x E.b d_Cmd_may_419 rfl ?_
    refine lv_lconst (v := 0) E.x E.b d_Cmd_may_420 (by decide) ?_
    refine lv_iload_n E.x E.b d_Cmd_may_421 rfl (lv_at hl 1 rfl) ?_
    refine lv_if_ne (tgt := 431) E.x E.b d_Cmd_may_422 (by decide) (fun c => ?_) (fun c => ?_)
    ·
      replace h := ifF c h
      refine lv_iload_n E.x E.b d_Cmd_may_431 rfl (lv_at hl 1 rfl) ?_
      refine lv_iconst (v := 1) E.x E.b d_Cmd_may_432 (by decide) ?_
      refine lv_icmp_ne (tgt := 442) E.x E.b d_Cmd_may_433 (by decide) (fun c => ?_) (fun c => ?_)
      ·
        replace h := ifF c h
        refine lv_ldc2 (v := 4096) E.x E.b E.o (E.w _ k1964) d_Cmd_may_442 ?_
        exact bt_Cmd_may_445 E hret o x2.toInt64 0 4096 h w (lv_sub hl [] rfl)
      ·
        replace h := ifT c h
        refine lv_ldc2 (v := 1048576) E.x E.b E.o (E.w _ k1946) d_Cmd_may_436 ?_
        refine lv_goto (tgt := 445) E.x E.b d_Cmd_may_439 (by decide) ?_
        exact bt_Cmd_may_445 E hret o x2.toInt64 0 1048576 h w (lv_sub hl [] rfl)
    ·
      replace h := ifT c h
      refine lv_ldc2 (v := 2) E.x E.b E.o (E.w _ k1963) d_Cmd_may_425 ?_
      refine lv_goto (tgt := 445) E.x E.b d_Cmd_may_428 (by decide) ?_
      exact bt_Cmd_may_445 E hret o x2.toInt64 0 2 h w (lv_sub hl [] rfl)
  replace h := ifF q127 h
  replace q127 := ne_ti (k := 17) (by decide) q127
  by_cases q128 : x0 = 18
  ·
    replace h := ifT q128 h
    refine wi_e (v := 18) q128 ?_
    refine lv_tableIn (off := 448) (tgt := 449) E.x E.b d_Cmd_may_1 (by decide) (by decide) (by decide) (by decide) ?_
    refine lv_iload_n E.x E.b d_Cmd_may_449 rfl (lv_at hl 1 rfl) ?_
    refine lv_iconst (v := 4) E.x E.b d_Cmd_may_450 (by decide) ?_
    refine lv_icmp_eq (tgt := 492) E.x E.b d_Cmd_may_451 (by decide) (fun c => ?_) (fun c => ?_)
    ·
      replace h := ifT c h
      exact bt_Cmd_may_492 E hret o h w (lv_sub hl [] rfl)
    ·
      replace h := ifF c h
      refine lv_iload_n E.x E.b d_Cmd_may_454 rfl (lv_at hl 2 rfl) ?_
      refine lv_i2l (v := x2.toInt64) E.x E.b d_Cmd_may_455 rfl ?_
      refine lv_lconst (v := 0) E.x E.b d_Cmd_may_456 (by decide) ?_
      refine lv_iload_n E.x E.b d_Cmd_may_457 rfl (lv_at hl 1 rfl) ?_
      refine lv_if_eq (tgt := 466) E.x E.b d_Cmd_may_458 (by decide) (fun c => ?_) (fun c => ?_)
      ·
        replace h := ifT c h
        exact bt_Cmd_may_466 E hret o x2.toInt64 0 h w (lv_sub hl [] rfl)
      ·
        replace h := ifF c h
        refine lv_iload_n E.x E.b d_Cmd_may_461 rfl (lv_at hl 1 rfl) ?_
        refine lv_iconst (v := 3) E.x E.b d_Cmd_may_462 (by decide) ?_
        refine lv_icmp_ne (tgt := 472) E.x E.b d_Cmd_may_463 (by decide) (fun c => ?_) (fun c => ?_)
        ·
          replace h := ifF c h
          refine lv_iload_n E.x E.b d_Cmd_may_472 rfl (lv_at hl 1 rfl) ?_
          refine lv_iconst (v := 1) E.x E.b d_Cmd_may_473 (by decide) ?_
          refine lv_icmp_ne (tgt := 483) E.x E.b d_Cmd_may_474 (by decide) (fun c => ?_) (fun c => ?_)
          ·
            replace h := ifF c h
            refine lv_ldc2 (v := 4096) E.x E.b E.o (E.w _ k1964) d_Cmd_may_483 ?_
            exact bt_Cmd_may_486 E hret o x2.toInt64 0 4096 h w (lv_sub hl [] rfl)
          ·
            replace h := ifT c h
            refine lv_ldc2 (v := 1048576) E.x E.b E.o (E.w _ k1946) d_Cmd_may_477 ?_
            refine lv_goto (tgt := 486) E.x E.b d_Cmd_may_480 (by decide) ?_
            exact bt_Cmd_may_486 E hret o x2.toInt64 0 1048576 h w (lv_sub hl [] rfl)
        ·
          replace h := ifT c h
          exact bt_Cmd_may_466 E hret o x2.toInt64 0 h w (lv_sub hl [] rfl)
  replace h := ifF q128 h
  replace q128 := ne_ti (k := 18) (by decide) q128
  by_cases q129 : x0 = 19
  ·
    replace h := ifT q129 h
    refine wi_e (v := 19) q129 ?_
    refine lv_tableIn (off := 497) (tgt := 498) E.x E.b d_Cmd_may_1 (by decide) (by decide) (by decide) (by decide) ?_
    refine lv_iload_n E.x E.b d_Cmd_may_498 rfl (lv_at hl 2 rfl) ?_
    refine lv_i2l (v := x2.toInt64) E.x E.b d_Cmd_may_499 rfl ?_
    refine lv_lconst (v := 0) E.x E.b d_Cmd_may_500 (by decide) ?_
    refine lv_iload_n E.x E.b d_Cmd_may_501 rfl (lv_at hl 1 rfl) ?_
    refine lv_if_ne (tgt := 511) E.x E.b d_Cmd_may_502 (by decide) (fun c => ?_) (fun c => ?_)
    ·
      replace h := ifF c h
      refine lv_lconst (v := 1) E.x E.b d_Cmd_may_511 (by decide) ?_
      exact bt_Cmd_may_512 E hret o x2.toInt64 0 1 h w (lv_sub hl [] rfl)
    ·
      replace h := ifT c h
      refine lv_ldc2 (v := 7) E.x E.b E.o (E.w _ k1937) d_Cmd_may_505 ?_
      refine lv_goto (tgt := 512) E.x E.b d_Cmd_may_508 (by decide) ?_
      exact bt_Cmd_may_512 E hret o x2.toInt64 0 7 h w (lv_sub hl [] rfl)
  replace h := ifF q129 h
  replace q129 := ne_ti (k := 19) (by decide) q129
  by_cases q130 : x0 = 20
  ·
    replace h := ifT q130 h
    refine wi_e (v := 20) q130 ?_
    refine lv_tableIn (off := 515) (tgt := 516) E.x E.b d_Cmd_may_1 (by decide) (by decide) (by decide) (by decide) ?_
    refine lv_iload_n E.x E.b d_Cmd_may_516 rfl (lv_at hl 1 rfl) ?_
    refine lv_iload_n E.x E.b d_Cmd_may_517 rfl (lv_at hl 2 rfl) ?_
    obtain ⟨o131, h_o131, h⟩ := bd_some h
    refine clS_Cmd_isCopys E w (x0 := x1) (x1 := x2) h_o131 k1965 (by decide) hl.1 (Nat.le_of_ble_eq_true rfl) d_Cmd_may_518 (fun H locs w => ?_)
    obtain ⟨c132, h⟩ := ck_some h
    obtain rfl := Option.some.inj h
    exact rt_z E w hret c132 d_Cmd_may_521
  replace h := ifF q130 h
  replace q130 := ne_ti (k := 20) (by decide) q130
  by_cases q133 : x0 = 21
  ·
    replace h := ifT q133 h
    refine wi_e (v := 21) q133 ?_
    refine lv_tableIn (off := 521) (tgt := 522) E.x E.b d_Cmd_may_1 (by decide) (by decide) (by decide) (by decide) ?_
    refine lv_iload_n E.x E.b d_Cmd_may_522 rfl (lv_at hl 1 rfl) ?_
    refine lv_iconst (v := 1) E.x E.b d_Cmd_may_523 (by decide) ?_
    refine lv_icmp_gt (tgt := 549) E.x E.b d_Cmd_may_524 (by decide) (fun c => ?_) (fun c => ?_)
    ·
      replace h := ifT c h
      exact bt_Cmd_may_549 E hret o h w (lv_sub hl [] rfl)
    ·
      replace h := ifF c h
      refine lv_iload_n E.x E.b d_Cmd_may_527 rfl (lv_at hl 2 rfl) ?_
      refine lv_i2l (v := x2.toInt64) E.x E.b d_Cmd_may_528 rfl ?_
      refine lv_lconst (v := 0) E.x E.b d_Cmd_may_529 (by decide) ?_
      refine lv_iload_n E.x E.b d_Cmd_may_530 rfl (lv_at hl 1 rfl) ?_
      refine lv_if_ne (tgt := 540) E.x E.b d_Cmd_may_531 (by decide) (fun c => ?_) (fun c => ?_)
      ·
        replace h := ifF c h
        refine lv_ldc2 (v := 256) E.x E.b E.o (E.w _ k1951) d_Cmd_may_540 ?_
        exact bt_Cmd_may_543 E hret o x2.toInt64 0 256 h w (lv_sub hl [] rfl)
      ·
        replace h := ifT c h
        refine lv_ldc2 (v := 1048576) E.x E.b E.o (E.w _ k1946) d_Cmd_may_534 ?_
        refine lv_goto (tgt := 543) E.x E.b d_Cmd_may_537 (by decide) ?_
        exact bt_Cmd_may_543 E hret o x2.toInt64 0 1048576 h w (lv_sub hl [] rfl)
  replace h := ifF q133 h
  replace q133 := ne_ti (k := 21) (by decide) q133
  by_cases q134 : x0 = 22
  ·
    replace h := ifT q134 h
    refine wi_e (v := 22) q134 ?_
    refine lv_tableIn (off := 574) (tgt := 575) E.x E.b d_Cmd_may_1 (by decide) (by decide) (by decide) (by decide) ?_
    exact bt_Cmd_may_575 E hret o x1 x2 h w (lv_sub hl [1, 2] rfl)
  replace h := ifF q134 h
  replace q134 := ne_ti (k := 22) (by decide) q134
  by_cases q135 : x0 = 23
  ·
    replace h := ifT q135 h
    refine wi_e (v := 23) q135 ?_
    refine lv_tableIn (off := 554) (tgt := 555) E.x E.b d_Cmd_may_1 (by decide) (by decide) (by decide) (by decide) ?_
    refine lv_iload_n E.x E.b d_Cmd_may_555 rfl (lv_at hl 2 rfl) ?_
    refine lv_i2l (v := x2.toInt64) E.x E.b d_Cmd_may_556 rfl ?_
    refine lv_lconst (v := 0) E.x E.b d_Cmd_may_557 (by decide) ?_
    refine lv_ldc2 (v := 1048576) E.x E.b E.o (E.w _ k1946) d_Cmd_may_558 ?_
    obtain ⟨o136, h_o136, h⟩ := bd_some h
    refine clS_Cmd_in E w (x0 := x2.toInt64) (x1 := 0) (x2 := 1048576) h_o136 k1844 (by decide) hl.1 (Nat.le_of_ble_eq_true rfl) d_Cmd_may_561 (fun H locs w => ?_)
    obtain ⟨c137, h⟩ := ck_some h
    obtain rfl := Option.some.inj h
    exact rt_z E w hret c137 d_Cmd_may_564
  replace h := ifF q135 h
  replace q135 := ne_ti (k := 23) (by decide) q135
  by_cases q138 : x0 = 24
  ·
    replace h := ifT q138 h
    refine wi_e (v := 24) q138 ?_
    refine lv_tableIn (off := 564) (tgt := 565) E.x E.b d_Cmd_may_1 (by decide) (by decide) (by decide) (by decide) ?_
    refine lv_iload_n E.x E.b d_Cmd_may_565 rfl (lv_at hl 2 rfl) ?_
    refine lv_i2l (v := x2.toInt64) E.x E.b d_Cmd_may_566 rfl ?_
    refine lv_lconst (v := 0) E.x E.b d_Cmd_may_567 (by decide) ?_
    refine lv_ldc2 (v := 3) E.x E.b E.o (E.w _ k1948) d_Cmd_may_568 ?_
    obtain ⟨o139, h_o139, h⟩ := bd_some h
    refine clS_Cmd_in E w (x0 := x2.toInt64) (x1 := 0) (x2 := 3) h_o139 k1844 (by decide) hl.1 (Nat.le_of_ble_eq_true rfl) d_Cmd_may_571 (fun H locs w => ?_)
    obtain ⟨c140, h⟩ := ck_some h
    obtain rfl := Option.some.inj h
    exact rt_z E w hret c140 d_Cmd_may_574
  replace h := ifF q138 h
  replace q138 := ne_ti (k := 24) (by decide) q138
  refine lv_tableOut (tgt := 575) E.x E.b d_Cmd_may_1 (by omega) (by decide) ?_
  exact bt_Cmd_may_575 E hret o x1 x2 h w (lv_sub hl [1, 2] rfl)
theorem clS_Cmd_may {p : Program} {l : Launch} {e : Env} {R : Room} {s : State} {m : MethodId} {args : Array Value} {below : List Frame} {meth : Method} {c : Code} {H : Heap} {locs : List Loc} {Q : State → Prop} {cc : ByteArray} {nL pc lev : Nat} {own : String} {D : va_G} {τ : ClassId × ClassId × ClassId} {B : Nat} {A : Nat → Prop} {σ : Sg} {ad : Nat → Nat} {ls : Array Slot} {rest : List Value} (E : Cx p R s m args meth c cc nL own lev D τ B A) (w : Wd s D A (wdM τ σ ad) H locs) {x0 : Int32} {x1 : Int32} {x2 : Int32} {o : Int32} (h : F_Cmd_may x0 x1 x2 = some o) {index : Nat} (hlk : Cond.methodLink own index y_Cmd_may ∈ tw) (hlev : 2 < lev) (hsz : ls.size = nL) (hr : (rest.map fun v => v.category).sum ≤ 8) (hd : decode cc pc = .ok (.invokestatic index, 3)) (kk : ∀ (H1 : Heap) (locs1 : List Loc), Wd s D A (wdM τ σ ad) H1 locs1 → W p l e R s m args below meth c H1 locs1 0 0 Q (F0 m (pc + 3) ls (.int o :: rest))) : W p l e R s m args below meth c H locs 0 0 Q (F0 m pc ls (.int x2 :: .int x1 :: .int x0 :: rest)) :=
  cr_i w E.C (va_runS (As := [.int x0, .int x1, .int x2]) (rest := rest) E.fix (c_Cmd_may l D τ B σ ad x0 x1 x2 o h H.size) (va_cwS 3 E.w (tw_pre (tw_good k1936) (l := [_, _, _]) (List.forall_mem_cons.mpr ⟨hlk, List.forall_mem_cons.mpr ⟨k1935, List.forall_mem_cons.mpr ⟨k15, fun _ h => absurd h List.not_mem_nil⟩⟩⟩)) rfl rfl rfl (by decide +kernel) (E.rm hlev (by decide))) (wd_pre w E.C [.int x0, .int x1, .int x2]) rfl rfl hsz rfl (lv_room hr) hd ⟨Nat.zero_le _, Nat.zero_le _⟩) kk
