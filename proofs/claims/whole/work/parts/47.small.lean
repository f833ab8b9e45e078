def wdT (τ : ClassId × ClassId × ClassId) (σ : Sg) (ad : Nat → Nat) : va_W := [(ad 1, .inl (τ.1, 245, .inl (σ.2.2.1 1))), (ad 57, .inr (1, [.ref (ad 1)]))]
def wdN (τ : ClassId × ClassId × ClassId) (σ : Sg) (ad : Nat → Nat) : va_W := [(ad 4, .inl (τ.1, 4160, .inl (σ.2.2.1 4))), (ad 60, .inr (13, [.int (σ.1 7), .ref (ad 0), .int (σ.1 8), .int (σ.1 9), .ref (ad 1), .int (σ.1 10), .int (σ.1 11), .int (σ.1 12), .ref (ad 2), .int (σ.1 13), .int (σ.1 14), .int (σ.1 15), .int (σ.1 16), .int (σ.1 17), .int (σ.1 18), .int (σ.1 19), .ref (ad 3), .ref (ad 4)]))]
section SROWS
variable {p : Program} {l : Launch} {e : Env} {R : Room} {s : State} {m : MethodId} {args : Array Value} {below : List Frame} {meth : Method} {c : Code} {H : Heap} {locs : List Loc} {Q : State → Prop}
variable {cc : ByteArray} {nL pc lev : Nat} {own : String} {D : va_G} {τ : ClassId × ClassId × ClassId} {B : Nat} {A : Nat → Prop} {σ σ1 : Sg} {ad : Nat → Nat} {ls : Array Slot} {rest : List Value}
theorem iasT (E : Cx p R s m args meth c cc nL own lev D τ B A) (w : Wd s D A (wdT τ σ ad) H locs) {i v : Int32} (hi : inb i 245) (hs : sA σ 1 (upd (σ.2.2.1 1) i.toNatClampNeg v) = σ1) (hd : decode cc pc = .ok (.iastore, 1)) (kk : ∀ (H1 : Heap) (locs1 : List Loc), Wd s D A (wdT τ σ1 ad) H1 locs1 → W p l e R s m args below meth c H1 locs1 0 0 Q (F0 m (pc + 1) ls rest)) : W p l e R s m args below meth c H locs 0 0 Q (F0 m pc ls (.int v :: .int i :: .ref (ad 1) :: rest)) := r_ias E w (k := 0) rfl hi (by rw [← hs]; rfl) hd kk
theorem alenT (E : Cx p R s m args meth c cc nL own lev D τ B A) (w : Wd s D A (wdT τ σ ad) H locs) (hd : decode cc pc = .ok (.arraylength, 1)) (kk : W p l e R s m args below meth c H locs 0 0 Q (F0 m (pc + 1) ls (.int (Int32.ofNat 245) :: rest))) : W p l e R s m args below meth c H locs 0 0 Q (F0 m pc ls (.ref (ad 1) :: rest)) := r_alen E w (k := 0) (f := σ.2.2.1 1) rfl hd kk
theorem iasN (E : Cx p R s m args meth c cc nL own lev D τ B A) (w : Wd s D A (wdN τ σ ad) H locs) {i v : Int32} (hi : inb i 4160) (hs : sA σ 4 (upd (σ.2.2.1 4) i.toNatClampNeg v) = σ1) (hd : decode cc pc = .ok (.iastore, 1)) (kk : ∀ (H1 : Heap) (locs1 : List Loc), Wd s D A (wdN τ σ1 ad) H1 locs1 → W p l e R s m args below meth c H1 locs1 0 0 Q (F0 m (pc + 1) ls rest)) : W p l e R s m args below meth c H locs 0 0 Q (F0 m pc ls (.int v :: .int i :: .ref (ad 4) :: rest)) := r_ias E w (k := 0) rfl hi (by rw [← hs]; rfl) hd kk
theorem gT_Told_kept (E : Cx p R s m args meth c cc nL own lev D τ B A) (w : Wd s D A (wdT τ σ ad) H locs) {index : Nat} (hlk : Cond.fieldLink own index "DrawingMachine$Told" "kept" "[I" ∈ tw) (hd : decode cc pc = .ok (.getfield index, 3)) (kk : W p l e R s m args below meth c H locs 0 0 Q (F0 m (pc + 3) ls (.ref (ad 1) :: rest))) : W p l e R s m args below meth c H locs 0 0 Q (F0 m pc ls (.ref (ad 57) :: rest)) := va_get (D := D) (ci := 1) (C := R_Told) (T := F_Told) (N := 1) E.1 E.2.1 E.w i_Told E.o E.K w.1 1 rfl rfl 0 (by decide) (E.w _ hlk) (fun _ h9 => h9) rfl hd kk
theorem gN_Cmd_kept (E : Cx p R s m args meth c cc nL own lev D τ B A) (w : Wd s D A (wdN τ σ ad) H locs) {index : Nat} (hlk : Cond.fieldLink own index "DrawingMachineModel$DrawCommandsModel" "kept" "[I" ∈ tw) (hd : decode cc pc = .ok (.getfield index, 3)) (kk : W p l e R s m args below meth c H locs 0 0 Q (F0 m (pc + 3) ls (.ref (ad 4) :: rest))) : W p l e R s m args below meth c H locs 0 0 Q (F0 m pc ls (.ref (ad 60) :: rest)) := va_get (D := D) (ci := 13) (C := R_Cmd) (T := F_Cmd) (N := 18) E.1 E.2.1 E.w i_Cmd E.o E.K w.1 1 rfl rfl 17 (by decide) (E.w _ hlk) (fun _ h9 => h9) rfl hd kk
end SROWS
set_option maxRecDepth 10000 in
set_option maxHeartbeats 4000000 in
theorem ltT_Arr_fill_5 {p : Program} {l : Launch} {e : Env} {R : Room} {s : State} {m : MethodId} {args : Array Value} {below : List Frame} {meth : Method} {c : Code} {D : va_G} {τ : ClassId × ClassId × ClassId} {B : Nat} {A : Nat → Prop} {ad : Nat → Nat} (E : Cx p R s m args meth c prog_39_method_103_code 4 "java/util/Arrays" 0 D τ B A) (hret : meth.sig.returnType = none) (o : Sg) : ∀ (n : Nat) (σ : Sg) (v1 : Int32) (v2 : Int32) (v3 : Int32) (H : Heap) (locs : List Loc) (ls : Array Slot), L_Arr_fill_5 n σ 1 v1 v2 v3 = some o → Wd s D A (wdT τ σ ad) H locs → lv_has ls 4 [(0, .ref (ad 1)), (1, .int v1), (2, .int v2), (3, .int v3)] → W p l e R s m args below meth c H locs 0 0 (QV below args s A D τ (wdT τ o ad)) (F0 m 5 ls []) := by
  intro n
  induction n with
  | zero =>
    intro σ v1 v2 v3 H locs ls h w hl
    cases h
  | succ n hr_5 =>
    intro σ v1 v2 v3 H locs ls h w hl
    obtain ⟨c5, h⟩ := ck_some h
    refine lv_iload_n E.x E.b d_Arr_fill_5 rfl (lv_at hl 2 rfl) ?_
    refine lv_iload_n E.x E.b d_Arr_fill_6 rfl (lv_at hl 3 rfl) ?_
    refine lv_icmp_ge (tgt := 20) E.x E.b d_Arr_fill_7 (by decide) (fun c => ?_) (fun c => ?_)
    ·
      replace h := ifT c h
      obtain rfl := Option.some.inj h
      exact rt_v E w hret d_Arr_fill_20
    ·
      replace h := ifF c h
      refine lv_aload_n E.x E.b d_Arr_fill_10 rfl (lv_at hl 0 rfl) ?_
      refine lv_iload_n E.x E.b d_Arr_fill_11 rfl (lv_at hl 2 rfl) ?_
      refine lv_iload_n E.x E.b d_Arr_fill_12 rfl (lv_at hl 1 rfl) ?_
      obtain ⟨c6, h⟩ := ck_some h
      obtain ⟨σ7, e_σ7, h⟩ := lt_some h
      refine iasT E w c6 e_σ7 d_Arr_fill_13 (fun H locs w => ?_)
      obtain ⟨y8, e_y8, h⟩ := lt_some h
      refine lv_iinc (v := y8) (lv' := [(2, .int y8), (0, .ref (ad 1)), (1, .int v1), (3, .int v3)]) E.x E.b d_Arr_fill_14 hl (k := 2) rfl (e_y8) (by decide) rfl (fun ls hl => ?_)
      refine lv_goto (tgt := 5) E.x E.b d_Arr_fill_17 (by decide) ?_
      exact hr_5 σ7 v1 y8 v3 _ _ _ h w (lv_sub hl [1, 2, 0, 3] rfl)
set_option maxRecDepth 10000 in
set_option maxHeartbeats 4000000 in
theorem cT_Arr_fill (l : Launch) (D : va_G) (τ : ClassId × ClassId × ClassId) (B : Nat) (σ : Sg) (ad : Nat → Nat) (x1 : Int32) (o : Sg) (h : F_Arr_fill σ 1 x1 = some o) : MV l y_Arr_fill (Cond.code y_Arr_fill prog_39_method_103_code 4 none) 0 D τ B [.ref (ad 1), .int x1] (wdT τ σ ad) (wdT τ o ad) := by
  refine en_v (by decide) (Nat.le_of_ble_eq_true rfl) ?_
  intro p e R s m args below meth c H locs ls A E hret w hl
  have E : Cx p R s m args meth c prog_39_method_103_code 4 "java/util/Arrays" 0 D τ B A := E
  have hl : lv_has ls 4 [(0, .ref (ad 1)), (1, .int x1)] := hl
  obtain ⟨c9, h⟩ := ck_some h
  refine lv_iconst (v := 0) E.x E.b d_Arr_fill_0 (by decide) ?_
  refine lv_istore_n (lv' := [(2, .int 0), (0, .ref (ad 1)), (1, .int x1)]) E.x E.b d_Arr_fill_1 rfl hl (by decide) rfl (fun ls hl => ?_)
  refine lv_aload_n E.x E.b d_Arr_fill_2 rfl (lv_at hl 1 rfl) ?_
  refine alenT E w d_Arr_fill_3 ?_
  obtain ⟨y10, e_y10, h⟩ := lt_some h
  refine wi_e (v := y10) e_y10 ?_
  refine lv_istore_n (lv' := [(3, .int y10), (2, .int 0), (0, .ref (ad 1)), (1, .int x1)]) E.x E.b d_Arr_fill_4 rfl hl (by decide) rfl (fun ls hl => ?_)
  exact ltT_Arr_fill_5 E hret o 100000 σ x1 0 y10 _ _ _ h w (lv_sub hl [2, 3, 1, 0] rfl)
theorem clST_Arr_fill {p : Program} {l : Launch} {e : Env} {R : Room} {s : State} {m : MethodId} {args : Array Value} {below : List Frame} {meth : Method} {c : Code} {H : Heap} {locs : List Loc} {Q : State → Prop} {cc : ByteArray} {nL pc lev : Nat} {own : String} {D : va_G} {τ : ClassId × ClassId × ClassId} {B : Nat} {A : Nat → Prop} {σ : Sg} {ad : Nat → Nat} {ls : Array Slot} {rest : List Value} (E : Cx p R s m args meth c cc nL own lev D τ B A) (w : Wd s D A (wdT τ σ ad) H locs) {x1 : Int32} {o : Sg} (h : F_Arr_fill σ 1 x1 = some o) {index : Nat} (hlk : Cond.methodLink own index y_Arr_fill ∈ tw) (hlev : 0 < lev) (hsz : ls.size = nL) (hr : (rest.map fun v => v.category).sum ≤ 8) (hd : decode cc pc = .ok (.invokestatic index, 3)) (kk : ∀ (H1 : Heap) (locs1 : List Loc), Wd s D A (wdT τ o ad) H1 locs1 → W p l e R s m args below meth c H1 locs1 0 0 Q (F0 m (pc + 3) ls (rest))) : W p l e R s m args below meth c H locs 0 0 Q (F0 m pc ls (.int x1 :: .ref (ad 1) :: rest)) :=
  cr_v w E.C (va_runS (As := [.ref (ad 1), .int x1]) (rest := rest) E.fix (cT_Arr_fill l D τ B σ ad x1 o h H.size) (va_cwS 2 E.w (tw_pre (tw_good k60) (l := [_, _, _]) (List.forall_mem_cons.mpr ⟨hlk, List.forall_mem_cons.mpr ⟨k59, List.forall_mem_cons.mpr ⟨k3, fun _ h => absurd h List.not_mem_nil⟩⟩⟩)) rfl rfl rfl (by decide +kernel) (E.rm hlev (by decide))) (wd_pre w E.C [.ref (ad 1), .int x1]) rfl rfl hsz rfl (lv_room hr) hd ⟨Nat.zero_le _, Nat.zero_le _⟩) kk
set_option maxRecDepth 10000 in
set_option maxHeartbeats 4000000 in
theorem ltT_Told_forget_40 {p : Program} {l : Launch} {e : Env} {R : Room} {s : State} {m : MethodId} {args : Array Value} {below : List Frame} {meth : Method} {c : Code} {D : va_G} {τ : ClassId × ClassId × ClassId} {B : Nat} {A : Nat → Prop} {ad : Nat → Nat} (E : Cx p R s m args meth c prog_11_method_2_code 2 "DrawingMachine$Told" 1 D τ B A) (hret : meth.sig.returnType = none) (o : Sg) : ∀ (n : Nat) (σ : Sg) (v1 : Int32) (H : Heap) (locs : List Loc) (ls : Array Slot), L_Told_forget_40 n σ v1 = some o → Wd s D A (wdT τ σ ad) H locs → lv_has ls 2 [(0, .ref (ad 57)), (1, .int v1)] → W p l e R s m args below meth c H locs 0 0 (QV below args s A D τ (wdT τ o ad)) (F0 m 40 ls []) := by
  intro n
  induction n with
  | zero =>
    intro σ v1 H locs ls h w hl
    cases h
  | succ n hr_40 =>
    intro σ v1 H locs ls h w hl
    refine lv_iload_n E.x E.b d_Told_forget_40 rfl (lv_at hl 1 rfl) ?_
    refine lv_iconst (v := 4) E.x E.b d_Told_forget_41 (by decide) ?_
    refine lv_icmp_ge (tgt := 66) E.x E.b d_Told_forget_42 (by decide) (fun c => ?_) (fun c => ?_)
    ·
      replace h := ifT c h
      refine lv_aload_n E.x E.b d_Told_forget_66 rfl (lv_at hl 0 rfl) ?_
      refine gT_Told_kept E w k62 d_Told_forget_67 ?_
      refine lv_sipush (v := 190) E.x E.b d_Told_forget_70 (by decide) ?_
      refine lv_iconst (v := (-1)) E.x E.b d_Told_forget_73 (by decide) ?_
      obtain ⟨σ15, e_σ15, h⟩ := lt_some h
      refine iasT E w (show inb 190 245 by decide) e_σ15 d_Told_forget_74 (fun H locs w => ?_)
      refine lv_aload_n E.x E.b d_Told_forget_75 rfl (lv_at hl 0 rfl) ?_
      refine gT_Told_kept E w k62 d_Told_forget_76 ?_
      refine lv_sipush (v := 192) E.x E.b d_Told_forget_79 (by decide) ?_
      refine lv_iconst (v := (-1)) E.x E.b d_Told_forget_82 (by decide) ?_
      obtain ⟨σ16, e_σ16, h⟩ := lt_some h
      refine iasT E w (show inb 192 245 by decide) e_σ16 d_Told_forget_83 (fun H locs w => ?_)
      refine lv_aload_n E.x E.b d_Told_forget_84 rfl (lv_at hl 0 rfl) ?_
      refine gT_Told_kept E w k62 d_Told_forget_85 ?_
      refine lv_sipush (v := 199) E.x E.b d_Told_forget_88 (by decide) ?_
      refine lv_iconst (v := (-1)) E.x E.b d_Told_forget_91 (by decide) ?_
      obtain ⟨σ17, e_σ17, h⟩ := lt_some h
      refine iasT E w (show inb 199 245 by decide) e_σ17 d_Told_forget_92 (fun H locs w => ?_)
      refine lv_aload_n E.x E.b d_Told_forget_93 rfl (lv_at hl 0 rfl) ?_
      refine gT_Told_kept E w k62 d_Told_forget_94 ?_
      refine lv_sipush (v := 210) E.x E.b d_Told_forget_97 (by decide) ?_
      refine lv_iconst (v := (-1)) E.x E.b d_Told_forget_100 (by decide) ?_
      obtain ⟨σ18, e_σ18, h⟩ := lt_some h
      refine iasT E w (show inb 210 245 by decide) e_σ18 d_Told_forget_101 (fun H locs w => ?_)
      refine lv_aload_n E.x E.b d_Told_forget_102 rfl (lv_at hl 0 rfl) ?_
      refine gT_Told_kept E w k62 d_Told_forget_103 ?_
      refine lv_sipush (v := 213) E.x E.b d_Told_forget_106 (by decide) ?_
      refine lv_iconst (v := (-1)) E.x E.b d_Told_forget_109 (by decide) ?_
      obtain ⟨σ19, e_σ19, h⟩ := lt_some h
      refine iasT E w (show inb 213 245 by decide) e_σ19 d_Told_forget_110 (fun H locs w => ?_)
      refine lv_aload_n E.x E.b d_Told_forget_111 rfl (lv_at hl 0 rfl) ?_
      refine gT_Told_kept E w k62 d_Told_forget_112 ?_
      refine lv_sipush (v := 214) E.x E.b d_Told_forget_115 (by decide) ?_
      refine lv_bipush (v := 15) E.x E.b d_Told_forget_118 (by decide) ?_
      obtain ⟨σ20, e_σ20, h⟩ := lt_some h
      refine iasT E w (show inb 214 245 by decide) e_σ20 d_Told_forget_120 (fun H locs w => ?_)
      obtain rfl := Option.some.inj h
      exact rt_v E w hret d_Told_forget_121
    ·
      replace h := ifF c h
      refine lv_aload_n E.x E.b d_Told_forget_45 rfl (lv_at hl 0 rfl) ?_
      refine gT_Told_kept E w k62 d_Told_forget_46 ?_
      refine lv_sipush (v := 170) E.x E.b d_Told_forget_49 (by decide) ?_
      refine lv_iconst (v := 5) E.x E.b d_Told_forget_52 (by decide) ?_
      refine lv_iload_n E.x E.b d_Told_forget_53 rfl (lv_at hl 1 rfl) ?_
      refine lv_imul E.x E.b d_Told_forget_54 ?_
      refine lv_iadd E.x E.b d_Told_forget_55 ?_
      refine lv_iconst (v := 3) E.x E.b d_Told_forget_56 (by decide) ?_
      refine lv_iadd E.x E.b d_Told_forget_57 ?_
      refine lv_iconst (v := 1) E.x E.b d_Told_forget_58 (by decide) ?_
      obtain ⟨c21, h⟩ := ck_some h
      obtain ⟨σ22, e_σ22, h⟩ := lt_some h
      refine iasT E w c21 e_σ22 d_Told_forget_59 (fun H locs w => ?_)
      obtain ⟨y23, e_y23, h⟩ := lt_some h
      refine lv_iinc (v := y23) (lv' := [(1, .int y23), (0, .ref (ad 57))]) E.x E.b d_Told_forget_60 hl (k := 1) rfl (e_y23) (by decide) rfl (fun ls hl => ?_)
      refine lv_goto (tgt := 40) E.x E.b d_Told_forget_63 (by decide) ?_
      exact hr_40 σ22 y23 _ _ _ h w (lv_sub hl [1, 0] rfl)
set_option maxRecDepth 10000 in
set_option maxHeartbeats 4000000 in
theorem cT_Told_forget (l : Launch) (D : va_G) (τ : ClassId × ClassId × ClassId) (B : Nat) (σ : Sg) (ad : Nat → Nat) (o : Sg) (h : F_Told_forget σ = some o) : MV l y_Told_forget (Cond.code y_Told_forget prog_11_method_2_code 2 none) 1 D τ B [.ref (ad 57)] (wdT τ σ ad) (wdT τ o ad) := by
  refine en_v (by decide) (Nat.le_of_ble_eq_true rfl) ?_
  intro p e R s m args below meth c H locs ls A E hret w hl
  have E : Cx p R s m args meth c prog_11_method_2_code 2 "DrawingMachine$Told" 1 D τ B A := E
  have hl : lv_has ls 2 [(0, .ref (ad 57))] := hl
  refine lv_aload_n E.x E.b d_Told_forget_0 rfl (lv_at hl 0 rfl) ?_
  refine gT_Told_kept E w k62 d_Told_forget_1 ?_
  refine lv_iconst (v := 0) E.x E.b d_Told_forget_4 (by decide) ?_
  obtain ⟨o24, h_o24, h⟩ := bd_some h
  refine clST_Arr_fill E w (x1 := 0) h_o24 k58 (by decide) hl.1 (Nat.le_of_ble_eq_true rfl) d_Told_forget_5 (fun H locs w => ?_)
  refine lv_aload_n E.x E.b d_Told_forget_8 rfl (lv_at hl 0 rfl) ?_
  refine gT_Told_kept E w k62 d_Told_forget_9 ?_
  refine lv_iconst (v := 2) E.x E.b d_Told_forget_12 (by decide) ?_
  refine lv_iconst (v := 1) E.x E.b d_Told_forget_13 (by decide) ?_
  obtain ⟨σ25, e_σ25, h⟩ := lt_some h
  refine iasT E w (show inb 2 245 by decide) e_σ25 d_Told_forget_14 (fun H locs w => ?_)
  refine lv_aload_n E.x E.b d_Told_forget_15 rfl (lv_at hl 0 rfl) ?_
  refine gT_Told_kept E w k62 d_Told_forget_16 ?_
  refine lv_iconst (v := 3) E.x E.b d_Told_forget_19 (by decide) ?_
  refine lv_iconst (v := 1) E.x E.b d_Told_forget_20 (by decide) ?_
  obtain ⟨σ26, e_σ26, h⟩ := lt_some h
  refine iasT E w (show inb 3 245 by decide) e_σ26 d_Told_forget_21 (fun H locs w => ?_)
  refine lv_aload_n E.x E.b d_Told_forget_22 rfl (lv_at hl 0 rfl) ?_
  refine gT_Told_kept E w k62 d_Told_forget_23 ?_
  refine lv_iconst (v := 5) E.x E.b d_Told_forget_26 (by decide) ?_
  refine lv_ldc (v := 16777215) E.x E.b E.o (E.w _ k61) d_Told_forget_27 ?_
  obtain ⟨σ27, e_σ27, h⟩ := lt_some h
  refine iasT E w (show inb 5 245 by decide) e_σ27 d_Told_forget_29 (fun H locs w => ?_)
  refine lv_aload_n E.x E.b d_Told_forget_30 rfl (lv_at hl 0 rfl) ?_
  refine gT_Told_kept E w k62 d_Told_forget_31 ?_
  refine lv_bipush (v := 8) E.x E.b d_Told_forget_34 (by decide) ?_
  refine lv_iconst (v := (-1)) E.x E.b d_Told_forget_36 (by decide) ?_
  obtain ⟨σ28, e_σ28, h⟩ := lt_some h
  refine iasT E w (show inb 8 245 by decide) e_σ28 d_Told_forget_37 (fun H locs w => ?_)
  refine lv_iconst (v := 0) E.x E.b d_Told_forget_38 (by decide) ?_
  refine lv_istore_n (lv' := [(1, .int 0), (0, .ref (ad 57))]) E.x E.b d_Told_forget_39 rfl hl (by decide) rfl (fun ls hl => ?_)
  exact ltT_Told_forget_40 E hret o 100000 σ28 0 _ _ _ h w (lv_sub hl [1, 0] rfl)
set_option maxRecDepth 10000 in
set_option maxHeartbeats 4000000 in
theorem btQ_Cmd_many_124 {p : Program} {l : Launch} {e : Env} {R : Room} {s : State} {m : MethodId} {args : Array Value} {below : List Frame} {meth : Method} {c : Code} {D : va_G} {τ : ClassId × ClassId × ClassId} {B : Nat} {A : Nat → Prop} {ad : Nat → Nat} {σ0 : Sg} (E : Cx p R s m args meth c prog_15_method_10_code 1 "DrawingMachineModel$DrawCommandsModel" 0 D τ B A) (hret : meth.sig.returnType = (some .int)) (o : Int32) (h : F_Cmd_many_124 = some o) {H : Heap} {locs : List Loc} {ls : Array Slot} (w : Wd s D A (wdN τ σ0 ad) H locs) (hl : lv_has ls 1 []) : W p l e R s m args below meth c H locs 0 0 (QI below args s A D τ (wdN τ σ0 ad) o) (F0 m 124 ls []) := by
  refine lv_iconst (v := 0) E.x E.b d_Cmd_many_124 (by decide) ?_
  obtain rfl := Option.some.inj h
  exact rt_i E w hret d_Cmd_many_125
set_option maxRecDepth 10000 in
set_option maxHeartbeats 4000000 in
theorem btQ_Cmd_many_122 {p : Program} {l : Launch} {e : Env} {R : Room} {s : State} {m : MethodId} {args : Array Value} {below : List Frame} {meth : Method} {c : Code} {D : va_G} {τ : ClassId × ClassId × ClassId} {B : Nat} {A : Nat → Prop} {ad : Nat → Nat} {σ0 : Sg} (E : Cx p R s m args meth c prog_15_method_10_code 1 "DrawingMachineModel$DrawCommandsModel" 0 D τ B A) (hret : meth.sig.returnType = (some .int)) (o : Int32) (h : F_Cmd_many_122 = some o) {H : Heap} {locs : List Loc} {ls : Array Slot} (w : Wd s D A (wdN τ σ0 ad) H locs) (hl : lv_has ls 1 []) : W p l e R s m args below meth c H locs 0 0 (QI below args s A D τ (wdN τ σ0 ad) o) (F0 m 122 ls []) := by
  refine lv_iconst (v := 1) E.x E.b d_Cmd_many_122 (by decide) ?_
  obtain rfl := Option.some.inj h
  exact rt_i E w hret d_Cmd_many_123
set_option maxRecDepth 10000 in
set_option maxHeartbeats 4000000 in
theorem btQ_Cmd_many_118 {p : Program} {l : Launch} {e : Env} {R : Room} {s : State} {m : MethodId} {args : Array Value} {below : List Frame} {meth : Method} {c : Code} {D : va_G} {τ : ClassId × ClassId × ClassId} {B : Nat} {A : Nat → Prop} {ad : Nat → Nat} {σ0 : Sg} (E : Cx p R s m args meth c prog_15_method_10_code 1 "DrawingMachineModel$DrawCommandsModel" 0 D τ B A) (hret : meth.sig.returnType = (some .int)) (o : Int32) (h : F_Cmd_many_118 = some o) {H : Heap} {locs : List Loc} {ls : Array Slot} (w : Wd s D A (wdN τ σ0 ad) H locs) (hl : lv_has ls 1 []) : W p l e R s m args below meth c H locs 0 0 (QI below args s A D τ (wdN τ σ0 ad) o) (F0 m 118 ls []) := by
  refine lv_iconst (v := 4) E.x E.b d_Cmd_many_118 (by decide) ?_
  obtain rfl := Option.some.inj h
  exact rt_i E w hret d_Cmd_many_119
set_option maxRecDepth 10000 in
set_option maxHeartbeats 4000000 in
theorem cQ_Cmd_many (l : Launch) (D : va_G) (τ : ClassId × ClassId × ClassId) (B : Nat) (σ0 : Sg) (ad : Nat → Nat) (x0 : Int32) (o : Int32) (h : F_Cmd_many x0 = some o) : MI l y_Cmd_many (Cond.code y_Cmd_many prog_15_method_10_code 1 (some .int)) 0 D τ B [.int x0] (wdN τ σ0 ad) (wdN τ σ0 ad) o := by
  refine en_i (by decide) (Nat.le_of_ble_eq_true rfl) ?_
  intro p e R s m args below meth c H locs ls A E hret w hl
  have E : Cx p R s m args meth c prog_15_method_10_code 1 "DrawingMachineModel$DrawCommandsModel" 0 D τ B A := E
  have hl : lv_has ls 1 [(0, .int x0)] := hl
  refine lv_iload_n E.x E.b d_Cmd_many_0 rfl (lv_at hl 0 rfl) ?_
  by_cases q25 : x0 = 2
  ·
    replace h := ifT q25 h
    refine wi_e (v := 2) q25 ?_
    refine lv_tableIn (off := 121) (tgt := 122) E.x E.b d_Cmd_many_1 (by decide) (by decide) (by decide) (by decide) ?_
    exact btQ_Cmd_many_122 E hret o h w (lv_sub hl [] rfl)
  replace h := ifF q25 h
  replace q25 := ne_ti (k := 2) (by decide) q25
  by_cases q26 : x0 = 3
  ·
    replace h := ifT q26 h
    refine wi_e (v := 3) q26 ?_
    refine lv_tableIn (off := 121) (tgt := 122) E.x E.b d_Cmd_many_1 (by decide) (by decide) (by decide) (by decide) ?_
    exact btQ_Cmd_many_122 E hret o h w (lv_sub hl [] rfl)
  replace h := ifF q26 h
  replace q26 := ne_ti (k := 3) (by decide) q26
  by_cases q27 : x0 = 4
  ·
    replace h := ifT q27 h
    refine wi_e (v := 4) q27 ?_
    refine lv_tableIn (off := 111) (tgt := 112) E.x E.b d_Cmd_many_1 (by decide) (by decide) (by decide) (by decide) ?_
    refine lv_bipush (v := 8) E.x E.b d_Cmd_many_112 (by decide) ?_
    obtain rfl := Option.some.inj h
    exact rt_i E w hret d_Cmd_many_114
  replace h := ifF q27 h
  replace q27 := ne_ti (k := 4) (by decide) q27
  by_cases q28 : x0 = 5
  ·
    replace h := ifT q28 h
    refine wi_e (v := 5) q28 ?_
    refine lv_tableIn (off := 114) (tgt := 115) E.x E.b d_Cmd_many_1 (by decide) (by decide) (by decide) (by decide) ?_
    refine lv_bipush (v := 32) E.x E.b d_Cmd_many_115 (by decide) ?_
    obtain rfl := Option.some.inj h
    exact rt_i E w hret d_Cmd_many_117
  replace h := ifF q28 h
  replace q28 := ne_ti (k := 5) (by decide) q28
  by_cases q29 : x0 = 6
  ·
    replace h := ifT q29 h
    refine wi_e (v := 6) q29 ?_
    refine lv_tableIn (off := 123) (tgt := 124) E.x E.b d_Cmd_many_1 (by decide) (by decide) (by decide) (by decide) ?_
    exact btQ_Cmd_many_124 E hret o h w (lv_sub hl [] rfl)
  replace h := ifF q29 h
  replace q29 := ne_ti (k := 6) (by decide) q29
  by_cases q30 : x0 = 7
  ·
    replace h := ifT q30 h
    refine wi_e (v := 7) q30 ?_
    refine lv_tableIn (off := 121) (tgt := 122) E.x E.b d_Cmd_many_1 (by decide) (by decide) (by decide) (by decide) ?_
    exact btQ_Cmd_many_122 E hret o h w (lv_sub hl [] rfl)
  replace h := ifF q30 h
  replace q30 := ne_ti (k := 7) (by decide) q30
  by_cases q31 : x0 = 8
  ·
    replace h := ifT q31 h
    refine wi_e (v := 8) q31 ?_
    refine lv_tableIn (off := 121) (tgt := 122) E.x E.b d_Cmd_many_1 (by decide) (by decide) (by decide) (by decide) ?_
    exact btQ_Cmd_many_122 E hret o h w (lv_sub hl [] rfl)
  replace h := ifF q31 h
  replace q31 := ne_ti (k := 8) (by decide) q31
  by_cases q32 : x0 = 9
  ·
    replace h := ifT q32 h
    refine wi_e (v := 9) q32 ?_
    refine lv_tableIn (off := 117) (tgt := 118) E.x E.b d_Cmd_many_1 (by decide) (by decide) (by decide) (by decide) ?_
    exact btQ_Cmd_many_118 E hret o h w (lv_sub hl [] rfl)
  replace h := ifF q32 h
  replace q32 := ne_ti (k := 9) (by decide) q32
  by_cases q33 : x0 = 10
  ·
    replace h := ifT q33 h
    refine wi_e (v := 10) q33 ?_
    refine lv_tableIn (off := 121) (tgt := 122) E.x E.b d_Cmd_many_1 (by decide) (by decide) (by decide) (by decide) ?_
    exact btQ_Cmd_many_122 E hret o h w (lv_sub hl [] rfl)
  replace h := ifF q33 h
  replace q33 := ne_ti (k := 10) (by decide) q33
  by_cases q34 : x0 = 11
  ·
    replace h := ifT q34 h
    refine wi_e (v := 11) q34 ?_
    refine lv_tableIn (off := 119) (tgt := 120) E.x E.b d_Cmd_many_1 (by decide) (by decide) (by decide) (by decide) ?_
    refine lv_iconst (v := 2) E.x E.b d_Cmd_many_120 (by decide) ?_
    obtain rfl := Option.some.inj h
    exact rt_i E w hret d_Cmd_many_121
  replace h := ifF q34 h
  replace q34 := ne_ti (k := 11) (by decide) q34
  by_cases q35 : x0 = 12
  ·
    replace h := ifT q35 h
    refine wi_e (v := 12) q35 ?_
    refine lv_tableIn (off := 121) (tgt := 122) E.x E.b d_Cmd_many_1 (by decide) (by decide) (by decide) (by decide) ?_
    exact btQ_Cmd_many_122 E hret o h w (lv_sub hl [] rfl)
  replace h := ifF q35 h
  replace q35 := ne_ti (k := 12) (by decide) q35
  by_cases q36 : x0 = 13
  ·
    replace h := ifT q36 h
    refine wi_e (v := 13) q36 ?_
    refine lv_tableIn (off := 121) (tgt := 122) E.x E.b d_Cmd_many_1 (by decide) (by decide) (by decide) (by decide) ?_
    exact btQ_Cmd_many_122 E hret o h w (lv_sub hl [] rfl)
  replace h := ifF q36 h
  replace q36 := ne_ti (k := 13) (by decide) q36
  by_cases q37 : x0 = 14
  ·
    replace h := ifT q37 h
    refine wi_e (v := 14) q37 ?_
    refine lv_tableIn (off := 121) (tgt := 122) E.x E.b d_Cmd_many_1 (by decide) (by decide) (by decide) (by decide) ?_
    exact btQ_Cmd_many_122 E hret o h w (lv_sub hl [] rfl)
  replace h := ifF q37 h
  replace q37 := ne_ti (k := 14) (by decide) q37
  by_cases q38 : x0 = 15
  ·
    replace h := ifT q38 h
    refine wi_e (v := 15) q38 ?_
    refine lv_tableIn (off := 121) (tgt := 122) E.x E.b d_Cmd_many_1 (by decide) (by decide) (by decide) (by decide) ?_
    exact btQ_Cmd_many_122 E hret o h w (lv_sub hl [] rfl)
  replace h := ifF q38 h
  replace q38 := ne_ti (k := 15) (by decide) q38
  by_cases q39 : x0 = 16
  ·
    replace h := ifT q39 h
    refine wi_e (v := 16) q39 ?_
    refine lv_tableIn (off := 121) (tgt := 122) E.x E.b d_Cmd_many_1 (by decide) (by decide) (by decide) (by decide) ?_
    exact btQ_Cmd_many_122 E hret o h w (lv_sub hl [] rfl)
  replace h := ifF q39 h
  replace q39 := ne_ti (k := 16) (by decide) q39
  by_cases q40 : x0 = 17
  ·
    replace h := ifT q40 h
    refine wi_e (v := 17) q40 ?_
    refine lv_tableIn (off := 123) (tgt := 124) E.x E.b d_Cmd_many_1 (by decide) (by decide) (by decide) (by decide) ?_
    exact btQ_Cmd_many_124 E hret o h w (lv_sub hl [] rfl)
  replace h := ifF q40 h
  replace q40 := ne_ti (k := 17) (by decide) q40
  by_cases q41 : x0 = 18
  ·
    replace h := ifT q41 h
    refine wi_e (v := 18) q41 ?_
    refine lv_tableIn (off := 123) (tgt := 124) E.x E.b d_Cmd_many_1 (by decide) (by decide) (by decide) (by decide) ?_
    exact btQ_Cmd_many_124 E hret o h w (lv_sub hl [] rfl)
  replace h := ifF q41 h
  replace q41 := ne_ti (k := 18) (by decide) q41
  by_cases q42 : x0 = 19
  ·
    replace h := ifT q42 h
    refine wi_e (v := 19) q42 ?_
    refine lv_tableIn (off := 123) (tgt := 124) E.x E.b d_Cmd_many_1 (by decide) (by decide) (by decide) (by decide) ?_
    exact btQ_Cmd_many_124 E hret o h w (lv_sub hl [] rfl)
  replace h := ifF q42 h
  replace q42 := ne_ti (k := 19) (by decide) q42
  by_cases q43 : x0 = 20
  ·
    replace h := ifT q43 h
    refine wi_e (v := 20) q43 ?_
    refine lv_tableIn (off := 123) (tgt := 124) E.x E.b d_Cmd_many_1 (by decide) (by decide) (by decide) (by decide) ?_
    exact btQ_Cmd_many_124 E hret o h w (lv_sub hl [] rfl)
  replace h := ifF q43 h
  replace q43 := ne_ti (k := 20) (by decide) q43
  by_cases q44 : x0 = 21
  ·
    replace h := ifT q44 h
    refine wi_e (v := 21) q44 ?_
    refine lv_tableIn (off := 123) (tgt := 124) E.x E.b d_Cmd_many_1 (by decide) (by decide) (by decide) (by decide) ?_
    exact btQ_Cmd_many_124 E hret o h w (lv_sub hl [] rfl)
  replace h := ifF q44 h
  replace q44 := ne_ti (k := 21) (by decide) q44
  by_cases q45 : x0 = 22
  ·
    replace h := ifT q45 h
    refine wi_e (v := 22) q45 ?_
    refine lv_tableIn (off := 123) (tgt := 124) E.x E.b d_Cmd_many_1 (by decide) (by decide) (by decide) (by decide) ?_
    exact btQ_Cmd_many_124 E hret o h w (lv_sub hl [] rfl)
  replace h := ifF q45 h
  replace q45 := ne_ti (k := 22) (by decide) q45
  by_cases q46 : x0 = 23
  ·
    replace h := ifT q46 h
    refine wi_e (v := 23) q46 ?_
    refine lv_tableIn (off := 123) (tgt := 124) E.x E.b d_Cmd_many_1 (by decide) (by decide) (by decide) (by decide) ?_
    exact btQ_Cmd_many_124 E hret o h w (lv_sub hl [] rfl)
  replace h := ifF q46 h
  replace q46 := ne_ti (k := 23) (by decide) q46
  by_cases q47 : x0 = 24
  ·
    replace h := ifT q47 h
    refine wi_e (v := 24) q47 ?_
    refine lv_tableIn (off := 117) (tgt := 118) E.x E.b d_Cmd_many_1 (by decide) (by decide) (by decide) (by decide) ?_
    exact btQ_Cmd_many_118 E hret o h w (lv_sub hl [] rfl)
  replace h := ifF q47 h
  replace q47 := ne_ti (k := 24) (by decide) q47
  by_cases q48 : x0 = 25
  ·
    replace h := ifT q48 h
    refine wi_e (v := 25) q48 ?_
    refine lv_tableIn (off := 117) (tgt := 118) E.x E.b d_Cmd_many_1 (by decide) (by decide) (by decide) (by decide) ?_
    exact btQ_Cmd_many_118 E hret o h w (lv_sub hl [] rfl)
  replace h := ifF q48 h
  replace q48 := ne_ti (k := 25) (by decide) q48
  refine lv_tableOut (tgt := 124) E.x E.b d_Cmd_many_1 (by omega) (by decide) ?_
  exact btQ_Cmd_many_124 E hret o h w (lv_sub hl [] rfl)
theorem clSQ_Cmd_many {p : Program} {l : Launch} {e : Env} {R : Room} {s : State} {m : MethodId} {args : Array Value} {below : List Frame} {meth : Method} {c : Code} {H : Heap} {locs : List Loc} {Q : State → Prop} {cc : ByteArray} {nL pc lev : Nat} {own : String} {D : va_G} {τ : ClassId × ClassId × ClassId} {B : Nat} {A : Nat → Prop} {σ : Sg} {ad : Nat → Nat} {ls : Array Slot} {rest : List Value} (E : Cx p R s m args meth c cc nL own lev D τ B A) (w : Wd s D A (wdN τ σ ad) H locs) {x0 : Int32} {o : Int32} (h : F_Cmd_many x0 = some o) {index : Nat} (hlk : Cond.methodLink own index y_Cmd_many ∈ tw) (hlev : 0 < lev) (hsz : ls.size = nL) (hr : (rest.map fun v => v.category).sum ≤ 8) (hd : decode cc pc = .ok (.invokestatic index, 3)) (kk : ∀ (H1 : Heap) (locs1 : List Loc), Wd s D A (wdN τ σ ad) H1 locs1 → W p l e R s m args below meth c H1 locs1 0 0 Q (F0 m (pc + 3) ls (.int o :: rest))) : W p l e R s m args below meth c H locs 0 0 Q (F0 m pc ls (.int x0 :: rest)) :=
  cr_i w E.C (va_runS (As := [.int x0]) (rest := rest) E.fix (cQ_Cmd_many l D τ B σ ad x0 o h H.size) (va_cwS 1 E.w (tw_pre (tw_good k1435) (l := [_, _, _]) (List.forall_mem_cons.mpr ⟨hlk, List.forall_mem_cons.mpr ⟨k1434, List.forall_mem_cons.mpr ⟨k15, fun _ h => absurd h List.not_mem_nil⟩⟩⟩)) rfl rfl rfl (by decide +kernel) (E.rm hlev (by decide))) (wd_pre w E.C [.int x0]) rfl rfl hsz rfl (lv_room hr) hd ⟨Nat.zero_le _, Nat.zero_le _⟩) kk
set_option maxRecDepth 10000 in
set_option maxHeartbeats 4000000 in
theorem btQ_Cmd_count_135 {p : Program} {l : Launch} {e : Env} {R : Room} {s : State} {m : MethodId} {args : Array Value} {below : List Frame} {meth : Method} {c : Code} {D : va_G} {τ : ClassId × ClassId × ClassId} {B : Nat} {A : Nat → Prop} {ad : Nat → Nat} {σ0 : Sg} (E : Cx p R s m args meth c prog_15_method_4_code 1 "DrawingMachineModel$DrawCommandsModel" 0 D τ B A) (hret : meth.sig.returnType = (some .int)) (o : Int32) (h : F_Cmd_count_135 = some o) {H : Heap} {locs : List Loc} {ls : Array Slot} (w : Wd s D A (wdN τ σ0 ad) H locs) (hl : lv_has ls 1 []) : W p l e R s m args below meth c H locs 0 0 (QI below args s A D τ (wdN τ σ0 ad) o) (F0 m 135 ls []) := by
  refine lv_bipush (v := 6) E.x E.b d_Cmd_count_135 (by decide) ?_
  obtain rfl := Option.some.inj h
  exact rt_i E w hret d_Cmd_count_137
set_option maxRecDepth 10000 in
set_option maxHeartbeats 4000000 in
theorem btQ_Cmd_count_130 {p : Program} {l : Launch} {e : Env} {R : Room} {s : State} {m : MethodId} {args : Array Value} {below : List Frame} {meth : Method} {c : Code} {D : va_G} {τ : ClassId × ClassId × ClassId} {B : Nat} {A : Nat → Prop} {ad : Nat → Nat} {σ0 : Sg} (E : Cx p R s m args meth c prog_15_method_4_code 1 "DrawingMachineModel$DrawCommandsModel" 0 D τ B A) (hret : meth.sig.returnType = (some .int)) (o : Int32) (h : F_Cmd_count_130 = some o) {H : Heap} {locs : List Loc} {ls : Array Slot} (w : Wd s D A (wdN τ σ0 ad) H locs) (hl : lv_has ls 1 []) : W p l e R s m args below meth c H locs 0 0 (QI below args s A D τ (wdN τ σ0 ad) o) (F0 m 130 ls []) := by
  refine lv_iconst (v := 5) E.x E.b d_Cmd_count_130 (by decide) ?_
  obtain rfl := Option.some.inj h
  exact rt_i E w hret d_Cmd_count_131
set_option maxRecDepth 10000 in
set_option maxHeartbeats 4000000 in
theorem btQ_Cmd_count_128 {p : Program} {l : Launch} {e : Env} {R : Room} {s : State} {m : MethodId} {args : Array Value} {below : List Frame} {meth : Method} {c : Code} {D : va_G} {τ : ClassId × ClassId × ClassId} {B : Nat} {A : Nat → Prop} {ad : Nat → Nat} {σ0 : Sg} (E : Cx p R s m args meth c prog_15_method_4_code 1 "DrawingMachineModel$DrawCommandsModel" 0 D τ B A) (hret : meth.sig.returnType = (some .int)) (o : Int32) (h : F_Cmd_count_128 = some o) {H : Heap} {locs : List Loc} {ls : Array Slot} (w : Wd s D A (wdN τ σ0 ad) H locs) (hl : lv_has ls 1 []) : W p l e R s m args below meth c H locs 0 0 (QI below args s A D τ (wdN τ σ0 ad) o) (F0 m 128 ls []) := by
  refine lv_iconst (v := 4) E.x E.b d_Cmd_count_128 (by decide) ?_
  obtain rfl := Option.some.inj h
  exact rt_i E w hret d_Cmd_count_129
set_option maxRecDepth 10000 in
set_option maxHeartbeats 4000000 in
theorem btQ_Cmd_count_126 {p : Program} {l : Launch} {e : Env} {R : Room} {s : State} {m : MethodId} {args : Array Value} {below : List Frame} {meth : Method} {c : Code} {D : va_G} {τ : ClassId × ClassId × ClassId} {B : Nat} {A : Nat → Prop} {ad : Nat → Nat} {σ0 : Sg} (E : Cx p R s m args meth c prog_15_method_4_code 1 "DrawingMachineModel$DrawCommandsModel" 0 D τ B A) (hret : meth.sig.returnType = (some .int)) (o : Int32) (h : F_Cmd_count_126 = some o) {H : Heap} {locs : List Loc} {ls : Array Slot} (w : Wd s D A (wdN τ σ0 ad) H locs) (hl : lv_has ls 1 []) : W p l e R s m args below meth c H locs 0 0 (QI below args s A D τ (wdN τ σ0 ad) o) (F0 m 126 ls []) := by
  refine lv_iconst (v := 3) E.x E.b d_Cmd_count_126 (by decide) ?_
  obtain rfl := Option.some.inj h
  exact rt_i E w hret d_Cmd_count_127
set_option maxRecDepth 10000 in
set_option maxHeartbeats 4000000 in
theorem btQ_Cmd_count_124 {p : Program} {l : Launch} {e : Env} {R : Room} {s : State} {m : MethodId} {args : Array Value} {below : List Frame} {meth : Method} {c : Code} {D : va_G} {τ : ClassId × ClassId × ClassId} {B : Nat} {A : Nat → Prop} {ad : Nat → Nat} {σ0 : Sg} (E : Cx p R s m args meth c prog_15_method_4_code 1 "DrawingMachineModel$DrawCommandsModel" 0 D τ B A) (hret : meth.sig.returnType = (some .int)) (o : Int32) (h : F_Cmd_count_124 = some o) {H : Heap} {locs : List Loc} {ls : Array Slot} (w : Wd s D A (wdN τ σ0 ad) H locs) (hl : lv_has ls 1 []) : W p l e R s m args below meth c H locs 0 0 (QI below args s A D τ (wdN τ σ0 ad) o) (F0 m 124 ls []) := by
  refine lv_iconst (v := 2) E.x E.b d_Cmd_count_124 (by decide) ?_
  obtain rfl := Option.some.inj h
  exact rt_i E w hret d_Cmd_count_125
set_option maxRecDepth 10000 in
set_option maxHeartbeats 4000000 in
theorem btQ_Cmd_count_122 {p : Program} {l : Launch} {e : Env} {R : Room} {s : State} {m : MethodId} {args : Array Value} {below : List Frame} {meth : Method} {c : Code} {D : va_G} {τ : ClassId × ClassId × ClassId} {B : Nat} {A : Nat → Prop} {ad : Nat → Nat} {σ0 : Sg} (E : Cx p R s m args meth c prog_15_method_4_code 1 "DrawingMachineModel$DrawCommandsModel" 0 D τ B A) (hret : meth.sig.returnType = (some .int)) (o : Int32) (h : F_Cmd_count_122 = some o) {H : Heap} {locs : List Loc} {ls : Array Slot} (w : Wd s D A (wdN τ σ0 ad) H locs) (hl : lv_has ls 1 []) : W p l e R s m args below meth c H locs 0 0 (QI below args s A D τ (wdN τ σ0 ad) o) (F0 m 122 ls []) := by
  refine lv_iconst (v := 1) E.x E.b d_Cmd_count_122 (by decide) ?_
  obtain rfl := Option.some.inj h
  exact rt_i E w hret d_Cmd_count_123
set_option maxRecDepth 10000 in
set_option maxHeartbeats 4000000 in
theorem btQ_Cmd_count_120 {p : Program} {l : Launch} {e : Env} {R : Room} {s : State} {m : MethodId} {args : Array Value} {below : List Frame} {meth : Method} {c : Code} {D : va_G} {τ : ClassId × ClassId × ClassId} {B : Nat} {A : Nat → Prop} {ad : Nat → Nat} {σ0 : Sg} (E : Cx p R s m args meth c prog_15_method_4_code 1 "DrawingMachineModel$DrawCommandsModel" 0 D τ B A) (hret : meth.sig.returnType = (some .int)) (o : Int32) (h : F_Cmd_count_120 = some o) {H : Heap} {locs : List Loc} {ls : Array Slot} (w : Wd s D A (wdN τ σ0 ad) H locs) (hl : lv_has ls 1 []) : W p l e R s m args below meth c H locs 0 0 (QI below args s A D τ (wdN τ σ0 ad) o) (F0 m 120 ls []) := by
  refine lv_iconst (v := 0) E.x E.b d_Cmd_count_120 (by decide) ?_
  obtain rfl := Option.some.inj h
  exact rt_i E w hret d_Cmd_count_121
set_option maxRecDepth 10000 in
set_option maxHeartbeats 4000000 in
theorem cQ_Cmd_count (l : Launch) (D : va_G) (τ : ClassId × ClassId × ClassId) (B : Nat) (σ0 : Sg) (ad : Nat → Nat) (x0 : Int32) (o : Int32) (h : F_Cmd_count x0 = some o) : MI l y_Cmd_count (Cond.code y_Cmd_count prog_15_method_4_code 1 (some .int)) 0 D τ B [.int x0] (wdN τ σ0 ad) (wdN τ σ0 ad) o := by
  refine en_i (by decide) (Nat.le_of_ble_eq_true rfl) ?_
  intro p e R s m args below meth c H locs ls A E hret w hl
  have E : Cx p R s m args meth c prog_15_method_4_code 1 "DrawingMachineModel$DrawCommandsModel" 0 D τ B A := E
  have hl : lv_has ls 1 [(0, .int x0)] := hl
  refine lv_iload_n E.x E.b d_Cmd_count_0 rfl (lv_at hl 0 rfl) ?_
  by_cases q27 : x0 = 0
  ·
    replace h := ifT q27 h
    refine wi_e (v := 0) q27 ?_
    refine lv_tableIn (off := 119) (tgt := 120) E.x E.b d_Cmd_count_1 (by decide) (by decide) (by decide) (by decide) ?_
    exact btQ_Cmd_count_120 E hret o h w (lv_sub hl [] rfl)
  replace h := ifF q27 h
  replace q27 := ne_ti (k := 0) (by decide) q27
  by_cases q28 : x0 = 1
  ·
    replace h := ifT q28 h
    refine wi_e (v := 1) q28 ?_
    refine lv_tableIn (off := 127) (tgt := 128) E.x E.b d_Cmd_count_1 (by decide) (by decide) (by decide) (by decide) ?_
    exact btQ_Cmd_count_128 E hret o h w (lv_sub hl [] rfl)
  replace h := ifF q28 h
  replace q28 := ne_ti (k := 1) (by decide) q28
  by_cases q29 : x0 = 2
  ·
    replace h := ifT q29 h
    refine wi_e (v := 2) q29 ?_
    refine lv_tableIn (off := 134) (tgt := 135) E.x E.b d_Cmd_count_1 (by decide) (by decide) (by decide) (by decide) ?_
    exact btQ_Cmd_count_135 E hret o h w (lv_sub hl [] rfl)
  replace h := ifF q29 h
  replace q29 := ne_ti (k := 2) (by decide) q29
  by_cases q30 : x0 = 3
  ·
    replace h := ifT q30 h
    refine wi_e (v := 3) q30 ?_
    refine lv_tableIn (off := 127) (tgt := 128) E.x E.b d_Cmd_count_1 (by decide) (by decide) (by decide) (by decide) ?_
    exact btQ_Cmd_count_128 E hret o h w (lv_sub hl [] rfl)
  replace h := ifF q30 h
  replace q30 := ne_ti (k := 3) (by decide) q30
  by_cases q31 : x0 = 4
  ·
    replace h := ifT q31 h
    refine wi_e (v := 4) q31 ?_
    refine lv_tableIn (off := 129) (tgt := 130) E.x E.b d_Cmd_count_1 (by decide) (by decide) (by decide) (by decide) ?_
    exact btQ_Cmd_count_130 E hret o h w (lv_sub hl [] rfl)
  replace h := ifF q31 h
  replace q31 := ne_ti (k := 4) (by decide) q31
  by_cases q32 : x0 = 5
  ·
    replace h := ifT q32 h
    refine wi_e (v := 5) q32 ?_
    refine lv_tableIn (off := 129) (tgt := 130) E.x E.b d_Cmd_count_1 (by decide) (by decide) (by decide) (by decide) ?_
    exact btQ_Cmd_count_130 E hret o h w (lv_sub hl [] rfl)
  replace h := ifF q32 h
  replace q32 := ne_ti (k := 5) (by decide) q32
  by_cases q33 : x0 = 6
  ·
    replace h := ifT q33 h
    refine wi_e (v := 6) q33 ?_
    refine lv_tableIn (off := 125) (tgt := 126) E.x E.b d_Cmd_count_1 (by decide) (by decide) (by decide) (by decide) ?_
    exact btQ_Cmd_count_126 E hret o h w (lv_sub hl [] rfl)
  replace h := ifF q33 h
  replace q33 := ne_ti (k := 6) (by decide) q33
  by_cases q34 : x0 = 7
  ·
    replace h := ifT q34 h
    refine wi_e (v := 7) q34 ?_
    refine lv_tableIn (off := 123) (tgt := 124) E.x E.b d_Cmd_count_1 (by decide) (by decide) (by decide) (by decide) ?_
    exact btQ_Cmd_count_124 E hret o h w (lv_sub hl [] rfl)
  replace h := ifF q34 h
  replace q34 := ne_ti (k := 7) (by decide) q34
  by_cases q35 : x0 = 8
  ·
    replace h := ifT q35 h
    refine wi_e (v := 8) q35 ?_
    refine lv_tableIn (off := 123) (tgt := 124) E.x E.b d_Cmd_count_1 (by decide) (by decide) (by decide) (by decide) ?_
    exact btQ_Cmd_count_124 E hret o h w (lv_sub hl [] rfl)
  replace h := ifF q35 h
  replace q35 := ne_ti (k := 8) (by decide) q35
  by_cases q36 : x0 = 9
  ·
    replace h := ifT q36 h
    refine wi_e (v := 9) q36 ?_
    refine lv_tableIn (off := 134) (tgt := 135) E.x E.b d_Cmd_count_1 (by decide) (by decide) (by decide) (by decide) ?_
    exact btQ_Cmd_count_135 E hret o h w (lv_sub hl [] rfl)
  replace h := ifF q36 h
  replace q36 := ne_ti (k := 9) (by decide) q36
  by_cases q37 : x0 = 10
  ·
    replace h := ifT q37 h
    refine wi_e (v := 10) q37 ?_
    refine lv_tableIn (off := 123) (tgt := 124) E.x E.b d_Cmd_count_1 (by decide) (by decide) (by decide) (by decide) ?_
    exact btQ_Cmd_count_124 E hret o h w (lv_sub hl [] rfl)
  replace h := ifF q37 h
  replace q37 := ne_ti (k := 10) (by decide) q37
  by_cases q38 : x0 = 11
  ·
    replace h := ifT q38 h
    refine wi_e (v := 11) q38 ?_
    refine lv_tableIn (off := 131) (tgt := 132) E.x E.b d_Cmd_count_1 (by decide) (by decide) (by decide) (by decide) ?_
    refine lv_bipush (v := 8) E.x E.b d_Cmd_count_132 (by decide) ?_
    obtain rfl := Option.some.inj h
    exact rt_i E w hret d_Cmd_count_134
  replace h := ifF q38 h
  replace q38 := ne_ti (k := 11) (by decide) q38
  by_cases q39 : x0 = 12
  ·
    replace h := ifT q39 h
    refine wi_e (v := 12) q39 ?_
    refine lv_tableIn (off := 134) (tgt := 135) E.x E.b d_Cmd_count_1 (by decide) (by decide) (by decide) (by decide) ?_
    exact btQ_Cmd_count_135 E hret o h w (lv_sub hl [] rfl)
  replace h := ifF q39 h
  replace q39 := ne_ti (k := 12) (by decide) q39
  by_cases q40 : x0 = 13
  ·
    replace h := ifT q40 h
    refine wi_e (v := 13) q40 ?_
    refine lv_tableIn (off := 121) (tgt := 122) E.x E.b d_Cmd_count_1 (by decide) (by decide) (by decide) (by decide) ?_
    exact btQ_Cmd_count_122 E hret o h w (lv_sub hl [] rfl)
  replace h := ifF q40 h
  replace q40 := ne_ti (k := 13) (by decide) q40
  by_cases q41 : x0 = 14
  ·
    replace h := ifT q41 h
    refine wi_e (v := 14) q41 ?_
    refine lv_tableIn (off := 121) (tgt := 122) E.x E.b d_Cmd_count_1 (by decide) (by decide) (by decide) (by decide) ?_
    exact btQ_Cmd_count_122 E hret o h w (lv_sub hl [] rfl)
  replace h := ifF q41 h
  replace q41 := ne_ti (k := 14) (by decide) q41
  by_cases q42 : x0 = 15
  ·
    replace h := ifT q42 h
    refine wi_e (v := 15) q42 ?_
    refine lv_tableIn (off := 121) (tgt := 122) E.x E.b d_Cmd_count_1 (by decide) (by decide) (by decide) (by decide) ?_
    exact btQ_Cmd_count_122 E hret o h w (lv_sub hl [] rfl)
  replace h := ifF q42 h
  replace q42 := ne_ti (k := 15) (by decide) q42
  by_cases q43 : x0 = 16
  ·
    replace h := ifT q43 h
    refine wi_e (v := 16) q43 ?_
    refine lv_tableIn (off := 123) (tgt := 124) E.x E.b d_Cmd_count_1 (by decide) (by decide) (by decide) (by decide) ?_
    exact btQ_Cmd_count_124 E hret o h w (lv_sub hl [] rfl)
  replace h := ifF q43 h
  replace q43 := ne_ti (k := 16) (by decide) q43
  by_cases q44 : x0 = 17
  ·
    replace h := ifT q44 h
    refine wi_e (v := 17) q44 ?_
    refine lv_tableIn (off := 125) (tgt := 126) E.x E.b d_Cmd_count_1 (by decide) (by decide) (by decide) (by decide) ?_
    exact btQ_Cmd_count_126 E hret o h w (lv_sub hl [] rfl)
  replace h := ifF q44 h
  replace q44 := ne_ti (k := 17) (by decide) q44
  by_cases q45 : x0 = 18
  ·
    replace h := ifT q45 h
    refine wi_e (v := 18) q45 ?_
    refine lv_tableIn (off := 129) (tgt := 130) E.x E.b d_Cmd_count_1 (by decide) (by decide) (by decide) (by decide) ?_
    exact btQ_Cmd_count_130 E hret o h w (lv_sub hl [] rfl)
  replace h := ifF q45 h
  replace q45 := ne_ti (k := 18) (by decide) q45
  by_cases q46 : x0 = 19
  ·
    replace h := ifT q46 h
    refine wi_e (v := 19) q46 ?_
    refine lv_tableIn (off := 123) (tgt := 124) E.x E.b d_Cmd_count_1 (by decide) (by decide) (by decide) (by decide) ?_
    exact btQ_Cmd_count_124 E hret o h w (lv_sub hl [] rfl)
  replace h := ifF q46 h
  replace q46 := ne_ti (k := 19) (by decide) q46
  by_cases q47 : x0 = 20
  ·
    replace h := ifT q47 h
    refine wi_e (v := 20) q47 ?_
    refine lv_tableIn (off := 134) (tgt := 135) E.x E.b d_Cmd_count_1 (by decide) (by decide) (by decide) (by decide) ?_
    exact btQ_Cmd_count_135 E hret o h w (lv_sub hl [] rfl)
  replace h := ifF q47 h
  replace q47 := ne_ti (k := 20) (by decide) q47
  by_cases q48 : x0 = 21
  ·
    replace h := ifT q48 h
    refine wi_e (v := 21) q48 ?_
    refine lv_tableIn (off := 123) (tgt := 124) E.x E.b d_Cmd_count_1 (by decide) (by decide) (by decide) (by decide) ?_
    exact btQ_Cmd_count_124 E hret o h w (lv_sub hl [] rfl)
  replace h := ifF q48 h
  replace q48 := ne_ti (k := 21) (by decide) q48
  by_cases q49 : x0 = 22
  ·
    replace h := ifT q49 h
    refine wi_e (v := 22) q49 ?_
    refine lv_tableIn (off := 119) (tgt := 120) E.x E.b d_Cmd_count_1 (by decide) (by decide) (by decide) (by decide) ?_
    exact btQ_Cmd_count_120 E hret o h w (lv_sub hl [] rfl)
  replace h := ifF q49 h
  replace q49 := ne_ti (k := 22) (by decide) q49
  by_cases q50 : x0 = 23
  ·
    replace h := ifT q50 h
    refine wi_e (v := 23) q50 ?_
    refine lv_tableIn (off := 121) (tgt := 122) E.x E.b d_Cmd_count_1 (by decide) (by decide) (by decide) (by decide) ?_
    exact btQ_Cmd_count_122 E hret o h w (lv_sub hl [] rfl)
  replace h := ifF q50 h
  replace q50 := ne_ti (k := 23) (by decide) q50
  by_cases q51 : x0 = 24
  ·
    replace h := ifT q51 h
    refine wi_e (v := 24) q51 ?_
    refine lv_tableIn (off := 127) (tgt := 128) E.x E.b d_Cmd_count_1 (by decide) (by decide) (by decide) (by decide) ?_
    exact btQ_Cmd_count_128 E hret o h w (lv_sub hl [] rfl)
  replace h := ifF q51 h
  replace q51 := ne_ti (k := 24) (by decide) q51
  by_cases q52 : x0 = 25
  ·
    replace h := ifT q52 h
    refine wi_e (v := 25) q52 ?_
    refine lv_tableIn (off := 129) (tgt := 130) E.x E.b d_Cmd_count_1 (by decide) (by decide) (by decide) (by decide) ?_
    exact btQ_Cmd_count_130 E hret o h w (lv_sub hl [] rfl)
  replace h := ifF q52 h
  replace q52 := ne_ti (k := 25) (by decide) q52
  refine lv_tableOut (tgt := 135) E.x E.b d_Cmd_count_1 (by omega) (by decide) ?_
  exact btQ_Cmd_count_135 E hret o h w (lv_sub hl [] rfl)
theorem clSQ_Cmd_count {p : Program} {l : Launch} {e : Env} {R : Room} {s : State} {m : MethodId} {args : Array Value} {below : List Frame} {meth : Method} {c : Code} {H : Heap} {locs : List Loc} {Q : State → Prop} {cc : ByteArray} {nL pc lev : Nat} {own : String} {D : va_G} {τ : ClassId × ClassId × ClassId} {B : Nat} {A : Nat → Prop} {σ : Sg} {ad : Nat → Nat} {ls : Array Slot} {rest : List Value} (E : Cx p R s m args meth c cc nL own lev D τ B A) (w : Wd s D A (wdN τ σ ad) H locs) {x0 : Int32} {o : Int32} (h : F_Cmd_count x0 = some o) {index : Nat} (hlk : Cond.methodLink own index y_Cmd_count ∈ tw) (hlev : 0 < lev) (hsz : ls.size = nL) (hr : (rest.map fun v => v.category).sum ≤ 8) (hd : decode cc pc = .ok (.invokestatic index, 3)) (kk : ∀ (H1 : Heap) (locs1 : List Loc), Wd s D A (wdN τ σ ad) H1 locs1 → W p l e R s m args below meth c H1 locs1 0 0 Q (F0 m (pc + 3) ls (.int o :: rest))) : W p l e R s m args below meth c H locs 0 0 Q (F0 m pc ls (.int x0 :: rest)) :=
  cr_i w E.C (va_runS (As := [.int x0]) (rest := rest) E.fix (cQ_Cmd_count l D τ B σ ad x0 o h H.size) (va_cwS 1 E.w (tw_pre (tw_good k1441) (l := [_, _, _]) (List.forall_mem_cons.mpr ⟨hlk, List.forall_mem_cons.mpr ⟨k1440, List.forall_mem_cons.mpr ⟨k15, fun _ h => absurd h List.not_mem_nil⟩⟩⟩)) rfl rfl rfl (by decide +kernel) (E.rm hlev (by decide))) (wd_pre w E.C [.int x0]) rfl rfl hsz rfl (lv_room hr) hd ⟨Nat.zero_le _, Nat.zero_le _⟩) kk
set_option maxRecDepth 10000 in
set_option maxHeartbeats 4000000 in
theorem cQ_Cmd_rowOf (l : Launch) (D : va_G) (τ : ClassId × ClassId × ClassId) (B : Nat) (σ0 : Sg) (ad : Nat → Nat) (x0 : Int32) (x1 : Int32) (o : Int32) (h : F_Cmd_rowOf x0 x1 = some o) : MI l y_Cmd_rowOf (Cond.code y_Cmd_rowOf prog_15_method_11_code 2 (some .int)) 1 D τ B [.int x0, .int x1] (wdN τ σ0 ad) (wdN τ σ0 ad) o := by
  refine en_i (by decide) (Nat.le_of_ble_eq_true rfl) ?_
  intro p e R s m args below meth c H locs ls A E hret w hl
  have E : Cx p R s m args meth c prog_15_method_11_code 2 "DrawingMachineModel$DrawCommandsModel" 1 D τ B A := E
  have hl : lv_has ls 2 [(0, .int x0), (1, .int x1)] := hl
  refine lv_sipush (v := 160) E.x E.b d_Cmd_rowOf_0 (by decide) ?_
  refine lv_iload_n E.x E.b d_Cmd_rowOf_3 rfl (lv_at hl 0 rfl) ?_
  refine lv_imul E.x E.b d_Cmd_rowOf_4 ?_
  refine lv_iload_n E.x E.b d_Cmd_rowOf_5 rfl (lv_at hl 1 rfl) ?_
  refine lv_iload_n E.x E.b d_Cmd_rowOf_6 rfl (lv_at hl 0 rfl) ?_
  obtain ⟨o2, h_o2, h⟩ := bd_some h
  refine clSQ_Cmd_count E w (x0 := x0) h_o2 k1439 (by decide) hl.1 (Nat.le_of_ble_eq_true rfl) d_Cmd_rowOf_7 (fun H locs w => ?_)
  refine lv_imul E.x E.b d_Cmd_rowOf_10 ?_
  refine lv_iadd E.x E.b d_Cmd_rowOf_11 ?_
  obtain rfl := Option.some.inj h
  exact rt_i E w hret d_Cmd_rowOf_12
theorem clSQ_Cmd_rowOf {p : Program} {l : Launch} {e : Env} {R : Room} {s : State} {m : MethodId} {args : Array Value} {below : List Frame} {meth : Method} {c : Code} {H : Heap} {locs : List Loc} {Q : State → Prop} {cc : ByteArray} {nL pc lev : Nat} {own : String} {D : va_G} {τ : ClassId × ClassId × ClassId} {B : Nat} {A : Nat → Prop} {σ : Sg} {ad : Nat → Nat} {ls : Array Slot} {rest : List Value} (E : Cx p R s m args meth c cc nL own lev D τ B A) (w : Wd s D A (wdN τ σ ad) H locs) {x0 : Int32} {x1 : Int32} {o : Int32} (h : F_Cmd_rowOf x0 x1 = some o) {index : Nat} (hlk : Cond.methodLink own index y_Cmd_rowOf ∈ tw) (hlev : 1 < lev) (hsz : ls.size = nL) (hr : (rest.map fun v => v.category).sum ≤ 8) (hd : decode cc pc = .ok (.invokestatic index, 3)) (kk : ∀ (H1 : Heap) (locs1 : List Loc), Wd s D A (wdN τ σ ad) H1 locs1 → W p l e R s m args below meth c H1 locs1 0 0 Q (F0 m (pc + 3) ls (.int o :: rest))) : W p l e R s m args below meth c H locs 0 0 Q (F0 m pc ls (.int x1 :: .int x0 :: rest)) :=
  cr_i w E.C (va_runS (As := [.int x0, .int x1]) (rest := rest) E.fix (cQ_Cmd_rowOf l D τ B σ ad x0 x1 o h H.size) (va_cwS 2 E.w (tw_pre (tw_good k1438) (l := [_, _, _]) (List.forall_mem_cons.mpr ⟨hlk, List.forall_mem_cons.mpr ⟨k1437, List.forall_mem_cons.mpr ⟨k15, fun _ h => absurd h List.not_mem_nil⟩⟩⟩)) rfl rfl rfl (by decide +kernel) (E.rm hlev (by decide))) (wd_pre w E.C [.int x0, .int x1]) rfl rfl hsz rfl (lv_room hr) hd ⟨Nat.zero_le _, Nat.zero_le _⟩) kk
set_option maxRecDepth 10000 in
set_option maxHeartbeats 4000000 in
theorem ltQ_Cmd_nothingTold_228 {p : Program} {l : Launch} {e : Env} {R : Room} {s : State} {m : MethodId} {args : Array Value} {below : List Frame} {meth : Method} {c : Code} {D : va_G} {τ : ClassId × ClassId × ClassId} {B : Nat} {A : Nat → Prop} {ad : Nat → Nat} (E : Cx p R s m args meth c prog_15_method_12_code 3 "DrawingMachineModel$DrawCommandsModel" 2 D τ B A) (hret : meth.sig.returnType = none) (o : Sg) : ∀ (n : Nat) (σ : Sg) (v1 : Int32) (H : Heap) (locs : List Loc) (ls : Array Slot), L_Cmd_nothingTold_228 n σ v1 = some o → Wd s D A (wdN τ σ ad) H locs → lv_has ls 3 [(0, .ref (ad 60)), (1, .int v1)] → W p l e R s m args below meth c H locs 0 0 (QV below args s A D τ (wdN τ o ad)) (F0 m 228 ls []) := by
  intro n
  induction n with
  | zero =>
    intro σ v1 H locs ls h w hl
    cases h
  | succ n hr_228 =>
    intro σ v1 H locs ls h w hl
    refine lv_iload_n E.x E.b d_Cmd_nothingTold_228 rfl (lv_at hl 1 rfl) ?_
    refine lv_iconst (v := 2) E.x E.b d_Cmd_nothingTold_229 (by decide) ?_
    refine lv_icmp_ge (tgt := 253) E.x E.b d_Cmd_nothingTold_230 (by decide) (fun c => ?_) (fun c => ?_)
    ·
      replace h := ifT c h
      obtain rfl := Option.some.inj h
      exact rt_v E w hret d_Cmd_nothingTold_253
    ·
      replace h := ifF c h
      refine lv_aload_n E.x E.b d_Cmd_nothingTold_233 rfl (lv_at hl 0 rfl) ?_
      refine gN_Cmd_kept E w k1468 d_Cmd_nothingTold_234 ?_
      refine lv_bipush (v := 11) E.x E.b d_Cmd_nothingTold_237 (by decide) ?_
      refine lv_iload_n E.x E.b d_Cmd_nothingTold_239 rfl (lv_at hl 1 rfl) ?_
      obtain ⟨o49, h_o49, h⟩ := bd_some h
      refine clSQ_Cmd_rowOf E w (x0 := 11) (x1 := v1) h_o49 k1436 (by decide) hl.1 (Nat.le_of_ble_eq_true rfl) d_Cmd_nothingTold_240 (fun H locs w => ?_)
      refine lv_iconst (v := 1) E.x E.b d_Cmd_nothingTold_243 (by decide) ?_
      refine lv_iadd E.x E.b d_Cmd_nothingTold_244 ?_
      refine lv_iconst (v := (-1)) E.x E.b d_Cmd_nothingTold_245 (by decide) ?_
      obtain ⟨c50, h⟩ := ck_some h
      obtain ⟨σ51, e_σ51, h⟩ := lt_some h
      refine iasN E w c50 e_σ51 d_Cmd_nothingTold_246 (fun H locs w => ?_)
      obtain ⟨y52, e_y52, h⟩ := lt_some h
      refine lv_iinc (v := y52) (lv' := [(1, .int y52), (0, .ref (ad 60))]) E.x E.b d_Cmd_nothingTold_247 hl (k := 1) rfl (e_y52) (by decide) rfl (fun ls hl => ?_)
      refine lv_goto (tgt := 228) E.x E.b d_Cmd_nothingTold_250 (by decide) ?_
      exact hr_228 σ51 y52 _ _ _ h w (lv_sub hl [1, 0] rfl)
set_option maxRecDepth 10000 in
set_option maxHeartbeats 4000000 in
theorem ltQ_Cmd_nothingTold_201 {p : Program} {l : Launch} {e : Env} {R : Room} {s : State} {m : MethodId} {args : Array Value} {below : List Frame} {meth : Method} {c : Code} {D : va_G} {τ : ClassId × ClassId × ClassId} {B : Nat} {A : Nat → Prop} {ad : Nat → Nat} (E : Cx p R s m args meth c prog_15_method_12_code 3 "DrawingMachineModel$DrawCommandsModel" 2 D τ B A) (hret : meth.sig.returnType = none) (o : Sg) : ∀ (n : Nat) (σ : Sg) (v1 : Int32) (H : Heap) (locs : List Loc) (ls : Array Slot), L_Cmd_nothingTold_201 n σ v1 = some o → Wd s D A (wdN τ σ ad) H locs → lv_has ls 3 [(0, .ref (ad 60)), (1, .int v1)] → W p l e R s m args below meth c H locs 0 0 (QV below args s A D τ (wdN τ o ad)) (F0 m 201 ls []) := by
  intro n
  induction n with
  | zero =>
    intro σ v1 H locs ls h w hl
    cases h
  | succ n hr_201 =>
    intro σ v1 H locs ls h w hl
    refine lv_iload_n E.x E.b d_Cmd_nothingTold_201 rfl (lv_at hl 1 rfl) ?_
    refine lv_iconst (v := 4) E.x E.b d_Cmd_nothingTold_202 (by decide) ?_
    refine lv_icmp_ge (tgt := 226) E.x E.b d_Cmd_nothingTold_203 (by decide) (fun c => ?_) (fun c => ?_)
    ·
      replace h := ifT c h
      refine lv_iconst (v := 0) E.x E.b d_Cmd_nothingTold_226 (by decide) ?_
      refine lv_istore_n (lv' := [(1, .int 0), (0, .ref (ad 60))]) E.x E.b d_Cmd_nothingTold_227 rfl hl (by decide) rfl (fun ls hl => ?_)
      exact ltQ_Cmd_nothingTold_228 E hret o 100000 σ 0 _ _ _ h w (lv_sub hl [1, 0] rfl)
    ·
      replace h := ifF c h
      refine lv_aload_n E.x E.b d_Cmd_nothingTold_206 rfl (lv_at hl 0 rfl) ?_
      refine gN_Cmd_kept E w k1468 d_Cmd_nothingTold_207 ?_
      refine lv_bipush (v := 9) E.x E.b d_Cmd_nothingTold_210 (by decide) ?_
      refine lv_iload_n E.x E.b d_Cmd_nothingTold_212 rfl (lv_at hl 1 rfl) ?_
      obtain ⟨o53, h_o53, h⟩ := bd_some h
      refine clSQ_Cmd_rowOf E w (x0 := 9) (x1 := v1) h_o53 k1436 (by decide) hl.1 (Nat.le_of_ble_eq_true rfl) d_Cmd_nothingTold_213 (fun H locs w => ?_)
      refine lv_iconst (v := 4) E.x E.b d_Cmd_nothingTold_216 (by decide) ?_
      refine lv_iadd E.x E.b d_Cmd_nothingTold_217 ?_
      refine lv_iconst (v := 1) E.x E.b d_Cmd_nothingTold_218 (by decide) ?_
      obtain ⟨c54, h⟩ := ck_some h
      obtain ⟨σ55, e_σ55, h⟩ := lt_some h
      refine iasN E w c54 e_σ55 d_Cmd_nothingTold_219 (fun H locs w => ?_)
      obtain ⟨y56, e_y56, h⟩ := lt_some h
      refine lv_iinc (v := y56) (lv' := [(1, .int y56), (0, .ref (ad 60))]) E.x E.b d_Cmd_nothingTold_220 hl (k := 1) rfl (e_y56) (by decide) rfl (fun ls hl => ?_)
      refine lv_goto (tgt := 201) E.x E.b d_Cmd_nothingTold_223 (by decide) ?_
      exact hr_201 σ55 y56 _ _ _ h w (lv_sub hl [1, 0] rfl)
set_option maxRecDepth 10000 in
set_option maxHeartbeats 4000000 in
theorem btQ_Cmd_nothingTold_65 {p : Program} {l : Launch} {e : Env} {R : Room} {s : State} {m : MethodId} {args : Array Value} {below : List Frame} {meth : Method} {c : Code} {D : va_G} {τ : ClassId × ClassId × ClassId} {B : Nat} {A : Nat → Prop} {ad : Nat → Nat} (E : Cx p R s m args meth c prog_15_method_12_code 3 "DrawingMachineModel$DrawCommandsModel" 2 D τ B A) (hret : meth.sig.returnType = none) (o : Sg) (rc_24 : Sg → Int32 → Option (Sg)) (hr_24 : ∀ (σ : Sg) (v1 : Int32) (H : Heap) (locs : List Loc) (ls : Array Slot), rc_24 σ v1 = some o → Wd s D A (wdN τ σ ad) H locs → lv_has ls 3 [(0, .ref (ad 60)), (1, .int v1)] → W p l e R s m args below meth c H locs 0 0 (QV below args s A D τ (wdN τ o ad)) (F0 m 24 ls [])) (σ : Sg) (v1 : Int32) (h : F_Cmd_nothingTold_65 rc_24 σ v1 = some o) {H : Heap} {locs : List Loc} {ls : Array Slot} (w : Wd s D A (wdN τ σ ad) H locs) (hl : lv_has ls 3 [(0, .ref (ad 60)), (1, .int v1)]) : W p l e R s m args below meth c H locs 0 0 (QV below args s A D τ (wdN τ o ad)) (F0 m 65 ls []) := by
  obtain ⟨y57, e_y57, h⟩ := lt_some h
  refine lv_iinc (v := y57) (lv' := [(1, .int y57), (0, .ref (ad 60))]) E.x E.b d_Cmd_nothingTold_65 hl (k := 1) rfl (e_y57) (by decide) rfl (fun ls hl => ?_)
  refine lv_goto (tgt := 24) E.x E.b d_Cmd_nothingTold_68 (by decide) ?_
  exact hr_24 σ y57 _ _ _ h w (lv_sub hl [1, 0] rfl)
set_option maxRecDepth 10000 in
set_option maxHeartbeats 4000000 in
theorem ltQ_Cmd_nothingTold_32 {p : Program} {l : Launch} {e : Env} {R : Room} {s : State} {m : MethodId} {args : Array Value} {below : List Frame} {meth : Method} {c : Code} {D : va_G} {τ : ClassId × ClassId × ClassId} {B : Nat} {A : Nat → Prop} {ad : Nat → Nat} (E : Cx p R s m args meth c prog_15_method_12_code 3 "DrawingMachineModel$DrawCommandsModel" 2 D τ B A) (hret : meth.sig.returnType = none) (o : Sg) (rc_24 : Sg → Int32 → Option (Sg)) (hr_24 : ∀ (σ : Sg) (v1 : Int32) (H : Heap) (locs : List Loc) (ls : Array Slot), rc_24 σ v1 = some o → Wd s D A (wdN τ σ ad) H locs → lv_has ls 3 [(0, .ref (ad 60)), (1, .int v1)] → W p l e R s m args below meth c H locs 0 0 (QV below args s A D τ (wdN τ o ad)) (F0 m 24 ls [])) : ∀ (n : Nat) (σ : Sg) (v1 : Int32) (v2 : Int32) (H : Heap) (locs : List Loc) (ls : Array Slot), L_Cmd_nothingTold_32 rc_24 n σ v1 v2 = some o → Wd s D A (wdN τ σ ad) H locs → lv_has ls 3 [(0, .ref (ad 60)), (1, .int v1), (2, .int v2)] → W p l e R s m args below meth c H locs 0 0 (QV below args s A D τ (wdN τ o ad)) (F0 m 32 ls []) := by
  intro n
  induction n with
  | zero =>
    intro σ v1 v2 H locs ls h w hl
    cases h
  | succ n hr_32 =>
    intro σ v1 v2 H locs ls h w hl
    refine lv_iload_n E.x E.b d_Cmd_nothingTold_32 rfl (lv_at hl 2 rfl) ?_
    refine lv_iload_n E.x E.b d_Cmd_nothingTold_33 rfl (lv_at hl 1 rfl) ?_
    obtain ⟨o58, h_o58, h⟩ := bd_some h
    refine clSQ_Cmd_many E w (x0 := v1) h_o58 k1433 (by decide) hl.1 (Nat.le_of_ble_eq_true rfl) d_Cmd_nothingTold_34 (fun H locs w => ?_)
    refine lv_icmp_ge (tgt := 65) E.x E.b d_Cmd_nothingTold_37 (by decide) (fun c => ?_) (fun c => ?_)
    ·
      replace h := ifT c h
      exact btQ_Cmd_nothingTold_65 E hret o rc_24 hr_24 σ v1 h w (lv_sub hl [0, 1] rfl)
    ·
      replace h := ifF c h
      refine lv_iload_n E.x E.b d_Cmd_nothingTold_40 rfl (lv_at hl 1 rfl) ?_
      obtain ⟨o59, h_o59, h⟩ := bd_some h
      refine clSQ_Cmd_many E w (x0 := v1) h_o59 k1433 (by decide) hl.1 (Nat.le_of_ble_eq_true rfl) d_Cmd_nothingTold_41 (fun H locs w => ?_)
      refine lv_iconst (v := 1) E.x E.b d_Cmd_nothingTold_44 (by decide) ?_
      refine lv_icmp_le (tgt := 65) E.x E.b d_Cmd_nothingTold_45 (by decide) (fun c => ?_) (fun c => ?_)
      ·
        replace h := ifT c h
        exact btQ_Cmd_nothingTold_65 E hret o rc_24 hr_24 σ v1 h w (lv_sub hl [0, 1] rfl)
      ·
        replace h := ifF c h
        refine lv_aload_n E.x E.b d_Cmd_nothingTold_48 rfl (lv_at hl 0 rfl) ?_
        refine gN_Cmd_kept E w k1468 d_Cmd_nothingTold_49 ?_
        refine lv_iload_n E.x E.b d_Cmd_nothingTold_52 rfl (lv_at hl 1 rfl) ?_
        refine lv_iload_n E.x E.b d_Cmd_nothingTold_53 rfl (lv_at hl 2 rfl) ?_
        obtain ⟨o60, h_o60, h⟩ := bd_some h
        refine clSQ_Cmd_rowOf E w (x0 := v1) (x1 := v2) h_o60 k1436 (by decide) hl.1 (Nat.le_of_ble_eq_true rfl) d_Cmd_nothingTold_54 (fun H locs w => ?_)
        refine lv_iload_n E.x E.b d_Cmd_nothingTold_57 rfl (lv_at hl 2 rfl) ?_
        obtain ⟨c61, h⟩ := ck_some h
        obtain ⟨σ62, e_σ62, h⟩ := lt_some h
        refine iasN E w c61 e_σ62 d_Cmd_nothingTold_58 (fun H locs w => ?_)
        obtain ⟨y63, e_y63, h⟩ := lt_some h
        refine lv_iinc (v := y63) (lv' := [(2, .int y63), (0, .ref (ad 60)), (1, .int v1)]) E.x E.b d_Cmd_nothingTold_59 hl (k := 2) rfl (e_y63) (by decide) rfl (fun ls hl => ?_)
        refine lv_goto (tgt := 32) E.x E.b d_Cmd_nothingTold_62 (by decide) ?_
        exact hr_32 σ62 v1 y63 _ _ _ h w (lv_sub hl [1, 2, 0] rfl)
set_option maxRecDepth 10000 in
set_option maxHeartbeats 4000000 in
theorem ltQ_Cmd_nothingTold_24 {p : Program} {l : Launch} {e : Env} {R : Room} {s : State} {m : MethodId} {args : Array Value} {below : List Frame} {meth : Method} {c : Code} {D : va_G} {τ : ClassId × ClassId × ClassId} {B : Nat} {A : Nat → Prop} {ad : Nat → Nat} (E : Cx p R s m args meth c prog_15_method_12_code 3 "DrawingMachineModel$DrawCommandsModel" 2 D τ B A) (hret : meth.sig.returnType = none) (o : Sg) : ∀ (n : Nat) (σ : Sg) (v1 : Int32) (H : Heap) (locs : List Loc) (ls : Array Slot), L_Cmd_nothingTold_24 n σ v1 = some o → Wd s D A (wdN τ σ ad) H locs → lv_has ls 3 [(0, .ref (ad 60)), (1, .int v1)] → W p l e R s m args below meth c H locs 0 0 (QV below args s A D τ (wdN τ o ad)) (F0 m 24 ls []) := by
  intro n
  induction n with
  | zero =>
    intro σ v1 H locs ls h w hl
    cases h
  | succ n hr_24 =>
    intro σ v1 H locs ls h w hl
    refine lv_iload_n E.x E.b d_Cmd_nothingTold_24 rfl (lv_at hl 1 rfl) ?_
    refine lv_bipush (v := 26) E.x E.b d_Cmd_nothingTold_25 (by decide) ?_
    refine lv_icmp_ge (tgt := 71) E.x E.b d_Cmd_nothingTold_27 (by decide) (fun c => ?_) (fun c => ?_)
    ·
      replace h := ifT c h
      refine lv_aload_n E.x E.b d_Cmd_nothingTold_71 rfl (lv_at hl 0 rfl) ?_
      refine gN_Cmd_kept E w k1468 d_Cmd_nothingTold_72 ?_
      refine lv_iconst (v := 2) E.x E.b d_Cmd_nothingTold_75 (by decide) ?_
      refine lv_iconst (v := 0) E.x E.b d_Cmd_nothingTold_76 (by decide) ?_
      obtain ⟨o64, h_o64, h⟩ := bd_some h
      refine clSQ_Cmd_rowOf E w (x0 := 2) (x1 := 0) h_o64 k1436 (by decide) hl.1 (Nat.le_of_ble_eq_true rfl) d_Cmd_nothingTold_77 (fun H locs w => ?_)
      refine lv_iconst (v := 2) E.x E.b d_Cmd_nothingTold_80 (by decide) ?_
      refine lv_iadd E.x E.b d_Cmd_nothingTold_81 ?_
      refine lv_iconst (v := 1) E.x E.b d_Cmd_nothingTold_82 (by decide) ?_
      obtain ⟨c65, h⟩ := ck_some h
      obtain ⟨σ66, e_σ66, h⟩ := lt_some h
      refine iasN E w c65 e_σ66 d_Cmd_nothingTold_83 (fun H locs w => ?_)
      refine lv_aload_n E.x E.b d_Cmd_nothingTold_84 rfl (lv_at hl 0 rfl) ?_
      refine gN_Cmd_kept E w k1468 d_Cmd_nothingTold_85 ?_
      refine lv_iconst (v := 2) E.x E.b d_Cmd_nothingTold_88 (by decide) ?_
      refine lv_iconst (v := 0) E.x E.b d_Cmd_nothingTold_89 (by decide) ?_
      obtain ⟨o67, h_o67, h⟩ := bd_some h
      refine clSQ_Cmd_rowOf E w (x0 := 2) (x1 := 0) h_o67 k1436 (by decide) hl.1 (Nat.le_of_ble_eq_true rfl) d_Cmd_nothingTold_90 (fun H locs w => ?_)
      refine lv_iconst (v := 3) E.x E.b d_Cmd_nothingTold_93 (by decide) ?_
      refine lv_iadd E.x E.b d_Cmd_nothingTold_94 ?_
      refine lv_iconst (v := 1) E.x E.b d_Cmd_nothingTold_95 (by decide) ?_
      obtain ⟨c68, h⟩ := ck_some h
      obtain ⟨σ69, e_σ69, h⟩ := lt_some h
      refine iasN E w c68 e_σ69 d_Cmd_nothingTold_96 (fun H locs w => ?_)
      refine lv_aload_n E.x E.b d_Cmd_nothingTold_97 rfl (lv_at hl 0 rfl) ?_
      refine gN_Cmd_kept E w k1468 d_Cmd_nothingTold_98 ?_
      refine lv_iconst (v := 2) E.x E.b d_Cmd_nothingTold_101 (by decide) ?_
      refine lv_iconst (v := 0) E.x E.b d_Cmd_nothingTold_102 (by decide) ?_
      obtain ⟨o70, h_o70, h⟩ := bd_some h
      refine clSQ_Cmd_rowOf E w (x0 := 2) (x1 := 0) h_o70 k1436 (by decide) hl.1 (Nat.le_of_ble_eq_true rfl) d_Cmd_nothingTold_103 (fun H locs w => ?_)
      refine lv_iconst (v := 5) E.x E.b d_Cmd_nothingTold_106 (by decide) ?_
      refine lv_iadd E.x E.b d_Cmd_nothingTold_107 ?_
      refine lv_ldc (v := 16777215) E.x E.b E.o (E.w _ k1442) d_Cmd_nothingTold_108 ?_
      obtain ⟨c71, h⟩ := ck_some h
      obtain ⟨σ72, e_σ72, h⟩ := lt_some h
      refine iasN E w c71 e_σ72 d_Cmd_nothingTold_110 (fun H locs w => ?_)
      refine lv_aload_n E.x E.b d_Cmd_nothingTold_111 rfl (lv_at hl 0 rfl) ?_
      refine gN_Cmd_kept E w k1468 d_Cmd_nothingTold_112 ?_
      refine lv_iconst (v := 3) E.x E.b d_Cmd_nothingTold_115 (by decide) ?_
      refine lv_iconst (v := 0) E.x E.b d_Cmd_nothingTold_116 (by decide) ?_
      obtain ⟨o73, h_o73, h⟩ := bd_some h
      refine clSQ_Cmd_rowOf E w (x0 := 3) (x1 := 0) h_o73 k1436 (by decide) hl.1 (Nat.le_of_ble_eq_true rfl) d_Cmd_nothingTold_117 (fun H locs w => ?_)
      refine lv_iconst (v := 2) E.x E.b d_Cmd_nothingTold_120 (by decide) ?_
      refine lv_iadd E.x E.b d_Cmd_nothingTold_121 ?_
      refine lv_iconst (v := (-1)) E.x E.b d_Cmd_nothingTold_122 (by decide) ?_
      obtain ⟨c74, h⟩ := ck_some h
      obtain ⟨σ75, e_σ75, h⟩ := lt_some h
      refine iasN E w c74 e_σ75 d_Cmd_nothingTold_123 (fun H locs w => ?_)
      refine lv_aload_n E.x E.b d_Cmd_nothingTold_124 rfl (lv_at hl 0 rfl) ?_
      refine gN_Cmd_kept E w k1468 d_Cmd_nothingTold_125 ?_
      refine lv_bipush (v := 7) E.x E.b d_Cmd_nothingTold_128 (by decide) ?_
      refine lv_iconst (v := 0) E.x E.b d_Cmd_nothingTold_130 (by decide) ?_
      obtain ⟨o76, h_o76, h⟩ := bd_some h
      refine clSQ_Cmd_rowOf E w (x0 := 7) (x1 := 0) h_o76 k1436 (by decide) hl.1 (Nat.le_of_ble_eq_true rfl) d_Cmd_nothingTold_131 (fun H locs w => ?_)
      refine lv_iconst (v := (-1)) E.x E.b d_Cmd_nothingTold_134 (by decide) ?_
      obtain ⟨c77, h⟩ := ck_some h
      obtain ⟨σ78, e_σ78, h⟩ := lt_some h
      refine iasN E w c77 e_σ78 d_Cmd_nothingTold_135 (fun H locs w => ?_)
      refine lv_aload_n E.x E.b d_Cmd_nothingTold_136 rfl (lv_at hl 0 rfl) ?_
      refine gN_Cmd_kept E w k1468 d_Cmd_nothingTold_137 ?_
      refine lv_bipush (v := 8) E.x E.b d_Cmd_nothingTold_140 (by decide) ?_
      refine lv_iconst (v := 0) E.x E.b d_Cmd_nothingTold_142 (by decide) ?_
      obtain ⟨o79, h_o79, h⟩ := bd_some h
      refine clSQ_Cmd_rowOf E w (x0 := 8) (x1 := 0) h_o79 k1436 (by decide) hl.1 (Nat.le_of_ble_eq_true rfl) d_Cmd_nothingTold_143 (fun H locs w => ?_)
      refine lv_iconst (v := (-1)) E.x E.b d_Cmd_nothingTold_146 (by decide) ?_
      obtain ⟨c80, h⟩ := ck_some h
      obtain ⟨σ81, e_σ81, h⟩ := lt_some h
      refine iasN E w c80 e_σ81 d_Cmd_nothingTold_147 (fun H locs w => ?_)
      refine lv_aload_n E.x E.b d_Cmd_nothingTold_148 rfl (lv_at hl 0 rfl) ?_
      refine gN_Cmd_kept E w k1468 d_Cmd_nothingTold_149 ?_
      refine lv_bipush (v := 10) E.x E.b d_Cmd_nothingTold_152 (by decide) ?_
      refine lv_iconst (v := 0) E.x E.b d_Cmd_nothingTold_154 (by decide) ?_
      obtain ⟨o82, h_o82, h⟩ := bd_some h
      refine clSQ_Cmd_rowOf E w (x0 := 10) (x1 := 0) h_o82 k1436 (by decide) hl.1 (Nat.le_of_ble_eq_true rfl) d_Cmd_nothingTold_155 (fun H locs w => ?_)
      refine lv_iconst (v := (-1)) E.x E.b d_Cmd_nothingTold_158 (by decide) ?_
      obtain ⟨c83, h⟩ := ck_some h
      obtain ⟨σ84, e_σ84, h⟩ := lt_some h
      refine iasN E w c83 e_σ84 d_Cmd_nothingTold_159 (fun H locs w => ?_)
      refine lv_aload_n E.x E.b d_Cmd_nothingTold_160 rfl (lv_at hl 0 rfl) ?_
      refine gN_Cmd_kept E w k1468 d_Cmd_nothingTold_161 ?_
      refine lv_bipush (v := 12) E.x E.b d_Cmd_nothingTold_164 (by decide) ?_
      refine lv_iconst (v := 0) E.x E.b d_Cmd_nothingTold_166 (by decide) ?_
      obtain ⟨o85, h_o85, h⟩ := bd_some h
      refine clSQ_Cmd_rowOf E w (x0 := 12) (x1 := 0) h_o85 k1436 (by decide) hl.1 (Nat.le_of_ble_eq_true rfl) d_Cmd_nothingTold_167 (fun H locs w => ?_)
      refine lv_iconst (v := 4) E.x E.b d_Cmd_nothingTold_170 (by decide) ?_
      refine lv_iadd E.x E.b d_Cmd_nothingTold_171 ?_
      refine lv_iconst (v := (-1)) E.x E.b d_Cmd_nothingTold_172 (by decide) ?_
      obtain ⟨c86, h⟩ := ck_some h
      obtain ⟨σ87, e_σ87, h⟩ := lt_some h
      refine iasN E w c86 e_σ87 d_Cmd_nothingTold_173 (fun H locs w => ?_)
      refine lv_aload_n E.x E.b d_Cmd_nothingTold_174 rfl (lv_at hl 0 rfl) ?_
      refine gN_Cmd_kept E w k1468 d_Cmd_nothingTold_175 ?_
      refine lv_bipush (v := 14) E.x E.b d_Cmd_nothingTold_178 (by decide) ?_
      refine lv_iconst (v := 0) E.x E.b d_Cmd_nothingTold_180 (by decide) ?_
      obtain ⟨o88, h_o88, h⟩ := bd_some h
      refine clSQ_Cmd_rowOf E w (x0 := 14) (x1 := 0) h_o88 k1436 (by decide) hl.1 (Nat.le_of_ble_eq_true rfl) d_Cmd_nothingTold_181 (fun H locs w => ?_)
      refine lv_iconst (v := (-1)) E.x E.b d_Cmd_nothingTold_184 (by decide) ?_
      obtain ⟨c89, h⟩ := ck_some h
      obtain ⟨σ90, e_σ90, h⟩ := lt_some h
      refine iasN E w c89 e_σ90 d_Cmd_nothingTold_185 (fun H locs w => ?_)
      refine lv_aload_n E.x E.b d_Cmd_nothingTold_186 rfl (lv_at hl 0 rfl) ?_
      refine gN_Cmd_kept E w k1468 d_Cmd_nothingTold_187 ?_
      refine lv_bipush (v := 15) E.x E.b d_Cmd_nothingTold_190 (by decide) ?_
      refine lv_iconst (v := 0) E.x E.b d_Cmd_nothingTold_192 (by decide) ?_
      obtain ⟨o91, h_o91, h⟩ := bd_some h
      refine clSQ_Cmd_rowOf E w (x0 := 15) (x1 := 0) h_o91 k1436 (by decide) hl.1 (Nat.le_of_ble_eq_true rfl) d_Cmd_nothingTold_193 (fun H locs w => ?_)
      refine lv_bipush (v := 15) E.x E.b d_Cmd_nothingTold_196 (by decide) ?_
      obtain ⟨c92, h⟩ := ck_some h
      obtain ⟨σ93, e_σ93, h⟩ := lt_some h
      refine iasN E w c92 e_σ93 d_Cmd_nothingTold_198 (fun H locs w => ?_)
      refine lv_iconst (v := 0) E.x E.b d_Cmd_nothingTold_199 (by decide) ?_
      refine lv_istore_n (lv' := [(1, .int 0), (0, .ref (ad 60))]) E.x E.b d_Cmd_nothingTold_200 rfl hl (by decide) rfl (fun ls hl => ?_)
      exact ltQ_Cmd_nothingTold_201 E hret o 100000 σ93 0 _ _ _ h w (lv_sub hl [1, 0] rfl)
    ·
      replace h := ifF c h
      refine lv_iconst (v := 0) E.x E.b d_Cmd_nothingTold_30 (by decide) ?_
      refine lv_istore_n (lv' := [(2, .int 0), (0, .ref (ad 60)), (1, .int v1)]) E.x E.b d_Cmd_nothingTold_31 rfl hl (by decide) rfl (fun ls hl => ?_)
      exact ltQ_Cmd_nothingTold_32 E hret o (L_Cmd_nothingTold_24 n) hr_24 100000 σ v1 0 _ _ _ h w (lv_sub hl [1, 2, 0] rfl)
set_option maxRecDepth 10000 in
set_option maxHeartbeats 4000000 in
theorem ltQ_Cmd_nothingTold_2 {p : Program} {l : Launch} {e : Env} {R : Room} {s : State} {m : MethodId} {args : Array Value} {below : List Frame} {meth : Method} {c : Code} {D : va_G} {τ : ClassId × ClassId × ClassId} {B : Nat} {A : Nat → Prop} {ad : Nat → Nat} (E : Cx p R s m args meth c prog_15_method_12_code 3 "DrawingMachineModel$DrawCommandsModel" 2 D τ B A) (hret : meth.sig.returnType = none) (o : Sg) : ∀ (n : Nat) (σ : Sg) (v1 : Int32) (H : Heap) (locs : List Loc) (ls : Array Slot), L_Cmd_nothingTold_2 n σ v1 = some o → Wd s D A (wdN τ σ ad) H locs → lv_has ls 3 [(0, .ref (ad 60)), (1, .int v1)] → W p l e R s m args below meth c H locs 0 0 (QV below args s A D τ (wdN τ o ad)) (F0 m 2 ls []) := by
  intro n
  induction n with
  | zero =>
    intro σ v1 H locs ls h w hl
    cases h
  | succ n hr_2 =>
    intro σ v1 H locs ls h w hl
    refine lv_iload_n E.x E.b d_Cmd_nothingTold_2 rfl (lv_at hl 1 rfl) ?_
    refine lv_sipush (v := 4160) E.x E.b d_Cmd_nothingTold_3 (by decide) ?_
    refine lv_icmp_ge (tgt := 22) E.x E.b d_Cmd_nothingTold_6 (by decide) (fun c => ?_) (fun c => ?_)
    ·
      replace h := ifT c h
      refine lv_iconst (v := 0) E.x E.b d_Cmd_nothingTold_22 (by decide) ?_
      refine lv_istore_n (lv' := [(1, .int 0), (0, .ref (ad 60))]) E.x E.b d_Cmd_nothingTold_23 rfl hl (by decide) rfl (fun ls hl => ?_)
      exact ltQ_Cmd_nothingTold_24 E hret o 100000 σ 0 _ _ _ h w (lv_sub hl [1, 0] rfl)
    ·
      replace h := ifF c h
      refine lv_aload_n E.x E.b d_Cmd_nothingTold_9 rfl (lv_at hl 0 rfl) ?_
      refine gN_Cmd_kept E w k1468 d_Cmd_nothingTold_10 ?_
      refine lv_iload_n E.x E.b d_Cmd_nothingTold_13 rfl (lv_at hl 1 rfl) ?_
      refine lv_iconst (v := 0) E.x E.b d_Cmd_nothingTold_14 (by decide) ?_
      obtain ⟨c94, h⟩ := ck_some h
      obtain ⟨σ95, e_σ95, h⟩ := lt_some h
      refine iasN E w c94 e_σ95 d_Cmd_nothingTold_15 (fun H locs w => ?_)
      obtain ⟨y96, e_y96, h⟩ := lt_some h
      refine lv_iinc (v := y96) (lv' := [(1, .int y96), (0, .ref (ad 60))]) E.x E.b d_Cmd_nothingTold_16 hl (k := 1) rfl (e_y96) (by decide) rfl (fun ls hl => ?_)
      refine lv_goto (tgt := 2) E.x E.b d_Cmd_nothingTold_19 (by decide) ?_
      exact hr_2 σ95 y96 _ _ _ h w (lv_sub hl [1, 0] rfl)
set_option maxRecDepth 10000 in
set_option maxHeartbeats 4000000 in
theorem cQ_Cmd_nothingTold (l : Launch) (D : va_G) (τ : ClassId × ClassId × ClassId) (B : Nat) (σ : Sg) (ad : Nat → Nat) (o : Sg) (h : F_Cmd_nothingTold σ = some o) : MV l y_Cmd_nothingTold (Cond.code y_Cmd_nothingTold prog_15_method_12_code 3 none) 2 D τ B [.ref (ad 60)] (wdN τ σ ad) (wdN τ o ad) := by
  refine en_v (by decide) (Nat.le_of_ble_eq_true rfl) ?_
  intro p e R s m args below meth c H locs ls A E hret w hl
  have E : Cx p R s m args meth c prog_15_method_12_code 3 "DrawingMachineModel$DrawCommandsModel" 2 D τ B A := E
  have hl : lv_has ls 3 [(0, .ref (ad 60))] := hl
  refine lv_iconst (v := 0) E.x E.b d_Cmd_nothingTold_0 (by decide) ?_
  refine lv_istore_n (lv' := [(1, .int 0), (0, .ref (ad 60))]) E.x E.b d_Cmd_nothingTold_1 rfl hl (by decide) rfl (fun ls hl => ?_)
  exact ltQ_Cmd_nothingTold_2 E hret o 100000 σ 0 _ _ _ h w (lv_sub hl [1, 0] rfl)
