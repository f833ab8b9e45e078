theorem d_Arr_fill_0 : decode prog_39_method_103_code 0 = .ok (.iconst 0, 1) := by decide +kernel
theorem d_Arr_fill_1 : decode prog_39_method_103_code 1 = .ok (.istore_n 2, 1) := by decide +kernel
theorem d_Arr_fill_2 : decode prog_39_method_103_code 2 = .ok (.aload_n 0, 1) := by decide +kernel
theorem d_Arr_fill_3 : decode prog_39_method_103_code 3 = .ok (.arraylength, 1) := by decide +kernel
theorem d_Arr_fill_4 : decode prog_39_method_103_code 4 = .ok (.istore_n 3, 1) := by decide +kernel
theorem d_Arr_fill_5 : decode prog_39_method_103_code 5 = .ok (.iload_n 2, 1) := by decide +kernel
theorem d_Arr_fill_6 : decode prog_39_method_103_code 6 = .ok (.iload_n 3, 1) := by decide +kernel
theorem d_Arr_fill_7 : decode prog_39_method_103_code 7 = .ok (.if_icmp .ge 13, 3) := by decide +kernel
theorem d_Arr_fill_10 : decode prog_39_method_103_code 10 = .ok (.aload_n 0, 1) := by decide +kernel
theorem d_Arr_fill_11 : decode prog_39_method_103_code 11 = .ok (.iload_n 2, 1) := by decide +kernel
theorem d_Arr_fill_12 : decode prog_39_method_103_code 12 = .ok (.iload_n 1, 1) := by decide +kernel
theorem d_Arr_fill_13 : decode prog_39_method_103_code 13 = .ok (.iastore, 1) := by decide +kernel
theorem d_Arr_fill_14 : decode prog_39_method_103_code 14 = .ok (.iinc 2 1, 3) := by decide +kernel
theorem d_Arr_fill_17 : decode prog_39_method_103_code 17 = .ok (.goto (-12), 3) := by decide +kernel
theorem d_Arr_fill_20 : decode prog_39_method_103_code 20 = .ok (.return_, 1) := by decide +kernel
def L_Arr_fill_5 : Nat → Sg → Nat → Int32 → Int32 → Int32 → Option (Sg)
  | 0, _, _, _, _, _ => none
  | n + 1, σ, v0, v1, v2, v3 => ck (v0 < 47) (if v3 ≤ v2 then (some σ) else (ck (inb v2 (lenC σ v0)) (lt (sA σ v0 (upd (σ.2.2.1 v0) v2.toNatClampNeg v1)) (fun σ7 => lt (v2 + 1) (fun y8 => L_Arr_fill_5 n σ7 v0 v1 y8 v3)))))
set_option maxRecDepth 10000 in
set_option maxHeartbeats 4000000 in
theorem lt_Arr_fill_5 {p : Program} {l : Launch} {e : Env} {R : Room} {s : State} {m : MethodId} {args : Array Value} {below : List Frame} {meth : Method} {c : Code} {D : va_G} {τ : ClassId × ClassId × ClassId} {B : Nat} {A : Nat → Prop} {ad : Nat → Nat} (E : Cx p R s m args meth c prog_39_method_103_code 4 "java/util/Arrays" 0 D τ B A) (hret : meth.sig.returnType = none) (o : Sg) : ∀ (n : Nat) (σ : Sg) (v0 : Nat) (v1 : Int32) (v2 : Int32) (v3 : Int32) (H : Heap) (locs : List Loc) (ls : Array Slot), L_Arr_fill_5 n σ v0 v1 v2 v3 = some o → Wd s D A (wdC τ σ ad) H locs → lv_has ls 4 [(0, .ref (ad v0)), (1, .int v1), (2, .int v2), (3, .int v3)] → W p l e R s m args below meth c H locs 0 0 (QV below args s A D τ (wdC τ o ad)) (F0 m 5 ls []) := by
  intro n
  induction n with
  | zero =>
    intro σ v0 v1 v2 v3 H locs ls h w hl
    cases h
  | succ n hr_5 =>
    intro σ v0 v1 v2 v3 H locs ls h w hl
    obtain ⟨c5, h⟩ := ck_some h
    refine lv_iload_n E.x E.b d_Arr_fill_5 rfl (lv_at hl 2 rfl) ?_
    refine lv_iload_n E.x E.b d_Arr_fill_6 rfl (lv_at hl 3 rfl) ?_
    refine lv_icmp_ge (tgt := 20) E.x E.b d_Arr_fill_7 (by decide) (fun c => ?_) (fun c => ?_)
    ·
      replace h := ifT c h
      obtain rfl := Option.some.inj h
      exact rt_v E w hret d_Arr_fill_20
    ·
      replace h := ifF c h
      refine lv_aload_n E.x E.b d_Arr_fill_10 rfl (lv_at hl 0 rfl) ?_
      refine lv_iload_n E.x E.b d_Arr_fill_11 rfl (lv_at hl 2 rfl) ?_
      refine lv_iload_n E.x E.b d_Arr_fill_12 rfl (lv_at hl 1 rfl) ?_
      obtain ⟨c6, h⟩ := ck_some h
      obtain ⟨σ7, e_σ7, h⟩ := lt_some h
      refine iasC E w (k := v0) c5 c6 e_σ7 d_Arr_fill_13 (fun H locs w => ?_)
      obtain ⟨y8, e_y8, h⟩ := lt_some h
      refine lv_iinc (v := y8) (lv' := [(2, .int y8), (0, .ref (ad v0)), (1, .int v1), (3, .int v3)]) E.x E.b d_Arr_fill_14 hl (k := 2) rfl (e_y8) (by decide) rfl (fun ls hl => ?_)
      refine lv_goto (tgt := 5) E.x E.b d_Arr_fill_17 (by decide) ?_
      exact hr_5 σ7 v0 v1 y8 v3 _ _ _ h w (lv_sub hl [1, 2, 0, 3] rfl)
def F_Arr_fill (σ : Sg) (ar0 : Nat) (x1 : Int32) : Option (Sg) := ck (ar0 < 47) (lt (Int32.ofNat (lenC σ ar0)) (fun y10 => L_Arr_fill_5 100000 σ ar0 x1 0 y10))
set_option maxRecDepth 10000 in
set_option maxHeartbeats 4000000 in
theorem c_Arr_fill (l : Launch) (D : va_G) (τ : ClassId × ClassId × ClassId) (B : Nat) (σ : Sg) (ad : Nat → Nat) (ar0 : Nat) (x1 : Int32) (o : Sg) (h : F_Arr_fill σ ar0 x1 = some o) : MV l y_Arr_fill (Cond.code y_Arr_fill prog_39_method_103_code 4 none) 0 D τ B [.ref (ad ar0), .int x1] (wdC τ σ ad) (wdC τ o ad) := by
  refine en_v (by decide) (Nat.le_of_ble_eq_true rfl) ?_
  intro p e R s m args below meth c H locs ls A E hret w hl
  have E : Cx p R s m args meth c prog_39_method_103_code 4 "java/util/Arrays" 0 D τ B A := E
  have hl : lv_has ls 4 [(0, .ref (ad ar0)), (1, .int x1)] := hl
  obtain ⟨c9, h⟩ := ck_some h
  refine lv_iconst (v := 0) E.x E.b d_Arr_fill_0 (by decide) ?_
  refine lv_istore_n (lv' := [(2, .int 0), (0, .ref (ad ar0)), (1, .int x1)]) E.x E.b d_Arr_fill_1 rfl hl (by decide) rfl (fun ls hl => ?_)
  refine lv_aload_n E.x E.b d_Arr_fill_2 rfl (lv_at hl 1 rfl) ?_
  refine alenC E w (k := ar0) c9 d_Arr_fill_3 ?_
  obtain ⟨y10, e_y10, h⟩ := lt_some h
  refine wi_e (v := y10) e_y10 ?_
  refine lv_istore_n (lv' := [(3, .int y10), (2, .int 0), (0, .ref (ad ar0)), (1, .int x1)]) E.x E.b d_Arr_fill_4 rfl hl (by decide) rfl (fun ls hl => ?_)
  exact lt_Arr_fill_5 E hret o 100000 σ ar0 x1 0 y10 _ _ _ h w (lv_sub hl [2, 3, 1, 0] rfl)
theorem clS_Arr_fill {p : Program} {l : Launch} {e : Env} {R : Room} {s : State} {m : MethodId} {args : Array Value} {below : List Frame} {meth : Method} {c : Code} {H : Heap} {locs : List Loc} {Q : State → Prop} {cc : ByteArray} {nL pc lev : Nat} {own : String} {D : va_G} {τ : ClassId × ClassId × ClassId} {B : Nat} {A : Nat → Prop} {σ : Sg} {ad : Nat → Nat} {ls : Array Slot} {rest : List Value} (E : Cx p R s m args meth c cc nL own lev D τ B A) (w : Wd s D A (wdC τ σ ad) H locs) {ar0 : Nat} {x1 : Int32} {o : Sg} (h : F_Arr_fill σ ar0 x1 = some o) {index : Nat} (hlk : Cond.methodLink own index y_Arr_fill ∈ tw) (hlev : 0 < lev) (hsz : ls.size = nL) (hr : (rest.map fun v => v.category).sum ≤ 8) (hd : decode cc pc = .ok (.invokestatic index, 3)) (kk : ∀ (H1 : Heap) (locs1 : List Loc), Wd s D A (wdC τ o ad) H1 locs1 → W p l e R s m args below meth c H1 locs1 0 0 Q (F0 m (pc + 3) ls (rest))) : W p l e R s m args below meth c H locs 0 0 Q (F0 m pc ls (.int x1 :: .ref (ad ar0) :: rest)) :=
  cr_v w E.C (va_runS (As := [.ref (ad ar0), .int x1]) (rest := rest) E.fix (c_Arr_fill l D τ B σ ad ar0 x1 o h H.size) (va_cwS 2 E.w (tw_pre (tw_good k60) (l := [_, _, _]) (List.forall_mem_cons.mpr ⟨hlk, List.forall_mem_cons.mpr ⟨k59, List.forall_mem_cons.mpr ⟨k3, fun _ h => absurd h List.not_mem_nil⟩⟩⟩)) rfl rfl rfl (by decide +kernel) (E.rm hlev (by decide))) (wd_pre w E.C [.ref (ad ar0), .int x1]) rfl rfl hsz rfl (lv_room hr) hd ⟨Nat.zero_le _, Nat.zero_le _⟩) kk

theorem d_Told_forget_0 : decode prog_11_method_2_code 0 = .ok (.aload_n 0, 1) := by decide +kernel
theorem d_Told_forget_1 : decode prog_11_method_2_code 1 = .ok (.getfield 9, 3) := by decide +kernel
theorem d_Told_forget_4 : decode prog_11_method_2_code 4 = .ok (.iconst 0, 1) := by decide +kernel
theorem d_Told_forget_5 : decode prog_11_method_2_code 5 = .ok (.invokestatic 18, 3) := by decide +kernel
theorem d_Told_forget_8 : decode prog_11_method_2_code 8 = .ok (.aload_n 0, 1) := by decide +kernel
theorem d_Told_forget_9 : decode prog_11_method_2_code 9 = .ok (.getfield 9, 3) := by decide +kernel
theorem d_Told_forget_12 : decode prog_11_method_2_code 12 = .ok (.iconst 2, 1) := by decide +kernel
theorem d_Told_forget_13 : decode prog_11_method_2_code 13 = .ok (.iconst 1, 1) := by decide +kernel
theorem d_Told_forget_14 : decode prog_11_method_2_code 14 = .ok (.iastore, 1) := by decide +kernel
theorem d_Told_forget_15 : decode prog_11_method_2_code 15 = .ok (.aload_n 0, 1) := by decide +kernel
theorem d_Told_forget_16 : decode prog_11_method_2_code 16 = .ok (.getfield 9, 3) := by decide +kernel
theorem d_Told_forget_19 : decode prog_11_method_2_code 19 = .ok (.iconst 3, 1) := by decide +kernel
theorem d_Told_forget_20 : decode prog_11_method_2_code 20 = .ok (.iconst 1, 1) := by decide +kernel
theorem d_Told_forget_21 : decode prog_11_method_2_code 21 = .ok (.iastore, 1) := by decide +kernel
theorem d_Told_forget_22 : decode prog_11_method_2_code 22 = .ok (.aload_n 0, 1) := by decide +kernel
theorem d_Told_forget_23 : decode prog_11_method_2_code 23 = .ok (.getfield 9, 3) := by decide +kernel
theorem d_Told_forget_26 : decode prog_11_method_2_code 26 = .ok (.iconst 5, 1) := by decide +kernel
theorem d_Told_forget_27 : decode prog_11_method_2_code 27 = .ok (.ldc 24, 2) := by decide +kernel
theorem d_Told_forget_29 : decode prog_11_method_2_code 29 = .ok (.iastore, 1) := by decide +kernel
theorem d_Told_forget_30 : decode prog_11_method_2_code 30 = .ok (.aload_n 0, 1) := by decide +kernel
theorem d_Told_forget_31 : decode prog_11_method_2_code 31 = .ok (.getfield 9, 3) := by decide +kernel
theorem d_Told_forget_34 : decode prog_11_method_2_code 34 = .ok (.bipush 8, 2) := by decide +kernel
theorem d_Told_forget_36 : decode prog_11_method_2_code 36 = .ok (.iconst (-1), 1) := by decide +kernel
theorem d_Told_forget_37 : decode prog_11_method_2_code 37 = .ok (.iastore, 1) := by decide +kernel
theorem d_Told_forget_38 : decode prog_11_method_2_code 38 = .ok (.iconst 0, 1) := by decide +kernel
theorem d_Told_forget_39 : decode prog_11_method_2_code 39 = .ok (.istore_n 1, 1) := by decide +kernel
theorem d_Told_forget_40 : decode prog_11_method_2_code 40 = .ok (.iload_n 1, 1) := by decide +kernel
theorem d_Told_forget_41 : decode prog_11_method_2_code 41 = .ok (.iconst 4, 1) := by decide +kernel
theorem d_Told_forget_42 : decode prog_11_method_2_code 42 = .ok (.if_icmp .ge 24, 3) := by decide +kernel
theorem d_Told_forget_45 : decode prog_11_method_2_code 45 = .ok (.aload_n 0, 1) := by decide +kernel
theorem d_Told_forget_46 : decode prog_11_method_2_code 46 = .ok (.getfield 9, 3) := by decide +kernel
theorem d_Told_forget_49 : decode prog_11_method_2_code 49 = .ok (.sipush 170, 3) := by decide +kernel
theorem d_Told_forget_52 : decode prog_11_method_2_code 52 = .ok (.iconst 5, 1) := by decide +kernel
theorem d_Told_forget_53 : decode prog_11_method_2_code 53 = .ok (.iload_n 1, 1) := by decide +kernel
theorem d_Told_forget_54 : decode prog_11_method_2_code 54 = .ok (.imul, 1) := by decide +kernel
theorem d_Told_forget_55 : decode prog_11_method_2_code 55 = .ok (.iadd, 1) := by decide +kernel
theorem d_Told_forget_56 : decode prog_11_method_2_code 56 = .ok (.iconst 3, 1) := by decide +kernel
theorem d_Told_forget_57 : decode prog_11_method_2_code 57 = .ok (.iadd, 1) := by decide +kernel
theorem d_Told_forget_58 : decode prog_11_method_2_code 58 = .ok (.iconst 1, 1) := by decide +kernel
theorem d_Told_forget_59 : decode prog_11_method_2_code 59 = .ok (.iastore, 1) := by decide +kernel
theorem d_Told_forget_60 : decode prog_11_method_2_code 60 = .ok (.iinc 1 1, 3) := by decide +kernel
theorem d_Told_forget_63 : decode prog_11_method_2_code 63 = .ok (.goto (-23), 3) := by decide +kernel
theorem d_Told_forget_66 : decode prog_11_method_2_code 66 = .ok (.aload_n 0, 1) := by decide +kernel
theorem d_Told_forget_67 : decode prog_11_method_2_code 67 = .ok (.getfield 9, 3) := by decide +kernel
theorem d_Told_forget_70 : decode prog_11_method_2_code 70 = .ok (.sipush 190, 3) := by decide +kernel
theorem d_Told_forget_73 : decode prog_11_method_2_code 73 = .ok (.iconst (-1), 1) := by decide +kernel
theorem d_Told_forget_74 : decode prog_11_method_2_code 74 = .ok (.iastore, 1) := by decide +kernel
theorem d_Told_forget_75 : decode prog_11_method_2_code 75 = .ok (.aload_n 0, 1) := by decide +kernel
theorem d_Told_forget_76 : decode prog_11_method_2_code 76 = .ok (.getfield 9, 3) := by decide +kernel
theorem d_Told_forget_79 : decode prog_11_method_2_code 79 = .ok (.sipush 192, 3) := by decide +kernel
theorem d_Told_forget_82 : decode prog_11_method_2_code 82 = .ok (.iconst (-1), 1) := by decide +kernel
theorem d_Told_forget_83 : decode prog_11_method_2_code 83 = .ok (.iastore, 1) := by decide +kernel
theorem d_Told_forget_84 : decode prog_11_method_2_code 84 = .ok (.aload_n 0, 1) := by decide +kernel
theorem d_Told_forget_85 : decode prog_11_method_2_code 85 = .ok (.getfield 9, 3) := by decide +kernel
theorem d_Told_forget_88 : decode prog_11_method_2_code 88 = .ok (.sipush 199, 3) := by decide +kernel
theorem d_Told_forget_91 : decode prog_11_method_2_code 91 = .ok (.iconst (-1), 1) := by decide +kernel
theorem d_Told_forget_92 : decode prog_11_method_2_code 92 = .ok (.iastore, 1) := by decide +kernel
theorem d_Told_forget_93 : decode prog_11_method_2_code 93 = .ok (.aload_n 0, 1) := by decide +kernel
theorem d_Told_forget_94 : decode prog_11_method_2_code 94 = .ok (.getfield 9, 3) := by decide +kernel
theorem d_Told_forget_97 : decode prog_11_method_2_code 97 = .ok (.sipush 210, 3) := by decide +kernel
theorem d_Told_forget_100 : decode prog_11_method_2_code 100 = .ok (.iconst (-1), 1) := by decide +kernel
theorem d_Told_forget_101 : decode prog_11_method_2_code 101 = .ok (.iastore, 1) := by decide +kernel
theorem d_Told_forget_102 : decode prog_11_method_2_code 102 = .ok (.aload_n 0, 1) := by decide +kernel
theorem d_Told_forget_103 : decode prog_11_method_2_code 103 = .ok (.getfield 9, 3) := by decide +kernel
theorem d_Told_forget_106 : decode prog_11_method_2_code 106 = .ok (.sipush 213, 3) := by decide +kernel
theorem d_Told_forget_109 : decode prog_11_method_2_code 109 = .ok (.iconst (-1), 1) := by decide +kernel
theorem d_Told_forget_110 : decode prog_11_method_2_code 110 = .ok (.iastore, 1) := by decide +kernel
theorem d_Told_forget_111 : decode prog_11_method_2_code 111 = .ok (.aload_n 0, 1) := by decide +kernel
theorem d_Told_forget_112 : decode prog_11_method_2_code 112 = .ok (.getfield 9, 3) := by decide +kernel
theorem d_Told_forget_115 : decode prog_11_method_2_code 115 = .ok (.sipush 214, 3) := by decide +kernel
theorem d_Told_forget_118 : decode prog_11_method_2_code 118 = .ok (.bipush 15, 2) := by decide +kernel
theorem d_Told_forget_120 : decode prog_11_method_2_code 120 = .ok (.iastore, 1) := by decide +kernel
theorem d_Told_forget_121 : decode prog_11_method_2_code 121 = .ok (.return_, 1) := by decide +kernel
def L_Told_forget_40 : Nat → Sg → Int32 → Option (Sg)
  | 0, _, _ => none
  | n + 1, σ, v1 => if 4 ≤ v1 then (lt (sA σ 1 (upd (σ.2.2.1 1) 190 (-1))) (fun σ15 => lt (sA σ15 1 (upd (σ15.2.2.1 1) 192 (-1))) (fun σ16 => lt (sA σ16 1 (upd (σ16.2.2.1 1) 199 (-1))) (fun σ17 => lt (sA σ17 1 (upd (σ17.2.2.1 1) 210 (-1))) (fun σ18 => lt (sA σ18 1 (upd (σ18.2.2.1 1) 213 (-1))) (fun σ19 => lt (sA σ19 1 (upd (σ19.2.2.1 1) 214 15)) (fun σ20 => some σ20))))))) else (ck (inb ((170 + (5 * v1)) + 3) 245) (lt (sA σ 1 (upd (σ.2.2.1 1) ((170 + (5 * v1)) + 3).toNatClampNeg 1)) (fun σ22 => lt (v1 + 1) (fun y23 => L_Told_forget_40 n σ22 y23))))
set_option maxRecDepth 10000 in
set_option maxHeartbeats 4000000 in
theorem lt_Told_forget_40 {p : Program} {l : Launch} {e : Env} {R : Room} {s : State} {m : MethodId} {args : Array Value} {below : List Frame} {meth : Method} {c : Code} {D : va_G} {τ : ClassId × ClassId × ClassId} {B : Nat} {A : Nat → Prop} {ad : Nat → Nat} (E : Cx p R s m args meth c prog_11_method_2_code 2 "DrawingMachine$Told" 1 D τ B A) (hret : meth.sig.returnType = none) (o : Sg) : ∀ (n : Nat) (σ : Sg) (v1 : Int32) (H : Heap) (locs : List Loc) (ls : Array Slot), L_Told_forget_40 n σ v1 = some o → Wd s D A (wdC τ σ ad) H locs → lv_has ls 2 [(0, .ref (ad 57)), (1, .int v1)] → W p l e R s m args below meth c H locs 0 0 (QV below args s A D τ (wdC τ o ad)) (F0 m 40 ls []) := by
  intro n
  induction n with
  | zero =>
    intro σ v1 H locs ls h w hl
    cases h
  | succ n hr_40 =>
    intro σ v1 H locs ls h w hl
    refine lv_iload_n E.x E.b d_Told_forget_40 rfl (lv_at hl 1 rfl) ?_
    refine lv_iconst (v := 4) E.x E.b d_Told_forget_41 (by decide) ?_
    refine lv_icmp_ge (tgt := 66) E.x E.b d_Told_forget_42 (by decide) (fun c => ?_) (fun c => ?_)
    ·
      replace h := ifT c h
      refine lv_aload_n E.x E.b d_Told_forget_66 rfl (lv_at hl 0 rfl) ?_
      refine gC_Told_kept E w k62 d_Told_forget_67 ?_
      refine lv_sipush (v := 190) E.x E.b d_Told_forget_70 (by decide) ?_
      refine lv_iconst (v := (-1)) E.x E.b d_Told_forget_73 (by decide) ?_
      obtain ⟨σ15, e_σ15, h⟩ := lt_some h
      refine iasC E w (k := 1) (by decide) (show inb 190 245 by decide) e_σ15 d_Told_forget_74 (fun H locs w => ?_)
      refine lv_aload_n E.x E.b d_Told_forget_75 rfl (lv_at hl 0 rfl) ?_
      refine gC_Told_kept E w k62 d_Told_forget_76 ?_
      refine lv_sipush (v := 192) E.x E.b d_Told_forget_79 (by decide) ?_
      refine lv_iconst (v := (-1)) E.x E.b d_Told_forget_82 (by decide) ?_
      obtain ⟨σ16, e_σ16, h⟩ := lt_some h
      refine iasC E w (k := 1) (by decide) (show inb 192 245 by decide) e_σ16 d_Told_forget_83 (fun H locs w => ?_)
      refine lv_aload_n E.x E.b d_Told_forget_84 rfl (lv_at hl 0 rfl) ?_
      refine gC_Told_kept E w k62 d_Told_forget_85 ?_
      refine lv_sipush (v := 199) E.x E.b d_Told_forget_88 (by decide) ?_
      refine lv_iconst (v := (-1)) E.x E.b d_Told_forget_91 (by decide) ?_
      obtain ⟨σ17, e_σ17, h⟩ := lt_some h
      refine iasC E w (k := 1) (by decide) (show inb 199 245 by decide) e_σ17 d_Told_forget_92 (fun H locs w => ?_)
      refine lv_aload_n E.x E.b d_Told_forget_93 rfl (lv_at hl 0 rfl) ?_
      refine gC_Told_kept E w k62 d_Told_forget_94 ?_
      refine lv_sipush (v := 210) E.x E.b d_Told_forget_97 (by decide) ?_
      refine lv_iconst (v := (-1)) E.x E.b d_Told_forget_100 (by decide) ?_
      obtain ⟨σ18, e_σ18, h⟩ := lt_some h
      refine iasC E w (k := 1) (by decide) (show inb 210 245 by decide) e_σ18 d_Told_forget_101 (fun H locs w => ?_)
      refine lv_aload_n E.x E.b d_Told_forget_102 rfl (lv_at hl 0 rfl) ?_
      refine gC_Told_kept E w k62 d_Told_forget_103 ?_
      refine lv_sipush (v := 213) E.x E.b d_Told_forget_106 (by decide) ?_
      refine lv_iconst (v := (-1)) E.x E.b d_Told_forget_109 (by decide) ?_
      obtain ⟨σ19, e_σ19, h⟩ := lt_some h
      refine iasC E w (k := 1) (by decide) (show inb 213 245 by decide) e_σ19 d_Told_forget_110 (fun H locs w => ?_)
      refine lv_aload_n E.x E.b d_Told_forget_111 rfl (lv_at hl 0 rfl) ?_
      refine gC_Told_kept E w k62 d_Told_forget_112 ?_
      refine lv_sipush (v := 214) E.x E.b d_Told_forget_115 (by decide) ?_
      refine lv_bipush (v := 15) E.x E.b d_Told_forget_118 (by decide) ?_
      obtain ⟨σ20, e_σ20, h⟩ := lt_some h
      refine iasC E w (k := 1) (by decide) (show inb 214 245 by decide) e_σ20 d_Told_forget_120 (fun H locs w => ?_)
      obtain rfl := Option.some.inj h
      exact rt_v E w hret d_Told_forget_121
    ·
      replace h := ifF c h
      refine lv_aload_n E.x E.b d_Told_forget_45 rfl (lv_at hl 0 rfl) ?_
      refine gC_Told_kept E w k62 d_Told_forget_46 ?_
      refine lv_sipush (v := 170) E.x E.b d_Told_forget_49 (by decide) ?_
      refine lv_iconst (v := 5) E.x E.b d_Told_forget_52 (by decide) ?_
      refine lv_iload_n E.x E.b d_Told_forget_53 rfl (lv_at hl 1 rfl) ?_
      refine lv_imul E.x E.b d_Told_forget_54 ?_
      refine lv_iadd E.x E.b d_Told_forget_55 ?_
      refine lv_iconst (v := 3) E.x E.b d_Told_forget_56 (by decide) ?_
      refine lv_iadd E.x E.b d_Told_forget_57 ?_
      refine lv_iconst (v := 1) E.x E.b d_Told_forget_58 (by decide) ?_
      obtain ⟨c21, h⟩ := ck_some h
      obtain ⟨σ22, e_σ22, h⟩ := lt_some h
      refine iasC E w (k := 1) (by decide) c21 e_σ22 d_Told_forget_59 (fun H locs w => ?_)
      obtain ⟨y23, e_y23, h⟩ := lt_some h
      refine lv_iinc (v := y23) (lv' := [(1, .int y23), (0, .ref (ad 57))]) E.x E.b d_Told_forget_60 hl (k := 1) rfl (e_y23) (by decide) rfl (fun ls hl => ?_)
      refine lv_goto (tgt := 40) E.x E.b d_Told_forget_63 (by decide) ?_
      exact hr_40 σ22 y23 _ _ _ h w (lv_sub hl [1, 0] rfl)
def F_Told_forget (σ : Sg) : Option (Sg) := bd (F_Arr_fill σ 1 0) (fun o24 => lt (sA o24 1 (upd (o24.2.2.1 1) 2 1)) (fun σ25 => lt (sA σ25 1 (upd (σ25.2.2.1 1) 3 1)) (fun σ26 => lt (sA σ26 1 (upd (σ26.2.2.1 1) 5 16777215)) (fun σ27 => lt (sA σ27 1 (upd (σ27.2.2.1 1) 8 (-1))) (fun σ28 => L_Told_forget_40 100000 σ28 0)))))
set_option maxRecDepth 10000 in
set_option maxHeartbeats 4000000 in
theorem c_Told_forget (l : Launch) (D : va_G) (τ : ClassId × ClassId × ClassId) (B : Nat) (σ : Sg) (ad : Nat → Nat) (o : Sg) (h : F_Told_forget σ = some o) : MV l y_Told_forget (Cond.code y_Told_forget prog_11_method_2_code 2 none) 1 D τ B [.ref (ad 57)] (wdC τ σ ad) (wdC τ o ad) := by
  refine en_v (by decide) (Nat.le_of_ble_eq_true rfl) ?_
  intro p e R s m args below meth c H locs ls A E hret w hl
  have E : Cx p R s m args meth c prog_11_method_2_code 2 "DrawingMachine$Told" 1 D τ B A := E
  have hl : lv_has ls 2 [(0, .ref (ad 57))] := hl
  refine lv_aload_n E.x E.b d_Told_forget_0 rfl (lv_at hl 0 rfl) ?_
  refine gC_Told_kept E w k62 d_Told_forget_1 ?_
  refine lv_iconst (v := 0) E.x E.b d_Told_forget_4 (by decide) ?_
  obtain ⟨o24, h_o24, h⟩ := bd_some h
  refine clS_Arr_fill E w (ar0 := 1) (x1 := 0) h_o24 k58 (by decide) hl.1 (Nat.le_of_ble_eq_true rfl) d_Told_forget_5 (fun H locs w => ?_)
  refine lv_aload_n E.x E.b d_Told_forget_8 rfl (lv_at hl 0 rfl) ?_
  refine gC_Told_kept E w k62 d_Told_forget_9 ?_
  refine lv_iconst (v := 2) E.x E.b d_Told_forget_12 (by decide) ?_
  refine lv_iconst (v := 1) E.x E.b d_Told_forget_13 (by decide) ?_
  obtain ⟨σ25, e_σ25, h⟩ := lt_some h
  refine iasC E w (k := 1) (by decide) (show inb 2 245 by decide) e_σ25 d_Told_forget_14 (fun H locs w => ?_)
  refine lv_aload_n E.x E.b d_Told_forget_15 rfl (lv_at hl 0 rfl) ?_
  refine gC_Told_kept E w k62 d_Told_forget_16 ?_
  refine lv_iconst (v := 3) E.x E.b d_Told_forget_19 (by decide) ?_
  refine lv_iconst (v := 1) E.x E.b d_Told_forget_20 (by decide) ?_
  obtain ⟨σ26, e_σ26, h⟩ := lt_some h
  refine iasC E w (k := 1) (by decide) (show inb 3 245 by decide) e_σ26 d_Told_forget_21 (fun H locs w => ?_)
  refine lv_aload_n E.x E.b d_Told_forget_22 rfl (lv_at hl 0 rfl) ?_
  refine gC_Told_kept E w k62 d_Told_forget_23 ?_
  refine lv_iconst (v := 5) E.x E.b d_Told_forget_26 (by decide) ?_
  refine lv_ldc (v := 16777215) E.x E.b E.o (E.w _ k61) d_Told_forget_27 ?_
  obtain ⟨σ27, e_σ27, h⟩ := lt_some h
  refine iasC E w (k := 1) (by decide) (show inb 5 245 by decide) e_σ27 d_Told_forget_29 (fun H locs w => ?_)
  refine lv_aload_n E.x E.b d_Told_forget_30 rfl (lv_at hl 0 rfl) ?_
  refine gC_Told_kept E w k62 d_Told_forget_31 ?_
  refine lv_bipush (v := 8) E.x E.b d_Told_forget_34 (by decide) ?_
  refine lv_iconst (v := (-1)) E.x E.b d_Told_forget_36 (by decide) ?_
  obtain ⟨σ28, e_σ28, h⟩ := lt_some h
  refine iasC E w (k := 1) (by decide) (show inb 8 245 by decide) e_σ28 d_Told_forget_37 (fun H locs w => ?_)
  refine lv_iconst (v := 0) E.x E.b d_Told_forget_38 (by decide) ?_
  refine lv_istore_n (lv' := [(1, .int 0), (0, .ref (ad 57))]) E.x E.b d_Told_forget_39 rfl hl (by decide) rfl (fun ls hl => ?_)
  exact lt_Told_forget_40 E hret o 100000 σ28 0 _ _ _ h w (lv_sub hl [1, 0] rfl)
theorem clV_Told_forget {p : Program} {l : Launch} {e : Env} {R : Room} {s : State} {m : MethodId} {args : Array Value} {below : List Frame} {meth : Method} {c : Code} {H : Heap} {locs : List Loc} {Q : State → Prop} {cc : ByteArray} {nL pc lev : Nat} {own : String} {D : va_G} {τ : ClassId × ClassId × ClassId} {B : Nat} {A : Nat → Prop} {σ : Sg} {ad : Nat → Nat} {ls : Array Slot} {rest : List Value} (E : Cx p R s m args meth c cc nL own lev D τ B A) (w : Wd s D A (wdC τ σ ad) H locs) {o : Sg} (h : F_Told_forget σ = some o) {index : Nat} (hlk : Cond.methodLink own index y_Told_forget ∈ tw) (hlev : 1 < lev) (hsz : ls.size = nL) (hr : (rest.map fun v => v.category).sum ≤ 8) (hd : decode cc pc = .ok (.invokevirtual index, 3)) (kk : ∀ (H1 : Heap) (locs1 : List Loc), Wd s D A (wdC τ o ad) H1 locs1 → W p l e R s m args below meth c H1 locs1 0 0 Q (F0 m (pc + 3) ls (rest))) : W p l e R s m args below meth c H locs 0 0 Q (F0 m pc ls (.ref (ad 57) :: rest)) :=
  cr_v w E.C (va_runV (As := []) (rest := rest) E.fix (c_Told_forget l D τ B σ ad o h H.size) (cwV 0 E.w (tw_pre (tw_good k57) (l := [_, _, _, _]) (List.forall_mem_cons.mpr ⟨hlk, List.forall_mem_cons.mpr ⟨k55, List.forall_mem_cons.mpr ⟨k56, List.forall_mem_cons.mpr ⟨k2, fun _ h => absurd h List.not_mem_nil⟩⟩⟩⟩)) rfl rfl rfl (by decide +kernel) (E.rm hlev (by decide))) (wd_preV w E.C [] rcC_Told rfl) rfl rfl hsz rfl (lv_room hr) hd ⟨Nat.zero_le _, Nat.zero_le _⟩) kk

theorem d_Cou_beginAnew_0 : decode prog_3_method_4_code 0 = .ok (.aload_n 0, 1) := by decide +kernel
theorem d_Cou_beginAnew_1 : decode prog_3_method_4_code 1 = .ok (.iconst 0, 1) := by decide +kernel
theorem d_Cou_beginAnew_2 : decode prog_3_method_4_code 2 = .ok (.putfield 46, 3) := by decide +kernel
theorem d_Cou_beginAnew_5 : decode prog_3_method_4_code 5 = .ok (.aload_n 0, 1) := by decide +kernel
theorem d_Cou_beginAnew_6 : decode prog_3_method_4_code 6 = .ok (.iconst 0, 1) := by decide +kernel
theorem d_Cou_beginAnew_7 : decode prog_3_method_4_code 7 = .ok (.putfield 49, 3) := by decide +kernel
theorem d_Cou_beginAnew_10 : decode prog_3_method_4_code 10 = .ok (.aload_n 0, 1) := by decide +kernel
theorem d_Cou_beginAnew_11 : decode prog_3_method_4_code 11 = .ok (.iconst 0, 1) := by decide +kernel
theorem d_Cou_beginAnew_12 : decode prog_3_method_4_code 12 = .ok (.putfield 52, 3) := by decide +kernel
theorem d_Cou_beginAnew_15 : decode prog_3_method_4_code 15 = .ok (.aload_n 0, 1) := by decide +kernel
theorem d_Cou_beginAnew_16 : decode prog_3_method_4_code 16 = .ok (.iconst 0, 1) := by decide +kernel
theorem d_Cou_beginAnew_17 : decode prog_3_method_4_code 17 = .ok (.putfield 55, 3) := by decide +kernel
theorem d_Cou_beginAnew_20 : decode prog_3_method_4_code 20 = .ok (.aload_n 0, 1) := by decide +kernel
theorem d_Cou_beginAnew_21 : decode prog_3_method_4_code 21 = .ok (.iconst (-1), 1) := by decide +kernel
theorem d_Cou_beginAnew_22 : decode prog_3_method_4_code 22 = .ok (.putfield 15, 3) := by decide +kernel
theorem d_Cou_beginAnew_25 : decode prog_3_method_4_code 25 = .ok (.aload_n 0, 1) := by decide +kernel
theorem d_Cou_beginAnew_26 : decode prog_3_method_4_code 26 = .ok (.iconst (-1), 1) := by decide +kernel
theorem d_Cou_beginAnew_27 : decode prog_3_method_4_code 27 = .ok (.putfield 19, 3) := by decide +kernel
theorem d_Cou_beginAnew_30 : decode prog_3_method_4_code 30 = .ok (.aload_n 0, 1) := by decide +kernel
theorem d_Cou_beginAnew_31 : decode prog_3_method_4_code 31 = .ok (.iconst 0, 1) := by decide +kernel
theorem d_Cou_beginAnew_32 : decode prog_3_method_4_code 32 = .ok (.putfield 58, 3) := by decide +kernel
theorem d_Cou_beginAnew_35 : decode prog_3_method_4_code 35 = .ok (.aload_n 0, 1) := by decide +kernel
theorem d_Cou_beginAnew_36 : decode prog_3_method_4_code 36 = .ok (.lconst 0, 1) := by decide +kernel
theorem d_Cou_beginAnew_37 : decode prog_3_method_4_code 37 = .ok (.putfield 62, 3) := by decide +kernel
theorem d_Cou_beginAnew_40 : decode prog_3_method_4_code 40 = .ok (.return_, 1) := by decide +kernel
def F_Cou_beginAnew (σ : Sg) : Option (Sg) := lt (sI σ 10 0) (fun σ9 => lt (sI σ9 4 0) (fun σ10 => lt (sI σ10 5 0) (fun σ11 => lt (sI σ11 6 0) (fun σ12 => lt (sI σ12 7 (-1)) (fun σ13 => lt (sI σ13 8 (-1)) (fun σ14 => lt (sI σ14 9 0) (fun σ15 => lt (sJ σ15 0 0) (fun σ16 => some σ16))))))))
set_option maxRecDepth 10000 in
set_option maxHeartbeats 4000000 in
theorem c_Cou_beginAnew (l : Launch) (D : va_G) (τ : ClassId × ClassId × ClassId) (B : Nat) (σ : Sg) (ad : Nat → Nat) (o : Sg) (h : F_Cou_beginAnew σ = some o) : MV l y_Cou_beginAnew (Cond.code y_Cou_beginAnew prog_3_method_4_code 1 none) 0 D τ B [.ref (ad 59)] (wdC τ σ ad) (wdC τ o ad) := by
  refine en_v (by decide) (Nat.le_of_ble_eq_true rfl) ?_
  intro p e R s m args below meth c H locs ls A E hret w hl
  have E : Cx p R s m args meth c prog_3_method_4_code 1 "DrawingMachine$Course" 0 D τ B A := E
  have hl : lv_has ls 1 [(0, .ref (ad 59))] := hl
  refine lv_aload_n E.x E.b d_Cou_beginAnew_0 rfl (lv_at hl 0 rfl) ?_
  refine lv_iconst (v := 0) E.x E.b d_Cou_beginAnew_1 (by decide) ?_
  obtain ⟨σ9, e_σ9, h⟩ := lt_some h
  refine pC_Cou_position E w k135 e_σ9 d_Cou_beginAnew_2 (fun H locs w => ?_)
  refine lv_aload_n E.x E.b d_Cou_beginAnew_5 rfl (lv_at hl 0 rfl) ?_
  refine lv_iconst (v := 0) E.x E.b d_Cou_beginAnew_6 (by decide) ?_
  obtain ⟨σ10, e_σ10, h⟩ := lt_some h
  refine pC_Cou_depth E w k118 e_σ10 d_Cou_beginAnew_7 (fun H locs w => ?_)
  refine lv_aload_n E.x E.b d_Cou_beginAnew_10 rfl (lv_at hl 0 rfl) ?_
  refine lv_iconst (v := 0) E.x E.b d_Cou_beginAnew_11 (by decide) ?_
  obtain ⟨σ11, e_σ11, h⟩ := lt_some h
  refine pC_Cou_done E w k120 e_σ11 d_Cou_beginAnew_12 (fun H locs w => ?_)
  refine lv_aload_n E.x E.b d_Cou_beginAnew_15 rfl (lv_at hl 0 rfl) ?_
  refine lv_iconst (v := 0) E.x E.b d_Cou_beginAnew_16 (by decide) ?_
  obtain ⟨σ12, e_σ12, h⟩ := lt_some h
  refine pC_Cou_refused E w k122 e_σ12 d_Cou_beginAnew_17 (fun H locs w => ?_)
  refine lv_aload_n E.x E.b d_Cou_beginAnew_20 rfl (lv_at hl 0 rfl) ?_
  refine lv_iconst (v := (-1)) E.x E.b d_Cou_beginAnew_21 (by decide) ?_
  obtain ⟨σ13, e_σ13, h⟩ := lt_some h
  refine pC_Cou_lastPlace E w k124 e_σ13 d_Cou_beginAnew_22 (fun H locs w => ?_)
  refine lv_aload_n E.x E.b d_Cou_beginAnew_25 rfl (lv_at hl 0 rfl) ?_
  refine lv_iconst (v := (-1)) E.x E.b d_Cou_beginAnew_26 (by decide) ?_
  obtain ⟨σ14, e_σ14, h⟩ := lt_some h
  refine pC_Cou_lastDepth E w k126 e_σ14 d_Cou_beginAnew_27 (fun H locs w => ?_)
  refine lv_aload_n E.x E.b d_Cou_beginAnew_30 rfl (lv_at hl 0 rfl) ?_
  refine lv_iconst (v := 0) E.x E.b d_Cou_beginAnew_31 (by decide) ?_
  obtain ⟨σ15, e_σ15, h⟩ := lt_some h
  refine pC_Cou_over E w k128 (by decide) e_σ15 d_Cou_beginAnew_32 (fun H locs w => ?_)
  refine lv_aload_n E.x E.b d_Cou_beginAnew_35 rfl (lv_at hl 0 rfl) ?_
  refine lv_lconst (v := 0) E.x E.b d_Cou_beginAnew_36 (by decide) ?_
  obtain ⟨σ16, e_σ16, h⟩ := lt_some h
  refine pC_Cou_work E w k131 e_σ16 d_Cou_beginAnew_37 (fun H locs w => ?_)
  obtain rfl := Option.some.inj h
  exact rt_v E w hret d_Cou_beginAnew_40
theorem clV_Cou_beginAnew {p : Program} {l : Launch} {e : Env} {R : Room} {s : State} {m : MethodId} {args : Array Value} {below : List Frame} {meth : Method} {c : Code} {H : Heap} {locs : List Loc} {Q : State → Prop} {cc : ByteArray} {nL pc lev : Nat} {own : String} {D : va_G} {τ : ClassId × ClassId × ClassId} {B : Nat} {A : Nat → Prop} {σ : Sg} {ad : Nat → Nat} {ls : Array Slot} {rest : List Value} (E : Cx p R s m args meth c cc nL own lev D τ B A) (w : Wd s D A (wdC τ σ ad) H locs) {o : Sg} (h : F_Cou_beginAnew σ = some o) {index : Nat} (hlk : Cond.methodLink own index y_Cou_beginAnew ∈ tw) (hlev : 0 < lev) (hsz : ls.size = nL) (hr : (rest.map fun v => v.category).sum ≤ 8) (hd : decode cc pc = .ok (.invokevirtual index, 3)) (kk : ∀ (H1 : Heap) (locs1 : List Loc), Wd s D A (wdC τ o ad) H1 locs1 → W p l e R s m args below meth c H1 locs1 0 0 Q (F0 m (pc + 3) ls (rest))) : W p l e R s m args below meth c H locs 0 0 Q (F0 m pc ls (.ref (ad 59) :: rest)) :=
  cr_v w E.C (va_runV (As := []) (rest := rest) E.fix (c_Cou_beginAnew l D τ B σ ad o h H.size) (cwV 0 E.w (tw_pre (tw_good k469) (l := [_, _, _, _]) (List.forall_mem_cons.mpr ⟨hlk, List.forall_mem_cons.mpr ⟨k467, List.forall_mem_cons.mpr ⟨k468, List.forall_mem_cons.mpr ⟨k5, fun _ h => absurd h List.not_mem_nil⟩⟩⟩⟩)) rfl rfl rfl (by decide +kernel) (E.rm hlev (by decide))) (wd_preV w E.C [] rcC_Cou rfl) rfl rfl hsz rfl (lv_room hr) hd ⟨Nat.zero_le _, Nat.zero_le _⟩) kk

theorem d_DM_beginAnew_0 : decode prog_1_method_14_code 0 = .ok (.aload_n 0, 1) := by decide +kernel
theorem d_DM_beginAnew_1 : decode prog_1_method_14_code 1 = .ok (.getfield 34, 3) := by decide +kernel
theorem d_DM_beginAnew_4 : decode prog_1_method_14_code 4 = .ok (.invokevirtual 195, 3) := by decide +kernel
theorem d_DM_beginAnew_7 : decode prog_1_method_14_code 7 = .ok (.aload_n 0, 1) := by decide +kernel
theorem d_DM_beginAnew_8 : decode prog_1_method_14_code 8 = .ok (.getfield 50, 3) := by decide +kernel
theorem d_DM_beginAnew_11 : decode prog_1_method_14_code 11 = .ok (.iconst (-1), 1) := by decide +kernel
theorem d_DM_beginAnew_12 : decode prog_1_method_14_code 12 = .ok (.putfield 158, 3) := by decide +kernel
theorem d_DM_beginAnew_15 : decode prog_1_method_14_code 15 = .ok (.return_, 1) := by decide +kernel
def F_DM_beginAnew (σ : Sg) : Option (Sg) := bd (F_Cou_beginAnew σ) (fun o3 => lt (sI o3 15 (-1)) (fun σ4 => some σ4))
set_option maxRecDepth 10000 in
set_option maxHeartbeats 4000000 in
theorem c_DM_beginAnew (l : Launch) (D : va_G) (τ : ClassId × ClassId × ClassId) (B : Nat) (σ : Sg) (ad : Nat → Nat) (o : Sg) (h : F_DM_beginAnew σ = some o) : MV l y_DM_beginAnew (Cond.code y_DM_beginAnew prog_1_method_14_code 1 none) 1 D τ B [.ref (ad 56)] (wdC τ σ ad) (wdC τ o ad) := by
  refine en_v (by decide) (Nat.le_of_ble_eq_true rfl) ?_
  intro p e R s m args below meth c H locs ls A E hret w hl
  have E : Cx p R s m args meth c prog_1_method_14_code 1 "DrawingMachine" 1 D τ B A := E
  have hl : lv_has ls 1 [(0, .ref (ad 56))] := hl
  refine lv_aload_n E.x E.b d_DM_beginAnew_0 rfl (lv_at hl 0 rfl) ?_
  refine gC_DM_course E w k433 d_DM_beginAnew_1 ?_
  obtain ⟨o3, h_o3, h⟩ := bd_some h
  refine clV_Cou_beginAnew E w h_o3 k466 (by decide) hl.1 (Nat.le_of_ble_eq_true rfl) d_DM_beginAnew_4 (fun H locs w => ?_)
  refine lv_aload_n E.x E.b d_DM_beginAnew_7 rfl (lv_at hl 0 rfl) ?_
  refine gC_DM_drawing E w k435 d_DM_beginAnew_8 ?_
  refine lv_iconst (v := (-1)) E.x E.b d_DM_beginAnew_11 (by decide) ?_
  obtain ⟨σ4, e_σ4, h⟩ := lt_some h
  refine pC_Drw_openQuery E w k378 e_σ4 d_DM_beginAnew_12 (fun H locs w => ?_)
  obtain rfl := Option.some.inj h
  exact rt_v E w hret d_DM_beginAnew_15
theorem clV_DM_beginAnew {p : Program} {l : Launch} {e : Env} {R : Room} {s : State} {m : MethodId} {args : Array Value} {below : List Frame} {meth : Method} {c : Code} {H : Heap} {locs : List Loc} {Q : State → Prop} {cc : ByteArray} {nL pc lev : Nat} {own : String} {D : va_G} {τ : ClassId × ClassId × ClassId} {B : Nat} {A : Nat → Prop} {σ : Sg} {ad : Nat → Nat} {ls : Array Slot} {rest : List Value} (E : Cx p R s m args meth c cc nL own lev D τ B A) (w : Wd s D A (wdC τ σ ad) H locs) {o : Sg} (h : F_DM_beginAnew σ = some o) {index : Nat} (hlk : Cond.methodLink own index y_DM_beginAnew ∈ tw) (hlev : 1 < lev) (hsz : ls.size = nL) (hr : (rest.map fun v => v.category).sum ≤ 8) (hd : decode cc pc = .ok (.invokevirtual index, 3)) (kk : ∀ (H1 : Heap) (locs1 : List Loc), Wd s D A (wdC τ o ad) H1 locs1 → W p l e R s m args below meth c H1 locs1 0 0 Q (F0 m (pc + 3) ls (rest))) : W p l e R s m args below meth c H locs 0 0 Q (F0 m pc ls (.ref (ad 56) :: rest)) :=
  cr_v w E.C (va_runV (As := []) (rest := rest) E.fix (c_DM_beginAnew l D τ B σ ad o h H.size) (cwV 0 E.w (tw_pre (tw_good k465) (l := [_, _, _, _]) (List.forall_mem_cons.mpr ⟨hlk, List.forall_mem_cons.mpr ⟨k464, List.forall_mem_cons.mpr ⟨ks0, List.forall_mem_cons.mpr ⟨k1, fun _ h => absurd h List.not_mem_nil⟩⟩⟩⟩)) rfl rfl rfl (by decide +kernel) (E.rm hlev (by decide))) (wd_preV w E.C [] rcC_DM rfl) rfl rfl hsz rfl (lv_room hr) hd ⟨Nat.zero_le _, Nat.zero_le _⟩) kk

theorem d_DM_begin_0 : decode prog_1_method_7_code 0 = .ok (.aload_n 0, 1) := by decide +kernel
theorem d_DM_begin_1 : decode prog_1_method_7_code 1 = .ok (.invokevirtual 108, 3) := by decide +kernel
theorem d_DM_begin_4 : decode prog_1_method_7_code 4 = .ok (.iload_n 1, 1) := by decide +kernel
theorem d_DM_begin_5 : decode prog_1_method_7_code 5 = .ok (.ifCond .ne 26, 3) := by decide +kernel
theorem d_DM_begin_8 : decode prog_1_method_7_code 8 = .ok (.aload_n 0, 1) := by decide +kernel
theorem d_DM_begin_9 : decode prog_1_method_7_code 9 = .ok (.getfield 16, 3) := by decide +kernel
theorem d_DM_begin_12 : decode prog_1_method_7_code 12 = .ok (.invokevirtual 111, 3) := by decide +kernel
theorem d_DM_begin_15 : decode prog_1_method_7_code 15 = .ok (.aload_n 0, 1) := by decide +kernel
theorem d_DM_begin_16 : decode prog_1_method_7_code 16 = .ok (.getfield 57, 3) := by decide +kernel
theorem d_DM_begin_19 : decode prog_1_method_7_code 19 = .ok (.iconst 0, 1) := by decide +kernel
theorem d_DM_begin_20 : decode prog_1_method_7_code 20 = .ok (.putfield 114, 3) := by decide +kernel
theorem d_DM_begin_23 : decode prog_1_method_7_code 23 = .ok (.aload_n 0, 1) := by decide +kernel
theorem d_DM_begin_24 : decode prog_1_method_7_code 24 = .ok (.getfield 61, 3) := by decide +kernel
theorem d_DM_begin_27 : decode prog_1_method_7_code 27 = .ok (.iconst 0, 1) := by decide +kernel
theorem d_DM_begin_28 : decode prog_1_method_7_code 28 = .ok (.putfield 114, 3) := by decide +kernel
theorem d_DM_begin_31 : decode prog_1_method_7_code 31 = .ok (.return_, 1) := by decide +kernel
def F_DM_begin_31 (σ : Sg) : Option (Sg) := some σ
set_option maxRecDepth 10000 in
set_option maxHeartbeats 4000000 in
theorem bt_DM_begin_31 {p : Program} {l : Launch} {e : Env} {R : Room} {s : State} {m : MethodId} {args : Array Value} {below : List Frame} {meth : Method} {c : Code} {D : va_G} {τ : ClassId × ClassId × ClassId} {B : Nat} {A : Nat → Prop} {ad : Nat → Nat} (E : Cx p R s m args meth c prog_1_method_7_code 2 "DrawingMachine" 2 D τ B A) (hret : meth.sig.returnType = none) (o : Sg) (σ : Sg) (h : F_DM_begin_31 σ = some o) {H : Heap} {locs : List Loc} {ls : Array Slot} (w : Wd s D A (wdC τ σ ad) H locs) (hl : lv_has ls 2 []) : W p l e R s m args below meth c H locs 0 0 (QV below args s A D τ (wdC τ o ad)) (F0 m 31 ls []) := by
  obtain rfl := Option.some.inj h
  exact rt_v E w hret d_DM_begin_31
def F_DM_begin (σ : Sg) (x0 : Int32) : Option (Sg) := bd (F_DM_beginAnew σ) (fun o9 => if x0 = 0 then (bd (F_Told_forget o9) (fun o10 => lt (o10.2.2.2.2 2) (fun nn11 => ck (nn11 < 3) (lt (sI o10 (22 + 3 * nn11) 0) (fun σ13 => lt (σ13.2.2.2.2 3) (fun nn14 => ck (nn14 < 3) (lt (sI σ13 (22 + 3 * nn14) 0) (fun σ16 => F_DM_begin_31 σ16)))))))) else (F_DM_begin_31 o9))
set_option maxRecDepth 10000 in
set_option maxHeartbeats 4000000 in
theorem c_DM_begin (l : Launch) (D : va_G) (τ : ClassId × ClassId × ClassId) (B : Nat) (σ : Sg) (ad : Nat → Nat) (x0 : Int32) (o : Sg) (h : F_DM_begin σ x0 = some o) : MV l y_DM_begin (Cond.code y_DM_begin prog_1_method_7_code 2 none) 2 D τ B [.ref (ad 56), .int x0] (wdC τ σ ad) (wdC τ o ad) := by
  refine en_v (by decide) (Nat.le_of_ble_eq_true rfl) ?_
  intro p e R s m args below meth c H locs ls A E hret w hl
  have E : Cx p R s m args meth c prog_1_method_7_code 2 "DrawingMachine" 2 D τ B A := E
  have hl : lv_has ls 2 [(0, .ref (ad 56)), (1, .int x0)] := hl
  refine lv_aload_n E.x E.b d_DM_begin_0 rfl (lv_at hl 0 rfl) ?_
  obtain ⟨o9, h_o9, h⟩ := bd_some h
  refine clV_DM_beginAnew E w h_o9 k462 (by decide) hl.1 (Nat.le_of_ble_eq_true rfl) d_DM_begin_1 (fun H locs w => ?_)
  refine lv_iload_n E.x E.b d_DM_begin_4 rfl (lv_at hl 1 rfl) ?_
  refine lv_if_ne (tgt := 31) E.x E.b d_DM_begin_5 (by decide) (fun c => ?_) (fun c => ?_)
  ·
    replace h := ifF c h
    exact bt_DM_begin_31 E hret o o9 h w (lv_sub hl [] rfl)
  ·
    replace h := ifT c h
    refine lv_aload_n E.x E.b d_DM_begin_8 rfl (lv_at hl 0 rfl) ?_
    refine gC_DM_told E w k431 d_DM_begin_9 ?_
    obtain ⟨o10, h_o10, h⟩ := bd_some h
    refine clV_Told_forget E w h_o10 k470 (by decide) hl.1 (Nat.le_of_ble_eq_true rfl) d_DM_begin_12 (fun H locs w => ?_)
    refine lv_aload_n E.x E.b d_DM_begin_15 rfl (lv_at hl 0 rfl) ?_
    refine gC_DM_cornersProgram E w k436 d_DM_begin_16 ?_
    obtain ⟨nn11, e_nn11, h⟩ := lt_some h
    refine wr_e (v := ad (67 + nn11)) (by rw [e_nn11]) ?_
    obtain ⟨c12, h⟩ := ck_some h
    refine lv_iconst (v := 0) E.x E.b d_DM_begin_19 (by decide) ?_
    obtain ⟨σ13, e_σ13, h⟩ := lt_some h
    refine pC_Prg_many E w (pid := nn11) c12 k416 e_σ13 d_DM_begin_20 (fun H locs w => ?_)
    refine lv_aload_n E.x E.b d_DM_begin_23 rfl (lv_at hl 0 rfl) ?_
    refine gC_DM_placesProgram E w k437 d_DM_begin_24 ?_
    obtain ⟨nn14, e_nn14, h⟩ := lt_some h
    refine wr_e (v := ad (67 + nn14)) (by rw [e_nn14]) ?_
    obtain ⟨c15, h⟩ := ck_some h
    refine lv_iconst (v := 0) E.x E.b d_DM_begin_27 (by decide) ?_
    obtain ⟨σ16, e_σ16, h⟩ := lt_some h
    refine pC_Prg_many E w (pid := nn14) c15 k416 e_σ16 d_DM_begin_28 (fun H locs w => ?_)
    exact bt_DM_begin_31 E hret o σ16 h w (lv_sub hl [] rfl)

theorem d_DM_isSide_0 : decode prog_1_method_22_code 0 = .ok (.iload_n 0, 1) := by decide +kernel
theorem d_DM_isSide_1 : decode prog_1_method_22_code 1 = .ok (.iconst 1, 1) := by decide +kernel
theorem d_DM_isSide_2 : decode prog_1_method_22_code 2 = .ok (.if_icmp .lt 14, 3) := by decide +kernel
theorem d_DM_isSide_5 : decode prog_1_method_22_code 5 = .ok (.iload_n 0, 1) := by decide +kernel
theorem d_DM_isSide_6 : decode prog_1_method_22_code 6 = .ok (.sipush 128, 3) := by decide +kernel
theorem d_DM_isSide_9 : decode prog_1_method_22_code 9 = .ok (.if_icmp .gt 7, 3) := by decide +kernel
theorem d_DM_isSide_12 : decode prog_1_method_22_code 12 = .ok (.iconst 1, 1) := by decide +kernel
theorem d_DM_isSide_13 : decode prog_1_method_22_code 13 = .ok (.goto 4, 3) := by decide +kernel
theorem d_DM_isSide_16 : decode prog_1_method_22_code 16 = .ok (.iconst 0, 1) := by decide +kernel
theorem d_DM_isSide_17 : decode prog_1_method_22_code 17 = .ok (.ireturn, 1) := by decide +kernel
def F_DM_isSide_17  (s0 : Int32) : Option (Int32) := ck (s0 = 0 ∨ s0 = 1) (some s0)
set_option maxRecDepth 10000 in
set_option maxHeartbeats 4000000 in
theorem bt_DM_isSide_17 {p : Program} {l : Launch} {e : Env} {R : Room} {s : State} {m : MethodId} {args : Array Value} {below : List Frame} {meth : Method} {c : Code} {D : va_G} {τ : ClassId × ClassId × ClassId} {B : Nat} {A : Nat → Prop} {ad : Nat → Nat} {σ0 : Sg} (E : Cx p R s m args meth c prog_1_method_22_code 1 "DrawingMachine" 0 D τ B A) (hret : meth.sig.returnType = (some .boolean)) (o : Int32) (s0 : Int32) (h : F_DM_isSide_17 s0 = some o) {H : Heap} {locs : List Loc} {ls : Array Slot} (w : Wd s D A (wdC τ σ0 ad) H locs) (hl : lv_has ls 1 []) : W p l e R s m args below meth c H locs 0 0 (QI below args s A D τ (wdC τ σ0 ad) o) (F0 m 17 ls [.int s0]) := by
  obtain ⟨c2, h⟩ := ck_some h
  obtain rfl := Option.some.inj h
  exact rt_z E w hret c2 d_DM_isSide_17
def F_DM_isSide_16  : Option (Int32) := F_DM_isSide_17 0
set_option maxRecDepth 10000 in
set_option maxHeartbeats 4000000 in
theorem bt_DM_isSide_16 {p : Program} {l : Launch} {e : Env} {R : Room} {s : State} {m : MethodId} {args : Array Value} {below : List Frame} {meth : Method} {c : Code} {D : va_G} {τ : ClassId × ClassId × ClassId} {B : Nat} {A : Nat → Prop} {ad : Nat → Nat} {σ0 : Sg} (E : Cx p R s m args meth c prog_1_method_22_code 1 "DrawingMachine" 0 D τ B A) (hret : meth.sig.returnType = (some .boolean)) (o : Int32) (h : F_DM_isSide_16 = some o) {H : Heap} {locs : List Loc} {ls : Array Slot} (w : Wd s D A (wdC τ σ0 ad) H locs) (hl : lv_has ls 1 []) : W p l e R s m args below meth c H locs 0 0 (QI below args s A D τ (wdC τ σ0 ad) o) (F0 m 16 ls []) := by
  refine lv_iconst (v := 0) E.x E.b d_DM_isSide_16 (by decide) ?_
  exact bt_DM_isSide_17 E hret o 0 h w (lv_sub hl [] rfl)
def F_DM_isSide  (x0 : Int32) : Option (Int32) := if x0 < 1 then (F_DM_isSide_16) else (if 128 < x0 then (F_DM_isSide_16) else (F_DM_isSide_17 1))
set_option maxRecDepth 10000 in
set_option maxHeartbeats 4000000 in
theorem c_DM_isSide (l : Launch) (D : va_G) (τ : ClassId × ClassId × ClassId) (B : Nat) (σ0 : Sg) (ad : Nat → Nat) (x0 : Int32) (o : Int32) (h : F_DM_isSide x0 = some o) : MI l y_DM_isSide (Cond.code y_DM_isSide prog_1_method_22_code 1 (some .boolean)) 0 D τ B [.int x0] (wdC τ σ0 ad) (wdC τ σ0 ad) o := by
  refine en_i (by decide) (Nat.le_of_ble_eq_true rfl) ?_
  intro p e R s m args below meth c H locs ls A E hret w hl
  have E : Cx p R s m args meth c prog_1_method_22_code 1 "DrawingMachine" 0 D τ B A := E
  have hl : lv_has ls 1 [(0, .int x0)] := hl
  refine lv_iload_n E.x E.b d_DM_isSide_0 rfl (lv_at hl 0 rfl) ?_
  refine lv_iconst (v := 1) E.x E.b d_DM_isSide_1 (by decide) ?_
  refine lv_icmp_lt (tgt := 16) E.x E.b d_DM_isSide_2 (by decide) (fun c => ?_) (fun c => ?_)
  ·
    replace h := ifT c h
    exact bt_DM_isSide_16 E hret o h w (lv_sub hl [] rfl)
  ·
    replace h := ifF c h
    refine lv_iload_n E.x E.b d_DM_isSide_5 rfl (lv_at hl 0 rfl) ?_
    refine lv_sipush (v := 128) E.x E.b d_DM_isSide_6 (by decide) ?_
    refine lv_icmp_gt (tgt := 16) E.x E.b d_DM_isSide_9 (by decide) (fun c => ?_) (fun c => ?_)
    ·
      replace h := ifT c h
      exact bt_DM_isSide_16 E hret o h w (lv_sub hl [] rfl)
    ·
      replace h := ifF c h
      refine lv_iconst (v := 1) E.x E.b d_DM_isSide_12 (by decide) ?_
      refine lv_goto (tgt := 17) E.x E.b d_DM_isSide_13 (by decide) ?_
      exact bt_DM_isSide_17 E hret o 1 h w (lv_sub hl [] rfl)

theorem d_DM_isTileSide_0 : decode prog_1_method_23_code 0 = .ok (.iload_n 0, 1) := by decide +kernel
theorem d_DM_isTileSide_1 : decode prog_1_method_23_code 1 = .ok (.bipush 8, 2) := by decide +kernel
theorem d_DM_isTileSide_3 : decode prog_1_method_23_code 3 = .ok (.if_icmp .eq 21, 3) := by decide +kernel
theorem d_DM_isTileSide_6 : decode prog_1_method_23_code 6 = .ok (.iload_n 0, 1) := by decide +kernel
theorem d_DM_isTileSide_7 : decode prog_1_method_23_code 7 = .ok (.bipush 16, 2) := by decide +kernel
theorem d_DM_isTileSide_9 : decode prog_1_method_23_code 9 = .ok (.if_icmp .eq 15, 3) := by decide +kernel
theorem d_DM_isTileSide_12 : decode prog_1_method_23_code 12 = .ok (.iload_n 0, 1) := by decide +kernel
theorem d_DM_isTileSide_13 : decode prog_1_method_23_code 13 = .ok (.bipush 32, 2) := by decide +kernel
theorem d_DM_isTileSide_15 : decode prog_1_method_23_code 15 = .ok (.if_icmp .eq 9, 3) := by decide +kernel
theorem d_DM_isTileSide_18 : decode prog_1_method_23_code 18 = .ok (.iload_n 0, 1) := by decide +kernel
theorem d_DM_isTileSide_19 : decode prog_1_method_23_code 19 = .ok (.bipush 64, 2) := by decide +kernel
theorem d_DM_isTileSide_21 : decode prog_1_method_23_code 21 = .ok (.if_icmp .ne 7, 3) := by decide +kernel
theorem d_DM_isTileSide_24 : decode prog_1_method_23_code 24 = .ok (.iconst 1, 1) := by decide +kernel
theorem d_DM_isTileSide_25 : decode prog_1_method_23_code 25 = .ok (.goto 4, 3) := by decide +kernel
theorem d_DM_isTileSide_28 : decode prog_1_method_23_code 28 = .ok (.iconst 0, 1) := by decide +kernel
theorem d_DM_isTileSide_29 : decode prog_1_method_23_code 29 = .ok (.ireturn, 1) := by decide +kernel
def F_DM_isTileSide_29  (s0 : Int32) : Option (Int32) := ck (s0 = 0 ∨ s0 = 1) (some s0)
set_option maxRecDepth 10000 in
set_option maxHeartbeats 4000000 in
theorem bt_DM_isTileSide_29 {p : Program} {l : Launch} {e : Env} {R : Room} {s : State} {m : MethodId} {args : Array Value} {below : List Frame} {meth : Method} {c : Code} {D : va_G} {τ : ClassId × ClassId × ClassId} {B : Nat} {A : Nat → Prop} {ad : Nat → Nat} {σ0 : Sg} (E : Cx p R s m args meth c prog_1_method_23_code 1 "DrawingMachine" 0 D τ B A) (hret : meth.sig.returnType = (some .boolean)) (o : Int32) (s0 : Int32) (h : F_DM_isTileSide_29 s0 = some o) {H : Heap} {locs : List Loc} {ls : Array Slot} (w : Wd s D A (wdC τ σ0 ad) H locs) (hl : lv_has ls 1 []) : W p l e R s m args below meth c H locs 0 0 (QI below args s A D τ (wdC τ σ0 ad) o) (F0 m 29 ls [.int s0]) := by
  obtain ⟨c2, h⟩ := ck_some h
  obtain rfl := Option.some.inj h
  exact rt_z E w hret c2 d_DM_isTileSide_29
def F_DM_isTileSide_24  : Option (Int32) := F_DM_isTileSide_29 1
set_option maxRecDepth 10000 in
set_option maxHeartbeats 4000000 in
theorem bt_DM_isTileSide_24 {p : Program} {l : Launch} {e : Env} {R : Room} {s : State} {m : MethodId} {args : Array Value} {below : List Frame} {meth : Method} {c : Code} {D : va_G} {τ : ClassId × ClassId × ClassId} {B : Nat} {A : Nat → Prop} {ad : Nat → Nat} {σ0 : Sg} (E : Cx p R s m args meth c prog_1_method_23_code 1 "DrawingMachine" 0 D τ B A) (hret : meth.sig.returnType = (some .boolean)) (o : Int32) (h : F_DM_isTileSide_24 = some o) {H : Heap} {locs : List Loc} {ls : Array Slot} (w : Wd s D A (wdC τ σ0 ad) H locs) (hl : lv_has ls 1 []) : W p l e R s m args below meth c H locs 0 0 (QI below args s A D τ (wdC τ σ0 ad) o) (F0 m 24 ls []) := by
  refine lv_iconst (v := 1) E.x E.b d_DM_isTileSide_24 (by decide) ?_
  refine lv_goto (tgt := 29) E.x E.b d_DM_isTileSide_25 (by decide) ?_
  exact bt_DM_isTileSide_29 E hret o 1 h w (lv_sub hl [] rfl)
def F_DM_isTileSide  (x0 : Int32) : Option (Int32) := if x0 = 8 then (F_DM_isTileSide_24) else (if x0 = 16 then (F_DM_isTileSide_24) else (if x0 = 32 then (F_DM_isTileSide_24) else (if x0 = 64 then (F_DM_isTileSide_24) else (F_DM_isTileSide_29 0))))
set_option maxRecDepth 10000 in
set_option maxHeartbeats 4000000 in
theorem c_DM_isTileSide (l : Launch) (D : va_G) (τ : ClassId × ClassId × ClassId) (B : Nat) (σ0 : Sg) (ad : Nat → Nat) (x0 : Int32) (o : Int32) (h : F_DM_isTileSide x0 = some o) : MI l y_DM_isTileSide (Cond.code y_DM_isTileSide prog_1_method_23_code 1 (some .boolean)) 0 D τ B [.int x0] (wdC τ σ0 ad) (wdC τ σ0 ad) o := by
  refine en_i (by decide) (Nat.le_of_ble_eq_true rfl) ?_
  intro p e R s m args below meth c H locs ls A E hret w hl
  have E : Cx p R s m args meth c prog_1_method_23_code 1 "DrawingMachine" 0 D τ B A := E
  have hl : lv_has ls 1 [(0, .int x0)] := hl
  refine lv_iload_n E.x E.b d_DM_isTileSide_0 rfl (lv_at hl 0 rfl) ?_
  refine lv_bipush (v := 8) E.x E.b d_DM_isTileSide_1 (by decide) ?_
  refine lv_icmp_eq (tgt := 24) E.x E.b d_DM_isTileSide_3 (by decide) (fun c => ?_) (fun c => ?_)
  ·
    replace h := ifT c h
    exact bt_DM_isTileSide_24 E hret o h w (lv_sub hl [] rfl)
  ·
    replace h := ifF c h
    refine lv_iload_n E.x E.b d_DM_isTileSide_6 rfl (lv_at hl 0 rfl) ?_
    refine lv_bipush (v := 16) E.x E.b d_DM_isTileSide_7 (by decide) ?_
    refine lv_icmp_eq (tgt := 24) E.x E.b d_DM_isTileSide_9 (by decide) (fun c => ?_) (fun c => ?_)
    ·
      replace h := ifT c h
      exact bt_DM_isTileSide_24 E hret o h w (lv_sub hl [] rfl)
    ·
      replace h := ifF c h
      refine lv_iload_n E.x E.b d_DM_isTileSide_12 rfl (lv_at hl 0 rfl) ?_
      refine lv_bipush (v := 32) E.x E.b d_DM_isTileSide_13 (by decide) ?_
      refine lv_icmp_eq (tgt := 24) E.x E.b d_DM_isTileSide_15 (by decide) (fun c => ?_) (fun c => ?_)
      ·
        replace h := ifT c h
        exact bt_DM_isTileSide_24 E hret o h w (lv_sub hl [] rfl)
      ·
        replace h := ifF c h
        refine lv_iload_n E.x E.b d_DM_isTileSide_18 rfl (lv_at hl 0 rfl) ?_
        refine lv_bipush (v := 64) E.x E.b d_DM_isTileSide_19 (by decide) ?_
        refine lv_icmp_ne (tgt := 28) E.x E.b d_DM_isTileSide_21 (by decide) (fun c => ?_) (fun c => ?_)
        ·
          replace h := ifF c h
          refine lv_iconst (v := 0) E.x E.b d_DM_isTileSide_28 (by decide) ?_
          exact bt_DM_isTileSide_29 E hret o 0 h w (lv_sub hl [] rfl)
        ·
          replace h := ifT c h
          exact bt_DM_isTileSide_24 E hret o h w (lv_sub hl [] rfl)

theorem d_Arr_rangeCheck_0 : decode prog_39_method_30_code 0 = .ok (.iload_n 1, 1) := by decide +kernel
theorem d_Arr_rangeCheck_1 : decode prog_39_method_30_code 1 = .ok (.iload_n 2, 1) := by decide +kernel
theorem d_Arr_rangeCheck_2 : decode prog_39_method_30_code 2 = .ok (.if_icmp .le 44, 3) := by decide +kernel
theorem d_Arr_rangeCheck_5 : decode prog_39_method_30_code 5 = .ok (.new 43, 3) := by decide +kernel
theorem d_Arr_rangeCheck_46 : decode prog_39_method_30_code 46 = .ok (.iload_n 1, 1) := by decide +kernel
theorem d_Arr_rangeCheck_47 : decode prog_39_method_30_code 47 = .ok (.ifCond .ge 12, 3) := by decide +kernel
theorem d_Arr_rangeCheck_50 : decode prog_39_method_30_code 50 = .ok (.new 68, 3) := by decide +kernel
theorem d_Arr_rangeCheck_59 : decode prog_39_method_30_code 59 = .ok (.iload_n 2, 1) := by decide +kernel
theorem d_Arr_rangeCheck_60 : decode prog_39_method_30_code 60 = .ok (.iload_n 0, 1) := by decide +kernel
theorem d_Arr_rangeCheck_61 : decode prog_39_method_30_code 61 = .ok (.if_icmp .le 12, 3) := by decide +kernel
theorem d_Arr_rangeCheck_64 : decode prog_39_method_30_code 64 = .ok (.new 68, 3) := by decide +kernel
theorem d_Arr_rangeCheck_73 : decode prog_39_method_30_code 73 = .ok (.return_, 1) := by decide +kernel
def F_Arr_rangeCheck  (x0 : Int32) (x1 : Int32) (x2 : Int32) : Option (Unit) := if x1 ≤ x2 then (if 0 ≤ x1 then (if x2 ≤ x0 then (some ()) else (none)) else (none)) else (none)
set_option maxRecDepth 10000 in
set_option maxHeartbeats 4000000 in
theorem c_Arr_rangeCheck (l : Launch) (D : va_G) (τ : ClassId × ClassId × ClassId) (B : Nat) (σ0 : Sg) (ad : Nat → Nat) (x0 : Int32) (x1 : Int32) (x2 : Int32) (o : Unit) (h : F_Arr_rangeCheck x0 x1 x2 = some o) : MV l y_Arr_rangeCheck (Cond.code y_Arr_rangeCheck prog_39_method_30_code 3 none) 0 D τ B [.int x0, .int x1, .int x2] (wdC τ σ0 ad) (wdC τ σ0 ad) := by
  refine en_v (by decide) (Nat.le_of_ble_eq_true rfl) ?_
  intro p e R s m args below meth c H locs ls A E hret w hl
  have E : Cx p R s m args meth c prog_39_method_30_code 3 "java/util/Arrays" 0 D τ B A := E
  have hl : lv_has ls 3 [(0, .int x0), (1, .int x1), (2, .int x2)] := hl
  refine lv_iload_n E.x E.b d_Arr_rangeCheck_0 rfl (lv_at hl 1 rfl) ?_
  refine lv_iload_n E.x E.b d_Arr_rangeCheck_1 rfl (lv_at hl 2 rfl) ?_
  refine lv_icmp_le (tgt := 46) E.x E.b d_Arr_rangeCheck_2 (by decide) (fun c => ?_) (fun c => ?_)
  ·
    replace h := ifT c h
    refine lv_iload_n E.x E.b d_Arr_rangeCheck_46 rfl (lv_at hl 1 rfl) ?_
    refine lv_if_ge (tgt := 59) E.x E.b d_Arr_rangeCheck_47 (by decide) (fun c => ?_) (fun c => ?_)
    ·
      replace h := ifT c h
      refine lv_iload_n E.x E.b d_Arr_rangeCheck_59 rfl (lv_at hl 2 rfl) ?_
      refine lv_iload_n E.x E.b d_Arr_rangeCheck_60 rfl (lv_at hl 0 rfl) ?_
      refine lv_icmp_le (tgt := 73) E.x E.b d_Arr_rangeCheck_61 (by decide) (fun c => ?_) (fun c => ?_)
      ·
        replace h := ifT c h
        obtain rfl := Option.some.inj h
        exact rt_v E w hret d_Arr_rangeCheck_73
      ·
        replace h := ifF c h
        cases h
    ·
      replace h := ifF c h
      cases h
  ·
    replace h := ifF c h
    cases h
theorem clS_Arr_rangeCheck {p : Program} {l : Launch} {e : Env} {R : Room} {s : State} {m : MethodId} {args : Array Value} {below : List Frame} {meth : Method} {c : Code} {H : Heap} {locs : List Loc} {Q : State → Prop} {cc : ByteArray} {nL pc lev : Nat} {own : String} {D : va_G} {τ : ClassId × ClassId × ClassId} {B : Nat} {A : Nat → Prop} {σ : Sg} {ad : Nat → Nat} {ls : Array Slot} {rest : List Value} (E : Cx p R s m args meth c cc nL own lev D τ B A) (w : Wd s D A (wdC τ σ ad) H locs) {x0 : Int32} {x1 : Int32} {x2 : Int32} {o : Unit} (h : F_Arr_rangeCheck x0 x1 x2 = some o) {index : Nat} (hlk : Cond.methodLink own index y_Arr_rangeCheck ∈ tw) (hlev : 0 < lev) (hsz : ls.size = nL) (hr : (rest.map fun v => v.category).sum ≤ 8) (hd : decode cc pc = .ok (.invokestatic index, 3)) (kk : ∀ (H1 : Heap) (locs1 : List Loc), Wd s D A (wdC τ σ ad) H1 locs1 → W p l e R s m args below meth c H1 locs1 0 0 Q (F0 m (pc + 3) ls (rest))) : W p l e R s m args below meth c H locs 0 0 Q (F0 m pc ls (.int x2 :: .int x1 :: .int x0 :: rest)) :=
  cr_v w E.C (va_runS (As := [.int x0, .int x1, .int x2]) (rest := rest) E.fix (c_Arr_rangeCheck l D τ B σ ad x0 x1 x2 o h H.size) (va_cwS 3 E.w (tw_pre (tw_good k570) (l := [_, _, _]) (List.forall_mem_cons.mpr ⟨hlk, List.forall_mem_cons.mpr ⟨k569, List.forall_mem_cons.mpr ⟨k3, fun _ h => absurd h List.not_mem_nil⟩⟩⟩)) rfl rfl rfl (by decide +kernel) (E.rm hlev (by decide))) (wd_pre w E.C [.int x0, .int x1, .int x2]) rfl rfl hsz rfl (lv_room hr) hd ⟨Nat.zero_le _, Nat.zero_le _⟩) kk

theorem d_Arr_fill1_0 : decode prog_39_method_104_code 0 = .ok (.aload_n 0, 1) := by decide +kernel
theorem d_Arr_fill1_1 : decode prog_39_method_104_code 1 = .ok (.arraylength, 1) := by decide +kernel
theorem d_Arr_fill1_2 : decode prog_39_method_104_code 2 = .ok (.iload_n 1, 1) := by decide +kernel
theorem d_Arr_fill1_3 : decode prog_39_method_104_code 3 = .ok (.iload_n 2, 1) := by decide +kernel
theorem d_Arr_fill1_4 : decode prog_39_method_104_code 4 = .ok (.invokestatic 13, 3) := by decide +kernel
theorem d_Arr_fill1_7 : decode prog_39_method_104_code 7 = .ok (.iload_n 1, 1) := by decide +kernel
theorem d_Arr_fill1_8 : decode prog_39_method_104_code 8 = .ok (.istore 4, 2) := by decide +kernel
theorem d_Arr_fill1_10 : decode prog_39_method_104_code 10 = .ok (.iload 4, 2) := by decide +kernel
theorem d_Arr_fill1_12 : decode prog_39_method_104_code 12 = .ok (.iload_n 2, 1) := by decide +kernel
theorem d_Arr_fill1_13 : decode prog_39_method_104_code 13 = .ok (.if_icmp .ge 14, 3) := by decide +kernel
theorem d_Arr_fill1_16 : decode prog_39_method_104_code 16 = .ok (.aload_n 0, 1) := by decide +kernel
theorem d_Arr_fill1_17 : decode prog_39_method_104_code 17 = .ok (.iload 4, 2) := by decide +kernel
theorem d_Arr_fill1_19 : decode prog_39_method_104_code 19 = .ok (.iload_n 3, 1) := by decide +kernel
theorem d_Arr_fill1_20 : decode prog_39_method_104_code 20 = .ok (.iastore, 1) := by decide +kernel
theorem d_Arr_fill1_21 : decode prog_39_method_104_code 21 = .ok (.iinc 4 1, 3) := by decide +kernel
theorem d_Arr_fill1_24 : decode prog_39_method_104_code 24 = .ok (.goto (-14), 3) := by decide +kernel
theorem d_Arr_fill1_27 : decode prog_39_method_104_code 27 = .ok (.return_, 1) := by decide +kernel
def L_Arr_fill1_10 : Nat → Sg → Nat → Int32 → Int32 → Int32 → Option (Sg)
  | 0, _, _, _, _, _ => none
  | n + 1, σ, v0, v2, v3, v4 => ck (v0 < 47) (if v2 ≤ v4 then (some σ) else (ck (inb v4 (lenC σ v0)) (lt (sA σ v0 (upd (σ.2.2.1 v0) v4.toNatClampNeg v3)) (fun σ7 => lt (v4 + 1) (fun y8 => L_Arr_fill1_10 n σ7 v0 v2 v3 y8)))))
set_option maxRecDepth 10000 in
set_option maxHeartbeats 4000000 in
theorem lt_Arr_fill1_10 {p : Program} {l : Launch} {e : Env} {R : Room} {s : State} {m : MethodId} {args : Array Value} {below : List Frame} {meth : Method} {c : Code} {D : va_G} {τ : ClassId × ClassId × ClassId} {B : Nat} {A : Nat → Prop} {ad : Nat → Nat} (E : Cx p R s m args meth c prog_39_method_104_code 5 "java/util/Arrays" 1 D τ B A) (hret : meth.sig.returnType = none) (o : Sg) : ∀ (n : Nat) (σ : Sg) (v0 : Nat) (v2 : Int32) (v3 : Int32) (v4 : Int32) (H : Heap) (locs : List Loc) (ls : Array Slot), L_Arr_fill1_10 n σ v0 v2 v3 v4 = some o → Wd s D A (wdC τ σ ad) H locs → lv_has ls 5 [(0, .ref (ad v0)), (2, .int v2), (3, .int v3), (4, .int v4)] → W p l e R s m args below meth c H locs 0 0 (QV below args s A D τ (wdC τ o ad)) (F0 m 10 ls []) := by
  intro n
  induction n with
  | zero =>
    intro σ v0 v2 v3 v4 H locs ls h w hl
    cases h
  | succ n hr_10 =>
    intro σ v0 v2 v3 v4 H locs ls h w hl
    obtain ⟨c5, h⟩ := ck_some h
    refine lv_iload E.x E.b d_Arr_fill1_10 (lv_at hl 3 rfl) ?_
    refine lv_iload_n E.x E.b d_Arr_fill1_12 rfl (lv_at hl 1 rfl) ?_
    refine lv_icmp_ge (tgt := 27) E.x E.b d_Arr_fill1_13 (by decide) (fun c => ?_) (fun c => ?_)
    ·
      replace h := ifT c h
      obtain rfl := Option.some.inj h
      exact rt_v E w hret d_Arr_fill1_27
    ·
      replace h := ifF c h
      refine lv_aload_n E.x E.b d_Arr_fill1_16 rfl (lv_at hl 0 rfl) ?_
      refine lv_iload E.x E.b d_Arr_fill1_17 (lv_at hl 3 rfl) ?_
      refine lv_iload_n E.x E.b d_Arr_fill1_19 rfl (lv_at hl 2 rfl) ?_
      obtain ⟨c6, h⟩ := ck_some h
      obtain ⟨σ7, e_σ7, h⟩ := lt_some h
      refine iasC E w (k := v0) c5 c6 e_σ7 d_Arr_fill1_20 (fun H locs w => ?_)
      obtain ⟨y8, e_y8, h⟩ := lt_some h
      refine lv_iinc (v := y8) (lv' := [(4, .int y8), (0, .ref (ad v0)), (2, .int v2), (3, .int v3)]) E.x E.b d_Arr_fill1_21 hl (k := 3) rfl (e_y8) (by decide) rfl (fun ls hl => ?_)
      refine lv_goto (tgt := 10) E.x E.b d_Arr_fill1_24 (by decide) ?_
      exact hr_10 σ7 v0 v2 v3 y8 _ _ _ h w (lv_sub hl [1, 2, 3, 0] rfl)
def F_Arr_fill1 (σ : Sg) (ar0 : Nat) (x1 : Int32) (x2 : Int32) (x3 : Int32) : Option (Sg) := ck (ar0 < 47) (bd (F_Arr_rangeCheck (Int32.ofNat (lenC σ ar0)) x1 x2) (fun o10 => L_Arr_fill1_10 100000 σ ar0 x2 x3 x1))
set_option maxRecDepth 10000 in
set_option maxHeartbeats 4000000 in
theorem c_Arr_fill1 (l : Launch) (D : va_G) (τ : ClassId × ClassId × ClassId) (B : Nat) (σ : Sg) (ad : Nat → Nat) (ar0 : Nat) (x1 : Int32) (x2 : Int32) (x3 : Int32) (o : Sg) (h : F_Arr_fill1 σ ar0 x1 x2 x3 = some o) : MV l y_Arr_fill1 (Cond.code y_Arr_fill1 prog_39_method_104_code 5 none) 1 D τ B [.ref (ad ar0), .int x1, .int x2, .int x3] (wdC τ σ ad) (wdC τ o ad) := by
  refine en_v (by decide) (Nat.le_of_ble_eq_true rfl) ?_
  intro p e R s m args below meth c H locs ls A E hret w hl
  have E : Cx p R s m args meth c prog_39_method_104_code 5 "java/util/Arrays" 1 D τ B A := E
  have hl : lv_has ls 5 [(0, .ref (ad ar0)), (1, .int x1), (2, .int x2), (3, .int x3)] := hl
  obtain ⟨c9, h⟩ := ck_some h
  refine lv_aload_n E.x E.b d_Arr_fill1_0 rfl (lv_at hl 0 rfl) ?_
  refine alenC E w (k := ar0) c9 d_Arr_fill1_1 ?_
  refine lv_iload_n E.x E.b d_Arr_fill1_2 rfl (lv_at hl 1 rfl) ?_
  refine lv_iload_n E.x E.b d_Arr_fill1_3 rfl (lv_at hl 2 rfl) ?_
  obtain ⟨o10, h_o10, h⟩ := bd_some h
  refine clS_Arr_rangeCheck E w (x0 := (Int32.ofNat (lenC σ ar0))) (x1 := x1) (x2 := x2) h_o10 k568 (by decide) hl.1 (Nat.le_of_ble_eq_true rfl) d_Arr_fill1_4 (fun H locs w => ?_)
  refine lv_iload_n E.x E.b d_Arr_fill1_7 rfl (lv_at hl 1 rfl) ?_
  refine lv_istore (lv' := [(4, .int x1), (0, .ref (ad ar0)), (1, .int x1), (2, .int x2), (3, .int x3)]) E.x E.b d_Arr_fill1_8 hl (by decide) rfl (fun ls hl => ?_)
  exact lt_Arr_fill1_10 E hret o 100000 σ ar0 x2 x3 x1 _ _ _ h w (lv_sub hl [1, 3, 4, 0] rfl)
theorem clS_Arr_fill1 {p : Program} {l : Launch} {e : Env} {R : Room} {s : State} {m : MethodId} {args : Array Value} {below : List Frame} {meth : Method} {c : Code} {H : Heap} {locs : List Loc} {Q : State → Prop} {cc : ByteArray} {nL pc lev : Nat} {own : String} {D : va_G} {τ : ClassId × ClassId × ClassId} {B : Nat} {A : Nat → Prop} {σ : Sg} {ad : Nat → Nat} {ls : Array Slot} {rest : List Value} (E : Cx p R s m args meth c cc nL own lev D τ B A) (w : Wd s D A (wdC τ σ ad) H locs) {ar0 : Nat} {x1 : Int32} {x2 : Int32} {x3 : Int32} {o : Sg} (h : F_Arr_fill1 σ ar0 x1 x2 x3 = some o) {index : Nat} (hlk : Cond.methodLink own index y_Arr_fill1 ∈ tw) (hlev : 1 < lev) (hsz : ls.size = nL) (hr : (rest.map fun v => v.category).sum ≤ 8) (hd : decode cc pc = .ok (.invokestatic index, 3)) (kk : ∀ (H1 : Heap) (locs1 : List Loc), Wd s D A (wdC τ o ad) H1 locs1 → W p l e R s m args below meth c H1 locs1 0 0 Q (F0 m (pc + 3) ls (rest))) : W p l e R s m args below meth c H locs 0 0 Q (F0 m pc ls (.int x3 :: .int x2 :: .int x1 :: .ref (ad ar0) :: rest)) :=
  cr_v w E.C (va_runS (As := [.ref (ad ar0), .int x1, .int x2, .int x3]) (rest := rest) E.fix (c_Arr_fill1 l D τ B σ ad ar0 x1 x2 x3 o h H.size) (va_cwS 4 E.w (tw_pre (tw_good k567) (l := [_, _, _]) (List.forall_mem_cons.mpr ⟨hlk, List.forall_mem_cons.mpr ⟨k566, List.forall_mem_cons.mpr ⟨k3, fun _ h => absurd h List.not_mem_nil⟩⟩⟩)) rfl rfl rfl (by decide +kernel) (E.rm hlev (by decide))) (wd_pre w E.C [.ref (ad ar0), .int x1, .int x2, .int x3]) rfl rfl hsz rfl (lv_room hr) hd ⟨Nat.zero_le _, Nat.zero_le _⟩) kk

theorem d_DM_word_0 : decode prog_1_method_3_code 0 = .ok (.iload_n 1, 1) := by decide +kernel
theorem d_DM_word_1 : decode prog_1_method_3_code 1 = .ok (.ifCond .lt 10, 3) := by decide +kernel
theorem d_DM_word_4 : decode prog_1_method_3_code 4 = .ok (.iload_n 1, 1) := by decide +kernel
theorem d_DM_word_5 : decode prog_1_method_3_code 5 = .ok (.sipush 4096, 3) := by decide +kernel
theorem d_DM_word_8 : decode prog_1_method_3_code 8 = .ok (.if_icmp .lt 13, 3) := by decide +kernel
theorem d_DM_word_11 : decode prog_1_method_3_code 11 = .ok (.new 85, 3) := by decide +kernel
theorem d_DM_word_21 : decode prog_1_method_3_code 21 = .ok (.aload_n 0, 1) := by decide +kernel
theorem d_DM_word_22 : decode prog_1_method_3_code 22 = .ok (.getfield 9, 3) := by decide +kernel
theorem d_DM_word_25 : decode prog_1_method_3_code 25 = .ok (.iload_n 1, 1) := by decide +kernel
theorem d_DM_word_26 : decode prog_1_method_3_code 26 = .ok (.iaload, 1) := by decide +kernel
theorem d_DM_word_27 : decode prog_1_method_3_code 27 = .ok (.istore_n 3, 1) := by decide +kernel
theorem d_DM_word_28 : decode prog_1_method_3_code 28 = .ok (.aload_n 0, 1) := by decide +kernel
theorem d_DM_word_29 : decode prog_1_method_3_code 29 = .ok (.getfield 9, 3) := by decide +kernel
theorem d_DM_word_32 : decode prog_1_method_3_code 32 = .ok (.iload_n 1, 1) := by decide +kernel
theorem d_DM_word_33 : decode prog_1_method_3_code 33 = .ok (.iload_n 2, 1) := by decide +kernel
theorem d_DM_word_34 : decode prog_1_method_3_code 34 = .ok (.iastore, 1) := by decide +kernel
theorem d_DM_word_35 : decode prog_1_method_3_code 35 = .ok (.iload_n 3, 1) := by decide +kernel
theorem d_DM_word_36 : decode prog_1_method_3_code 36 = .ok (.ireturn, 1) := by decide +kernel
def F_DM_word_11 (σ : Sg) : Option (Sg × Int32) := none
set_option maxRecDepth 10000 in
set_option maxHeartbeats 4000000 in
theorem bt_DM_word_11 {p : Program} {l : Launch} {e : Env} {R : Room} {s : State} {m : MethodId} {args : Array Value} {below : List Frame} {meth : Method} {c : Code} {D : va_G} {τ : ClassId × ClassId × ClassId} {B : Nat} {A : Nat → Prop} {ad : Nat → Nat} (E : Cx p R s m args meth c prog_1_method_3_code 4 "DrawingMachine" 0 D τ B A) (hret : meth.sig.returnType = (some .int)) (o : Sg × Int32) (σ : Sg) (h : F_DM_word_11 σ = some o) {H : Heap} {locs : List Loc} {ls : Array Slot} (w : Wd s D A (wdC τ σ ad) H locs) (hl : lv_has ls 4 []) : W p l e R s m args below meth c H locs 0 0 (QI below args s A D τ (wdC τ o.1 ad) o.2) (F0 m 11 ls []) := by
  cases h
def F_DM_word (σ : Sg) (x0 : Int32) (x1 : Int32) : Option (Sg × Int32) := if x0 < 0 then (F_DM_word_11 σ) else (if x0 < 4096 then (ck (inb x0 4096) (lt (σ.2.2.1 0 x0.toNatClampNeg) (fun y6 => ck (inb x0 4096) (lt (sA σ 0 (upd (σ.2.2.1 0) x0.toNatClampNeg x1)) (fun σ8 => some (σ8, y6)))))) else (F_DM_word_11 σ))
set_option maxRecDepth 10000 in
set_option maxHeartbeats 4000000 in
theorem c_DM_word (l : Launch) (D : va_G) (τ : ClassId × ClassId × ClassId) (B : Nat) (σ : Sg) (ad : Nat → Nat) (x0 : Int32) (x1 : Int32) (o : Sg × Int32) (h : F_DM_word σ x0 x1 = some o) : MI l y_DM_word (Cond.code y_DM_word prog_1_method_3_code 4 (some .int)) 0 D τ B [.ref (ad 56), .int x0, .int x1] (wdC τ σ ad) (wdC τ o.1 ad) o.2 := by
  refine en_i (by decide) (Nat.le_of_ble_eq_true rfl) ?_
  intro p e R s m args below meth c H locs ls A E hret w hl
  have E : Cx p R s m args meth c prog_1_method_3_code 4 "DrawingMachine" 0 D τ B A := E
  have hl : lv_has ls 4 [(0, .ref (ad 56)), (1, .int x0), (2, .int x1)] := hl
  refine lv_iload_n E.x E.b d_DM_word_0 rfl (lv_at hl 1 rfl) ?_
  refine lv_if_lt (tgt := 11) E.x E.b d_DM_word_1 (by decide) (fun c => ?_) (fun c => ?_)
  ·
    replace h := ifT c h
    exact bt_DM_word_11 E hret o σ h w (lv_sub hl [] rfl)
  ·
    replace h := ifF c h
    refine lv_iload_n E.x E.b d_DM_word_4 rfl (lv_at hl 1 rfl) ?_
    refine lv_sipush (v := 4096) E.x E.b d_DM_word_5 (by decide) ?_
    refine lv_icmp_lt (tgt := 21) E.x E.b d_DM_word_8 (by decide) (fun c => ?_) (fun c => ?_)
    ·
      replace h := ifT c h
      refine lv_aload_n E.x E.b d_DM_word_21 rfl (lv_at hl 0 rfl) ?_
      refine gC_DM_memory E w k430 d_DM_word_22 ?_
      refine lv_iload_n E.x E.b d_DM_word_25 rfl (lv_at hl 1 rfl) ?_
      obtain ⟨c5, h⟩ := ck_some h
      refine ialC E w (k := 0) (by decide) c5 d_DM_word_26 ?_
      obtain ⟨y6, e_y6, h⟩ := lt_some h
      refine wi_e (v := y6) e_y6 ?_
      refine lv_istore_n (lv' := [(3, .int y6), (0, .ref (ad 56)), (1, .int x0), (2, .int x1)]) E.x E.b d_DM_word_27 rfl hl (by decide) rfl (fun ls hl => ?_)
      refine lv_aload_n E.x E.b d_DM_word_28 rfl (lv_at hl 1 rfl) ?_
      refine gC_DM_memory E w k430 d_DM_word_29 ?_
      refine lv_iload_n E.x E.b d_DM_word_32 rfl (lv_at hl 2 rfl) ?_
      refine lv_iload_n E.x E.b d_DM_word_33 rfl (lv_at hl 3 rfl) ?_
      obtain ⟨c7, h⟩ := ck_some h
      obtain ⟨σ8, e_σ8, h⟩ := lt_some h
      refine iasC E w (k := 0) (by decide) c7 e_σ8 d_DM_word_34 (fun H locs w => ?_)
      refine lv_iload_n E.x E.b d_DM_word_35 rfl (lv_at hl 0 rfl) ?_
      obtain rfl := Option.some.inj h
      exact rt_i E w hret d_DM_word_36
    ·
      replace h := ifF c h
      exact bt_DM_word_11 E hret o σ h w (lv_sub hl [] rfl)

theorem d_DM_look_0 : decode prog_1_method_4_code 0 = .ok (.iload_n 1, 1) := by decide +kernel
theorem d_DM_look_1 : decode prog_1_method_4_code 1 = .ok (.ifCond .lt 10, 3) := by decide +kernel
theorem d_DM_look_4 : decode prog_1_method_4_code 4 = .ok (.iload_n 1, 1) := by decide +kernel
theorem d_DM_look_5 : decode prog_1_method_4_code 5 = .ok (.sipush 4096, 3) := by decide +kernel
theorem d_DM_look_8 : decode prog_1_method_4_code 8 = .ok (.if_icmp .lt 13, 3) := by decide +kernel
theorem d_DM_look_11 : decode prog_1_method_4_code 11 = .ok (.new 85, 3) := by decide +kernel
theorem d_DM_look_21 : decode prog_1_method_4_code 21 = .ok (.aload_n 0, 1) := by decide +kernel
theorem d_DM_look_22 : decode prog_1_method_4_code 22 = .ok (.getfield 9, 3) := by decide +kernel
theorem d_DM_look_25 : decode prog_1_method_4_code 25 = .ok (.iload_n 1, 1) := by decide +kernel
theorem d_DM_look_26 : decode prog_1_method_4_code 26 = .ok (.iaload, 1) := by decide +kernel
theorem d_DM_look_27 : decode prog_1_method_4_code 27 = .ok (.ireturn, 1) := by decide +kernel
def F_DM_look_11 (σ : Sg) : Option (Int32) := none
set_option maxRecDepth 10000 in
set_option maxHeartbeats 4000000 in
theorem bt_DM_look_11 {p : Program} {l : Launch} {e : Env} {R : Room} {s : State} {m : MethodId} {args : Array Value} {below : List Frame} {meth : Method} {c : Code} {D : va_G} {τ : ClassId × ClassId × ClassId} {B : Nat} {A : Nat → Prop} {ad : Nat → Nat} (E : Cx p R s m args meth c prog_1_method_4_code 2 "DrawingMachine" 0 D τ B A) (hret : meth.sig.returnType = (some .int)) (o : Int32) (σ : Sg) (h : F_DM_look_11 σ = some o) {H : Heap} {locs : List Loc} {ls : Array Slot} (w : Wd s D A (wdC τ σ ad) H locs) (hl : lv_has ls 2 []) : W p l e R s m args below meth c H locs 0 0 (QI below args s A D τ (wdC τ σ ad) o) (F0 m 11 ls []) := by
  cases h
def F_DM_look (σ : Sg) (x0 : Int32) : Option (Int32) := if x0 < 0 then (F_DM_look_11 σ) else (if x0 < 4096 then (ck (inb x0 4096) (some (σ.2.2.1 0 x0.toNatClampNeg))) else (F_DM_look_11 σ))
set_option maxRecDepth 10000 in
set_option maxHeartbeats 4000000 in
theorem c_DM_look (l : Launch) (D : va_G) (τ : ClassId × ClassId × ClassId) (B : Nat) (σ : Sg) (ad : Nat → Nat) (x0 : Int32) (o : Int32) (h : F_DM_look σ x0 = some o) : MI l y_DM_look (Cond.code y_DM_look prog_1_method_4_code 2 (some .int)) 0 D τ B [.ref (ad 56), .int x0] (wdC τ σ ad) (wdC τ σ ad) o := by
  refine en_i (by decide) (Nat.le_of_ble_eq_true rfl) ?_
  intro p e R s m args below meth c H locs ls A E hret w hl
  have E : Cx p R s m args meth c prog_1_method_4_code 2 "DrawingMachine" 0 D τ B A := E
  have hl : lv_has ls 2 [(0, .ref (ad 56)), (1, .int x0)] := hl
  refine lv_iload_n E.x E.b d_DM_look_0 rfl (lv_at hl 1 rfl) ?_
  refine lv_if_lt (tgt := 11) E.x E.b d_DM_look_1 (by decide) (fun c => ?_) (fun c => ?_)
  ·
    replace h := ifT c h
    exact bt_DM_look_11 E hret o σ h w (lv_sub hl [] rfl)
  ·
    replace h := ifF c h
    refine lv_iload_n E.x E.b d_DM_look_4 rfl (lv_at hl 1 rfl) ?_
    refine lv_sipush (v := 4096) E.x E.b d_DM_look_5 (by decide) ?_
    refine lv_icmp_lt (tgt := 21) E.x E.b d_DM_look_8 (by decide) (fun c => ?_) (fun c => ?_)
    ·
      replace h := ifT c h
      refine lv_aload_n E.x E.b d_DM_look_21 rfl (lv_at hl 0 rfl) ?_
      refine gC_DM_memory E w k430 d_DM_look_22 ?_
      refine lv_iload_n E.x E.b d_DM_look_25 rfl (lv_at hl 1 rfl) ?_
      obtain ⟨c2, h⟩ := ck_some h
      refine ialC E w (k := 0) (by decide) c2 d_DM_look_26 ?_
      obtain rfl := Option.some.inj h
      exact rt_i E w hret d_DM_look_27
    ·
      replace h := ifF c h
      exact bt_DM_look_11 E hret o σ h w (lv_sub hl [] rfl)

theorem d_Cou_add_0 : decode prog_3_method_3_code 0 = .ok (.aload_n 0, 1) := by decide +kernel
theorem d_Cou_add_1 : decode prog_3_method_3_code 1 = .ok (.getfield 31, 3) := by decide +kernel
theorem d_Cou_add_4 : decode prog_3_method_3_code 4 = .ok (.aload_n 0, 1) := by decide +kernel
theorem d_Cou_add_5 : decode prog_3_method_3_code 5 = .ok (.getfield 25, 3) := by decide +kernel
theorem d_Cou_add_8 : decode prog_3_method_3_code 8 = .ok (.arraylength, 1) := by decide +kernel
theorem d_Cou_add_9 : decode prog_3_method_3_code 9 = .ok (.if_icmp .ge 23, 3) := by decide +kernel
theorem d_Cou_add_12 : decode prog_3_method_3_code 12 = .ok (.aload_n 0, 1) := by decide +kernel
theorem d_Cou_add_13 : decode prog_3_method_3_code 13 = .ok (.getfield 25, 3) := by decide +kernel
theorem d_Cou_add_16 : decode prog_3_method_3_code 16 = .ok (.aload_n 0, 1) := by decide +kernel
theorem d_Cou_add_17 : decode prog_3_method_3_code 17 = .ok (.getfield 31, 3) := by decide +kernel
theorem d_Cou_add_20 : decode prog_3_method_3_code 20 = .ok (.iload_n 1, 1) := by decide +kernel
theorem d_Cou_add_21 : decode prog_3_method_3_code 21 = .ok (.iastore, 1) := by decide +kernel
theorem d_Cou_add_22 : decode prog_3_method_3_code 22 = .ok (.aload_n 0, 1) := by decide +kernel
theorem d_Cou_add_23 : decode prog_3_method_3_code 23 = .ok (.dup, 1) := by decide +kernel
theorem d_Cou_add_24 : decode prog_3_method_3_code 24 = .ok (.getfield 31, 3) := by decide +kernel
theorem d_Cou_add_27 : decode prog_3_method_3_code 27 = .ok (.iconst 1, 1) := by decide +kernel
theorem d_Cou_add_28 : decode prog_3_method_3_code 28 = .ok (.iadd, 1) := by decide +kernel
theorem d_Cou_add_29 : decode prog_3_method_3_code 29 = .ok (.putfield 31, 3) := by decide +kernel
theorem d_Cou_add_32 : decode prog_3_method_3_code 32 = .ok (.return_, 1) := by decide +kernel
def F_Cou_add_32 (σ : Sg) : Option (Sg) := some σ
set_option maxRecDepth 10000 in
set_option maxHeartbeats 4000000 in
theorem bt_Cou_add_32 {p : Program} {l : Launch} {e : Env} {R : Room} {s : State} {m : MethodId} {args : Array Value} {below : List Frame} {meth : Method} {c : Code} {D : va_G} {τ : ClassId × ClassId × ClassId} {B : Nat} {A : Nat → Prop} {ad : Nat → Nat} (E : Cx p R s m args meth c prog_3_method_3_code 2 "DrawingMachine$Course" 0 D τ B A) (hret : meth.sig.returnType = none) (o : Sg) (σ : Sg) (h : F_Cou_add_32 σ = some o) {H : Heap} {locs : List Loc} {ls : Array Slot} (w : Wd s D A (wdC τ σ ad) H locs) (hl : lv_has ls 2 []) : W p l e R s m args below meth c H locs 0 0 (QV below args s A D τ (wdC τ o ad)) (F0 m 32 ls []) := by
  obtain rfl := Option.some.inj h
  exact rt_v E w hret d_Cou_add_32
def F_Cou_add (σ : Sg) (x0 : Int32) : Option (Sg) := if (Int32.ofNat (lenC σ 7)) ≤ (σ.1 2) then (F_Cou_add_32 σ) else (ck (inb (σ.1 2) (lenC σ 7)) (lt (sA σ 7 (upd (σ.2.2.1 7) (σ.1 2).toNatClampNeg x0)) (fun σ5 => lt (sI σ5 2 ((σ5.1 2) + 1)) (fun σ6 => F_Cou_add_32 σ6))))
set_option maxRecDepth 10000 in
set_option maxHeartbeats 4000000 in
theorem c_Cou_add (l : Launch) (D : va_G) (τ : ClassId × ClassId × ClassId) (B : Nat) (σ : Sg) (ad : Nat → Nat) (x0 : Int32) (o : Sg) (h : F_Cou_add σ x0 = some o) : MV l y_Cou_add (Cond.code y_Cou_add prog_3_method_3_code 2 none) 0 D τ B [.ref (ad 59), .int x0] (wdC τ σ ad) (wdC τ o ad) := by
  refine en_v (by decide) (Nat.le_of_ble_eq_true rfl) ?_
  intro p e R s m args below meth c H locs ls A E hret w hl
  have E : Cx p R s m args meth c prog_3_method_3_code 2 "DrawingMachine$Course" 0 D τ B A := E
  have hl : lv_has ls 2 [(0, .ref (ad 59)), (1, .int x0)] := hl
  refine lv_aload_n E.x E.b d_Cou_add_0 rfl (lv_at hl 0 rfl) ?_
  refine gC_Cou_words E w k113 d_Cou_add_1 ?_
  refine lv_aload_n E.x E.b d_Cou_add_4 rfl (lv_at hl 0 rfl) ?_
  refine gC_Cou_stream E w k134 d_Cou_add_5 ?_
  refine alenC E w (k := 7) (by decide) d_Cou_add_8 ?_
  refine lv_icmp_ge (tgt := 32) E.x E.b d_Cou_add_9 (by decide) (fun c => ?_) (fun c => ?_)
  ·
    replace h := ifT c h
    exact bt_Cou_add_32 E hret o σ h w (lv_sub hl [] rfl)
  ·
    replace h := ifF c h
    refine lv_aload_n E.x E.b d_Cou_add_12 rfl (lv_at hl 0 rfl) ?_
    refine gC_Cou_stream E w k134 d_Cou_add_13 ?_
    refine lv_aload_n E.x E.b d_Cou_add_16 rfl (lv_at hl 0 rfl) ?_
    refine gC_Cou_words E w k113 d_Cou_add_17 ?_
    refine lv_iload_n E.x E.b d_Cou_add_20 rfl (lv_at hl 1 rfl) ?_
    obtain ⟨c4, h⟩ := ck_some h
    obtain ⟨σ5, e_σ5, h⟩ := lt_some h
    refine iasC E w (k := 7) (by decide) c4 e_σ5 d_Cou_add_21 (fun H locs w => ?_)
    refine lv_aload_n E.x E.b d_Cou_add_22 rfl (lv_at hl 0 rfl) ?_
    refine lv_dup E.x E.b d_Cou_add_23 rfl ?_
    refine gC_Cou_words E w k113 d_Cou_add_24 ?_
    refine lv_iconst (v := 1) E.x E.b d_Cou_add_27 (by decide) ?_
    refine lv_iadd E.x E.b d_Cou_add_28 ?_
    obtain ⟨σ6, e_σ6, h⟩ := lt_some h
    refine pC_Cou_words E w k113 e_σ6 d_Cou_add_29 (fun H locs w => ?_)
    exact bt_Cou_add_32 E hret o σ6 h w (lv_sub hl [] rfl)

theorem d_DM_end_0 : decode prog_1_method_6_code 0 = .ok (.iload_n 1, 1) := by decide +kernel
theorem d_DM_end_1 : decode prog_1_method_6_code 1 = .ok (.ifCond .lt 14, 3) := by decide +kernel
theorem d_DM_end_4 : decode prog_1_method_6_code 4 = .ok (.iload_n 1, 1) := by decide +kernel
theorem d_DM_end_5 : decode prog_1_method_6_code 5 = .ok (.aload_n 0, 1) := by decide +kernel
theorem d_DM_end_6 : decode prog_1_method_6_code 6 = .ok (.getfield 34, 3) := by decide +kernel
theorem d_DM_end_9 : decode prog_1_method_6_code 9 = .ok (.getfield 90, 3) := by decide +kernel
theorem d_DM_end_12 : decode prog_1_method_6_code 12 = .ok (.if_icmp .le 13, 3) := by decide +kernel
theorem d_DM_end_15 : decode prog_1_method_6_code 15 = .ok (.new 74, 3) := by decide +kernel
theorem d_DM_end_25 : decode prog_1_method_6_code 25 = .ok (.aload_n 0, 1) := by decide +kernel
theorem d_DM_end_26 : decode prog_1_method_6_code 26 = .ok (.getfield 34, 3) := by decide +kernel
theorem d_DM_end_29 : decode prog_1_method_6_code 29 = .ok (.iload_n 1, 1) := by decide +kernel
theorem d_DM_end_30 : decode prog_1_method_6_code 30 = .ok (.putfield 90, 3) := by decide +kernel
theorem d_DM_end_33 : decode prog_1_method_6_code 33 = .ok (.aload_n 0, 1) := by decide +kernel
theorem d_DM_end_34 : decode prog_1_method_6_code 34 = .ok (.invokevirtual 108, 3) := by decide +kernel
theorem d_DM_end_37 : decode prog_1_method_6_code 37 = .ok (.return_, 1) := by decide +kernel
def F_DM_end_15 (σ : Sg) : Option (Sg) := none
set_option maxRecDepth 10000 in
set_option maxHeartbeats 4000000 in
theorem bt_DM_end_15 {p : Program} {l : Launch} {e : Env} {R : Room} {s : State} {m : MethodId} {args : Array Value} {below : List Frame} {meth : Method} {c : Code} {D : va_G} {τ : ClassId × ClassId × ClassId} {B : Nat} {A : Nat → Prop} {ad : Nat → Nat} (E : Cx p R s m args meth c prog_1_method_6_code 2 "DrawingMachine" 2 D τ B A) (hret : meth.sig.returnType = none) (o : Sg) (σ : Sg) (h : F_DM_end_15 σ = some o) {H : Heap} {locs : List Loc} {ls : Array Slot} (w : Wd s D A (wdC τ σ ad) H locs) (hl : lv_has ls 2 []) : W p l e R s m args below meth c H locs 0 0 (QV below args s A D τ (wdC τ o ad)) (F0 m 15 ls []) := by
  cases h
def F_DM_end (σ : Sg) (x0 : Int32) : Option (Sg) := if x0 < 0 then (F_DM_end_15 σ) else (if x0 ≤ (σ.1 2) then (lt (sI σ 2 x0) (fun σ3 => bd (F_DM_beginAnew σ3) (fun o4 => some o4))) else (F_DM_end_15 σ))
set_option maxRecDepth 10000 in
set_option maxHeartbeats 4000000 in
theorem c_DM_end (l : Launch) (D : va_G) (τ : ClassId × ClassId × ClassId) (B : Nat) (σ : Sg) (ad : Nat → Nat) (x0 : Int32) (o : Sg) (h : F_DM_end σ x0 = some o) : MV l y_DM_end (Cond.code y_DM_end prog_1_method_6_code 2 none) 2 D τ B [.ref (ad 56), .int x0] (wdC τ σ ad) (wdC τ o ad) := by
  refine en_v (by decide) (Nat.le_of_ble_eq_true rfl) ?_
  intro p e R s m args below meth c H locs ls A E hret w hl
  have E : Cx p R s m args meth c prog_1_method_6_code 2 "DrawingMachine" 2 D τ B A := E
  have hl : lv_has ls 2 [(0, .ref (ad 56)), (1, .int x0)] := hl
  refine lv_iload_n E.x E.b d_DM_end_0 rfl (lv_at hl 1 rfl) ?_
  refine lv_if_lt (tgt := 15) E.x E.b d_DM_end_1 (by decide) (fun c => ?_) (fun c => ?_)
  ·
    replace h := ifT c h
    exact bt_DM_end_15 E hret o σ h w (lv_sub hl [] rfl)
  ·
    replace h := ifF c h
    refine lv_iload_n E.x E.b d_DM_end_4 rfl (lv_at hl 1 rfl) ?_
    refine lv_aload_n E.x E.b d_DM_end_5 rfl (lv_at hl 0 rfl) ?_
    refine gC_DM_course E w k433 d_DM_end_6 ?_
    refine gC_Cou_words E w k114 d_DM_end_9 ?_
    refine lv_icmp_le (tgt := 25) E.x E.b d_DM_end_12 (by decide) (fun c => ?_) (fun c => ?_)
    ·
      replace h := ifT c h
      refine lv_aload_n E.x E.b d_DM_end_25 rfl (lv_at hl 0 rfl) ?_
      refine gC_DM_course E w k433 d_DM_end_26 ?_
      refine lv_iload_n E.x E.b d_DM_end_29 rfl (lv_at hl 1 rfl) ?_
      obtain ⟨σ3, e_σ3, h⟩ := lt_some h
      refine pC_Cou_words E w k114 e_σ3 d_DM_end_30 (fun H locs w => ?_)
      refine lv_aload_n E.x E.b d_DM_end_33 rfl (lv_at hl 0 rfl) ?_
      obtain ⟨o4, h_o4, h⟩ := bd_some h
      refine clV_DM_beginAnew E w h_o4 k462 (by decide) hl.1 (Nat.le_of_ble_eq_true rfl) d_DM_end_34 (fun H locs w => ?_)
      obtain rfl := Option.some.inj h
      exact rt_v E w hret d_DM_end_37
    ·
      replace h := ifF c h
      exact bt_DM_end_15 E hret o σ h w (lv_sub hl [] rfl)

theorem d_Pic_rowOf_0 : decode prog_6_method_3_code 0 = .ok (.iload_n 1, 1) := by decide +kernel
theorem d_Pic_rowOf_1 : decode prog_6_method_3_code 1 = .ok (.ifCond .ne 10, 3) := by decide +kernel
theorem d_Pic_rowOf_4 : decode prog_6_method_3_code 4 = .ok (.aload_n 0, 1) := by decide +kernel
theorem d_Pic_rowOf_5 : decode prog_6_method_3_code 5 = .ok (.getfield 18, 3) := by decide +kernel
theorem d_Pic_rowOf_8 : decode prog_6_method_3_code 8 = .ok (.goto 19, 3) := by decide +kernel
theorem d_Pic_rowOf_11 : decode prog_6_method_3_code 11 = .ok (.iload_n 1, 1) := by decide +kernel
theorem d_Pic_rowOf_12 : decode prog_6_method_3_code 12 = .ok (.iconst 1, 1) := by decide +kernel
theorem d_Pic_rowOf_13 : decode prog_6_method_3_code 13 = .ok (.if_icmp .ne 10, 3) := by decide +kernel
theorem d_Pic_rowOf_16 : decode prog_6_method_3_code 16 = .ok (.aload_n 0, 1) := by decide +kernel
theorem d_Pic_rowOf_17 : decode prog_6_method_3_code 17 = .ok (.getfield 22, 3) := by decide +kernel
theorem d_Pic_rowOf_20 : decode prog_6_method_3_code 20 = .ok (.goto 7, 3) := by decide +kernel
theorem d_Pic_rowOf_23 : decode prog_6_method_3_code 23 = .ok (.aload_n 0, 1) := by decide +kernel
theorem d_Pic_rowOf_24 : decode prog_6_method_3_code 24 = .ok (.getfield 25, 3) := by decide +kernel
theorem d_Pic_rowOf_27 : decode prog_6_method_3_code 27 = .ok (.areturn, 1) := by decide +kernel
def F_Pic_rowOf_27 (σ : Sg) (s0 : Nat) : Option (Nat) := ck (s0 < 47) (some s0)
set_option maxRecDepth 10000 in
set_option maxHeartbeats 4000000 in
theorem bt_Pic_rowOf_27 {p : Program} {l : Launch} {e : Env} {R : Room} {s : State} {m : MethodId} {args : Array Value} {below : List Frame} {meth : Method} {c : Code} {D : va_G} {τ : ClassId × ClassId × ClassId} {B : Nat} {A : Nat → Prop} {ad : Nat → Nat} (E : Cx p R s m args meth c prog_6_method_3_code 2 "DrawingMachine$Picture" 0 D τ B A) (hret : meth.sig.returnType = (some (.array .int))) (o : Nat) (σ : Sg) (s0 : Nat) (h : F_Pic_rowOf_27 σ s0 = some o) {H : Heap} {locs : List Loc} {ls : Array Slot} (w : Wd s D A (wdC τ σ ad) H locs) (hl : lv_has ls 2 []) : W p l e R s m args below meth c H locs 0 0 (QR below args s A D τ (wdC τ σ ad) (ad o)) (F0 m 27 ls [.ref (ad s0)]) := by
  obtain ⟨c1, h⟩ := ck_some h
  obtain rfl := Option.some.inj h
  exact rt_r E w ⟨_, hret⟩ d_Pic_rowOf_27
def F_Pic_rowOf (σ : Sg) (x0 : Int32) : Option (Nat) := if x0 = 0 then (F_Pic_rowOf_27 σ 2) else (if x0 = 1 then (F_Pic_rowOf_27 σ 3) else (F_Pic_rowOf_27 σ 4))
set_option maxRecDepth 10000 in
set_option maxHeartbeats 4000000 in
theorem c_Pic_rowOf (l : Launch) (D : va_G) (τ : ClassId × ClassId × ClassId) (B : Nat) (σ : Sg) (ad : Nat → Nat) (x0 : Int32) (o : Nat) (h : F_Pic_rowOf σ x0 = some o) : MR l y_Pic_rowOf (Cond.code y_Pic_rowOf prog_6_method_3_code 2 (some (.array .int))) 0 D τ B [.ref (ad 58), .int x0] (wdC τ σ ad) (wdC τ σ ad) (ad o) := by
  refine en_r (by decide) (Nat.le_of_ble_eq_true rfl) ?_
  intro p e R s m args below meth c H locs ls A E hret w hl
  have E : Cx p R s m args meth c prog_6_method_3_code 2 "DrawingMachine$Picture" 0 D τ B A := E
  have hl : lv_has ls 2 [(0, .ref (ad 58)), (1, .int x0)] := hl
  refine lv_iload_n E.x E.b d_Pic_rowOf_0 rfl (lv_at hl 1 rfl) ?_
  refine lv_if_ne (tgt := 11) E.x E.b d_Pic_rowOf_1 (by decide) (fun c => ?_) (fun c => ?_)
  ·
    replace h := ifF c h
    refine lv_iload_n E.x E.b d_Pic_rowOf_11 rfl (lv_at hl 1 rfl) ?_
    refine lv_iconst (v := 1) E.x E.b d_Pic_rowOf_12 (by decide) ?_
    refine lv_icmp_ne (tgt := 23) E.x E.b d_Pic_rowOf_13 (by decide) (fun c => ?_) (fun c => ?_)
    ·
      replace h := ifF c h
      refine lv_aload_n E.x E.b d_Pic_rowOf_23 rfl (lv_at hl 0 rfl) ?_
      refine gC_Pic_stencils E w k86 d_Pic_rowOf_24 ?_
      exact bt_Pic_rowOf_27 E hret o σ 4 h w (lv_sub hl [] rfl)
    ·
      replace h := ifT c h
      refine lv_aload_n E.x E.b d_Pic_rowOf_16 rfl (lv_at hl 0 rfl) ?_
      refine gC_Pic_depths E w k85 d_Pic_rowOf_17 ?_
      refine lv_goto (tgt := 27) E.x E.b d_Pic_rowOf_20 (by decide) ?_
      exact bt_Pic_rowOf_27 E hret o σ 3 h w (lv_sub hl [] rfl)
  ·
    replace h := ifT c h
    refine lv_aload_n E.x E.b d_Pic_rowOf_4 rfl (lv_at hl 0 rfl) ?_
    refine gC_Pic_colours E w k84 d_Pic_rowOf_5 ?_
    refine lv_goto (tgt := 27) E.x E.b d_Pic_rowOf_8 (by decide) ?_
    exact bt_Pic_rowOf_27 E hret o σ 2 h w (lv_sub hl [] rfl)
theorem clV_Pic_rowOf {p : Program} {l : Launch} {e : Env} {R : Room} {s : State} {m : MethodId} {args : Array Value} {below : List Frame} {meth : Method} {c : Code} {H : Heap} {locs : List Loc} {Q : State → Prop} {cc : ByteArray} {nL pc lev : Nat} {own : String} {D : va_G} {τ : ClassId × ClassId × ClassId} {B : Nat} {A : Nat → Prop} {σ : Sg} {ad : Nat → Nat} {ls : Array Slot} {rest : List Value} (E : Cx p R s m args meth c cc nL own lev D τ B A) (w : Wd s D A (wdC τ σ ad) H locs) {x0 : Int32} {o : Nat} (h : F_Pic_rowOf σ x0 = some o) {index : Nat} (hlk : Cond.methodLink own index y_Pic_rowOf ∈ tw) (hlev : 0 < lev) (hsz : ls.size = nL) (hr : (rest.map fun v => v.category).sum ≤ 8) (hd : decode cc pc = .ok (.invokevirtual index, 3)) (kk : ∀ (H1 : Heap) (locs1 : List Loc), Wd s D A (wdC τ σ ad) H1 locs1 → W p l e R s m args below meth c H1 locs1 0 0 Q (F0 m (pc + 3) ls (.ref (ad o) :: rest))) : W p l e R s m args below meth c H locs 0 0 Q (F0 m pc ls (.int x0 :: .ref (ad 58) :: rest)) :=
  cr_r w E.C (va_runV (As := [.int x0]) (rest := rest) E.fix (c_Pic_rowOf l D τ B σ ad x0 o h H.size) (cwV 1 E.w (tw_pre (tw_good k1358) (l := [_, _, _, _]) (List.forall_mem_cons.mpr ⟨hlk, List.forall_mem_cons.mpr ⟨k1356, List.forall_mem_cons.mpr ⟨k1357, List.forall_mem_cons.mpr ⟨k4, fun _ h => absurd h List.not_mem_nil⟩⟩⟩⟩)) rfl rfl rfl (by decide +kernel) (E.rm hlev (by decide))) (wd_preV w E.C [.int x0] rcC_Pic rfl) rfl rfl hsz rfl (lv_room hr) hd ⟨Nat.zero_le _, Nat.zero_le _⟩) kk

theorem d_DM_copyBack_0 : decode prog_1_method_21_code 0 = .ok (.aload_n 0, 1) := by decide +kernel
theorem d_DM_copyBack_1 : decode prog_1_method_21_code 1 = .ok (.getfield 34, 3) := by decide +kernel
theorem d_DM_copyBack_4 : decode prog_1_method_21_code 4 = .ok (.getfield 208, 3) := by decide +kernel
theorem d_DM_copyBack_7 : decode prog_1_method_21_code 7 = .ok (.astore_n 1, 1) := by decide +kernel
theorem d_DM_copyBack_8 : decode prog_1_method_21_code 8 = .ok (.aload_n 0, 1) := by decide +kernel
theorem d_DM_copyBack_9 : decode prog_1_method_21_code 9 = .ok (.getfield 25, 3) := by decide +kernel
theorem d_DM_copyBack_12 : decode prog_1_method_21_code 12 = .ok (.aload_n 1, 1) := by decide +kernel
theorem d_DM_copyBack_13 : decode prog_1_method_21_code 13 = .ok (.iconst 5, 1) := by decide +kernel
theorem d_DM_copyBack_14 : decode prog_1_method_21_code 14 = .ok (.iaload, 1) := by decide +kernel
theorem d_DM_copyBack_15 : decode prog_1_method_21_code 15 = .ok (.invokevirtual 179, 3) := by decide +kernel
theorem d_DM_copyBack_18 : decode prog_1_method_21_code 18 = .ok (.astore_n 2, 1) := by decide +kernel
theorem d_DM_copyBack_19 : decode prog_1_method_21_code 19 = .ok (.iconst 0, 1) := by decide +kernel
theorem d_DM_copyBack_20 : decode prog_1_method_21_code 20 = .ok (.istore_n 3, 1) := by decide +kernel
theorem d_DM_copyBack_21 : decode prog_1_method_21_code 21 = .ok (.iload_n 3, 1) := by decide +kernel
theorem d_DM_copyBack_22 : decode prog_1_method_21_code 22 = .ok (.aload_n 1, 1) := by decide +kernel
theorem d_DM_copyBack_23 : decode prog_1_method_21_code 23 = .ok (.iconst 3, 1) := by decide +kernel
theorem d_DM_copyBack_24 : decode prog_1_method_21_code 24 = .ok (.iaload, 1) := by decide +kernel
theorem d_DM_copyBack_25 : decode prog_1_method_21_code 25 = .ok (.if_icmp .ge 50, 3) := by decide +kernel
theorem d_DM_copyBack_28 : decode prog_1_method_21_code 28 = .ok (.aload_n 1, 1) := by decide +kernel
theorem d_DM_copyBack_29 : decode prog_1_method_21_code 29 = .ok (.iconst 1, 1) := by decide +kernel
theorem d_DM_copyBack_30 : decode prog_1_method_21_code 30 = .ok (.iaload, 1) := by decide +kernel
theorem d_DM_copyBack_31 : decode prog_1_method_21_code 31 = .ok (.iload_n 3, 1) := by decide +kernel
theorem d_DM_copyBack_32 : decode prog_1_method_21_code 32 = .ok (.iadd, 1) := by decide +kernel
theorem d_DM_copyBack_33 : decode prog_1_method_21_code 33 = .ok (.aload_n 0, 1) := by decide +kernel
theorem d_DM_copyBack_34 : decode prog_1_method_21_code 34 = .ok (.getfield 25, 3) := by decide +kernel
theorem d_DM_copyBack_37 : decode prog_1_method_21_code 37 = .ok (.getfield 171, 3) := by decide +kernel
theorem d_DM_copyBack_40 : decode prog_1_method_21_code 40 = .ok (.imul, 1) := by decide +kernel
theorem d_DM_copyBack_41 : decode prog_1_method_21_code 41 = .ok (.aload_n 1, 1) := by decide +kernel
theorem d_DM_copyBack_42 : decode prog_1_method_21_code 42 = .ok (.iconst 0, 1) := by decide +kernel
theorem d_DM_copyBack_43 : decode prog_1_method_21_code 43 = .ok (.iaload, 1) := by decide +kernel
theorem d_DM_copyBack_44 : decode prog_1_method_21_code 44 = .ok (.iadd, 1) := by decide +kernel
theorem d_DM_copyBack_45 : decode prog_1_method_21_code 45 = .ok (.istore 4, 2) := by decide +kernel
theorem d_DM_copyBack_47 : decode prog_1_method_21_code 47 = .ok (.aload_n 2, 1) := by decide +kernel
theorem d_DM_copyBack_48 : decode prog_1_method_21_code 48 = .ok (.iload 4, 2) := by decide +kernel
theorem d_DM_copyBack_50 : decode prog_1_method_21_code 50 = .ok (.aload_n 0, 1) := by decide +kernel
theorem d_DM_copyBack_51 : decode prog_1_method_21_code 51 = .ok (.getfield 9, 3) := by decide +kernel
theorem d_DM_copyBack_54 : decode prog_1_method_21_code 54 = .ok (.aload_n 1, 1) := by decide +kernel
theorem d_DM_copyBack_55 : decode prog_1_method_21_code 55 = .ok (.iconst 4, 1) := by decide +kernel
theorem d_DM_copyBack_56 : decode prog_1_method_21_code 56 = .ok (.iaload, 1) := by decide +kernel
theorem d_DM_copyBack_57 : decode prog_1_method_21_code 57 = .ok (.iload_n 3, 1) := by decide +kernel
theorem d_DM_copyBack_58 : decode prog_1_method_21_code 58 = .ok (.aload_n 1, 1) := by decide +kernel
theorem d_DM_copyBack_59 : decode prog_1_method_21_code 59 = .ok (.iconst 2, 1) := by decide +kernel
theorem d_DM_copyBack_60 : decode prog_1_method_21_code 60 = .ok (.iaload, 1) := by decide +kernel
theorem d_DM_copyBack_61 : decode prog_1_method_21_code 61 = .ok (.imul, 1) := by decide +kernel
theorem d_DM_copyBack_62 : decode prog_1_method_21_code 62 = .ok (.iadd, 1) := by decide +kernel
theorem d_DM_copyBack_63 : decode prog_1_method_21_code 63 = .ok (.aload_n 1, 1) := by decide +kernel
theorem d_DM_copyBack_64 : decode prog_1_method_21_code 64 = .ok (.iconst 2, 1) := by decide +kernel
theorem d_DM_copyBack_65 : decode prog_1_method_21_code 65 = .ok (.iaload, 1) := by decide +kernel
theorem d_DM_copyBack_66 : decode prog_1_method_21_code 66 = .ok (.invokestatic 246, 3) := by decide +kernel
theorem d_DM_copyBack_69 : decode prog_1_method_21_code 69 = .ok (.iinc 3 1, 3) := by decide +kernel
theorem d_DM_copyBack_72 : decode prog_1_method_21_code 72 = .ok (.goto (-51), 3) := by decide +kernel
theorem d_DM_copyBack_75 : decode prog_1_method_21_code 75 = .ok (.return_, 1) := by decide +kernel
def L_DM_copyBack_21 : Nat → Sg → Nat → Int32 → Option (Sg)
  | 0, _, _, _ => none
  | n + 1, σ, v2, v3 => ck (v2 < 47) (if (σ.2.2.1 5 3) ≤ v3 then (some σ) else (lt ((((σ.2.2.1 5 1) + v3) * (σ.1 0)) + (σ.2.2.1 5 0)) (fun y9 => ck (cpok y9 ((σ.2.2.1 5 4) + (v3 * (σ.2.2.1 5 2))) (σ.2.2.1 5 2) (lenC σ v2) 4096) (lt (sA σ 0 (va_cpy (σ.2.2.1 v2) (σ.2.2.1 0) y9.toNatClampNeg ((σ.2.2.1 5 4) + (v3 * (σ.2.2.1 5 2))).toNatClampNeg (σ.2.2.1 5 2).toNatClampNeg)) (fun σ11 => lt (v3 + 1) (fun y12 => L_DM_copyBack_21 n σ11 v2 y12))))))
set_option maxRecDepth 10000 in
set_option maxHeartbeats 4000000 in
theorem lt_DM_copyBack_21 {p : Program} {l : Launch} {e : Env} {R : Room} {s : State} {m : MethodId} {args : Array Value} {below : List Frame} {meth : Method} {c : Code} {D : va_G} {τ : ClassId × ClassId × ClassId} {B : Nat} {A : Nat → Prop} {ad : Nat → Nat} (E : Cx p R s m args meth c prog_1_method_21_code 5 "DrawingMachine" 1 D τ B A) (hret : meth.sig.returnType = none) (o : Sg) : ∀ (n : Nat) (σ : Sg) (v2 : Nat) (v3 : Int32) (H : Heap) (locs : List Loc) (ls : Array Slot), L_DM_copyBack_21 n σ v2 v3 = some o → Wd s D A (wdC τ σ ad) H locs → lv_has ls 5 [(0, .ref (ad 56)), (1, .ref (ad 5)), (2, .ref (ad v2)), (3, .int v3)] → W p l e R s m args below meth c H locs 0 0 (QV below args s A D τ (wdC τ o ad)) (F0 m 21 ls []) := by
  intro n
  induction n with
  | zero =>
    intro σ v2 v3 H locs ls h w hl
    cases h
  | succ n hr_21 =>
    intro σ v2 v3 H locs ls h w hl
    obtain ⟨c8, h⟩ := ck_some h
    refine lv_iload_n E.x E.b d_DM_copyBack_21 rfl (lv_at hl 3 rfl) ?_
    refine lv_aload_n E.x E.b d_DM_copyBack_22 rfl (lv_at hl 1 rfl) ?_
    refine lv_iconst (v := 3) E.x E.b d_DM_copyBack_23 (by decide) ?_
    refine ialC E w (k := 5) (by decide) (show inb 3 8 by decide) d_DM_copyBack_24 ?_
    refine wi_e (v := σ.2.2.1 5 3) rfl ?_
    refine lv_icmp_ge (tgt := 75) E.x E.b d_DM_copyBack_25 (by decide) (fun c => ?_) (fun c => ?_)
    ·
      replace h := ifT c h
      obtain rfl := Option.some.inj h
      exact rt_v E w hret d_DM_copyBack_75
    ·
      replace h := ifF c h
      refine lv_aload_n E.x E.b d_DM_copyBack_28 rfl (lv_at hl 1 rfl) ?_
      refine lv_iconst (v := 1) E.x E.b d_DM_copyBack_29 (by decide) ?_
      refine ialC E w (k := 5) (by decide) (show inb 1 8 by decide) d_DM_copyBack_30 ?_
      refine wi_e (v := σ.2.2.1 5 1) rfl ?_
      refine lv_iload_n E.x E.b d_DM_copyBack_31 rfl (lv_at hl 3 rfl) ?_
      refine lv_iadd E.x E.b d_DM_copyBack_32 ?_
      refine lv_aload_n E.x E.b d_DM_copyBack_33 rfl (lv_at hl 0 rfl) ?_
      refine gC_DM_picture E w k432 d_DM_copyBack_34 ?_
      refine gC_Pic_wide E w k80 d_DM_copyBack_37 ?_
      refine lv_imul E.x E.b d_DM_copyBack_40 ?_
      refine lv_aload_n E.x E.b d_DM_copyBack_41 rfl (lv_at hl 1 rfl) ?_
      refine lv_iconst (v := 0) E.x E.b d_DM_copyBack_42 (by decide) ?_
      refine ialC E w (k := 5) (by decide) (show inb 0 8 by decide) d_DM_copyBack_43 ?_
      refine wi_e (v := σ.2.2.1 5 0) rfl ?_
      refine lv_iadd E.x E.b d_DM_copyBack_44 ?_
      obtain ⟨y9, e_y9, h⟩ := lt_some h
      refine wi_e (v := y9) e_y9 ?_
      refine lv_istore (lv' := [(4, .int y9), (0, .ref (ad 56)), (1, .ref (ad 5)), (2, .ref (ad v2)), (3, .int v3)]) E.x E.b d_DM_copyBack_45 hl (by decide) rfl (fun ls hl => ?_)
      refine lv_aload_n E.x E.b d_DM_copyBack_47 rfl (lv_at hl 3 rfl) ?_
      refine lv_iload E.x E.b d_DM_copyBack_48 (lv_at hl 0 rfl) ?_
      refine lv_aload_n E.x E.b d_DM_copyBack_50 rfl (lv_at hl 1 rfl) ?_
      refine gC_DM_memory E w k430 d_DM_copyBack_51 ?_
      refine lv_aload_n E.x E.b d_DM_copyBack_54 rfl (lv_at hl 2 rfl) ?_
      refine lv_iconst (v := 4) E.x E.b d_DM_copyBack_55 (by decide) ?_
      refine ialC E w (k := 5) (by decide) (show inb 4 8 by decide) d_DM_copyBack_56 ?_
      refine wi_e (v := σ.2.2.1 5 4) rfl ?_
      refine lv_iload_n E.x E.b d_DM_copyBack_57 rfl (lv_at hl 4 rfl) ?_
      refine lv_aload_n E.x E.b d_DM_copyBack_58 rfl (lv_at hl 2 rfl) ?_
      refine lv_iconst (v := 2) E.x E.b d_DM_copyBack_59 (by decide) ?_
      refine ialC E w (k := 5) (by decide) (show inb 2 8 by decide) d_DM_copyBack_60 ?_
      refine wi_e (v := σ.2.2.1 5 2) rfl ?_
      refine lv_imul E.x E.b d_DM_copyBack_61 ?_
      refine lv_iadd E.x E.b d_DM_copyBack_62 ?_
      refine lv_aload_n E.x E.b d_DM_copyBack_63 rfl (lv_at hl 2 rfl) ?_
      refine lv_iconst (v := 2) E.x E.b d_DM_copyBack_64 (by decide) ?_
      refine ialC E w (k := 5) (by decide) (show inb 2 8 by decide) d_DM_copyBack_65 ?_
      refine wi_e (v := σ.2.2.1 5 2) rfl ?_
      obtain ⟨c10, h⟩ := ck_some h
      obtain ⟨σ11, e_σ11, h⟩ := lt_some h
      refine cpyC E w hl.1 k1305 k645 k644 k31 (k0 := v2) (k1 := 0) c8 (by decide) c10 e_σ11 (Nat.le_of_ble_eq_true rfl) d_DM_copyBack_66 (fun H locs w => ?_)
      obtain ⟨y12, e_y12, h⟩ := lt_some h
      refine lv_iinc (v := y12) (lv' := [(3, .int y12), (4, .int y9), (0, .ref (ad 56)), (1, .ref (ad 5)), (2, .ref (ad v2))]) E.x E.b d_DM_copyBack_69 hl (k := 4) rfl (e_y12) (by decide) rfl (fun ls hl => ?_)
      refine lv_goto (tgt := 21) E.x E.b d_DM_copyBack_72 (by decide) ?_
      exact hr_21 σ11 v2 y12 _ _ _ h w (lv_sub hl [2, 3, 4, 0] rfl)
def F_DM_copyBack (σ : Sg) : Option (Sg) := bd (F_Pic_rowOf σ (σ.2.2.1 5 5)) (fun o13 => lt (o13) (fun ar_14 => ck (ar_14 < 47) (L_DM_copyBack_21 100000 σ ar_14 0)))
set_option maxRecDepth 10000 in
set_option maxHeartbeats 4000000 in
theorem c_DM_copyBack (l : Launch) (D : va_G) (τ : ClassId × ClassId × ClassId) (B : Nat) (σ : Sg) (ad : Nat → Nat) (o : Sg) (h : F_DM_copyBack σ = some o) : MV l y_DM_copyBack (Cond.code y_DM_copyBack prog_1_method_21_code 5 none) 1 D τ B [.ref (ad 56)] (wdC τ σ ad) (wdC τ o ad) := by
  refine en_v (by decide) (Nat.le_of_ble_eq_true rfl) ?_
  intro p e R s m args below meth c H locs ls A E hret w hl
  have E : Cx p R s m args meth c prog_1_method_21_code 5 "DrawingMachine" 1 D τ B A := E
  have hl : lv_has ls 5 [(0, .ref (ad 56))] := hl
  refine lv_aload_n E.x E.b d_DM_copyBack_0 rfl (lv_at hl 0 rfl) ?_
  refine gC_DM_course E w k433 d_DM_copyBack_1 ?_
  refine gC_Cou_given E w k112 d_DM_copyBack_4 ?_
  refine lv_astore_n (lv' := [(1, .ref (ad 5)), (0, .ref (ad 56))]) E.x E.b d_DM_copyBack_7 rfl hl (by decide) rfl (fun ls hl => ?_)
  refine lv_aload_n E.x E.b d_DM_copyBack_8 rfl (lv_at hl 1 rfl) ?_
  refine gC_DM_picture E w k432 d_DM_copyBack_9 ?_
  refine lv_aload_n E.x E.b d_DM_copyBack_12 rfl (lv_at hl 0 rfl) ?_
  refine lv_iconst (v := 5) E.x E.b d_DM_copyBack_13 (by decide) ?_
  refine ialC E w (k := 5) (by decide) (show inb 5 8 by decide) d_DM_copyBack_14 ?_
  refine wi_e (v := σ.2.2.1 5 5) rfl ?_
  obtain ⟨o13, h_o13, h⟩ := bd_some h
  refine clV_Pic_rowOf E w (x0 := (σ.2.2.1 5 5)) h_o13 k1355 (by decide) hl.1 (Nat.le_of_ble_eq_true rfl) d_DM_copyBack_15 (fun H locs w => ?_)
  obtain ⟨ar_14, e_ar_14, h⟩ := lt_some h
  refine wr_e (v := ad ar_14) (by rw [e_ar_14]) ?_
  obtain ⟨c15, h⟩ := ck_some h
  refine lv_astore_n (lv' := [(2, .ref (ad ar_14)), (1, .ref (ad 5)), (0, .ref (ad 56))]) E.x E.b d_DM_copyBack_18 rfl hl (by decide) rfl (fun ls hl => ?_)
  refine lv_iconst (v := 0) E.x E.b d_DM_copyBack_19 (by decide) ?_
  refine lv_istore_n (lv' := [(3, .int 0), (2, .ref (ad ar_14)), (1, .ref (ad 5)), (0, .ref (ad 56))]) E.x E.b d_DM_copyBack_20 rfl hl (by decide) rfl (fun ls hl => ?_)
  exact lt_DM_copyBack_21 E hret o 100000 σ ar_14 0 _ _ _ h w (lv_sub hl [3, 2, 1, 0] rfl)
theorem clV_DM_copyBack {p : Program} {l : Launch} {e : Env} {R : Room} {s : State} {m : MethodId} {args : Array Value} {below : List Frame} {meth : Method} {c : Code} {H : Heap} {locs : List Loc} {Q : State → Prop} {cc : ByteArray} {nL pc lev : Nat} {own : String} {D : va_G} {τ : ClassId × ClassId × ClassId} {B : Nat} {A : Nat → Prop} {σ : Sg} {ad : Nat → Nat} {ls : Array Slot} {rest : List Value} (E : Cx p R s m args meth c cc nL own lev D τ B A) (w : Wd s D A (wdC τ σ ad) H locs) {o : Sg} (h : F_DM_copyBack σ = some o) {index : Nat} (hlk : Cond.methodLink own index y_DM_copyBack ∈ tw) (hlev : 1 < lev) (hsz : ls.size = nL) (hr : (rest.map fun v => v.category).sum ≤ 8) (hd : decode cc pc = .ok (.invokevirtual index, 3)) (kk : ∀ (H1 : Heap) (locs1 : List Loc), Wd s D A (wdC τ o ad) H1 locs1 → W p l e R s m args below meth c H1 locs1 0 0 Q (F0 m (pc + 3) ls (rest))) : W p l e R s m args below meth c H locs 0 0 Q (F0 m pc ls (.ref (ad 56) :: rest)) :=
  cr_v w E.C (va_runV (As := []) (rest := rest) E.fix (c_DM_copyBack l D τ B σ ad o h H.size) (cwV 0 E.w (tw_pre (tw_good k1354) (l := [_, _, _, _]) (List.forall_mem_cons.mpr ⟨hlk, List.forall_mem_cons.mpr ⟨k1353, List.forall_mem_cons.mpr ⟨ks42, List.forall_mem_cons.mpr ⟨k1, fun _ h => absurd h List.not_mem_nil⟩⟩⟩⟩)) rfl rfl rfl (by decide +kernel) (E.rm hlev (by decide))) (wd_preV w E.C [] rcC_DM rfl) rfl rfl hsz rfl (lv_room hr) hd ⟨Nat.zero_le _, Nat.zero_le _⟩) kk

theorem d_Chk_hasTarget_0 : decode prog_2_method_5_code 0 = .ok (.iload_n 0, 1) := by decide +kernel
theorem d_Chk_hasTarget_1 : decode prog_2_method_5_code 1 = .ok (.ifCond .eq 19, 3) := by decide +kernel
theorem d_Chk_hasTarget_4 : decode prog_2_method_5_code 4 = .ok (.iload_n 0, 1) := by decide +kernel
theorem d_Chk_hasTarget_5 : decode prog_2_method_5_code 5 = .ok (.bipush 34, 2) := by decide +kernel
theorem d_Chk_hasTarget_7 : decode prog_2_method_5_code 7 = .ok (.if_icmp .lt 9, 3) := by decide +kernel
theorem d_Chk_hasTarget_10 : decode prog_2_method_5_code 10 = .ok (.iload_n 0, 1) := by decide +kernel
theorem d_Chk_hasTarget_11 : decode prog_2_method_5_code 11 = .ok (.bipush 38, 2) := by decide +kernel
theorem d_Chk_hasTarget_13 : decode prog_2_method_5_code 13 = .ok (.if_icmp .le 7, 3) := by decide +kernel
theorem d_Chk_hasTarget_16 : decode prog_2_method_5_code 16 = .ok (.iconst 1, 1) := by decide +kernel
theorem d_Chk_hasTarget_17 : decode prog_2_method_5_code 17 = .ok (.goto 4, 3) := by decide +kernel
theorem d_Chk_hasTarget_20 : decode prog_2_method_5_code 20 = .ok (.iconst 0, 1) := by decide +kernel
theorem d_Chk_hasTarget_21 : decode prog_2_method_5_code 21 = .ok (.ireturn, 1) := by decide +kernel
def F_Chk_hasTarget_21  (s0 : Int32) : Option (Int32) := ck (s0 = 0 ∨ s0 = 1) (some s0)
set_option maxRecDepth 10000 in
set_option maxHeartbeats 4000000 in
theorem bt_Chk_hasTarget_21 {p : Program} {l : Launch} {e : Env} {R : Room} {s : State} {m : MethodId} {args : Array Value} {below : List Frame} {meth : Method} {c : Code} {D : va_G} {τ : ClassId × ClassId × ClassId} {B : Nat} {A : Nat → Prop} {ad : Nat → Nat} {σ0 : Sg} (E : Cx p R s m args meth c prog_2_method_5_code 1 "DrawingMachine$Checker" 0 D τ B A) (hret : meth.sig.returnType = (some .boolean)) (o : Int32) (s0 : Int32) (h : F_Chk_hasTarget_21 s0 = some o) {H : Heap} {locs : List Loc} {ls : Array Slot} (w : Wd s D A (wdC τ σ0 ad) H locs) (hl : lv_has ls 1 []) : W p l e R s m args below meth c H locs 0 0 (QI below args s A D τ (wdC τ σ0 ad) o) (F0 m 21 ls [.int s0]) := by
  obtain ⟨c2, h⟩ := ck_some h
  obtain rfl := Option.some.inj h
  exact rt_z E w hret c2 d_Chk_hasTarget_21
def F_Chk_hasTarget_20  : Option (Int32) := F_Chk_hasTarget_21 0
set_option maxRecDepth 10000 in
set_option maxHeartbeats 4000000 in
theorem bt_Chk_hasTarget_20 {p : Program} {l : Launch} {e : Env} {R : Room} {s : State} {m : MethodId} {args : Array Value} {below : List Frame} {meth : Method} {c : Code} {D : va_G} {τ : ClassId × ClassId × ClassId} {B : Nat} {A : Nat → Prop} {ad : Nat → Nat} {σ0 : Sg} (E : Cx p R s m args meth c prog_2_method_5_code 1 "DrawingMachine$Checker" 0 D τ B A) (hret : meth.sig.returnType = (some .boolean)) (o : Int32) (h : F_Chk_hasTarget_20 = some o) {H : Heap} {locs : List Loc} {ls : Array Slot} (w : Wd s D A (wdC τ σ0 ad) H locs) (hl : lv_has ls 1 []) : W p l e R s m args below meth c H locs 0 0 (QI below args s A D τ (wdC τ σ0 ad) o) (F0 m 20 ls []) := by
  refine lv_iconst (v := 0) E.x E.b d_Chk_hasTarget_20 (by decide) ?_
  exact bt_Chk_hasTarget_21 E hret o 0 h w (lv_sub hl [] rfl)
def F_Chk_hasTarget_16  : Option (Int32) := F_Chk_hasTarget_21 1
set_option maxRecDepth 10000 in
set_option maxHeartbeats 4000000 in
theorem bt_Chk_hasTarget_16 {p : Program} {l : Launch} {e : Env} {R : Room} {s : State} {m : MethodId} {args : Array Value} {below : List Frame} {meth : Method} {c : Code} {D : va_G} {τ : ClassId × ClassId × ClassId} {B : Nat} {A : Nat → Prop} {ad : Nat → Nat} {σ0 : Sg} (E : Cx p R s m args meth c prog_2_method_5_code 1 "DrawingMachine$Checker" 0 D τ B A) (hret : meth.sig.returnType = (some .boolean)) (o : Int32) (h : F_Chk_hasTarget_16 = some o) {H : Heap} {locs : List Loc} {ls : Array Slot} (w : Wd s D A (wdC τ σ0 ad) H locs) (hl : lv_has ls 1 []) : W p l e R s m args below meth c H locs 0 0 (QI below args s A D τ (wdC τ σ0 ad) o) (F0 m 16 ls []) := by
  refine lv_iconst (v := 1) E.x E.b d_Chk_hasTarget_16 (by decide) ?_
  refine lv_goto (tgt := 21) E.x E.b d_Chk_hasTarget_17 (by decide) ?_
  exact bt_Chk_hasTarget_21 E hret o 1 h w (lv_sub hl [] rfl)
def F_Chk_hasTarget  (x0 : Int32) : Option (Int32) := if x0 = 0 then (F_Chk_hasTarget_20) else (if x0 < 34 then (F_Chk_hasTarget_16) else (if x0 ≤ 38 then (F_Chk_hasTarget_20) else (F_Chk_hasTarget_16)))
set_option maxRecDepth 10000 in
set_option maxHeartbeats 4000000 in
theorem c_Chk_hasTarget (l : Launch) (D : va_G) (τ : ClassId × ClassId × ClassId) (B : Nat) (σ0 : Sg) (ad : Nat → Nat) (x0 : Int32) (o : Int32) (h : F_Chk_hasTarget x0 = some o) : MI l y_Chk_hasTarget (Cond.code y_Chk_hasTarget prog_2_method_5_code 1 (some .boolean)) 0 D τ B [.int x0] (wdC τ σ0 ad) (wdC τ σ0 ad) o := by
  refine en_i (by decide) (Nat.le_of_ble_eq_true rfl) ?_
  intro p e R s m args below meth c H locs ls A E hret w hl
  have E : Cx p R s m args meth c prog_2_method_5_code 1 "DrawingMachine$Checker" 0 D τ B A := E
  have hl : lv_has ls 1 [(0, .int x0)] := hl
  refine lv_iload_n E.x E.b d_Chk_hasTarget_0 rfl (lv_at hl 0 rfl) ?_
  refine lv_if_eq (tgt := 20) E.x E.b d_Chk_hasTarget_1 (by decide) (fun c => ?_) (fun c => ?_)
  ·
    replace h := ifT c h
    exact bt_Chk_hasTarget_20 E hret o h w (lv_sub hl [] rfl)
  ·
    replace h := ifF c h
    refine lv_iload_n E.x E.b d_Chk_hasTarget_4 rfl (lv_at hl 0 rfl) ?_
    refine lv_bipush (v := 34) E.x E.b d_Chk_hasTarget_5 (by decide) ?_
    refine lv_icmp_lt (tgt := 16) E.x E.b d_Chk_hasTarget_7 (by decide) (fun c => ?_) (fun c => ?_)
    ·
      replace h := ifT c h
      exact bt_Chk_hasTarget_16 E hret o h w (lv_sub hl [] rfl)
    ·
      replace h := ifF c h
      refine lv_iload_n E.x E.b d_Chk_hasTarget_10 rfl (lv_at hl 0 rfl) ?_
      refine lv_bipush (v := 38) E.x E.b d_Chk_hasTarget_11 (by decide) ?_
      refine lv_icmp_le (tgt := 20) E.x E.b d_Chk_hasTarget_13 (by decide) (fun c => ?_) (fun c => ?_)
      ·
        replace h := ifT c h
        exact bt_Chk_hasTarget_20 E hret o h w (lv_sub hl [] rfl)
      ·
        replace h := ifF c h
        exact bt_Chk_hasTarget_16 E hret o h w (lv_sub hl [] rfl)
theorem clS_Chk_hasTarget {p : Program} {l : Launch} {e : Env} {R : Room} {s : State} {m : MethodId} {args : Array Value} {below : List Frame} {meth : Method} {c : Code} {H : Heap} {locs : List Loc} {Q : State → Prop} {cc : ByteArray} {nL pc lev : Nat} {own : String} {D : va_G} {τ : ClassId × ClassId × ClassId} {B : Nat} {A : Nat → Prop} {σ : Sg} {ad : Nat → Nat} {ls : Array Slot} {rest : List Value} (E : Cx p R s m args meth c cc nL own lev D τ B A) (w : Wd s D A (wdC τ σ ad) H locs) {x0 : Int32} {o : Int32} (h : F_Chk_hasTarget x0 = some o) {index : Nat} (hlk : Cond.methodLink own index y_Chk_hasTarget ∈ tw) (hlev : 0 < lev) (hsz : ls.size = nL) (hr : (rest.map fun v => v.category).sum ≤ 8) (hd : decode cc pc = .ok (.invokestatic index, 3)) (kk : ∀ (H1 : Heap) (locs1 : List Loc), Wd s D A (wdC τ σ ad) H1 locs1 → W p l e R s m args below meth c H1 locs1 0 0 Q (F0 m (pc + 3) ls (.int o :: rest))) : W p l e R s m args below meth c H locs 0 0 Q (F0 m pc ls (.int x0 :: rest)) :=
  cr_i w E.C (va_runS (As := [.int x0]) (rest := rest) E.fix (c_Chk_hasTarget l D τ B σ ad x0 o h H.size) (va_cwS 1 E.w (tw_pre (tw_good k1316) (l := [_, _, _]) (List.forall_mem_cons.mpr ⟨hlk, List.forall_mem_cons.mpr ⟨k1315, List.forall_mem_cons.mpr ⟨k6, fun _ h => absurd h List.not_mem_nil⟩⟩⟩)) rfl rfl rfl (by decide +kernel) (E.rm hlev (by decide))) (wd_pre w E.C [.int x0]) rfl rfl hsz rfl (lv_room hr) hd ⟨Nat.zero_le _, Nat.zero_le _⟩) kk

theorem d_Chk_numberMayBe_0 : decode prog_2_method_9_code 0 = .ok (.iload_n 0, 1) := by decide +kernel
theorem d_Chk_numberMayBe_1 : decode prog_2_method_9_code 1 = .ok (.tableswitch 84 32 37 #[73, 73, 55, 84, 39, 39], 39) := by decide +kernel
theorem d_Chk_numberMayBe_40 : decode prog_2_method_9_code 40 = .ok (.iload_n 1, 1) := by decide +kernel
theorem d_Chk_numberMayBe_41 : decode prog_2_method_9_code 41 = .ok (.iload_n 2, 1) := by decide +kernel
theorem d_Chk_numberMayBe_42 : decode prog_2_method_9_code 42 = .ok (.if_icmp .le 12, 3) := by decide +kernel
theorem d_Chk_numberMayBe_45 : decode prog_2_method_9_code 45 = .ok (.iload_n 1, 1) := by decide +kernel
theorem d_Chk_numberMayBe_46 : decode prog_2_method_9_code 46 = .ok (.iload_n 3, 1) := by decide +kernel
theorem d_Chk_numberMayBe_47 : decode prog_2_method_9_code 47 = .ok (.if_icmp .ge 7, 3) := by decide +kernel
theorem d_Chk_numberMayBe_50 : decode prog_2_method_9_code 50 = .ok (.iconst 1, 1) := by decide +kernel
theorem d_Chk_numberMayBe_51 : decode prog_2_method_9_code 51 = .ok (.goto 4, 3) := by decide +kernel
theorem d_Chk_numberMayBe_54 : decode prog_2_method_9_code 54 = .ok (.iconst 0, 1) := by decide +kernel
theorem d_Chk_numberMayBe_55 : decode prog_2_method_9_code 55 = .ok (.ireturn, 1) := by decide +kernel
theorem d_Chk_numberMayBe_56 : decode prog_2_method_9_code 56 = .ok (.iload_n 1, 1) := by decide +kernel
theorem d_Chk_numberMayBe_57 : decode prog_2_method_9_code 57 = .ok (.iconst 1, 1) := by decide +kernel
theorem d_Chk_numberMayBe_58 : decode prog_2_method_9_code 58 = .ok (.if_icmp .lt 14, 3) := by decide +kernel
theorem d_Chk_numberMayBe_61 : decode prog_2_method_9_code 61 = .ok (.iload_n 1, 1) := by decide +kernel
theorem d_Chk_numberMayBe_62 : decode prog_2_method_9_code 62 = .ok (.sipush 255, 3) := by decide +kernel
theorem d_Chk_numberMayBe_65 : decode prog_2_method_9_code 65 = .ok (.if_icmp .gt 7, 3) := by decide +kernel
theorem d_Chk_numberMayBe_68 : decode prog_2_method_9_code 68 = .ok (.iconst 1, 1) := by decide +kernel
theorem d_Chk_numberMayBe_69 : decode prog_2_method_9_code 69 = .ok (.goto 4, 3) := by decide +kernel
theorem d_Chk_numberMayBe_72 : decode prog_2_method_9_code 72 = .ok (.iconst 0, 1) := by decide +kernel
theorem d_Chk_numberMayBe_73 : decode prog_2_method_9_code 73 = .ok (.ireturn, 1) := by decide +kernel
theorem d_Chk_numberMayBe_74 : decode prog_2_method_9_code 74 = .ok (.iload_n 1, 1) := by decide +kernel
theorem d_Chk_numberMayBe_75 : decode prog_2_method_9_code 75 = .ok (.iconst 3, 1) := by decide +kernel
theorem d_Chk_numberMayBe_76 : decode prog_2_method_9_code 76 = .ok (.if_icmp .gt 7, 3) := by decide +kernel
theorem d_Chk_numberMayBe_79 : decode prog_2_method_9_code 79 = .ok (.iconst 1, 1) := by decide +kernel
theorem d_Chk_numberMayBe_80 : decode prog_2_method_9_code 80 = .ok (.goto 4, 3) := by decide +kernel
theorem d_Chk_numberMayBe_83 : decode prog_2_method_9_code 83 = .ok (.iconst 0, 1) := by decide +kernel
theorem d_Chk_numberMayBe_84 : decode prog_2_method_9_code 84 = .ok (.ireturn, 1) := by decide +kernel
theorem d_Chk_numberMayBe_85 : decode prog_2_method_9_code 85 = .ok (.iload_n 1, 1) := by decide +kernel
theorem d_Chk_numberMayBe_86 : decode prog_2_method_9_code 86 = .ok (.ifCond .ne 7, 3) := by decide +kernel
theorem d_Chk_numberMayBe_89 : decode prog_2_method_9_code 89 = .ok (.iconst 1, 1) := by decide +kernel
theorem d_Chk_numberMayBe_90 : decode prog_2_method_9_code 90 = .ok (.goto 4, 3) := by decide +kernel
theorem d_Chk_numberMayBe_93 : decode prog_2_method_9_code 93 = .ok (.iconst 0, 1) := by decide +kernel
theorem d_Chk_numberMayBe_94 : decode prog_2_method_9_code 94 = .ok (.ireturn, 1) := by decide +kernel
def F_Chk_numberMayBe_94  (s0 : Int32) : Option (Int32) := ck (s0 = 0 ∨ s0 = 1) (some s0)
set_option maxRecDepth 10000 in
set_option maxHeartbeats 4000000 in
theorem bt_Chk_numberMayBe_94 {p : Program} {l : Launch} {e : Env} {R : Room} {s : State} {m : MethodId} {args : Array Value} {below : List Frame} {meth : Method} {c : Code} {D : va_G} {τ : ClassId × ClassId × ClassId} {B : Nat} {A : Nat → Prop} {ad : Nat → Nat} {σ0 : Sg} (E : Cx p R s m args meth c prog_2_method_9_code 4 "DrawingMachine$Checker" 0 D τ B A) (hret : meth.sig.returnType = (some .boolean)) (o : Int32) (s0 : Int32) (h : F_Chk_numberMayBe_94 s0 = some o) {H : Heap} {locs : List Loc} {ls : Array Slot} (w : Wd s D A (wdC τ σ0 ad) H locs) (hl : lv_has ls 4 []) : W p l e R s m args below meth c H locs 0 0 (QI below args s A D τ (wdC τ σ0 ad) o) (F0 m 94 ls [.int s0]) := by
  obtain ⟨c11, h⟩ := ck_some h
  obtain rfl := Option.some.inj h
  exact rt_z E w hret c11 d_Chk_numberMayBe_94
def F_Chk_numberMayBe_85  (v1 : Int32) : Option (Int32) := if v1 = 0 then (F_Chk_numberMayBe_94 1) else (F_Chk_numberMayBe_94 0)
set_option maxRecDepth 10000 in
set_option maxHeartbeats 4000000 in
theorem bt_Chk_numberMayBe_85 {p : Program} {l : Launch} {e : Env} {R : Room} {s : State} {m : MethodId} {args : Array Value} {below : List Frame} {meth : Method} {c : Code} {D : va_G} {τ : ClassId × ClassId × ClassId} {B : Nat} {A : Nat → Prop} {ad : Nat → Nat} {σ0 : Sg} (E : Cx p R s m args meth c prog_2_method_9_code 4 "DrawingMachine$Checker" 0 D τ B A) (hret : meth.sig.returnType = (some .boolean)) (o : Int32) (v1 : Int32) (h : F_Chk_numberMayBe_85 v1 = some o) {H : Heap} {locs : List Loc} {ls : Array Slot} (w : Wd s D A (wdC τ σ0 ad) H locs) (hl : lv_has ls 4 [(1, .int v1)]) : W p l e R s m args below meth c H locs 0 0 (QI below args s A D τ (wdC τ σ0 ad) o) (F0 m 85 ls []) := by
  refine lv_iload_n E.x E.b d_Chk_numberMayBe_85 rfl (lv_at hl 0 rfl) ?_
  refine lv_if_ne (tgt := 93) E.x E.b d_Chk_numberMayBe_86 (by decide) (fun c => ?_) (fun c => ?_)
  ·
    replace h := ifF c h
    refine lv_iconst (v := 0) E.x E.b d_Chk_numberMayBe_93 (by decide) ?_
    exact bt_Chk_numberMayBe_94 E hret o 0 h w (lv_sub hl [] rfl)
  ·
    replace h := ifT c h
    refine lv_iconst (v := 1) E.x E.b d_Chk_numberMayBe_89 (by decide) ?_
    refine lv_goto (tgt := 94) E.x E.b d_Chk_numberMayBe_90 (by decide) ?_
    exact bt_Chk_numberMayBe_94 E hret o 1 h w (lv_sub hl [] rfl)
def F_Chk_numberMayBe_84  (s0 : Int32) : Option (Int32) := ck (s0 = 0 ∨ s0 = 1) (some s0)
set_option maxRecDepth 10000 in
set_option maxHeartbeats 4000000 in
theorem bt_Chk_numberMayBe_84 {p : Program} {l : Launch} {e : Env} {R : Room} {s : State} {m : MethodId} {args : Array Value} {below : List Frame} {meth : Method} {c : Code} {D : va_G} {τ : ClassId × ClassId × ClassId} {B : Nat} {A : Nat → Prop} {ad : Nat → Nat} {σ0 : Sg} (E : Cx p R s m args meth c prog_2_method_9_code 4 "DrawingMachine$Checker" 0 D τ B A) (hret : meth.sig.returnType = (some .boolean)) (o : Int32) (s0 : Int32) (h : F_Chk_numberMayBe_84 s0 = some o) {H : Heap} {locs : List Loc} {ls : Array Slot} (w : Wd s D A (wdC τ σ0 ad) H locs) (hl : lv_has ls 4 []) : W p l e R s m args below meth c H locs 0 0 (QI below args s A D τ (wdC τ σ0 ad) o) (F0 m 84 ls [.int s0]) := by
  obtain ⟨c12, h⟩ := ck_some h
  obtain rfl := Option.some.inj h
  exact rt_z E w hret c12 d_Chk_numberMayBe_84
def F_Chk_numberMayBe_74  (v1 : Int32) : Option (Int32) := if 3 < v1 then (F_Chk_numberMayBe_84 0) else (F_Chk_numberMayBe_84 1)
set_option maxRecDepth 10000 in
set_option maxHeartbeats 4000000 in
theorem bt_Chk_numberMayBe_74 {p : Program} {l : Launch} {e : Env} {R : Room} {s : State} {m : MethodId} {args : Array Value} {below : List Frame} {meth : Method} {c : Code} {D : va_G} {τ : ClassId × ClassId × ClassId} {B : Nat} {A : Nat → Prop} {ad : Nat → Nat} {σ0 : Sg} (E : Cx p R s m args meth c prog_2_method_9_code 4 "DrawingMachine$Checker" 0 D τ B A) (hret : meth.sig.returnType = (some .boolean)) (o : Int32) (v1 : Int32) (h : F_Chk_numberMayBe_74 v1 = some o) {H : Heap} {locs : List Loc} {ls : Array Slot} (w : Wd s D A (wdC τ σ0 ad) H locs) (hl : lv_has ls 4 [(1, .int v1)]) : W p l e R s m args below meth c H locs 0 0 (QI below args s A D τ (wdC τ σ0 ad) o) (F0 m 74 ls []) := by
  refine lv_iload_n E.x E.b d_Chk_numberMayBe_74 rfl (lv_at hl 0 rfl) ?_
  refine lv_iconst (v := 3) E.x E.b d_Chk_numberMayBe_75 (by decide) ?_
  refine lv_icmp_gt (tgt := 83) E.x E.b d_Chk_numberMayBe_76 (by decide) (fun c => ?_) (fun c => ?_)
  ·
    replace h := ifT c h
    refine lv_iconst (v := 0) E.x E.b d_Chk_numberMayBe_83 (by decide) ?_
    exact bt_Chk_numberMayBe_84 E hret o 0 h w (lv_sub hl [] rfl)
  ·
    replace h := ifF c h
    refine lv_iconst (v := 1) E.x E.b d_Chk_numberMayBe_79 (by decide) ?_
    refine lv_goto (tgt := 84) E.x E.b d_Chk_numberMayBe_80 (by decide) ?_
    exact bt_Chk_numberMayBe_84 E hret o 1 h w (lv_sub hl [] rfl)
def F_Chk_numberMayBe_73  (s0 : Int32) : Option (Int32) := ck (s0 = 0 ∨ s0 = 1) (some s0)
set_option maxRecDepth 10000 in
set_option maxHeartbeats 4000000 in
theorem bt_Chk_numberMayBe_73 {p : Program} {l : Launch} {e : Env} {R : Room} {s : State} {m : MethodId} {args : Array Value} {below : List Frame} {meth : Method} {c : Code} {D : va_G} {τ : ClassId × ClassId × ClassId} {B : Nat} {A : Nat → Prop} {ad : Nat → Nat} {σ0 : Sg} (E : Cx p R s m args meth c prog_2_method_9_code 4 "DrawingMachine$Checker" 0 D τ B A) (hret : meth.sig.returnType = (some .boolean)) (o : Int32) (s0 : Int32) (h : F_Chk_numberMayBe_73 s0 = some o) {H : Heap} {locs : List Loc} {ls : Array Slot} (w : Wd s D A (wdC τ σ0 ad) H locs) (hl : lv_has ls 4 []) : W p l e R s m args below meth c H locs 0 0 (QI below args s A D τ (wdC τ σ0 ad) o) (F0 m 73 ls [.int s0]) := by
  obtain ⟨c13, h⟩ := ck_some h
  obtain rfl := Option.some.inj h
  exact rt_z E w hret c13 d_Chk_numberMayBe_73
def F_Chk_numberMayBe_72  : Option (Int32) := F_Chk_numberMayBe_73 0
set_option maxRecDepth 10000 in
set_option maxHeartbeats 4000000 in
theorem bt_Chk_numberMayBe_72 {p : Program} {l : Launch} {e : Env} {R : Room} {s : State} {m : MethodId} {args : Array Value} {below : List Frame} {meth : Method} {c : Code} {D : va_G} {τ : ClassId × ClassId × ClassId} {B : Nat} {A : Nat → Prop} {ad : Nat → Nat} {σ0 : Sg} (E : Cx p R s m args meth c prog_2_method_9_code 4 "DrawingMachine$Checker" 0 D τ B A) (hret : meth.sig.returnType = (some .boolean)) (o : Int32) (h : F_Chk_numberMayBe_72 = some o) {H : Heap} {locs : List Loc} {ls : Array Slot} (w : Wd s D A (wdC τ σ0 ad) H locs) (hl : lv_has ls 4 []) : W p l e R s m args below meth c H locs 0 0 (QI below args s A D τ (wdC τ σ0 ad) o) (F0 m 72 ls []) := by
  refine lv_iconst (v := 0) E.x E.b d_Chk_numberMayBe_72 (by decide) ?_
  exact bt_Chk_numberMayBe_73 E hret o 0 h w (lv_sub hl [] rfl)
def F_Chk_numberMayBe_55  (s0 : Int32) : Option (Int32) := ck (s0 = 0 ∨ s0 = 1) (some s0)
set_option maxRecDepth 10000 in
set_option maxHeartbeats 4000000 in
theorem bt_Chk_numberMayBe_55 {p : Program} {l : Launch} {e : Env} {R : Room} {s : State} {m : MethodId} {args : Array Value} {below : List Frame} {meth : Method} {c : Code} {D : va_G} {τ : ClassId × ClassId × ClassId} {B : Nat} {A : Nat → Prop} {ad : Nat → Nat} {σ0 : Sg} (E : Cx p R s m args meth c prog_2_method_9_code 4 "DrawingMachine$Checker" 0 D τ B A) (hret : meth.sig.returnType = (some .boolean)) (o : Int32) (s0 : Int32) (h : F_Chk_numberMayBe_55 s0 = some o) {H : Heap} {locs : List Loc} {ls : Array Slot} (w : Wd s D A (wdC τ σ0 ad) H locs) (hl : lv_has ls 4 []) : W p l e R s m args below meth c H locs 0 0 (QI below args s A D τ (wdC τ σ0 ad) o) (F0 m 55 ls [.int s0]) := by
  obtain ⟨c14, h⟩ := ck_some h
  obtain rfl := Option.some.inj h
  exact rt_z E w hret c14 d_Chk_numberMayBe_55
def F_Chk_numberMayBe_54  : Option (Int32) := F_Chk_numberMayBe_55 0
set_option maxRecDepth 10000 in
set_option maxHeartbeats 4000000 in
theorem bt_Chk_numberMayBe_54 {p : Program} {l : Launch} {e : Env} {R : Room} {s : State} {m : MethodId} {args : Array Value} {below : List Frame} {meth : Method} {c : Code} {D : va_G} {τ : ClassId × ClassId × ClassId} {B : Nat} {A : Nat → Prop} {ad : Nat → Nat} {σ0 : Sg} (E : Cx p R s m args meth c prog_2_method_9_code 4 "DrawingMachine$Checker" 0 D τ B A) (hret : meth.sig.returnType = (some .boolean)) (o : Int32) (h : F_Chk_numberMayBe_54 = some o) {H : Heap} {locs : List Loc} {ls : Array Slot} (w : Wd s D A (wdC τ σ0 ad) H locs) (hl : lv_has ls 4 []) : W p l e R s m args below meth c H locs 0 0 (QI below args s A D τ (wdC τ σ0 ad) o) (F0 m 54 ls []) := by
  refine lv_iconst (v := 0) E.x E.b d_Chk_numberMayBe_54 (by decide) ?_
  exact bt_Chk_numberMayBe_55 E hret o 0 h w (lv_sub hl [] rfl)
def F_Chk_numberMayBe_40  (v1 : Int32) (v2 : Int32) (v3 : Int32) : Option (Int32) := if v1 ≤ v2 then (F_Chk_numberMayBe_54) else (if v3 ≤ v1 then (F_Chk_numberMayBe_54) else (F_Chk_numberMayBe_55 1))
set_option maxRecDepth 10000 in
set_option maxHeartbeats 4000000 in
theorem bt_Chk_numberMayBe_40 {p : Program} {l : Launch} {e : Env} {R : Room} {s : State} {m : MethodId} {args : Array Value} {below : List Frame} {meth : Method} {c : Code} {D : va_G} {τ : ClassId × ClassId × ClassId} {B : Nat} {A : Nat → Prop} {ad : Nat → Nat} {σ0 : Sg} (E : Cx p R s m args meth c prog_2_method_9_code 4 "DrawingMachine$Checker" 0 D τ B A) (hret : meth.sig.returnType = (some .boolean)) (o : Int32) (v1 : Int32) (v2 : Int32) (v3 : Int32) (h : F_Chk_numberMayBe_40 v1 v2 v3 = some o) {H : Heap} {locs : List Loc} {ls : Array Slot} (w : Wd s D A (wdC τ σ0 ad) H locs) (hl : lv_has ls 4 [(1, .int v1), (2, .int v2), (3, .int v3)]) : W p l e R s m args below meth c H locs 0 0 (QI below args s A D τ (wdC τ σ0 ad) o) (F0 m 40 ls []) := by
  refine lv_iload_n E.x E.b d_Chk_numberMayBe_40 rfl (lv_at hl 0 rfl) ?_
  refine lv_iload_n E.x E.b d_Chk_numberMayBe_41 rfl (lv_at hl 1 rfl) ?_
  refine lv_icmp_le (tgt := 54) E.x E.b d_Chk_numberMayBe_42 (by decide) (fun c => ?_) (fun c => ?_)
  ·
    replace h := ifT c h
    exact bt_Chk_numberMayBe_54 E hret o h w (lv_sub hl [] rfl)
  ·
    replace h := ifF c h
    refine lv_iload_n E.x E.b d_Chk_numberMayBe_45 rfl (lv_at hl 0 rfl) ?_
    refine lv_iload_n E.x E.b d_Chk_numberMayBe_46 rfl (lv_at hl 2 rfl) ?_
    refine lv_icmp_ge (tgt := 54) E.x E.b d_Chk_numberMayBe_47 (by decide) (fun c => ?_) (fun c => ?_)
    ·
      replace h := ifT c h
      exact bt_Chk_numberMayBe_54 E hret o h w (lv_sub hl [] rfl)
    ·
      replace h := ifF c h
      refine lv_iconst (v := 1) E.x E.b d_Chk_numberMayBe_50 (by decide) ?_
      refine lv_goto (tgt := 55) E.x E.b d_Chk_numberMayBe_51 (by decide) ?_
      exact bt_Chk_numberMayBe_55 E hret o 1 h w (lv_sub hl [] rfl)
def F_Chk_numberMayBe  (x0 : Int32) (x1 : Int32) (x2 : Int32) (x3 : Int32) : Option (Int32) := if x0 = 32 then (F_Chk_numberMayBe_74 x1) else (if x0 = 33 then (F_Chk_numberMayBe_74 x1) else (if x0 = 34 then (if x1 < 1 then (F_Chk_numberMayBe_72) else (if 255 < x1 then (F_Chk_numberMayBe_72) else (F_Chk_numberMayBe_73 1))) else (if x0 = 35 then (F_Chk_numberMayBe_85 x1) else (if x0 = 36 then (F_Chk_numberMayBe_40 x1 x2 x3) else (if x0 = 37 then (F_Chk_numberMayBe_40 x1 x2 x3) else (F_Chk_numberMayBe_85 x1))))))
set_option maxRecDepth 10000 in
set_option maxHeartbeats 4000000 in
theorem c_Chk_numberMayBe (l : Launch) (D : va_G) (τ : ClassId × ClassId × ClassId) (B : Nat) (σ0 : Sg) (ad : Nat → Nat) (x0 : Int32) (x1 : Int32) (x2 : Int32) (x3 : Int32) (o : Int32) (h : F_Chk_numberMayBe x0 x1 x2 x3 = some o) : MI l y_Chk_numberMayBe (Cond.code y_Chk_numberMayBe prog_2_method_9_code 4 (some .boolean)) 0 D τ B [.int x0, .int x1, .int x2, .int x3] (wdC τ σ0 ad) (wdC τ σ0 ad) o := by
  refine en_i (by decide) (Nat.le_of_ble_eq_true rfl) ?_
  intro p e R s m args below meth c H locs ls A E hret w hl
  have E : Cx p R s m args meth c prog_2_method_9_code 4 "DrawingMachine$Checker" 0 D τ B A := E
  have hl : lv_has ls 4 [(0, .int x0), (1, .int x1), (2, .int x2), (3, .int x3)] := hl
  refine lv_iload_n E.x E.b d_Chk_numberMayBe_0 rfl (lv_at hl 0 rfl) ?_
  by_cases q15 : x0 = 32
  ·
    replace h := ifT q15 h
    refine wi_e (v := 32) q15 ?_
    refine lv_tableIn (off := 73) (tgt := 74) E.x E.b d_Chk_numberMayBe_1 (by decide) (by decide) (by decide) (by decide) ?_
    exact bt_Chk_numberMayBe_74 E hret o x1 h w (lv_sub hl [1] rfl)
  replace h := ifF q15 h
  replace q15 := ne_ti (k := 32) (by decide) q15
  by_cases q16 : x0 = 33
  ·
    replace h := ifT q16 h
    refine wi_e (v := 33) q16 ?_
    refine lv_tableIn (off := 73) (tgt := 74) E.x E.b d_Chk_numberMayBe_1 (by decide) (by decide) (by decide) (by decide) ?_
    exact bt_Chk_numberMayBe_74 E hret o x1 h w (lv_sub hl [1] rfl)
  replace h := ifF q16 h
  replace q16 := ne_ti (k := 33) (by decide) q16
  by_cases q17 : x0 = 34
  ·
    replace h := ifT q17 h
    refine wi_e (v := 34) q17 ?_
    refine lv_tableIn (off := 55) (tgt := 56) E.x E.b d_Chk_numberMayBe_1 (by decide) (by decide) (by decide) (by decide) ?_
    refine lv_iload_n E.x E.b d_Chk_numberMayBe_56 rfl (lv_at hl 1 rfl) ?_
    refine lv_iconst (v := 1) E.x E.b d_Chk_numberMayBe_57 (by decide) ?_
    refine lv_icmp_lt (tgt := 72) E.x E.b d_Chk_numberMayBe_58 (by decide) (fun c => ?_) (fun c => ?_)
    ·
      replace h := ifT c h
      exact bt_Chk_numberMayBe_72 E hret o h w (lv_sub hl [] rfl)
    ·
      replace h := ifF c h
      refine lv_iload_n E.x E.b d_Chk_numberMayBe_61 rfl (lv_at hl 1 rfl) ?_
      refine lv_sipush (v := 255) E.x E.b d_Chk_numberMayBe_62 (by decide) ?_
      refine lv_icmp_gt (tgt := 72) E.x E.b d_Chk_numberMayBe_65 (by decide) (fun c => ?_) (fun c => ?_)
      ·
        replace h := ifT c h
        exact bt_Chk_numberMayBe_72 E hret o h w (lv_sub hl [] rfl)
      ·
        replace h := ifF c h
        refine lv_iconst (v := 1) E.x E.b d_Chk_numberMayBe_68 (by decide) ?_
        refine lv_goto (tgt := 73) E.x E.b d_Chk_numberMayBe_69 (by decide) ?_
        exact bt_Chk_numberMayBe_73 E hret o 1 h w (lv_sub hl [] rfl)
  replace h := ifF q17 h
  replace q17 := ne_ti (k := 34) (by decide) q17
  by_cases q18 : x0 = 35
  ·
    replace h := ifT q18 h
    refine wi_e (v := 35) q18 ?_
    refine lv_tableIn (off := 84) (tgt := 85) E.x E.b d_Chk_numberMayBe_1 (by decide) (by decide) (by decide) (by decide) ?_
    exact bt_Chk_numberMayBe_85 E hret o x1 h w (lv_sub hl [1] rfl)
  replace h := ifF q18 h
  replace q18 := ne_ti (k := 35) (by decide) q18
  by_cases q19 : x0 = 36
  ·
    replace h := ifT q19 h
    refine wi_e (v := 36) q19 ?_
    refine lv_tableIn (off := 39) (tgt := 40) E.x E.b d_Chk_numberMayBe_1 (by decide) (by decide) (by decide) (by decide) ?_
    exact bt_Chk_numberMayBe_40 E hret o x1 x2 x3 h w (lv_sub hl [1, 2, 3] rfl)
  replace h := ifF q19 h
  replace q19 := ne_ti (k := 36) (by decide) q19
  by_cases q20 : x0 = 37
  ·
    replace h := ifT q20 h
    refine wi_e (v := 37) q20 ?_
    refine lv_tableIn (off := 39) (tgt := 40) E.x E.b d_Chk_numberMayBe_1 (by decide) (by decide) (by decide) (by decide) ?_
    exact bt_Chk_numberMayBe_40 E hret o x1 x2 x3 h w (lv_sub hl [1, 2, 3] rfl)
  replace h := ifF q20 h
  replace q20 := ne_ti (k := 37) (by decide) q20
  refine lv_tableOut (tgt := 85) E.x E.b d_Chk_numberMayBe_1 (by omega) (by decide) ?_
  exact bt_Chk_numberMayBe_85 E hret o x1 h w (lv_sub hl [1] rfl)
theorem clS_Chk_numberMayBe {p : Program} {l : Launch} {e : Env} {R : Room} {s : State} {m : MethodId} {args : Array Value} {below : List Frame} {meth : Method} {c : Code} {H : Heap} {locs : List Loc} {Q : State → Prop} {cc : ByteArray} {nL pc lev : Nat} {own : String} {D : va_G} {τ : ClassId × ClassId × ClassId} {B : Nat} {A : Nat → Prop} {σ : Sg} {ad : Nat → Nat} {ls : Array Slot} {rest : List Value} (E : Cx p R s m args meth c cc nL own lev D τ B A) (w : Wd s D A (wdC τ σ ad) H locs) {x0 : Int32} {x1 : Int32} {x2 : Int32} {x3 : Int32} {o : Int32} (h : F_Chk_numberMayBe x0 x1 x2 x3 = some o) {index : Nat} (hlk : Cond.methodLink own index y_Chk_numberMayBe ∈ tw) (hlev : 0 < lev) (hsz : ls.size = nL) (hr : (rest.map fun v => v.category).sum ≤ 8) (hd : decode cc pc = .ok (.invokestatic index, 3)) (kk : ∀ (H1 : Heap) (locs1 : List Loc), Wd s D A (wdC τ σ ad) H1 locs1 → W p l e R s m args below meth c H1 locs1 0 0 Q (F0 m (pc + 3) ls (.int o :: rest))) : W p l e R s m args below meth c H locs 0 0 Q (F0 m pc ls (.int x3 :: .int x2 :: .int x1 :: .int x0 :: rest)) :=
  cr_i w E.C (va_runS (As := [.int x0, .int x1, .int x2, .int x3]) (rest := rest) E.fix (c_Chk_numberMayBe l D τ B σ ad x0 x1 x2 x3 o h H.size) (va_cwS 4 E.w (tw_pre (tw_good k1330) (l := [_, _, _]) (List.forall_mem_cons.mpr ⟨hlk, List.forall_mem_cons.mpr ⟨k1329, List.forall_mem_cons.mpr ⟨k6, fun _ h => absurd h List.not_mem_nil⟩⟩⟩)) rfl rfl rfl (by decide +kernel) (E.rm hlev (by decide))) (wd_pre w E.C [.int x0, .int x1, .int x2, .int x3]) rfl rfl hsz rfl (lv_room hr) hd ⟨Nat.zero_le _, Nat.zero_le _⟩) kk

theorem d_Chk_sourceMayBe_0 : decode prog_2_method_8_code 0 = .ok (.iload_n 0, 1) := by decide +kernel
theorem d_Chk_sourceMayBe_1 : decode prog_2_method_8_code 1 = .ok (.ifCond .ne 13, 3) := by decide +kernel
theorem d_Chk_sourceMayBe_4 : decode prog_2_method_8_code 4 = .ok (.iload_n 1, 1) := by decide +kernel
theorem d_Chk_sourceMayBe_5 : decode prog_2_method_8_code 5 = .ok (.ifCond .ne 7, 3) := by decide +kernel
theorem d_Chk_sourceMayBe_8 : decode prog_2_method_8_code 8 = .ok (.iconst 1, 1) := by decide +kernel
theorem d_Chk_sourceMayBe_9 : decode prog_2_method_8_code 9 = .ok (.goto 4, 3) := by decide +kernel
theorem d_Chk_sourceMayBe_12 : decode prog_2_method_8_code 12 = .ok (.iconst 0, 1) := by decide +kernel
theorem d_Chk_sourceMayBe_13 : decode prog_2_method_8_code 13 = .ok (.ireturn, 1) := by decide +kernel
theorem d_Chk_sourceMayBe_14 : decode prog_2_method_8_code 14 = .ok (.iload_n 1, 1) := by decide +kernel
theorem d_Chk_sourceMayBe_15 : decode prog_2_method_8_code 15 = .ok (.iconst 2, 1) := by decide +kernel
theorem d_Chk_sourceMayBe_16 : decode prog_2_method_8_code 16 = .ok (.iushr, 1) := by decide +kernel
theorem d_Chk_sourceMayBe_17 : decode prog_2_method_8_code 17 = .ok (.bipush 31, 2) := by decide +kernel
theorem d_Chk_sourceMayBe_19 : decode prog_2_method_8_code 19 = .ok (.iand, 1) := by decide +kernel
theorem d_Chk_sourceMayBe_20 : decode prog_2_method_8_code 20 = .ok (.istore_n 2, 1) := by decide +kernel
theorem d_Chk_sourceMayBe_21 : decode prog_2_method_8_code 21 = .ok (.iload_n 1, 1) := by decide +kernel
theorem d_Chk_sourceMayBe_22 : decode prog_2_method_8_code 22 = .ok (.iconst 3, 1) := by decide +kernel
theorem d_Chk_sourceMayBe_23 : decode prog_2_method_8_code 23 = .ok (.iand, 1) := by decide +kernel
theorem d_Chk_sourceMayBe_24 : decode prog_2_method_8_code 24 = .ok (.tableswitch 54 0 2 #[28, 40, 52], 28) := by decide +kernel
theorem d_Chk_sourceMayBe_52 : decode prog_2_method_8_code 52 = .ok (.iload_n 2, 1) := by decide +kernel
theorem d_Chk_sourceMayBe_53 : decode prog_2_method_8_code 53 = .ok (.bipush 15, 2) := by decide +kernel
theorem d_Chk_sourceMayBe_55 : decode prog_2_method_8_code 55 = .ok (.if_icmp .gt 7, 3) := by decide +kernel
theorem d_Chk_sourceMayBe_58 : decode prog_2_method_8_code 58 = .ok (.iconst 1, 1) := by decide +kernel
theorem d_Chk_sourceMayBe_59 : decode prog_2_method_8_code 59 = .ok (.goto 4, 3) := by decide +kernel
theorem d_Chk_sourceMayBe_62 : decode prog_2_method_8_code 62 = .ok (.iconst 0, 1) := by decide +kernel
theorem d_Chk_sourceMayBe_63 : decode prog_2_method_8_code 63 = .ok (.ireturn, 1) := by decide +kernel
theorem d_Chk_sourceMayBe_64 : decode prog_2_method_8_code 64 = .ok (.iload_n 2, 1) := by decide +kernel
theorem d_Chk_sourceMayBe_65 : decode prog_2_method_8_code 65 = .ok (.bipush 7, 2) := by decide +kernel
theorem d_Chk_sourceMayBe_67 : decode prog_2_method_8_code 67 = .ok (.if_icmp .gt 7, 3) := by decide +kernel
theorem d_Chk_sourceMayBe_70 : decode prog_2_method_8_code 70 = .ok (.iconst 1, 1) := by decide +kernel
theorem d_Chk_sourceMayBe_71 : decode prog_2_method_8_code 71 = .ok (.goto 4, 3) := by decide +kernel
theorem d_Chk_sourceMayBe_74 : decode prog_2_method_8_code 74 = .ok (.iconst 0, 1) := by decide +kernel
theorem d_Chk_sourceMayBe_75 : decode prog_2_method_8_code 75 = .ok (.ireturn, 1) := by decide +kernel
theorem d_Chk_sourceMayBe_76 : decode prog_2_method_8_code 76 = .ok (.iconst 1, 1) := by decide +kernel
theorem d_Chk_sourceMayBe_77 : decode prog_2_method_8_code 77 = .ok (.ireturn, 1) := by decide +kernel
theorem d_Chk_sourceMayBe_78 : decode prog_2_method_8_code 78 = .ok (.iload_n 2, 1) := by decide +kernel
theorem d_Chk_sourceMayBe_79 : decode prog_2_method_8_code 79 = .ok (.ifCond .ne 7, 3) := by decide +kernel
theorem d_Chk_sourceMayBe_82 : decode prog_2_method_8_code 82 = .ok (.iconst 1, 1) := by decide +kernel
theorem d_Chk_sourceMayBe_83 : decode prog_2_method_8_code 83 = .ok (.goto 4, 3) := by decide +kernel
theorem d_Chk_sourceMayBe_86 : decode prog_2_method_8_code 86 = .ok (.iconst 0, 1) := by decide +kernel
theorem d_Chk_sourceMayBe_87 : decode prog_2_method_8_code 87 = .ok (.ireturn, 1) := by decide +kernel
def F_Chk_sourceMayBe_87  (s0 : Int32) : Option (Int32) := ck (s0 = 0 ∨ s0 = 1) (some s0)
set_option maxRecDepth 10000 in
set_option maxHeartbeats 4000000 in
theorem bt_Chk_sourceMayBe_87 {p : Program} {l : Launch} {e : Env} {R : Room} {s : State} {m : MethodId} {args : Array Value} {below : List Frame} {meth : Method} {c : Code} {D : va_G} {τ : ClassId × ClassId × ClassId} {B : Nat} {A : Nat → Prop} {ad : Nat → Nat} {σ0 : Sg} (E : Cx p R s m args meth c prog_2_method_8_code 3 "DrawingMachine$Checker" 0 D τ B A) (hret : meth.sig.returnType = (some .boolean)) (o : Int32) (s0 : Int32) (h : F_Chk_sourceMayBe_87 s0 = some o) {H : Heap} {locs : List Loc} {ls : Array Slot} (w : Wd s D A (wdC τ σ0 ad) H locs) (hl : lv_has ls 3 []) : W p l e R s m args below meth c H locs 0 0 (QI below args s A D τ (wdC τ σ0 ad) o) (F0 m 87 ls [.int s0]) := by
  obtain ⟨c10, h⟩ := ck_some h
  obtain rfl := Option.some.inj h
  exact rt_z E w hret c10 d_Chk_sourceMayBe_87
def F_Chk_sourceMayBe_75  (s0 : Int32) : Option (Int32) := ck (s0 = 0 ∨ s0 = 1) (some s0)
set_option maxRecDepth 10000 in
set_option maxHeartbeats 4000000 in
theorem bt_Chk_sourceMayBe_75 {p : Program} {l : Launch} {e : Env} {R : Room} {s : State} {m : MethodId} {args : Array Value} {below : List Frame} {meth : Method} {c : Code} {D : va_G} {τ : ClassId × ClassId × ClassId} {B : Nat} {A : Nat → Prop} {ad : Nat → Nat} {σ0 : Sg} (E : Cx p R s m args meth c prog_2_method_8_code 3 "DrawingMachine$Checker" 0 D τ B A) (hret : meth.sig.returnType = (some .boolean)) (o : Int32) (s0 : Int32) (h : F_Chk_sourceMayBe_75 s0 = some o) {H : Heap} {locs : List Loc} {ls : Array Slot} (w : Wd s D A (wdC τ σ0 ad) H locs) (hl : lv_has ls 3 []) : W p l e R s m args below meth c H locs 0 0 (QI below args s A D τ (wdC τ σ0 ad) o) (F0 m 75 ls [.int s0]) := by
  obtain ⟨c11, h⟩ := ck_some h
  obtain rfl := Option.some.inj h
  exact rt_z E w hret c11 d_Chk_sourceMayBe_75
def F_Chk_sourceMayBe_63  (s0 : Int32) : Option (Int32) := ck (s0 = 0 ∨ s0 = 1) (some s0)
set_option maxRecDepth 10000 in
set_option maxHeartbeats 4000000 in
theorem bt_Chk_sourceMayBe_63 {p : Program} {l : Launch} {e : Env} {R : Room} {s : State} {m : MethodId} {args : Array Value} {below : List Frame} {meth : Method} {c : Code} {D : va_G} {τ : ClassId × ClassId × ClassId} {B : Nat} {A : Nat → Prop} {ad : Nat → Nat} {σ0 : Sg} (E : Cx p R s m args meth c prog_2_method_8_code 3 "DrawingMachine$Checker" 0 D τ B A) (hret : meth.sig.returnType = (some .boolean)) (o : Int32) (s0 : Int32) (h : F_Chk_sourceMayBe_63 s0 = some o) {H : Heap} {locs : List Loc} {ls : Array Slot} (w : Wd s D A (wdC τ σ0 ad) H locs) (hl : lv_has ls 3 []) : W p l e R s m args below meth c H locs 0 0 (QI below args s A D τ (wdC τ σ0 ad) o) (F0 m 63 ls [.int s0]) := by
  obtain ⟨c12, h⟩ := ck_some h
  obtain rfl := Option.some.inj h
  exact rt_z E w hret c12 d_Chk_sourceMayBe_63
def F_Chk_sourceMayBe_13  (s0 : Int32) : Option (Int32) := ck (s0 = 0 ∨ s0 = 1) (some s0)
set_option maxRecDepth 10000 in
set_option maxHeartbeats 4000000 in
theorem bt_Chk_sourceMayBe_13 {p : Program} {l : Launch} {e : Env} {R : Room} {s : State} {m : MethodId} {args : Array Value} {below : List Frame} {meth : Method} {c : Code} {D : va_G} {τ : ClassId × ClassId × ClassId} {B : Nat} {A : Nat → Prop} {ad : Nat → Nat} {σ0 : Sg} (E : Cx p R s m args meth c prog_2_method_8_code 3 "DrawingMachine$Checker" 0 D τ B A) (hret : meth.sig.returnType = (some .boolean)) (o : Int32) (s0 : Int32) (h : F_Chk_sourceMayBe_13 s0 = some o) {H : Heap} {locs : List Loc} {ls : Array Slot} (w : Wd s D A (wdC τ σ0 ad) H locs) (hl : lv_has ls 3 []) : W p l e R s m args below meth c H locs 0 0 (QI below args s A D τ (wdC τ σ0 ad) o) (F0 m 13 ls [.int s0]) := by
  obtain ⟨c13, h⟩ := ck_some h
  obtain rfl := Option.some.inj h
  exact rt_z E w hret c13 d_Chk_sourceMayBe_13
def F_Chk_sourceMayBe  (x0 : Int32) (x1 : Int32) : Option (Int32) := if x0 = 0 then (if x1 = 0 then (F_Chk_sourceMayBe_13 1) else (F_Chk_sourceMayBe_13 0)) else (lt ((ushr x1 2) &&& 31) (fun y14 => lt (x1 &&& 3) (fun y15 => if y15 = 0 then (if 15 < y14 then (F_Chk_sourceMayBe_63 0) else (F_Chk_sourceMayBe_63 1)) else (if y15 = 1 then (if 7 < y14 then (F_Chk_sourceMayBe_75 0) else (F_Chk_sourceMayBe_75 1)) else (if y15 = 2 then (some 1) else (if y14 = 0 then (F_Chk_sourceMayBe_87 1) else (F_Chk_sourceMayBe_87 0)))))))
set_option maxRecDepth 10000 in
set_option maxHeartbeats 4000000 in
theorem c_Chk_sourceMayBe (l : Launch) (D : va_G) (τ : ClassId × ClassId × ClassId) (B : Nat) (σ0 : Sg) (ad : Nat → Nat) (x0 : Int32) (x1 : Int32) (o : Int32) (h : F_Chk_sourceMayBe x0 x1 = some o) : MI l y_Chk_sourceMayBe (Cond.code y_Chk_sourceMayBe prog_2_method_8_code 3 (some .boolean)) 0 D τ B [.int x0, .int x1] (wdC τ σ0 ad) (wdC τ σ0 ad) o := by
  refine en_i (by decide) (Nat.le_of_ble_eq_true rfl) ?_
  intro p e R s m args below meth c H locs ls A E hret w hl
  have E : Cx p R s m args meth c prog_2_method_8_code 3 "DrawingMachine$Checker" 0 D τ B A := E
  have hl : lv_has ls 3 [(0, .int x0), (1, .int x1)] := hl
  refine lv_iload_n E.x E.b d_Chk_sourceMayBe_0 rfl (lv_at hl 0 rfl) ?_
  refine lv_if_ne (tgt := 14) E.x E.b d_Chk_sourceMayBe_1 (by decide) (fun c => ?_) (fun c => ?_)
  ·
    replace h := ifF c h
    refine lv_iload_n E.x E.b d_Chk_sourceMayBe_14 rfl (lv_at hl 1 rfl) ?_
    refine lv_iconst (v := 2) E.x E.b d_Chk_sourceMayBe_15 (by decide) ?_
    refine lv_iushr (v := ushr x1 2) E.x E.b d_Chk_sourceMayBe_16 rfl ?_
    refine lv_bipush (v := 31) E.x E.b d_Chk_sourceMayBe_17 (by decide) ?_
    refine lv_iand E.x E.b d_Chk_sourceMayBe_19 ?_
    obtain ⟨y14, e_y14, h⟩ := lt_some h
    refine wi_e (v := y14) e_y14 ?_
    refine lv_istore_n (lv' := [(2, .int y14), (0, .int x0), (1, .int x1)]) E.x E.b d_Chk_sourceMayBe_20 rfl hl (by decide) rfl (fun ls hl => ?_)
    refine lv_iload_n E.x E.b d_Chk_sourceMayBe_21 rfl (lv_at hl 2 rfl) ?_
    refine lv_iconst (v := 3) E.x E.b d_Chk_sourceMayBe_22 (by decide) ?_
    refine lv_iand E.x E.b d_Chk_sourceMayBe_23 ?_
    obtain ⟨y15, e_y15, h⟩ := lt_some h
    refine wi_e (v := y15) e_y15 ?_
    by_cases q16 : y15 = 0
    ·
      replace h := ifT q16 h
      refine wi_e (v := 0) q16 ?_
      refine lv_tableIn (off := 28) (tgt := 52) E.x E.b d_Chk_sourceMayBe_24 (by decide) (by decide) (by decide) (by decide) ?_
      refine lv_iload_n E.x E.b d_Chk_sourceMayBe_52 rfl (lv_at hl 0 rfl) ?_
      refine lv_bipush (v := 15) E.x E.b d_Chk_sourceMayBe_53 (by decide) ?_
      refine lv_icmp_gt (tgt := 62) E.x E.b d_Chk_sourceMayBe_55 (by decide) (fun c => ?_) (fun c => ?_)
      ·
        replace h := ifT c h
        refine lv_iconst (v := 0) E.x E.b d_Chk_sourceMayBe_62 (by decide) ?_
        exact bt_Chk_sourceMayBe_63 E hret o 0 h w (lv_sub hl [] rfl)
      ·
        replace h := ifF c h
        refine lv_iconst (v := 1) E.x E.b d_Chk_sourceMayBe_58 (by decide) ?_
        refine lv_goto (tgt := 63) E.x E.b d_Chk_sourceMayBe_59 (by decide) ?_
        exact bt_Chk_sourceMayBe_63 E hret o 1 h w (lv_sub hl [] rfl)
    replace h := ifF q16 h
    replace q16 := ne_ti (k := 0) (by decide) q16
    by_cases q17 : y15 = 1
    ·
      replace h := ifT q17 h
      refine wi_e (v := 1) q17 ?_
      refine lv_tableIn (off := 40) (tgt := 64) E.x E.b d_Chk_sourceMayBe_24 (by decide) (by decide) (by decide) (by decide) ?_
      refine lv_iload_n E.x E.b d_Chk_sourceMayBe_64 rfl (lv_at hl 0 rfl) ?_
      refine lv_bipush (v := 7) E.x E.b d_Chk_sourceMayBe_65 (by decide) ?_
      refine lv_icmp_gt (tgt := 74) E.x E.b d_Chk_sourceMayBe_67 (by decide) (fun c => ?_) (fun c => ?_)
      ·
        replace h := ifT c h
        refine lv_iconst (v := 0) E.x E.b d_Chk_sourceMayBe_74 (by decide) ?_
        exact bt_Chk_sourceMayBe_75 E hret o 0 h w (lv_sub hl [] rfl)
      ·
        replace h := ifF c h
        refine lv_iconst (v := 1) E.x E.b d_Chk_sourceMayBe_70 (by decide) ?_
        refine lv_goto (tgt := 75) E.x E.b d_Chk_sourceMayBe_71 (by decide) ?_
        exact bt_Chk_sourceMayBe_75 E hret o 1 h w (lv_sub hl [] rfl)
    replace h := ifF q17 h
    replace q17 := ne_ti (k := 1) (by decide) q17
    by_cases q18 : y15 = 2
    ·
      replace h := ifT q18 h
      refine wi_e (v := 2) q18 ?_
      refine lv_tableIn (off := 52) (tgt := 76) E.x E.b d_Chk_sourceMayBe_24 (by decide) (by decide) (by decide) (by decide) ?_
      refine lv_iconst (v := 1) E.x E.b d_Chk_sourceMayBe_76 (by decide) ?_
      obtain rfl := Option.some.inj h
      exact rt_z E w hret (show (1 : Int32) = 0 ∨ (1 : Int32) = 1 by decide) d_Chk_sourceMayBe_77
    replace h := ifF q18 h
    replace q18 := ne_ti (k := 2) (by decide) q18
    refine lv_tableOut (tgt := 78) E.x E.b d_Chk_sourceMayBe_24 (by omega) (by decide) ?_
    refine lv_iload_n E.x E.b d_Chk_sourceMayBe_78 rfl (lv_at hl 0 rfl) ?_
    refine lv_if_ne (tgt := 86) E.x E.b d_Chk_sourceMayBe_79 (by decide) (fun c => ?_) (fun c => ?_)
    ·
      replace h := ifF c h
      refine lv_iconst (v := 0) E.x E.b d_Chk_sourceMayBe_86 (by decide) ?_
      exact bt_Chk_sourceMayBe_87 E hret o 0 h w (lv_sub hl [] rfl)
    ·
      replace h := ifT c h
      refine lv_iconst (v := 1) E.x E.b d_Chk_sourceMayBe_82 (by decide) ?_
      refine lv_goto (tgt := 87) E.x E.b d_Chk_sourceMayBe_83 (by decide) ?_
      exact bt_Chk_sourceMayBe_87 E hret o 1 h w (lv_sub hl [] rfl)
  ·
    replace h := ifT c h
    refine lv_iload_n E.x E.b d_Chk_sourceMayBe_4 rfl (lv_at hl 1 rfl) ?_
    refine lv_if_ne (tgt := 12) E.x E.b d_Chk_sourceMayBe_5 (by decide) (fun c => ?_) (fun c => ?_)
    ·
      replace h := ifF c h
      refine lv_iconst (v := 0) E.x E.b d_Chk_sourceMayBe_12 (by decide) ?_
      exact bt_Chk_sourceMayBe_13 E hret o 0 h w (lv_sub hl [] rfl)
    ·
      replace h := ifT c h
      refine lv_iconst (v := 1) E.x E.b d_Chk_sourceMayBe_8 (by decide) ?_
      refine lv_goto (tgt := 13) E.x E.b d_Chk_sourceMayBe_9 (by decide) ?_
      exact bt_Chk_sourceMayBe_13 E hret o 1 h w (lv_sub hl [] rfl)
theorem clS_Chk_sourceMayBe {p : Program} {l : Launch} {e : Env} {R : Room} {s : State} {m : MethodId} {args : Array Value} {below : List Frame} {meth : Method} {c : Code} {H : Heap} {locs : List Loc} {Q : State → Prop} {cc : ByteArray} {nL pc lev : Nat} {own : String} {D : va_G} {τ : ClassId × ClassId × ClassId} {B : Nat} {A : Nat → Prop} {σ : Sg} {ad : Nat → Nat} {ls : Array Slot} {rest : List Value} (E : Cx p R s m args meth c cc nL own lev D τ B A) (w : Wd s D A (wdC τ σ ad) H locs) {x0 : Int32} {x1 : Int32} {o : Int32} (h : F_Chk_sourceMayBe x0 x1 = some o) {index : Nat} (hlk : Cond.methodLink own index y_Chk_sourceMayBe ∈ tw) (hlev : 0 < lev) (hsz : ls.size = nL) (hr : (rest.map fun v => v.category).sum ≤ 8) (hd : decode cc pc = .ok (.invokestatic index, 3)) (kk : ∀ (H1 : Heap) (locs1 : List Loc), Wd s D A (wdC τ σ ad) H1 locs1 → W p l e R s m args below meth c H1 locs1 0 0 Q (F0 m (pc + 3) ls (.int o :: rest))) : W p l e R s m args below meth c H locs 0 0 Q (F0 m pc ls (.int x1 :: .int x0 :: rest)) :=
  cr_i w E.C (va_runS (As := [.int x0, .int x1]) (rest := rest) E.fix (c_Chk_sourceMayBe l D τ B σ ad x0 x1 o h H.size) (va_cwS 2 E.w (tw_pre (tw_good k1327) (l := [_, _, _]) (List.forall_mem_cons.mpr ⟨hlk, List.forall_mem_cons.mpr ⟨k1326, List.forall_mem_cons.mpr ⟨k6, fun _ h => absurd h List.not_mem_nil⟩⟩⟩)) rfl rfl rfl (by decide +kernel) (E.rm hlev (by decide))) (wd_pre w E.C [.int x0, .int x1]) rfl rfl hsz rfl (lv_room hr) hd ⟨Nat.zero_le _, Nat.zero_le _⟩) kk

theorem d_Chk_sourcesMayBe_0 : decode prog_2_method_7_code 0 = .ok (.iload_n 0, 1) := by decide +kernel
theorem d_Chk_sourcesMayBe_1 : decode prog_2_method_7_code 1 = .ok (.iconst 1, 1) := by decide +kernel
theorem d_Chk_sourcesMayBe_2 : decode prog_2_method_7_code 2 = .ok (.if_icmp .lt 7, 3) := by decide +kernel
theorem d_Chk_sourcesMayBe_5 : decode prog_2_method_7_code 5 = .ok (.iconst 1, 1) := by decide +kernel
theorem d_Chk_sourcesMayBe_6 : decode prog_2_method_7_code 6 = .ok (.goto 4, 3) := by decide +kernel
theorem d_Chk_sourcesMayBe_9 : decode prog_2_method_7_code 9 = .ok (.iconst 0, 1) := by decide +kernel
theorem d_Chk_sourcesMayBe_10 : decode prog_2_method_7_code 10 = .ok (.iload_n 1, 1) := by decide +kernel
theorem d_Chk_sourcesMayBe_11 : decode prog_2_method_7_code 11 = .ok (.ldc 85, 2) := by decide +kernel
theorem d_Chk_sourcesMayBe_13 : decode prog_2_method_7_code 13 = .ok (.iand, 1) := by decide +kernel
theorem d_Chk_sourcesMayBe_14 : decode prog_2_method_7_code 14 = .ok (.invokestatic 86, 3) := by decide +kernel
theorem d_Chk_sourcesMayBe_17 : decode prog_2_method_7_code 17 = .ok (.ifCond .eq 54, 3) := by decide +kernel
theorem d_Chk_sourcesMayBe_20 : decode prog_2_method_7_code 20 = .ok (.iload_n 0, 1) := by decide +kernel
theorem d_Chk_sourcesMayBe_21 : decode prog_2_method_7_code 21 = .ok (.iconst 2, 1) := by decide +kernel
theorem d_Chk_sourcesMayBe_22 : decode prog_2_method_7_code 22 = .ok (.if_icmp .lt 7, 3) := by decide +kernel
theorem d_Chk_sourcesMayBe_25 : decode prog_2_method_7_code 25 = .ok (.iconst 1, 1) := by decide +kernel
theorem d_Chk_sourcesMayBe_26 : decode prog_2_method_7_code 26 = .ok (.goto 4, 3) := by decide +kernel
theorem d_Chk_sourcesMayBe_29 : decode prog_2_method_7_code 29 = .ok (.iconst 0, 1) := by decide +kernel
theorem d_Chk_sourcesMayBe_30 : decode prog_2_method_7_code 30 = .ok (.iload_n 1, 1) := by decide +kernel
theorem d_Chk_sourcesMayBe_31 : decode prog_2_method_7_code 31 = .ok (.bipush 16, 2) := by decide +kernel
theorem d_Chk_sourcesMayBe_33 : decode prog_2_method_7_code 33 = .ok (.iushr, 1) := by decide +kernel
theorem d_Chk_sourcesMayBe_34 : decode prog_2_method_7_code 34 = .ok (.invokestatic 86, 3) := by decide +kernel
theorem d_Chk_sourcesMayBe_37 : decode prog_2_method_7_code 37 = .ok (.ifCond .eq 34, 3) := by decide +kernel
theorem d_Chk_sourcesMayBe_40 : decode prog_2_method_7_code 40 = .ok (.iload_n 0, 1) := by decide +kernel
theorem d_Chk_sourcesMayBe_41 : decode prog_2_method_7_code 41 = .ok (.iconst 3, 1) := by decide +kernel
theorem d_Chk_sourcesMayBe_42 : decode prog_2_method_7_code 42 = .ok (.if_icmp .lt 7, 3) := by decide +kernel
theorem d_Chk_sourcesMayBe_45 : decode prog_2_method_7_code 45 = .ok (.iconst 1, 1) := by decide +kernel
theorem d_Chk_sourcesMayBe_46 : decode prog_2_method_7_code 46 = .ok (.goto 4, 3) := by decide +kernel
theorem d_Chk_sourcesMayBe_49 : decode prog_2_method_7_code 49 = .ok (.iconst 0, 1) := by decide +kernel
theorem d_Chk_sourcesMayBe_50 : decode prog_2_method_7_code 50 = .ok (.iload_n 2, 1) := by decide +kernel
theorem d_Chk_sourcesMayBe_51 : decode prog_2_method_7_code 51 = .ok (.ldc 85, 2) := by decide +kernel
theorem d_Chk_sourcesMayBe_53 : decode prog_2_method_7_code 53 = .ok (.iand, 1) := by decide +kernel
theorem d_Chk_sourcesMayBe_54 : decode prog_2_method_7_code 54 = .ok (.invokestatic 86, 3) := by decide +kernel
theorem d_Chk_sourcesMayBe_57 : decode prog_2_method_7_code 57 = .ok (.ifCond .eq 14, 3) := by decide +kernel
theorem d_Chk_sourcesMayBe_60 : decode prog_2_method_7_code 60 = .ok (.iload_n 2, 1) := by decide +kernel
theorem d_Chk_sourcesMayBe_61 : decode prog_2_method_7_code 61 = .ok (.bipush 16, 2) := by decide +kernel
theorem d_Chk_sourcesMayBe_63 : decode prog_2_method_7_code 63 = .ok (.iushr, 1) := by decide +kernel
theorem d_Chk_sourcesMayBe_64 : decode prog_2_method_7_code 64 = .ok (.ifCond .ne 7, 3) := by decide +kernel
theorem d_Chk_sourcesMayBe_67 : decode prog_2_method_7_code 67 = .ok (.iconst 1, 1) := by decide +kernel
theorem d_Chk_sourcesMayBe_68 : decode prog_2_method_7_code 68 = .ok (.goto 4, 3) := by decide +kernel
theorem d_Chk_sourcesMayBe_71 : decode prog_2_method_7_code 71 = .ok (.iconst 0, 1) := by decide +kernel
theorem d_Chk_sourcesMayBe_72 : decode prog_2_method_7_code 72 = .ok (.ireturn, 1) := by decide +kernel
def F_Chk_sourcesMayBe_72  (s0 : Int32) : Option (Int32) := ck (s0 = 0 ∨ s0 = 1) (some s0)
set_option maxRecDepth 10000 in
set_option maxHeartbeats 4000000 in
theorem bt_Chk_sourcesMayBe_72 {p : Program} {l : Launch} {e : Env} {R : Room} {s : State} {m : MethodId} {args : Array Value} {below : List Frame} {meth : Method} {c : Code} {D : va_G} {τ : ClassId × ClassId × ClassId} {B : Nat} {A : Nat → Prop} {ad : Nat → Nat} {σ0 : Sg} (E : Cx p R s m args meth c prog_2_method_7_code 3 "DrawingMachine$Checker" 1 D τ B A) (hret : meth.sig.returnType = (some .boolean)) (o : Int32) (s0 : Int32) (h : F_Chk_sourcesMayBe_72 s0 = some o) {H : Heap} {locs : List Loc} {ls : Array Slot} (w : Wd s D A (wdC τ σ0 ad) H locs) (hl : lv_has ls 3 []) : W p l e R s m args below meth c H locs 0 0 (QI below args s A D τ (wdC τ σ0 ad) o) (F0 m 72 ls [.int s0]) := by
  obtain ⟨c5, h⟩ := ck_some h
  obtain rfl := Option.some.inj h
  exact rt_z E w hret c5 d_Chk_sourcesMayBe_72
def F_Chk_sourcesMayBe_71  : Option (Int32) := F_Chk_sourcesMayBe_72 0
set_option maxRecDepth 10000 in
set_option maxHeartbeats 4000000 in
theorem bt_Chk_sourcesMayBe_71 {p : Program} {l : Launch} {e : Env} {R : Room} {s : State} {m : MethodId} {args : Array Value} {below : List Frame} {meth : Method} {c : Code} {D : va_G} {τ : ClassId × ClassId × ClassId} {B : Nat} {A : Nat → Prop} {ad : Nat → Nat} {σ0 : Sg} (E : Cx p R s m args meth c prog_2_method_7_code 3 "DrawingMachine$Checker" 1 D τ B A) (hret : meth.sig.returnType = (some .boolean)) (o : Int32) (h : F_Chk_sourcesMayBe_71 = some o) {H : Heap} {locs : List Loc} {ls : Array Slot} (w : Wd s D A (wdC τ σ0 ad) H locs) (hl : lv_has ls 3 []) : W p l e R s m args below meth c H locs 0 0 (QI below args s A D τ (wdC τ σ0 ad) o) (F0 m 71 ls []) := by
  refine lv_iconst (v := 0) E.x E.b d_Chk_sourcesMayBe_71 (by decide) ?_
  exact bt_Chk_sourcesMayBe_72 E hret o 0 h w (lv_sub hl [] rfl)
def F_Chk_sourcesMayBe_50  (v2 : Int32) (s0 : Int32) : Option (Int32) := bd (F_Chk_sourceMayBe s0 (v2 &&& 65535)) (fun o6 => if o6 = 0 then (F_Chk_sourcesMayBe_71) else (if (ushr v2 16) = 0 then (F_Chk_sourcesMayBe_72 1) else (F_Chk_sourcesMayBe_71)))
set_option maxRecDepth 10000 in
set_option maxHeartbeats 4000000 in
theorem bt_Chk_sourcesMayBe_50 {p : Program} {l : Launch} {e : Env} {R : Room} {s : State} {m : MethodId} {args : Array Value} {below : List Frame} {meth : Method} {c : Code} {D : va_G} {τ : ClassId × ClassId × ClassId} {B : Nat} {A : Nat → Prop} {ad : Nat → Nat} {σ0 : Sg} (E : Cx p R s m args meth c prog_2_method_7_code 3 "DrawingMachine$Checker" 1 D τ B A) (hret : meth.sig.returnType = (some .boolean)) (o : Int32) (v2 : Int32) (s0 : Int32) (h : F_Chk_sourcesMayBe_50 v2 s0 = some o) {H : Heap} {locs : List Loc} {ls : Array Slot} (w : Wd s D A (wdC τ σ0 ad) H locs) (hl : lv_has ls 3 [(2, .int v2)]) : W p l e R s m args below meth c H locs 0 0 (QI below args s A D τ (wdC τ σ0 ad) o) (F0 m 50 ls [.int s0]) := by
  refine lv_iload_n E.x E.b d_Chk_sourcesMayBe_50 rfl (lv_at hl 0 rfl) ?_
  refine lv_ldc (v := 65535) E.x E.b E.o (E.w _ k1324) d_Chk_sourcesMayBe_51 ?_
  refine lv_iand E.x E.b d_Chk_sourcesMayBe_53 ?_
  obtain ⟨o6, h_o6, h⟩ := bd_some h
  refine clS_Chk_sourceMayBe E w (x0 := s0) (x1 := (v2 &&& 65535)) h_o6 k1325 (by decide) hl.1 (Nat.le_of_ble_eq_true rfl) d_Chk_sourcesMayBe_54 (fun H locs w => ?_)
  refine lv_if_eq (tgt := 71) E.x E.b d_Chk_sourcesMayBe_57 (by decide) (fun c => ?_) (fun c => ?_)
  ·
    replace h := ifT c h
    exact bt_Chk_sourcesMayBe_71 E hret o h w (lv_sub hl [] rfl)
  ·
    replace h := ifF c h
    refine lv_iload_n E.x E.b d_Chk_sourcesMayBe_60 rfl (lv_at hl 0 rfl) ?_
    refine lv_bipush (v := 16) E.x E.b d_Chk_sourcesMayBe_61 (by decide) ?_
    refine lv_iushr (v := ushr v2 16) E.x E.b d_Chk_sourcesMayBe_63 rfl ?_
    refine lv_if_ne (tgt := 71) E.x E.b d_Chk_sourcesMayBe_64 (by decide) (fun c => ?_) (fun c => ?_)
    ·
      replace h := ifF c h
      exact bt_Chk_sourcesMayBe_71 E hret o h w (lv_sub hl [] rfl)
    ·
      replace h := ifT c h
      refine lv_iconst (v := 1) E.x E.b d_Chk_sourcesMayBe_67 (by decide) ?_
      refine lv_goto (tgt := 72) E.x E.b d_Chk_sourcesMayBe_68 (by decide) ?_
      exact bt_Chk_sourcesMayBe_72 E hret o 1 h w (lv_sub hl [] rfl)
def F_Chk_sourcesMayBe_30  (v0 : Int32) (v1 : Int32) (v2 : Int32) (s0 : Int32) : Option (Int32) := bd (F_Chk_sourceMayBe s0 (ushr v1 16)) (fun o7 => if o7 = 0 then (F_Chk_sourcesMayBe_71) else (if v0 < 3 then (F_Chk_sourcesMayBe_50 v2 0) else (F_Chk_sourcesMayBe_50 v2 1)))
set_option maxRecDepth 10000 in
set_option maxHeartbeats 4000000 in
theorem bt_Chk_sourcesMayBe_30 {p : Program} {l : Launch} {e : Env} {R : Room} {s : State} {m : MethodId} {args : Array Value} {below : List Frame} {meth : Method} {c : Code} {D : va_G} {τ : ClassId × ClassId × ClassId} {B : Nat} {A : Nat → Prop} {ad : Nat → Nat} {σ0 : Sg} (E : Cx p R s m args meth c prog_2_method_7_code 3 "DrawingMachine$Checker" 1 D τ B A) (hret : meth.sig.returnType = (some .boolean)) (o : Int32) (v0 : Int32) (v1 : Int32) (v2 : Int32) (s0 : Int32) (h : F_Chk_sourcesMayBe_30 v0 v1 v2 s0 = some o) {H : Heap} {locs : List Loc} {ls : Array Slot} (w : Wd s D A (wdC τ σ0 ad) H locs) (hl : lv_has ls 3 [(0, .int v0), (1, .int v1), (2, .int v2)]) : W p l e R s m args below meth c H locs 0 0 (QI below args s A D τ (wdC τ σ0 ad) o) (F0 m 30 ls [.int s0]) := by
  refine lv_iload_n E.x E.b d_Chk_sourcesMayBe_30 rfl (lv_at hl 1 rfl) ?_
  refine lv_bipush (v := 16) E.x E.b d_Chk_sourcesMayBe_31 (by decide) ?_
  refine lv_iushr (v := ushr v1 16) E.x E.b d_Chk_sourcesMayBe_33 rfl ?_
  obtain ⟨o7, h_o7, h⟩ := bd_some h
  refine clS_Chk_sourceMayBe E w (x0 := s0) (x1 := (ushr v1 16)) h_o7 k1325 (by decide) hl.1 (Nat.le_of_ble_eq_true rfl) d_Chk_sourcesMayBe_34 (fun H locs w => ?_)
  refine lv_if_eq (tgt := 71) E.x E.b d_Chk_sourcesMayBe_37 (by decide) (fun c => ?_) (fun c => ?_)
  ·
    replace h := ifT c h
    exact bt_Chk_sourcesMayBe_71 E hret o h w (lv_sub hl [] rfl)
  ·
    replace h := ifF c h
    refine lv_iload_n E.x E.b d_Chk_sourcesMayBe_40 rfl (lv_at hl 0 rfl) ?_
    refine lv_iconst (v := 3) E.x E.b d_Chk_sourcesMayBe_41 (by decide) ?_
    refine lv_icmp_lt (tgt := 49) E.x E.b d_Chk_sourcesMayBe_42 (by decide) (fun c => ?_) (fun c => ?_)
    ·
      replace h := ifT c h
      refine lv_iconst (v := 0) E.x E.b d_Chk_sourcesMayBe_49 (by decide) ?_
      exact bt_Chk_sourcesMayBe_50 E hret o v2 0 h w (lv_sub hl [2] rfl)
    ·
      replace h := ifF c h
      refine lv_iconst (v := 1) E.x E.b d_Chk_sourcesMayBe_45 (by decide) ?_
      refine lv_goto (tgt := 50) E.x E.b d_Chk_sourcesMayBe_46 (by decide) ?_
      exact bt_Chk_sourcesMayBe_50 E hret o v2 1 h w (lv_sub hl [2] rfl)
def F_Chk_sourcesMayBe_10  (v0 : Int32) (v1 : Int32) (v2 : Int32) (s0 : Int32) : Option (Int32) := bd (F_Chk_sourceMayBe s0 (v1 &&& 65535)) (fun o8 => if o8 = 0 then (F_Chk_sourcesMayBe_71) else (if v0 < 2 then (F_Chk_sourcesMayBe_30 v0 v1 v2 0) else (F_Chk_sourcesMayBe_30 v0 v1 v2 1)))
set_option maxRecDepth 10000 in
set_option maxHeartbeats 4000000 in
theorem bt_Chk_sourcesMayBe_10 {p : Program} {l : Launch} {e : Env} {R : Room} {s : State} {m : MethodId} {args : Array Value} {below : List Frame} {meth : Method} {c : Code} {D : va_G} {τ : ClassId × ClassId × ClassId} {B : Nat} {A : Nat → Prop} {ad : Nat → Nat} {σ0 : Sg} (E : Cx p R s m args meth c prog_2_method_7_code 3 "DrawingMachine$Checker" 1 D τ B A) (hret : meth.sig.returnType = (some .boolean)) (o : Int32) (v0 : Int32) (v1 : Int32) (v2 : Int32) (s0 : Int32) (h : F_Chk_sourcesMayBe_10 v0 v1 v2 s0 = some o) {H : Heap} {locs : List Loc} {ls : Array Slot} (w : Wd s D A (wdC τ σ0 ad) H locs) (hl : lv_has ls 3 [(0, .int v0), (1, .int v1), (2, .int v2)]) : W p l e R s m args below meth c H locs 0 0 (QI below args s A D τ (wdC τ σ0 ad) o) (F0 m 10 ls [.int s0]) := by
  refine lv_iload_n E.x E.b d_Chk_sourcesMayBe_10 rfl (lv_at hl 1 rfl) ?_
  refine lv_ldc (v := 65535) E.x E.b E.o (E.w _ k1324) d_Chk_sourcesMayBe_11 ?_
  refine lv_iand E.x E.b d_Chk_sourcesMayBe_13 ?_
  obtain ⟨o8, h_o8, h⟩ := bd_some h
  refine clS_Chk_sourceMayBe E w (x0 := s0) (x1 := (v1 &&& 65535)) h_o8 k1325 (by decide) hl.1 (Nat.le_of_ble_eq_true rfl) d_Chk_sourcesMayBe_14 (fun H locs w => ?_)
  refine lv_if_eq (tgt := 71) E.x E.b d_Chk_sourcesMayBe_17 (by decide) (fun c => ?_) (fun c => ?_)
  ·
    replace h := ifT c h
    exact bt_Chk_sourcesMayBe_71 E hret o h w (lv_sub hl [] rfl)
  ·
    replace h := ifF c h
    refine lv_iload_n E.x E.b d_Chk_sourcesMayBe_20 rfl (lv_at hl 0 rfl) ?_
    refine lv_iconst (v := 2) E.x E.b d_Chk_sourcesMayBe_21 (by decide) ?_
    refine lv_icmp_lt (tgt := 29) E.x E.b d_Chk_sourcesMayBe_22 (by decide) (fun c => ?_) (fun c => ?_)
    ·
      replace h := ifT c h
      refine lv_iconst (v := 0) E.x E.b d_Chk_sourcesMayBe_29 (by decide) ?_
      exact bt_Chk_sourcesMayBe_30 E hret o v0 v1 v2 0 h w (lv_sub hl [0, 1, 2] rfl)
    ·
      replace h := ifF c h
      refine lv_iconst (v := 1) E.x E.b d_Chk_sourcesMayBe_25 (by decide) ?_
      refine lv_goto (tgt := 30) E.x E.b d_Chk_sourcesMayBe_26 (by decide) ?_
      exact bt_Chk_sourcesMayBe_30 E hret o v0 v1 v2 1 h w (lv_sub hl [0, 1, 2] rfl)
def F_Chk_sourcesMayBe  (x0 : Int32) (x1 : Int32) (x2 : Int32) : Option (Int32) := if x0 < 1 then (F_Chk_sourcesMayBe_10 x0 x1 x2 0) else (F_Chk_sourcesMayBe_10 x0 x1 x2 1)
set_option maxRecDepth 10000 in
set_option maxHeartbeats 4000000 in
theorem c_Chk_sourcesMayBe (l : Launch) (D : va_G) (τ : ClassId × ClassId × ClassId) (B : Nat) (σ0 : Sg) (ad : Nat → Nat) (x0 : Int32) (x1 : Int32) (x2 : Int32) (o : Int32) (h : F_Chk_sourcesMayBe x0 x1 x2 = some o) : MI l y_Chk_sourcesMayBe (Cond.code y_Chk_sourcesMayBe prog_2_method_7_code 3 (some .boolean)) 1 D τ B [.int x0, .int x1, .int x2] (wdC τ σ0 ad) (wdC τ σ0 ad) o := by
  refine en_i (by decide) (Nat.le_of_ble_eq_true rfl) ?_
  intro p e R s m args below meth c H locs ls A E hret w hl
  have E : Cx p R s m args meth c prog_2_method_7_code 3 "DrawingMachine$Checker" 1 D τ B A := E
  have hl : lv_has ls 3 [(0, .int x0), (1, .int x1), (2, .int x2)] := hl
  refine lv_iload_n E.x E.b d_Chk_sourcesMayBe_0 rfl (lv_at hl 0 rfl) ?_
  refine lv_iconst (v := 1) E.x E.b d_Chk_sourcesMayBe_1 (by decide) ?_
  refine lv_icmp_lt (tgt := 9) E.x E.b d_Chk_sourcesMayBe_2 (by decide) (fun c => ?_) (fun c => ?_)
  ·
    replace h := ifT c h
    refine lv_iconst (v := 0) E.x E.b d_Chk_sourcesMayBe_9 (by decide) ?_
    exact bt_Chk_sourcesMayBe_10 E hret o x0 x1 x2 0 h w (lv_sub hl [0, 1, 2] rfl)
  ·
    replace h := ifF c h
    refine lv_iconst (v := 1) E.x E.b d_Chk_sourcesMayBe_5 (by decide) ?_
    refine lv_goto (tgt := 10) E.x E.b d_Chk_sourcesMayBe_6 (by decide) ?_
    exact bt_Chk_sourcesMayBe_10 E hret o x0 x1 x2 1 h w (lv_sub hl [0, 1, 2] rfl)
theorem clS_Chk_sourcesMayBe {p : Program} {l : Launch} {e : Env} {R : Room} {s : State} {m : MethodId} {args : Array Value} {below : List Frame} {meth : Method} {c : Code} {H : Heap} {locs : List Loc} {Q : State → Prop} {cc : ByteArray} {nL pc lev : Nat} {own : String} {D : va_G} {τ : ClassId × ClassId × ClassId} {B : Nat} {A : Nat → Prop} {σ : Sg} {ad : Nat → Nat} {ls : Array Slot} {rest : List Value} (E : Cx p R s m args meth c cc nL own lev D τ B A) (w : Wd s D A (wdC τ σ ad) H locs) {x0 : Int32} {x1 : Int32} {x2 : Int32} {o : Int32} (h : F_Chk_sourcesMayBe x0 x1 x2 = some o) {index : Nat} (hlk : Cond.methodLink own index y_Chk_sourcesMayBe ∈ tw) (hlev : 1 < lev) (hsz : ls.size = nL) (hr : (rest.map fun v => v.category).sum ≤ 8) (hd : decode cc pc = .ok (.invokestatic index, 3)) (kk : ∀ (H1 : Heap) (locs1 : List Loc), Wd s D A (wdC τ σ ad) H1 locs1 → W p l e R s m args below meth c H1 locs1 0 0 Q (F0 m (pc + 3) ls (.int o :: rest))) : W p l e R s m args below meth c H locs 0 0 Q (F0 m pc ls (.int x2 :: .int x1 :: .int x0 :: rest)) :=
  cr_i w E.C (va_runS (As := [.int x0, .int x1, .int x2]) (rest := rest) E.fix (c_Chk_sourcesMayBe l D τ B σ ad x0 x1 x2 o h H.size) (va_cwS 3 E.w (tw_pre (tw_good k1323) (l := [_, _, _]) (List.forall_mem_cons.mpr ⟨hlk, List.forall_mem_cons.mpr ⟨k1322, List.forall_mem_cons.mpr ⟨k6, fun _ h => absurd h List.not_mem_nil⟩⟩⟩)) rfl rfl rfl (by decide +kernel) (E.rm hlev (by decide))) (wd_pre w E.C [.int x0, .int x1, .int x2]) rfl rfl hsz rfl (lv_room hr) hd ⟨Nat.zero_le _, Nat.zero_le _⟩) kk
