theorem d_Drw_tally_0 : decode prog_5_method_7_code 0 = .ok (.aload_n 0, 1) := by decide +kernel
theorem d_Drw_tally_1 : decode prog_5_method_7_code 1 = .ok (.getfield 9, 3) := by decide +kernel
theorem d_Drw_tally_4 : decode prog_5_method_7_code 4 = .ok (.iconst 3, 1) := by decide +kernel
theorem d_Drw_tally_5 : decode prog_5_method_7_code 5 = .ok (.iload_n 1, 1) := by decide +kernel
theorem d_Drw_tally_6 : decode prog_5_method_7_code 6 = .ok (.iadd, 1) := by decide +kernel
theorem d_Drw_tally_7 : decode prog_5_method_7_code 7 = .ok (.dup2, 1) := by decide +kernel
theorem d_Drw_tally_8 : decode prog_5_method_7_code 8 = .ok (.iaload, 1) := by decide +kernel
theorem d_Drw_tally_9 : decode prog_5_method_7_code 9 = .ok (.iconst 1, 1) := by decide +kernel
theorem d_Drw_tally_10 : decode prog_5_method_7_code 10 = .ok (.iadd, 1) := by decide +kernel
theorem d_Drw_tally_11 : decode prog_5_method_7_code 11 = .ok (.iastore, 1) := by decide +kernel
theorem d_Drw_tally_12 : decode prog_5_method_7_code 12 = .ok (.iload_n 1, 1) := by decide +kernel
theorem d_Drw_tally_13 : decode prog_5_method_7_code 13 = .ok (.iconst 3, 1) := by decide +kernel
theorem d_Drw_tally_14 : decode prog_5_method_7_code 14 = .ok (.if_icmp .ne 24, 3) := by decide +kernel
theorem d_Drw_tally_17 : decode prog_5_method_7_code 17 = .ok (.aload_n 0, 1) := by decide +kernel
theorem d_Drw_tally_18 : decode prog_5_method_7_code 18 = .ok (.getfield 18, 3) := by decide +kernel
theorem d_Drw_tally_21 : decode prog_5_method_7_code 21 = .ok (.iconst (-1), 1) := by decide +kernel
theorem d_Drw_tally_22 : decode prog_5_method_7_code 22 = .ok (.if_icmp .eq 16, 3) := by decide +kernel
theorem d_Drw_tally_25 : decode prog_5_method_7_code 25 = .ok (.aload_n 0, 1) := by decide +kernel
theorem d_Drw_tally_26 : decode prog_5_method_7_code 26 = .ok (.getfield 15, 3) := by decide +kernel
theorem d_Drw_tally_29 : decode prog_5_method_7_code 29 = .ok (.aload_n 0, 1) := by decide +kernel
theorem d_Drw_tally_30 : decode prog_5_method_7_code 30 = .ok (.getfield 18, 3) := by decide +kernel
theorem d_Drw_tally_33 : decode prog_5_method_7_code 33 = .ok (.dup2, 1) := by decide +kernel
theorem d_Drw_tally_34 : decode prog_5_method_7_code 34 = .ok (.iaload, 1) := by decide +kernel
theorem d_Drw_tally_35 : decode prog_5_method_7_code 35 = .ok (.iconst 1, 1) := by decide +kernel
theorem d_Drw_tally_36 : decode prog_5_method_7_code 36 = .ok (.iadd, 1) := by decide +kernel
theorem d_Drw_tally_37 : decode prog_5_method_7_code 37 = .ok (.iastore, 1) := by decide +kernel
theorem d_Drw_tally_38 : decode prog_5_method_7_code 38 = .ok (.return_, 1) := by decide +kernel
def F_Drw_tally_38 (σ : Sg) : Option (Sg) := some σ
set_option maxRecDepth 10000 in
set_option maxHeartbeats 4000000 in
theorem bt_Drw_tally_38 {p : Program} {l : Launch} {e : Env} {R : Room} {s : State} {m : MethodId} {args : Array Value} {below : List Frame} {meth : Method} {c : Code} {D : va_G} {τ : ClassId × ClassId × ClassId} {B : Nat} {A : Nat → Prop} {ad : Nat → Nat} (E : Cx p R s m args meth c prog_5_method_7_code 2 "DrawingMachine$Drawing" 0 D τ B A) (hret : meth.sig.returnType = none) (o : Sg) (σ : Sg) (h : F_Drw_tally_38 σ = some o) {H : Heap} {locs : List Loc} {ls : Array Slot} (w : Wd s D A (wdC τ σ ad) H locs) (hl : lv_has ls 2 []) : W p l e R s m args below meth c H locs 0 0 (QV below args s A D τ (wdC τ o ad)) (F0 m 38 ls []) := by
  obtain rfl := Option.some.inj h
  exact rt_v E w hret d_Drw_tally_38
def F_Drw_tally (σ : Sg) (x0 : Int32) : Option (Sg) := lt (3 + x0) (fun y9 => ck (inb y9 9) (ck (inb y9 9) (lt (sA σ 29 (upd (σ.2.2.1 29) y9.toNatClampNeg ((σ.2.2.1 29 y9.toNatClampNeg) + 1))) (fun σ12 => if x0 = 3 then (if (σ12.1 15) = (-1) then (F_Drw_tally_38 σ12) else (lt (σ12.1 15) (fun y13 => ck (inb y13 8) (ck (inb y13 8) (lt (sA σ12 30 (upd (σ12.2.2.1 30) y13.toNatClampNeg ((σ12.2.2.1 30 y13.toNatClampNeg) + 1))) (fun σ16 => F_Drw_tally_38 σ16)))))) else (F_Drw_tally_38 σ12)))))
set_option maxRecDepth 10000 in
set_option maxHeartbeats 4000000 in
theorem c_Drw_tally (l : Launch) (D : va_G) (τ : ClassId × ClassId × ClassId) (B : Nat) (σ : Sg) (ad : Nat → Nat) (x0 : Int32) (o : Sg) (h : F_Drw_tally σ x0 = some o) : MV l y_Drw_tally (Cond.code y_Drw_tally prog_5_method_7_code 2 none) 0 D τ B [.ref (ad 61), .int x0] (wdC τ σ ad) (wdC τ o ad) := by
  refine en_v (by decide) (Nat.le_of_ble_eq_true rfl) ?_
  intro p e R s m args below meth c H locs ls A E hret w hl
  have E : Cx p R s m args meth c prog_5_method_7_code 2 "DrawingMachine$Drawing" 0 D τ B A := E
  have hl : lv_has ls 2 [(0, .ref (ad 61)), (1, .int x0)] := hl
  refine lv_aload_n E.x E.b d_Drw_tally_0 rfl (lv_at hl 0 rfl) ?_
  refine gC_Drw_counts E w k373 d_Drw_tally_1 ?_
  refine lv_iconst (v := 3) E.x E.b d_Drw_tally_4 (by decide) ?_
  refine lv_iload_n E.x E.b d_Drw_tally_5 rfl (lv_at hl 1 rfl) ?_
  refine lv_iadd E.x E.b d_Drw_tally_6 ?_
  obtain ⟨y9, e_y9, h⟩ := lt_some h
  refine wi_e (v := y9) e_y9 ?_
  refine lv_dup2_11 E.x E.b d_Drw_tally_7 rfl rfl ?_
  obtain ⟨c10, h⟩ := ck_some h
  refine ialC E w (k := 29) (by decide) c10 d_Drw_tally_8 ?_
  refine lv_iconst (v := 1) E.x E.b d_Drw_tally_9 (by decide) ?_
  refine lv_iadd E.x E.b d_Drw_tally_10 ?_
  obtain ⟨c11, h⟩ := ck_some h
  obtain ⟨σ12, e_σ12, h⟩ := lt_some h
  refine iasC E w (k := 29) (by decide) c11 e_σ12 d_Drw_tally_11 (fun H locs w => ?_)
  refine lv_iload_n E.x E.b d_Drw_tally_12 rfl (lv_at hl 1 rfl) ?_
  refine lv_iconst (v := 3) E.x E.b d_Drw_tally_13 (by decide) ?_
  refine lv_icmp_ne (tgt := 38) E.x E.b d_Drw_tally_14 (by decide) (fun c => ?_) (fun c => ?_)
  ·
    replace h := ifF c h
    exact bt_Drw_tally_38 E hret o σ12 h w (lv_sub hl [] rfl)
  ·
    replace h := ifT c h
    refine lv_aload_n E.x E.b d_Drw_tally_17 rfl (lv_at hl 0 rfl) ?_
    refine gC_Drw_openQuery E w k377 d_Drw_tally_18 ?_
    refine lv_iconst (v := (-1)) E.x E.b d_Drw_tally_21 (by decide) ?_
    refine lv_icmp_eq (tgt := 38) E.x E.b d_Drw_tally_22 (by decide) (fun c => ?_) (fun c => ?_)
    ·
      replace h := ifT c h
      exact bt_Drw_tally_38 E hret o σ12 h w (lv_sub hl [] rfl)
    ·
      replace h := ifF c h
      refine lv_aload_n E.x E.b d_Drw_tally_25 rfl (lv_at hl 0 rfl) ?_
      refine gC_Drw_queries E w k375 d_Drw_tally_26 ?_
      refine lv_aload_n E.x E.b d_Drw_tally_29 rfl (lv_at hl 0 rfl) ?_
      refine gC_Drw_openQuery E w k377 d_Drw_tally_30 ?_
      obtain ⟨y13, e_y13, h⟩ := lt_some h
      refine wi_e (v := y13) e_y13 ?_
      refine lv_dup2_11 E.x E.b d_Drw_tally_33 rfl rfl ?_
      obtain ⟨c14, h⟩ := ck_some h
      refine ialC E w (k := 30) (by decide) c14 d_Drw_tally_34 ?_
      refine lv_iconst (v := 1) E.x E.b d_Drw_tally_35 (by decide) ?_
      refine lv_iadd E.x E.b d_Drw_tally_36 ?_
      obtain ⟨c15, h⟩ := ck_some h
      obtain ⟨σ16, e_σ16, h⟩ := lt_some h
      refine iasC E w (k := 30) (by decide) c15 e_σ16 d_Drw_tally_37 (fun H locs w => ?_)
      exact bt_Drw_tally_38 E hret o σ16 h w (lv_sub hl [] rfl)
theorem clV_Drw_tally {p : Program} {l : Launch} {e : Env} {R : Room} {s : State} {m : MethodId} {args : Array Value} {below : List Frame} {meth : Method} {c : Code} {H : Heap} {locs : List Loc} {Q : State → Prop} {cc : ByteArray} {nL pc lev : Nat} {own : String} {D : va_G} {τ : ClassId × ClassId × ClassId} {B : Nat} {A : Nat → Prop} {σ : Sg} {ad : Nat → Nat} {ls : Array Slot} {rest : List Value} (E : Cx p R s m args meth c cc nL own lev D τ B A) (w : Wd s D A (wdC τ σ ad) H locs) {x0 : Int32} {o : Sg} (h : F_Drw_tally σ x0 = some o) {index : Nat} (hlk : Cond.methodLink own index y_Drw_tally ∈ tw) (hlev : 0 < lev) (hsz : ls.size = nL) (hr : (rest.map fun v => v.category).sum ≤ 8) (hd : decode cc pc = .ok (.invokevirtual index, 3)) (kk : ∀ (H1 : Heap) (locs1 : List Loc), Wd s D A (wdC τ o ad) H1 locs1 → W p l e R s m args below meth c H1 locs1 0 0 Q (F0 m (pc + 3) ls (rest))) : W p l e R s m args below meth c H locs 0 0 Q (F0 m pc ls (.int x0 :: .ref (ad 61) :: rest)) :=
  cr_v w E.C (va_runV (As := [.int x0]) (rest := rest) E.fix (c_Drw_tally l D τ B σ ad x0 o h H.size) (cwV 1 E.w (tw_pre (tw_good k1287) (l := [_, _, _, _]) (List.forall_mem_cons.mpr ⟨hlk, List.forall_mem_cons.mpr ⟨k1286, List.forall_mem_cons.mpr ⟨ks35, List.forall_mem_cons.mpr ⟨k7, fun _ h => absurd h List.not_mem_nil⟩⟩⟩⟩)) rfl rfl rfl (by decide +kernel) (E.rm hlev (by decide))) (wd_preV w E.C [.int x0] rcC_Drw rfl) rfl rfl hsz rfl (lv_room hr) hd ⟨Nat.zero_le _, Nat.zero_le _⟩) kk

theorem d_Pic_afterDeed_0 : decode prog_6_method_9_code 0 = .ok (.iload_n 0, 1) := by decide +kernel
theorem d_Pic_afterDeed_1 : decode prog_6_method_9_code 1 = .ok (.tableswitch 89 1 7 #[43, 45, 47, 57, 65, 73, 81], 43) := by decide +kernel
theorem d_Pic_afterDeed_44 : decode prog_6_method_9_code 44 = .ok (.iconst 0, 1) := by decide +kernel
theorem d_Pic_afterDeed_45 : decode prog_6_method_9_code 45 = .ok (.ireturn, 1) := by decide +kernel
theorem d_Pic_afterDeed_46 : decode prog_6_method_9_code 46 = .ok (.iload_n 2, 1) := by decide +kernel
theorem d_Pic_afterDeed_47 : decode prog_6_method_9_code 47 = .ok (.ireturn, 1) := by decide +kernel
theorem d_Pic_afterDeed_48 : decode prog_6_method_9_code 48 = .ok (.iload_n 1, 1) := by decide +kernel
theorem d_Pic_afterDeed_49 : decode prog_6_method_9_code 49 = .ok (.iconst 1, 1) := by decide +kernel
theorem d_Pic_afterDeed_50 : decode prog_6_method_9_code 50 = .ok (.iadd, 1) := by decide +kernel
theorem d_Pic_afterDeed_51 : decode prog_6_method_9_code 51 = .ok (.sipush 255, 3) := by decide +kernel
theorem d_Pic_afterDeed_54 : decode prog_6_method_9_code 54 = .ok (.invokestatic 44, 3) := by decide +kernel
theorem d_Pic_afterDeed_57 : decode prog_6_method_9_code 57 = .ok (.ireturn, 1) := by decide +kernel
theorem d_Pic_afterDeed_58 : decode prog_6_method_9_code 58 = .ok (.iload_n 1, 1) := by decide +kernel
theorem d_Pic_afterDeed_59 : decode prog_6_method_9_code 59 = .ok (.iconst 1, 1) := by decide +kernel
theorem d_Pic_afterDeed_60 : decode prog_6_method_9_code 60 = .ok (.isub, 1) := by decide +kernel
theorem d_Pic_afterDeed_61 : decode prog_6_method_9_code 61 = .ok (.iconst 0, 1) := by decide +kernel
theorem d_Pic_afterDeed_62 : decode prog_6_method_9_code 62 = .ok (.invokestatic 38, 3) := by decide +kernel
theorem d_Pic_afterDeed_65 : decode prog_6_method_9_code 65 = .ok (.ireturn, 1) := by decide +kernel
theorem d_Pic_afterDeed_66 : decode prog_6_method_9_code 66 = .ok (.iload_n 1, 1) := by decide +kernel
theorem d_Pic_afterDeed_67 : decode prog_6_method_9_code 67 = .ok (.iconst (-1), 1) := by decide +kernel
theorem d_Pic_afterDeed_68 : decode prog_6_method_9_code 68 = .ok (.ixor, 1) := by decide +kernel
theorem d_Pic_afterDeed_69 : decode prog_6_method_9_code 69 = .ok (.sipush 255, 3) := by decide +kernel
theorem d_Pic_afterDeed_72 : decode prog_6_method_9_code 72 = .ok (.iand, 1) := by decide +kernel
theorem d_Pic_afterDeed_73 : decode prog_6_method_9_code 73 = .ok (.ireturn, 1) := by decide +kernel
theorem d_Pic_afterDeed_74 : decode prog_6_method_9_code 74 = .ok (.iload_n 1, 1) := by decide +kernel
theorem d_Pic_afterDeed_75 : decode prog_6_method_9_code 75 = .ok (.iconst 1, 1) := by decide +kernel
theorem d_Pic_afterDeed_76 : decode prog_6_method_9_code 76 = .ok (.iadd, 1) := by decide +kernel
theorem d_Pic_afterDeed_77 : decode prog_6_method_9_code 77 = .ok (.sipush 255, 3) := by decide +kernel
theorem d_Pic_afterDeed_80 : decode prog_6_method_9_code 80 = .ok (.iand, 1) := by decide +kernel
theorem d_Pic_afterDeed_81 : decode prog_6_method_9_code 81 = .ok (.ireturn, 1) := by decide +kernel
theorem d_Pic_afterDeed_82 : decode prog_6_method_9_code 82 = .ok (.iload_n 1, 1) := by decide +kernel
theorem d_Pic_afterDeed_83 : decode prog_6_method_9_code 83 = .ok (.iconst 1, 1) := by decide +kernel
theorem d_Pic_afterDeed_84 : decode prog_6_method_9_code 84 = .ok (.isub, 1) := by decide +kernel
theorem d_Pic_afterDeed_85 : decode prog_6_method_9_code 85 = .ok (.sipush 255, 3) := by decide +kernel
theorem d_Pic_afterDeed_88 : decode prog_6_method_9_code 88 = .ok (.iand, 1) := by decide +kernel
theorem d_Pic_afterDeed_89 : decode prog_6_method_9_code 89 = .ok (.ireturn, 1) := by decide +kernel
theorem d_Pic_afterDeed_90 : decode prog_6_method_9_code 90 = .ok (.iload_n 1, 1) := by decide +kernel
theorem d_Pic_afterDeed_91 : decode prog_6_method_9_code 91 = .ok (.ireturn, 1) := by decide +kernel
def F_Pic_afterDeed  (x0 : Int32) (x1 : Int32) (x2 : Int32) : Option (Int32) := if x0 = 1 then (some 0) else (if x0 = 2 then (some x2) else (if x0 = 3 then (some (imin (x1 + 1) 255)) else (if x0 = 4 then (some (imax (x1 - 1) 0)) else (if x0 = 5 then (some ((x1 ^^^ (-1)) &&& 255)) else (if x0 = 6 then (some ((x1 + 1) &&& 255)) else (if x0 = 7 then (some ((x1 - 1) &&& 255)) else (some x1)))))))
set_option maxRecDepth 10000 in
set_option maxHeartbeats 4000000 in
theorem c_Pic_afterDeed (l : Launch) (D : va_G) (τ : ClassId × ClassId × ClassId) (B : Nat) (σ0 : Sg) (ad : Nat → Nat) (x0 : Int32) (x1 : Int32) (x2 : Int32) (o : Int32) (h : F_Pic_afterDeed x0 x1 x2 = some o) : MI l y_Pic_afterDeed (Cond.code y_Pic_afterDeed prog_6_method_9_code 3 (some .int)) 0 D τ B [.int x0, .int x1, .int x2] (wdC τ σ0 ad) (wdC τ σ0 ad) o := by
  refine en_i (by decide) (Nat.le_of_ble_eq_true rfl) ?_
  intro p e R s m args below meth c H locs ls A E hret w hl
  have E : Cx p R s m args meth c prog_6_method_9_code 3 "DrawingMachine$Picture" 0 D τ B A := E
  have hl : lv_has ls 3 [(0, .int x0), (1, .int x1), (2, .int x2)] := hl
  refine lv_iload_n E.x E.b d_Pic_afterDeed_0 rfl (lv_at hl 0 rfl) ?_
  by_cases q8 : x0 = 1
  ·
    replace h := ifT q8 h
    refine wi_e (v := 1) q8 ?_
    refine lv_tableIn (off := 43) (tgt := 44) E.x E.b d_Pic_afterDeed_1 (by decide) (by decide) (by decide) (by decide) ?_
    refine lv_iconst (v := 0) E.x E.b d_Pic_afterDeed_44 (by decide) ?_
    obtain rfl := Option.some.inj h
    exact rt_i E w hret d_Pic_afterDeed_45
  replace h := ifF q8 h
  replace q8 := ne_ti (k := 1) (by decide) q8
  by_cases q9 : x0 = 2
  ·
    replace h := ifT q9 h
    refine wi_e (v := 2) q9 ?_
    refine lv_tableIn (off := 45) (tgt := 46) E.x E.b d_Pic_afterDeed_1 (by decide) (by decide) (by decide) (by decide) ?_
    refine lv_iload_n E.x E.b d_Pic_afterDeed_46 rfl (lv_at hl 2 rfl) ?_
    obtain rfl := Option.some.inj h
    exact rt_i E w hret d_Pic_afterDeed_47
  replace h := ifF q9 h
  replace q9 := ne_ti (k := 2) (by decide) q9
  by_cases q10 : x0 = 3
  ·
    replace h := ifT q10 h
    refine wi_e (v := 3) q10 ?_
    refine lv_tableIn (off := 47) (tgt := 48) E.x E.b d_Pic_afterDeed_1 (by decide) (by decide) (by decide) (by decide) ?_
    refine lv_iload_n E.x E.b d_Pic_afterDeed_48 rfl (lv_at hl 1 rfl) ?_
    refine lv_iconst (v := 1) E.x E.b d_Pic_afterDeed_49 (by decide) ?_
    refine lv_iadd E.x E.b d_Pic_afterDeed_50 ?_
    refine lv_sipush (v := 255) E.x E.b d_Pic_afterDeed_51 (by decide) ?_
    refine va_mmin E.x E.b (E.2.2.1.trans hl.1.symm) E.o (E.w _ k562) (E.w _ k563) (E.w _ k25) (E.w _ k564) (Nat.le_trans (by decide) E.2.2.2.2.2.2.1) (Nat.le_trans (Nat.le_of_ble_eq_true rfl) E.2.2.2.2.2.2.2.1) (Nat.zero_le _) (Nat.zero_le _) d_Pic_afterDeed_54 ?_
    refine wi_e (v := imin (x1 + 1) 255) rfl ?_
    obtain rfl := Option.some.inj h
    exact rt_i E w hret d_Pic_afterDeed_57
  replace h := ifF q10 h
  replace q10 := ne_ti (k := 3) (by decide) q10
  by_cases q11 : x0 = 4
  ·
    replace h := ifT q11 h
    refine wi_e (v := 4) q11 ?_
    refine lv_tableIn (off := 57) (tgt := 58) E.x E.b d_Pic_afterDeed_1 (by decide) (by decide) (by decide) (by decide) ?_
    refine lv_iload_n E.x E.b d_Pic_afterDeed_58 rfl (lv_at hl 1 rfl) ?_
    refine lv_iconst (v := 1) E.x E.b d_Pic_afterDeed_59 (by decide) ?_
    refine lv_isub E.x E.b d_Pic_afterDeed_60 ?_
    refine lv_iconst (v := 0) E.x E.b d_Pic_afterDeed_61 (by decide) ?_
    refine va_mmax E.x E.b (E.2.2.1.trans hl.1.symm) E.o (E.w _ k559) (E.w _ k560) (E.w _ k25) (E.w _ k561) (Nat.le_trans (by decide) E.2.2.2.2.2.2.1) (Nat.le_trans (Nat.le_of_ble_eq_true rfl) E.2.2.2.2.2.2.2.1) (Nat.zero_le _) (Nat.zero_le _) d_Pic_afterDeed_62 ?_
    refine wi_e (v := imax (x1 - 1) 0) rfl ?_
    obtain rfl := Option.some.inj h
    exact rt_i E w hret d_Pic_afterDeed_65
  replace h := ifF q11 h
  replace q11 := ne_ti (k := 4) (by decide) q11
  by_cases q12 : x0 = 5
  ·
    replace h := ifT q12 h
    refine wi_e (v := 5) q12 ?_
    refine lv_tableIn (off := 65) (tgt := 66) E.x E.b d_Pic_afterDeed_1 (by decide) (by decide) (by decide) (by decide) ?_
    refine lv_iload_n E.x E.b d_Pic_afterDeed_66 rfl (lv_at hl 1 rfl) ?_
    refine lv_iconst (v := (-1)) E.x E.b d_Pic_afterDeed_67 (by decide) ?_
    refine lv_ixor E.x E.b d_Pic_afterDeed_68 ?_
    refine lv_sipush (v := 255) E.x E.b d_Pic_afterDeed_69 (by decide) ?_
    refine lv_iand E.x E.b d_Pic_afterDeed_72 ?_
    obtain rfl := Option.some.inj h
    exact rt_i E w hret d_Pic_afterDeed_73
  replace h := ifF q12 h
  replace q12 := ne_ti (k := 5) (by decide) q12
  by_cases q13 : x0 = 6
  ·
    replace h := ifT q13 h
    refine wi_e (v := 6) q13 ?_
    refine lv_tableIn (off := 73) (tgt := 74) E.x E.b d_Pic_afterDeed_1 (by decide) (by decide) (by decide) (by decide) ?_
    refine lv_iload_n E.x E.b d_Pic_afterDeed_74 rfl (lv_at hl 1 rfl) ?_
    refine lv_iconst (v := 1) E.x E.b d_Pic_afterDeed_75 (by decide) ?_
    refine lv_iadd E.x E.b d_Pic_afterDeed_76 ?_
    refine lv_sipush (v := 255) E.x E.b d_Pic_afterDeed_77 (by decide) ?_
    refine lv_iand E.x E.b d_Pic_afterDeed_80 ?_
    obtain rfl := Option.some.inj h
    exact rt_i E w hret d_Pic_afterDeed_81
  replace h := ifF q13 h
  replace q13 := ne_ti (k := 6) (by decide) q13
  by_cases q14 : x0 = 7
  ·
    replace h := ifT q14 h
    refine wi_e (v := 7) q14 ?_
    refine lv_tableIn (off := 81) (tgt := 82) E.x E.b d_Pic_afterDeed_1 (by decide) (by decide) (by decide) (by decide) ?_
    refine lv_iload_n E.x E.b d_Pic_afterDeed_82 rfl (lv_at hl 1 rfl) ?_
    refine lv_iconst (v := 1) E.x E.b d_Pic_afterDeed_83 (by decide) ?_
    refine lv_isub E.x E.b d_Pic_afterDeed_84 ?_
    refine lv_sipush (v := 255) E.x E.b d_Pic_afterDeed_85 (by decide) ?_
    refine lv_iand E.x E.b d_Pic_afterDeed_88 ?_
    obtain rfl := Option.some.inj h
    exact rt_i E w hret d_Pic_afterDeed_89
  replace h := ifF q14 h
  replace q14 := ne_ti (k := 7) (by decide) q14
  refine lv_tableOut (tgt := 90) E.x E.b d_Pic_afterDeed_1 (by omega) (by decide) ?_
  refine lv_iload_n E.x E.b d_Pic_afterDeed_90 rfl (lv_at hl 1 rfl) ?_
  obtain rfl := Option.some.inj h
  exact rt_i E w hret d_Pic_afterDeed_91
theorem clS_Pic_afterDeed {p : Program} {l : Launch} {e : Env} {R : Room} {s : State} {m : MethodId} {args : Array Value} {below : List Frame} {meth : Method} {c : Code} {H : Heap} {locs : List Loc} {Q : State → Prop} {cc : ByteArray} {nL pc lev : Nat} {own : String} {D : va_G} {τ : ClassId × ClassId × ClassId} {B : Nat} {A : Nat → Prop} {σ : Sg} {ad : Nat → Nat} {ls : Array Slot} {rest : List Value} (E : Cx p R s m args meth c cc nL own lev D τ B A) (w : Wd s D A (wdC τ σ ad) H locs) {x0 : Int32} {x1 : Int32} {x2 : Int32} {o : Int32} (h : F_Pic_afterDeed x0 x1 x2 = some o) {index : Nat} (hlk : Cond.methodLink own index y_Pic_afterDeed ∈ tw) (hlev : 0 < lev) (hsz : ls.size = nL) (hr : (rest.map fun v => v.category).sum ≤ 8) (hd : decode cc pc = .ok (.invokestatic index, 3)) (kk : ∀ (H1 : Heap) (locs1 : List Loc), Wd s D A (wdC τ σ ad) H1 locs1 → W p l e R s m args below meth c H1 locs1 0 0 Q (F0 m (pc + 3) ls (.int o :: rest))) : W p l e R s m args below meth c H locs 0 0 Q (F0 m pc ls (.int x2 :: .int x1 :: .int x0 :: rest)) :=
  cr_i w E.C (va_runS (As := [.int x0, .int x1, .int x2]) (rest := rest) E.fix (c_Pic_afterDeed l D τ B σ ad x0 x1 x2 o h H.size) (va_cwS 3 E.w (tw_pre (tw_good k1262) (l := [_, _, _]) (List.forall_mem_cons.mpr ⟨hlk, List.forall_mem_cons.mpr ⟨k1261, List.forall_mem_cons.mpr ⟨k4, fun _ h => absurd h List.not_mem_nil⟩⟩⟩)) rfl rfl rfl (by decide +kernel) (E.rm hlev (by decide))) (wd_pre w E.C [.int x0, .int x1, .int x2]) rfl rfl hsz rfl (lv_room hr) hd ⟨Nat.zero_le _, Nat.zero_le _⟩) kk

theorem d_Pic_doDeed_0 : decode prog_6_method_8_code 0 = .ok (.aload_n 0, 1) := by decide +kernel
theorem d_Pic_doDeed_1 : decode prog_6_method_8_code 1 = .ok (.getfield 37, 3) := by decide +kernel
theorem d_Pic_doDeed_4 : decode prog_6_method_8_code 4 = .ok (.iload_n 2, 1) := by decide +kernel
theorem d_Pic_doDeed_5 : decode prog_6_method_8_code 5 = .ok (.iaload, 1) := by decide +kernel
theorem d_Pic_doDeed_6 : decode prog_6_method_8_code 6 = .ok (.ifCond .ge 4, 3) := by decide +kernel
theorem d_Pic_doDeed_9 : decode prog_6_method_8_code 9 = .ok (.return_, 1) := by decide +kernel
theorem d_Pic_doDeed_10 : decode prog_6_method_8_code 10 = .ok (.aload_n 0, 1) := by decide +kernel
theorem d_Pic_doDeed_11 : decode prog_6_method_8_code 11 = .ok (.getfield 37, 3) := by decide +kernel
theorem d_Pic_doDeed_14 : decode prog_6_method_8_code 14 = .ok (.iload_n 2, 1) := by decide +kernel
theorem d_Pic_doDeed_15 : decode prog_6_method_8_code 15 = .ok (.iconst 3, 1) := by decide +kernel
theorem d_Pic_doDeed_16 : decode prog_6_method_8_code 16 = .ok (.iadd, 1) := by decide +kernel
theorem d_Pic_doDeed_17 : decode prog_6_method_8_code 17 = .ok (.iaload, 1) := by decide +kernel
theorem d_Pic_doDeed_18 : decode prog_6_method_8_code 18 = .ok (.istore 4, 2) := by decide +kernel
theorem d_Pic_doDeed_20 : decode prog_6_method_8_code 20 = .ok (.iload_n 3, 1) := by decide +kernel
theorem d_Pic_doDeed_21 : decode prog_6_method_8_code 21 = .ok (.aload_n 0, 1) := by decide +kernel
theorem d_Pic_doDeed_22 : decode prog_6_method_8_code 22 = .ok (.getfield 25, 3) := by decide +kernel
theorem d_Pic_doDeed_25 : decode prog_6_method_8_code 25 = .ok (.iload_n 1, 1) := by decide +kernel
theorem d_Pic_doDeed_26 : decode prog_6_method_8_code 26 = .ok (.iaload, 1) := by decide +kernel
theorem d_Pic_doDeed_27 : decode prog_6_method_8_code 27 = .ok (.aload_n 0, 1) := by decide +kernel
theorem d_Pic_doDeed_28 : decode prog_6_method_8_code 28 = .ok (.getfield 37, 3) := by decide +kernel
theorem d_Pic_doDeed_31 : decode prog_6_method_8_code 31 = .ok (.iload_n 2, 1) := by decide +kernel
theorem d_Pic_doDeed_32 : decode prog_6_method_8_code 32 = .ok (.iconst 1, 1) := by decide +kernel
theorem d_Pic_doDeed_33 : decode prog_6_method_8_code 33 = .ok (.iadd, 1) := by decide +kernel
theorem d_Pic_doDeed_34 : decode prog_6_method_8_code 34 = .ok (.iaload, 1) := by decide +kernel
theorem d_Pic_doDeed_35 : decode prog_6_method_8_code 35 = .ok (.invokestatic 72, 3) := by decide +kernel
theorem d_Pic_doDeed_38 : decode prog_6_method_8_code 38 = .ok (.istore 5, 2) := by decide +kernel
theorem d_Pic_doDeed_40 : decode prog_6_method_8_code 40 = .ok (.aload_n 0, 1) := by decide +kernel
theorem d_Pic_doDeed_41 : decode prog_6_method_8_code 41 = .ok (.getfield 25, 3) := by decide +kernel
theorem d_Pic_doDeed_44 : decode prog_6_method_8_code 44 = .ok (.iload_n 1, 1) := by decide +kernel
theorem d_Pic_doDeed_45 : decode prog_6_method_8_code 45 = .ok (.aload_n 0, 1) := by decide +kernel
theorem d_Pic_doDeed_46 : decode prog_6_method_8_code 46 = .ok (.getfield 25, 3) := by decide +kernel
theorem d_Pic_doDeed_49 : decode prog_6_method_8_code 49 = .ok (.iload_n 1, 1) := by decide +kernel
theorem d_Pic_doDeed_50 : decode prog_6_method_8_code 50 = .ok (.iaload, 1) := by decide +kernel
theorem d_Pic_doDeed_51 : decode prog_6_method_8_code 51 = .ok (.iload 4, 2) := by decide +kernel
theorem d_Pic_doDeed_53 : decode prog_6_method_8_code 53 = .ok (.iconst (-1), 1) := by decide +kernel
theorem d_Pic_doDeed_54 : decode prog_6_method_8_code 54 = .ok (.ixor, 1) := by decide +kernel
theorem d_Pic_doDeed_55 : decode prog_6_method_8_code 55 = .ok (.iand, 1) := by decide +kernel
theorem d_Pic_doDeed_56 : decode prog_6_method_8_code 56 = .ok (.iload 5, 2) := by decide +kernel
theorem d_Pic_doDeed_58 : decode prog_6_method_8_code 58 = .ok (.iload 4, 2) := by decide +kernel
theorem d_Pic_doDeed_60 : decode prog_6_method_8_code 60 = .ok (.iand, 1) := by decide +kernel
theorem d_Pic_doDeed_61 : decode prog_6_method_8_code 61 = .ok (.ior, 1) := by decide +kernel
theorem d_Pic_doDeed_62 : decode prog_6_method_8_code 62 = .ok (.iastore, 1) := by decide +kernel
theorem d_Pic_doDeed_63 : decode prog_6_method_8_code 63 = .ok (.return_, 1) := by decide +kernel
def F_Pic_doDeed (σ : Sg) (x0 : Int32) (x1 : Int32) (x2 : Int32) : Option (Sg) := ck (inb x1 245) (if 0 ≤ (σ.2.2.1 1 x1.toNatClampNeg) then (ck (inb (x1 + 3) 245) (lt (σ.2.2.1 1 (x1 + 3).toNatClampNeg) (fun y12 => ck (inb x0 (lenC σ 4)) (ck (inb (x1 + 1) 245) (bd (F_Pic_afterDeed x2 (σ.2.2.1 4 x0.toNatClampNeg) (σ.2.2.1 1 (x1 + 1).toNatClampNeg)) (fun o15 => ck (inb x0 (lenC σ 4)) (ck (inb x0 (lenC σ 4)) (lt (sA σ 4 (upd (σ.2.2.1 4) x0.toNatClampNeg (((σ.2.2.1 4 x0.toNatClampNeg) &&& (y12 ^^^ (-1))) ||| (o15 &&& y12)))) (fun σ18 => some σ18))))))))) else (some σ))
set_option maxRecDepth 10000 in
set_option maxHeartbeats 4000000 in
theorem c_Pic_doDeed (l : Launch) (D : va_G) (τ : ClassId × ClassId × ClassId) (B : Nat) (σ : Sg) (ad : Nat → Nat) (x0 : Int32) (x1 : Int32) (x2 : Int32) (o : Sg) (h : F_Pic_doDeed σ x0 x1 x2 = some o) : MV l y_Pic_doDeed (Cond.code y_Pic_doDeed prog_6_method_8_code 6 none) 1 D τ B [.ref (ad 58), .int x0, .int x1, .int x2] (wdC τ σ ad) (wdC τ o ad) := by
  refine en_v (by decide) (Nat.le_of_ble_eq_true rfl) ?_
  intro p e R s m args below meth c H locs ls A E hret w hl
  have E : Cx p R s m args meth c prog_6_method_8_code 6 "DrawingMachine$Picture" 1 D τ B A := E
  have hl : lv_has ls 6 [(0, .ref (ad 58)), (1, .int x0), (2, .int x1), (3, .int x2)] := hl
  refine lv_aload_n E.x E.b d_Pic_doDeed_0 rfl (lv_at hl 0 rfl) ?_
  refine gC_Pic_kept E w k88 d_Pic_doDeed_1 ?_
  refine lv_iload_n E.x E.b d_Pic_doDeed_4 rfl (lv_at hl 2 rfl) ?_
  obtain ⟨c10, h⟩ := ck_some h
  refine ialC E w (k := 1) (by decide) c10 d_Pic_doDeed_5 ?_
  refine lv_if_ge (tgt := 10) E.x E.b d_Pic_doDeed_6 (by decide) (fun c => ?_) (fun c => ?_)
  ·
    replace h := ifT c h
    refine lv_aload_n E.x E.b d_Pic_doDeed_10 rfl (lv_at hl 0 rfl) ?_
    refine gC_Pic_kept E w k88 d_Pic_doDeed_11 ?_
    refine lv_iload_n E.x E.b d_Pic_doDeed_14 rfl (lv_at hl 2 rfl) ?_
    refine lv_iconst (v := 3) E.x E.b d_Pic_doDeed_15 (by decide) ?_
    refine lv_iadd E.x E.b d_Pic_doDeed_16 ?_
    obtain ⟨c11, h⟩ := ck_some h
    refine ialC E w (k := 1) (by decide) c11 d_Pic_doDeed_17 ?_
    obtain ⟨y12, e_y12, h⟩ := lt_some h
    refine wi_e (v := y12) e_y12 ?_
    refine lv_istore (lv' := [(4, .int y12), (0, .ref (ad 58)), (1, .int x0), (2, .int x1), (3, .int x2)]) E.x E.b d_Pic_doDeed_18 hl (by decide) rfl (fun ls hl => ?_)
    refine lv_iload_n E.x E.b d_Pic_doDeed_20 rfl (lv_at hl 4 rfl) ?_
    refine lv_aload_n E.x E.b d_Pic_doDeed_21 rfl (lv_at hl 1 rfl) ?_
    refine gC_Pic_stencils E w k86 d_Pic_doDeed_22 ?_
    refine lv_iload_n E.x E.b d_Pic_doDeed_25 rfl (lv_at hl 2 rfl) ?_
    obtain ⟨c13, h⟩ := ck_some h
    refine ialC E w (k := 4) (by decide) c13 d_Pic_doDeed_26 ?_
    refine lv_aload_n E.x E.b d_Pic_doDeed_27 rfl (lv_at hl 1 rfl) ?_
    refine gC_Pic_kept E w k88 d_Pic_doDeed_28 ?_
    refine lv_iload_n E.x E.b d_Pic_doDeed_31 rfl (lv_at hl 3 rfl) ?_
    refine lv_iconst (v := 1) E.x E.b d_Pic_doDeed_32 (by decide) ?_
    refine lv_iadd E.x E.b d_Pic_doDeed_33 ?_
    obtain ⟨c14, h⟩ := ck_some h
    refine ialC E w (k := 1) (by decide) c14 d_Pic_doDeed_34 ?_
    obtain ⟨o15, h_o15, h⟩ := bd_some h
    refine clS_Pic_afterDeed E w (x0 := x2) (x1 := (σ.2.2.1 4 x0.toNatClampNeg)) (x2 := (σ.2.2.1 1 (x1 + 1).toNatClampNeg)) h_o15 k1260 (by decide) hl.1 (Nat.le_of_ble_eq_true rfl) d_Pic_doDeed_35 (fun H locs w => ?_)
    refine lv_istore (lv' := [(5, .int o15), (4, .int y12), (0, .ref (ad 58)), (1, .int x0), (2, .int x1), (3, .int x2)]) E.x E.b d_Pic_doDeed_38 hl (by decide) rfl (fun ls hl => ?_)
    refine lv_aload_n E.x E.b d_Pic_doDeed_40 rfl (lv_at hl 2 rfl) ?_
    refine gC_Pic_stencils E w k86 d_Pic_doDeed_41 ?_
    refine lv_iload_n E.x E.b d_Pic_doDeed_44 rfl (lv_at hl 3 rfl) ?_
    refine lv_aload_n E.x E.b d_Pic_doDeed_45 rfl (lv_at hl 2 rfl) ?_
    refine gC_Pic_stencils E w k86 d_Pic_doDeed_46 ?_
    refine lv_iload_n E.x E.b d_Pic_doDeed_49 rfl (lv_at hl 3 rfl) ?_
    obtain ⟨c16, h⟩ := ck_some h
    refine ialC E w (k := 4) (by decide) c16 d_Pic_doDeed_50 ?_
    refine lv_iload E.x E.b d_Pic_doDeed_51 (lv_at hl 1 rfl) ?_
    refine lv_iconst (v := (-1)) E.x E.b d_Pic_doDeed_53 (by decide) ?_
    refine lv_ixor E.x E.b d_Pic_doDeed_54 ?_
    refine lv_iand E.x E.b d_Pic_doDeed_55 ?_
    refine lv_iload E.x E.b d_Pic_doDeed_56 (lv_at hl 0 rfl) ?_
    refine lv_iload E.x E.b d_Pic_doDeed_58 (lv_at hl 1 rfl) ?_
    refine lv_iand E.x E.b d_Pic_doDeed_60 ?_
    refine lv_ior E.x E.b d_Pic_doDeed_61 ?_
    obtain ⟨c17, h⟩ := ck_some h
    obtain ⟨σ18, e_σ18, h⟩ := lt_some h
    refine iasC E w (k := 4) (by decide) c17 e_σ18 d_Pic_doDeed_62 (fun H locs w => ?_)
    obtain rfl := Option.some.inj h
    exact rt_v E w hret d_Pic_doDeed_63
  ·
    replace h := ifF c h
    obtain rfl := Option.some.inj h
    exact rt_v E w hret d_Pic_doDeed_9
theorem clV_Pic_doDeed {p : Program} {l : Launch} {e : Env} {R : Room} {s : State} {m : MethodId} {args : Array Value} {below : List Frame} {meth : Method} {c : Code} {H : Heap} {locs : List Loc} {Q : State → Prop} {cc : ByteArray} {nL pc lev : Nat} {own : String} {D : va_G} {τ : ClassId × ClassId × ClassId} {B : Nat} {A : Nat → Prop} {σ : Sg} {ad : Nat → Nat} {ls : Array Slot} {rest : List Value} (E : Cx p R s m args meth c cc nL own lev D τ B A) (w : Wd s D A (wdC τ σ ad) H locs) {x0 : Int32} {x1 : Int32} {x2 : Int32} {o : Sg} (h : F_Pic_doDeed σ x0 x1 x2 = some o) {index : Nat} (hlk : Cond.methodLink own index y_Pic_doDeed ∈ tw) (hlev : 1 < lev) (hsz : ls.size = nL) (hr : (rest.map fun v => v.category).sum ≤ 8) (hd : decode cc pc = .ok (.invokevirtual index, 3)) (kk : ∀ (H1 : Heap) (locs1 : List Loc), Wd s D A (wdC τ o ad) H1 locs1 → W p l e R s m args below meth c H1 locs1 0 0 Q (F0 m (pc + 3) ls (rest))) : W p l e R s m args below meth c H locs 0 0 Q (F0 m pc ls (.int x2 :: .int x1 :: .int x0 :: .ref (ad 58) :: rest)) :=
  cr_v w E.C (va_runV (As := [.int x0, .int x1, .int x2]) (rest := rest) E.fix (c_Pic_doDeed l D τ B σ ad x0 x1 x2 o h H.size) (cwV 3 E.w (tw_pre (tw_good k1259) (l := [_, _, _, _]) (List.forall_mem_cons.mpr ⟨hlk, List.forall_mem_cons.mpr ⟨k1258, List.forall_mem_cons.mpr ⟨ks31, List.forall_mem_cons.mpr ⟨k4, fun _ h => absurd h List.not_mem_nil⟩⟩⟩⟩)) rfl rfl rfl (by decide +kernel) (E.rm hlev (by decide))) (wd_preV w E.C [.int x0, .int x1, .int x2] rcC_Pic rfl) rfl rfl hsz rfl (lv_room hr) hd ⟨Nat.zero_le _, Nat.zero_le _⟩) kk

theorem d_Pic_holds_0 : decode prog_6_method_7_code 0 = .ok (.iload_n 0, 1) := by decide +kernel
theorem d_Pic_holds_1 : decode prog_6_method_7_code 1 = .ok (.tableswitch 111 0 6 #[43, 45, 56, 67, 78, 89, 100], 43) := by decide +kernel
theorem d_Pic_holds_44 : decode prog_6_method_7_code 44 = .ok (.iconst 0, 1) := by decide +kernel
theorem d_Pic_holds_45 : decode prog_6_method_7_code 45 = .ok (.ireturn, 1) := by decide +kernel
theorem d_Pic_holds_46 : decode prog_6_method_7_code 46 = .ok (.iload_n 1, 1) := by decide +kernel
theorem d_Pic_holds_47 : decode prog_6_method_7_code 47 = .ok (.iload_n 2, 1) := by decide +kernel
theorem d_Pic_holds_48 : decode prog_6_method_7_code 48 = .ok (.if_icmp .ge 7, 3) := by decide +kernel
theorem d_Pic_holds_51 : decode prog_6_method_7_code 51 = .ok (.iconst 1, 1) := by decide +kernel
theorem d_Pic_holds_52 : decode prog_6_method_7_code 52 = .ok (.goto 4, 3) := by decide +kernel
theorem d_Pic_holds_55 : decode prog_6_method_7_code 55 = .ok (.iconst 0, 1) := by decide +kernel
theorem d_Pic_holds_56 : decode prog_6_method_7_code 56 = .ok (.ireturn, 1) := by decide +kernel
theorem d_Pic_holds_57 : decode prog_6_method_7_code 57 = .ok (.iload_n 1, 1) := by decide +kernel
theorem d_Pic_holds_58 : decode prog_6_method_7_code 58 = .ok (.iload_n 2, 1) := by decide +kernel
theorem d_Pic_holds_59 : decode prog_6_method_7_code 59 = .ok (.if_icmp .ne 7, 3) := by decide +kernel
theorem d_Pic_holds_62 : decode prog_6_method_7_code 62 = .ok (.iconst 1, 1) := by decide +kernel
theorem d_Pic_holds_63 : decode prog_6_method_7_code 63 = .ok (.goto 4, 3) := by decide +kernel
theorem d_Pic_holds_66 : decode prog_6_method_7_code 66 = .ok (.iconst 0, 1) := by decide +kernel
theorem d_Pic_holds_67 : decode prog_6_method_7_code 67 = .ok (.ireturn, 1) := by decide +kernel
theorem d_Pic_holds_68 : decode prog_6_method_7_code 68 = .ok (.iload_n 1, 1) := by decide +kernel
theorem d_Pic_holds_69 : decode prog_6_method_7_code 69 = .ok (.iload_n 2, 1) := by decide +kernel
theorem d_Pic_holds_70 : decode prog_6_method_7_code 70 = .ok (.if_icmp .gt 7, 3) := by decide +kernel
theorem d_Pic_holds_73 : decode prog_6_method_7_code 73 = .ok (.iconst 1, 1) := by decide +kernel
theorem d_Pic_holds_74 : decode prog_6_method_7_code 74 = .ok (.goto 4, 3) := by decide +kernel
theorem d_Pic_holds_77 : decode prog_6_method_7_code 77 = .ok (.iconst 0, 1) := by decide +kernel
theorem d_Pic_holds_78 : decode prog_6_method_7_code 78 = .ok (.ireturn, 1) := by decide +kernel
theorem d_Pic_holds_79 : decode prog_6_method_7_code 79 = .ok (.iload_n 1, 1) := by decide +kernel
theorem d_Pic_holds_80 : decode prog_6_method_7_code 80 = .ok (.iload_n 2, 1) := by decide +kernel
theorem d_Pic_holds_81 : decode prog_6_method_7_code 81 = .ok (.if_icmp .le 7, 3) := by decide +kernel
theorem d_Pic_holds_84 : decode prog_6_method_7_code 84 = .ok (.iconst 1, 1) := by decide +kernel
theorem d_Pic_holds_85 : decode prog_6_method_7_code 85 = .ok (.goto 4, 3) := by decide +kernel
theorem d_Pic_holds_88 : decode prog_6_method_7_code 88 = .ok (.iconst 0, 1) := by decide +kernel
theorem d_Pic_holds_89 : decode prog_6_method_7_code 89 = .ok (.ireturn, 1) := by decide +kernel
theorem d_Pic_holds_90 : decode prog_6_method_7_code 90 = .ok (.iload_n 1, 1) := by decide +kernel
theorem d_Pic_holds_91 : decode prog_6_method_7_code 91 = .ok (.iload_n 2, 1) := by decide +kernel
theorem d_Pic_holds_92 : decode prog_6_method_7_code 92 = .ok (.if_icmp .eq 7, 3) := by decide +kernel
theorem d_Pic_holds_95 : decode prog_6_method_7_code 95 = .ok (.iconst 1, 1) := by decide +kernel
theorem d_Pic_holds_96 : decode prog_6_method_7_code 96 = .ok (.goto 4, 3) := by decide +kernel
theorem d_Pic_holds_99 : decode prog_6_method_7_code 99 = .ok (.iconst 0, 1) := by decide +kernel
theorem d_Pic_holds_100 : decode prog_6_method_7_code 100 = .ok (.ireturn, 1) := by decide +kernel
theorem d_Pic_holds_101 : decode prog_6_method_7_code 101 = .ok (.iload_n 1, 1) := by decide +kernel
theorem d_Pic_holds_102 : decode prog_6_method_7_code 102 = .ok (.iload_n 2, 1) := by decide +kernel
theorem d_Pic_holds_103 : decode prog_6_method_7_code 103 = .ok (.if_icmp .lt 7, 3) := by decide +kernel
theorem d_Pic_holds_106 : decode prog_6_method_7_code 106 = .ok (.iconst 1, 1) := by decide +kernel
theorem d_Pic_holds_107 : decode prog_6_method_7_code 107 = .ok (.goto 4, 3) := by decide +kernel
theorem d_Pic_holds_110 : decode prog_6_method_7_code 110 = .ok (.iconst 0, 1) := by decide +kernel
theorem d_Pic_holds_111 : decode prog_6_method_7_code 111 = .ok (.ireturn, 1) := by decide +kernel
theorem d_Pic_holds_112 : decode prog_6_method_7_code 112 = .ok (.iconst 1, 1) := by decide +kernel
theorem d_Pic_holds_113 : decode prog_6_method_7_code 113 = .ok (.ireturn, 1) := by decide +kernel
def F_Pic_holds_111  (s0 : Int32) : Option (Int32) := ck (s0 = 0 ∨ s0 = 1) (some s0)
set_option maxRecDepth 10000 in
set_option maxHeartbeats 4000000 in
theorem bt_Pic_holds_111 {p : Program} {l : Launch} {e : Env} {R : Room} {s : State} {m : MethodId} {args : Array Value} {below : List Frame} {meth : Method} {c : Code} {D : va_G} {τ : ClassId × ClassId × ClassId} {B : Nat} {A : Nat → Prop} {ad : Nat → Nat} {σ0 : Sg} (E : Cx p R s m args meth c prog_6_method_7_code 3 "DrawingMachine$Picture" 0 D τ B A) (hret : meth.sig.returnType = (some .boolean)) (o : Int32) (s0 : Int32) (h : F_Pic_holds_111 s0 = some o) {H : Heap} {locs : List Loc} {ls : Array Slot} (w : Wd s D A (wdC τ σ0 ad) H locs) (hl : lv_has ls 3 []) : W p l e R s m args below meth c H locs 0 0 (QI below args s A D τ (wdC τ σ0 ad) o) (F0 m 111 ls [.int s0]) := by
  obtain ⟨c14, h⟩ := ck_some h
  obtain rfl := Option.some.inj h
  exact rt_z E w hret c14 d_Pic_holds_111
def F_Pic_holds_100  (s0 : Int32) : Option (Int32) := ck (s0 = 0 ∨ s0 = 1) (some s0)
set_option maxRecDepth 10000 in
set_option maxHeartbeats 4000000 in
theorem bt_Pic_holds_100 {p : Program} {l : Launch} {e : Env} {R : Room} {s : State} {m : MethodId} {args : Array Value} {below : List Frame} {meth : Method} {c : Code} {D : va_G} {τ : ClassId × ClassId × ClassId} {B : Nat} {A : Nat → Prop} {ad : Nat → Nat} {σ0 : Sg} (E : Cx p R s m args meth c prog_6_method_7_code 3 "DrawingMachine$Picture" 0 D τ B A) (hret : meth.sig.returnType = (some .boolean)) (o : Int32) (s0 : Int32) (h : F_Pic_holds_100 s0 = some o) {H : Heap} {locs : List Loc} {ls : Array Slot} (w : Wd s D A (wdC τ σ0 ad) H locs) (hl : lv_has ls 3 []) : W p l e R s m args below meth c H locs 0 0 (QI below args s A D τ (wdC τ σ0 ad) o) (F0 m 100 ls [.int s0]) := by
  obtain ⟨c15, h⟩ := ck_some h
  obtain rfl := Option.some.inj h
  exact rt_z E w hret c15 d_Pic_holds_100
def F_Pic_holds_89  (s0 : Int32) : Option (Int32) := ck (s0 = 0 ∨ s0 = 1) (some s0)
set_option maxRecDepth 10000 in
set_option maxHeartbeats 4000000 in
theorem bt_Pic_holds_89 {p : Program} {l : Launch} {e : Env} {R : Room} {s : State} {m : MethodId} {args : Array Value} {below : List Frame} {meth : Method} {c : Code} {D : va_G} {τ : ClassId × ClassId × ClassId} {B : Nat} {A : Nat → Prop} {ad : Nat → Nat} {σ0 : Sg} (E : Cx p R s m args meth c prog_6_method_7_code 3 "DrawingMachine$Picture" 0 D τ B A) (hret : meth.sig.returnType = (some .boolean)) (o : Int32) (s0 : Int32) (h : F_Pic_holds_89 s0 = some o) {H : Heap} {locs : List Loc} {ls : Array Slot} (w : Wd s D A (wdC τ σ0 ad) H locs) (hl : lv_has ls 3 []) : W p l e R s m args below meth c H locs 0 0 (QI below args s A D τ (wdC τ σ0 ad) o) (F0 m 89 ls [.int s0]) := by
  obtain ⟨c16, h⟩ := ck_some h
  obtain rfl := Option.some.inj h
  exact rt_z E w hret c16 d_Pic_holds_89
def F_Pic_holds_78  (s0 : Int32) : Option (Int32) := ck (s0 = 0 ∨ s0 = 1) (some s0)
set_option maxRecDepth 10000 in
set_option maxHeartbeats 4000000 in
theorem bt_Pic_holds_78 {p : Program} {l : Launch} {e : Env} {R : Room} {s : State} {m : MethodId} {args : Array Value} {below : List Frame} {meth : Method} {c : Code} {D : va_G} {τ : ClassId × ClassId × ClassId} {B : Nat} {A : Nat → Prop} {ad : Nat → Nat} {σ0 : Sg} (E : Cx p R s m args meth c prog_6_method_7_code 3 "DrawingMachine$Picture" 0 D τ B A) (hret : meth.sig.returnType = (some .boolean)) (o : Int32) (s0 : Int32) (h : F_Pic_holds_78 s0 = some o) {H : Heap} {locs : List Loc} {ls : Array Slot} (w : Wd s D A (wdC τ σ0 ad) H locs) (hl : lv_has ls 3 []) : W p l e R s m args below meth c H locs 0 0 (QI below args s A D τ (wdC τ σ0 ad) o) (F0 m 78 ls [.int s0]) := by
  obtain ⟨c17, h⟩ := ck_some h
  obtain rfl := Option.some.inj h
  exact rt_z E w hret c17 d_Pic_holds_78
def F_Pic_holds_67  (s0 : Int32) : Option (Int32) := ck (s0 = 0 ∨ s0 = 1) (some s0)
set_option maxRecDepth 10000 in
set_option maxHeartbeats 4000000 in
theorem bt_Pic_holds_67 {p : Program} {l : Launch} {e : Env} {R : Room} {s : State} {m : MethodId} {args : Array Value} {below : List Frame} {meth : Method} {c : Code} {D : va_G} {τ : ClassId × ClassId × ClassId} {B : Nat} {A : Nat → Prop} {ad : Nat → Nat} {σ0 : Sg} (E : Cx p R s m args meth c prog_6_method_7_code 3 "DrawingMachine$Picture" 0 D τ B A) (hret : meth.sig.returnType = (some .boolean)) (o : Int32) (s0 : Int32) (h : F_Pic_holds_67 s0 = some o) {H : Heap} {locs : List Loc} {ls : Array Slot} (w : Wd s D A (wdC τ σ0 ad) H locs) (hl : lv_has ls 3 []) : W p l e R s m args below meth c H locs 0 0 (QI below args s A D τ (wdC τ σ0 ad) o) (F0 m 67 ls [.int s0]) := by
  obtain ⟨c18, h⟩ := ck_some h
  obtain rfl := Option.some.inj h
  exact rt_z E w hret c18 d_Pic_holds_67
def F_Pic_holds_56  (s0 : Int32) : Option (Int32) := ck (s0 = 0 ∨ s0 = 1) (some s0)
set_option maxRecDepth 10000 in
set_option maxHeartbeats 4000000 in
theorem bt_Pic_holds_56 {p : Program} {l : Launch} {e : Env} {R : Room} {s : State} {m : MethodId} {args : Array Value} {below : List Frame} {meth : Method} {c : Code} {D : va_G} {τ : ClassId × ClassId × ClassId} {B : Nat} {A : Nat → Prop} {ad : Nat → Nat} {σ0 : Sg} (E : Cx p R s m args meth c prog_6_method_7_code 3 "DrawingMachine$Picture" 0 D τ B A) (hret : meth.sig.returnType = (some .boolean)) (o : Int32) (s0 : Int32) (h : F_Pic_holds_56 s0 = some o) {H : Heap} {locs : List Loc} {ls : Array Slot} (w : Wd s D A (wdC τ σ0 ad) H locs) (hl : lv_has ls 3 []) : W p l e R s m args below meth c H locs 0 0 (QI below args s A D τ (wdC τ σ0 ad) o) (F0 m 56 ls [.int s0]) := by
  obtain ⟨c19, h⟩ := ck_some h
  obtain rfl := Option.some.inj h
  exact rt_z E w hret c19 d_Pic_holds_56
def F_Pic_holds  (x0 : Int32) (x1 : Int32) (x2 : Int32) : Option (Int32) := if x0 = 0 then (some 0) else (if x0 = 1 then (if x2 ≤ x1 then (F_Pic_holds_56 0) else (F_Pic_holds_56 1)) else (if x0 = 2 then (if x1 = x2 then (F_Pic_holds_67 1) else (F_Pic_holds_67 0)) else (if x0 = 3 then (if x2 < x1 then (F_Pic_holds_78 0) else (F_Pic_holds_78 1)) else (if x0 = 4 then (if x1 ≤ x2 then (F_Pic_holds_89 0) else (F_Pic_holds_89 1)) else (if x0 = 5 then (if x1 = x2 then (F_Pic_holds_100 0) else (F_Pic_holds_100 1)) else (if x0 = 6 then (if x1 < x2 then (F_Pic_holds_111 0) else (F_Pic_holds_111 1)) else (some 1)))))))
set_option maxRecDepth 10000 in
set_option maxHeartbeats 4000000 in
theorem c_Pic_holds (l : Launch) (D : va_G) (τ : ClassId × ClassId × ClassId) (B : Nat) (σ0 : Sg) (ad : Nat → Nat) (x0 : Int32) (x1 : Int32) (x2 : Int32) (o : Int32) (h : F_Pic_holds x0 x1 x2 = some o) : MI l y_Pic_holds (Cond.code y_Pic_holds prog_6_method_7_code 3 (some .boolean)) 0 D τ B [.int x0, .int x1, .int x2] (wdC τ σ0 ad) (wdC τ σ0 ad) o := by
  refine en_i (by decide) (Nat.le_of_ble_eq_true rfl) ?_
  intro p e R s m args below meth c H locs ls A E hret w hl
  have E : Cx p R s m args meth c prog_6_method_7_code 3 "DrawingMachine$Picture" 0 D τ B A := E
  have hl : lv_has ls 3 [(0, .int x0), (1, .int x1), (2, .int x2)] := hl
  refine lv_iload_n E.x E.b d_Pic_holds_0 rfl (lv_at hl 0 rfl) ?_
  by_cases q20 : x0 = 0
  ·
    replace h := ifT q20 h
    refine wi_e (v := 0) q20 ?_
    refine lv_tableIn (off := 43) (tgt := 44) E.x E.b d_Pic_holds_1 (by decide) (by decide) (by decide) (by decide) ?_
    refine lv_iconst (v := 0) E.x E.b d_Pic_holds_44 (by decide) ?_
    obtain rfl := Option.some.inj h
    exact rt_z E w hret (show (0 : Int32) = 0 ∨ (0 : Int32) = 1 by decide) d_Pic_holds_45
  replace h := ifF q20 h
  replace q20 := ne_ti (k := 0) (by decide) q20
  by_cases q21 : x0 = 1
  ·
    replace h := ifT q21 h
    refine wi_e (v := 1) q21 ?_
    refine lv_tableIn (off := 45) (tgt := 46) E.x E.b d_Pic_holds_1 (by decide) (by decide) (by decide) (by decide) ?_
    refine lv_iload_n E.x E.b d_Pic_holds_46 rfl (lv_at hl 1 rfl) ?_
    refine lv_iload_n E.x E.b d_Pic_holds_47 rfl (lv_at hl 2 rfl) ?_
    refine lv_icmp_ge (tgt := 55) E.x E.b d_Pic_holds_48 (by decide) (fun c => ?_) (fun c => ?_)
    ·
      replace h := ifT c h
      refine lv_iconst (v := 0) E.x E.b d_Pic_holds_55 (by decide) ?_
      exact bt_Pic_holds_56 E hret o 0 h w (lv_sub hl [] rfl)
    ·
      replace h := ifF c h
      refine lv_iconst (v := 1) E.x E.b d_Pic_holds_51 (by decide) ?_
      refine lv_goto (tgt := 56) E.x E.b d_Pic_holds_52 (by decide) ?_
      exact bt_Pic_holds_56 E hret o 1 h w (lv_sub hl [] rfl)
  replace h := ifF q21 h
  replace q21 := ne_ti (k := 1) (by decide) q21
  by_cases q22 : x0 = 2
  ·
    replace h := ifT q22 h
    refine wi_e (v := 2) q22 ?_
    refine lv_tableIn (off := 56) (tgt := 57) E.x E.b d_Pic_holds_1 (by decide) (by decide) (by decide) (by decide) ?_
    refine lv_iload_n E.x E.b d_Pic_holds_57 rfl (lv_at hl 1 rfl) ?_
    refine lv_iload_n E.x E.b d_Pic_holds_58 rfl (lv_at hl 2 rfl) ?_
    refine lv_icmp_ne (tgt := 66) E.x E.b d_Pic_holds_59 (by decide) (fun c => ?_) (fun c => ?_)
    ·
      replace h := ifF c h
      refine lv_iconst (v := 0) E.x E.b d_Pic_holds_66 (by decide) ?_
      exact bt_Pic_holds_67 E hret o 0 h w (lv_sub hl [] rfl)
    ·
      replace h := ifT c h
      refine lv_iconst (v := 1) E.x E.b d_Pic_holds_62 (by decide) ?_
      refine lv_goto (tgt := 67) E.x E.b d_Pic_holds_63 (by decide) ?_
      exact bt_Pic_holds_67 E hret o 1 h w (lv_sub hl [] rfl)
  replace h := ifF q22 h
  replace q22 := ne_ti (k := 2) (by decide) q22
  by_cases q23 : x0 = 3
  ·
    replace h := ifT q23 h
    refine wi_e (v := 3) q23 ?_
    refine lv_tableIn (off := 67) (tgt := 68) E.x E.b d_Pic_holds_1 (by decide) (by decide) (by decide) (by decide) ?_
    refine lv_iload_n E.x E.b d_Pic_holds_68 rfl (lv_at hl 1 rfl) ?_
    refine lv_iload_n E.x E.b d_Pic_holds_69 rfl (lv_at hl 2 rfl) ?_
    refine lv_icmp_gt (tgt := 77) E.x E.b d_Pic_holds_70 (by decide) (fun c => ?_) (fun c => ?_)
    ·
      replace h := ifT c h
      refine lv_iconst (v := 0) E.x E.b d_Pic_holds_77 (by decide) ?_
      exact bt_Pic_holds_78 E hret o 0 h w (lv_sub hl [] rfl)
    ·
      replace h := ifF c h
      refine lv_iconst (v := 1) E.x E.b d_Pic_holds_73 (by decide) ?_
      refine lv_goto (tgt := 78) E.x E.b d_Pic_holds_74 (by decide) ?_
      exact bt_Pic_holds_78 E hret o 1 h w (lv_sub hl [] rfl)
  replace h := ifF q23 h
  replace q23 := ne_ti (k := 3) (by decide) q23
  by_cases q24 : x0 = 4
  ·
    replace h := ifT q24 h
    refine wi_e (v := 4) q24 ?_
    refine lv_tableIn (off := 78) (tgt := 79) E.x E.b d_Pic_holds_1 (by decide) (by decide) (by decide) (by decide) ?_
    refine lv_iload_n E.x E.b d_Pic_holds_79 rfl (lv_at hl 1 rfl) ?_
    refine lv_iload_n E.x E.b d_Pic_holds_80 rfl (lv_at hl 2 rfl) ?_
    refine lv_icmp_le (tgt := 88) E.x E.b d_Pic_holds_81 (by decide) (fun c => ?_) (fun c => ?_)
    ·
      replace h := ifT c h
      refine lv_iconst (v := 0) E.x E.b d_Pic_holds_88 (by decide) ?_
      exact bt_Pic_holds_89 E hret o 0 h w (lv_sub hl [] rfl)
    ·
      replace h := ifF c h
      refine lv_iconst (v := 1) E.x E.b d_Pic_holds_84 (by decide) ?_
      refine lv_goto (tgt := 89) E.x E.b d_Pic_holds_85 (by decide) ?_
      exact bt_Pic_holds_89 E hret o 1 h w (lv_sub hl [] rfl)
  replace h := ifF q24 h
  replace q24 := ne_ti (k := 4) (by decide) q24
  by_cases q25 : x0 = 5
  ·
    replace h := ifT q25 h
    refine wi_e (v := 5) q25 ?_
    refine lv_tableIn (off := 89) (tgt := 90) E.x E.b d_Pic_holds_1 (by decide) (by decide) (by decide) (by decide) ?_
    refine lv_iload_n E.x E.b d_Pic_holds_90 rfl (lv_at hl 1 rfl) ?_
    refine lv_iload_n E.x E.b d_Pic_holds_91 rfl (lv_at hl 2 rfl) ?_
    refine lv_icmp_eq (tgt := 99) E.x E.b d_Pic_holds_92 (by decide) (fun c => ?_) (fun c => ?_)
    ·
      replace h := ifT c h
      refine lv_iconst (v := 0) E.x E.b d_Pic_holds_99 (by decide) ?_
      exact bt_Pic_holds_100 E hret o 0 h w (lv_sub hl [] rfl)
    ·
      replace h := ifF c h
      refine lv_iconst (v := 1) E.x E.b d_Pic_holds_95 (by decide) ?_
      refine lv_goto (tgt := 100) E.x E.b d_Pic_holds_96 (by decide) ?_
      exact bt_Pic_holds_100 E hret o 1 h w (lv_sub hl [] rfl)
  replace h := ifF q25 h
  replace q25 := ne_ti (k := 5) (by decide) q25
  by_cases q26 : x0 = 6
  ·
    replace h := ifT q26 h
    refine wi_e (v := 6) q26 ?_
    refine lv_tableIn (off := 100) (tgt := 101) E.x E.b d_Pic_holds_1 (by decide) (by decide) (by decide) (by decide) ?_
    refine lv_iload_n E.x E.b d_Pic_holds_101 rfl (lv_at hl 1 rfl) ?_
    refine lv_iload_n E.x E.b d_Pic_holds_102 rfl (lv_at hl 2 rfl) ?_
    refine lv_icmp_lt (tgt := 110) E.x E.b d_Pic_holds_103 (by decide) (fun c => ?_) (fun c => ?_)
    ·
      replace h := ifT c h
      refine lv_iconst (v := 0) E.x E.b d_Pic_holds_110 (by decide) ?_
      exact bt_Pic_holds_111 E hret o 0 h w (lv_sub hl [] rfl)
    ·
      replace h := ifF c h
      refine lv_iconst (v := 1) E.x E.b d_Pic_holds_106 (by decide) ?_
      refine lv_goto (tgt := 111) E.x E.b d_Pic_holds_107 (by decide) ?_
      exact bt_Pic_holds_111 E hret o 1 h w (lv_sub hl [] rfl)
  replace h := ifF q26 h
  replace q26 := ne_ti (k := 6) (by decide) q26
  refine lv_tableOut (tgt := 112) E.x E.b d_Pic_holds_1 (by omega) (by decide) ?_
  refine lv_iconst (v := 1) E.x E.b d_Pic_holds_112 (by decide) ?_
  obtain rfl := Option.some.inj h
  exact rt_z E w hret (show (1 : Int32) = 0 ∨ (1 : Int32) = 1 by decide) d_Pic_holds_113
theorem clS_Pic_holds {p : Program} {l : Launch} {e : Env} {R : Room} {s : State} {m : MethodId} {args : Array Value} {below : List Frame} {meth : Method} {c : Code} {H : Heap} {locs : List Loc} {Q : State → Prop} {cc : ByteArray} {nL pc lev : Nat} {own : String} {D : va_G} {τ : ClassId × ClassId × ClassId} {B : Nat} {A : Nat → Prop} {σ : Sg} {ad : Nat → Nat} {ls : Array Slot} {rest : List Value} (E : Cx p R s m args meth c cc nL own lev D τ B A) (w : Wd s D A (wdC τ σ ad) H locs) {x0 : Int32} {x1 : Int32} {x2 : Int32} {o : Int32} (h : F_Pic_holds x0 x1 x2 = some o) {index : Nat} (hlk : Cond.methodLink own index y_Pic_holds ∈ tw) (hlev : 0 < lev) (hsz : ls.size = nL) (hr : (rest.map fun v => v.category).sum ≤ 8) (hd : decode cc pc = .ok (.invokestatic index, 3)) (kk : ∀ (H1 : Heap) (locs1 : List Loc), Wd s D A (wdC τ σ ad) H1 locs1 → W p l e R s m args below meth c H1 locs1 0 0 Q (F0 m (pc + 3) ls (.int o :: rest))) : W p l e R s m args below meth c H locs 0 0 Q (F0 m pc ls (.int x2 :: .int x1 :: .int x0 :: rest)) :=
  cr_i w E.C (va_runS (As := [.int x0, .int x1, .int x2]) (rest := rest) E.fix (c_Pic_holds l D τ B σ ad x0 x1 x2 o h H.size) (va_cwS 3 E.w (tw_pre (tw_good k1255) (l := [_, _, _]) (List.forall_mem_cons.mpr ⟨hlk, List.forall_mem_cons.mpr ⟨k1254, List.forall_mem_cons.mpr ⟨k4, fun _ h => absurd h List.not_mem_nil⟩⟩⟩)) rfl rfl rfl (by decide +kernel) (E.rm hlev (by decide))) (wd_pre w E.C [.int x0, .int x1, .int x2]) rfl rfl hsz rfl (lv_room hr) hd ⟨Nat.zero_le _, Nat.zero_le _⟩) kk

theorem d_Pic_by255_0 : decode prog_6_method_13_code 0 = .ok (.iload_n 0, 1) := by decide +kernel
theorem d_Pic_by255_1 : decode prog_6_method_13_code 1 = .ok (.ifCond .gt 7, 3) := by decide +kernel
theorem d_Pic_by255_4 : decode prog_6_method_13_code 4 = .ok (.iconst 0, 1) := by decide +kernel
theorem d_Pic_by255_5 : decode prog_6_method_13_code 5 = .ok (.goto 20, 3) := by decide +kernel
theorem d_Pic_by255_8 : decode prog_6_method_13_code 8 = .ok (.iconst 2, 1) := by decide +kernel
theorem d_Pic_by255_9 : decode prog_6_method_13_code 9 = .ok (.iload_n 0, 1) := by decide +kernel
theorem d_Pic_by255_10 : decode prog_6_method_13_code 10 = .ok (.imul, 1) := by decide +kernel
theorem d_Pic_by255_11 : decode prog_6_method_13_code 11 = .ok (.sipush 255, 3) := by decide +kernel
theorem d_Pic_by255_14 : decode prog_6_method_13_code 14 = .ok (.iadd, 1) := by decide +kernel
theorem d_Pic_by255_15 : decode prog_6_method_13_code 15 = .ok (.sipush 510, 3) := by decide +kernel
theorem d_Pic_by255_18 : decode prog_6_method_13_code 18 = .ok (.idiv, 1) := by decide +kernel
theorem d_Pic_by255_19 : decode prog_6_method_13_code 19 = .ok (.sipush 255, 3) := by decide +kernel
theorem d_Pic_by255_22 : decode prog_6_method_13_code 22 = .ok (.invokestatic 44, 3) := by decide +kernel
theorem d_Pic_by255_25 : decode prog_6_method_13_code 25 = .ok (.ireturn, 1) := by decide +kernel
def F_Pic_by255_25  (s0 : Int32) : Option (Int32) := some s0
set_option maxRecDepth 10000 in
set_option maxHeartbeats 4000000 in
theorem bt_Pic_by255_25 {p : Program} {l : Launch} {e : Env} {R : Room} {s : State} {m : MethodId} {args : Array Value} {below : List Frame} {meth : Method} {c : Code} {D : va_G} {τ : ClassId × ClassId × ClassId} {B : Nat} {A : Nat → Prop} {ad : Nat → Nat} {σ0 : Sg} (E : Cx p R s m args meth c prog_6_method_13_code 1 "DrawingMachine$Picture" 0 D τ B A) (hret : meth.sig.returnType = (some .int)) (o : Int32) (s0 : Int32) (h : F_Pic_by255_25 s0 = some o) {H : Heap} {locs : List Loc} {ls : Array Slot} (w : Wd s D A (wdC τ σ0 ad) H locs) (hl : lv_has ls 1 []) : W p l e R s m args below meth c H locs 0 0 (QI below args s A D τ (wdC τ σ0 ad) o) (F0 m 25 ls [.int s0]) := by
  obtain rfl := Option.some.inj h
  exact rt_i E w hret d_Pic_by255_25
def F_Pic_by255  (x0 : Int32) : Option (Int32) := if 0 < x0 then (F_Pic_by255_25 (imin (((2 * x0) + 255) / 510) 255)) else (F_Pic_by255_25 0)
set_option maxRecDepth 10000 in
set_option maxHeartbeats 4000000 in
theorem c_Pic_by255 (l : Launch) (D : va_G) (τ : ClassId × ClassId × ClassId) (B : Nat) (σ0 : Sg) (ad : Nat → Nat) (x0 : Int32) (o : Int32) (h : F_Pic_by255 x0 = some o) : MI l y_Pic_by255 (Cond.code y_Pic_by255 prog_6_method_13_code 1 (some .int)) 0 D τ B [.int x0] (wdC τ σ0 ad) (wdC τ σ0 ad) o := by
  refine en_i (by decide) (Nat.le_of_ble_eq_true rfl) ?_
  intro p e R s m args below meth c H locs ls A E hret w hl
  have E : Cx p R s m args meth c prog_6_method_13_code 1 "DrawingMachine$Picture" 0 D τ B A := E
  have hl : lv_has ls 1 [(0, .int x0)] := hl
  refine lv_iload_n E.x E.b d_Pic_by255_0 rfl (lv_at hl 0 rfl) ?_
  refine lv_if_gt (tgt := 8) E.x E.b d_Pic_by255_1 (by decide) (fun c => ?_) (fun c => ?_)
  ·
    replace h := ifT c h
    refine lv_iconst (v := 2) E.x E.b d_Pic_by255_8 (by decide) ?_
    refine lv_iload_n E.x E.b d_Pic_by255_9 rfl (lv_at hl 0 rfl) ?_
    refine lv_imul E.x E.b d_Pic_by255_10 ?_
    refine lv_sipush (v := 255) E.x E.b d_Pic_by255_11 (by decide) ?_
    refine lv_iadd E.x E.b d_Pic_by255_14 ?_
    refine lv_sipush (v := 510) E.x E.b d_Pic_by255_15 (by decide) ?_
    refine lv_idiv E.x E.b d_Pic_by255_18 (by decide) ?_
    refine lv_sipush (v := 255) E.x E.b d_Pic_by255_19 (by decide) ?_
    refine va_mmin E.x E.b (E.2.2.1.trans hl.1.symm) E.o (E.w _ k562) (E.w _ k563) (E.w _ k25) (E.w _ k564) (Nat.le_trans (by decide) E.2.2.2.2.2.2.1) (Nat.le_trans (Nat.le_of_ble_eq_true rfl) E.2.2.2.2.2.2.2.1) (Nat.zero_le _) (Nat.zero_le _) d_Pic_by255_22 ?_
    refine wi_e (v := imin (((2 * x0) + 255) / 510) 255) rfl ?_
    exact bt_Pic_by255_25 E hret o (imin (((2 * x0) + 255) / 510) 255) h w (lv_sub hl [] rfl)
  ·
    replace h := ifF c h
    refine lv_iconst (v := 0) E.x E.b d_Pic_by255_4 (by decide) ?_
    refine lv_goto (tgt := 25) E.x E.b d_Pic_by255_5 (by decide) ?_
    exact bt_Pic_by255_25 E hret o 0 h w (lv_sub hl [] rfl)
theorem clS_Pic_by255 {p : Program} {l : Launch} {e : Env} {R : Room} {s : State} {m : MethodId} {args : Array Value} {below : List Frame} {meth : Method} {c : Code} {H : Heap} {locs : List Loc} {Q : State → Prop} {cc : ByteArray} {nL pc lev : Nat} {own : String} {D : va_G} {τ : ClassId × ClassId × ClassId} {B : Nat} {A : Nat → Prop} {σ : Sg} {ad : Nat → Nat} {ls : Array Slot} {rest : List Value} (E : Cx p R s m args meth c cc nL own lev D τ B A) (w : Wd s D A (wdC τ σ ad) H locs) {x0 : Int32} {o : Int32} (h : F_Pic_by255 x0 = some o) {index : Nat} (hlk : Cond.methodLink own index y_Pic_by255 ∈ tw) (hlev : 0 < lev) (hsz : ls.size = nL) (hr : (rest.map fun v => v.category).sum ≤ 8) (hd : decode cc pc = .ok (.invokestatic index, 3)) (kk : ∀ (H1 : Heap) (locs1 : List Loc), Wd s D A (wdC τ σ ad) H1 locs1 → W p l e R s m args below meth c H1 locs1 0 0 Q (F0 m (pc + 3) ls (.int o :: rest))) : W p l e R s m args below meth c H locs 0 0 Q (F0 m pc ls (.int x0 :: rest)) :=
  cr_i w E.C (va_runS (As := [.int x0]) (rest := rest) E.fix (c_Pic_by255 l D τ B σ ad x0 o h H.size) (va_cwS 1 E.w (tw_pre (tw_good k1283) (l := [_, _, _]) (List.forall_mem_cons.mpr ⟨hlk, List.forall_mem_cons.mpr ⟨k1282, List.forall_mem_cons.mpr ⟨k4, fun _ h => absurd h List.not_mem_nil⟩⟩⟩)) rfl rfl rfl (by decide +kernel) (E.rm hlev (by decide))) (wd_pre w E.C [.int x0]) rfl rfl hsz rfl (lv_room hr) hd ⟨Nat.zero_le _, Nat.zero_le _⟩) kk

theorem d_Pic_factor_0 : decode prog_6_method_14_code 0 = .ok (.aload_n 0, 1) := by decide +kernel
theorem d_Pic_factor_1 : decode prog_6_method_14_code 1 = .ok (.getfield 37, 3) := by decide +kernel
theorem d_Pic_factor_4 : decode prog_6_method_14_code 4 = .ok (.sipush 212, 3) := by decide +kernel
theorem d_Pic_factor_7 : decode prog_6_method_14_code 7 = .ok (.iaload, 1) := by decide +kernel
theorem d_Pic_factor_8 : decode prog_6_method_14_code 8 = .ok (.istore 5, 2) := by decide +kernel
theorem d_Pic_factor_10 : decode prog_6_method_14_code 10 = .ok (.iload_n 1, 1) := by decide +kernel
theorem d_Pic_factor_11 : decode prog_6_method_14_code 11 = .ok (.iconst 1, 1) := by decide +kernel
theorem d_Pic_factor_12 : decode prog_6_method_14_code 12 = .ok (.ishr, 1) := by decide +kernel
theorem d_Pic_factor_13 : decode prog_6_method_14_code 13 = .ok (.tableswitch 147 1 7 #[43, 58, 74, 83, 93, 109, 119], 43) := by decide +kernel
theorem d_Pic_factor_56 : decode prog_6_method_14_code 56 = .ok (.iload_n 3, 1) := by decide +kernel
theorem d_Pic_factor_57 : decode prog_6_method_14_code 57 = .ok (.bipush 8, 2) := by decide +kernel
theorem d_Pic_factor_59 : decode prog_6_method_14_code 59 = .ok (.iload_n 2, 1) := by decide +kernel
theorem d_Pic_factor_60 : decode prog_6_method_14_code 60 = .ok (.imul, 1) := by decide +kernel
theorem d_Pic_factor_61 : decode prog_6_method_14_code 61 = .ok (.iushr, 1) := by decide +kernel
theorem d_Pic_factor_62 : decode prog_6_method_14_code 62 = .ok (.sipush 255, 3) := by decide +kernel
theorem d_Pic_factor_65 : decode prog_6_method_14_code 65 = .ok (.iand, 1) := by decide +kernel
theorem d_Pic_factor_66 : decode prog_6_method_14_code 66 = .ok (.istore 6, 2) := by decide +kernel
theorem d_Pic_factor_68 : decode prog_6_method_14_code 68 = .ok (.goto 95, 3) := by decide +kernel
theorem d_Pic_factor_71 : decode prog_6_method_14_code 71 = .ok (.iload 4, 2) := by decide +kernel
theorem d_Pic_factor_73 : decode prog_6_method_14_code 73 = .ok (.bipush 8, 2) := by decide +kernel
theorem d_Pic_factor_75 : decode prog_6_method_14_code 75 = .ok (.iload_n 2, 1) := by decide +kernel
theorem d_Pic_factor_76 : decode prog_6_method_14_code 76 = .ok (.imul, 1) := by decide +kernel
theorem d_Pic_factor_77 : decode prog_6_method_14_code 77 = .ok (.iushr, 1) := by decide +kernel
theorem d_Pic_factor_78 : decode prog_6_method_14_code 78 = .ok (.sipush 255, 3) := by decide +kernel
theorem d_Pic_factor_81 : decode prog_6_method_14_code 81 = .ok (.iand, 1) := by decide +kernel
theorem d_Pic_factor_82 : decode prog_6_method_14_code 82 = .ok (.istore 6, 2) := by decide +kernel
theorem d_Pic_factor_84 : decode prog_6_method_14_code 84 = .ok (.goto 79, 3) := by decide +kernel
theorem d_Pic_factor_87 : decode prog_6_method_14_code 87 = .ok (.iload_n 3, 1) := by decide +kernel
theorem d_Pic_factor_88 : decode prog_6_method_14_code 88 = .ok (.bipush 24, 2) := by decide +kernel
theorem d_Pic_factor_90 : decode prog_6_method_14_code 90 = .ok (.iushr, 1) := by decide +kernel
theorem d_Pic_factor_91 : decode prog_6_method_14_code 91 = .ok (.istore 6, 2) := by decide +kernel
theorem d_Pic_factor_93 : decode prog_6_method_14_code 93 = .ok (.goto 70, 3) := by decide +kernel
theorem d_Pic_factor_96 : decode prog_6_method_14_code 96 = .ok (.iload 4, 2) := by decide +kernel
theorem d_Pic_factor_98 : decode prog_6_method_14_code 98 = .ok (.bipush 24, 2) := by decide +kernel
theorem d_Pic_factor_100 : decode prog_6_method_14_code 100 = .ok (.iushr, 1) := by decide +kernel
theorem d_Pic_factor_101 : decode prog_6_method_14_code 101 = .ok (.istore 6, 2) := by decide +kernel
theorem d_Pic_factor_103 : decode prog_6_method_14_code 103 = .ok (.goto 60, 3) := by decide +kernel
theorem d_Pic_factor_106 : decode prog_6_method_14_code 106 = .ok (.iload 5, 2) := by decide +kernel
theorem d_Pic_factor_108 : decode prog_6_method_14_code 108 = .ok (.bipush 8, 2) := by decide +kernel
theorem d_Pic_factor_110 : decode prog_6_method_14_code 110 = .ok (.iload_n 2, 1) := by decide +kernel
theorem d_Pic_factor_111 : decode prog_6_method_14_code 111 = .ok (.imul, 1) := by decide +kernel
theorem d_Pic_factor_112 : decode prog_6_method_14_code 112 = .ok (.iushr, 1) := by decide +kernel
theorem d_Pic_factor_113 : decode prog_6_method_14_code 113 = .ok (.sipush 255, 3) := by decide +kernel
theorem d_Pic_factor_116 : decode prog_6_method_14_code 116 = .ok (.iand, 1) := by decide +kernel
theorem d_Pic_factor_117 : decode prog_6_method_14_code 117 = .ok (.istore 6, 2) := by decide +kernel
theorem d_Pic_factor_119 : decode prog_6_method_14_code 119 = .ok (.goto 44, 3) := by decide +kernel
theorem d_Pic_factor_122 : decode prog_6_method_14_code 122 = .ok (.iload 5, 2) := by decide +kernel
theorem d_Pic_factor_124 : decode prog_6_method_14_code 124 = .ok (.bipush 24, 2) := by decide +kernel
theorem d_Pic_factor_126 : decode prog_6_method_14_code 126 = .ok (.iushr, 1) := by decide +kernel
theorem d_Pic_factor_127 : decode prog_6_method_14_code 127 = .ok (.istore 6, 2) := by decide +kernel
theorem d_Pic_factor_129 : decode prog_6_method_14_code 129 = .ok (.goto 34, 3) := by decide +kernel
theorem d_Pic_factor_132 : decode prog_6_method_14_code 132 = .ok (.iload_n 2, 1) := by decide +kernel
theorem d_Pic_factor_133 : decode prog_6_method_14_code 133 = .ok (.iconst 3, 1) := by decide +kernel
theorem d_Pic_factor_134 : decode prog_6_method_14_code 134 = .ok (.if_icmp .ne 9, 3) := by decide +kernel
theorem d_Pic_factor_137 : decode prog_6_method_14_code 137 = .ok (.sipush 255, 3) := by decide +kernel
theorem d_Pic_factor_140 : decode prog_6_method_14_code 140 = .ok (.goto 19, 3) := by decide +kernel
theorem d_Pic_factor_143 : decode prog_6_method_14_code 143 = .ok (.iload_n 3, 1) := by decide +kernel
theorem d_Pic_factor_144 : decode prog_6_method_14_code 144 = .ok (.bipush 24, 2) := by decide +kernel
theorem d_Pic_factor_146 : decode prog_6_method_14_code 146 = .ok (.iushr, 1) := by decide +kernel
theorem d_Pic_factor_147 : decode prog_6_method_14_code 147 = .ok (.sipush 255, 3) := by decide +kernel
theorem d_Pic_factor_150 : decode prog_6_method_14_code 150 = .ok (.iload 4, 2) := by decide +kernel
theorem d_Pic_factor_152 : decode prog_6_method_14_code 152 = .ok (.bipush 24, 2) := by decide +kernel
theorem d_Pic_factor_154 : decode prog_6_method_14_code 154 = .ok (.iushr, 1) := by decide +kernel
theorem d_Pic_factor_155 : decode prog_6_method_14_code 155 = .ok (.isub, 1) := by decide +kernel
theorem d_Pic_factor_156 : decode prog_6_method_14_code 156 = .ok (.invokestatic 44, 3) := by decide +kernel
theorem d_Pic_factor_159 : decode prog_6_method_14_code 159 = .ok (.ireturn, 1) := by decide +kernel
theorem d_Pic_factor_160 : decode prog_6_method_14_code 160 = .ok (.iconst 0, 1) := by decide +kernel
theorem d_Pic_factor_161 : decode prog_6_method_14_code 161 = .ok (.istore 6, 2) := by decide +kernel
theorem d_Pic_factor_163 : decode prog_6_method_14_code 163 = .ok (.iload_n 1, 1) := by decide +kernel
theorem d_Pic_factor_164 : decode prog_6_method_14_code 164 = .ok (.iconst 2, 1) := by decide +kernel
theorem d_Pic_factor_165 : decode prog_6_method_14_code 165 = .ok (.irem, 1) := by decide +kernel
theorem d_Pic_factor_166 : decode prog_6_method_14_code 166 = .ok (.ifCond .ne 8, 3) := by decide +kernel
theorem d_Pic_factor_169 : decode prog_6_method_14_code 169 = .ok (.iload 6, 2) := by decide +kernel
theorem d_Pic_factor_171 : decode prog_6_method_14_code 171 = .ok (.goto 9, 3) := by decide +kernel
theorem d_Pic_factor_174 : decode prog_6_method_14_code 174 = .ok (.sipush 255, 3) := by decide +kernel
theorem d_Pic_factor_177 : decode prog_6_method_14_code 177 = .ok (.iload 6, 2) := by decide +kernel
theorem d_Pic_factor_179 : decode prog_6_method_14_code 179 = .ok (.isub, 1) := by decide +kernel
theorem d_Pic_factor_180 : decode prog_6_method_14_code 180 = .ok (.ireturn, 1) := by decide +kernel
def F_Pic_factor_180 (σ : Sg) (s0 : Int32) : Option (Int32) := some s0
set_option maxRecDepth 10000 in
set_option maxHeartbeats 4000000 in
theorem bt_Pic_factor_180 {p : Program} {l : Launch} {e : Env} {R : Room} {s : State} {m : MethodId} {args : Array Value} {below : List Frame} {meth : Method} {c : Code} {D : va_G} {τ : ClassId × ClassId × ClassId} {B : Nat} {A : Nat → Prop} {ad : Nat → Nat} (E : Cx p R s m args meth c prog_6_method_14_code 7 "DrawingMachine$Picture" 0 D τ B A) (hret : meth.sig.returnType = (some .int)) (o : Int32) (σ : Sg) (s0 : Int32) (h : F_Pic_factor_180 σ s0 = some o) {H : Heap} {locs : List Loc} {ls : Array Slot} (w : Wd s D A (wdC τ σ ad) H locs) (hl : lv_has ls 7 []) : W p l e R s m args below meth c H locs 0 0 (QI below args s A D τ (wdC τ σ ad) o) (F0 m 180 ls [.int s0]) := by
  obtain rfl := Option.some.inj h
  exact rt_i E w hret d_Pic_factor_180
def F_Pic_factor_163 (σ : Sg) (v1 : Int32) (v6 : Int32) : Option (Int32) := if (irem v1 2) = 0 then (F_Pic_factor_180 σ v6) else (F_Pic_factor_180 σ (255 - v6))
set_option maxRecDepth 10000 in
set_option maxHeartbeats 4000000 in
theorem bt_Pic_factor_163 {p : Program} {l : Launch} {e : Env} {R : Room} {s : State} {m : MethodId} {args : Array Value} {below : List Frame} {meth : Method} {c : Code} {D : va_G} {τ : ClassId × ClassId × ClassId} {B : Nat} {A : Nat → Prop} {ad : Nat → Nat} (E : Cx p R s m args meth c prog_6_method_14_code 7 "DrawingMachine$Picture" 0 D τ B A) (hret : meth.sig.returnType = (some .int)) (o : Int32) (σ : Sg) (v1 : Int32) (v6 : Int32) (h : F_Pic_factor_163 σ v1 v6 = some o) {H : Heap} {locs : List Loc} {ls : Array Slot} (w : Wd s D A (wdC τ σ ad) H locs) (hl : lv_has ls 7 [(1, .int v1), (6, .int v6)]) : W p l e R s m args below meth c H locs 0 0 (QI below args s A D τ (wdC τ σ ad) o) (F0 m 163 ls []) := by
  refine lv_iload_n E.x E.b d_Pic_factor_163 rfl (lv_at hl 0 rfl) ?_
  refine lv_iconst (v := 2) E.x E.b d_Pic_factor_164 (by decide) ?_
  refine lv_irem E.x E.b d_Pic_factor_165 (by decide) ?_
  refine wi_e (v := irem v1 2) rfl ?_
  refine lv_if_ne (tgt := 174) E.x E.b d_Pic_factor_166 (by decide) (fun c => ?_) (fun c => ?_)
  ·
    replace h := ifF c h
    refine lv_sipush (v := 255) E.x E.b d_Pic_factor_174 (by decide) ?_
    refine lv_iload E.x E.b d_Pic_factor_177 (lv_at hl 1 rfl) ?_
    refine lv_isub E.x E.b d_Pic_factor_179 ?_
    exact bt_Pic_factor_180 E hret o σ (255 - v6) h w (lv_sub hl [] rfl)
  ·
    replace h := ifT c h
    refine lv_iload E.x E.b d_Pic_factor_169 (lv_at hl 1 rfl) ?_
    refine lv_goto (tgt := 180) E.x E.b d_Pic_factor_171 (by decide) ?_
    exact bt_Pic_factor_180 E hret o σ v6 h w (lv_sub hl [] rfl)
def F_Pic_factor_159 (σ : Sg) (s0 : Int32) : Option (Int32) := some s0
set_option maxRecDepth 10000 in
set_option maxHeartbeats 4000000 in
theorem bt_Pic_factor_159 {p : Program} {l : Launch} {e : Env} {R : Room} {s : State} {m : MethodId} {args : Array Value} {below : List Frame} {meth : Method} {c : Code} {D : va_G} {τ : ClassId × ClassId × ClassId} {B : Nat} {A : Nat → Prop} {ad : Nat → Nat} (E : Cx p R s m args meth c prog_6_method_14_code 7 "DrawingMachine$Picture" 0 D τ B A) (hret : meth.sig.returnType = (some .int)) (o : Int32) (σ : Sg) (s0 : Int32) (h : F_Pic_factor_159 σ s0 = some o) {H : Heap} {locs : List Loc} {ls : Array Slot} (w : Wd s D A (wdC τ σ ad) H locs) (hl : lv_has ls 7 []) : W p l e R s m args below meth c H locs 0 0 (QI below args s A D τ (wdC τ σ ad) o) (F0 m 159 ls [.int s0]) := by
  obtain rfl := Option.some.inj h
  exact rt_i E w hret d_Pic_factor_159
def F_Pic_factor (σ : Sg) (x0 : Int32) (x1 : Int32) (x2 : Int32) (x3 : Int32) : Option (Int32) := lt (σ.2.2.1 1 212) (fun y16 => lt (x0 >>> 1) (fun y17 => if y17 = 1 then (lt ((ushr x2 (8 * x1)) &&& 255) (fun y19 => F_Pic_factor_163 σ x0 y19)) else (if y17 = 2 then (lt ((ushr x3 (8 * x1)) &&& 255) (fun y21 => F_Pic_factor_163 σ x0 y21)) else (if y17 = 3 then (lt (ushr x2 24) (fun y23 => F_Pic_factor_163 σ x0 y23)) else (if y17 = 4 then (lt (ushr x3 24) (fun y25 => F_Pic_factor_163 σ x0 y25)) else (if y17 = 5 then (lt ((ushr y16 (8 * x1)) &&& 255) (fun y27 => F_Pic_factor_163 σ x0 y27)) else (if y17 = 6 then (lt (ushr y16 24) (fun y29 => F_Pic_factor_163 σ x0 y29)) else (if y17 = 7 then (if x1 = 3 then (F_Pic_factor_159 σ 255) else (F_Pic_factor_159 σ (imin (ushr x2 24) (255 - (ushr x3 24))))) else (F_Pic_factor_163 σ x0 0)))))))))
set_option maxRecDepth 10000 in
set_option maxHeartbeats 4000000 in
theorem c_Pic_factor (l : Launch) (D : va_G) (τ : ClassId × ClassId × ClassId) (B : Nat) (σ : Sg) (ad : Nat → Nat) (x0 : Int32) (x1 : Int32) (x2 : Int32) (x3 : Int32) (o : Int32) (h : F_Pic_factor σ x0 x1 x2 x3 = some o) : MI l y_Pic_factor (Cond.code y_Pic_factor prog_6_method_14_code 7 (some .int)) 0 D τ B [.ref (ad 58), .int x0, .int x1, .int x2, .int x3] (wdC τ σ ad) (wdC τ σ ad) o := by
  refine en_i (by decide) (Nat.le_of_ble_eq_true rfl) ?_
  intro p e R s m args below meth c H locs ls A E hret w hl
  have E : Cx p R s m args meth c prog_6_method_14_code 7 "DrawingMachine$Picture" 0 D τ B A := E
  have hl : lv_has ls 7 [(0, .ref (ad 58)), (1, .int x0), (2, .int x1), (3, .int x2), (4, .int x3)] := hl
  refine lv_aload_n E.x E.b d_Pic_factor_0 rfl (lv_at hl 0 rfl) ?_
  refine gC_Pic_kept E w k88 d_Pic_factor_1 ?_
  refine lv_sipush (v := 212) E.x E.b d_Pic_factor_4 (by decide) ?_
  refine ialC E w (k := 1) (by decide) (show inb 212 245 by decide) d_Pic_factor_7 ?_
  refine wi_e (v := σ.2.2.1 1 212) rfl ?_
  obtain ⟨y16, e_y16, h⟩ := lt_some h
  refine wi_e (v := y16) e_y16 ?_
  refine lv_istore (lv' := [(5, .int y16), (0, .ref (ad 58)), (1, .int x0), (2, .int x1), (3, .int x2), (4, .int x3)]) E.x E.b d_Pic_factor_8 hl (by decide) rfl (fun ls hl => ?_)
  refine lv_iload_n E.x E.b d_Pic_factor_10 rfl (lv_at hl 2 rfl) ?_
  refine lv_iconst (v := 1) E.x E.b d_Pic_factor_11 (by decide) ?_
  refine lv_ishr E.x E.b d_Pic_factor_12 ?_
  refine wi_e (v := x0 >>> 1) rfl ?_
  obtain ⟨y17, e_y17, h⟩ := lt_some h
  refine wi_e (v := y17) e_y17 ?_
  by_cases q18 : y17 = 1
  ·
    replace h := ifT q18 h
    refine wi_e (v := 1) q18 ?_
    refine lv_tableIn (off := 43) (tgt := 56) E.x E.b d_Pic_factor_13 (by decide) (by decide) (by decide) (by decide) ?_
    refine lv_iload_n E.x E.b d_Pic_factor_56 rfl (lv_at hl 4 rfl) ?_
    refine lv_bipush (v := 8) E.x E.b d_Pic_factor_57 (by decide) ?_
    refine lv_iload_n E.x E.b d_Pic_factor_59 rfl (lv_at hl 3 rfl) ?_
    refine lv_imul E.x E.b d_Pic_factor_60 ?_
    refine lv_iushr (v := ushr x2 (8 * x1)) E.x E.b d_Pic_factor_61 rfl ?_
    refine lv_sipush (v := 255) E.x E.b d_Pic_factor_62 (by decide) ?_
    refine lv_iand E.x E.b d_Pic_factor_65 ?_
    obtain ⟨y19, e_y19, h⟩ := lt_some h
    refine wi_e (v := y19) e_y19 ?_
    refine lv_istore (lv' := [(6, .int y19), (5, .int y16), (0, .ref (ad 58)), (1, .int x0), (2, .int x1), (3, .int x2), (4, .int x3)]) E.x E.b d_Pic_factor_66 hl (by decide) rfl (fun ls hl => ?_)
    refine lv_goto (tgt := 163) E.x E.b d_Pic_factor_68 (by decide) ?_
    exact bt_Pic_factor_163 E hret o σ x0 y19 h w (lv_sub hl [3, 0] rfl)
  replace h := ifF q18 h
  replace q18 := ne_ti (k := 1) (by decide) q18
  by_cases q20 : y17 = 2
  ·
    replace h := ifT q20 h
    refine wi_e (v := 2) q20 ?_
    refine lv_tableIn (off := 58) (tgt := 71) E.x E.b d_Pic_factor_13 (by decide) (by decide) (by decide) (by decide) ?_
    refine lv_iload E.x E.b d_Pic_factor_71 (lv_at hl 5 rfl) ?_
    refine lv_bipush (v := 8) E.x E.b d_Pic_factor_73 (by decide) ?_
    refine lv_iload_n E.x E.b d_Pic_factor_75 rfl (lv_at hl 3 rfl) ?_
    refine lv_imul E.x E.b d_Pic_factor_76 ?_
    refine lv_iushr (v := ushr x3 (8 * x1)) E.x E.b d_Pic_factor_77 rfl ?_
    refine lv_sipush (v := 255) E.x E.b d_Pic_factor_78 (by decide) ?_
    refine lv_iand E.x E.b d_Pic_factor_81 ?_
    obtain ⟨y21, e_y21, h⟩ := lt_some h
    refine wi_e (v := y21) e_y21 ?_
    refine lv_istore (lv' := [(6, .int y21), (5, .int y16), (0, .ref (ad 58)), (1, .int x0), (2, .int x1), (3, .int x2), (4, .int x3)]) E.x E.b d_Pic_factor_82 hl (by decide) rfl (fun ls hl => ?_)
    refine lv_goto (tgt := 163) E.x E.b d_Pic_factor_84 (by decide) ?_
    exact bt_Pic_factor_163 E hret o σ x0 y21 h w (lv_sub hl [3, 0] rfl)
  replace h := ifF q20 h
  replace q20 := ne_ti (k := 2) (by decide) q20
  by_cases q22 : y17 = 3
  ·
    replace h := ifT q22 h
    refine wi_e (v := 3) q22 ?_
    refine lv_tableIn (off := 74) (tgt := 87) E.x E.b d_Pic_factor_13 (by decide) (by decide) (by decide) (by decide) ?_
    refine lv_iload_n E.x E.b d_Pic_factor_87 rfl (lv_at hl 4 rfl) ?_
    refine lv_bipush (v := 24) E.x E.b d_Pic_factor_88 (by decide) ?_
    refine lv_iushr (v := ushr x2 24) E.x E.b d_Pic_factor_90 rfl ?_
    obtain ⟨y23, e_y23, h⟩ := lt_some h
    refine wi_e (v := y23) e_y23 ?_
    refine lv_istore (lv' := [(6, .int y23), (5, .int y16), (0, .ref (ad 58)), (1, .int x0), (2, .int x1), (3, .int x2), (4, .int x3)]) E.x E.b d_Pic_factor_91 hl (by decide) rfl (fun ls hl => ?_)
    refine lv_goto (tgt := 163) E.x E.b d_Pic_factor_93 (by decide) ?_
    exact bt_Pic_factor_163 E hret o σ x0 y23 h w (lv_sub hl [3, 0] rfl)
  replace h := ifF q22 h
  replace q22 := ne_ti (k := 3) (by decide) q22
  by_cases q24 : y17 = 4
  ·
    replace h := ifT q24 h
    refine wi_e (v := 4) q24 ?_
    refine lv_tableIn (off := 83) (tgt := 96) E.x E.b d_Pic_factor_13 (by decide) (by decide) (by decide) (by decide) ?_
    refine lv_iload E.x E.b d_Pic_factor_96 (lv_at hl 5 rfl) ?_
    refine lv_bipush (v := 24) E.x E.b d_Pic_factor_98 (by decide) ?_
    refine lv_iushr (v := ushr x3 24) E.x E.b d_Pic_factor_100 rfl ?_
    obtain ⟨y25, e_y25, h⟩ := lt_some h
    refine wi_e (v := y25) e_y25 ?_
    refine lv_istore (lv' := [(6, .int y25), (5, .int y16), (0, .ref (ad 58)), (1, .int x0), (2, .int x1), (3, .int x2), (4, .int x3)]) E.x E.b d_Pic_factor_101 hl (by decide) rfl (fun ls hl => ?_)
    refine lv_goto (tgt := 163) E.x E.b d_Pic_factor_103 (by decide) ?_
    exact bt_Pic_factor_163 E hret o σ x0 y25 h w (lv_sub hl [3, 0] rfl)
  replace h := ifF q24 h
  replace q24 := ne_ti (k := 4) (by decide) q24
  by_cases q26 : y17 = 5
  ·
    replace h := ifT q26 h
    refine wi_e (v := 5) q26 ?_
    refine lv_tableIn (off := 93) (tgt := 106) E.x E.b d_Pic_factor_13 (by decide) (by decide) (by decide) (by decide) ?_
    refine lv_iload E.x E.b d_Pic_factor_106 (lv_at hl 0 rfl) ?_
    refine lv_bipush (v := 8) E.x E.b d_Pic_factor_108 (by decide) ?_
    refine lv_iload_n E.x E.b d_Pic_factor_110 rfl (lv_at hl 3 rfl) ?_
    refine lv_imul E.x E.b d_Pic_factor_111 ?_
    refine lv_iushr (v := ushr y16 (8 * x1)) E.x E.b d_Pic_factor_112 rfl ?_
    refine lv_sipush (v := 255) E.x E.b d_Pic_factor_113 (by decide) ?_
    refine lv_iand E.x E.b d_Pic_factor_116 ?_
    obtain ⟨y27, e_y27, h⟩ := lt_some h
    refine wi_e (v := y27) e_y27 ?_
    refine lv_istore (lv' := [(6, .int y27), (5, .int y16), (0, .ref (ad 58)), (1, .int x0), (2, .int x1), (3, .int x2), (4, .int x3)]) E.x E.b d_Pic_factor_117 hl (by decide) rfl (fun ls hl => ?_)
    refine lv_goto (tgt := 163) E.x E.b d_Pic_factor_119 (by decide) ?_
    exact bt_Pic_factor_163 E hret o σ x0 y27 h w (lv_sub hl [3, 0] rfl)
  replace h := ifF q26 h
  replace q26 := ne_ti (k := 5) (by decide) q26
  by_cases q28 : y17 = 6
  ·
    replace h := ifT q28 h
    refine wi_e (v := 6) q28 ?_
    refine lv_tableIn (off := 109) (tgt := 122) E.x E.b d_Pic_factor_13 (by decide) (by decide) (by decide) (by decide) ?_
    refine lv_iload E.x E.b d_Pic_factor_122 (lv_at hl 0 rfl) ?_
    refine lv_bipush (v := 24) E.x E.b d_Pic_factor_124 (by decide) ?_
    refine lv_iushr (v := ushr y16 24) E.x E.b d_Pic_factor_126 rfl ?_
    obtain ⟨y29, e_y29, h⟩ := lt_some h
    refine wi_e (v := y29) e_y29 ?_
    refine lv_istore (lv' := [(6, .int y29), (5, .int y16), (0, .ref (ad 58)), (1, .int x0), (2, .int x1), (3, .int x2), (4, .int x3)]) E.x E.b d_Pic_factor_127 hl (by decide) rfl (fun ls hl => ?_)
    refine lv_goto (tgt := 163) E.x E.b d_Pic_factor_129 (by decide) ?_
    exact bt_Pic_factor_163 E hret o σ x0 y29 h w (lv_sub hl [3, 0] rfl)
  replace h := ifF q28 h
  replace q28 := ne_ti (k := 6) (by decide) q28
  by_cases q30 : y17 = 7
  ·
    replace h := ifT q30 h
    refine wi_e (v := 7) q30 ?_
    refine lv_tableIn (off := 119) (tgt := 132) E.x E.b d_Pic_factor_13 (by decide) (by decide) (by decide) (by decide) ?_
    refine lv_iload_n E.x E.b d_Pic_factor_132 rfl (lv_at hl 3 rfl) ?_
    refine lv_iconst (v := 3) E.x E.b d_Pic_factor_133 (by decide) ?_
    refine lv_icmp_ne (tgt := 143) E.x E.b d_Pic_factor_134 (by decide) (fun c => ?_) (fun c => ?_)
    ·
      replace h := ifF c h
      refine lv_iload_n E.x E.b d_Pic_factor_143 rfl (lv_at hl 4 rfl) ?_
      refine lv_bipush (v := 24) E.x E.b d_Pic_factor_144 (by decide) ?_
      refine lv_iushr (v := ushr x2 24) E.x E.b d_Pic_factor_146 rfl ?_
      refine lv_sipush (v := 255) E.x E.b d_Pic_factor_147 (by decide) ?_
      refine lv_iload E.x E.b d_Pic_factor_150 (lv_at hl 5 rfl) ?_
      refine lv_bipush (v := 24) E.x E.b d_Pic_factor_152 (by decide) ?_
      refine lv_iushr (v := ushr x3 24) E.x E.b d_Pic_factor_154 rfl ?_
      refine lv_isub E.x E.b d_Pic_factor_155 ?_
      refine va_mmin E.x E.b (E.2.2.1.trans hl.1.symm) E.o (E.w _ k562) (E.w _ k563) (E.w _ k25) (E.w _ k564) (Nat.le_trans (by decide) E.2.2.2.2.2.2.1) (Nat.le_trans (Nat.le_of_ble_eq_true rfl) E.2.2.2.2.2.2.2.1) (Nat.zero_le _) (Nat.zero_le _) d_Pic_factor_156 ?_
      refine wi_e (v := imin (ushr x2 24) (255 - (ushr x3 24))) rfl ?_
      exact bt_Pic_factor_159 E hret o σ (imin (ushr x2 24) (255 - (ushr x3 24))) h w (lv_sub hl [] rfl)
    ·
      replace h := ifT c h
      refine lv_sipush (v := 255) E.x E.b d_Pic_factor_137 (by decide) ?_
      refine lv_goto (tgt := 159) E.x E.b d_Pic_factor_140 (by decide) ?_
      exact bt_Pic_factor_159 E hret o σ 255 h w (lv_sub hl [] rfl)
  replace h := ifF q30 h
  replace q30 := ne_ti (k := 7) (by decide) q30
  refine lv_tableOut (tgt := 160) E.x E.b d_Pic_factor_13 (by omega) (by decide) ?_
  refine lv_iconst (v := 0) E.x E.b d_Pic_factor_160 (by decide) ?_
  refine lv_istore (lv' := [(6, .int 0), (5, .int y16), (0, .ref (ad 58)), (1, .int x0), (2, .int x1), (3, .int x2), (4, .int x3)]) E.x E.b d_Pic_factor_161 hl (by decide) rfl (fun ls hl => ?_)
  exact bt_Pic_factor_163 E hret o σ x0 0 h w (lv_sub hl [3, 0] rfl)
theorem clV_Pic_factor {p : Program} {l : Launch} {e : Env} {R : Room} {s : State} {m : MethodId} {args : Array Value} {below : List Frame} {meth : Method} {c : Code} {H : Heap} {locs : List Loc} {Q : State → Prop} {cc : ByteArray} {nL pc lev : Nat} {own : String} {D : va_G} {τ : ClassId × ClassId × ClassId} {B : Nat} {A : Nat → Prop} {σ : Sg} {ad : Nat → Nat} {ls : Array Slot} {rest : List Value} (E : Cx p R s m args meth c cc nL own lev D τ B A) (w : Wd s D A (wdC τ σ ad) H locs) {x0 : Int32} {x1 : Int32} {x2 : Int32} {x3 : Int32} {o : Int32} (h : F_Pic_factor σ x0 x1 x2 x3 = some o) {index : Nat} (hlk : Cond.methodLink own index y_Pic_factor ∈ tw) (hlev : 0 < lev) (hsz : ls.size = nL) (hr : (rest.map fun v => v.category).sum ≤ 8) (hd : decode cc pc = .ok (.invokevirtual index, 3)) (kk : ∀ (H1 : Heap) (locs1 : List Loc), Wd s D A (wdC τ σ ad) H1 locs1 → W p l e R s m args below meth c H1 locs1 0 0 Q (F0 m (pc + 3) ls (.int o :: rest))) : W p l e R s m args below meth c H locs 0 0 Q (F0 m pc ls (.int x3 :: .int x2 :: .int x1 :: .int x0 :: .ref (ad 58) :: rest)) :=
  cr_i w E.C (va_runV (As := [.int x0, .int x1, .int x2, .int x3]) (rest := rest) E.fix (c_Pic_factor l D τ B σ ad x0 x1 x2 x3 o h H.size) (cwV 4 E.w (tw_pre (tw_good k1280) (l := [_, _, _, _]) (List.forall_mem_cons.mpr ⟨hlk, List.forall_mem_cons.mpr ⟨k1279, List.forall_mem_cons.mpr ⟨ks34, List.forall_mem_cons.mpr ⟨k4, fun _ h => absurd h List.not_mem_nil⟩⟩⟩⟩)) rfl rfl rfl (by decide +kernel) (E.rm hlev (by decide))) (wd_preV w E.C [.int x0, .int x1, .int x2, .int x3] rcC_Pic rfl) rfl rfl hsz rfl (lv_room hr) hd ⟨Nat.zero_le _, Nat.zero_le _⟩) kk

theorem d_Pic_blended_0 : decode prog_6_method_12_code 0 = .ok (.iload_n 1, 1) := by decide +kernel
theorem d_Pic_blended_1 : decode prog_6_method_12_code 1 = .ok (.iconst 3, 1) := by decide +kernel
theorem d_Pic_blended_2 : decode prog_6_method_12_code 2 = .ok (.if_icmp .ne 7, 3) := by decide +kernel
theorem d_Pic_blended_5 : decode prog_6_method_12_code 5 = .ok (.iconst 2, 1) := by decide +kernel
theorem d_Pic_blended_6 : decode prog_6_method_12_code 6 = .ok (.goto 4, 3) := by decide +kernel
theorem d_Pic_blended_9 : decode prog_6_method_12_code 9 = .ok (.iconst 0, 1) := by decide +kernel
theorem d_Pic_blended_10 : decode prog_6_method_12_code 10 = .ok (.istore 4, 2) := by decide +kernel
theorem d_Pic_blended_12 : decode prog_6_method_12_code 12 = .ok (.iload_n 2, 1) := by decide +kernel
theorem d_Pic_blended_13 : decode prog_6_method_12_code 13 = .ok (.bipush 8, 2) := by decide +kernel
theorem d_Pic_blended_15 : decode prog_6_method_12_code 15 = .ok (.iload_n 1, 1) := by decide +kernel
theorem d_Pic_blended_16 : decode prog_6_method_12_code 16 = .ok (.imul, 1) := by decide +kernel
theorem d_Pic_blended_17 : decode prog_6_method_12_code 17 = .ok (.iushr, 1) := by decide +kernel
theorem d_Pic_blended_18 : decode prog_6_method_12_code 18 = .ok (.sipush 255, 3) := by decide +kernel
theorem d_Pic_blended_21 : decode prog_6_method_12_code 21 = .ok (.iand, 1) := by decide +kernel
theorem d_Pic_blended_22 : decode prog_6_method_12_code 22 = .ok (.istore 5, 2) := by decide +kernel
theorem d_Pic_blended_24 : decode prog_6_method_12_code 24 = .ok (.iload_n 3, 1) := by decide +kernel
theorem d_Pic_blended_25 : decode prog_6_method_12_code 25 = .ok (.bipush 8, 2) := by decide +kernel
theorem d_Pic_blended_27 : decode prog_6_method_12_code 27 = .ok (.iload_n 1, 1) := by decide +kernel
theorem d_Pic_blended_28 : decode prog_6_method_12_code 28 = .ok (.imul, 1) := by decide +kernel
theorem d_Pic_blended_29 : decode prog_6_method_12_code 29 = .ok (.iushr, 1) := by decide +kernel
theorem d_Pic_blended_30 : decode prog_6_method_12_code 30 = .ok (.sipush 255, 3) := by decide +kernel
theorem d_Pic_blended_33 : decode prog_6_method_12_code 33 = .ok (.iand, 1) := by decide +kernel
theorem d_Pic_blended_34 : decode prog_6_method_12_code 34 = .ok (.istore 6, 2) := by decide +kernel
theorem d_Pic_blended_36 : decode prog_6_method_12_code 36 = .ok (.iload 5, 2) := by decide +kernel
theorem d_Pic_blended_38 : decode prog_6_method_12_code 38 = .ok (.aload_n 0, 1) := by decide +kernel
theorem d_Pic_blended_39 : decode prog_6_method_12_code 39 = .ok (.aload_n 0, 1) := by decide +kernel
theorem d_Pic_blended_40 : decode prog_6_method_12_code 40 = .ok (.getfield 37, 3) := by decide +kernel
theorem d_Pic_blended_43 : decode prog_6_method_12_code 43 = .ok (.sipush 206, 3) := by decide +kernel
theorem d_Pic_blended_46 : decode prog_6_method_12_code 46 = .ok (.iload 4, 2) := by decide +kernel
theorem d_Pic_blended_48 : decode prog_6_method_12_code 48 = .ok (.iadd, 1) := by decide +kernel
theorem d_Pic_blended_49 : decode prog_6_method_12_code 49 = .ok (.iaload, 1) := by decide +kernel
theorem d_Pic_blended_50 : decode prog_6_method_12_code 50 = .ok (.iload_n 1, 1) := by decide +kernel
theorem d_Pic_blended_51 : decode prog_6_method_12_code 51 = .ok (.iload_n 2, 1) := by decide +kernel
theorem d_Pic_blended_52 : decode prog_6_method_12_code 52 = .ok (.iload_n 3, 1) := by decide +kernel
theorem d_Pic_blended_53 : decode prog_6_method_12_code 53 = .ok (.invokevirtual 82, 3) := by decide +kernel
theorem d_Pic_blended_56 : decode prog_6_method_12_code 56 = .ok (.imul, 1) := by decide +kernel
theorem d_Pic_blended_57 : decode prog_6_method_12_code 57 = .ok (.istore 7, 2) := by decide +kernel
theorem d_Pic_blended_59 : decode prog_6_method_12_code 59 = .ok (.iload 6, 2) := by decide +kernel
theorem d_Pic_blended_61 : decode prog_6_method_12_code 61 = .ok (.aload_n 0, 1) := by decide +kernel
theorem d_Pic_blended_62 : decode prog_6_method_12_code 62 = .ok (.aload_n 0, 1) := by decide +kernel
theorem d_Pic_blended_63 : decode prog_6_method_12_code 63 = .ok (.getfield 37, 3) := by decide +kernel
theorem d_Pic_blended_66 : decode prog_6_method_12_code 66 = .ok (.sipush 206, 3) := by decide +kernel
theorem d_Pic_blended_69 : decode prog_6_method_12_code 69 = .ok (.iload 4, 2) := by decide +kernel
theorem d_Pic_blended_71 : decode prog_6_method_12_code 71 = .ok (.iadd, 1) := by decide +kernel
theorem d_Pic_blended_72 : decode prog_6_method_12_code 72 = .ok (.iconst 1, 1) := by decide +kernel
theorem d_Pic_blended_73 : decode prog_6_method_12_code 73 = .ok (.iadd, 1) := by decide +kernel
theorem d_Pic_blended_74 : decode prog_6_method_12_code 74 = .ok (.iaload, 1) := by decide +kernel
theorem d_Pic_blended_75 : decode prog_6_method_12_code 75 = .ok (.iload_n 1, 1) := by decide +kernel
theorem d_Pic_blended_76 : decode prog_6_method_12_code 76 = .ok (.iload_n 2, 1) := by decide +kernel
theorem d_Pic_blended_77 : decode prog_6_method_12_code 77 = .ok (.iload_n 3, 1) := by decide +kernel
theorem d_Pic_blended_78 : decode prog_6_method_12_code 78 = .ok (.invokevirtual 82, 3) := by decide +kernel
theorem d_Pic_blended_81 : decode prog_6_method_12_code 81 = .ok (.imul, 1) := by decide +kernel
theorem d_Pic_blended_82 : decode prog_6_method_12_code 82 = .ok (.istore 8, 2) := by decide +kernel
theorem d_Pic_blended_84 : decode prog_6_method_12_code 84 = .ok (.aload_n 0, 1) := by decide +kernel
theorem d_Pic_blended_85 : decode prog_6_method_12_code 85 = .ok (.getfield 37, 3) := by decide +kernel
theorem d_Pic_blended_88 : decode prog_6_method_12_code 88 = .ok (.sipush 206, 3) := by decide +kernel
theorem d_Pic_blended_91 : decode prog_6_method_12_code 91 = .ok (.iload_n 1, 1) := by decide +kernel
theorem d_Pic_blended_92 : decode prog_6_method_12_code 92 = .ok (.iconst 3, 1) := by decide +kernel
theorem d_Pic_blended_93 : decode prog_6_method_12_code 93 = .ok (.if_icmp .ne 7, 3) := by decide +kernel
theorem d_Pic_blended_96 : decode prog_6_method_12_code 96 = .ok (.iconst 5, 1) := by decide +kernel
theorem d_Pic_blended_97 : decode prog_6_method_12_code 97 = .ok (.goto 4, 3) := by decide +kernel
theorem d_Pic_blended_100 : decode prog_6_method_12_code 100 = .ok (.iconst 4, 1) := by decide +kernel
theorem d_Pic_blended_101 : decode prog_6_method_12_code 101 = .ok (.iadd, 1) := by decide +kernel
theorem d_Pic_blended_102 : decode prog_6_method_12_code 102 = .ok (.iaload, 1) := by decide +kernel
theorem d_Pic_blended_103 : decode prog_6_method_12_code 103 = .ok (.tableswitch 64 0 3 #[29, 38, 47, 56], 29) := by decide +kernel
theorem d_Pic_blended_132 : decode prog_6_method_12_code 132 = .ok (.iload 7, 2) := by decide +kernel
theorem d_Pic_blended_134 : decode prog_6_method_12_code 134 = .ok (.iload 8, 2) := by decide +kernel
theorem d_Pic_blended_136 : decode prog_6_method_12_code 136 = .ok (.iadd, 1) := by decide +kernel
theorem d_Pic_blended_137 : decode prog_6_method_12_code 137 = .ok (.invokestatic 86, 3) := by decide +kernel
theorem d_Pic_blended_140 : decode prog_6_method_12_code 140 = .ok (.ireturn, 1) := by decide +kernel
theorem d_Pic_blended_141 : decode prog_6_method_12_code 141 = .ok (.iload 7, 2) := by decide +kernel
theorem d_Pic_blended_143 : decode prog_6_method_12_code 143 = .ok (.iload 8, 2) := by decide +kernel
theorem d_Pic_blended_145 : decode prog_6_method_12_code 145 = .ok (.isub, 1) := by decide +kernel
theorem d_Pic_blended_146 : decode prog_6_method_12_code 146 = .ok (.invokestatic 86, 3) := by decide +kernel
theorem d_Pic_blended_149 : decode prog_6_method_12_code 149 = .ok (.ireturn, 1) := by decide +kernel
theorem d_Pic_blended_150 : decode prog_6_method_12_code 150 = .ok (.iload 8, 2) := by decide +kernel
theorem d_Pic_blended_152 : decode prog_6_method_12_code 152 = .ok (.iload 7, 2) := by decide +kernel
theorem d_Pic_blended_154 : decode prog_6_method_12_code 154 = .ok (.isub, 1) := by decide +kernel
theorem d_Pic_blended_155 : decode prog_6_method_12_code 155 = .ok (.invokestatic 86, 3) := by decide +kernel
theorem d_Pic_blended_158 : decode prog_6_method_12_code 158 = .ok (.ireturn, 1) := by decide +kernel
theorem d_Pic_blended_159 : decode prog_6_method_12_code 159 = .ok (.iload 5, 2) := by decide +kernel
theorem d_Pic_blended_161 : decode prog_6_method_12_code 161 = .ok (.iload 6, 2) := by decide +kernel
theorem d_Pic_blended_163 : decode prog_6_method_12_code 163 = .ok (.invokestatic 44, 3) := by decide +kernel
theorem d_Pic_blended_166 : decode prog_6_method_12_code 166 = .ok (.ireturn, 1) := by decide +kernel
theorem d_Pic_blended_167 : decode prog_6_method_12_code 167 = .ok (.iload 5, 2) := by decide +kernel
theorem d_Pic_blended_169 : decode prog_6_method_12_code 169 = .ok (.iload 6, 2) := by decide +kernel
theorem d_Pic_blended_171 : decode prog_6_method_12_code 171 = .ok (.invokestatic 38, 3) := by decide +kernel
theorem d_Pic_blended_174 : decode prog_6_method_12_code 174 = .ok (.ireturn, 1) := by decide +kernel
def F_Pic_blended_101 (σ : Sg) (v5 : Int32) (v6 : Int32) (v7 : Int32) (v8 : Int32) (s1 : Int32) (s2 : Int32) : Option (Int32) := ck (inb (s1 + s2) 245) (lt (σ.2.2.1 1 (s1 + s2).toNatClampNeg) (fun y19 => if y19 = 0 then (bd (F_Pic_by255 (v7 + v8)) (fun o21 => some o21)) else (if y19 = 1 then (bd (F_Pic_by255 (v7 - v8)) (fun o23 => some o23)) else (if y19 = 2 then (bd (F_Pic_by255 (v8 - v7)) (fun o25 => some o25)) else (if y19 = 3 then (some (imin v5 v6)) else (some (imax v5 v6)))))))
set_option maxRecDepth 10000 in
set_option maxHeartbeats 4000000 in
theorem bt_Pic_blended_101 {p : Program} {l : Launch} {e : Env} {R : Room} {s : State} {m : MethodId} {args : Array Value} {below : List Frame} {meth : Method} {c : Code} {D : va_G} {τ : ClassId × ClassId × ClassId} {B : Nat} {A : Nat → Prop} {ad : Nat → Nat} (E : Cx p R s m args meth c prog_6_method_12_code 9 "DrawingMachine$Picture" 1 D τ B A) (hret : meth.sig.returnType = (some .int)) (o : Int32) (σ : Sg) (v5 : Int32) (v6 : Int32) (v7 : Int32) (v8 : Int32) (s1 : Int32) (s2 : Int32) (h : F_Pic_blended_101 σ v5 v6 v7 v8 s1 s2 = some o) {H : Heap} {locs : List Loc} {ls : Array Slot} (w : Wd s D A (wdC τ σ ad) H locs) (hl : lv_has ls 9 [(5, .int v5), (6, .int v6), (7, .int v7), (8, .int v8)]) : W p l e R s m args below meth c H locs 0 0 (QI below args s A D τ (wdC τ σ ad) o) (F0 m 101 ls [.int s2, .int s1, .ref (ad 1)]) := by
  refine lv_iadd E.x E.b d_Pic_blended_101 ?_
  obtain ⟨c18, h⟩ := ck_some h
  refine ialC E w (k := 1) (by decide) c18 d_Pic_blended_102 ?_
  obtain ⟨y19, e_y19, h⟩ := lt_some h
  refine wi_e (v := y19) e_y19 ?_
  by_cases q20 : y19 = 0
  ·
    replace h := ifT q20 h
    refine wi_e (v := 0) q20 ?_
    refine lv_tableIn (off := 29) (tgt := 132) E.x E.b d_Pic_blended_103 (by decide) (by decide) (by decide) (by decide) ?_
    refine lv_iload E.x E.b d_Pic_blended_132 (lv_at hl 2 rfl) ?_
    refine lv_iload E.x E.b d_Pic_blended_134 (lv_at hl 3 rfl) ?_
    refine lv_iadd E.x E.b d_Pic_blended_136 ?_
    obtain ⟨o21, h_o21, h⟩ := bd_some h
    refine clS_Pic_by255 E w (x0 := (v7 + v8)) h_o21 k1281 (by decide) hl.1 (Nat.le_of_ble_eq_true rfl) d_Pic_blended_137 (fun H locs w => ?_)
    obtain rfl := Option.some.inj h
    exact rt_i E w hret d_Pic_blended_140
  replace h := ifF q20 h
  replace q20 := ne_ti (k := 0) (by decide) q20
  by_cases q22 : y19 = 1
  ·
    replace h := ifT q22 h
    refine wi_e (v := 1) q22 ?_
    refine lv_tableIn (off := 38) (tgt := 141) E.x E.b d_Pic_blended_103 (by decide) (by decide) (by decide) (by decide) ?_
    refine lv_iload E.x E.b d_Pic_blended_141 (lv_at hl 2 rfl) ?_
    refine lv_iload E.x E.b d_Pic_blended_143 (lv_at hl 3 rfl) ?_
    refine lv_isub E.x E.b d_Pic_blended_145 ?_
    obtain ⟨o23, h_o23, h⟩ := bd_some h
    refine clS_Pic_by255 E w (x0 := (v7 - v8)) h_o23 k1281 (by decide) hl.1 (Nat.le_of_ble_eq_true rfl) d_Pic_blended_146 (fun H locs w => ?_)
    obtain rfl := Option.some.inj h
    exact rt_i E w hret d_Pic_blended_149
  replace h := ifF q22 h
  replace q22 := ne_ti (k := 1) (by decide) q22
  by_cases q24 : y19 = 2
  ·
    replace h := ifT q24 h
    refine wi_e (v := 2) q24 ?_
    refine lv_tableIn (off := 47) (tgt := 150) E.x E.b d_Pic_blended_103 (by decide) (by decide) (by decide) (by decide) ?_
    refine lv_iload E.x E.b d_Pic_blended_150 (lv_at hl 3 rfl) ?_
    refine lv_iload E.x E.b d_Pic_blended_152 (lv_at hl 2 rfl) ?_
    refine lv_isub E.x E.b d_Pic_blended_154 ?_
    obtain ⟨o25, h_o25, h⟩ := bd_some h
    refine clS_Pic_by255 E w (x0 := (v8 - v7)) h_o25 k1281 (by decide) hl.1 (Nat.le_of_ble_eq_true rfl) d_Pic_blended_155 (fun H locs w => ?_)
    obtain rfl := Option.some.inj h
    exact rt_i E w hret d_Pic_blended_158
  replace h := ifF q24 h
  replace q24 := ne_ti (k := 2) (by decide) q24
  by_cases q26 : y19 = 3
  ·
    replace h := ifT q26 h
    refine wi_e (v := 3) q26 ?_
    refine lv_tableIn (off := 56) (tgt := 159) E.x E.b d_Pic_blended_103 (by decide) (by decide) (by decide) (by decide) ?_
    refine lv_iload E.x E.b d_Pic_blended_159 (lv_at hl 0 rfl) ?_
    refine lv_iload E.x E.b d_Pic_blended_161 (lv_at hl 1 rfl) ?_
    refine va_mmin E.x E.b (E.2.2.1.trans hl.1.symm) E.o (E.w _ k562) (E.w _ k563) (E.w _ k25) (E.w _ k564) (Nat.le_trans (by decide) E.2.2.2.2.2.2.1) (Nat.le_trans (Nat.le_of_ble_eq_true rfl) E.2.2.2.2.2.2.2.1) (Nat.zero_le _) (Nat.zero_le _) d_Pic_blended_163 ?_
    refine wi_e (v := imin v5 v6) rfl ?_
    obtain rfl := Option.some.inj h
    exact rt_i E w hret d_Pic_blended_166
  replace h := ifF q26 h
  replace q26 := ne_ti (k := 3) (by decide) q26
  refine lv_tableOut (tgt := 167) E.x E.b d_Pic_blended_103 (by omega) (by decide) ?_
  refine lv_iload E.x E.b d_Pic_blended_167 (lv_at hl 0 rfl) ?_
  refine lv_iload E.x E.b d_Pic_blended_169 (lv_at hl 1 rfl) ?_
  refine va_mmax E.x E.b (E.2.2.1.trans hl.1.symm) E.o (E.w _ k559) (E.w _ k560) (E.w _ k25) (E.w _ k561) (Nat.le_trans (by decide) E.2.2.2.2.2.2.1) (Nat.le_trans (Nat.le_of_ble_eq_true rfl) E.2.2.2.2.2.2.2.1) (Nat.zero_le _) (Nat.zero_le _) d_Pic_blended_171 ?_
  refine wi_e (v := imax v5 v6) rfl ?_
  obtain rfl := Option.some.inj h
  exact rt_i E w hret d_Pic_blended_174
def F_Pic_blended_10 (σ : Sg) (v1 : Int32) (v2 : Int32) (v3 : Int32) (s0 : Int32) : Option (Int32) := lt ((ushr v2 (8 * v1)) &&& 255) (fun y27 => lt ((ushr v3 (8 * v1)) &&& 255) (fun y28 => ck (inb (206 + s0) 245) (bd (F_Pic_factor σ (σ.2.2.1 1 (206 + s0).toNatClampNeg) v1 v2 v3) (fun o30 => lt (y27 * o30) (fun y31 => ck (inb ((206 + s0) + 1) 245) (bd (F_Pic_factor σ (σ.2.2.1 1 ((206 + s0) + 1).toNatClampNeg) v1 v2 v3) (fun o33 => lt (y28 * o33) (fun y34 => if v1 = 3 then (F_Pic_blended_101 σ y27 y28 y31 y34 206 5) else (F_Pic_blended_101 σ y27 y28 y31 y34 206 4)))))))))
set_option maxRecDepth 10000 in
set_option maxHeartbeats 4000000 in
theorem bt_Pic_blended_10 {p : Program} {l : Launch} {e : Env} {R : Room} {s : State} {m : MethodId} {args : Array Value} {below : List Frame} {meth : Method} {c : Code} {D : va_G} {τ : ClassId × ClassId × ClassId} {B : Nat} {A : Nat → Prop} {ad : Nat → Nat} (E : Cx p R s m args meth c prog_6_method_12_code 9 "DrawingMachine$Picture" 1 D τ B A) (hret : meth.sig.returnType = (some .int)) (o : Int32) (σ : Sg) (v1 : Int32) (v2 : Int32) (v3 : Int32) (s0 : Int32) (h : F_Pic_blended_10 σ v1 v2 v3 s0 = some o) {H : Heap} {locs : List Loc} {ls : Array Slot} (w : Wd s D A (wdC τ σ ad) H locs) (hl : lv_has ls 9 [(0, .ref (ad 58)), (1, .int v1), (2, .int v2), (3, .int v3)]) : W p l e R s m args below meth c H locs 0 0 (QI below args s A D τ (wdC τ σ ad) o) (F0 m 10 ls [.int s0]) := by
  refine lv_istore (lv' := [(4, .int s0), (0, .ref (ad 58)), (1, .int v1), (2, .int v2), (3, .int v3)]) E.x E.b d_Pic_blended_10 hl (by decide) rfl (fun ls hl => ?_)
  refine lv_iload_n E.x E.b d_Pic_blended_12 rfl (lv_at hl 3 rfl) ?_
  refine lv_bipush (v := 8) E.x E.b d_Pic_blended_13 (by decide) ?_
  refine lv_iload_n E.x E.b d_Pic_blended_15 rfl (lv_at hl 2 rfl) ?_
  refine lv_imul E.x E.b d_Pic_blended_16 ?_
  refine lv_iushr (v := ushr v2 (8 * v1)) E.x E.b d_Pic_blended_17 rfl ?_
  refine lv_sipush (v := 255) E.x E.b d_Pic_blended_18 (by decide) ?_
  refine lv_iand E.x E.b d_Pic_blended_21 ?_
  obtain ⟨y27, e_y27, h⟩ := lt_some h
  refine wi_e (v := y27) e_y27 ?_
  refine lv_istore (lv' := [(5, .int y27), (4, .int s0), (0, .ref (ad 58)), (1, .int v1), (2, .int v2), (3, .int v3)]) E.x E.b d_Pic_blended_22 hl (by decide) rfl (fun ls hl => ?_)
  refine lv_iload_n E.x E.b d_Pic_blended_24 rfl (lv_at hl 5 rfl) ?_
  refine lv_bipush (v := 8) E.x E.b d_Pic_blended_25 (by decide) ?_
  refine lv_iload_n E.x E.b d_Pic_blended_27 rfl (lv_at hl 3 rfl) ?_
  refine lv_imul E.x E.b d_Pic_blended_28 ?_
  refine lv_iushr (v := ushr v3 (8 * v1)) E.x E.b d_Pic_blended_29 rfl ?_
  refine lv_sipush (v := 255) E.x E.b d_Pic_blended_30 (by decide) ?_
  refine lv_iand E.x E.b d_Pic_blended_33 ?_
  obtain ⟨y28, e_y28, h⟩ := lt_some h
  refine wi_e (v := y28) e_y28 ?_
  refine lv_istore (lv' := [(6, .int y28), (5, .int y27), (4, .int s0), (0, .ref (ad 58)), (1, .int v1), (2, .int v2), (3, .int v3)]) E.x E.b d_Pic_blended_34 hl (by decide) rfl (fun ls hl => ?_)
  refine lv_iload E.x E.b d_Pic_blended_36 (lv_at hl 1 rfl) ?_
  refine lv_aload_n E.x E.b d_Pic_blended_38 rfl (lv_at hl 3 rfl) ?_
  refine lv_aload_n E.x E.b d_Pic_blended_39 rfl (lv_at hl 3 rfl) ?_
  refine gC_Pic_kept E w k88 d_Pic_blended_40 ?_
  refine lv_sipush (v := 206) E.x E.b d_Pic_blended_43 (by decide) ?_
  refine lv_iload E.x E.b d_Pic_blended_46 (lv_at hl 2 rfl) ?_
  refine lv_iadd E.x E.b d_Pic_blended_48 ?_
  obtain ⟨c29, h⟩ := ck_some h
  refine ialC E w (k := 1) (by decide) c29 d_Pic_blended_49 ?_
  refine lv_iload_n E.x E.b d_Pic_blended_50 rfl (lv_at hl 4 rfl) ?_
  refine lv_iload_n E.x E.b d_Pic_blended_51 rfl (lv_at hl 5 rfl) ?_
  refine lv_iload_n E.x E.b d_Pic_blended_52 rfl (lv_at hl 6 rfl) ?_
  obtain ⟨o30, h_o30, h⟩ := bd_some h
  refine clV_Pic_factor E w (x0 := (σ.2.2.1 1 (206 + s0).toNatClampNeg)) (x1 := v1) (x2 := v2) (x3 := v3) h_o30 k1277 (by decide) hl.1 (Nat.le_of_ble_eq_true rfl) d_Pic_blended_53 (fun H locs w => ?_)
  refine lv_imul E.x E.b d_Pic_blended_56 ?_
  obtain ⟨y31, e_y31, h⟩ := lt_some h
  refine wi_e (v := y31) e_y31 ?_
  refine lv_istore (lv' := [(7, .int y31), (6, .int y28), (5, .int y27), (4, .int s0), (0, .ref (ad 58)), (1, .int v1), (2, .int v2), (3, .int v3)]) E.x E.b d_Pic_blended_57 hl (by decide) rfl (fun ls hl => ?_)
  refine lv_iload E.x E.b d_Pic_blended_59 (lv_at hl 1 rfl) ?_
  refine lv_aload_n E.x E.b d_Pic_blended_61 rfl (lv_at hl 4 rfl) ?_
  refine lv_aload_n E.x E.b d_Pic_blended_62 rfl (lv_at hl 4 rfl) ?_
  refine gC_Pic_kept E w k88 d_Pic_blended_63 ?_
  refine lv_sipush (v := 206) E.x E.b d_Pic_blended_66 (by decide) ?_
  refine lv_iload E.x E.b d_Pic_blended_69 (lv_at hl 3 rfl) ?_
  refine lv_iadd E.x E.b d_Pic_blended_71 ?_
  refine lv_iconst (v := 1) E.x E.b d_Pic_blended_72 (by decide) ?_
  refine lv_iadd E.x E.b d_Pic_blended_73 ?_
  obtain ⟨c32, h⟩ := ck_some h
  refine ialC E w (k := 1) (by decide) c32 d_Pic_blended_74 ?_
  refine lv_iload_n E.x E.b d_Pic_blended_75 rfl (lv_at hl 5 rfl) ?_
  refine lv_iload_n E.x E.b d_Pic_blended_76 rfl (lv_at hl 6 rfl) ?_
  refine lv_iload_n E.x E.b d_Pic_blended_77 rfl (lv_at hl 7 rfl) ?_
  obtain ⟨o33, h_o33, h⟩ := bd_some h
  refine clV_Pic_factor E w (x0 := (σ.2.2.1 1 ((206 + s0) + 1).toNatClampNeg)) (x1 := v1) (x2 := v2) (x3 := v3) h_o33 k1277 (by decide) hl.1 (Nat.le_of_ble_eq_true rfl) d_Pic_blended_78 (fun H locs w => ?_)
  refine lv_imul E.x E.b d_Pic_blended_81 ?_
  obtain ⟨y34, e_y34, h⟩ := lt_some h
  refine wi_e (v := y34) e_y34 ?_
  refine lv_istore (lv' := [(8, .int y34), (7, .int y31), (6, .int y28), (5, .int y27), (4, .int s0), (0, .ref (ad 58)), (1, .int v1), (2, .int v2), (3, .int v3)]) E.x E.b d_Pic_blended_82 hl (by decide) rfl (fun ls hl => ?_)
  refine lv_aload_n E.x E.b d_Pic_blended_84 rfl (lv_at hl 5 rfl) ?_
  refine gC_Pic_kept E w k88 d_Pic_blended_85 ?_
  refine lv_sipush (v := 206) E.x E.b d_Pic_blended_88 (by decide) ?_
  refine lv_iload_n E.x E.b d_Pic_blended_91 rfl (lv_at hl 6 rfl) ?_
  refine lv_iconst (v := 3) E.x E.b d_Pic_blended_92 (by decide) ?_
  refine lv_icmp_ne (tgt := 100) E.x E.b d_Pic_blended_93 (by decide) (fun c => ?_) (fun c => ?_)
  ·
    replace h := ifF c h
    refine lv_iconst (v := 4) E.x E.b d_Pic_blended_100 (by decide) ?_
    exact bt_Pic_blended_101 E hret o σ y27 y28 y31 y34 206 4 h w (lv_sub hl [3, 2, 1, 0] rfl)
  ·
    replace h := ifT c h
    refine lv_iconst (v := 5) E.x E.b d_Pic_blended_96 (by decide) ?_
    refine lv_goto (tgt := 101) E.x E.b d_Pic_blended_97 (by decide) ?_
    exact bt_Pic_blended_101 E hret o σ y27 y28 y31 y34 206 5 h w (lv_sub hl [3, 2, 1, 0] rfl)
def F_Pic_blended (σ : Sg) (x0 : Int32) (x1 : Int32) (x2 : Int32) : Option (Int32) := if x0 = 3 then (F_Pic_blended_10 σ x0 x1 x2 2) else (F_Pic_blended_10 σ x0 x1 x2 0)
set_option maxRecDepth 10000 in
set_option maxHeartbeats 4000000 in
theorem c_Pic_blended (l : Launch) (D : va_G) (τ : ClassId × ClassId × ClassId) (B : Nat) (σ : Sg) (ad : Nat → Nat) (x0 : Int32) (x1 : Int32) (x2 : Int32) (o : Int32) (h : F_Pic_blended σ x0 x1 x2 = some o) : MI l y_Pic_blended (Cond.code y_Pic_blended prog_6_method_12_code 9 (some .int)) 1 D τ B [.ref (ad 58), .int x0, .int x1, .int x2] (wdC τ σ ad) (wdC τ σ ad) o := by
  refine en_i (by decide) (Nat.le_of_ble_eq_true rfl) ?_
  intro p e R s m args below meth c H locs ls A E hret w hl
  have E : Cx p R s m args meth c prog_6_method_12_code 9 "DrawingMachine$Picture" 1 D τ B A := E
  have hl : lv_has ls 9 [(0, .ref (ad 58)), (1, .int x0), (2, .int x1), (3, .int x2)] := hl
  refine lv_iload_n E.x E.b d_Pic_blended_0 rfl (lv_at hl 1 rfl) ?_
  refine lv_iconst (v := 3) E.x E.b d_Pic_blended_1 (by decide) ?_
  refine lv_icmp_ne (tgt := 9) E.x E.b d_Pic_blended_2 (by decide) (fun c => ?_) (fun c => ?_)
  ·
    replace h := ifF c h
    refine lv_iconst (v := 0) E.x E.b d_Pic_blended_9 (by decide) ?_
    exact bt_Pic_blended_10 E hret o σ x0 x1 x2 0 h w (lv_sub hl [0, 1, 2, 3] rfl)
  ·
    replace h := ifT c h
    refine lv_iconst (v := 2) E.x E.b d_Pic_blended_5 (by decide) ?_
    refine lv_goto (tgt := 10) E.x E.b d_Pic_blended_6 (by decide) ?_
    exact bt_Pic_blended_10 E hret o σ x0 x1 x2 2 h w (lv_sub hl [0, 1, 2, 3] rfl)
theorem clV_Pic_blended {p : Program} {l : Launch} {e : Env} {R : Room} {s : State} {m : MethodId} {args : Array Value} {below : List Frame} {meth : Method} {c : Code} {H : Heap} {locs : List Loc} {Q : State → Prop} {cc : ByteArray} {nL pc lev : Nat} {own : String} {D : va_G} {τ : ClassId × ClassId × ClassId} {B : Nat} {A : Nat → Prop} {σ : Sg} {ad : Nat → Nat} {ls : Array Slot} {rest : List Value} (E : Cx p R s m args meth c cc nL own lev D τ B A) (w : Wd s D A (wdC τ σ ad) H locs) {x0 : Int32} {x1 : Int32} {x2 : Int32} {o : Int32} (h : F_Pic_blended σ x0 x1 x2 = some o) {index : Nat} (hlk : Cond.methodLink own index y_Pic_blended ∈ tw) (hlev : 1 < lev) (hsz : ls.size = nL) (hr : (rest.map fun v => v.category).sum ≤ 8) (hd : decode cc pc = .ok (.invokevirtual index, 3)) (kk : ∀ (H1 : Heap) (locs1 : List Loc), Wd s D A (wdC τ σ ad) H1 locs1 → W p l e R s m args below meth c H1 locs1 0 0 Q (F0 m (pc + 3) ls (.int o :: rest))) : W p l e R s m args below meth c H locs 0 0 Q (F0 m pc ls (.int x2 :: .int x1 :: .int x0 :: .ref (ad 58) :: rest)) :=
  cr_i w E.C (va_runV (As := [.int x0, .int x1, .int x2]) (rest := rest) E.fix (c_Pic_blended l D τ B σ ad x0 x1 x2 o h H.size) (cwV 3 E.w (tw_pre (tw_good k1276) (l := [_, _, _, _]) (List.forall_mem_cons.mpr ⟨hlk, List.forall_mem_cons.mpr ⟨k1275, List.forall_mem_cons.mpr ⟨ks33, List.forall_mem_cons.mpr ⟨k4, fun _ h => absurd h List.not_mem_nil⟩⟩⟩⟩)) rfl rfl rfl (by decide +kernel) (E.rm hlev (by decide))) (wd_preV w E.C [.int x0, .int x1, .int x2] rcC_Pic rfl) rfl rfl hsz rfl (lv_room hr) hd ⟨Nat.zero_le _, Nat.zero_le _⟩) kk

theorem d_Pic_byLogic_0 : decode prog_6_method_11_code 0 = .ok (.iconst 0, 1) := by decide +kernel
theorem d_Pic_byLogic_1 : decode prog_6_method_11_code 1 = .ok (.istore_n 3, 1) := by decide +kernel
theorem d_Pic_byLogic_2 : decode prog_6_method_11_code 2 = .ok (.iload_n 3, 1) := by decide +kernel
theorem d_Pic_byLogic_3 : decode prog_6_method_11_code 3 = .ok (.iload_n 0, 1) := by decide +kernel
theorem d_Pic_byLogic_4 : decode prog_6_method_11_code 4 = .ok (.iconst 1, 1) := by decide +kernel
theorem d_Pic_byLogic_5 : decode prog_6_method_11_code 5 = .ok (.iand, 1) := by decide +kernel
theorem d_Pic_byLogic_6 : decode prog_6_method_11_code 6 = .ok (.ifCond .eq 13, 3) := by decide +kernel
theorem d_Pic_byLogic_9 : decode prog_6_method_11_code 9 = .ok (.iload_n 1, 1) := by decide +kernel
theorem d_Pic_byLogic_10 : decode prog_6_method_11_code 10 = .ok (.iconst (-1), 1) := by decide +kernel
theorem d_Pic_byLogic_11 : decode prog_6_method_11_code 11 = .ok (.ixor, 1) := by decide +kernel
theorem d_Pic_byLogic_12 : decode prog_6_method_11_code 12 = .ok (.iload_n 2, 1) := by decide +kernel
theorem d_Pic_byLogic_13 : decode prog_6_method_11_code 13 = .ok (.iconst (-1), 1) := by decide +kernel
theorem d_Pic_byLogic_14 : decode prog_6_method_11_code 14 = .ok (.ixor, 1) := by decide +kernel
theorem d_Pic_byLogic_15 : decode prog_6_method_11_code 15 = .ok (.iand, 1) := by decide +kernel
theorem d_Pic_byLogic_16 : decode prog_6_method_11_code 16 = .ok (.goto 4, 3) := by decide +kernel
theorem d_Pic_byLogic_19 : decode prog_6_method_11_code 19 = .ok (.iconst 0, 1) := by decide +kernel
theorem d_Pic_byLogic_20 : decode prog_6_method_11_code 20 = .ok (.ior, 1) := by decide +kernel
theorem d_Pic_byLogic_21 : decode prog_6_method_11_code 21 = .ok (.istore_n 3, 1) := by decide +kernel
theorem d_Pic_byLogic_22 : decode prog_6_method_11_code 22 = .ok (.iload_n 3, 1) := by decide +kernel
theorem d_Pic_byLogic_23 : decode prog_6_method_11_code 23 = .ok (.iload_n 0, 1) := by decide +kernel
theorem d_Pic_byLogic_24 : decode prog_6_method_11_code 24 = .ok (.iconst 2, 1) := by decide +kernel
theorem d_Pic_byLogic_25 : decode prog_6_method_11_code 25 = .ok (.iand, 1) := by decide +kernel
theorem d_Pic_byLogic_26 : decode prog_6_method_11_code 26 = .ok (.ifCond .eq 11, 3) := by decide +kernel
theorem d_Pic_byLogic_29 : decode prog_6_method_11_code 29 = .ok (.iload_n 1, 1) := by decide +kernel
theorem d_Pic_byLogic_30 : decode prog_6_method_11_code 30 = .ok (.iconst (-1), 1) := by decide +kernel
theorem d_Pic_byLogic_31 : decode prog_6_method_11_code 31 = .ok (.ixor, 1) := by decide +kernel
theorem d_Pic_byLogic_32 : decode prog_6_method_11_code 32 = .ok (.iload_n 2, 1) := by decide +kernel
theorem d_Pic_byLogic_33 : decode prog_6_method_11_code 33 = .ok (.iand, 1) := by decide +kernel
theorem d_Pic_byLogic_34 : decode prog_6_method_11_code 34 = .ok (.goto 4, 3) := by decide +kernel
theorem d_Pic_byLogic_37 : decode prog_6_method_11_code 37 = .ok (.iconst 0, 1) := by decide +kernel
theorem d_Pic_byLogic_38 : decode prog_6_method_11_code 38 = .ok (.ior, 1) := by decide +kernel
theorem d_Pic_byLogic_39 : decode prog_6_method_11_code 39 = .ok (.istore_n 3, 1) := by decide +kernel
theorem d_Pic_byLogic_40 : decode prog_6_method_11_code 40 = .ok (.iload_n 3, 1) := by decide +kernel
theorem d_Pic_byLogic_41 : decode prog_6_method_11_code 41 = .ok (.iload_n 0, 1) := by decide +kernel
theorem d_Pic_byLogic_42 : decode prog_6_method_11_code 42 = .ok (.iconst 4, 1) := by decide +kernel
theorem d_Pic_byLogic_43 : decode prog_6_method_11_code 43 = .ok (.iand, 1) := by decide +kernel
theorem d_Pic_byLogic_44 : decode prog_6_method_11_code 44 = .ok (.ifCond .eq 11, 3) := by decide +kernel
theorem d_Pic_byLogic_47 : decode prog_6_method_11_code 47 = .ok (.iload_n 1, 1) := by decide +kernel
theorem d_Pic_byLogic_48 : decode prog_6_method_11_code 48 = .ok (.iload_n 2, 1) := by decide +kernel
theorem d_Pic_byLogic_49 : decode prog_6_method_11_code 49 = .ok (.iconst (-1), 1) := by decide +kernel
theorem d_Pic_byLogic_50 : decode prog_6_method_11_code 50 = .ok (.ixor, 1) := by decide +kernel
theorem d_Pic_byLogic_51 : decode prog_6_method_11_code 51 = .ok (.iand, 1) := by decide +kernel
theorem d_Pic_byLogic_52 : decode prog_6_method_11_code 52 = .ok (.goto 4, 3) := by decide +kernel
theorem d_Pic_byLogic_55 : decode prog_6_method_11_code 55 = .ok (.iconst 0, 1) := by decide +kernel
theorem d_Pic_byLogic_56 : decode prog_6_method_11_code 56 = .ok (.ior, 1) := by decide +kernel
theorem d_Pic_byLogic_57 : decode prog_6_method_11_code 57 = .ok (.istore_n 3, 1) := by decide +kernel
theorem d_Pic_byLogic_58 : decode prog_6_method_11_code 58 = .ok (.iload_n 3, 1) := by decide +kernel
theorem d_Pic_byLogic_59 : decode prog_6_method_11_code 59 = .ok (.iload_n 0, 1) := by decide +kernel
theorem d_Pic_byLogic_60 : decode prog_6_method_11_code 60 = .ok (.bipush 8, 2) := by decide +kernel
theorem d_Pic_byLogic_62 : decode prog_6_method_11_code 62 = .ok (.iand, 1) := by decide +kernel
theorem d_Pic_byLogic_63 : decode prog_6_method_11_code 63 = .ok (.ifCond .eq 9, 3) := by decide +kernel
theorem d_Pic_byLogic_66 : decode prog_6_method_11_code 66 = .ok (.iload_n 1, 1) := by decide +kernel
theorem d_Pic_byLogic_67 : decode prog_6_method_11_code 67 = .ok (.iload_n 2, 1) := by decide +kernel
theorem d_Pic_byLogic_68 : decode prog_6_method_11_code 68 = .ok (.iand, 1) := by decide +kernel
theorem d_Pic_byLogic_69 : decode prog_6_method_11_code 69 = .ok (.goto 4, 3) := by decide +kernel
theorem d_Pic_byLogic_72 : decode prog_6_method_11_code 72 = .ok (.iconst 0, 1) := by decide +kernel
theorem d_Pic_byLogic_73 : decode prog_6_method_11_code 73 = .ok (.ior, 1) := by decide +kernel
theorem d_Pic_byLogic_74 : decode prog_6_method_11_code 74 = .ok (.istore_n 3, 1) := by decide +kernel
theorem d_Pic_byLogic_75 : decode prog_6_method_11_code 75 = .ok (.iload_n 3, 1) := by decide +kernel
theorem d_Pic_byLogic_76 : decode prog_6_method_11_code 76 = .ok (.ireturn, 1) := by decide +kernel
def F_Pic_byLogic_73  (s0 : Int32) (s1 : Int32) : Option (Int32) := lt (s0 ||| s1) (fun y5 => some y5)
set_option maxRecDepth 10000 in
set_option maxHeartbeats 4000000 in
theorem bt_Pic_byLogic_73 {p : Program} {l : Launch} {e : Env} {R : Room} {s : State} {m : MethodId} {args : Array Value} {below : List Frame} {meth : Method} {c : Code} {D : va_G} {τ : ClassId × ClassId × ClassId} {B : Nat} {A : Nat → Prop} {ad : Nat → Nat} {σ0 : Sg} (E : Cx p R s m args meth c prog_6_method_11_code 4 "DrawingMachine$Picture" 0 D τ B A) (hret : meth.sig.returnType = (some .int)) (o : Int32) (s0 : Int32) (s1 : Int32) (h : F_Pic_byLogic_73 s0 s1 = some o) {H : Heap} {locs : List Loc} {ls : Array Slot} (w : Wd s D A (wdC τ σ0 ad) H locs) (hl : lv_has ls 4 []) : W p l e R s m args below meth c H locs 0 0 (QI below args s A D τ (wdC τ σ0 ad) o) (F0 m 73 ls [.int s1, .int s0]) := by
  refine lv_ior E.x E.b d_Pic_byLogic_73 ?_
  obtain ⟨y5, e_y5, h⟩ := lt_some h
  refine wi_e (v := y5) e_y5 ?_
  refine lv_istore_n (lv' := [(3, .int y5)]) E.x E.b d_Pic_byLogic_74 rfl hl (by decide) rfl (fun ls hl => ?_)
  refine lv_iload_n E.x E.b d_Pic_byLogic_75 rfl (lv_at hl 0 rfl) ?_
  obtain rfl := Option.some.inj h
  exact rt_i E w hret d_Pic_byLogic_76
def F_Pic_byLogic_56  (v0 : Int32) (v1 : Int32) (v2 : Int32) (s0 : Int32) (s1 : Int32) : Option (Int32) := lt (s0 ||| s1) (fun y6 => if (v0 &&& 8) = 0 then (F_Pic_byLogic_73 y6 0) else (F_Pic_byLogic_73 y6 (v1 &&& v2)))
set_option maxRecDepth 10000 in
set_option maxHeartbeats 4000000 in
theorem bt_Pic_byLogic_56 {p : Program} {l : Launch} {e : Env} {R : Room} {s : State} {m : MethodId} {args : Array Value} {below : List Frame} {meth : Method} {c : Code} {D : va_G} {τ : ClassId × ClassId × ClassId} {B : Nat} {A : Nat → Prop} {ad : Nat → Nat} {σ0 : Sg} (E : Cx p R s m args meth c prog_6_method_11_code 4 "DrawingMachine$Picture" 0 D τ B A) (hret : meth.sig.returnType = (some .int)) (o : Int32) (v0 : Int32) (v1 : Int32) (v2 : Int32) (s0 : Int32) (s1 : Int32) (h : F_Pic_byLogic_56 v0 v1 v2 s0 s1 = some o) {H : Heap} {locs : List Loc} {ls : Array Slot} (w : Wd s D A (wdC τ σ0 ad) H locs) (hl : lv_has ls 4 [(0, .int v0), (1, .int v1), (2, .int v2)]) : W p l e R s m args below meth c H locs 0 0 (QI below args s A D τ (wdC τ σ0 ad) o) (F0 m 56 ls [.int s1, .int s0]) := by
  refine lv_ior E.x E.b d_Pic_byLogic_56 ?_
  obtain ⟨y6, e_y6, h⟩ := lt_some h
  refine wi_e (v := y6) e_y6 ?_
  refine lv_istore_n (lv' := [(3, .int y6), (0, .int v0), (1, .int v1), (2, .int v2)]) E.x E.b d_Pic_byLogic_57 rfl hl (by decide) rfl (fun ls hl => ?_)
  refine lv_iload_n E.x E.b d_Pic_byLogic_58 rfl (lv_at hl 0 rfl) ?_
  refine lv_iload_n E.x E.b d_Pic_byLogic_59 rfl (lv_at hl 1 rfl) ?_
  refine lv_bipush (v := 8) E.x E.b d_Pic_byLogic_60 (by decide) ?_
  refine lv_iand E.x E.b d_Pic_byLogic_62 ?_
  refine lv_if_eq (tgt := 72) E.x E.b d_Pic_byLogic_63 (by decide) (fun c => ?_) (fun c => ?_)
  ·
    replace h := ifT c h
    refine lv_iconst (v := 0) E.x E.b d_Pic_byLogic_72 (by decide) ?_
    exact bt_Pic_byLogic_73 E hret o y6 0 h w (lv_sub hl [] rfl)
  ·
    replace h := ifF c h
    refine lv_iload_n E.x E.b d_Pic_byLogic_66 rfl (lv_at hl 2 rfl) ?_
    refine lv_iload_n E.x E.b d_Pic_byLogic_67 rfl (lv_at hl 3 rfl) ?_
    refine lv_iand E.x E.b d_Pic_byLogic_68 ?_
    refine lv_goto (tgt := 73) E.x E.b d_Pic_byLogic_69 (by decide) ?_
    exact bt_Pic_byLogic_73 E hret o y6 (v1 &&& v2) h w (lv_sub hl [] rfl)
def F_Pic_byLogic_38  (v0 : Int32) (v1 : Int32) (v2 : Int32) (s0 : Int32) (s1 : Int32) : Option (Int32) := lt (s0 ||| s1) (fun y7 => if (v0 &&& 4) = 0 then (F_Pic_byLogic_56 v0 v1 v2 y7 0) else (F_Pic_byLogic_56 v0 v1 v2 y7 (v1 &&& (v2 ^^^ (-1)))))
set_option maxRecDepth 10000 in
set_option maxHeartbeats 4000000 in
theorem bt_Pic_byLogic_38 {p : Program} {l : Launch} {e : Env} {R : Room} {s : State} {m : MethodId} {args : Array Value} {below : List Frame} {meth : Method} {c : Code} {D : va_G} {τ : ClassId × ClassId × ClassId} {B : Nat} {A : Nat → Prop} {ad : Nat → Nat} {σ0 : Sg} (E : Cx p R s m args meth c prog_6_method_11_code 4 "DrawingMachine$Picture" 0 D τ B A) (hret : meth.sig.returnType = (some .int)) (o : Int32) (v0 : Int32) (v1 : Int32) (v2 : Int32) (s0 : Int32) (s1 : Int32) (h : F_Pic_byLogic_38 v0 v1 v2 s0 s1 = some o) {H : Heap} {locs : List Loc} {ls : Array Slot} (w : Wd s D A (wdC τ σ0 ad) H locs) (hl : lv_has ls 4 [(0, .int v0), (1, .int v1), (2, .int v2)]) : W p l e R s m args below meth c H locs 0 0 (QI below args s A D τ (wdC τ σ0 ad) o) (F0 m 38 ls [.int s1, .int s0]) := by
  refine lv_ior E.x E.b d_Pic_byLogic_38 ?_
  obtain ⟨y7, e_y7, h⟩ := lt_some h
  refine wi_e (v := y7) e_y7 ?_
  refine lv_istore_n (lv' := [(3, .int y7), (0, .int v0), (1, .int v1), (2, .int v2)]) E.x E.b d_Pic_byLogic_39 rfl hl (by decide) rfl (fun ls hl => ?_)
  refine lv_iload_n E.x E.b d_Pic_byLogic_40 rfl (lv_at hl 0 rfl) ?_
  refine lv_iload_n E.x E.b d_Pic_byLogic_41 rfl (lv_at hl 1 rfl) ?_
  refine lv_iconst (v := 4) E.x E.b d_Pic_byLogic_42 (by decide) ?_
  refine lv_iand E.x E.b d_Pic_byLogic_43 ?_
  refine lv_if_eq (tgt := 55) E.x E.b d_Pic_byLogic_44 (by decide) (fun c => ?_) (fun c => ?_)
  ·
    replace h := ifT c h
    refine lv_iconst (v := 0) E.x E.b d_Pic_byLogic_55 (by decide) ?_
    exact bt_Pic_byLogic_56 E hret o v0 v1 v2 y7 0 h w (lv_sub hl [1, 2, 3] rfl)
  ·
    replace h := ifF c h
    refine lv_iload_n E.x E.b d_Pic_byLogic_47 rfl (lv_at hl 2 rfl) ?_
    refine lv_iload_n E.x E.b d_Pic_byLogic_48 rfl (lv_at hl 3 rfl) ?_
    refine lv_iconst (v := (-1)) E.x E.b d_Pic_byLogic_49 (by decide) ?_
    refine lv_ixor E.x E.b d_Pic_byLogic_50 ?_
    refine lv_iand E.x E.b d_Pic_byLogic_51 ?_
    refine lv_goto (tgt := 56) E.x E.b d_Pic_byLogic_52 (by decide) ?_
    exact bt_Pic_byLogic_56 E hret o v0 v1 v2 y7 (v1 &&& (v2 ^^^ (-1))) h w (lv_sub hl [1, 2, 3] rfl)
def F_Pic_byLogic_20  (v0 : Int32) (v1 : Int32) (v2 : Int32) (s0 : Int32) (s1 : Int32) : Option (Int32) := lt (s0 ||| s1) (fun y8 => if (v0 &&& 2) = 0 then (F_Pic_byLogic_38 v0 v1 v2 y8 0) else (F_Pic_byLogic_38 v0 v1 v2 y8 ((v1 ^^^ (-1)) &&& v2)))
set_option maxRecDepth 10000 in
set_option maxHeartbeats 4000000 in
theorem bt_Pic_byLogic_20 {p : Program} {l : Launch} {e : Env} {R : Room} {s : State} {m : MethodId} {args : Array Value} {below : List Frame} {meth : Method} {c : Code} {D : va_G} {τ : ClassId × ClassId × ClassId} {B : Nat} {A : Nat → Prop} {ad : Nat → Nat} {σ0 : Sg} (E : Cx p R s m args meth c prog_6_method_11_code 4 "DrawingMachine$Picture" 0 D τ B A) (hret : meth.sig.returnType = (some .int)) (o : Int32) (v0 : Int32) (v1 : Int32) (v2 : Int32) (s0 : Int32) (s1 : Int32) (h : F_Pic_byLogic_20 v0 v1 v2 s0 s1 = some o) {H : Heap} {locs : List Loc} {ls : Array Slot} (w : Wd s D A (wdC τ σ0 ad) H locs) (hl : lv_has ls 4 [(0, .int v0), (1, .int v1), (2, .int v2)]) : W p l e R s m args below meth c H locs 0 0 (QI below args s A D τ (wdC τ σ0 ad) o) (F0 m 20 ls [.int s1, .int s0]) := by
  refine lv_ior E.x E.b d_Pic_byLogic_20 ?_
  obtain ⟨y8, e_y8, h⟩ := lt_some h
  refine wi_e (v := y8) e_y8 ?_
  refine lv_istore_n (lv' := [(3, .int y8), (0, .int v0), (1, .int v1), (2, .int v2)]) E.x E.b d_Pic_byLogic_21 rfl hl (by decide) rfl (fun ls hl => ?_)
  refine lv_iload_n E.x E.b d_Pic_byLogic_22 rfl (lv_at hl 0 rfl) ?_
  refine lv_iload_n E.x E.b d_Pic_byLogic_23 rfl (lv_at hl 1 rfl) ?_
  refine lv_iconst (v := 2) E.x E.b d_Pic_byLogic_24 (by decide) ?_
  refine lv_iand E.x E.b d_Pic_byLogic_25 ?_
  refine lv_if_eq (tgt := 37) E.x E.b d_Pic_byLogic_26 (by decide) (fun c => ?_) (fun c => ?_)
  ·
    replace h := ifT c h
    refine lv_iconst (v := 0) E.x E.b d_Pic_byLogic_37 (by decide) ?_
    exact bt_Pic_byLogic_38 E hret o v0 v1 v2 y8 0 h w (lv_sub hl [1, 2, 3] rfl)
  ·
    replace h := ifF c h
    refine lv_iload_n E.x E.b d_Pic_byLogic_29 rfl (lv_at hl 2 rfl) ?_
    refine lv_iconst (v := (-1)) E.x E.b d_Pic_byLogic_30 (by decide) ?_
    refine lv_ixor E.x E.b d_Pic_byLogic_31 ?_
    refine lv_iload_n E.x E.b d_Pic_byLogic_32 rfl (lv_at hl 3 rfl) ?_
    refine lv_iand E.x E.b d_Pic_byLogic_33 ?_
    refine lv_goto (tgt := 38) E.x E.b d_Pic_byLogic_34 (by decide) ?_
    exact bt_Pic_byLogic_38 E hret o v0 v1 v2 y8 ((v1 ^^^ (-1)) &&& v2) h w (lv_sub hl [1, 2, 3] rfl)
def F_Pic_byLogic  (x0 : Int32) (x1 : Int32) (x2 : Int32) : Option (Int32) := if (x0 &&& 1) = 0 then (F_Pic_byLogic_20 x0 x1 x2 0 0) else (F_Pic_byLogic_20 x0 x1 x2 0 ((x1 ^^^ (-1)) &&& (x2 ^^^ (-1))))
set_option maxRecDepth 10000 in
set_option maxHeartbeats 4000000 in
theorem c_Pic_byLogic (l : Launch) (D : va_G) (τ : ClassId × ClassId × ClassId) (B : Nat) (σ0 : Sg) (ad : Nat → Nat) (x0 : Int32) (x1 : Int32) (x2 : Int32) (o : Int32) (h : F_Pic_byLogic x0 x1 x2 = some o) : MI l y_Pic_byLogic (Cond.code y_Pic_byLogic prog_6_method_11_code 4 (some .int)) 0 D τ B [.int x0, .int x1, .int x2] (wdC τ σ0 ad) (wdC τ σ0 ad) o := by
  refine en_i (by decide) (Nat.le_of_ble_eq_true rfl) ?_
  intro p e R s m args below meth c H locs ls A E hret w hl
  have E : Cx p R s m args meth c prog_6_method_11_code 4 "DrawingMachine$Picture" 0 D τ B A := E
  have hl : lv_has ls 4 [(0, .int x0), (1, .int x1), (2, .int x2)] := hl
  refine lv_iconst (v := 0) E.x E.b d_Pic_byLogic_0 (by decide) ?_
  refine lv_istore_n (lv' := [(3, .int 0), (0, .int x0), (1, .int x1), (2, .int x2)]) E.x E.b d_Pic_byLogic_1 rfl hl (by decide) rfl (fun ls hl => ?_)
  refine lv_iload_n E.x E.b d_Pic_byLogic_2 rfl (lv_at hl 0 rfl) ?_
  refine lv_iload_n E.x E.b d_Pic_byLogic_3 rfl (lv_at hl 1 rfl) ?_
  refine lv_iconst (v := 1) E.x E.b d_Pic_byLogic_4 (by decide) ?_
  refine lv_iand E.x E.b d_Pic_byLogic_5 ?_
  refine lv_if_eq (tgt := 19) E.x E.b d_Pic_byLogic_6 (by decide) (fun c => ?_) (fun c => ?_)
  ·
    replace h := ifT c h
    refine lv_iconst (v := 0) E.x E.b d_Pic_byLogic_19 (by decide) ?_
    exact bt_Pic_byLogic_20 E hret o x0 x1 x2 0 0 h w (lv_sub hl [1, 2, 3] rfl)
  ·
    replace h := ifF c h
    refine lv_iload_n E.x E.b d_Pic_byLogic_9 rfl (lv_at hl 2 rfl) ?_
    refine lv_iconst (v := (-1)) E.x E.b d_Pic_byLogic_10 (by decide) ?_
    refine lv_ixor E.x E.b d_Pic_byLogic_11 ?_
    refine lv_iload_n E.x E.b d_Pic_byLogic_12 rfl (lv_at hl 3 rfl) ?_
    refine lv_iconst (v := (-1)) E.x E.b d_Pic_byLogic_13 (by decide) ?_
    refine lv_ixor E.x E.b d_Pic_byLogic_14 ?_
    refine lv_iand E.x E.b d_Pic_byLogic_15 ?_
    refine lv_goto (tgt := 20) E.x E.b d_Pic_byLogic_16 (by decide) ?_
    exact bt_Pic_byLogic_20 E hret o x0 x1 x2 0 ((x1 ^^^ (-1)) &&& (x2 ^^^ (-1))) h w (lv_sub hl [1, 2, 3] rfl)
theorem clS_Pic_byLogic {p : Program} {l : Launch} {e : Env} {R : Room} {s : State} {m : MethodId} {args : Array Value} {below : List Frame} {meth : Method} {c : Code} {H : Heap} {locs : List Loc} {Q : State → Prop} {cc : ByteArray} {nL pc lev : Nat} {own : String} {D : va_G} {τ : ClassId × ClassId × ClassId} {B : Nat} {A : Nat → Prop} {σ : Sg} {ad : Nat → Nat} {ls : Array Slot} {rest : List Value} (E : Cx p R s m args meth c cc nL own lev D τ B A) (w : Wd s D A (wdC τ σ ad) H locs) {x0 : Int32} {x1 : Int32} {x2 : Int32} {o : Int32} (h : F_Pic_byLogic x0 x1 x2 = some o) {index : Nat} (hlk : Cond.methodLink own index y_Pic_byLogic ∈ tw) (hlev : 0 < lev) (hsz : ls.size = nL) (hr : (rest.map fun v => v.category).sum ≤ 8) (hd : decode cc pc = .ok (.invokestatic index, 3)) (kk : ∀ (H1 : Heap) (locs1 : List Loc), Wd s D A (wdC τ σ ad) H1 locs1 → W p l e R s m args below meth c H1 locs1 0 0 Q (F0 m (pc + 3) ls (.int o :: rest))) : W p l e R s m args below meth c H locs 0 0 Q (F0 m pc ls (.int x2 :: .int x1 :: .int x0 :: rest)) :=
  cr_i w E.C (va_runS (As := [.int x0, .int x1, .int x2]) (rest := rest) E.fix (c_Pic_byLogic l D τ B σ ad x0 x1 x2 o h H.size) (va_cwS 3 E.w (tw_pre (tw_good k1272) (l := [_, _, _]) (List.forall_mem_cons.mpr ⟨hlk, List.forall_mem_cons.mpr ⟨k1271, List.forall_mem_cons.mpr ⟨k4, fun _ h => absurd h List.not_mem_nil⟩⟩⟩)) rfl rfl rfl (by decide +kernel) (E.rm hlev (by decide))) (wd_pre w E.C [.int x0, .int x1, .int x2]) rfl rfl hsz rfl (lv_room hr) hd ⟨Nat.zero_le _, Nat.zero_le _⟩) kk

theorem d_Pic_newColour_0 : decode prog_6_method_10_code 0 = .ok (.aload_n 0, 1) := by decide +kernel
theorem d_Pic_newColour_1 : decode prog_6_method_10_code 1 = .ok (.getfield 37, 3) := by decide +kernel
theorem d_Pic_newColour_4 : decode prog_6_method_10_code 4 = .ok (.sipush 213, 3) := by decide +kernel
theorem d_Pic_newColour_7 : decode prog_6_method_10_code 7 = .ok (.iaload, 1) := by decide +kernel
theorem d_Pic_newColour_8 : decode prog_6_method_10_code 8 = .ok (.ifCond .lt 17, 3) := by decide +kernel
theorem d_Pic_newColour_11 : decode prog_6_method_10_code 11 = .ok (.aload_n 0, 1) := by decide +kernel
theorem d_Pic_newColour_12 : decode prog_6_method_10_code 12 = .ok (.getfield 37, 3) := by decide +kernel
theorem d_Pic_newColour_15 : decode prog_6_method_10_code 15 = .ok (.sipush 213, 3) := by decide +kernel
theorem d_Pic_newColour_18 : decode prog_6_method_10_code 18 = .ok (.iaload, 1) := by decide +kernel
theorem d_Pic_newColour_19 : decode prog_6_method_10_code 19 = .ok (.iload_n 1, 1) := by decide +kernel
theorem d_Pic_newColour_20 : decode prog_6_method_10_code 20 = .ok (.iload_n 2, 1) := by decide +kernel
theorem d_Pic_newColour_21 : decode prog_6_method_10_code 21 = .ok (.invokestatic 76, 3) := by decide +kernel
theorem d_Pic_newColour_24 : decode prog_6_method_10_code 24 = .ok (.ireturn, 1) := by decide +kernel
theorem d_Pic_newColour_25 : decode prog_6_method_10_code 25 = .ok (.aload_n 0, 1) := by decide +kernel
theorem d_Pic_newColour_26 : decode prog_6_method_10_code 26 = .ok (.getfield 37, 3) := by decide +kernel
theorem d_Pic_newColour_29 : decode prog_6_method_10_code 29 = .ok (.sipush 210, 3) := by decide +kernel
theorem d_Pic_newColour_32 : decode prog_6_method_10_code 32 = .ok (.iaload, 1) := by decide +kernel
theorem d_Pic_newColour_33 : decode prog_6_method_10_code 33 = .ok (.ifCond .ge 5, 3) := by decide +kernel
theorem d_Pic_newColour_36 : decode prog_6_method_10_code 36 = .ok (.iload_n 1, 1) := by decide +kernel
theorem d_Pic_newColour_37 : decode prog_6_method_10_code 37 = .ok (.ireturn, 1) := by decide +kernel
theorem d_Pic_newColour_38 : decode prog_6_method_10_code 38 = .ok (.iconst 0, 1) := by decide +kernel
theorem d_Pic_newColour_39 : decode prog_6_method_10_code 39 = .ok (.istore_n 3, 1) := by decide +kernel
theorem d_Pic_newColour_40 : decode prog_6_method_10_code 40 = .ok (.iconst 0, 1) := by decide +kernel
theorem d_Pic_newColour_41 : decode prog_6_method_10_code 41 = .ok (.istore 4, 2) := by decide +kernel
theorem d_Pic_newColour_43 : decode prog_6_method_10_code 43 = .ok (.iload 4, 2) := by decide +kernel
theorem d_Pic_newColour_45 : decode prog_6_method_10_code 45 = .ok (.iconst 4, 1) := by decide +kernel
theorem d_Pic_newColour_46 : decode prog_6_method_10_code 46 = .ok (.if_icmp .ge 26, 3) := by decide +kernel
theorem d_Pic_newColour_49 : decode prog_6_method_10_code 49 = .ok (.iload_n 3, 1) := by decide +kernel
theorem d_Pic_newColour_50 : decode prog_6_method_10_code 50 = .ok (.aload_n 0, 1) := by decide +kernel
theorem d_Pic_newColour_51 : decode prog_6_method_10_code 51 = .ok (.iload 4, 2) := by decide +kernel
theorem d_Pic_newColour_53 : decode prog_6_method_10_code 53 = .ok (.iload_n 1, 1) := by decide +kernel
theorem d_Pic_newColour_54 : decode prog_6_method_10_code 54 = .ok (.iload_n 2, 1) := by decide +kernel
theorem d_Pic_newColour_55 : decode prog_6_method_10_code 55 = .ok (.invokevirtual 79, 3) := by decide +kernel
theorem d_Pic_newColour_58 : decode prog_6_method_10_code 58 = .ok (.bipush 8, 2) := by decide +kernel
theorem d_Pic_newColour_60 : decode prog_6_method_10_code 60 = .ok (.iload 4, 2) := by decide +kernel
theorem d_Pic_newColour_62 : decode prog_6_method_10_code 62 = .ok (.imul, 1) := by decide +kernel
theorem d_Pic_newColour_63 : decode prog_6_method_10_code 63 = .ok (.ishl, 1) := by decide +kernel
theorem d_Pic_newColour_64 : decode prog_6_method_10_code 64 = .ok (.ior, 1) := by decide +kernel
theorem d_Pic_newColour_65 : decode prog_6_method_10_code 65 = .ok (.istore_n 3, 1) := by decide +kernel
theorem d_Pic_newColour_66 : decode prog_6_method_10_code 66 = .ok (.iinc 4 1, 3) := by decide +kernel
theorem d_Pic_newColour_69 : decode prog_6_method_10_code 69 = .ok (.goto (-26), 3) := by decide +kernel
theorem d_Pic_newColour_72 : decode prog_6_method_10_code 72 = .ok (.iload_n 3, 1) := by decide +kernel
theorem d_Pic_newColour_73 : decode prog_6_method_10_code 73 = .ok (.ireturn, 1) := by decide +kernel
def L_Pic_newColour_43 : Nat → Sg → Int32 → Int32 → Int32 → Int32 → Option (Int32)
  | 0, _, _, _, _, _ => none
  | n + 1, σ, v1, v2, v3, v4 => if 4 ≤ v4 then (some v3) else (bd (F_Pic_blended σ v4 v1 v2) (fun o5 => lt (v3 ||| (o5 <<< ((8 * v4) &&& 31))) (fun y6 => lt (v4 + 1) (fun y7 => L_Pic_newColour_43 n σ v1 v2 y6 y7))))
set_option maxRecDepth 10000 in
set_option maxHeartbeats 4000000 in
theorem lt_Pic_newColour_43 {p : Program} {l : Launch} {e : Env} {R : Room} {s : State} {m : MethodId} {args : Array Value} {below : List Frame} {meth : Method} {c : Code} {D : va_G} {τ : ClassId × ClassId × ClassId} {B : Nat} {A : Nat → Prop} {ad : Nat → Nat} (E : Cx p R s m args meth c prog_6_method_10_code 5 "DrawingMachine$Picture" 2 D τ B A) (hret : meth.sig.returnType = (some .int)) (o : Int32) (σ : Sg) : ∀ (n : Nat) (v1 : Int32) (v2 : Int32) (v3 : Int32) (v4 : Int32) (H : Heap) (locs : List Loc) (ls : Array Slot), L_Pic_newColour_43 n σ v1 v2 v3 v4 = some o → Wd s D A (wdC τ σ ad) H locs → lv_has ls 5 [(0, .ref (ad 58)), (1, .int v1), (2, .int v2), (3, .int v3), (4, .int v4)] → W p l e R s m args below meth c H locs 0 0 (QI below args s A D τ (wdC τ σ ad) o) (F0 m 43 ls []) := by
  intro n
  induction n with
  | zero =>
    intro v1 v2 v3 v4 H locs ls h w hl
    cases h
  | succ n hr_43 =>
    intro v1 v2 v3 v4 H locs ls h w hl
    refine lv_iload E.x E.b d_Pic_newColour_43 (lv_at hl 4 rfl) ?_
    refine lv_iconst (v := 4) E.x E.b d_Pic_newColour_45 (by decide) ?_
    refine lv_icmp_ge (tgt := 72) E.x E.b d_Pic_newColour_46 (by decide) (fun c => ?_) (fun c => ?_)
    ·
      replace h := ifT c h
      refine lv_iload_n E.x E.b d_Pic_newColour_72 rfl (lv_at hl 3 rfl) ?_
      obtain rfl := Option.some.inj h
      exact rt_i E w hret d_Pic_newColour_73
    ·
      replace h := ifF c h
      refine lv_iload_n E.x E.b d_Pic_newColour_49 rfl (lv_at hl 3 rfl) ?_
      refine lv_aload_n E.x E.b d_Pic_newColour_50 rfl (lv_at hl 0 rfl) ?_
      refine lv_iload E.x E.b d_Pic_newColour_51 (lv_at hl 4 rfl) ?_
      refine lv_iload_n E.x E.b d_Pic_newColour_53 rfl (lv_at hl 1 rfl) ?_
      refine lv_iload_n E.x E.b d_Pic_newColour_54 rfl (lv_at hl 2 rfl) ?_
      obtain ⟨o5, h_o5, h⟩ := bd_some h
      refine clV_Pic_blended E w (x0 := v4) (x1 := v1) (x2 := v2) h_o5 k1273 (by decide) hl.1 (Nat.le_of_ble_eq_true rfl) d_Pic_newColour_55 (fun H locs w => ?_)
      refine lv_bipush (v := 8) E.x E.b d_Pic_newColour_58 (by decide) ?_
      refine lv_iload E.x E.b d_Pic_newColour_60 (lv_at hl 4 rfl) ?_
      refine lv_imul E.x E.b d_Pic_newColour_62 ?_
      refine lv_ishl E.x E.b d_Pic_newColour_63 ?_
      refine lv_ior E.x E.b d_Pic_newColour_64 ?_
      obtain ⟨y6, e_y6, h⟩ := lt_some h
      refine wi_e (v := y6) e_y6 ?_
      refine lv_istore_n (lv' := [(3, .int y6), (0, .ref (ad 58)), (1, .int v1), (2, .int v2), (4, .int v4)]) E.x E.b d_Pic_newColour_65 rfl hl (by decide) rfl (fun ls hl => ?_)
      obtain ⟨y7, e_y7, h⟩ := lt_some h
      refine lv_iinc (v := y7) (lv' := [(4, .int y7), (3, .int y6), (0, .ref (ad 58)), (1, .int v1), (2, .int v2)]) E.x E.b d_Pic_newColour_66 hl (k := 4) rfl (e_y7) (by decide) rfl (fun ls hl => ?_)
      refine lv_goto (tgt := 43) E.x E.b d_Pic_newColour_69 (by decide) ?_
      exact hr_43 v1 v2 y6 y7 _ _ _ h w (lv_sub hl [2, 3, 4, 1, 0] rfl)
def F_Pic_newColour (σ : Sg) (x0 : Int32) (x1 : Int32) : Option (Int32) := if (σ.2.2.1 1 213) < 0 then (if 0 ≤ (σ.2.2.1 1 210) then (L_Pic_newColour_43 100000 σ x0 x1 0 0) else (some x0)) else (bd (F_Pic_byLogic (σ.2.2.1 1 213) x0 x1) (fun o8 => some o8))
set_option maxRecDepth 10000 in
set_option maxHeartbeats 4000000 in
theorem c_Pic_newColour (l : Launch) (D : va_G) (τ : ClassId × ClassId × ClassId) (B : Nat) (σ : Sg) (ad : Nat → Nat) (x0 : Int32) (x1 : Int32) (o : Int32) (h : F_Pic_newColour σ x0 x1 = some o) : MI l y_Pic_newColour (Cond.code y_Pic_newColour prog_6_method_10_code 5 (some .int)) 2 D τ B [.ref (ad 58), .int x0, .int x1] (wdC τ σ ad) (wdC τ σ ad) o := by
  refine en_i (by decide) (Nat.le_of_ble_eq_true rfl) ?_
  intro p e R s m args below meth c H locs ls A E hret w hl
  have E : Cx p R s m args meth c prog_6_method_10_code 5 "DrawingMachine$Picture" 2 D τ B A := E
  have hl : lv_has ls 5 [(0, .ref (ad 58)), (1, .int x0), (2, .int x1)] := hl
  refine lv_aload_n E.x E.b d_Pic_newColour_0 rfl (lv_at hl 0 rfl) ?_
  refine gC_Pic_kept E w k88 d_Pic_newColour_1 ?_
  refine lv_sipush (v := 213) E.x E.b d_Pic_newColour_4 (by decide) ?_
  refine ialC E w (k := 1) (by decide) (show inb 213 245 by decide) d_Pic_newColour_7 ?_
  refine wi_e (v := σ.2.2.1 1 213) rfl ?_
  refine lv_if_lt (tgt := 25) E.x E.b d_Pic_newColour_8 (by decide) (fun c => ?_) (fun c => ?_)
  ·
    replace h := ifT c h
    refine lv_aload_n E.x E.b d_Pic_newColour_25 rfl (lv_at hl 0 rfl) ?_
    refine gC_Pic_kept E w k88 d_Pic_newColour_26 ?_
    refine lv_sipush (v := 210) E.x E.b d_Pic_newColour_29 (by decide) ?_
    refine ialC E w (k := 1) (by decide) (show inb 210 245 by decide) d_Pic_newColour_32 ?_
    refine wi_e (v := σ.2.2.1 1 210) rfl ?_
    refine lv_if_ge (tgt := 38) E.x E.b d_Pic_newColour_33 (by decide) (fun c => ?_) (fun c => ?_)
    ·
      replace h := ifT c h
      refine lv_iconst (v := 0) E.x E.b d_Pic_newColour_38 (by decide) ?_
      refine lv_istore_n (lv' := [(3, .int 0), (0, .ref (ad 58)), (1, .int x0), (2, .int x1)]) E.x E.b d_Pic_newColour_39 rfl hl (by decide) rfl (fun ls hl => ?_)
      refine lv_iconst (v := 0) E.x E.b d_Pic_newColour_40 (by decide) ?_
      refine lv_istore (lv' := [(4, .int 0), (3, .int 0), (0, .ref (ad 58)), (1, .int x0), (2, .int x1)]) E.x E.b d_Pic_newColour_41 hl (by decide) rfl (fun ls hl => ?_)
      exact lt_Pic_newColour_43 E hret o σ 100000 x0 x1 0 0 _ _ _ h w (lv_sub hl [2, 3, 4, 1, 0] rfl)
    ·
      replace h := ifF c h
      refine lv_iload_n E.x E.b d_Pic_newColour_36 rfl (lv_at hl 1 rfl) ?_
      obtain rfl := Option.some.inj h
      exact rt_i E w hret d_Pic_newColour_37
  ·
    replace h := ifF c h
    refine lv_aload_n E.x E.b d_Pic_newColour_11 rfl (lv_at hl 0 rfl) ?_
    refine gC_Pic_kept E w k88 d_Pic_newColour_12 ?_
    refine lv_sipush (v := 213) E.x E.b d_Pic_newColour_15 (by decide) ?_
    refine ialC E w (k := 1) (by decide) (show inb 213 245 by decide) d_Pic_newColour_18 ?_
    refine wi_e (v := σ.2.2.1 1 213) rfl ?_
    refine lv_iload_n E.x E.b d_Pic_newColour_19 rfl (lv_at hl 1 rfl) ?_
    refine lv_iload_n E.x E.b d_Pic_newColour_20 rfl (lv_at hl 2 rfl) ?_
    obtain ⟨o8, h_o8, h⟩ := bd_some h
    refine clS_Pic_byLogic E w (x0 := (σ.2.2.1 1 213)) (x1 := x0) (x2 := x1) h_o8 k1270 (by decide) hl.1 (Nat.le_of_ble_eq_true rfl) d_Pic_newColour_21 (fun H locs w => ?_)
    obtain rfl := Option.some.inj h
    exact rt_i E w hret d_Pic_newColour_24
theorem clV_Pic_newColour {p : Program} {l : Launch} {e : Env} {R : Room} {s : State} {m : MethodId} {args : Array Value} {below : List Frame} {meth : Method} {c : Code} {H : Heap} {locs : List Loc} {Q : State → Prop} {cc : ByteArray} {nL pc lev : Nat} {own : String} {D : va_G} {τ : ClassId × ClassId × ClassId} {B : Nat} {A : Nat → Prop} {σ : Sg} {ad : Nat → Nat} {ls : Array Slot} {rest : List Value} (E : Cx p R s m args meth c cc nL own lev D τ B A) (w : Wd s D A (wdC τ σ ad) H locs) {x0 : Int32} {x1 : Int32} {o : Int32} (h : F_Pic_newColour σ x0 x1 = some o) {index : Nat} (hlk : Cond.methodLink own index y_Pic_newColour ∈ tw) (hlev : 2 < lev) (hsz : ls.size = nL) (hr : (rest.map fun v => v.category).sum ≤ 8) (hd : decode cc pc = .ok (.invokevirtual index, 3)) (kk : ∀ (H1 : Heap) (locs1 : List Loc), Wd s D A (wdC τ σ ad) H1 locs1 → W p l e R s m args below meth c H1 locs1 0 0 Q (F0 m (pc + 3) ls (.int o :: rest))) : W p l e R s m args below meth c H locs 0 0 Q (F0 m pc ls (.int x1 :: .int x0 :: .ref (ad 58) :: rest)) :=
  cr_i w E.C (va_runV (As := [.int x0, .int x1]) (rest := rest) E.fix (c_Pic_newColour l D τ B σ ad x0 x1 o h H.size) (cwV 2 E.w (tw_pre (tw_good k1269) (l := [_, _, _, _]) (List.forall_mem_cons.mpr ⟨hlk, List.forall_mem_cons.mpr ⟨k1268, List.forall_mem_cons.mpr ⟨ks32, List.forall_mem_cons.mpr ⟨k4, fun _ h => absurd h List.not_mem_nil⟩⟩⟩⟩)) rfl rfl rfl (by decide +kernel) (E.rm hlev (by decide))) (wd_preV w E.C [.int x0, .int x1] rcC_Pic rfl) rfl rfl hsz rfl (lv_room hr) hd ⟨Nat.zero_le _, Nat.zero_le _⟩) kk

theorem d_Pic_drawPlace_0 : decode prog_6_method_5_code 0 = .ok (.aload_n 0, 1) := by decide +kernel
theorem d_Pic_drawPlace_1 : decode prog_6_method_5_code 1 = .ok (.getfield 28, 3) := by decide +kernel
theorem d_Pic_drawPlace_4 : decode prog_6_method_5_code 4 = .ok (.iload_n 1, 1) := by decide +kernel
theorem d_Pic_drawPlace_5 : decode prog_6_method_5_code 5 = .ok (.iload_n 2, 1) := by decide +kernel
theorem d_Pic_drawPlace_6 : decode prog_6_method_5_code 6 = .ok (.invokevirtual 57, 3) := by decide +kernel
theorem d_Pic_drawPlace_9 : decode prog_6_method_5_code 9 = .ok (.ifCond .ne 5, 3) := by decide +kernel
theorem d_Pic_drawPlace_12 : decode prog_6_method_5_code 12 = .ok (.iconst 0, 1) := by decide +kernel
theorem d_Pic_drawPlace_13 : decode prog_6_method_5_code 13 = .ok (.ireturn, 1) := by decide +kernel
theorem d_Pic_drawPlace_14 : decode prog_6_method_5_code 14 = .ok (.iload_n 2, 1) := by decide +kernel
theorem d_Pic_drawPlace_15 : decode prog_6_method_5_code 15 = .ok (.aload_n 0, 1) := by decide +kernel
theorem d_Pic_drawPlace_16 : decode prog_6_method_5_code 16 = .ok (.getfield 9, 3) := by decide +kernel
theorem d_Pic_drawPlace_19 : decode prog_6_method_5_code 19 = .ok (.imul, 1) := by decide +kernel
theorem d_Pic_drawPlace_20 : decode prog_6_method_5_code 20 = .ok (.iload_n 1, 1) := by decide +kernel
theorem d_Pic_drawPlace_21 : decode prog_6_method_5_code 21 = .ok (.iadd, 1) := by decide +kernel
theorem d_Pic_drawPlace_22 : decode prog_6_method_5_code 22 = .ok (.istore 6, 2) := by decide +kernel
theorem d_Pic_drawPlace_24 : decode prog_6_method_5_code 24 = .ok (.sipush 192, 3) := by decide +kernel
theorem d_Pic_drawPlace_27 : decode prog_6_method_5_code 27 = .ok (.bipush 7, 2) := by decide +kernel
theorem d_Pic_drawPlace_29 : decode prog_6_method_5_code 29 = .ok (.iload 4, 2) := by decide +kernel
theorem d_Pic_drawPlace_31 : decode prog_6_method_5_code 31 = .ok (.imul, 1) := by decide +kernel
theorem d_Pic_drawPlace_32 : decode prog_6_method_5_code 32 = .ok (.iadd, 1) := by decide +kernel
theorem d_Pic_drawPlace_33 : decode prog_6_method_5_code 33 = .ok (.istore 7, 2) := by decide +kernel
theorem d_Pic_drawPlace_35 : decode prog_6_method_5_code 35 = .ok (.aload_n 0, 1) := by decide +kernel
theorem d_Pic_drawPlace_36 : decode prog_6_method_5_code 36 = .ok (.getfield 37, 3) := by decide +kernel
theorem d_Pic_drawPlace_39 : decode prog_6_method_5_code 39 = .ok (.iload 7, 2) := by decide +kernel
theorem d_Pic_drawPlace_41 : decode prog_6_method_5_code 41 = .ok (.iconst 2, 1) := by decide +kernel
theorem d_Pic_drawPlace_42 : decode prog_6_method_5_code 42 = .ok (.iadd, 1) := by decide +kernel
theorem d_Pic_drawPlace_43 : decode prog_6_method_5_code 43 = .ok (.iaload, 1) := by decide +kernel
theorem d_Pic_drawPlace_44 : decode prog_6_method_5_code 44 = .ok (.istore 8, 2) := by decide +kernel
theorem d_Pic_drawPlace_46 : decode prog_6_method_5_code 46 = .ok (.aload_n 0, 1) := by decide +kernel
theorem d_Pic_drawPlace_47 : decode prog_6_method_5_code 47 = .ok (.getfield 37, 3) := by decide +kernel
theorem d_Pic_drawPlace_50 : decode prog_6_method_5_code 50 = .ok (.iload 7, 2) := by decide +kernel
theorem d_Pic_drawPlace_52 : decode prog_6_method_5_code 52 = .ok (.iaload, 1) := by decide +kernel
theorem d_Pic_drawPlace_53 : decode prog_6_method_5_code 53 = .ok (.aload_n 0, 1) := by decide +kernel
theorem d_Pic_drawPlace_54 : decode prog_6_method_5_code 54 = .ok (.getfield 37, 3) := by decide +kernel
theorem d_Pic_drawPlace_57 : decode prog_6_method_5_code 57 = .ok (.iload 7, 2) := by decide +kernel
theorem d_Pic_drawPlace_59 : decode prog_6_method_5_code 59 = .ok (.iconst 1, 1) := by decide +kernel
theorem d_Pic_drawPlace_60 : decode prog_6_method_5_code 60 = .ok (.iadd, 1) := by decide +kernel
theorem d_Pic_drawPlace_61 : decode prog_6_method_5_code 61 = .ok (.iaload, 1) := by decide +kernel
theorem d_Pic_drawPlace_62 : decode prog_6_method_5_code 62 = .ok (.iload 8, 2) := by decide +kernel
theorem d_Pic_drawPlace_64 : decode prog_6_method_5_code 64 = .ok (.iand, 1) := by decide +kernel
theorem d_Pic_drawPlace_65 : decode prog_6_method_5_code 65 = .ok (.aload_n 0, 1) := by decide +kernel
theorem d_Pic_drawPlace_66 : decode prog_6_method_5_code 66 = .ok (.getfield 25, 3) := by decide +kernel
theorem d_Pic_drawPlace_69 : decode prog_6_method_5_code 69 = .ok (.iload 6, 2) := by decide +kernel
theorem d_Pic_drawPlace_71 : decode prog_6_method_5_code 71 = .ok (.iaload, 1) := by decide +kernel
theorem d_Pic_drawPlace_72 : decode prog_6_method_5_code 72 = .ok (.iload 8, 2) := by decide +kernel
theorem d_Pic_drawPlace_74 : decode prog_6_method_5_code 74 = .ok (.iand, 1) := by decide +kernel
theorem d_Pic_drawPlace_75 : decode prog_6_method_5_code 75 = .ok (.invokestatic 61, 3) := by decide +kernel
theorem d_Pic_drawPlace_78 : decode prog_6_method_5_code 78 = .ok (.ifCond .ne 22, 3) := by decide +kernel
theorem d_Pic_drawPlace_81 : decode prog_6_method_5_code 81 = .ok (.aload_n 0, 1) := by decide +kernel
theorem d_Pic_drawPlace_82 : decode prog_6_method_5_code 82 = .ok (.iload 6, 2) := by decide +kernel
theorem d_Pic_drawPlace_84 : decode prog_6_method_5_code 84 = .ok (.iload 7, 2) := by decide +kernel
theorem d_Pic_drawPlace_86 : decode prog_6_method_5_code 86 = .ok (.aload_n 0, 1) := by decide +kernel
theorem d_Pic_drawPlace_87 : decode prog_6_method_5_code 87 = .ok (.getfield 37, 3) := by decide +kernel
theorem d_Pic_drawPlace_90 : decode prog_6_method_5_code 90 = .ok (.iload 7, 2) := by decide +kernel
theorem d_Pic_drawPlace_92 : decode prog_6_method_5_code 92 = .ok (.iconst 4, 1) := by decide +kernel
theorem d_Pic_drawPlace_93 : decode prog_6_method_5_code 93 = .ok (.iadd, 1) := by decide +kernel
theorem d_Pic_drawPlace_94 : decode prog_6_method_5_code 94 = .ok (.iaload, 1) := by decide +kernel
theorem d_Pic_drawPlace_95 : decode prog_6_method_5_code 95 = .ok (.invokevirtual 65, 3) := by decide +kernel
theorem d_Pic_drawPlace_98 : decode prog_6_method_5_code 98 = .ok (.iconst 1, 1) := by decide +kernel
theorem d_Pic_drawPlace_99 : decode prog_6_method_5_code 99 = .ok (.ireturn, 1) := by decide +kernel
theorem d_Pic_drawPlace_100 : decode prog_6_method_5_code 100 = .ok (.aload_n 0, 1) := by decide +kernel
theorem d_Pic_drawPlace_101 : decode prog_6_method_5_code 101 = .ok (.getfield 37, 3) := by decide +kernel
theorem d_Pic_drawPlace_104 : decode prog_6_method_5_code 104 = .ok (.sipush 190, 3) := by decide +kernel
theorem d_Pic_drawPlace_107 : decode prog_6_method_5_code 107 = .ok (.iaload, 1) := by decide +kernel
theorem d_Pic_drawPlace_108 : decode prog_6_method_5_code 108 = .ok (.iload_n 3, 1) := by decide +kernel
theorem d_Pic_drawPlace_109 : decode prog_6_method_5_code 109 = .ok (.aload_n 0, 1) := by decide +kernel
theorem d_Pic_drawPlace_110 : decode prog_6_method_5_code 110 = .ok (.getfield 22, 3) := by decide +kernel
theorem d_Pic_drawPlace_113 : decode prog_6_method_5_code 113 = .ok (.iload 6, 2) := by decide +kernel
theorem d_Pic_drawPlace_115 : decode prog_6_method_5_code 115 = .ok (.iaload, 1) := by decide +kernel
theorem d_Pic_drawPlace_116 : decode prog_6_method_5_code 116 = .ok (.invokestatic 61, 3) := by decide +kernel
theorem d_Pic_drawPlace_119 : decode prog_6_method_5_code 119 = .ok (.ifCond .ne 22, 3) := by decide +kernel
theorem d_Pic_drawPlace_122 : decode prog_6_method_5_code 122 = .ok (.aload_n 0, 1) := by decide +kernel
theorem d_Pic_drawPlace_123 : decode prog_6_method_5_code 123 = .ok (.iload 6, 2) := by decide +kernel
theorem d_Pic_drawPlace_125 : decode prog_6_method_5_code 125 = .ok (.iload 7, 2) := by decide +kernel
theorem d_Pic_drawPlace_127 : decode prog_6_method_5_code 127 = .ok (.aload_n 0, 1) := by decide +kernel
theorem d_Pic_drawPlace_128 : decode prog_6_method_5_code 128 = .ok (.getfield 37, 3) := by decide +kernel
theorem d_Pic_drawPlace_131 : decode prog_6_method_5_code 131 = .ok (.iload 7, 2) := by decide +kernel
theorem d_Pic_drawPlace_133 : decode prog_6_method_5_code 133 = .ok (.iconst 5, 1) := by decide +kernel
theorem d_Pic_drawPlace_134 : decode prog_6_method_5_code 134 = .ok (.iadd, 1) := by decide +kernel
theorem d_Pic_drawPlace_135 : decode prog_6_method_5_code 135 = .ok (.iaload, 1) := by decide +kernel
theorem d_Pic_drawPlace_136 : decode prog_6_method_5_code 136 = .ok (.invokevirtual 65, 3) := by decide +kernel
theorem d_Pic_drawPlace_139 : decode prog_6_method_5_code 139 = .ok (.iconst 2, 1) := by decide +kernel
theorem d_Pic_drawPlace_140 : decode prog_6_method_5_code 140 = .ok (.ireturn, 1) := by decide +kernel
theorem d_Pic_drawPlace_141 : decode prog_6_method_5_code 141 = .ok (.aload_n 0, 1) := by decide +kernel
theorem d_Pic_drawPlace_142 : decode prog_6_method_5_code 142 = .ok (.iload 6, 2) := by decide +kernel
theorem d_Pic_drawPlace_144 : decode prog_6_method_5_code 144 = .ok (.iload 7, 2) := by decide +kernel
theorem d_Pic_drawPlace_146 : decode prog_6_method_5_code 146 = .ok (.aload_n 0, 1) := by decide +kernel
theorem d_Pic_drawPlace_147 : decode prog_6_method_5_code 147 = .ok (.getfield 37, 3) := by decide +kernel
theorem d_Pic_drawPlace_150 : decode prog_6_method_5_code 150 = .ok (.iload 7, 2) := by decide +kernel
theorem d_Pic_drawPlace_152 : decode prog_6_method_5_code 152 = .ok (.bipush 6, 2) := by decide +kernel
theorem d_Pic_drawPlace_154 : decode prog_6_method_5_code 154 = .ok (.iadd, 1) := by decide +kernel
theorem d_Pic_drawPlace_155 : decode prog_6_method_5_code 155 = .ok (.iaload, 1) := by decide +kernel
theorem d_Pic_drawPlace_156 : decode prog_6_method_5_code 156 = .ok (.invokevirtual 65, 3) := by decide +kernel
theorem d_Pic_drawPlace_159 : decode prog_6_method_5_code 159 = .ok (.aload_n 0, 1) := by decide +kernel
theorem d_Pic_drawPlace_160 : decode prog_6_method_5_code 160 = .ok (.getfield 37, 3) := by decide +kernel
theorem d_Pic_drawPlace_163 : decode prog_6_method_5_code 163 = .ok (.sipush 190, 3) := by decide +kernel
theorem d_Pic_drawPlace_166 : decode prog_6_method_5_code 166 = .ok (.iaload, 1) := by decide +kernel
theorem d_Pic_drawPlace_167 : decode prog_6_method_5_code 167 = .ok (.ifCond .lt 23, 3) := by decide +kernel
theorem d_Pic_drawPlace_170 : decode prog_6_method_5_code 170 = .ok (.aload_n 0, 1) := by decide +kernel
theorem d_Pic_drawPlace_171 : decode prog_6_method_5_code 171 = .ok (.getfield 37, 3) := by decide +kernel
theorem d_Pic_drawPlace_174 : decode prog_6_method_5_code 174 = .ok (.sipush 191, 3) := by decide +kernel
theorem d_Pic_drawPlace_177 : decode prog_6_method_5_code 177 = .ok (.iaload, 1) := by decide +kernel
theorem d_Pic_drawPlace_178 : decode prog_6_method_5_code 178 = .ok (.iconst 1, 1) := by decide +kernel
theorem d_Pic_drawPlace_179 : decode prog_6_method_5_code 179 = .ok (.if_icmp .ne 11, 3) := by decide +kernel
theorem d_Pic_drawPlace_182 : decode prog_6_method_5_code 182 = .ok (.aload_n 0, 1) := by decide +kernel
theorem d_Pic_drawPlace_183 : decode prog_6_method_5_code 183 = .ok (.getfield 22, 3) := by decide +kernel
theorem d_Pic_drawPlace_186 : decode prog_6_method_5_code 186 = .ok (.iload 6, 2) := by decide +kernel
theorem d_Pic_drawPlace_188 : decode prog_6_method_5_code 188 = .ok (.iload_n 3, 1) := by decide +kernel
theorem d_Pic_drawPlace_189 : decode prog_6_method_5_code 189 = .ok (.iastore, 1) := by decide +kernel
theorem d_Pic_drawPlace_190 : decode prog_6_method_5_code 190 = .ok (.aload_n 0, 1) := by decide +kernel
theorem d_Pic_drawPlace_191 : decode prog_6_method_5_code 191 = .ok (.getfield 37, 3) := by decide +kernel
theorem d_Pic_drawPlace_194 : decode prog_6_method_5_code 194 = .ok (.sipush 214, 3) := by decide +kernel
theorem d_Pic_drawPlace_197 : decode prog_6_method_5_code 197 = .ok (.iaload, 1) := by decide +kernel
theorem d_Pic_drawPlace_198 : decode prog_6_method_5_code 198 = .ok (.invokestatic 53, 3) := by decide +kernel
theorem d_Pic_drawPlace_201 : decode prog_6_method_5_code 201 = .ok (.istore 9, 2) := by decide +kernel
theorem d_Pic_drawPlace_203 : decode prog_6_method_5_code 203 = .ok (.aload_n 0, 1) := by decide +kernel
theorem d_Pic_drawPlace_204 : decode prog_6_method_5_code 204 = .ok (.getfield 18, 3) := by decide +kernel
theorem d_Pic_drawPlace_207 : decode prog_6_method_5_code 207 = .ok (.iload 6, 2) := by decide +kernel
theorem d_Pic_drawPlace_209 : decode prog_6_method_5_code 209 = .ok (.aload_n 0, 1) := by decide +kernel
theorem d_Pic_drawPlace_210 : decode prog_6_method_5_code 210 = .ok (.getfield 18, 3) := by decide +kernel
theorem d_Pic_drawPlace_213 : decode prog_6_method_5_code 213 = .ok (.iload 6, 2) := by decide +kernel
theorem d_Pic_drawPlace_215 : decode prog_6_method_5_code 215 = .ok (.iaload, 1) := by decide +kernel
theorem d_Pic_drawPlace_216 : decode prog_6_method_5_code 216 = .ok (.iload 9, 2) := by decide +kernel
theorem d_Pic_drawPlace_218 : decode prog_6_method_5_code 218 = .ok (.iconst (-1), 1) := by decide +kernel
theorem d_Pic_drawPlace_219 : decode prog_6_method_5_code 219 = .ok (.ixor, 1) := by decide +kernel
theorem d_Pic_drawPlace_220 : decode prog_6_method_5_code 220 = .ok (.iand, 1) := by decide +kernel
theorem d_Pic_drawPlace_221 : decode prog_6_method_5_code 221 = .ok (.aload_n 0, 1) := by decide +kernel
theorem d_Pic_drawPlace_222 : decode prog_6_method_5_code 222 = .ok (.iload 5, 2) := by decide +kernel
theorem d_Pic_drawPlace_224 : decode prog_6_method_5_code 224 = .ok (.aload_n 0, 1) := by decide +kernel
theorem d_Pic_drawPlace_225 : decode prog_6_method_5_code 225 = .ok (.getfield 18, 3) := by decide +kernel
theorem d_Pic_drawPlace_228 : decode prog_6_method_5_code 228 = .ok (.iload 6, 2) := by decide +kernel
theorem d_Pic_drawPlace_230 : decode prog_6_method_5_code 230 = .ok (.iaload, 1) := by decide +kernel
theorem d_Pic_drawPlace_231 : decode prog_6_method_5_code 231 = .ok (.invokevirtual 69, 3) := by decide +kernel
theorem d_Pic_drawPlace_234 : decode prog_6_method_5_code 234 = .ok (.iload 9, 2) := by decide +kernel
theorem d_Pic_drawPlace_236 : decode prog_6_method_5_code 236 = .ok (.iand, 1) := by decide +kernel
theorem d_Pic_drawPlace_237 : decode prog_6_method_5_code 237 = .ok (.ior, 1) := by decide +kernel
theorem d_Pic_drawPlace_238 : decode prog_6_method_5_code 238 = .ok (.iastore, 1) := by decide +kernel
theorem d_Pic_drawPlace_239 : decode prog_6_method_5_code 239 = .ok (.iconst 3, 1) := by decide +kernel
theorem d_Pic_drawPlace_240 : decode prog_6_method_5_code 240 = .ok (.ireturn, 1) := by decide +kernel
def F_Pic_drawPlace_190 (σ : Sg) (v5 : Int32) (v6 : Int32) : Option (Sg × Int32) := bd (F_Pic_channelBits (σ.2.2.1 1 214)) (fun o26 => ck (inb v6 (lenC σ 2)) (ck (inb v6 (lenC σ 2)) (bd (F_Pic_newColour σ v5 (σ.2.2.1 2 v6.toNatClampNeg)) (fun o29 => ck (inb v6 (lenC σ 2)) (lt (sA σ 2 (upd (σ.2.2.1 2) v6.toNatClampNeg (((σ.2.2.1 2 v6.toNatClampNeg) &&& (o26 ^^^ (-1))) ||| (o29 &&& o26)))) (fun σ31 => some (σ31, 3)))))))
set_option maxRecDepth 10000 in
set_option maxHeartbeats 4000000 in
theorem bt_Pic_drawPlace_190 {p : Program} {l : Launch} {e : Env} {R : Room} {s : State} {m : MethodId} {args : Array Value} {below : List Frame} {meth : Method} {c : Code} {D : va_G} {τ : ClassId × ClassId × ClassId} {B : Nat} {A : Nat → Prop} {ad : Nat → Nat} (E : Cx p R s m args meth c prog_6_method_5_code 10 "DrawingMachine$Picture" 3 D τ B A) (hret : meth.sig.returnType = (some .int)) (o : Sg × Int32) (σ : Sg) (v5 : Int32) (v6 : Int32) (h : F_Pic_drawPlace_190 σ v5 v6 = some o) {H : Heap} {locs : List Loc} {ls : Array Slot} (w : Wd s D A (wdC τ σ ad) H locs) (hl : lv_has ls 10 [(0, .ref (ad 58)), (5, .int v5), (6, .int v6)]) : W p l e R s m args below meth c H locs 0 0 (QI below args s A D τ (wdC τ o.1 ad) o.2) (F0 m 190 ls []) := by
  refine lv_aload_n E.x E.b d_Pic_drawPlace_190 rfl (lv_at hl 0 rfl) ?_
  refine gC_Pic_kept E w k88 d_Pic_drawPlace_191 ?_
  refine lv_sipush (v := 214) E.x E.b d_Pic_drawPlace_194 (by decide) ?_
  refine ialC E w (k := 1) (by decide) (show inb 214 245 by decide) d_Pic_drawPlace_197 ?_
  refine wi_e (v := σ.2.2.1 1 214) rfl ?_
  obtain ⟨o26, h_o26, h⟩ := bd_some h
  refine clS_Pic_channelBits E w (x0 := (σ.2.2.1 1 214)) h_o26 k1263 (by decide) hl.1 (Nat.le_of_ble_eq_true rfl) d_Pic_drawPlace_198 (fun H locs w => ?_)
  refine lv_istore (lv' := [(9, .int o26), (0, .ref (ad 58)), (5, .int v5), (6, .int v6)]) E.x E.b d_Pic_drawPlace_201 hl (by decide) rfl (fun ls hl => ?_)
  refine lv_aload_n E.x E.b d_Pic_drawPlace_203 rfl (lv_at hl 1 rfl) ?_
  refine gC_Pic_colours E w k84 d_Pic_drawPlace_204 ?_
  refine lv_iload E.x E.b d_Pic_drawPlace_207 (lv_at hl 3 rfl) ?_
  refine lv_aload_n E.x E.b d_Pic_drawPlace_209 rfl (lv_at hl 1 rfl) ?_
  refine gC_Pic_colours E w k84 d_Pic_drawPlace_210 ?_
  refine lv_iload E.x E.b d_Pic_drawPlace_213 (lv_at hl 3 rfl) ?_
  obtain ⟨c27, h⟩ := ck_some h
  refine ialC E w (k := 2) (by decide) c27 d_Pic_drawPlace_215 ?_
  refine lv_iload E.x E.b d_Pic_drawPlace_216 (lv_at hl 0 rfl) ?_
  refine lv_iconst (v := (-1)) E.x E.b d_Pic_drawPlace_218 (by decide) ?_
  refine lv_ixor E.x E.b d_Pic_drawPlace_219 ?_
  refine lv_iand E.x E.b d_Pic_drawPlace_220 ?_
  refine lv_aload_n E.x E.b d_Pic_drawPlace_221 rfl (lv_at hl 1 rfl) ?_
  refine lv_iload E.x E.b d_Pic_drawPlace_222 (lv_at hl 2 rfl) ?_
  refine lv_aload_n E.x E.b d_Pic_drawPlace_224 rfl (lv_at hl 1 rfl) ?_
  refine gC_Pic_colours E w k84 d_Pic_drawPlace_225 ?_
  refine lv_iload E.x E.b d_Pic_drawPlace_228 (lv_at hl 3 rfl) ?_
  obtain ⟨c28, h⟩ := ck_some h
  refine ialC E w (k := 2) (by decide) c28 d_Pic_drawPlace_230 ?_
  obtain ⟨o29, h_o29, h⟩ := bd_some h
  refine clV_Pic_newColour E w (x0 := v5) (x1 := (σ.2.2.1 2 v6.toNatClampNeg)) h_o29 k1266 (by decide) hl.1 (Nat.le_of_ble_eq_true rfl) d_Pic_drawPlace_231 (fun H locs w => ?_)
  refine lv_iload E.x E.b d_Pic_drawPlace_234 (lv_at hl 0 rfl) ?_
  refine lv_iand E.x E.b d_Pic_drawPlace_236 ?_
  refine lv_ior E.x E.b d_Pic_drawPlace_237 ?_
  obtain ⟨c30, h⟩ := ck_some h
  obtain ⟨σ31, e_σ31, h⟩ := lt_some h
  refine iasC E w (k := 2) (by decide) c30 e_σ31 d_Pic_drawPlace_238 (fun H locs w => ?_)
  refine lv_iconst (v := 3) E.x E.b d_Pic_drawPlace_239 (by decide) ?_
  obtain rfl := Option.some.inj h
  exact rt_i E w hret d_Pic_drawPlace_240
def F_Pic_drawPlace (σ : Sg) (x0 : Int32) (x1 : Int32) (x2 : Int32) (x3 : Int32) (x4 : Int32) : Option (Sg × Int32) := bd (F_Told_isOpen σ x0 x1) (fun o32 => if o32 = 0 then (some (σ, 0)) else (lt ((x1 * (σ.1 0)) + x0) (fun y33 => lt (192 + (7 * x3)) (fun y34 => ck (inb (y34 + 2) 245) (lt (σ.2.2.1 1 (y34 + 2).toNatClampNeg) (fun y36 => ck (inb y34 245) (ck (inb (y34 + 1) 245) (ck (inb y33 (lenC σ 4)) (bd (F_Pic_holds (σ.2.2.1 1 y34.toNatClampNeg) ((σ.2.2.1 1 (y34 + 1).toNatClampNeg) &&& y36) ((σ.2.2.1 4 y33.toNatClampNeg) &&& y36)) (fun o40 => if o40 = 0 then (ck (inb (y34 + 4) 245) (bd (F_Pic_doDeed σ y33 y34 (σ.2.2.1 1 (y34 + 4).toNatClampNeg)) (fun o50 => some (o50, 1)))) else (ck (inb y33 (lenC σ 3)) (bd (F_Pic_holds (σ.2.2.1 1 190) x2 (σ.2.2.1 3 y33.toNatClampNeg)) (fun o42 => if o42 = 0 then (ck (inb (y34 + 5) 245) (bd (F_Pic_doDeed σ y33 y34 (σ.2.2.1 1 (y34 + 5).toNatClampNeg)) (fun o48 => some (o48, 2)))) else (ck (inb (y34 + 6) 245) (bd (F_Pic_doDeed σ y33 y34 (σ.2.2.1 1 (y34 + 6).toNatClampNeg)) (fun o44 => if (o44.2.2.1 1 190) < 0 then (F_Pic_drawPlace_190 o44 x4 y33) else (if (o44.2.2.1 1 191) = 1 then (ck (inb y33 (lenC o44 3)) (lt (sA o44 3 (upd (o44.2.2.1 3) y33.toNatClampNeg x2)) (fun σ46 => F_Pic_drawPlace_190 σ46 x4 y33))) else (F_Pic_drawPlace_190 o44 x4 y33))))))))))))))))))
set_option maxRecDepth 10000 in
set_option maxHeartbeats 4000000 in
theorem c_Pic_drawPlace (l : Launch) (D : va_G) (τ : ClassId × ClassId × ClassId) (B : Nat) (σ : Sg) (ad : Nat → Nat) (x0 : Int32) (x1 : Int32) (x2 : Int32) (x3 : Int32) (x4 : Int32) (o : Sg × Int32) (h : F_Pic_drawPlace σ x0 x1 x2 x3 x4 = some o) : MI l y_Pic_drawPlace (Cond.code y_Pic_drawPlace prog_6_method_5_code 10 (some .int)) 3 D τ B [.ref (ad 58), .int x0, .int x1, .int x2, .int x3, .int x4] (wdC τ σ ad) (wdC τ o.1 ad) o.2 := by
  refine en_i (by decide) (Nat.le_of_ble_eq_true rfl) ?_
  intro p e R s m args below meth c H locs ls A E hret w hl
  have E : Cx p R s m args meth c prog_6_method_5_code 10 "DrawingMachine$Picture" 3 D τ B A := E
  have hl : lv_has ls 10 [(0, .ref (ad 58)), (1, .int x0), (2, .int x1), (3, .int x2), (4, .int x3), (5, .int x4)] := hl
  refine lv_aload_n E.x E.b d_Pic_drawPlace_0 rfl (lv_at hl 0 rfl) ?_
  refine gC_Pic_told E w k87 d_Pic_drawPlace_1 ?_
  refine lv_iload_n E.x E.b d_Pic_drawPlace_4 rfl (lv_at hl 1 rfl) ?_
  refine lv_iload_n E.x E.b d_Pic_drawPlace_5 rfl (lv_at hl 2 rfl) ?_
  obtain ⟨o32, h_o32, h⟩ := bd_some h
  refine clV_Told_isOpen E w (x0 := x0) (x1 := x1) h_o32 k1249 (by decide) hl.1 (Nat.le_of_ble_eq_true rfl) d_Pic_drawPlace_6 (fun H locs w => ?_)
  refine lv_if_ne (tgt := 14) E.x E.b d_Pic_drawPlace_9 (by decide) (fun c => ?_) (fun c => ?_)
  ·
    replace h := ifF c h
    refine lv_iload_n E.x E.b d_Pic_drawPlace_14 rfl (lv_at hl 2 rfl) ?_
    refine lv_aload_n E.x E.b d_Pic_drawPlace_15 rfl (lv_at hl 0 rfl) ?_
    refine gC_Pic_wide E w k78 d_Pic_drawPlace_16 ?_
    refine lv_imul E.x E.b d_Pic_drawPlace_19 ?_
    refine lv_iload_n E.x E.b d_Pic_drawPlace_20 rfl (lv_at hl 1 rfl) ?_
    refine lv_iadd E.x E.b d_Pic_drawPlace_21 ?_
    obtain ⟨y33, e_y33, h⟩ := lt_some h
    refine wi_e (v := y33) e_y33 ?_
    refine lv_istore (lv' := [(6, .int y33), (0, .ref (ad 58)), (1, .int x0), (2, .int x1), (3, .int x2), (4, .int x3), (5, .int x4)]) E.x E.b d_Pic_drawPlace_22 hl (by decide) rfl (fun ls hl => ?_)
    refine lv_sipush (v := 192) E.x E.b d_Pic_drawPlace_24 (by decide) ?_
    refine lv_bipush (v := 7) E.x E.b d_Pic_drawPlace_27 (by decide) ?_
    refine lv_iload E.x E.b d_Pic_drawPlace_29 (lv_at hl 5 rfl) ?_
    refine lv_imul E.x E.b d_Pic_drawPlace_31 ?_
    refine lv_iadd E.x E.b d_Pic_drawPlace_32 ?_
    obtain ⟨y34, e_y34, h⟩ := lt_some h
    refine wi_e (v := y34) e_y34 ?_
    refine lv_istore (lv' := [(7, .int y34), (6, .int y33), (0, .ref (ad 58)), (1, .int x0), (2, .int x1), (3, .int x2), (4, .int x3), (5, .int x4)]) E.x E.b d_Pic_drawPlace_33 hl (by decide) rfl (fun ls hl => ?_)
    refine lv_aload_n E.x E.b d_Pic_drawPlace_35 rfl (lv_at hl 2 rfl) ?_
    refine gC_Pic_kept E w k88 d_Pic_drawPlace_36 ?_
    refine lv_iload E.x E.b d_Pic_drawPlace_39 (lv_at hl 0 rfl) ?_
    refine lv_iconst (v := 2) E.x E.b d_Pic_drawPlace_41 (by decide) ?_
    refine lv_iadd E.x E.b d_Pic_drawPlace_42 ?_
    obtain ⟨c35, h⟩ := ck_some h
    refine ialC E w (k := 1) (by decide) c35 d_Pic_drawPlace_43 ?_
    obtain ⟨y36, e_y36, h⟩ := lt_some h
    refine wi_e (v := y36) e_y36 ?_
    refine lv_istore (lv' := [(8, .int y36), (7, .int y34), (6, .int y33), (0, .ref (ad 58)), (1, .int x0), (2, .int x1), (3, .int x2), (4, .int x3), (5, .int x4)]) E.x E.b d_Pic_drawPlace_44 hl (by decide) rfl (fun ls hl => ?_)
    refine lv_aload_n E.x E.b d_Pic_drawPlace_46 rfl (lv_at hl 3 rfl) ?_
    refine gC_Pic_kept E w k88 d_Pic_drawPlace_47 ?_
    refine lv_iload E.x E.b d_Pic_drawPlace_50 (lv_at hl 1 rfl) ?_
    obtain ⟨c37, h⟩ := ck_some h
    refine ialC E w (k := 1) (by decide) c37 d_Pic_drawPlace_52 ?_
    refine lv_aload_n E.x E.b d_Pic_drawPlace_53 rfl (lv_at hl 3 rfl) ?_
    refine gC_Pic_kept E w k88 d_Pic_drawPlace_54 ?_
    refine lv_iload E.x E.b d_Pic_drawPlace_57 (lv_at hl 1 rfl) ?_
    refine lv_iconst (v := 1) E.x E.b d_Pic_drawPlace_59 (by decide) ?_
    refine lv_iadd E.x E.b d_Pic_drawPlace_60 ?_
    obtain ⟨c38, h⟩ := ck_some h
    refine ialC E w (k := 1) (by decide) c38 d_Pic_drawPlace_61 ?_
    refine lv_iload E.x E.b d_Pic_drawPlace_62 (lv_at hl 0 rfl) ?_
    refine lv_iand E.x E.b d_Pic_drawPlace_64 ?_
    refine lv_aload_n E.x E.b d_Pic_drawPlace_65 rfl (lv_at hl 3 rfl) ?_
    refine gC_Pic_stencils E w k86 d_Pic_drawPlace_66 ?_
    refine lv_iload E.x E.b d_Pic_drawPlace_69 (lv_at hl 2 rfl) ?_
    obtain ⟨c39, h⟩ := ck_some h
    refine ialC E w (k := 4) (by decide) c39 d_Pic_drawPlace_71 ?_
    refine lv_iload E.x E.b d_Pic_drawPlace_72 (lv_at hl 0 rfl) ?_
    refine lv_iand E.x E.b d_Pic_drawPlace_74 ?_
    obtain ⟨o40, h_o40, h⟩ := bd_some h
    refine clS_Pic_holds E w (x0 := (σ.2.2.1 1 y34.toNatClampNeg)) (x1 := ((σ.2.2.1 1 (y34 + 1).toNatClampNeg) &&& y36)) (x2 := ((σ.2.2.1 4 y33.toNatClampNeg) &&& y36)) h_o40 k1253 (by decide) hl.1 (Nat.le_of_ble_eq_true rfl) d_Pic_drawPlace_75 (fun H locs w => ?_)
    refine lv_if_ne (tgt := 100) E.x E.b d_Pic_drawPlace_78 (by decide) (fun c => ?_) (fun c => ?_)
    ·
      replace h := ifF c h
      refine lv_aload_n E.x E.b d_Pic_drawPlace_100 rfl (lv_at hl 3 rfl) ?_
      refine gC_Pic_kept E w k88 d_Pic_drawPlace_101 ?_
      refine lv_sipush (v := 190) E.x E.b d_Pic_drawPlace_104 (by decide) ?_
      refine ialC E w (k := 1) (by decide) (show inb 190 245 by decide) d_Pic_drawPlace_107 ?_
      refine wi_e (v := σ.2.2.1 1 190) rfl ?_
      refine lv_iload_n E.x E.b d_Pic_drawPlace_108 rfl (lv_at hl 6 rfl) ?_
      refine lv_aload_n E.x E.b d_Pic_drawPlace_109 rfl (lv_at hl 3 rfl) ?_
      refine gC_Pic_depths E w k85 d_Pic_drawPlace_110 ?_
      refine lv_iload E.x E.b d_Pic_drawPlace_113 (lv_at hl 2 rfl) ?_
      obtain ⟨c41, h⟩ := ck_some h
      refine ialC E w (k := 3) (by decide) c41 d_Pic_drawPlace_115 ?_
      obtain ⟨o42, h_o42, h⟩ := bd_some h
      refine clS_Pic_holds E w (x0 := (σ.2.2.1 1 190)) (x1 := x2) (x2 := (σ.2.2.1 3 y33.toNatClampNeg)) h_o42 k1253 (by decide) hl.1 (Nat.le_of_ble_eq_true rfl) d_Pic_drawPlace_116 (fun H locs w => ?_)
      refine lv_if_ne (tgt := 141) E.x E.b d_Pic_drawPlace_119 (by decide) (fun c => ?_) (fun c => ?_)
      ·
        replace h := ifF c h
        refine lv_aload_n E.x E.b d_Pic_drawPlace_141 rfl (lv_at hl 3 rfl) ?_
        refine lv_iload E.x E.b d_Pic_drawPlace_142 (lv_at hl 2 rfl) ?_
        refine lv_iload E.x E.b d_Pic_drawPlace_144 (lv_at hl 1 rfl) ?_
        refine lv_aload_n E.x E.b d_Pic_drawPlace_146 rfl (lv_at hl 3 rfl) ?_
        refine gC_Pic_kept E w k88 d_Pic_drawPlace_147 ?_
        refine lv_iload E.x E.b d_Pic_drawPlace_150 (lv_at hl 1 rfl) ?_
        refine lv_bipush (v := 6) E.x E.b d_Pic_drawPlace_152 (by decide) ?_
        refine lv_iadd E.x E.b d_Pic_drawPlace_154 ?_
        obtain ⟨c43, h⟩ := ck_some h
        refine ialC E w (k := 1) (by decide) c43 d_Pic_drawPlace_155 ?_
        obtain ⟨o44, h_o44, h⟩ := bd_some h
        refine clV_Pic_doDeed E w (x0 := y33) (x1 := y34) (x2 := (σ.2.2.1 1 (y34 + 6).toNatClampNeg)) h_o44 k1256 (by decide) hl.1 (Nat.le_of_ble_eq_true rfl) d_Pic_drawPlace_156 (fun H locs w => ?_)
        refine lv_aload_n E.x E.b d_Pic_drawPlace_159 rfl (lv_at hl 3 rfl) ?_
        refine gC_Pic_kept E w k88 d_Pic_drawPlace_160 ?_
        refine lv_sipush (v := 190) E.x E.b d_Pic_drawPlace_163 (by decide) ?_
        refine ialC E w (k := 1) (by decide) (show inb 190 245 by decide) d_Pic_drawPlace_166 ?_
        refine wi_e (v := o44.2.2.1 1 190) rfl ?_
        refine lv_if_lt (tgt := 190) E.x E.b d_Pic_drawPlace_167 (by decide) (fun c => ?_) (fun c => ?_)
        ·
          replace h := ifT c h
          exact bt_Pic_drawPlace_190 E hret o o44 x4 y33 h w (lv_sub hl [3, 8, 2] rfl)
        ·
          replace h := ifF c h
          refine lv_aload_n E.x E.b d_Pic_drawPlace_170 rfl (lv_at hl 3 rfl) ?_
          refine gC_Pic_kept E w k88 d_Pic_drawPlace_171 ?_
          refine lv_sipush (v := 191) E.x E.b d_Pic_drawPlace_174 (by decide) ?_
          refine ialC E w (k := 1) (by decide) (show inb 191 245 by decide) d_Pic_drawPlace_177 ?_
          refine wi_e (v := o44.2.2.1 1 191) rfl ?_
          refine lv_iconst (v := 1) E.x E.b d_Pic_drawPlace_178 (by decide) ?_
          refine lv_icmp_ne (tgt := 190) E.x E.b d_Pic_drawPlace_179 (by decide) (fun c => ?_) (fun c => ?_)
          ·
            replace h := ifF c h
            exact bt_Pic_drawPlace_190 E hret o o44 x4 y33 h w (lv_sub hl [3, 8, 2] rfl)
          ·
            replace h := ifT c h
            refine lv_aload_n E.x E.b d_Pic_drawPlace_182 rfl (lv_at hl 3 rfl) ?_
            refine gC_Pic_depths E w k85 d_Pic_drawPlace_183 ?_
            refine lv_iload E.x E.b d_Pic_drawPlace_186 (lv_at hl 2 rfl) ?_
            refine lv_iload_n E.x E.b d_Pic_drawPlace_188 rfl (lv_at hl 6 rfl) ?_
            obtain ⟨c45, h⟩ := ck_some h
            obtain ⟨σ46, e_σ46, h⟩ := lt_some h
            refine iasC E w (k := 3) (by decide) c45 e_σ46 d_Pic_drawPlace_189 (fun H locs w => ?_)
            exact bt_Pic_drawPlace_190 E hret o σ46 x4 y33 h w (lv_sub hl [3, 8, 2] rfl)
      ·
        replace h := ifT c h
        refine lv_aload_n E.x E.b d_Pic_drawPlace_122 rfl (lv_at hl 3 rfl) ?_
        refine lv_iload E.x E.b d_Pic_drawPlace_123 (lv_at hl 2 rfl) ?_
        refine lv_iload E.x E.b d_Pic_drawPlace_125 (lv_at hl 1 rfl) ?_
        refine lv_aload_n E.x E.b d_Pic_drawPlace_127 rfl (lv_at hl 3 rfl) ?_
        refine gC_Pic_kept E w k88 d_Pic_drawPlace_128 ?_
        refine lv_iload E.x E.b d_Pic_drawPlace_131 (lv_at hl 1 rfl) ?_
        refine lv_iconst (v := 5) E.x E.b d_Pic_drawPlace_133 (by decide) ?_
        refine lv_iadd E.x E.b d_Pic_drawPlace_134 ?_
        obtain ⟨c47, h⟩ := ck_some h
        refine ialC E w (k := 1) (by decide) c47 d_Pic_drawPlace_135 ?_
        obtain ⟨o48, h_o48, h⟩ := bd_some h
        refine clV_Pic_doDeed E w (x0 := y33) (x1 := y34) (x2 := (σ.2.2.1 1 (y34 + 5).toNatClampNeg)) h_o48 k1256 (by decide) hl.1 (Nat.le_of_ble_eq_true rfl) d_Pic_drawPlace_136 (fun H locs w => ?_)
        refine lv_iconst (v := 2) E.x E.b d_Pic_drawPlace_139 (by decide) ?_
        obtain rfl := Option.some.inj h
        exact rt_i E w hret d_Pic_drawPlace_140
    ·
      replace h := ifT c h
      refine lv_aload_n E.x E.b d_Pic_drawPlace_81 rfl (lv_at hl 3 rfl) ?_
      refine lv_iload E.x E.b d_Pic_drawPlace_82 (lv_at hl 2 rfl) ?_
      refine lv_iload E.x E.b d_Pic_drawPlace_84 (lv_at hl 1 rfl) ?_
      refine lv_aload_n E.x E.b d_Pic_drawPlace_86 rfl (lv_at hl 3 rfl) ?_
      refine gC_Pic_kept E w k88 d_Pic_drawPlace_87 ?_
      refine lv_iload E.x E.b d_Pic_drawPlace_90 (lv_at hl 1 rfl) ?_
      refine lv_iconst (v := 4) E.x E.b d_Pic_drawPlace_92 (by decide) ?_
      refine lv_iadd E.x E.b d_Pic_drawPlace_93 ?_
      obtain ⟨c49, h⟩ := ck_some h
      refine ialC E w (k := 1) (by decide) c49 d_Pic_drawPlace_94 ?_
      obtain ⟨o50, h_o50, h⟩ := bd_some h
      refine clV_Pic_doDeed E w (x0 := y33) (x1 := y34) (x2 := (σ.2.2.1 1 (y34 + 4).toNatClampNeg)) h_o50 k1256 (by decide) hl.1 (Nat.le_of_ble_eq_true rfl) d_Pic_drawPlace_95 (fun H locs w => ?_)
      refine lv_iconst (v := 1) E.x E.b d_Pic_drawPlace_98 (by decide) ?_
      obtain rfl := Option.some.inj h
      exact rt_i E w hret d_Pic_drawPlace_99
  ·
    replace h := ifT c h
    refine lv_iconst (v := 0) E.x E.b d_Pic_drawPlace_12 (by decide) ?_
    obtain rfl := Option.some.inj h
    exact rt_i E w hret d_Pic_drawPlace_13
theorem clV_Pic_drawPlace {p : Program} {l : Launch} {e : Env} {R : Room} {s : State} {m : MethodId} {args : Array Value} {below : List Frame} {meth : Method} {c : Code} {H : Heap} {locs : List Loc} {Q : State → Prop} {cc : ByteArray} {nL pc lev : Nat} {own : String} {D : va_G} {τ : ClassId × ClassId × ClassId} {B : Nat} {A : Nat → Prop} {σ : Sg} {ad : Nat → Nat} {ls : Array Slot} {rest : List Value} (E : Cx p R s m args meth c cc nL own lev D τ B A) (w : Wd s D A (wdC τ σ ad) H locs) {x0 : Int32} {x1 : Int32} {x2 : Int32} {x3 : Int32} {x4 : Int32} {o : Sg × Int32} (h : F_Pic_drawPlace σ x0 x1 x2 x3 x4 = some o) {index : Nat} (hlk : Cond.methodLink own index y_Pic_drawPlace ∈ tw) (hlev : 3 < lev) (hsz : ls.size = nL) (hr : (rest.map fun v => v.category).sum ≤ 8) (hd : decode cc pc = .ok (.invokevirtual index, 3)) (kk : ∀ (H1 : Heap) (locs1 : List Loc), Wd s D A (wdC τ o.1 ad) H1 locs1 → W p l e R s m args below meth c H1 locs1 0 0 Q (F0 m (pc + 3) ls (.int o.2 :: rest))) : W p l e R s m args below meth c H locs 0 0 Q (F0 m pc ls (.int x4 :: .int x3 :: .int x2 :: .int x1 :: .int x0 :: .ref (ad 58) :: rest)) :=
  cr_i w E.C (va_runV (As := [.int x0, .int x1, .int x2, .int x3, .int x4]) (rest := rest) E.fix (c_Pic_drawPlace l D τ B σ ad x0 x1 x2 x3 x4 o h H.size) (cwV 5 E.w (tw_pre (tw_good k1248) (l := [_, _, _, _]) (List.forall_mem_cons.mpr ⟨hlk, List.forall_mem_cons.mpr ⟨k1246, List.forall_mem_cons.mpr ⟨k1247, List.forall_mem_cons.mpr ⟨k4, fun _ h => absurd h List.not_mem_nil⟩⟩⟩⟩)) rfl rfl rfl (by decide +kernel) (E.rm hlev (by decide))) (wd_preV w E.C [.int x0, .int x1, .int x2, .int x3, .int x4] rcC_Pic rfl) rfl rfl hsz rfl (lv_room hr) hd ⟨Nat.zero_le _, Nat.zero_le _⟩) kk
