theorem d_Cmd_many_0 : decode prog_15_method_10_code 0 = .ok (.iload_n 0, 1) := by decide +kernel
theorem d_Cmd_many_1 : decode prog_15_method_10_code 1 = .ok (.tableswitch 123 2 25 #[121, 121, 111, 114, 123, 121, 121, 117, 121, 119, 121, 121, 121, 121, 121, 123, 123, 123, 123, 123, 123, 123, 117, 117], 111) := by decide +kernel
theorem d_Cmd_many_112 : decode prog_15_method_10_code 112 = .ok (.bipush 8, 2) := by decide +kernel
theorem d_Cmd_many_114 : decode prog_15_method_10_code 114 = .ok (.ireturn, 1) := by decide +kernel
theorem d_Cmd_many_115 : decode prog_15_method_10_code 115 = .ok (.bipush 32, 2) := by decide +kernel
theorem d_Cmd_many_117 : decode prog_15_method_10_code 117 = .ok (.ireturn, 1) := by decide +kernel
theorem d_Cmd_many_118 : decode prog_15_method_10_code 118 = .ok (.iconst 4, 1) := by decide +kernel
theorem d_Cmd_many_119 : decode prog_15_method_10_code 119 = .ok (.ireturn, 1) := by decide +kernel
theorem d_Cmd_many_120 : decode prog_15_method_10_code 120 = .ok (.iconst 2, 1) := by decide +kernel
theorem d_Cmd_many_121 : decode prog_15_method_10_code 121 = .ok (.ireturn, 1) := by decide +kernel
theorem d_Cmd_many_122 : decode prog_15_method_10_code 122 = .ok (.iconst 1, 1) := by decide +kernel
theorem d_Cmd_many_123 : decode prog_15_method_10_code 123 = .ok (.ireturn, 1) := by decide +kernel
theorem d_Cmd_many_124 : decode prog_15_method_10_code 124 = .ok (.iconst 0, 1) := by decide +kernel
theorem d_Cmd_many_125 : decode prog_15_method_10_code 125 = .ok (.ireturn, 1) := by decide +kernel
def F_Cmd_many_124  : Option (Int32) := some 0
set_option maxRecDepth 10000 in
set_option maxHeartbeats 4000000 in
theorem bt_Cmd_many_124 {p : Program} {l : Launch} {e : Env} {R : Room} {s : State} {m : MethodId} {args : Array Value} {below : List Frame} {meth : Method} {c : Code} {D : va_G} {τ : ClassId × ClassId × ClassId} {B : Nat} {A : Nat → Prop} {ad : Nat → Nat} {σ0 : Sg} (E : Cx p R s m args meth c prog_15_method_10_code 1 "DrawingMachineModel$DrawCommandsModel" 0 D τ B A) (hret : meth.sig.returnType = (some .int)) (o : Int32) (h : F_Cmd_many_124 = some o) {H : Heap} {locs : List Loc} {ls : Array Slot} (w : Wd s D A (wdM τ σ0 ad) H locs) (hl : lv_has ls 1 []) : W p l e R s m args below meth c H locs 0 0 (QI below args s A D τ (wdM τ σ0 ad) o) (F0 m 124 ls []) := by
  refine lv_iconst (v := 0) E.x E.b d_Cmd_many_124 (by decide) ?_
  obtain rfl := Option.some.inj h
  exact rt_i E w hret d_Cmd_many_125
def F_Cmd_many_122  : Option (Int32) := some 1
set_option maxRecDepth 10000 in
set_option maxHeartbeats 4000000 in
theorem bt_Cmd_many_122 {p : Program} {l : Launch} {e : Env} {R : Room} {s : State} {m : MethodId} {args : Array Value} {below : List Frame} {meth : Method} {c : Code} {D : va_G} {τ : ClassId × ClassId × ClassId} {B : Nat} {A : Nat → Prop} {ad : Nat → Nat} {σ0 : Sg} (E : Cx p R s m args meth c prog_15_method_10_code 1 "DrawingMachineModel$DrawCommandsModel" 0 D τ B A) (hret : meth.sig.returnType = (some .int)) (o : Int32) (h : F_Cmd_many_122 = some o) {H : Heap} {locs : List Loc} {ls : Array Slot} (w : Wd s D A (wdM τ σ0 ad) H locs) (hl : lv_has ls 1 []) : W p l e R s m args below meth c H locs 0 0 (QI below args s A D τ (wdM τ σ0 ad) o) (F0 m 122 ls []) := by
  refine lv_iconst (v := 1) E.x E.b d_Cmd_many_122 (by decide) ?_
  obtain rfl := Option.some.inj h
  exact rt_i E w hret d_Cmd_many_123
def F_Cmd_many_118  : Option (Int32) := some 4
set_option maxRecDepth 10000 in
set_option maxHeartbeats 4000000 in
theorem bt_Cmd_many_118 {p : Program} {l : Launch} {e : Env} {R : Room} {s : State} {m : MethodId} {args : Array Value} {below : List Frame} {meth : Method} {c : Code} {D : va_G} {τ : ClassId × ClassId × ClassId} {B : Nat} {A : Nat → Prop} {ad : Nat → Nat} {σ0 : Sg} (E : Cx p R s m args meth c prog_15_method_10_code 1 "DrawingMachineModel$DrawCommandsModel" 0 D τ B A) (hret : meth.sig.returnType = (some .int)) (o : Int32) (h : F_Cmd_many_118 = some o) {H : Heap} {locs : List Loc} {ls : Array Slot} (w : Wd s D A (wdM τ σ0 ad) H locs) (hl : lv_has ls 1 []) : W p l e R s m args below meth c H locs 0 0 (QI below args s A D τ (wdM τ σ0 ad) o) (F0 m 118 ls []) := by
  refine lv_iconst (v := 4) E.x E.b d_Cmd_many_118 (by decide) ?_
  obtain rfl := Option.some.inj h
  exact rt_i E w hret d_Cmd_many_119
def F_Cmd_many  (x0 : Int32) : Option (Int32) := if x0 = 2 then (F_Cmd_many_122) else (if x0 = 3 then (F_Cmd_many_122) else (if x0 = 4 then (some 8) else (if x0 = 5 then (some 32) else (if x0 = 6 then (F_Cmd_many_124) else (if x0 = 7 then (F_Cmd_many_122) else (if x0 = 8 then (F_Cmd_many_122) else (if x0 = 9 then (F_Cmd_many_118) else (if x0 = 10 then (F_Cmd_many_122) else (if x0 = 11 then (some 2) else (if x0 = 12 then (F_Cmd_many_122) else (if x0 = 13 then (F_Cmd_many_122) else (if x0 = 14 then (F_Cmd_many_122) else (if x0 = 15 then (F_Cmd_many_122) else (if x0 = 16 then (F_Cmd_many_122) else (if x0 = 17 then (F_Cmd_many_124) else (if x0 = 18 then (F_Cmd_many_124) else (if x0 = 19 then (F_Cmd_many_124) else (if x0 = 20 then (F_Cmd_many_124) else (if x0 = 21 then (F_Cmd_many_124) else (if x0 = 22 then (F_Cmd_many_124) else (if x0 = 23 then (F_Cmd_many_124) else (if x0 = 24 then (F_Cmd_many_118) else (if x0 = 25 then (F_Cmd_many_118) else (F_Cmd_many_124))))))))))))))))))))))))
set_option maxRecDepth 10000 in
set_option maxHeartbeats 4000000 in
theorem c_Cmd_many (l : Launch) (D : va_G) (τ : ClassId × ClassId × ClassId) (B : Nat) (σ0 : Sg) (ad : Nat → Nat) (x0 : Int32) (o : Int32) (h : F_Cmd_many x0 = some o) : MI l y_Cmd_many (Cond.code y_Cmd_many prog_15_method_10_code 1 (some .int)) 0 D τ B [.int x0] (wdM τ σ0 ad) (wdM τ σ0 ad) o := by
  refine en_i (by decide) (Nat.le_of_ble_eq_true rfl) ?_
  intro p e R s m args below meth c H locs ls A E hret w hl
  have E : Cx p R s m args meth c prog_15_method_10_code 1 "DrawingMachineModel$DrawCommandsModel" 0 D τ B A := E
  have hl : lv_has ls 1 [(0, .int x0)] := hl
  refine lv_iload_n E.x E.b d_Cmd_many_0 rfl (lv_at hl 0 rfl) ?_
  by_cases q25 : x0 = 2
  ·
    replace h := ifT q25 h
    refine wi_e (v := 2) q25 ?_
    refine lv_tableIn (off := 121) (tgt := 122) E.x E.b d_Cmd_many_1 (by decide) (by decide) (by decide) (by decide) ?_
    exact bt_Cmd_many_122 E hret o h w (lv_sub hl [] rfl)
  replace h := ifF q25 h
  replace q25 := ne_ti (k := 2) (by decide) q25
  by_cases q26 : x0 = 3
  ·
    replace h := ifT q26 h
    refine wi_e (v := 3) q26 ?_
    refine lv_tableIn (off := 121) (tgt := 122) E.x E.b d_Cmd_many_1 (by decide) (by decide) (by decide) (by decide) ?_
    exact bt_Cmd_many_122 E hret o h w (lv_sub hl [] rfl)
  replace h := ifF q26 h
  replace q26 := ne_ti (k := 3) (by decide) q26
  by_cases q27 : x0 = 4
  ·
    replace h := ifT q27 h
    refine wi_e (v := 4) q27 ?_
    refine lv_tableIn (off := 111) (tgt := 112) E.x E.b d_Cmd_many_1 (by decide) (by decide) (by decide) (by decide) ?_
    refine lv_bipush (v := 8) E.x E.b d_Cmd_many_112 (by decide) ?_
    obtain rfl := Option.some.inj h
    exact rt_i E w hret d_Cmd_many_114
  replace h := ifF q27 h
  replace q27 := ne_ti (k := 4) (by decide) q27
  by_cases q28 : x0 = 5
  ·
    replace h := ifT q28 h
    refine wi_e (v := 5) q28 ?_
    refine lv_tableIn (off := 114) (tgt := 115) E.x E.b d_Cmd_many_1 (by decide) (by decide) (by decide) (by decide) ?_
    refine lv_bipush (v := 32) E.x E.b d_Cmd_many_115 (by decide) ?_
    obtain rfl := Option.some.inj h
    exact rt_i E w hret d_Cmd_many_117
  replace h := ifF q28 h
  replace q28 := ne_ti (k := 5) (by decide) q28
  by_cases q29 : x0 = 6
  ·
    replace h := ifT q29 h
    refine wi_e (v := 6) q29 ?_
    refine lv_tableIn (off := 123) (tgt := 124) E.x E.b d_Cmd_many_1 (by decide) (by decide) (by decide) (by decide) ?_
    exact bt_Cmd_many_124 E hret o h w (lv_sub hl [] rfl)
  replace h := ifF q29 h
  replace q29 := ne_ti (k := 6) (by decide) q29
  by_cases q30 : x0 = 7
  ·
    replace h := ifT q30 h
    refine wi_e (v := 7) q30 ?_
    refine lv_tableIn (off := 121) (tgt := 122) E.x E.b d_Cmd_many_1 (by decide) (by decide) (by decide) (by decide) ?_
    exact bt_Cmd_many_122 E hret o h w (lv_sub hl [] rfl)
  replace h := ifF q30 h
  replace q30 := ne_ti (k := 7) (by decide) q30
  by_cases q31 : x0 = 8
  ·
    replace h := ifT q31 h
    refine wi_e (v := 8) q31 ?_
    refine lv_tableIn (off := 121) (tgt := 122) E.x E.b d_Cmd_many_1 (by decide) (by decide) (by decide) (by decide) ?_
    exact bt_Cmd_many_122 E hret o h w (lv_sub hl [] rfl)
  replace h := ifF q31 h
  replace q31 := ne_ti (k := 8) (by decide) q31
  by_cases q32 : x0 = 9
  ·
    replace h := ifT q32 h
    refine wi_e (v := 9) q32 ?_
    refine lv_tableIn (off := 117) (tgt := 118) E.x E.b d_Cmd_many_1 (by decide) (by decide) (by decide) (by decide) ?_
    exact bt_Cmd_many_118 E hret o h w (lv_sub hl [] rfl)
  replace h := ifF q32 h
  replace q32 := ne_ti (k := 9) (by decide) q32
  by_cases q33 : x0 = 10
  ·
    replace h := ifT q33 h
    refine wi_e (v := 10) q33 ?_
    refine lv_tableIn (off := 121) (tgt := 122) E.x E.b d_Cmd_many_1 (by decide) (by decide) (by decide) (by decide) ?_
    exact bt_Cmd_many_122 E hret o h w (lv_sub hl [] rfl)
  replace h := ifF q33 h
  replace q33 := ne_ti (k := 10) (by decide) q33
  by_cases q34 : x0 = 11
  ·
    replace h := ifT q34 h
    refine wi_e (v := 11) q34 ?_
    refine lv_tableIn (off := 119) (tgt := 120) E.x E.b d_Cmd_many_1 (by decide) (by decide) (by decide) (by decide) ?_
    refine lv_iconst (v := 2) E.x E.b d_Cmd_many_120 (by decide) ?_
    obtain rfl := Option.some.inj h
    exact rt_i E w hret d_Cmd_many_121
  replace h := ifF q34 h
  replace q34 := ne_ti (k := 11) (by decide) q34
  by_cases q35 : x0 = 12
  ·
    replace h := ifT q35 h
    refine wi_e (v := 12) q35 ?_
    refine lv_tableIn (off := 121) (tgt := 122) E.x E.b d_Cmd_many_1 (by decide) (by decide) (by decide) (by decide) ?_
    exact bt_Cmd_many_122 E hret o h w (lv_sub hl [] rfl)
  replace h := ifF q35 h
  replace q35 := ne_ti (k := 12) (by decide) q35
  by_cases q36 : x0 = 13
  ·
    replace h := ifT q36 h
    refine wi_e (v := 13) q36 ?_
    refine lv_tableIn (off := 121) (tgt := 122) E.x E.b d_Cmd_many_1 (by decide) (by decide) (by decide) (by decide) ?_
    exact bt_Cmd_many_122 E hret o h w (lv_sub hl [] rfl)
  replace h := ifF q36 h
  replace q36 := ne_ti (k := 13) (by decide) q36
  by_cases q37 : x0 = 14
  ·
    replace h := ifT q37 h
    refine wi_e (v := 14) q37 ?_
    refine lv_tableIn (off := 121) (tgt := 122) E.x E.b d_Cmd_many_1 (by decide) (by decide) (by decide) (by decide) ?_
    exact bt_Cmd_many_122 E hret o h w (lv_sub hl [] rfl)
  replace h := ifF q37 h
  replace q37 := ne_ti (k := 14) (by decide) q37
  by_cases q38 : x0 = 15
  ·
    replace h := ifT q38 h
    refine wi_e (v := 15) q38 ?_
    refine lv_tableIn (off := 121) (tgt := 122) E.x E.b d_Cmd_many_1 (by decide) (by decide) (by decide) (by decide) ?_
    exact bt_Cmd_many_122 E hret o h w (lv_sub hl [] rfl)
  replace h := ifF q38 h
  replace q38 := ne_ti (k := 15) (by decide) q38
  by_cases q39 : x0 = 16
  ·
    replace h := ifT q39 h
    refine wi_e (v := 16) q39 ?_
    refine lv_tableIn (off := 121) (tgt := 122) E.x E.b d_Cmd_many_1 (by decide) (by decide) (by decide) (by decide) ?_
    exact bt_Cmd_many_122 E hret o h w (lv_sub hl [] rfl)
  replace h := ifF q39 h
  replace q39 := ne_ti (k := 16) (by decide) q39
  by_cases q40 : x0 = 17
  ·
    replace h := ifT q40 h
    refine wi_e (v := 17) q40 ?_
    refine lv_tableIn (off := 123) (tgt := 124) E.x E.b d_Cmd_many_1 (by decide) (by decide) (by decide) (by decide) ?_
    exact bt_Cmd_many_124 E hret o h w (lv_sub hl [] rfl)
  replace h := ifF q40 h
  replace q40 := ne_ti (k := 17) (by decide) q40
  by_cases q41 : x0 = 18
  ·
    replace h := ifT q41 h
    refine wi_e (v := 18) q41 ?_
    refine lv_tableIn (off := 123) (tgt := 124) E.x E.b d_Cmd_many_1 (by decide) (by decide) (by decide) (by decide) ?_
    exact bt_Cmd_many_124 E hret o h w (lv_sub hl [] rfl)
  replace h := ifF q41 h
  replace q41 := ne_ti (k := 18) (by decide) q41
  by_cases q42 : x0 = 19
  ·
    replace h := ifT q42 h
    refine wi_e (v := 19) q42 ?_
    refine lv_tableIn (off := 123) (tgt := 124) E.x E.b d_Cmd_many_1 (by decide) (by decide) (by decide) (by decide) ?_
    exact bt_Cmd_many_124 E hret o h w (lv_sub hl [] rfl)
  replace h := ifF q42 h
  replace q42 := ne_ti (k := 19) (by decide) q42
  by_cases q43 : x0 = 20
  ·
    replace h := ifT q43 h
    refine wi_e (v := 20) q43 ?_
    refine lv_tableIn (off := 123) (tgt := 124) E.x E.b d_Cmd_many_1 (by decide) (by decide) (by decide) (by decide) ?_
    exact bt_Cmd_many_124 E hret o h w (lv_sub hl [] rfl)
  replace h := ifF q43 h
  replace q43 := ne_ti (k := 20) (by decide) q43
  by_cases q44 : x0 = 21
  ·
    replace h := ifT q44 h
    refine wi_e (v := 21) q44 ?_
    refine lv_tableIn (off := 123) (tgt := 124) E.x E.b d_Cmd_many_1 (by decide) (by decide) (by decide) (by decide) ?_
    exact bt_Cmd_many_124 E hret o h w (lv_sub hl [] rfl)
  replace h := ifF q44 h
  replace q44 := ne_ti (k := 21) (by decide) q44
  by_cases q45 : x0 = 22
  ·
    replace h := ifT q45 h
    refine wi_e (v := 22) q45 ?_
    refine lv_tableIn (off := 123) (tgt := 124) E.x E.b d_Cmd_many_1 (by decide) (by decide) (by decide) (by decide) ?_
    exact bt_Cmd_many_124 E hret o h w (lv_sub hl [] rfl)
  replace h := ifF q45 h
  replace q45 := ne_ti (k := 22) (by decide) q45
  by_cases q46 : x0 = 23
  ·
    replace h := ifT q46 h
    refine wi_e (v := 23) q46 ?_
    refine lv_tableIn (off := 123) (tgt := 124) E.x E.b d_Cmd_many_1 (by decide) (by decide) (by decide) (by decide) ?_
    exact bt_Cmd_many_124 E hret o h w (lv_sub hl [] rfl)
  replace h := ifF q46 h
  replace q46 := ne_ti (k := 23) (by decide) q46
  by_cases q47 : x0 = 24
  ·
    replace h := ifT q47 h
    refine wi_e (v := 24) q47 ?_
    refine lv_tableIn (off := 117) (tgt := 118) E.x E.b d_Cmd_many_1 (by decide) (by decide) (by decide) (by decide) ?_
    exact bt_Cmd_many_118 E hret o h w (lv_sub hl [] rfl)
  replace h := ifF q47 h
  replace q47 := ne_ti (k := 24) (by decide) q47
  by_cases q48 : x0 = 25
  ·
    replace h := ifT q48 h
    refine wi_e (v := 25) q48 ?_
    refine lv_tableIn (off := 117) (tgt := 118) E.x E.b d_Cmd_many_1 (by decide) (by decide) (by decide) (by decide) ?_
    exact bt_Cmd_many_118 E hret o h w (lv_sub hl [] rfl)
  replace h := ifF q48 h
  replace q48 := ne_ti (k := 25) (by decide) q48
  refine lv_tableOut (tgt := 124) E.x E.b d_Cmd_many_1 (by omega) (by decide) ?_
  exact bt_Cmd_many_124 E hret o h w (lv_sub hl [] rfl)
theorem clS_Cmd_many {p : Program} {l : Launch} {e : Env} {R : Room} {s : State} {m : MethodId} {args : Array Value} {below : List Frame} {meth : Method} {c : Code} {H : Heap} {locs : List Loc} {Q : State → Prop} {cc : ByteArray} {nL pc lev : Nat} {own : String} {D : va_G} {τ : ClassId × ClassId × ClassId} {B : Nat} {A : Nat → Prop} {σ : Sg} {ad : Nat → Nat} {ls : Array Slot} {rest : List Value} (E : Cx p R s m args meth c cc nL own lev D τ B A) (w : Wd s D A (wdM τ σ ad) H locs) {x0 : Int32} {o : Int32} (h : F_Cmd_many x0 = some o) {index : Nat} (hlk : Cond.methodLink own index y_Cmd_many ∈ tw) (hlev : 0 < lev) (hsz : ls.size = nL) (hr : (rest.map fun v => v.category).sum ≤ 8) (hd : decode cc pc = .ok (.invokestatic index, 3)) (kk : ∀ (H1 : Heap) (locs1 : List Loc), Wd s D A (wdM τ σ ad) H1 locs1 → W p l e R s m args below meth c H1 locs1 0 0 Q (F0 m (pc + 3) ls (.int o :: rest))) : W p l e R s m args below meth c H locs 0 0 Q (F0 m pc ls (.int x0 :: rest)) :=
  cr_i w E.C (va_runS (As := [.int x0]) (rest := rest) E.fix (c_Cmd_many l D τ B σ ad x0 o h H.size) (va_cwS 1 E.w (tw_pre (tw_good k1435) (l := [_, _, _]) (List.forall_mem_cons.mpr ⟨hlk, List.forall_mem_cons.mpr ⟨k1434, List.forall_mem_cons.mpr ⟨k15, fun _ h => absurd h List.not_mem_nil⟩⟩⟩)) rfl rfl rfl (by decide +kernel) (E.rm hlev (by decide))) (wd_pre w E.C [.int x0]) rfl rfl hsz rfl (lv_room hr) hd ⟨Nat.zero_le _, Nat.zero_le _⟩) kk

theorem d_Cmd_count_0 : decode prog_15_method_4_code 0 = .ok (.iload_n 0, 1) := by decide +kernel
theorem d_Cmd_count_1 : decode prog_15_method_4_code 1 = .ok (.tableswitch 134 0 25 #[119, 127, 134, 127, 129, 129, 125, 123, 123, 134, 123, 131, 134, 121, 121, 121, 123, 125, 129, 123, 134, 123, 119, 121, 127, 129], 119) := by decide +kernel
theorem d_Cmd_count_120 : decode prog_15_method_4_code 120 = .ok (.iconst 0, 1) := by decide +kernel
theorem d_Cmd_count_121 : decode prog_15_method_4_code 121 = .ok (.ireturn, 1) := by decide +kernel
theorem d_Cmd_count_122 : decode prog_15_method_4_code 122 = .ok (.iconst 1, 1) := by decide +kernel
theorem d_Cmd_count_123 : decode prog_15_method_4_code 123 = .ok (.ireturn, 1) := by decide +kernel
theorem d_Cmd_count_124 : decode prog_15_method_4_code 124 = .ok (.iconst 2, 1) := by decide +kernel
theorem d_Cmd_count_125 : decode prog_15_method_4_code 125 = .ok (.ireturn, 1) := by decide +kernel
theorem d_Cmd_count_126 : decode prog_15_method_4_code 126 = .ok (.iconst 3, 1) := by decide +kernel
theorem d_Cmd_count_127 : decode prog_15_method_4_code 127 = .ok (.ireturn, 1) := by decide +kernel
theorem d_Cmd_count_128 : decode prog_15_method_4_code 128 = .ok (.iconst 4, 1) := by decide +kernel
theorem d_Cmd_count_129 : decode prog_15_method_4_code 129 = .ok (.ireturn, 1) := by decide +kernel
theorem d_Cmd_count_130 : decode prog_15_method_4_code 130 = .ok (.iconst 5, 1) := by decide +kernel
theorem d_Cmd_count_131 : decode prog_15_method_4_code 131 = .ok (.ireturn, 1) := by decide +kernel
theorem d_Cmd_count_132 : decode prog_15_method_4_code 132 = .ok (.bipush 8, 2) := by decide +kernel
theorem d_Cmd_count_134 : decode prog_15_method_4_code 134 = .ok (.ireturn, 1) := by decide +kernel
theorem d_Cmd_count_135 : decode prog_15_method_4_code 135 = .ok (.bipush 6, 2) := by decide +kernel
theorem d_Cmd_count_137 : decode prog_15_method_4_code 137 = .ok (.ireturn, 1) := by decide +kernel
def F_Cmd_count_135  : Option (Int32) := some 6
set_option maxRecDepth 10000 in
set_option maxHeartbeats 4000000 in
theorem bt_Cmd_count_135 {p : Program} {l : Launch} {e : Env} {R : Room} {s : State} {m : MethodId} {args : Array Value} {below : List Frame} {meth : Method} {c : Code} {D : va_G} {τ : ClassId × ClassId × ClassId} {B : Nat} {A : Nat → Prop} {ad : Nat → Nat} {σ0 : Sg} (E : Cx p R s m args meth c prog_15_method_4_code 1 "DrawingMachineModel$DrawCommandsModel" 0 D τ B A) (hret : meth.sig.returnType = (some .int)) (o : Int32) (h : F_Cmd_count_135 = some o) {H : Heap} {locs : List Loc} {ls : Array Slot} (w : Wd s D A (wdM τ σ0 ad) H locs) (hl : lv_has ls 1 []) : W p l e R s m args below meth c H locs 0 0 (QI below args s A D τ (wdM τ σ0 ad) o) (F0 m 135 ls []) := by
  refine lv_bipush (v := 6) E.x E.b d_Cmd_count_135 (by decide) ?_
  obtain rfl := Option.some.inj h
  exact rt_i E w hret d_Cmd_count_137
def F_Cmd_count_130  : Option (Int32) := some 5
set_option maxRecDepth 10000 in
set_option maxHeartbeats 4000000 in
theorem bt_Cmd_count_130 {p : Program} {l : Launch} {e : Env} {R : Room} {s : State} {m : MethodId} {args : Array Value} {below : List Frame} {meth : Method} {c : Code} {D : va_G} {τ : ClassId × ClassId × ClassId} {B : Nat} {A : Nat → Prop} {ad : Nat → Nat} {σ0 : Sg} (E : Cx p R s m args meth c prog_15_method_4_code 1 "DrawingMachineModel$DrawCommandsModel" 0 D τ B A) (hret : meth.sig.returnType = (some .int)) (o : Int32) (h : F_Cmd_count_130 = some o) {H : Heap} {locs : List Loc} {ls : Array Slot} (w : Wd s D A (wdM τ σ0 ad) H locs) (hl : lv_has ls 1 []) : W p l e R s m args below meth c H locs 0 0 (QI below args s A D τ (wdM τ σ0 ad) o) (F0 m 130 ls []) := by
  refine lv_iconst (v := 5) E.x E.b d_Cmd_count_130 (by decide) ?_
  obtain rfl := Option.some.inj h
  exact rt_i E w hret d_Cmd_count_131
def F_Cmd_count_128  : Option (Int32) := some 4
set_option maxRecDepth 10000 in
set_option maxHeartbeats 4000000 in
theorem bt_Cmd_count_128 {p : Program} {l : Launch} {e : Env} {R : Room} {s : State} {m : MethodId} {args : Array Value} {below : List Frame} {meth : Method} {c : Code} {D : va_G} {τ : ClassId × ClassId × ClassId} {B : Nat} {A : Nat → Prop} {ad : Nat → Nat} {σ0 : Sg} (E : Cx p R s m args meth c prog_15_method_4_code 1 "DrawingMachineModel$DrawCommandsModel" 0 D τ B A) (hret : meth.sig.returnType = (some .int)) (o : Int32) (h : F_Cmd_count_128 = some o) {H : Heap} {locs : List Loc} {ls : Array Slot} (w : Wd s D A (wdM τ σ0 ad) H locs) (hl : lv_has ls 1 []) : W p l e R s m args below meth c H locs 0 0 (QI below args s A D τ (wdM τ σ0 ad) o) (F0 m 128 ls []) := by
  refine lv_iconst (v := 4) E.x E.b d_Cmd_count_128 (by decide) ?_
  obtain rfl := Option.some.inj h
  exact rt_i E w hret d_Cmd_count_129
def F_Cmd_count_126  : Option (Int32) := some 3
set_option maxRecDepth 10000 in
set_option maxHeartbeats 4000000 in
theorem bt_Cmd_count_126 {p : Program} {l : Launch} {e : Env} {R : Room} {s : State} {m : MethodId} {args : Array Value} {below : List Frame} {meth : Method} {c : Code} {D : va_G} {τ : ClassId × ClassId × ClassId} {B : Nat} {A : Nat → Prop} {ad : Nat → Nat} {σ0 : Sg} (E : Cx p R s m args meth c prog_15_method_4_code 1 "DrawingMachineModel$DrawCommandsModel" 0 D τ B A) (hret : meth.sig.returnType = (some .int)) (o : Int32) (h : F_Cmd_count_126 = some o) {H : Heap} {locs : List Loc} {ls : Array Slot} (w : Wd s D A (wdM τ σ0 ad) H locs) (hl : lv_has ls 1 []) : W p l e R s m args below meth c H locs 0 0 (QI below args s A D τ (wdM τ σ0 ad) o) (F0 m 126 ls []) := by
  refine lv_iconst (v := 3) E.x E.b d_Cmd_count_126 (by decide) ?_
  obtain rfl := Option.some.inj h
  exact rt_i E w hret d_Cmd_count_127
def F_Cmd_count_124  : Option (Int32) := some 2
set_option maxRecDepth 10000 in
set_option maxHeartbeats 4000000 in
theorem bt_Cmd_count_124 {p : Program} {l : Launch} {e : Env} {R : Room} {s : State} {m : MethodId} {args : Array Value} {below : List Frame} {meth : Method} {c : Code} {D : va_G} {τ : ClassId × ClassId × ClassId} {B : Nat} {A : Nat → Prop} {ad : Nat → Nat} {σ0 : Sg} (E : Cx p R s m args meth c prog_15_method_4_code 1 "DrawingMachineModel$DrawCommandsModel" 0 D τ B A) (hret : meth.sig.returnType = (some .int)) (o : Int32) (h : F_Cmd_count_124 = some o) {H : Heap} {locs : List Loc} {ls : Array Slot} (w : Wd s D A (wdM τ σ0 ad) H locs) (hl : lv_has ls 1 []) : W p l e R s m args below meth c H locs 0 0 (QI below args s A D τ (wdM τ σ0 ad) o) (F0 m 124 ls []) := by
  refine lv_iconst (v := 2) E.x E.b d_Cmd_count_124 (by decide) ?_
  obtain rfl := Option.some.inj h
  exact rt_i E w hret d_Cmd_count_125
def F_Cmd_count_122  : Option (Int32) := some 1
set_option maxRecDepth 10000 in
set_option maxHeartbeats 4000000 in
theorem bt_Cmd_count_122 {p : Program} {l : Launch} {e : Env} {R : Room} {s : State} {m : MethodId} {args : Array Value} {below : List Frame} {meth : Method} {c : Code} {D : va_G} {τ : ClassId × ClassId × ClassId} {B : Nat} {A : Nat → Prop} {ad : Nat → Nat} {σ0 : Sg} (E : Cx p R s m args meth c prog_15_method_4_code 1 "DrawingMachineModel$DrawCommandsModel" 0 D τ B A) (hret : meth.sig.returnType = (some .int)) (o : Int32) (h : F_Cmd_count_122 = some o) {H : Heap} {locs : List Loc} {ls : Array Slot} (w : Wd s D A (wdM τ σ0 ad) H locs) (hl : lv_has ls 1 []) : W p l e R s m args below meth c H locs 0 0 (QI below args s A D τ (wdM τ σ0 ad) o) (F0 m 122 ls []) := by
  refine lv_iconst (v := 1) E.x E.b d_Cmd_count_122 (by decide) ?_
  obtain rfl := Option.some.inj h
  exact rt_i E w hret d_Cmd_count_123
def F_Cmd_count_120  : Option (Int32) := some 0
set_option maxRecDepth 10000 in
set_option maxHeartbeats 4000000 in
theorem bt_Cmd_count_120 {p : Program} {l : Launch} {e : Env} {R : Room} {s : State} {m : MethodId} {args : Array Value} {below : List Frame} {meth : Method} {c : Code} {D : va_G} {τ : ClassId × ClassId × ClassId} {B : Nat} {A : Nat → Prop} {ad : Nat → Nat} {σ0 : Sg} (E : Cx p R s m args meth c prog_15_method_4_code 1 "DrawingMachineModel$DrawCommandsModel" 0 D τ B A) (hret : meth.sig.returnType = (some .int)) (o : Int32) (h : F_Cmd_count_120 = some o) {H : Heap} {locs : List Loc} {ls : Array Slot} (w : Wd s D A (wdM τ σ0 ad) H locs) (hl : lv_has ls 1 []) : W p l e R s m args below meth c H locs 0 0 (QI below args s A D τ (wdM τ σ0 ad) o) (F0 m 120 ls []) := by
  refine lv_iconst (v := 0) E.x E.b d_Cmd_count_120 (by decide) ?_
  obtain rfl := Option.some.inj h
  exact rt_i E w hret d_Cmd_count_121
def F_Cmd_count  (x0 : Int32) : Option (Int32) := if x0 = 0 then (F_Cmd_count_120) else (if x0 = 1 then (F_Cmd_count_128) else (if x0 = 2 then (F_Cmd_count_135) else (if x0 = 3 then (F_Cmd_count_128) else (if x0 = 4 then (F_Cmd_count_130) else (if x0 = 5 then (F_Cmd_count_130) else (if x0 = 6 then (F_Cmd_count_126) else (if x0 = 7 then (F_Cmd_count_124) else (if x0 = 8 then (F_Cmd_count_124) else (if x0 = 9 then (F_Cmd_count_135) else (if x0 = 10 then (F_Cmd_count_124) else (if x0 = 11 then (some 8) else (if x0 = 12 then (F_Cmd_count_135) else (if x0 = 13 then (F_Cmd_count_122) else (if x0 = 14 then (F_Cmd_count_122) else (if x0 = 15 then (F_Cmd_count_122) else (if x0 = 16 then (F_Cmd_count_124) else (if x0 = 17 then (F_Cmd_count_126) else (if x0 = 18 then (F_Cmd_count_130) else (if x0 = 19 then (F_Cmd_count_124) else (if x0 = 20 then (F_Cmd_count_135) else (if x0 = 21 then (F_Cmd_count_124) else (if x0 = 22 then (F_Cmd_count_120) else (if x0 = 23 then (F_Cmd_count_122) else (if x0 = 24 then (F_Cmd_count_128) else (if x0 = 25 then (F_Cmd_count_130) else (F_Cmd_count_135))))))))))))))))))))))))))
set_option maxRecDepth 10000 in
set_option maxHeartbeats 4000000 in
theorem c_Cmd_count (l : Launch) (D : va_G) (τ : ClassId × ClassId × ClassId) (B : Nat) (σ0 : Sg) (ad : Nat → Nat) (x0 : Int32) (o : Int32) (h : F_Cmd_count x0 = some o) : MI l y_Cmd_count (Cond.code y_Cmd_count prog_15_method_4_code 1 (some .int)) 0 D τ B [.int x0] (wdM τ σ0 ad) (wdM τ σ0 ad) o := by
  refine en_i (by decide) (Nat.le_of_ble_eq_true rfl) ?_
  intro p e R s m args below meth c H locs ls A E hret w hl
  have E : Cx p R s m args meth c prog_15_method_4_code 1 "DrawingMachineModel$DrawCommandsModel" 0 D τ B A := E
  have hl : lv_has ls 1 [(0, .int x0)] := hl
  refine lv_iload_n E.x E.b d_Cmd_count_0 rfl (lv_at hl 0 rfl) ?_
  by_cases q27 : x0 = 0
  ·
    replace h := ifT q27 h
    refine wi_e (v := 0) q27 ?_
    refine lv_tableIn (off := 119) (tgt := 120) E.x E.b d_Cmd_count_1 (by decide) (by decide) (by decide) (by decide) ?_
    exact bt_Cmd_count_120 E hret o h w (lv_sub hl [] rfl)
  replace h := ifF q27 h
  replace q27 := ne_ti (k := 0) (by decide) q27
  by_cases q28 : x0 = 1
  ·
    replace h := ifT q28 h
    refine wi_e (v := 1) q28 ?_
    refine lv_tableIn (off := 127) (tgt := 128) E.x E.b d_Cmd_count_1 (by decide) (by decide) (by decide) (by decide) ?_
    exact bt_Cmd_count_128 E hret o h w (lv_sub hl [] rfl)
  replace h := ifF q28 h
  replace q28 := ne_ti (k := 1) (by decide) q28
  by_cases q29 : x0 = 2
  ·
    replace h := ifT q29 h
    refine wi_e (v := 2) q29 ?_
    refine lv_tableIn (off := 134) (tgt := 135) E.x E.b d_Cmd_count_1 (by decide) (by decide) (by decide) (by decide) ?_
    exact bt_Cmd_count_135 E hret o h w (lv_sub hl [] rfl)
  replace h := ifF q29 h
  replace q29 := ne_ti (k := 2) (by decide) q29
  by_cases q30 : x0 = 3
  ·
    replace h := ifT q30 h
    refine wi_e (v := 3) q30 ?_
    refine lv_tableIn (off := 127) (tgt := 128) E.x E.b d_Cmd_count_1 (by decide) (by decide) (by decide) (by decide) ?_
    exact bt_Cmd_count_128 E hret o h w (lv_sub hl [] rfl)
  replace h := ifF q30 h
  replace q30 := ne_ti (k := 3) (by decide) q30
  by_cases q31 : x0 = 4
  ·
    replace h := ifT q31 h
    refine wi_e (v := 4) q31 ?_
    refine lv_tableIn (off := 129) (tgt := 130) E.x E.b d_Cmd_count_1 (by decide) (by decide) (by decide) (by decide) ?_
    exact bt_Cmd_count_130 E hret o h w (lv_sub hl [] rfl)
  replace h := ifF q31 h
  replace q31 := ne_ti (k := 4) (by decide) q31
  by_cases q32 : x0 = 5
  ·
    replace h := ifT q32 h
    refine wi_e (v := 5) q32 ?_
    refine lv_tableIn (off := 129) (tgt := 130) E.x E.b d_Cmd_count_1 (by decide) (by decide) (by decide) (by decide) ?_
    exact bt_Cmd_count_130 E hret o h w (lv_sub hl [] rfl)
  replace h := ifF q32 h
  replace q32 := ne_ti (k := 5) (by decide) q32
  by_cases q33 : x0 = 6
  ·
    replace h := ifT q33 h
    refine wi_e (v := 6) q33 ?_
    refine lv_tableIn (off := 125) (tgt := 126) E.x E.b d_Cmd_count_1 (by decide) (by decide) (by decide) (by decide) ?_
    exact bt_Cmd_count_126 E hret o h w (lv_sub hl [] rfl)
  replace h := ifF q33 h
  replace q33 := ne_ti (k := 6) (by decide) q33
  by_cases q34 : x0 = 7
  ·
    replace h := ifT q34 h
    refine wi_e (v := 7) q34 ?_
    refine lv_tableIn (off := 123) (tgt := 124) E.x E.b d_Cmd_count_1 (by decide) (by decide) (by decide) (by decide) ?_
    exact bt_Cmd_count_124 E hret o h w (lv_sub hl [] rfl)
  replace h := ifF q34 h
  replace q34 := ne_ti (k := 7) (by decide) q34
  by_cases q35 : x0 = 8
  ·
    replace h := ifT q35 h
    refine wi_e (v := 8) q35 ?_
    refine lv_tableIn (off := 123) (tgt := 124) E.x E.b d_Cmd_count_1 (by decide) (by decide) (by decide) (by decide) ?_
    exact bt_Cmd_count_124 E hret o h w (lv_sub hl [] rfl)
  replace h := ifF q35 h
  replace q35 := ne_ti (k := 8) (by decide) q35
  by_cases q36 : x0 = 9
  ·
    replace h := ifT q36 h
    refine wi_e (v := 9) q36 ?_
    refine lv_tableIn (off := 134) (tgt := 135) E.x E.b d_Cmd_count_1 (by decide) (by decide) (by decide) (by decide) ?_
    exact bt_Cmd_count_135 E hret o h w (lv_sub hl [] rfl)
  replace h := ifF q36 h
  replace q36 := ne_ti (k := 9) (by decide) q36
  by_cases q37 : x0 = 10
  ·
    replace h := ifT q37 h
    refine wi_e (v := 10) q37 ?_
    refine lv_tableIn (off := 123) (tgt := 124) E.x E.b d_Cmd_count_1 (by decide) (by decide) (by decide) (by decide) ?_
    exact bt_Cmd_count_124 E hret o h w (lv_sub hl [] rfl)
  replace h := ifF q37 h
  replace q37 := ne_ti (k := 10) (by decide) q37
  by_cases q38 : x0 = 11
  ·
    replace h := ifT q38 h
    refine wi_e (v := 11) q38 ?_
    refine lv_tableIn (off := 131) (tgt := 132) E.x E.b d_Cmd_count_1 (by decide) (by decide) (by decide) (by decide) ?_
    refine lv_bipush (v := 8) E.x E.b d_Cmd_count_132 (by decide) ?_
    obtain rfl := Option.some.inj h
    exact rt_i E w hret d_Cmd_count_134
  replace h := ifF q38 h
  replace q38 := ne_ti (k := 11) (by decide) q38
  by_cases q39 : x0 = 12
  ·
    replace h := ifT q39 h
    refine wi_e (v := 12) q39 ?_
    refine lv_tableIn (off := 134) (tgt := 135) E.x E.b d_Cmd_count_1 (by decide) (by decide) (by decide) (by decide) ?_
    exact bt_Cmd_count_135 E hret o h w (lv_sub hl [] rfl)
  replace h := ifF q39 h
  replace q39 := ne_ti (k := 12) (by decide) q39
  by_cases q40 : x0 = 13
  ·
    replace h := ifT q40 h
    refine wi_e (v := 13) q40 ?_
    refine lv_tableIn (off := 121) (tgt := 122) E.x E.b d_Cmd_count_1 (by decide) (by decide) (by decide) (by decide) ?_
    exact bt_Cmd_count_122 E hret o h w (lv_sub hl [] rfl)
  replace h := ifF q40 h
  replace q40 := ne_ti (k := 13) (by decide) q40
  by_cases q41 : x0 = 14
  ·
    replace h := ifT q41 h
    refine wi_e (v := 14) q41 ?_
    refine lv_tableIn (off := 121) (tgt := 122) E.x E.b d_Cmd_count_1 (by decide) (by decide) (by decide) (by decide) ?_
    exact bt_Cmd_count_122 E hret o h w (lv_sub hl [] rfl)
  replace h := ifF q41 h
  replace q41 := ne_ti (k := 14) (by decide) q41
  by_cases q42 : x0 = 15
  ·
    replace h := ifT q42 h
    refine wi_e (v := 15) q42 ?_
    refine lv_tableIn (off := 121) (tgt := 122) E.x E.b d_Cmd_count_1 (by decide) (by decide) (by decide) (by decide) ?_
    exact bt_Cmd_count_122 E hret o h w (lv_sub hl [] rfl)
  replace h := ifF q42 h
  replace q42 := ne_ti (k := 15) (by decide) q42
  by_cases q43 : x0 = 16
  ·
    replace h := ifT q43 h
    refine wi_e (v := 16) q43 ?_
    refine lv_tableIn (off := 123) (tgt := 124) E.x E.b d_Cmd_count_1 (by decide) (by decide) (by decide) (by decide) ?_
    exact bt_Cmd_count_124 E hret o h w (lv_sub hl [] rfl)
  replace h := ifF q43 h
  replace q43 := ne_ti (k := 16) (by decide) q43
  by_cases q44 : x0 = 17
  ·
    replace h := ifT q44 h
    refine wi_e (v := 17) q44 ?_
    refine lv_tableIn (off := 125) (tgt := 126) E.x E.b d_Cmd_count_1 (by decide) (by decide) (by decide) (by decide) ?_
    exact bt_Cmd_count_126 E hret o h w (lv_sub hl [] rfl)
  replace h := ifF q44 h
  replace q44 := ne_ti (k := 17) (by decide) q44
  by_cases q45 : x0 = 18
  ·
    replace h := ifT q45 h
    refine wi_e (v := 18) q45 ?_
    refine lv_tableIn (off := 129) (tgt := 130) E.x E.b d_Cmd_count_1 (by decide) (by decide) (by decide) (by decide) ?_
    exact bt_Cmd_count_130 E hret o h w (lv_sub hl [] rfl)
  replace h := ifF q45 h
  replace q45 := ne_ti (k := 18) (by decide) q45
  by_cases q46 : x0 = 19
  ·
    replace h := ifT q46 h
    refine wi_e (v := 19) q46 ?_
    refine lv_tableIn (off := 123) (tgt := 124) E.x E.b d_Cmd_count_1 (by decide) (by decide) (by decide) (by decide) ?_
    exact bt_Cmd_count_124 E hret o h w (lv_sub hl [] rfl)
  replace h := ifF q46 h
  replace q46 := ne_ti (k := 19) (by decide) q46
  by_cases q47 : x0 = 20
  ·
    replace h := ifT q47 h
    refine wi_e (v := 20) q47 ?_
    refine lv_tableIn (off := 134) (tgt := 135) E.x E.b d_Cmd_count_1 (by decide) (by decide) (by decide) (by decide) ?_
    exact bt_Cmd_count_135 E hret o h w (lv_sub hl [] rfl)
  replace h := ifF q47 h
  replace q47 := ne_ti (k := 20) (by decide) q47
  by_cases q48 : x0 = 21
  ·
    replace h := ifT q48 h
    refine wi_e (v := 21) q48 ?_
    refine lv_tableIn (off := 123) (tgt := 124) E.x E.b d_Cmd_count_1 (by decide) (by decide) (by decide) (by decide) ?_
    exact bt_Cmd_count_124 E hret o h w (lv_sub hl [] rfl)
  replace h := ifF q48 h
  replace q48 := ne_ti (k := 21) (by decide) q48
  by_cases q49 : x0 = 22
  ·
    replace h := ifT q49 h
    refine wi_e (v := 22) q49 ?_
    refine lv_tableIn (off := 119) (tgt := 120) E.x E.b d_Cmd_count_1 (by decide) (by decide) (by decide) (by decide) ?_
    exact bt_Cmd_count_120 E hret o h w (lv_sub hl [] rfl)
  replace h := ifF q49 h
  replace q49 := ne_ti (k := 22) (by decide) q49
  by_cases q50 : x0 = 23
  ·
    replace h := ifT q50 h
    refine wi_e (v := 23) q50 ?_
    refine lv_tableIn (off := 121) (tgt := 122) E.x E.b d_Cmd_count_1 (by decide) (by decide) (by decide) (by decide) ?_
    exact bt_Cmd_count_122 E hret o h w (lv_sub hl [] rfl)
  replace h := ifF q50 h
  replace q50 := ne_ti (k := 23) (by decide) q50
  by_cases q51 : x0 = 24
  ·
    replace h := ifT q51 h
    refine wi_e (v := 24) q51 ?_
    refine lv_tableIn (off := 127) (tgt := 128) E.x E.b d_Cmd_count_1 (by decide) (by decide) (by decide) (by decide) ?_
    exact bt_Cmd_count_128 E hret o h w (lv_sub hl [] rfl)
  replace h := ifF q51 h
  replace q51 := ne_ti (k := 24) (by decide) q51
  by_cases q52 : x0 = 25
  ·
    replace h := ifT q52 h
    refine wi_e (v := 25) q52 ?_
    refine lv_tableIn (off := 129) (tgt := 130) E.x E.b d_Cmd_count_1 (by decide) (by decide) (by decide) (by decide) ?_
    exact bt_Cmd_count_130 E hret o h w (lv_sub hl [] rfl)
  replace h := ifF q52 h
  replace q52 := ne_ti (k := 25) (by decide) q52
  refine lv_tableOut (tgt := 135) E.x E.b d_Cmd_count_1 (by omega) (by decide) ?_
  exact bt_Cmd_count_135 E hret o h w (lv_sub hl [] rfl)
theorem clS_Cmd_count {p : Program} {l : Launch} {e : Env} {R : Room} {s : State} {m : MethodId} {args : Array Value} {below : List Frame} {meth : Method} {c : Code} {H : Heap} {locs : List Loc} {Q : State → Prop} {cc : ByteArray} {nL pc lev : Nat} {own : String} {D : va_G} {τ : ClassId × ClassId × ClassId} {B : Nat} {A : Nat → Prop} {σ : Sg} {ad : Nat → Nat} {ls : Array Slot} {rest : List Value} (E : Cx p R s m args meth c cc nL own lev D τ B A) (w : Wd s D A (wdM τ σ ad) H locs) {x0 : Int32} {o : Int32} (h : F_Cmd_count x0 = some o) {index : Nat} (hlk : Cond.methodLink own index y_Cmd_count ∈ tw) (hlev : 0 < lev) (hsz : ls.size = nL) (hr : (rest.map fun v => v.category).sum ≤ 8) (hd : decode cc pc = .ok (.invokestatic index, 3)) (kk : ∀ (H1 : Heap) (locs1 : List Loc), Wd s D A (wdM τ σ ad) H1 locs1 → W p l e R s m args below meth c H1 locs1 0 0 Q (F0 m (pc + 3) ls (.int o :: rest))) : W p l e R s m args below meth c H locs 0 0 Q (F0 m pc ls (.int x0 :: rest)) :=
  cr_i w E.C (va_runS (As := [.int x0]) (rest := rest) E.fix (c_Cmd_count l D τ B σ ad x0 o h H.size) (va_cwS 1 E.w (tw_pre (tw_good k1441) (l := [_, _, _]) (List.forall_mem_cons.mpr ⟨hlk, List.forall_mem_cons.mpr ⟨k1440, List.forall_mem_cons.mpr ⟨k15, fun _ h => absurd h List.not_mem_nil⟩⟩⟩)) rfl rfl rfl (by decide +kernel) (E.rm hlev (by decide))) (wd_pre w E.C [.int x0]) rfl rfl hsz rfl (lv_room hr) hd ⟨Nat.zero_le _, Nat.zero_le _⟩) kk

theorem d_Cmd_rowOf_0 : decode prog_15_method_11_code 0 = .ok (.sipush 160, 3) := by decide +kernel
theorem d_Cmd_rowOf_3 : decode prog_15_method_11_code 3 = .ok (.iload_n 0, 1) := by decide +kernel
theorem d_Cmd_rowOf_4 : decode prog_15_method_11_code 4 = .ok (.imul, 1) := by decide +kernel
theorem d_Cmd_rowOf_5 : decode prog_15_method_11_code 5 = .ok (.iload_n 1, 1) := by decide +kernel
theorem d_Cmd_rowOf_6 : decode prog_15_method_11_code 6 = .ok (.iload_n 0, 1) := by decide +kernel
theorem d_Cmd_rowOf_7 : decode prog_15_method_11_code 7 = .ok (.invokestatic 106, 3) := by decide +kernel
theorem d_Cmd_rowOf_10 : decode prog_15_method_11_code 10 = .ok (.imul, 1) := by decide +kernel
theorem d_Cmd_rowOf_11 : decode prog_15_method_11_code 11 = .ok (.iadd, 1) := by decide +kernel
theorem d_Cmd_rowOf_12 : decode prog_15_method_11_code 12 = .ok (.ireturn, 1) := by decide +kernel
def F_Cmd_rowOf  (x0 : Int32) (x1 : Int32) : Option (Int32) := bd (F_Cmd_count x0) (fun o2 => some ((160 * x0) + (x1 * o2)))
set_option maxRecDepth 10000 in
set_option maxHeartbeats 4000000 in
theorem c_Cmd_rowOf (l : Launch) (D : va_G) (τ : ClassId × ClassId × ClassId) (B : Nat) (σ0 : Sg) (ad : Nat → Nat) (x0 : Int32) (x1 : Int32) (o : Int32) (h : F_Cmd_rowOf x0 x1 = some o) : MI l y_Cmd_rowOf (Cond.code y_Cmd_rowOf prog_15_method_11_code 2 (some .int)) 1 D τ B [.int x0, .int x1] (wdM τ σ0 ad) (wdM τ σ0 ad) o := by
  refine en_i (by decide) (Nat.le_of_ble_eq_true rfl) ?_
  intro p e R s m args below meth c H locs ls A E hret w hl
  have E : Cx p R s m args meth c prog_15_method_11_code 2 "DrawingMachineModel$DrawCommandsModel" 1 D τ B A := E
  have hl : lv_has ls 2 [(0, .int x0), (1, .int x1)] := hl
  refine lv_sipush (v := 160) E.x E.b d_Cmd_rowOf_0 (by decide) ?_
  refine lv_iload_n E.x E.b d_Cmd_rowOf_3 rfl (lv_at hl 0 rfl) ?_
  refine lv_imul E.x E.b d_Cmd_rowOf_4 ?_
  refine lv_iload_n E.x E.b d_Cmd_rowOf_5 rfl (lv_at hl 1 rfl) ?_
  refine lv_iload_n E.x E.b d_Cmd_rowOf_6 rfl (lv_at hl 0 rfl) ?_
  obtain ⟨o2, h_o2, h⟩ := bd_some h
  refine clS_Cmd_count E w (x0 := x0) h_o2 k1439 (by decide) hl.1 (Nat.le_of_ble_eq_true rfl) d_Cmd_rowOf_7 (fun H locs w => ?_)
  refine lv_imul E.x E.b d_Cmd_rowOf_10 ?_
  refine lv_iadd E.x E.b d_Cmd_rowOf_11 ?_
  obtain rfl := Option.some.inj h
  exact rt_i E w hret d_Cmd_rowOf_12
theorem clS_Cmd_rowOf {p : Program} {l : Launch} {e : Env} {R : Room} {s : State} {m : MethodId} {args : Array Value} {below : List Frame} {meth : Method} {c : Code} {H : Heap} {locs : List Loc} {Q : State → Prop} {cc : ByteArray} {nL pc lev : Nat} {own : String} {D : va_G} {τ : ClassId × ClassId × ClassId} {B : Nat} {A : Nat → Prop} {σ : Sg} {ad : Nat → Nat} {ls : Array Slot} {rest : List Value} (E : Cx p R s m args meth c cc nL own lev D τ B A) (w : Wd s D A (wdM τ σ ad) H locs) {x0 : Int32} {x1 : Int32} {o : Int32} (h : F_Cmd_rowOf x0 x1 = some o) {index : Nat} (hlk : Cond.methodLink own index y_Cmd_rowOf ∈ tw) (hlev : 1 < lev) (hsz : ls.size = nL) (hr : (rest.map fun v => v.category).sum ≤ 8) (hd : decode cc pc = .ok (.invokestatic index, 3)) (kk : ∀ (H1 : Heap) (locs1 : List Loc), Wd s D A (wdM τ σ ad) H1 locs1 → W p l e R s m args below meth c H1 locs1 0 0 Q (F0 m (pc + 3) ls (.int o :: rest))) : W p l e R s m args below meth c H locs 0 0 Q (F0 m pc ls (.int x1 :: .int x0 :: rest)) :=
  cr_i w E.C (va_runS (As := [.int x0, .int x1]) (rest := rest) E.fix (c_Cmd_rowOf l D τ B σ ad x0 x1 o h H.size) (va_cwS 2 E.w (tw_pre (tw_good k1438) (l := [_, _, _]) (List.forall_mem_cons.mpr ⟨hlk, List.forall_mem_cons.mpr ⟨k1437, List.forall_mem_cons.mpr ⟨k15, fun _ h => absurd h List.not_mem_nil⟩⟩⟩)) rfl rfl rfl (by decide +kernel) (E.rm hlev (by decide))) (wd_pre w E.C [.int x0, .int x1]) rfl rfl hsz rfl (lv_room hr) hd ⟨Nat.zero_le _, Nat.zero_le _⟩) kk
theorem clSN_Cmd_rowOf {p : Program} {l : Launch} {e : Env} {R : Room} {s : State} {m : MethodId} {args : Array Value} {below : List Frame} {meth : Method} {c : Code} {H : Heap} {locs : List Loc} {Q : State → Prop} {cc : ByteArray} {nL pc lev : Nat} {own : String} {D : va_G} {τ : ClassId × ClassId × ClassId} {B : Nat} {A : Nat → Prop} {σ : Sg} {ad : Nat → Nat} {ls : Array Slot} {rest : List Value} (E : Cx p R s m args meth c cc nL own lev D τ B A) (w : Wd s D A (wdM τ σ ad) H locs) {x0 : Int32} {x1 : Int32} {o : Int32} (h : F_Cmd_rowOf x0 x1 = some o) {index : Nat} {host : String} (hlk : Cond.methodLinkNest own index y_Cmd_rowOf host ∈ nw) (hlev : 1 < lev) (hsz : ls.size = nL) (hr : (rest.map fun v => v.category).sum ≤ 8) (hd : decode cc pc = .ok (.invokestatic index, 3)) (kk : ∀ (H1 : Heap) (locs1 : List Loc), Wd s D A (wdM τ σ ad) H1 locs1 → W p l e R s m args below meth c H1 locs1 0 0 Q (F0 m (pc + 3) ls (.int o :: rest))) : W p l e R s m args below meth c H locs 0 0 Q (F0 m pc ls (.int x1 :: .int x0 :: rest)) :=
  cr_i w E.C (va_runSN (As := [.int x0, .int x1]) (rest := rest) E.fix (c_Cmd_rowOf l D τ B σ ad x0 x1 o h H.size) ⟨va_cnB 2 E.w (tw_good k1438) rfl rfl rfl (E.C.2.1.1 _ hlk) (E.w _ k15) (by decide +kernel) (E.rm hlev (by decide)), E.w _ k1437, trivial⟩ (wd_pre w E.C [.int x0, .int x1]) rfl rfl hsz rfl (lv_room hr) hd ⟨Nat.zero_le _, Nat.zero_le _⟩) kk

theorem d_Cmd_nothingTold_0 : decode prog_15_method_12_code 0 = .ok (.iconst 0, 1) := by decide +kernel
theorem d_Cmd_nothingTold_1 : decode prog_15_method_12_code 1 = .ok (.istore_n 1, 1) := by decide +kernel
theorem d_Cmd_nothingTold_2 : decode prog_15_method_12_code 2 = .ok (.iload_n 1, 1) := by decide +kernel
theorem d_Cmd_nothingTold_3 : decode prog_15_method_12_code 3 = .ok (.sipush 4160, 3) := by decide +kernel
theorem d_Cmd_nothingTold_6 : decode prog_15_method_12_code 6 = .ok (.if_icmp .ge 16, 3) := by decide +kernel
theorem d_Cmd_nothingTold_9 : decode prog_15_method_12_code 9 = .ok (.aload_n 0, 1) := by decide +kernel
theorem d_Cmd_nothingTold_10 : decode prog_15_method_12_code 10 = .ok (.getfield 38, 3) := by decide +kernel
theorem d_Cmd_nothingTold_13 : decode prog_15_method_12_code 13 = .ok (.iload_n 1, 1) := by decide +kernel
theorem d_Cmd_nothingTold_14 : decode prog_15_method_12_code 14 = .ok (.iconst 0, 1) := by decide +kernel
theorem d_Cmd_nothingTold_15 : decode prog_15_method_12_code 15 = .ok (.iastore, 1) := by decide +kernel
theorem d_Cmd_nothingTold_16 : decode prog_15_method_12_code 16 = .ok (.iinc 1 1, 3) := by decide +kernel
theorem d_Cmd_nothingTold_19 : decode prog_15_method_12_code 19 = .ok (.goto (-17), 3) := by decide +kernel
theorem d_Cmd_nothingTold_22 : decode prog_15_method_12_code 22 = .ok (.iconst 0, 1) := by decide +kernel
theorem d_Cmd_nothingTold_23 : decode prog_15_method_12_code 23 = .ok (.istore_n 1, 1) := by decide +kernel
theorem d_Cmd_nothingTold_24 : decode prog_15_method_12_code 24 = .ok (.iload_n 1, 1) := by decide +kernel
theorem d_Cmd_nothingTold_25 : decode prog_15_method_12_code 25 = .ok (.bipush 26, 2) := by decide +kernel
theorem d_Cmd_nothingTold_27 : decode prog_15_method_12_code 27 = .ok (.if_icmp .ge 44, 3) := by decide +kernel
theorem d_Cmd_nothingTold_30 : decode prog_15_method_12_code 30 = .ok (.iconst 0, 1) := by decide +kernel
theorem d_Cmd_nothingTold_31 : decode prog_15_method_12_code 31 = .ok (.istore_n 2, 1) := by decide +kernel
theorem d_Cmd_nothingTold_32 : decode prog_15_method_12_code 32 = .ok (.iload_n 2, 1) := by decide +kernel
theorem d_Cmd_nothingTold_33 : decode prog_15_method_12_code 33 = .ok (.iload_n 1, 1) := by decide +kernel
theorem d_Cmd_nothingTold_34 : decode prog_15_method_12_code 34 = .ok (.invokestatic 110, 3) := by decide +kernel
theorem d_Cmd_nothingTold_37 : decode prog_15_method_12_code 37 = .ok (.if_icmp .ge 28, 3) := by decide +kernel
theorem d_Cmd_nothingTold_40 : decode prog_15_method_12_code 40 = .ok (.iload_n 1, 1) := by decide +kernel
theorem d_Cmd_nothingTold_41 : decode prog_15_method_12_code 41 = .ok (.invokestatic 110, 3) := by decide +kernel
theorem d_Cmd_nothingTold_44 : decode prog_15_method_12_code 44 = .ok (.iconst 1, 1) := by decide +kernel
theorem d_Cmd_nothingTold_45 : decode prog_15_method_12_code 45 = .ok (.if_icmp .le 20, 3) := by decide +kernel
theorem d_Cmd_nothingTold_48 : decode prog_15_method_12_code 48 = .ok (.aload_n 0, 1) := by decide +kernel
theorem d_Cmd_nothingTold_49 : decode prog_15_method_12_code 49 = .ok (.getfield 38, 3) := by decide +kernel
theorem d_Cmd_nothingTold_52 : decode prog_15_method_12_code 52 = .ok (.iload_n 1, 1) := by decide +kernel
theorem d_Cmd_nothingTold_53 : decode prog_15_method_12_code 53 = .ok (.iload_n 2, 1) := by decide +kernel
theorem d_Cmd_nothingTold_54 : decode prog_15_method_12_code 54 = .ok (.invokestatic 113, 3) := by decide +kernel
theorem d_Cmd_nothingTold_57 : decode prog_15_method_12_code 57 = .ok (.iload_n 2, 1) := by decide +kernel
theorem d_Cmd_nothingTold_58 : decode prog_15_method_12_code 58 = .ok (.iastore, 1) := by decide +kernel
theorem d_Cmd_nothingTold_59 : decode prog_15_method_12_code 59 = .ok (.iinc 2 1, 3) := by decide +kernel
theorem d_Cmd_nothingTold_62 : decode prog_15_method_12_code 62 = .ok (.goto (-30), 3) := by decide +kernel
theorem d_Cmd_nothingTold_65 : decode prog_15_method_12_code 65 = .ok (.iinc 1 1, 3) := by decide +kernel
theorem d_Cmd_nothingTold_68 : decode prog_15_method_12_code 68 = .ok (.goto (-44), 3) := by decide +kernel
theorem d_Cmd_nothingTold_71 : decode prog_15_method_12_code 71 = .ok (.aload_n 0, 1) := by decide +kernel
theorem d_Cmd_nothingTold_72 : decode prog_15_method_12_code 72 = .ok (.getfield 38, 3) := by decide +kernel
theorem d_Cmd_nothingTold_75 : decode prog_15_method_12_code 75 = .ok (.iconst 2, 1) := by decide +kernel
theorem d_Cmd_nothingTold_76 : decode prog_15_method_12_code 76 = .ok (.iconst 0, 1) := by decide +kernel
theorem d_Cmd_nothingTold_77 : decode prog_15_method_12_code 77 = .ok (.invokestatic 113, 3) := by decide +kernel
theorem d_Cmd_nothingTold_80 : decode prog_15_method_12_code 80 = .ok (.iconst 2, 1) := by decide +kernel
theorem d_Cmd_nothingTold_81 : decode prog_15_method_12_code 81 = .ok (.iadd, 1) := by decide +kernel
theorem d_Cmd_nothingTold_82 : decode prog_15_method_12_code 82 = .ok (.iconst 1, 1) := by decide +kernel
theorem d_Cmd_nothingTold_83 : decode prog_15_method_12_code 83 = .ok (.iastore, 1) := by decide +kernel
theorem d_Cmd_nothingTold_84 : decode prog_15_method_12_code 84 = .ok (.aload_n 0, 1) := by decide +kernel
theorem d_Cmd_nothingTold_85 : decode prog_15_method_12_code 85 = .ok (.getfield 38, 3) := by decide +kernel
theorem d_Cmd_nothingTold_88 : decode prog_15_method_12_code 88 = .ok (.iconst 2, 1) := by decide +kernel
theorem d_Cmd_nothingTold_89 : decode prog_15_method_12_code 89 = .ok (.iconst 0, 1) := by decide +kernel
theorem d_Cmd_nothingTold_90 : decode prog_15_method_12_code 90 = .ok (.invokestatic 113, 3) := by decide +kernel
theorem d_Cmd_nothingTold_93 : decode prog_15_method_12_code 93 = .ok (.iconst 3, 1) := by decide +kernel
theorem d_Cmd_nothingTold_94 : decode prog_15_method_12_code 94 = .ok (.iadd, 1) := by decide +kernel
theorem d_Cmd_nothingTold_95 : decode prog_15_method_12_code 95 = .ok (.iconst 1, 1) := by decide +kernel
theorem d_Cmd_nothingTold_96 : decode prog_15_method_12_code 96 = .ok (.iastore, 1) := by decide +kernel
theorem d_Cmd_nothingTold_97 : decode prog_15_method_12_code 97 = .ok (.aload_n 0, 1) := by decide +kernel
theorem d_Cmd_nothingTold_98 : decode prog_15_method_12_code 98 = .ok (.getfield 38, 3) := by decide +kernel
theorem d_Cmd_nothingTold_101 : decode prog_15_method_12_code 101 = .ok (.iconst 2, 1) := by decide +kernel
theorem d_Cmd_nothingTold_102 : decode prog_15_method_12_code 102 = .ok (.iconst 0, 1) := by decide +kernel
theorem d_Cmd_nothingTold_103 : decode prog_15_method_12_code 103 = .ok (.invokestatic 113, 3) := by decide +kernel
theorem d_Cmd_nothingTold_106 : decode prog_15_method_12_code 106 = .ok (.iconst 5, 1) := by decide +kernel
theorem d_Cmd_nothingTold_107 : decode prog_15_method_12_code 107 = .ok (.iadd, 1) := by decide +kernel
theorem d_Cmd_nothingTold_108 : decode prog_15_method_12_code 108 = .ok (.ldc 117, 2) := by decide +kernel
theorem d_Cmd_nothingTold_110 : decode prog_15_method_12_code 110 = .ok (.iastore, 1) := by decide +kernel
theorem d_Cmd_nothingTold_111 : decode prog_15_method_12_code 111 = .ok (.aload_n 0, 1) := by decide +kernel
theorem d_Cmd_nothingTold_112 : decode prog_15_method_12_code 112 = .ok (.getfield 38, 3) := by decide +kernel
theorem d_Cmd_nothingTold_115 : decode prog_15_method_12_code 115 = .ok (.iconst 3, 1) := by decide +kernel
theorem d_Cmd_nothingTold_116 : decode prog_15_method_12_code 116 = .ok (.iconst 0, 1) := by decide +kernel
theorem d_Cmd_nothingTold_117 : decode prog_15_method_12_code 117 = .ok (.invokestatic 113, 3) := by decide +kernel
theorem d_Cmd_nothingTold_120 : decode prog_15_method_12_code 120 = .ok (.iconst 2, 1) := by decide +kernel
theorem d_Cmd_nothingTold_121 : decode prog_15_method_12_code 121 = .ok (.iadd, 1) := by decide +kernel
theorem d_Cmd_nothingTold_122 : decode prog_15_method_12_code 122 = .ok (.iconst (-1), 1) := by decide +kernel
theorem d_Cmd_nothingTold_123 : decode prog_15_method_12_code 123 = .ok (.iastore, 1) := by decide +kernel
theorem d_Cmd_nothingTold_124 : decode prog_15_method_12_code 124 = .ok (.aload_n 0, 1) := by decide +kernel
theorem d_Cmd_nothingTold_125 : decode prog_15_method_12_code 125 = .ok (.getfield 38, 3) := by decide +kernel
theorem d_Cmd_nothingTold_128 : decode prog_15_method_12_code 128 = .ok (.bipush 7, 2) := by decide +kernel
theorem d_Cmd_nothingTold_130 : decode prog_15_method_12_code 130 = .ok (.iconst 0, 1) := by decide +kernel
theorem d_Cmd_nothingTold_131 : decode prog_15_method_12_code 131 = .ok (.invokestatic 113, 3) := by decide +kernel
theorem d_Cmd_nothingTold_134 : decode prog_15_method_12_code 134 = .ok (.iconst (-1), 1) := by decide +kernel
theorem d_Cmd_nothingTold_135 : decode prog_15_method_12_code 135 = .ok (.iastore, 1) := by decide +kernel
theorem d_Cmd_nothingTold_136 : decode prog_15_method_12_code 136 = .ok (.aload_n 0, 1) := by decide +kernel
theorem d_Cmd_nothingTold_137 : decode prog_15_method_12_code 137 = .ok (.getfield 38, 3) := by decide +kernel
theorem d_Cmd_nothingTold_140 : decode prog_15_method_12_code 140 = .ok (.bipush 8, 2) := by decide +kernel
theorem d_Cmd_nothingTold_142 : decode prog_15_method_12_code 142 = .ok (.iconst 0, 1) := by decide +kernel
theorem d_Cmd_nothingTold_143 : decode prog_15_method_12_code 143 = .ok (.invokestatic 113, 3) := by decide +kernel
theorem d_Cmd_nothingTold_146 : decode prog_15_method_12_code 146 = .ok (.iconst (-1), 1) := by decide +kernel
theorem d_Cmd_nothingTold_147 : decode prog_15_method_12_code 147 = .ok (.iastore, 1) := by decide +kernel
theorem d_Cmd_nothingTold_148 : decode prog_15_method_12_code 148 = .ok (.aload_n 0, 1) := by decide +kernel
theorem d_Cmd_nothingTold_149 : decode prog_15_method_12_code 149 = .ok (.getfield 38, 3) := by decide +kernel
theorem d_Cmd_nothingTold_152 : decode prog_15_method_12_code 152 = .ok (.bipush 10, 2) := by decide +kernel
theorem d_Cmd_nothingTold_154 : decode prog_15_method_12_code 154 = .ok (.iconst 0, 1) := by decide +kernel
theorem d_Cmd_nothingTold_155 : decode prog_15_method_12_code 155 = .ok (.invokestatic 113, 3) := by decide +kernel
theorem d_Cmd_nothingTold_158 : decode prog_15_method_12_code 158 = .ok (.iconst (-1), 1) := by decide +kernel
theorem d_Cmd_nothingTold_159 : decode prog_15_method_12_code 159 = .ok (.iastore, 1) := by decide +kernel
theorem d_Cmd_nothingTold_160 : decode prog_15_method_12_code 160 = .ok (.aload_n 0, 1) := by decide +kernel
theorem d_Cmd_nothingTold_161 : decode prog_15_method_12_code 161 = .ok (.getfield 38, 3) := by decide +kernel
theorem d_Cmd_nothingTold_164 : decode prog_15_method_12_code 164 = .ok (.bipush 12, 2) := by decide +kernel
theorem d_Cmd_nothingTold_166 : decode prog_15_method_12_code 166 = .ok (.iconst 0, 1) := by decide +kernel
theorem d_Cmd_nothingTold_167 : decode prog_15_method_12_code 167 = .ok (.invokestatic 113, 3) := by decide +kernel
theorem d_Cmd_nothingTold_170 : decode prog_15_method_12_code 170 = .ok (.iconst 4, 1) := by decide +kernel
theorem d_Cmd_nothingTold_171 : decode prog_15_method_12_code 171 = .ok (.iadd, 1) := by decide +kernel
theorem d_Cmd_nothingTold_172 : decode prog_15_method_12_code 172 = .ok (.iconst (-1), 1) := by decide +kernel
theorem d_Cmd_nothingTold_173 : decode prog_15_method_12_code 173 = .ok (.iastore, 1) := by decide +kernel
theorem d_Cmd_nothingTold_174 : decode prog_15_method_12_code 174 = .ok (.aload_n 0, 1) := by decide +kernel
theorem d_Cmd_nothingTold_175 : decode prog_15_method_12_code 175 = .ok (.getfield 38, 3) := by decide +kernel
theorem d_Cmd_nothingTold_178 : decode prog_15_method_12_code 178 = .ok (.bipush 14, 2) := by decide +kernel
theorem d_Cmd_nothingTold_180 : decode prog_15_method_12_code 180 = .ok (.iconst 0, 1) := by decide +kernel
theorem d_Cmd_nothingTold_181 : decode prog_15_method_12_code 181 = .ok (.invokestatic 113, 3) := by decide +kernel
theorem d_Cmd_nothingTold_184 : decode prog_15_method_12_code 184 = .ok (.iconst (-1), 1) := by decide +kernel
theorem d_Cmd_nothingTold_185 : decode prog_15_method_12_code 185 = .ok (.iastore, 1) := by decide +kernel
theorem d_Cmd_nothingTold_186 : decode prog_15_method_12_code 186 = .ok (.aload_n 0, 1) := by decide +kernel
theorem d_Cmd_nothingTold_187 : decode prog_15_method_12_code 187 = .ok (.getfield 38, 3) := by decide +kernel
theorem d_Cmd_nothingTold_190 : decode prog_15_method_12_code 190 = .ok (.bipush 15, 2) := by decide +kernel
theorem d_Cmd_nothingTold_192 : decode prog_15_method_12_code 192 = .ok (.iconst 0, 1) := by decide +kernel
theorem d_Cmd_nothingTold_193 : decode prog_15_method_12_code 193 = .ok (.invokestatic 113, 3) := by decide +kernel
theorem d_Cmd_nothingTold_196 : decode prog_15_method_12_code 196 = .ok (.bipush 15, 2) := by decide +kernel
theorem d_Cmd_nothingTold_198 : decode prog_15_method_12_code 198 = .ok (.iastore, 1) := by decide +kernel
theorem d_Cmd_nothingTold_199 : decode prog_15_method_12_code 199 = .ok (.iconst 0, 1) := by decide +kernel
theorem d_Cmd_nothingTold_200 : decode prog_15_method_12_code 200 = .ok (.istore_n 1, 1) := by decide +kernel
theorem d_Cmd_nothingTold_201 : decode prog_15_method_12_code 201 = .ok (.iload_n 1, 1) := by decide +kernel
theorem d_Cmd_nothingTold_202 : decode prog_15_method_12_code 202 = .ok (.iconst 4, 1) := by decide +kernel
theorem d_Cmd_nothingTold_203 : decode prog_15_method_12_code 203 = .ok (.if_icmp .ge 23, 3) := by decide +kernel
theorem d_Cmd_nothingTold_206 : decode prog_15_method_12_code 206 = .ok (.aload_n 0, 1) := by decide +kernel
theorem d_Cmd_nothingTold_207 : decode prog_15_method_12_code 207 = .ok (.getfield 38, 3) := by decide +kernel
theorem d_Cmd_nothingTold_210 : decode prog_15_method_12_code 210 = .ok (.bipush 9, 2) := by decide +kernel
theorem d_Cmd_nothingTold_212 : decode prog_15_method_12_code 212 = .ok (.iload_n 1, 1) := by decide +kernel
theorem d_Cmd_nothingTold_213 : decode prog_15_method_12_code 213 = .ok (.invokestatic 113, 3) := by decide +kernel
theorem d_Cmd_nothingTold_216 : decode prog_15_method_12_code 216 = .ok (.iconst 4, 1) := by decide +kernel
theorem d_Cmd_nothingTold_217 : decode prog_15_method_12_code 217 = .ok (.iadd, 1) := by decide +kernel
theorem d_Cmd_nothingTold_218 : decode prog_15_method_12_code 218 = .ok (.iconst 1, 1) := by decide +kernel
theorem d_Cmd_nothingTold_219 : decode prog_15_method_12_code 219 = .ok (.iastore, 1) := by decide +kernel
theorem d_Cmd_nothingTold_220 : decode prog_15_method_12_code 220 = .ok (.iinc 1 1, 3) := by decide +kernel
theorem d_Cmd_nothingTold_223 : decode prog_15_method_12_code 223 = .ok (.goto (-22), 3) := by decide +kernel
theorem d_Cmd_nothingTold_226 : decode prog_15_method_12_code 226 = .ok (.iconst 0, 1) := by decide +kernel
theorem d_Cmd_nothingTold_227 : decode prog_15_method_12_code 227 = .ok (.istore_n 1, 1) := by decide +kernel
theorem d_Cmd_nothingTold_228 : decode prog_15_method_12_code 228 = .ok (.iload_n 1, 1) := by decide +kernel
theorem d_Cmd_nothingTold_229 : decode prog_15_method_12_code 229 = .ok (.iconst 2, 1) := by decide +kernel
theorem d_Cmd_nothingTold_230 : decode prog_15_method_12_code 230 = .ok (.if_icmp .ge 23, 3) := by decide +kernel
theorem d_Cmd_nothingTold_233 : decode prog_15_method_12_code 233 = .ok (.aload_n 0, 1) := by decide +kernel
theorem d_Cmd_nothingTold_234 : decode prog_15_method_12_code 234 = .ok (.getfield 38, 3) := by decide +kernel
theorem d_Cmd_nothingTold_237 : decode prog_15_method_12_code 237 = .ok (.bipush 11, 2) := by decide +kernel
theorem d_Cmd_nothingTold_239 : decode prog_15_method_12_code 239 = .ok (.iload_n 1, 1) := by decide +kernel
theorem d_Cmd_nothingTold_240 : decode prog_15_method_12_code 240 = .ok (.invokestatic 113, 3) := by decide +kernel
theorem d_Cmd_nothingTold_243 : decode prog_15_method_12_code 243 = .ok (.iconst 1, 1) := by decide +kernel
theorem d_Cmd_nothingTold_244 : decode prog_15_method_12_code 244 = .ok (.iadd, 1) := by decide +kernel
theorem d_Cmd_nothingTold_245 : decode prog_15_method_12_code 245 = .ok (.iconst (-1), 1) := by decide +kernel
theorem d_Cmd_nothingTold_246 : decode prog_15_method_12_code 246 = .ok (.iastore, 1) := by decide +kernel
theorem d_Cmd_nothingTold_247 : decode prog_15_method_12_code 247 = .ok (.iinc 1 1, 3) := by decide +kernel
theorem d_Cmd_nothingTold_250 : decode prog_15_method_12_code 250 = .ok (.goto (-22), 3) := by decide +kernel
theorem d_Cmd_nothingTold_253 : decode prog_15_method_12_code 253 = .ok (.return_, 1) := by decide +kernel
def L_Cmd_nothingTold_228 : Nat → Sg → Int32 → Option (Sg)
  | 0, _, _ => none
  | n + 1, σ, v1 => if 2 ≤ v1 then (some σ) else (bd (F_Cmd_rowOf 11 v1) (fun o49 => ck (inb (o49 + 1) 4160) (lt (sA σ 4 (upd (σ.2.2.1 4) (o49 + 1).toNatClampNeg (-1))) (fun σ51 => lt (v1 + 1) (fun y52 => L_Cmd_nothingTold_228 n σ51 y52)))))
set_option maxRecDepth 10000 in
set_option maxHeartbeats 4000000 in
theorem lt_Cmd_nothingTold_228 {p : Program} {l : Launch} {e : Env} {R : Room} {s : State} {m : MethodId} {args : Array Value} {below : List Frame} {meth : Method} {c : Code} {D : va_G} {τ : ClassId × ClassId × ClassId} {B : Nat} {A : Nat → Prop} {ad : Nat → Nat} (E : Cx p R s m args meth c prog_15_method_12_code 3 "DrawingMachineModel$DrawCommandsModel" 2 D τ B A) (hret : meth.sig.returnType = none) (o : Sg) : ∀ (n : Nat) (σ : Sg) (v1 : Int32) (H : Heap) (locs : List Loc) (ls : Array Slot), L_Cmd_nothingTold_228 n σ v1 = some o → Wd s D A (wdM τ σ ad) H locs → lv_has ls 3 [(0, .ref (ad 60)), (1, .int v1)] → W p l e R s m args below meth c H locs 0 0 (QV below args s A D τ (wdM τ o ad)) (F0 m 228 ls []) := by
  intro n
  induction n with
  | zero =>
    intro σ v1 H locs ls h w hl
    cases h
  | succ n hr_228 =>
    intro σ v1 H locs ls h w hl
    refine lv_iload_n E.x E.b d_Cmd_nothingTold_228 rfl (lv_at hl 1 rfl) ?_
    refine lv_iconst (v := 2) E.x E.b d_Cmd_nothingTold_229 (by decide) ?_
    refine lv_icmp_ge (tgt := 253) E.x E.b d_Cmd_nothingTold_230 (by decide) (fun c => ?_) (fun c => ?_)
    ·
      replace h := ifT c h
      obtain rfl := Option.some.inj h
      exact rt_v E w hret d_Cmd_nothingTold_253
    ·
      replace h := ifF c h
      refine lv_aload_n E.x E.b d_Cmd_nothingTold_233 rfl (lv_at hl 0 rfl) ?_
      refine gM_Cmd_kept E w k1468 d_Cmd_nothingTold_234 ?_
      refine lv_bipush (v := 11) E.x E.b d_Cmd_nothingTold_237 (by decide) ?_
      refine lv_iload_n E.x E.b d_Cmd_nothingTold_239 rfl (lv_at hl 1 rfl) ?_
      obtain ⟨o49, h_o49, h⟩ := bd_some h
      refine clS_Cmd_rowOf E w (x0 := 11) (x1 := v1) h_o49 k1436 (by decide) hl.1 (Nat.le_of_ble_eq_true rfl) d_Cmd_nothingTold_240 (fun H locs w => ?_)
      refine lv_iconst (v := 1) E.x E.b d_Cmd_nothingTold_243 (by decide) ?_
      refine lv_iadd E.x E.b d_Cmd_nothingTold_244 ?_
      refine lv_iconst (v := (-1)) E.x E.b d_Cmd_nothingTold_245 (by decide) ?_
      obtain ⟨c50, h⟩ := ck_some h
      obtain ⟨σ51, e_σ51, h⟩ := lt_some h
      refine iasM E w (k := 4) (by decide) c50 e_σ51 d_Cmd_nothingTold_246 (fun H locs w => ?_)
      obtain ⟨y52, e_y52, h⟩ := lt_some h
      refine lv_iinc (v := y52) (lv' := [(1, .int y52), (0, .ref (ad 60))]) E.x E.b d_Cmd_nothingTold_247 hl (k := 1) rfl (e_y52) (by decide) rfl (fun ls hl => ?_)
      refine lv_goto (tgt := 228) E.x E.b d_Cmd_nothingTold_250 (by decide) ?_
      exact hr_228 σ51 y52 _ _ _ h w (lv_sub hl [1, 0] rfl)
def L_Cmd_nothingTold_201 : Nat → Sg → Int32 → Option (Sg)
  | 0, _, _ => none
  | n + 1, σ, v1 => if 4 ≤ v1 then (L_Cmd_nothingTold_228 100000 σ 0) else (bd (F_Cmd_rowOf 9 v1) (fun o53 => ck (inb (o53 + 4) 4160) (lt (sA σ 4 (upd (σ.2.2.1 4) (o53 + 4).toNatClampNeg 1)) (fun σ55 => lt (v1 + 1) (fun y56 => L_Cmd_nothingTold_201 n σ55 y56)))))
set_option maxRecDepth 10000 in
set_option maxHeartbeats 4000000 in
theorem lt_Cmd_nothingTold_201 {p : Program} {l : Launch} {e : Env} {R : Room} {s : State} {m : MethodId} {args : Array Value} {below : List Frame} {meth : Method} {c : Code} {D : va_G} {τ : ClassId × ClassId × ClassId} {B : Nat} {A : Nat → Prop} {ad : Nat → Nat} (E : Cx p R s m args meth c prog_15_method_12_code 3 "DrawingMachineModel$DrawCommandsModel" 2 D τ B A) (hret : meth.sig.returnType = none) (o : Sg) : ∀ (n : Nat) (σ : Sg) (v1 : Int32) (H : Heap) (locs : List Loc) (ls : Array Slot), L_Cmd_nothingTold_201 n σ v1 = some o → Wd s D A (wdM τ σ ad) H locs → lv_has ls 3 [(0, .ref (ad 60)), (1, .int v1)] → W p l e R s m args below meth c H locs 0 0 (QV below args s A D τ (wdM τ o ad)) (F0 m 201 ls []) := by
  intro n
  induction n with
  | zero =>
    intro σ v1 H locs ls h w hl
    cases h
  | succ n hr_201 =>
    intro σ v1 H locs ls h w hl
    refine lv_iload_n E.x E.b d_Cmd_nothingTold_201 rfl (lv_at hl 1 rfl) ?_
    refine lv_iconst (v := 4) E.x E.b d_Cmd_nothingTold_202 (by decide) ?_
    refine lv_icmp_ge (tgt := 226) E.x E.b d_Cmd_nothingTold_203 (by decide) (fun c => ?_) (fun c => ?_)
    ·
      replace h := ifT c h
      refine lv_iconst (v := 0) E.x E.b d_Cmd_nothingTold_226 (by decide) ?_
      refine lv_istore_n (lv' := [(1, .int 0), (0, .ref (ad 60))]) E.x E.b d_Cmd_nothingTold_227 rfl hl (by decide) rfl (fun ls hl => ?_)
      exact lt_Cmd_nothingTold_228 E hret o 100000 σ 0 _ _ _ h w (lv_sub hl [1, 0] rfl)
    ·
      replace h := ifF c h
      refine lv_aload_n E.x E.b d_Cmd_nothingTold_206 rfl (lv_at hl 0 rfl) ?_
      refine gM_Cmd_kept E w k1468 d_Cmd_nothingTold_207 ?_
      refine lv_bipush (v := 9) E.x E.b d_Cmd_nothingTold_210 (by decide) ?_
      refine lv_iload_n E.x E.b d_Cmd_nothingTold_212 rfl (lv_at hl 1 rfl) ?_
      obtain ⟨o53, h_o53, h⟩ := bd_some h
      refine clS_Cmd_rowOf E w (x0 := 9) (x1 := v1) h_o53 k1436 (by decide) hl.1 (Nat.le_of_ble_eq_true rfl) d_Cmd_nothingTold_213 (fun H locs w => ?_)
      refine lv_iconst (v := 4) E.x E.b d_Cmd_nothingTold_216 (by decide) ?_
      refine lv_iadd E.x E.b d_Cmd_nothingTold_217 ?_
      refine lv_iconst (v := 1) E.x E.b d_Cmd_nothingTold_218 (by decide) ?_
      obtain ⟨c54, h⟩ := ck_some h
      obtain ⟨σ55, e_σ55, h⟩ := lt_some h
      refine iasM E w (k := 4) (by decide) c54 e_σ55 d_Cmd_nothingTold_219 (fun H locs w => ?_)
      obtain ⟨y56, e_y56, h⟩ := lt_some h
      refine lv_iinc (v := y56) (lv' := [(1, .int y56), (0, .ref (ad 60))]) E.x E.b d_Cmd_nothingTold_220 hl (k := 1) rfl (e_y56) (by decide) rfl (fun ls hl => ?_)
      refine lv_goto (tgt := 201) E.x E.b d_Cmd_nothingTold_223 (by decide) ?_
      exact hr_201 σ55 y56 _ _ _ h w (lv_sub hl [1, 0] rfl)
def F_Cmd_nothingTold_65 (rc_24 : Sg → Int32 → Option (Sg)) (σ : Sg) (v1 : Int32) : Option (Sg) := lt (v1 + 1) (fun y57 => rc_24 σ y57)
set_option maxRecDepth 10000 in
set_option maxHeartbeats 4000000 in
theorem bt_Cmd_nothingTold_65 {p : Program} {l : Launch} {e : Env} {R : Room} {s : State} {m : MethodId} {args : Array Value} {below : List Frame} {meth : Method} {c : Code} {D : va_G} {τ : ClassId × ClassId × ClassId} {B : Nat} {A : Nat → Prop} {ad : Nat → Nat} (E : Cx p R s m args meth c prog_15_method_12_code 3 "DrawingMachineModel$DrawCommandsModel" 2 D τ B A) (hret : meth.sig.returnType = none) (o : Sg) (rc_24 : Sg → Int32 → Option (Sg)) (hr_24 : ∀ (σ : Sg) (v1 : Int32) (H : Heap) (locs : List Loc) (ls : Array Slot), rc_24 σ v1 = some o → Wd s D A (wdM τ σ ad) H locs → lv_has ls 3 [(0, .ref (ad 60)), (1, .int v1)] → W p l e R s m args below meth c H locs 0 0 (QV below args s A D τ (wdM τ o ad)) (F0 m 24 ls [])) (σ : Sg) (v1 : Int32) (h : F_Cmd_nothingTold_65 rc_24 σ v1 = some o) {H : Heap} {locs : List Loc} {ls : Array Slot} (w : Wd s D A (wdM τ σ ad) H locs) (hl : lv_has ls 3 [(0, .ref (ad 60)), (1, .int v1)]) : W p l e R s m args below meth c H locs 0 0 (QV below args s A D τ (wdM τ o ad)) (F0 m 65 ls []) := by
  obtain ⟨y57, e_y57, h⟩ := lt_some h
  refine lv_iinc (v := y57) (lv' := [(1, .int y57), (0, .ref (ad 60))]) E.x E.b d_Cmd_nothingTold_65 hl (k := 1) rfl (e_y57) (by decide) rfl (fun ls hl => ?_)
  refine lv_goto (tgt := 24) E.x E.b d_Cmd_nothingTold_68 (by decide) ?_
  exact hr_24 σ y57 _ _ _ h w (lv_sub hl [1, 0] rfl)
def L_Cmd_nothingTold_32 (rc_24 : Sg → Int32 → Option (Sg)) : Nat → Sg → Int32 → Int32 → Option (Sg)
  | 0, _, _, _ => none
  | n + 1, σ, v1, v2 => bd (F_Cmd_many v1) (fun o58 => if o58 ≤ v2 then (F_Cmd_nothingTold_65 rc_24 σ v1) else (bd (F_Cmd_many v1) (fun o59 => if o59 ≤ 1 then (F_Cmd_nothingTold_65 rc_24 σ v1) else (bd (F_Cmd_rowOf v1 v2) (fun o60 => ck (inb o60 4160) (lt (sA σ 4 (upd (σ.2.2.1 4) o60.toNatClampNeg v2)) (fun σ62 => lt (v2 + 1) (fun y63 => L_Cmd_nothingTold_32 rc_24 n σ62 v1 y63))))))))
set_option maxRecDepth 10000 in
set_option maxHeartbeats 4000000 in
theorem lt_Cmd_nothingTold_32 {p : Program} {l : Launch} {e : Env} {R : Room} {s : State} {m : MethodId} {args : Array Value} {below : List Frame} {meth : Method} {c : Code} {D : va_G} {τ : ClassId × ClassId × ClassId} {B : Nat} {A : Nat → Prop} {ad : Nat → Nat} (E : Cx p R s m args meth c prog_15_method_12_code 3 "DrawingMachineModel$DrawCommandsModel" 2 D τ B A) (hret : meth.sig.returnType = none) (o : Sg) (rc_24 : Sg → Int32 → Option (Sg)) (hr_24 : ∀ (σ : Sg) (v1 : Int32) (H : Heap) (locs : List Loc) (ls : Array Slot), rc_24 σ v1 = some o → Wd s D A (wdM τ σ ad) H locs → lv_has ls 3 [(0, .ref (ad 60)), (1, .int v1)] → W p l e R s m args below meth c H locs 0 0 (QV below args s A D τ (wdM τ o ad)) (F0 m 24 ls [])) : ∀ (n : Nat) (σ : Sg) (v1 : Int32) (v2 : Int32) (H : Heap) (locs : List Loc) (ls : Array Slot), L_Cmd_nothingTold_32 rc_24 n σ v1 v2 = some o → Wd s D A (wdM τ σ ad) H locs → lv_has ls 3 [(0, .ref (ad 60)), (1, .int v1), (2, .int v2)] → W p l e R s m args below meth c H locs 0 0 (QV below args s A D τ (wdM τ o ad)) (F0 m 32 ls []) := by
  intro n
  induction n with
  | zero =>
    intro σ v1 v2 H locs ls h w hl
    cases h
  | succ n hr_32 =>
    intro σ v1 v2 H locs ls h w hl
    refine lv_iload_n E.x E.b d_Cmd_nothingTold_32 rfl (lv_at hl 2 rfl) ?_
    refine lv_iload_n E.x E.b d_Cmd_nothingTold_33 rfl (lv_at hl 1 rfl) ?_
    obtain ⟨o58, h_o58, h⟩ := bd_some h
    refine clS_Cmd_many E w (x0 := v1) h_o58 k1433 (by decide) hl.1 (Nat.le_of_ble_eq_true rfl) d_Cmd_nothingTold_34 (fun H locs w => ?_)
    refine lv_icmp_ge (tgt := 65) E.x E.b d_Cmd_nothingTold_37 (by decide) (fun c => ?_) (fun c => ?_)
    ·
      replace h := ifT c h
      exact bt_Cmd_nothingTold_65 E hret o rc_24 hr_24 σ v1 h w (lv_sub hl [0, 1] rfl)
    ·
      replace h := ifF c h
      refine lv_iload_n E.x E.b d_Cmd_nothingTold_40 rfl (lv_at hl 1 rfl) ?_
      obtain ⟨o59, h_o59, h⟩ := bd_some h
      refine clS_Cmd_many E w (x0 := v1) h_o59 k1433 (by decide) hl.1 (Nat.le_of_ble_eq_true rfl) d_Cmd_nothingTold_41 (fun H locs w => ?_)
      refine lv_iconst (v := 1) E.x E.b d_Cmd_nothingTold_44 (by decide) ?_
      refine lv_icmp_le (tgt := 65) E.x E.b d_Cmd_nothingTold_45 (by decide) (fun c => ?_) (fun c => ?_)
      ·
        replace h := ifT c h
        exact bt_Cmd_nothingTold_65 E hret o rc_24 hr_24 σ v1 h w (lv_sub hl [0, 1] rfl)
      ·
        replace h := ifF c h
        refine lv_aload_n E.x E.b d_Cmd_nothingTold_48 rfl (lv_at hl 0 rfl) ?_
        refine gM_Cmd_kept E w k1468 d_Cmd_nothingTold_49 ?_
        refine lv_iload_n E.x E.b d_Cmd_nothingTold_52 rfl (lv_at hl 1 rfl) ?_
        refine lv_iload_n E.x E.b d_Cmd_nothingTold_53 rfl (lv_at hl 2 rfl) ?_
        obtain ⟨o60, h_o60, h⟩ := bd_some h
        refine clS_Cmd_rowOf E w (x0 := v1) (x1 := v2) h_o60 k1436 (by decide) hl.1 (Nat.le_of_ble_eq_true rfl) d_Cmd_nothingTold_54 (fun H locs w => ?_)
        refine lv_iload_n E.x E.b d_Cmd_nothingTold_57 rfl (lv_at hl 2 rfl) ?_
        obtain ⟨c61, h⟩ := ck_some h
        obtain ⟨σ62, e_σ62, h⟩ := lt_some h
        refine iasM E w (k := 4) (by decide) c61 e_σ62 d_Cmd_nothingTold_58 (fun H locs w => ?_)
        obtain ⟨y63, e_y63, h⟩ := lt_some h
        refine lv_iinc (v := y63) (lv' := [(2, .int y63), (0, .ref (ad 60)), (1, .int v1)]) E.x E.b d_Cmd_nothingTold_59 hl (k := 2) rfl (e_y63) (by decide) rfl (fun ls hl => ?_)
        refine lv_goto (tgt := 32) E.x E.b d_Cmd_nothingTold_62 (by decide) ?_
        exact hr_32 σ62 v1 y63 _ _ _ h w (lv_sub hl [1, 2, 0] rfl)
def L_Cmd_nothingTold_24 : Nat → Sg → Int32 → Option (Sg)
  | 0, _, _ => none
  | n + 1, σ, v1 => if 26 ≤ v1 then (bd (F_Cmd_rowOf 2 0) (fun o64 => ck (inb (o64 + 2) 4160) (lt (sA σ 4 (upd (σ.2.2.1 4) (o64 + 2).toNatClampNeg 1)) (fun σ66 => bd (F_Cmd_rowOf 2 0) (fun o67 => ck (inb (o67 + 3) 4160) (lt (sA σ66 4 (upd (σ66.2.2.1 4) (o67 + 3).toNatClampNeg 1)) (fun σ69 => bd (F_Cmd_rowOf 2 0) (fun o70 => ck (inb (o70 + 5) 4160) (lt (sA σ69 4 (upd (σ69.2.2.1 4) (o70 + 5).toNatClampNeg 16777215)) (fun σ72 => bd (F_Cmd_rowOf 3 0) (fun o73 => ck (inb (o73 + 2) 4160) (lt (sA σ72 4 (upd (σ72.2.2.1 4) (o73 + 2).toNatClampNeg (-1))) (fun σ75 => bd (F_Cmd_rowOf 7 0) (fun o76 => ck (inb o76 4160) (lt (sA σ75 4 (upd (σ75.2.2.1 4) o76.toNatClampNeg (-1))) (fun σ78 => bd (F_Cmd_rowOf 8 0) (fun o79 => ck (inb o79 4160) (lt (sA σ78 4 (upd (σ78.2.2.1 4) o79.toNatClampNeg (-1))) (fun σ81 => bd (F_Cmd_rowOf 10 0) (fun o82 => ck (inb o82 4160) (lt (sA σ81 4 (upd (σ81.2.2.1 4) o82.toNatClampNeg (-1))) (fun σ84 => bd (F_Cmd_rowOf 12 0) (fun o85 => ck (inb (o85 + 4) 4160) (lt (sA σ84 4 (upd (σ84.2.2.1 4) (o85 + 4).toNatClampNeg (-1))) (fun σ87 => bd (F_Cmd_rowOf 14 0) (fun o88 => ck (inb o88 4160) (lt (sA σ87 4 (upd (σ87.2.2.1 4) o88.toNatClampNeg (-1))) (fun σ90 => bd (F_Cmd_rowOf 15 0) (fun o91 => ck (inb o91 4160) (lt (sA σ90 4 (upd (σ90.2.2.1 4) o91.toNatClampNeg 15)) (fun σ93 => L_Cmd_nothingTold_201 100000 σ93 0))))))))))))))))))))))))))))))) else (L_Cmd_nothingTold_32 (L_Cmd_nothingTold_24 n) 100000 σ v1 0)
set_option maxRecDepth 10000 in
set_option maxHeartbeats 4000000 in
theorem lt_Cmd_nothingTold_24 {p : Program} {l : Launch} {e : Env} {R : Room} {s : State} {m : MethodId} {args : Array Value} {below : List Frame} {meth : Method} {c : Code} {D : va_G} {τ : ClassId × ClassId × ClassId} {B : Nat} {A : Nat → Prop} {ad : Nat → Nat} (E : Cx p R s m args meth c prog_15_method_12_code 3 "DrawingMachineModel$DrawCommandsModel" 2 D τ B A) (hret : meth.sig.returnType = none) (o : Sg) : ∀ (n : Nat) (σ : Sg) (v1 : Int32) (H : Heap) (locs : List Loc) (ls : Array Slot), L_Cmd_nothingTold_24 n σ v1 = some o → Wd s D A (wdM τ σ ad) H locs → lv_has ls 3 [(0, .ref (ad 60)), (1, .int v1)] → W p l e R s m args below meth c H locs 0 0 (QV below args s A D τ (wdM τ o ad)) (F0 m 24 ls []) := by
  intro n
  induction n with
  | zero =>
    intro σ v1 H locs ls h w hl
    cases h
  | succ n hr_24 =>
    intro σ v1 H locs ls h w hl
    refine lv_iload_n E.x E.b d_Cmd_nothingTold_24 rfl (lv_at hl 1 rfl) ?_
    refine lv_bipush (v := 26) E.x E.b d_Cmd_nothingTold_25 (by decide) ?_
    refine lv_icmp_ge (tgt := 71) E.x E.b d_Cmd_nothingTold_27 (by decide) (fun c => ?_) (fun c => ?_)
    ·
      replace h := ifT c h
      refine lv_aload_n E.x E.b d_Cmd_nothingTold_71 rfl (lv_at hl 0 rfl) ?_
      refine gM_Cmd_kept E w k1468 d_Cmd_nothingTold_72 ?_
      refine lv_iconst (v := 2) E.x E.b d_Cmd_nothingTold_75 (by decide) ?_
      refine lv_iconst (v := 0) E.x E.b d_Cmd_nothingTold_76 (by decide) ?_
      obtain ⟨o64, h_o64, h⟩ := bd_some h
      refine clS_Cmd_rowOf E w (x0 := 2) (x1 := 0) h_o64 k1436 (by decide) hl.1 (Nat.le_of_ble_eq_true rfl) d_Cmd_nothingTold_77 (fun H locs w => ?_)
      refine lv_iconst (v := 2) E.x E.b d_Cmd_nothingTold_80 (by decide) ?_
      refine lv_iadd E.x E.b d_Cmd_nothingTold_81 ?_
      refine lv_iconst (v := 1) E.x E.b d_Cmd_nothingTold_82 (by decide) ?_
      obtain ⟨c65, h⟩ := ck_some h
      obtain ⟨σ66, e_σ66, h⟩ := lt_some h
      refine iasM E w (k := 4) (by decide) c65 e_σ66 d_Cmd_nothingTold_83 (fun H locs w => ?_)
      refine lv_aload_n E.x E.b d_Cmd_nothingTold_84 rfl (lv_at hl 0 rfl) ?_
      refine gM_Cmd_kept E w k1468 d_Cmd_nothingTold_85 ?_
      refine lv_iconst (v := 2) E.x E.b d_Cmd_nothingTold_88 (by decide) ?_
      refine lv_iconst (v := 0) E.x E.b d_Cmd_nothingTold_89 (by decide) ?_
      obtain ⟨o67, h_o67, h⟩ := bd_some h
      refine clS_Cmd_rowOf E w (x0 := 2) (x1 := 0) h_o67 k1436 (by decide) hl.1 (Nat.le_of_ble_eq_true rfl) d_Cmd_nothingTold_90 (fun H locs w => ?_)
      refine lv_iconst (v := 3) E.x E.b d_Cmd_nothingTold_93 (by decide) ?_
      refine lv_iadd E.x E.b d_Cmd_nothingTold_94 ?_
      refine lv_iconst (v := 1) E.x E.b d_Cmd_nothingTold_95 (by decide) ?_
      obtain ⟨c68, h⟩ := ck_some h
      obtain ⟨σ69, e_σ69, h⟩ := lt_some h
      refine iasM E w (k := 4) (by decide) c68 e_σ69 d_Cmd_nothingTold_96 (fun H locs w => ?_)
      refine lv_aload_n E.x E.b d_Cmd_nothingTold_97 rfl (lv_at hl 0 rfl) ?_
      refine gM_Cmd_kept E w k1468 d_Cmd_nothingTold_98 ?_
      refine lv_iconst (v := 2) E.x E.b d_Cmd_nothingTold_101 (by decide) ?_
      refine lv_iconst (v := 0) E.x E.b d_Cmd_nothingTold_102 (by decide) ?_
      obtain ⟨o70, h_o70, h⟩ := bd_some h
      refine clS_Cmd_rowOf E w (x0 := 2) (x1 := 0) h_o70 k1436 (by decide) hl.1 (Nat.le_of_ble_eq_true rfl) d_Cmd_nothingTold_103 (fun H locs w => ?_)
      refine lv_iconst (v := 5) E.x E.b d_Cmd_nothingTold_106 (by decide) ?_
      refine lv_iadd E.x E.b d_Cmd_nothingTold_107 ?_
      refine lv_ldc (v := 16777215) E.x E.b E.o (E.w _ k1442) d_Cmd_nothingTold_108 ?_
      obtain ⟨c71, h⟩ := ck_some h
      obtain ⟨σ72, e_σ72, h⟩ := lt_some h
      refine iasM E w (k := 4) (by decide) c71 e_σ72 d_Cmd_nothingTold_110 (fun H locs w => ?_)
      refine lv_aload_n E.x E.b d_Cmd_nothingTold_111 rfl (lv_at hl 0 rfl) ?_
      refine gM_Cmd_kept E w k1468 d_Cmd_nothingTold_112 ?_
      refine lv_iconst (v := 3) E.x E.b d_Cmd_nothingTold_115 (by decide) ?_
      refine lv_iconst (v := 0) E.x E.b d_Cmd_nothingTold_116 (by decide) ?_
      obtain ⟨o73, h_o73, h⟩ := bd_some h
      refine clS_Cmd_rowOf E w (x0 := 3) (x1 := 0) h_o73 k1436 (by decide) hl.1 (Nat.le_of_ble_eq_true rfl) d_Cmd_nothingTold_117 (fun H locs w => ?_)
      refine lv_iconst (v := 2) E.x E.b d_Cmd_nothingTold_120 (by decide) ?_
      refine lv_iadd E.x E.b d_Cmd_nothingTold_121 ?_
      refine lv_iconst (v := (-1)) E.x E.b d_Cmd_nothingTold_122 (by decide) ?_
      obtain ⟨c74, h⟩ := ck_some h
      obtain ⟨σ75, e_σ75, h⟩ := lt_some h
      refine iasM E w (k := 4) (by decide) c74 e_σ75 d_Cmd_nothingTold_123 (fun H locs w => ?_)
      refine lv_aload_n E.x E.b d_Cmd_nothingTold_124 rfl (lv_at hl 0 rfl) ?_
      refine gM_Cmd_kept E w k1468 d_Cmd_nothingTold_125 ?_
      refine lv_bipush (v := 7) E.x E.b d_Cmd_nothingTold_128 (by decide) ?_
      refine lv_iconst (v := 0) E.x E.b d_Cmd_nothingTold_130 (by decide) ?_
      obtain ⟨o76, h_o76, h⟩ := bd_some h
      refine clS_Cmd_rowOf E w (x0 := 7) (x1 := 0) h_o76 k1436 (by decide) hl.1 (Nat.le_of_ble_eq_true rfl) d_Cmd_nothingTold_131 (fun H locs w => ?_)
      refine lv_iconst (v := (-1)) E.x E.b d_Cmd_nothingTold_134 (by decide) ?_
      obtain ⟨c77, h⟩ := ck_some h
      obtain ⟨σ78, e_σ78, h⟩ := lt_some h
      refine iasM E w (k := 4) (by decide) c77 e_σ78 d_Cmd_nothingTold_135 (fun H locs w => ?_)
      refine lv_aload_n E.x E.b d_Cmd_nothingTold_136 rfl (lv_at hl 0 rfl) ?_
      refine gM_Cmd_kept E w k1468 d_Cmd_nothingTold_137 ?_
      refine lv_bipush (v := 8) E.x E.b d_Cmd_nothingTold_140 (by decide) ?_
      refine lv_iconst (v := 0) E.x E.b d_Cmd_nothingTold_142 (by decide) ?_
      obtain ⟨o79, h_o79, h⟩ := bd_some h
      refine clS_Cmd_rowOf E w (x0 := 8) (x1 := 0) h_o79 k1436 (by decide) hl.1 (Nat.le_of_ble_eq_true rfl) d_Cmd_nothingTold_143 (fun H locs w => ?_)
      refine lv_iconst (v := (-1)) E.x E.b d_Cmd_nothingTold_146 (by decide) ?_
      obtain ⟨c80, h⟩ := ck_some h
      obtain ⟨σ81, e_σ81, h⟩ := lt_some h
      refine iasM E w (k := 4) (by decide) c80 e_σ81 d_Cmd_nothingTold_147 (fun H locs w => ?_)
      refine lv_aload_n E.x E.b d_Cmd_nothingTold_148 rfl (lv_at hl 0 rfl) ?_
      refine gM_Cmd_kept E w k1468 d_Cmd_nothingTold_149 ?_
      refine lv_bipush (v := 10) E.x E.b d_Cmd_nothingTold_152 (by decide) ?_
      refine lv_iconst (v := 0) E.x E.b d_Cmd_nothingTold_154 (by decide) ?_
      obtain ⟨o82, h_o82, h⟩ := bd_some h
      refine clS_Cmd_rowOf E w (x0 := 10) (x1 := 0) h_o82 k1436 (by decide) hl.1 (Nat.le_of_ble_eq_true rfl) d_Cmd_nothingTold_155 (fun H locs w => ?_)
      refine lv_iconst (v := (-1)) E.x E.b d_Cmd_nothingTold_158 (by decide) ?_
      obtain ⟨c83, h⟩ := ck_some h
      obtain ⟨σ84, e_σ84, h⟩ := lt_some h
      refine iasM E w (k := 4) (by decide) c83 e_σ84 d_Cmd_nothingTold_159 (fun H locs w => ?_)
      refine lv_aload_n E.x E.b d_Cmd_nothingTold_160 rfl (lv_at hl 0 rfl) ?_
      refine gM_Cmd_kept E w k1468 d_Cmd_nothingTold_161 ?_
      refine lv_bipush (v := 12) E.x E.b d_Cmd_nothingTold_164 (by decide) ?_
      refine lv_iconst (v := 0) E.x E.b d_Cmd_nothingTold_166 (by decide) ?_
      obtain ⟨o85, h_o85, h⟩ := bd_some h
      refine clS_Cmd_rowOf E w (x0 := 12) (x1 := 0) h_o85 k1436 (by decide) hl.1 (Nat.le_of_ble_eq_true rfl) d_Cmd_nothingTold_167 (fun H locs w => ?_)
      refine lv_iconst (v := 4) E.x E.b d_Cmd_nothingTold_170 (by decide) ?_
      refine lv_iadd E.x E.b d_Cmd_nothingTold_171 ?_
      refine lv_iconst (v := (-1)) E.x E.b d_Cmd_nothingTold_172 (by decide) ?_
      obtain ⟨c86, h⟩ := ck_some h
      obtain ⟨σ87, e_σ87, h⟩ := lt_some h
      refine iasM E w (k := 4) (by decide) c86 e_σ87 d_Cmd_nothingTold_173 (fun H locs w => ?_)
      refine lv_aload_n E.x E.b d_Cmd_nothingTold_174 rfl (lv_at hl 0 rfl) ?_
      refine gM_Cmd_kept E w k1468 d_Cmd_nothingTold_175 ?_
      refine lv_bipush (v := 14) E.x E.b d_Cmd_nothingTold_178 (by decide) ?_
      refine lv_iconst (v := 0) E.x E.b d_Cmd_nothingTold_180 (by decide) ?_
      obtain ⟨o88, h_o88, h⟩ := bd_some h
      refine clS_Cmd_rowOf E w (x0 := 14) (x1 := 0) h_o88 k1436 (by decide) hl.1 (Nat.le_of_ble_eq_true rfl) d_Cmd_nothingTold_181 (fun H locs w => ?_)
      refine lv_iconst (v := (-1)) E.x E.b d_Cmd_nothingTold_184 (by decide) ?_
      obtain ⟨c89, h⟩ := ck_some h
      obtain ⟨σ90, e_σ90, h⟩ := lt_some h
      refine iasM E w (k := 4) (by decide) c89 e_σ90 d_Cmd_nothingTold_185 (fun H locs w => ?_)
      refine lv_aload_n E.x E.b d_Cmd_nothingTold_186 rfl (lv_at hl 0 rfl) ?_
      refine gM_Cmd_kept E w k1468 d_Cmd_nothingTold_187 ?_
      refine lv_bipush (v := 15) E.x E.b d_Cmd_nothingTold_190 (by decide) ?_
      refine lv_iconst (v := 0) E.x E.b d_Cmd_nothingTold_192 (by decide) ?_
      obtain ⟨o91, h_o91, h⟩ := bd_some h
      refine clS_Cmd_rowOf E w (x0 := 15) (x1 := 0) h_o91 k1436 (by decide) hl.1 (Nat.le_of_ble_eq_true rfl) d_Cmd_nothingTold_193 (fun H locs w => ?_)
      refine lv_bipush (v := 15) E.x E.b d_Cmd_nothingTold_196 (by decide) ?_
      obtain ⟨c92, h⟩ := ck_some h
      obtain ⟨σ93, e_σ93, h⟩ := lt_some h
      refine iasM E w (k := 4) (by decide) c92 e_σ93 d_Cmd_nothingTold_198 (fun H locs w => ?_)
      refine lv_iconst (v := 0) E.x E.b d_Cmd_nothingTold_199 (by decide) ?_
      refine lv_istore_n (lv' := [(1, .int 0), (0, .ref (ad 60))]) E.x E.b d_Cmd_nothingTold_200 rfl hl (by decide) rfl (fun ls hl => ?_)
      exact lt_Cmd_nothingTold_201 E hret o 100000 σ93 0 _ _ _ h w (lv_sub hl [1, 0] rfl)
    ·
      replace h := ifF c h
      refine lv_iconst (v := 0) E.x E.b d_Cmd_nothingTold_30 (by decide) ?_
      refine lv_istore_n (lv' := [(2, .int 0), (0, .ref (ad 60)), (1, .int v1)]) E.x E.b d_Cmd_nothingTold_31 rfl hl (by decide) rfl (fun ls hl => ?_)
      exact lt_Cmd_nothingTold_32 E hret o (L_Cmd_nothingTold_24 n) hr_24 100000 σ v1 0 _ _ _ h w (lv_sub hl [1, 2, 0] rfl)
def L_Cmd_nothingTold_2 : Nat → Sg → Int32 → Option (Sg)
  | 0, _, _ => none
  | n + 1, σ, v1 => if 4160 ≤ v1 then (L_Cmd_nothingTold_24 100000 σ 0) else (ck (inb v1 4160) (lt (sA σ 4 (upd (σ.2.2.1 4) v1.toNatClampNeg 0)) (fun σ95 => lt (v1 + 1) (fun y96 => L_Cmd_nothingTold_2 n σ95 y96))))
set_option maxRecDepth 10000 in
set_option maxHeartbeats 4000000 in
theorem lt_Cmd_nothingTold_2 {p : Program} {l : Launch} {e : Env} {R : Room} {s : State} {m : MethodId} {args : Array Value} {below : List Frame} {meth : Method} {c : Code} {D : va_G} {τ : ClassId × ClassId × ClassId} {B : Nat} {A : Nat → Prop} {ad : Nat → Nat} (E : Cx p R s m args meth c prog_15_method_12_code 3 "DrawingMachineModel$DrawCommandsModel" 2 D τ B A) (hret : meth.sig.returnType = none) (o : Sg) : ∀ (n : Nat) (σ : Sg) (v1 : Int32) (H : Heap) (locs : List Loc) (ls : Array Slot), L_Cmd_nothingTold_2 n σ v1 = some o → Wd s D A (wdM τ σ ad) H locs → lv_has ls 3 [(0, .ref (ad 60)), (1, .int v1)] → W p l e R s m args below meth c H locs 0 0 (QV below args s A D τ (wdM τ o ad)) (F0 m 2 ls []) := by
  intro n
  induction n with
  | zero =>
    intro σ v1 H locs ls h w hl
    cases h
  | succ n hr_2 =>
    intro σ v1 H locs ls h w hl
    refine lv_iload_n E.x E.b d_Cmd_nothingTold_2 rfl (lv_at hl 1 rfl) ?_
    refine lv_sipush (v := 4160) E.x E.b d_Cmd_nothingTold_3 (by decide) ?_
    refine lv_icmp_ge (tgt := 22) E.x E.b d_Cmd_nothingTold_6 (by decide) (fun c => ?_) (fun c => ?_)
    ·
      replace h := ifT c h
      refine lv_iconst (v := 0) E.x E.b d_Cmd_nothingTold_22 (by decide) ?_
      refine lv_istore_n (lv' := [(1, .int 0), (0, .ref (ad 60))]) E.x E.b d_Cmd_nothingTold_23 rfl hl (by decide) rfl (fun ls hl => ?_)
      exact lt_Cmd_nothingTold_24 E hret o 100000 σ 0 _ _ _ h w (lv_sub hl [1, 0] rfl)
    ·
      replace h := ifF c h
      refine lv_aload_n E.x E.b d_Cmd_nothingTold_9 rfl (lv_at hl 0 rfl) ?_
      refine gM_Cmd_kept E w k1468 d_Cmd_nothingTold_10 ?_
      refine lv_iload_n E.x E.b d_Cmd_nothingTold_13 rfl (lv_at hl 1 rfl) ?_
      refine lv_iconst (v := 0) E.x E.b d_Cmd_nothingTold_14 (by decide) ?_
      obtain ⟨c94, h⟩ := ck_some h
      obtain ⟨σ95, e_σ95, h⟩ := lt_some h
      refine iasM E w (k := 4) (by decide) c94 e_σ95 d_Cmd_nothingTold_15 (fun H locs w => ?_)
      obtain ⟨y96, e_y96, h⟩ := lt_some h
      refine lv_iinc (v := y96) (lv' := [(1, .int y96), (0, .ref (ad 60))]) E.x E.b d_Cmd_nothingTold_16 hl (k := 1) rfl (e_y96) (by decide) rfl (fun ls hl => ?_)
      refine lv_goto (tgt := 2) E.x E.b d_Cmd_nothingTold_19 (by decide) ?_
      exact hr_2 σ95 y96 _ _ _ h w (lv_sub hl [1, 0] rfl)
def F_Cmd_nothingTold (σ : Sg) : Option (Sg) := L_Cmd_nothingTold_2 100000 σ 0
set_option maxRecDepth 10000 in
set_option maxHeartbeats 4000000 in
theorem c_Cmd_nothingTold (l : Launch) (D : va_G) (τ : ClassId × ClassId × ClassId) (B : Nat) (σ : Sg) (ad : Nat → Nat) (o : Sg) (h : F_Cmd_nothingTold σ = some o) : MV l y_Cmd_nothingTold (Cond.code y_Cmd_nothingTold prog_15_method_12_code 3 none) 2 D τ B [.ref (ad 60)] (wdM τ σ ad) (wdM τ o ad) := by
  refine en_v (by decide) (Nat.le_of_ble_eq_true rfl) ?_
  intro p e R s m args below meth c H locs ls A E hret w hl
  have E : Cx p R s m args meth c prog_15_method_12_code 3 "DrawingMachineModel$DrawCommandsModel" 2 D τ B A := E
  have hl : lv_has ls 3 [(0, .ref (ad 60))] := hl
  refine lv_iconst (v := 0) E.x E.b d_Cmd_nothingTold_0 (by decide) ?_
  refine lv_istore_n (lv' := [(1, .int 0), (0, .ref (ad 60))]) E.x E.b d_Cmd_nothingTold_1 rfl hl (by decide) rfl (fun ls hl => ?_)
  exact lt_Cmd_nothingTold_2 E hret o 100000 σ 0 _ _ _ h w (lv_sub hl [1, 0] rfl)
theorem clV_Cmd_nothingTold {p : Program} {l : Launch} {e : Env} {R : Room} {s : State} {m : MethodId} {args : Array Value} {below : List Frame} {meth : Method} {c : Code} {H : Heap} {locs : List Loc} {Q : State → Prop} {cc : ByteArray} {nL pc lev : Nat} {own : String} {D : va_G} {τ : ClassId × ClassId × ClassId} {B : Nat} {A : Nat → Prop} {σ : Sg} {ad : Nat → Nat} {ls : Array Slot} {rest : List Value} (E : Cx p R s m args meth c cc nL own lev D τ B A) (w : Wd s D A (wdM τ σ ad) H locs) {o : Sg} (h : F_Cmd_nothingTold σ = some o) {index : Nat} (hlk : Cond.methodLink own index y_Cmd_nothingTold ∈ tw) (hlev : 2 < lev) (hsz : ls.size = nL) (hr : (rest.map fun v => v.category).sum ≤ 8) (hd : decode cc pc = .ok (.invokevirtual index, 3)) (kk : ∀ (H1 : Heap) (locs1 : List Loc), Wd s D A (wdM τ o ad) H1 locs1 → W p l e R s m args below meth c H1 locs1 0 0 Q (F0 m (pc + 3) ls (rest))) : W p l e R s m args below meth c H locs 0 0 Q (F0 m pc ls (.ref (ad 60) :: rest)) :=
  cr_v w E.C (va_runV (As := []) (rest := rest) E.fix (c_Cmd_nothingTold l D τ B σ ad o h H.size) (cwV 0 E.w (tw_pre (tw_good k1432) (l := [_, _, _, _]) (List.forall_mem_cons.mpr ⟨hlk, List.forall_mem_cons.mpr ⟨k1431, List.forall_mem_cons.mpr ⟨ks43, List.forall_mem_cons.mpr ⟨k15, fun _ h => absurd h List.not_mem_nil⟩⟩⟩⟩)) rfl rfl rfl (by decide +kernel) (E.rm hlev (by decide))) (wd_preV w E.C [] rcM_Cmd rfl) rfl rfl hsz rfl (lv_room hr) hd ⟨Nat.zero_le _, Nat.zero_le _⟩) kk

theorem d_Mod_thrown_0 : decode prog_14_method_2_code 0 = .ok (.aload_n 0, 1) := by decide +kernel
theorem d_Mod_thrown_1 : decode prog_14_method_2_code 1 = .ok (.getfield 85, 3) := by decide +kernel
theorem d_Mod_thrown_4 : decode prog_14_method_2_code 4 = .ok (.ireturn, 1) := by decide +kernel
def F_Mod_thrown (σ : Sg) : Option (Int32) := some (σ.1 0)
set_option maxRecDepth 10000 in
set_option maxHeartbeats 4000000 in
theorem c_Mod_thrown (l : Launch) (D : va_G) (τ : ClassId × ClassId × ClassId) (B : Nat) (σ : Sg) (ad : Nat → Nat) (o : Int32) (h : F_Mod_thrown σ = some o) : MI l y_Mod_thrown (Cond.code y_Mod_thrown prog_14_method_2_code 1 (some .int)) 0 D τ B [.ref (ad 59)] (wdM τ σ ad) (wdM τ σ ad) o := by
  refine en_i (by decide) (Nat.le_of_ble_eq_true rfl) ?_
  intro p e R s m args below meth c H locs ls A E hret w hl
  have E : Cx p R s m args meth c prog_14_method_2_code 1 "DrawingMachineModel" 0 D τ B A := E
  have hl : lv_has ls 1 [(0, .ref (ad 59))] := hl
  refine lv_aload_n E.x E.b d_Mod_thrown_0 rfl (lv_at hl 0 rfl) ?_
  refine gM_Mod_thrown E w k1765 d_Mod_thrown_1 ?_
  obtain rfl := Option.some.inj h
  exact rt_i E w hret d_Mod_thrown_4

theorem d_Mod_in_0 : decode prog_14_method_4_code 0 = .ok (.lload_n 0, 1) := by decide +kernel
theorem d_Mod_in_1 : decode prog_14_method_4_code 1 = .ok (.lload_n 2, 1) := by decide +kernel
theorem d_Mod_in_2 : decode prog_14_method_4_code 2 = .ok (.lcmp, 1) := by decide +kernel
theorem d_Mod_in_3 : decode prog_14_method_4_code 3 = .ok (.ifCond .lt 14, 3) := by decide +kernel
theorem d_Mod_in_6 : decode prog_14_method_4_code 6 = .ok (.lload_n 0, 1) := by decide +kernel
theorem d_Mod_in_7 : decode prog_14_method_4_code 7 = .ok (.lload 4, 2) := by decide +kernel
theorem d_Mod_in_9 : decode prog_14_method_4_code 9 = .ok (.lcmp, 1) := by decide +kernel
theorem d_Mod_in_10 : decode prog_14_method_4_code 10 = .ok (.ifCond .gt 7, 3) := by decide +kernel
theorem d_Mod_in_13 : decode prog_14_method_4_code 13 = .ok (.iconst 1, 1) := by decide +kernel
theorem d_Mod_in_14 : decode prog_14_method_4_code 14 = .ok (.goto 4, 3) := by decide +kernel
theorem d_Mod_in_17 : decode prog_14_method_4_code 17 = .ok (.iconst 0, 1) := by decide +kernel
theorem d_Mod_in_18 : decode prog_14_method_4_code 18 = .ok (.ireturn, 1) := by decide +kernel
def F_Mod_in_18  (s0 : Int32) : Option (Int32) := ck (s0 = 0 ∨ s0 = 1) (some s0)
set_option maxRecDepth 10000 in
set_option maxHeartbeats 4000000 in
theorem bt_Mod_in_18 {p : Program} {l : Launch} {e : Env} {R : Room} {s : State} {m : MethodId} {args : Array Value} {below : List Frame} {meth : Method} {c : Code} {D : va_G} {τ : ClassId × ClassId × ClassId} {B : Nat} {A : Nat → Prop} {ad : Nat → Nat} {σ0 : Sg} (E : Cx p R s m args meth c prog_14_method_4_code 6 "DrawingMachineModel" 0 D τ B A) (hret : meth.sig.returnType = (some .boolean)) (o : Int32) (s0 : Int32) (h : F_Mod_in_18 s0 = some o) {H : Heap} {locs : List Loc} {ls : Array Slot} (w : Wd s D A (wdM τ σ0 ad) H locs) (hl : lv_has ls 6 []) : W p l e R s m args below meth c H locs 0 0 (QI below args s A D τ (wdM τ σ0 ad) o) (F0 m 18 ls [.int s0]) := by
  obtain ⟨c2, h⟩ := ck_some h
  obtain rfl := Option.some.inj h
  exact rt_z E w hret c2 d_Mod_in_18
def F_Mod_in_17  : Option (Int32) := F_Mod_in_18 0
set_option maxRecDepth 10000 in
set_option maxHeartbeats 4000000 in
theorem bt_Mod_in_17 {p : Program} {l : Launch} {e : Env} {R : Room} {s : State} {m : MethodId} {args : Array Value} {below : List Frame} {meth : Method} {c : Code} {D : va_G} {τ : ClassId × ClassId × ClassId} {B : Nat} {A : Nat → Prop} {ad : Nat → Nat} {σ0 : Sg} (E : Cx p R s m args meth c prog_14_method_4_code 6 "DrawingMachineModel" 0 D τ B A) (hret : meth.sig.returnType = (some .boolean)) (o : Int32) (h : F_Mod_in_17 = some o) {H : Heap} {locs : List Loc} {ls : Array Slot} (w : Wd s D A (wdM τ σ0 ad) H locs) (hl : lv_has ls 6 []) : W p l e R s m args below meth c H locs 0 0 (QI below args s A D τ (wdM τ σ0 ad) o) (F0 m 17 ls []) := by
  refine lv_iconst (v := 0) E.x E.b d_Mod_in_17 (by decide) ?_
  exact bt_Mod_in_18 E hret o 0 h w (lv_sub hl [] rfl)
def F_Mod_in  (x0 : Int64) (x1 : Int64) (x2 : Int64) : Option (Int32) := if x0 < x1 then (F_Mod_in_17) else (if x2 < x0 then (F_Mod_in_17) else (F_Mod_in_18 1))
set_option maxRecDepth 10000 in
set_option maxHeartbeats 4000000 in
theorem c_Mod_in (l : Launch) (D : va_G) (τ : ClassId × ClassId × ClassId) (B : Nat) (σ0 : Sg) (ad : Nat → Nat) (x0 : Int64) (x1 : Int64) (x2 : Int64) (o : Int32) (h : F_Mod_in x0 x1 x2 = some o) : MI l y_Mod_in (Cond.code y_Mod_in prog_14_method_4_code 6 (some .boolean)) 0 D τ B [.long x0, .long x1, .long x2] (wdM τ σ0 ad) (wdM τ σ0 ad) o := by
  refine en_i (by decide) (Nat.le_of_ble_eq_true rfl) ?_
  intro p e R s m args below meth c H locs ls A E hret w hl
  have E : Cx p R s m args meth c prog_14_method_4_code 6 "DrawingMachineModel" 0 D τ B A := E
  have hl : lv_has ls 6 [(0, .long x0), (2, .long x1), (4, .long x2)] := hl
  refine lv_lload_n E.x E.b d_Mod_in_0 rfl (lv_at hl 0 rfl) ?_
  refine lv_lload_n E.x E.b d_Mod_in_1 rfl (lv_at hl 1 rfl) ?_
  refine W.lcmp E.x E.b d_Mod_in_2 ?_
  refine lv_if_lt (tgt := 17) E.x E.b d_Mod_in_3 (by decide) (fun c => ?_) (fun c => ?_)
  ·
    replace h := ifT (lgc_lt.mp c) h
    exact bt_Mod_in_17 E hret o h w (lv_sub hl [] rfl)
  ·
    replace h := ifF (fun h9 => c (lgc_lt.mpr h9)) h
    refine lv_lload_n E.x E.b d_Mod_in_6 rfl (lv_at hl 0 rfl) ?_
    refine lv_lload E.x E.b d_Mod_in_7 (lv_at hl 2 rfl) ?_
    refine W.lcmp E.x E.b d_Mod_in_9 ?_
    refine lv_if_gt (tgt := 17) E.x E.b d_Mod_in_10 (by decide) (fun c => ?_) (fun c => ?_)
    ·
      replace h := ifT (lgc_gt.mp c) h
      exact bt_Mod_in_17 E hret o h w (lv_sub hl [] rfl)
    ·
      replace h := ifF (fun h9 => c (lgc_gt.mpr h9)) h
      refine lv_iconst (v := 1) E.x E.b d_Mod_in_13 (by decide) ?_
      refine lv_goto (tgt := 18) E.x E.b d_Mod_in_14 (by decide) ?_
      exact bt_Mod_in_18 E hret o 1 h w (lv_sub hl [] rfl)
theorem clS_Mod_in {p : Program} {l : Launch} {e : Env} {R : Room} {s : State} {m : MethodId} {args : Array Value} {below : List Frame} {meth : Method} {c : Code} {H : Heap} {locs : List Loc} {Q : State → Prop} {cc : ByteArray} {nL pc lev : Nat} {own : String} {D : va_G} {τ : ClassId × ClassId × ClassId} {B : Nat} {A : Nat → Prop} {σ : Sg} {ad : Nat → Nat} {ls : Array Slot} {rest : List Value} (E : Cx p R s m args meth c cc nL own lev D τ B A) (w : Wd s D A (wdM τ σ ad) H locs) {x0 : Int64} {x1 : Int64} {x2 : Int64} {o : Int32} (h : F_Mod_in x0 x1 x2 = some o) {index : Nat} (hlk : Cond.methodLink own index y_Mod_in ∈ tw) (hlev : 0 < lev) (hsz : ls.size = nL) (hr : (rest.map fun v => v.category).sum ≤ 8) (hd : decode cc pc = .ok (.invokestatic index, 3)) (kk : ∀ (H1 : Heap) (locs1 : List Loc), Wd s D A (wdM τ σ ad) H1 locs1 → W p l e R s m args below meth c H1 locs1 0 0 Q (F0 m (pc + 3) ls (.int o :: rest))) : W p l e R s m args below meth c H locs 0 0 Q (F0 m pc ls (.long x2 :: .long x1 :: .long x0 :: rest)) :=
  cr_i w E.C (va_runS (As := [.long x0, .long x1, .long x2]) (rest := rest) E.fix (c_Mod_in l D τ B σ ad x0 x1 x2 o h H.size) (va_cwS 3 E.w (tw_pre (tw_good k1834) (l := [_, _, _]) (List.forall_mem_cons.mpr ⟨hlk, List.forall_mem_cons.mpr ⟨k1833, List.forall_mem_cons.mpr ⟨k14, fun _ h => absurd h List.not_mem_nil⟩⟩⟩)) rfl rfl rfl (by decide +kernel) (E.rm hlev (by decide))) (wd_pre w E.C [.long x0, .long x1, .long x2]) rfl rfl hsz rfl (lv_room hr) hd ⟨Nat.zero_le _, Nat.zero_le _⟩) kk

theorem d_Mod_refuse_0 : decode prog_14_method_3_code 0 = .ok (.aload_n 0, 1) := by decide +kernel
theorem d_Mod_refuse_1 : decode prog_14_method_3_code 1 = .ok (.iload_n 1, 1) := by decide +kernel
theorem d_Mod_refuse_2 : decode prog_14_method_3_code 2 = .ok (.ifCond .eq 7, 3) := by decide +kernel
theorem d_Mod_refuse_5 : decode prog_14_method_3_code 5 = .ok (.iconst 1, 1) := by decide +kernel
theorem d_Mod_refuse_6 : decode prog_14_method_3_code 6 = .ok (.goto 12, 3) := by decide +kernel
theorem d_Mod_refuse_9 : decode prog_14_method_3_code 9 = .ok (.iload_n 2, 1) := by decide +kernel
theorem d_Mod_refuse_10 : decode prog_14_method_3_code 10 = .ok (.ifCond .eq 7, 3) := by decide +kernel
theorem d_Mod_refuse_13 : decode prog_14_method_3_code 13 = .ok (.iconst 2, 1) := by decide +kernel
theorem d_Mod_refuse_14 : decode prog_14_method_3_code 14 = .ok (.goto 4, 3) := by decide +kernel
theorem d_Mod_refuse_17 : decode prog_14_method_3_code 17 = .ok (.iconst 0, 1) := by decide +kernel
theorem d_Mod_refuse_18 : decode prog_14_method_3_code 18 = .ok (.putfield 85, 3) := by decide +kernel
theorem d_Mod_refuse_21 : decode prog_14_method_3_code 21 = .ok (.aload_n 0, 1) := by decide +kernel
theorem d_Mod_refuse_22 : decode prog_14_method_3_code 22 = .ok (.getfield 85, 3) := by decide +kernel
theorem d_Mod_refuse_25 : decode prog_14_method_3_code 25 = .ok (.ifCond .le 7, 3) := by decide +kernel
theorem d_Mod_refuse_28 : decode prog_14_method_3_code 28 = .ok (.iconst 1, 1) := by decide +kernel
theorem d_Mod_refuse_29 : decode prog_14_method_3_code 29 = .ok (.goto 4, 3) := by decide +kernel
theorem d_Mod_refuse_32 : decode prog_14_method_3_code 32 = .ok (.iconst 0, 1) := by decide +kernel
theorem d_Mod_refuse_33 : decode prog_14_method_3_code 33 = .ok (.ireturn, 1) := by decide +kernel
def F_Mod_refuse_33 (σ : Sg) (s0 : Int32) : Option (Sg × Int32) := ck (s0 = 0 ∨ s0 = 1) (some (σ, s0))
set_option maxRecDepth 10000 in
set_option maxHeartbeats 4000000 in
theorem bt_Mod_refuse_33 {p : Program} {l : Launch} {e : Env} {R : Room} {s : State} {m : MethodId} {args : Array Value} {below : List Frame} {meth : Method} {c : Code} {D : va_G} {τ : ClassId × ClassId × ClassId} {B : Nat} {A : Nat → Prop} {ad : Nat → Nat} (E : Cx p R s m args meth c prog_14_method_3_code 3 "DrawingMachineModel" 0 D τ B A) (hret : meth.sig.returnType = (some .boolean)) (o : Sg × Int32) (σ : Sg) (s0 : Int32) (h : F_Mod_refuse_33 σ s0 = some o) {H : Heap} {locs : List Loc} {ls : Array Slot} (w : Wd s D A (wdM τ σ ad) H locs) (hl : lv_has ls 3 []) : W p l e R s m args below meth c H locs 0 0 (QI below args s A D τ (wdM τ o.1 ad) o.2) (F0 m 33 ls [.int s0]) := by
  obtain ⟨c3, h⟩ := ck_some h
  obtain rfl := Option.some.inj h
  exact rt_z E w hret c3 d_Mod_refuse_33
def F_Mod_refuse_18 (σ : Sg) (s1 : Int32) : Option (Sg × Int32) := lt (sI σ 0 s1) (fun σ4 => if (σ4.1 0) ≤ 0 then (F_Mod_refuse_33 σ4 0) else (F_Mod_refuse_33 σ4 1))
set_option maxRecDepth 10000 in
set_option maxHeartbeats 4000000 in
theorem bt_Mod_refuse_18 {p : Program} {l : Launch} {e : Env} {R : Room} {s : State} {m : MethodId} {args : Array Value} {below : List Frame} {meth : Method} {c : Code} {D : va_G} {τ : ClassId × ClassId × ClassId} {B : Nat} {A : Nat → Prop} {ad : Nat → Nat} (E : Cx p R s m args meth c prog_14_method_3_code 3 "DrawingMachineModel" 0 D τ B A) (hret : meth.sig.returnType = (some .boolean)) (o : Sg × Int32) (σ : Sg) (s1 : Int32) (h : F_Mod_refuse_18 σ s1 = some o) {H : Heap} {locs : List Loc} {ls : Array Slot} (w : Wd s D A (wdM τ σ ad) H locs) (hl : lv_has ls 3 [(0, .ref (ad 59))]) : W p l e R s m args below meth c H locs 0 0 (QI below args s A D τ (wdM τ o.1 ad) o.2) (F0 m 18 ls [.int s1, .ref (ad 59)]) := by
  obtain ⟨σ4, e_σ4, h⟩ := lt_some h
  refine pM_Mod_thrown E w k1765 e_σ4 d_Mod_refuse_18 (fun H locs w => ?_)
  refine lv_aload_n E.x E.b d_Mod_refuse_21 rfl (lv_at hl 0 rfl) ?_
  refine gM_Mod_thrown E w k1765 d_Mod_refuse_22 ?_
  refine lv_if_le (tgt := 32) E.x E.b d_Mod_refuse_25 (by decide) (fun c => ?_) (fun c => ?_)
  ·
    replace h := ifT c h
    refine lv_iconst (v := 0) E.x E.b d_Mod_refuse_32 (by decide) ?_
    exact bt_Mod_refuse_33 E hret o σ4 0 h w (lv_sub hl [] rfl)
  ·
    replace h := ifF c h
    refine lv_iconst (v := 1) E.x E.b d_Mod_refuse_28 (by decide) ?_
    refine lv_goto (tgt := 33) E.x E.b d_Mod_refuse_29 (by decide) ?_
    exact bt_Mod_refuse_33 E hret o σ4 1 h w (lv_sub hl [] rfl)
def F_Mod_refuse (σ : Sg) (x0 : Int32) (x1 : Int32) : Option (Sg × Int32) := if x0 = 0 then (if x1 = 0 then (F_Mod_refuse_18 σ 0) else (F_Mod_refuse_18 σ 2)) else (F_Mod_refuse_18 σ 1)
set_option maxRecDepth 10000 in
set_option maxHeartbeats 4000000 in
theorem c_Mod_refuse (l : Launch) (D : va_G) (τ : ClassId × ClassId × ClassId) (B : Nat) (σ : Sg) (ad : Nat → Nat) (x0 : Int32) (x1 : Int32) (o : Sg × Int32) (h : F_Mod_refuse σ x0 x1 = some o) : MI l y_Mod_refuse (Cond.code y_Mod_refuse prog_14_method_3_code 3 (some .boolean)) 0 D τ B [.ref (ad 59), .int x0, .int x1] (wdM τ σ ad) (wdM τ o.1 ad) o.2 := by
  refine en_i (by decide) (Nat.le_of_ble_eq_true rfl) ?_
  intro p e R s m args below meth c H locs ls A E hret w hl
  have E : Cx p R s m args meth c prog_14_method_3_code 3 "DrawingMachineModel" 0 D τ B A := E
  have hl : lv_has ls 3 [(0, .ref (ad 59)), (1, .int x0), (2, .int x1)] := hl
  refine lv_aload_n E.x E.b d_Mod_refuse_0 rfl (lv_at hl 0 rfl) ?_
  refine lv_iload_n E.x E.b d_Mod_refuse_1 rfl (lv_at hl 1 rfl) ?_
  refine lv_if_eq (tgt := 9) E.x E.b d_Mod_refuse_2 (by decide) (fun c => ?_) (fun c => ?_)
  ·
    replace h := ifT c h
    refine lv_iload_n E.x E.b d_Mod_refuse_9 rfl (lv_at hl 2 rfl) ?_
    refine lv_if_eq (tgt := 17) E.x E.b d_Mod_refuse_10 (by decide) (fun c => ?_) (fun c => ?_)
    ·
      replace h := ifT c h
      refine lv_iconst (v := 0) E.x E.b d_Mod_refuse_17 (by decide) ?_
      exact bt_Mod_refuse_18 E hret o σ 0 h w (lv_sub hl [0] rfl)
    ·
      replace h := ifF c h
      refine lv_iconst (v := 2) E.x E.b d_Mod_refuse_13 (by decide) ?_
      refine lv_goto (tgt := 18) E.x E.b d_Mod_refuse_14 (by decide) ?_
      exact bt_Mod_refuse_18 E hret o σ 2 h w (lv_sub hl [0] rfl)
  ·
    replace h := ifF c h
    refine lv_iconst (v := 1) E.x E.b d_Mod_refuse_5 (by decide) ?_
    refine lv_goto (tgt := 18) E.x E.b d_Mod_refuse_6 (by decide) ?_
    exact bt_Mod_refuse_18 E hret o σ 1 h w (lv_sub hl [0] rfl)
theorem clV_Mod_refuse {p : Program} {l : Launch} {e : Env} {R : Room} {s : State} {m : MethodId} {args : Array Value} {below : List Frame} {meth : Method} {c : Code} {H : Heap} {locs : List Loc} {Q : State → Prop} {cc : ByteArray} {nL pc lev : Nat} {own : String} {D : va_G} {τ : ClassId × ClassId × ClassId} {B : Nat} {A : Nat → Prop} {σ : Sg} {ad : Nat → Nat} {ls : Array Slot} {rest : List Value} (E : Cx p R s m args meth c cc nL own lev D τ B A) (w : Wd s D A (wdM τ σ ad) H locs) {x0 : Int32} {x1 : Int32} {o : Sg × Int32} (h : F_Mod_refuse σ x0 x1 = some o) {index : Nat} (hlk : Cond.methodLink own index y_Mod_refuse ∈ tw) (hlev : 0 < lev) (hsz : ls.size = nL) (hr : (rest.map fun v => v.category).sum ≤ 8) (hd : decode cc pc = .ok (.invokevirtual index, 3)) (kk : ∀ (H1 : Heap) (locs1 : List Loc), Wd s D A (wdM τ o.1 ad) H1 locs1 → W p l e R s m args below meth c H1 locs1 0 0 Q (F0 m (pc + 3) ls (.int o.2 :: rest))) : W p l e R s m args below meth c H locs 0 0 Q (F0 m pc ls (.int x1 :: .int x0 :: .ref (ad 59) :: rest)) :=
  cr_i w E.C (va_runV (As := [.int x0, .int x1]) (rest := rest) E.fix (c_Mod_refuse l D τ B σ ad x0 x1 o h H.size) (cwV 2 E.w (tw_pre (tw_good k1838) (l := [_, _, _, _]) (List.forall_mem_cons.mpr ⟨hlk, List.forall_mem_cons.mpr ⟨k1837, List.forall_mem_cons.mpr ⟨ks44, List.forall_mem_cons.mpr ⟨k14, fun _ h => absurd h List.not_mem_nil⟩⟩⟩⟩)) rfl rfl rfl (by decide +kernel) (E.rm hlev (by decide))) (wd_preV w E.C [.int x0, .int x1] rcM_Mod rfl) rfl rfl hsz rfl (lv_room hr) hd ⟨Nat.zero_le _, Nat.zero_le _⟩) kk

theorem d_Cmd_in_0 : decode prog_15_method_3_code 0 = .ok (.lload_n 0, 1) := by decide +kernel
theorem d_Cmd_in_1 : decode prog_15_method_3_code 1 = .ok (.lload_n 2, 1) := by decide +kernel
theorem d_Cmd_in_2 : decode prog_15_method_3_code 2 = .ok (.lcmp, 1) := by decide +kernel
theorem d_Cmd_in_3 : decode prog_15_method_3_code 3 = .ok (.ifCond .lt 14, 3) := by decide +kernel
theorem d_Cmd_in_6 : decode prog_15_method_3_code 6 = .ok (.lload_n 0, 1) := by decide +kernel
theorem d_Cmd_in_7 : decode prog_15_method_3_code 7 = .ok (.lload 4, 2) := by decide +kernel
theorem d_Cmd_in_9 : decode prog_15_method_3_code 9 = .ok (.lcmp, 1) := by decide +kernel
theorem d_Cmd_in_10 : decode prog_15_method_3_code 10 = .ok (.ifCond .gt 7, 3) := by decide +kernel
theorem d_Cmd_in_13 : decode prog_15_method_3_code 13 = .ok (.iconst 1, 1) := by decide +kernel
theorem d_Cmd_in_14 : decode prog_15_method_3_code 14 = .ok (.goto 4, 3) := by decide +kernel
theorem d_Cmd_in_17 : decode prog_15_method_3_code 17 = .ok (.iconst 0, 1) := by decide +kernel
theorem d_Cmd_in_18 : decode prog_15_method_3_code 18 = .ok (.ireturn, 1) := by decide +kernel
def F_Cmd_in_18  (s0 : Int32) : Option (Int32) := ck (s0 = 0 ∨ s0 = 1) (some s0)
set_option maxRecDepth 10000 in
set_option maxHeartbeats 4000000 in
theorem bt_Cmd_in_18 {p : Program} {l : Launch} {e : Env} {R : Room} {s : State} {m : MethodId} {args : Array Value} {below : List Frame} {meth : Method} {c : Code} {D : va_G} {τ : ClassId × ClassId × ClassId} {B : Nat} {A : Nat → Prop} {ad : Nat → Nat} {σ0 : Sg} (E : Cx p R s m args meth c prog_15_method_3_code 6 "DrawingMachineModel$DrawCommandsModel" 0 D τ B A) (hret : meth.sig.returnType = (some .boolean)) (o : Int32) (s0 : Int32) (h : F_Cmd_in_18 s0 = some o) {H : Heap} {locs : List Loc} {ls : Array Slot} (w : Wd s D A (wdM τ σ0 ad) H locs) (hl : lv_has ls 6 []) : W p l e R s m args below meth c H locs 0 0 (QI below args s A D τ (wdM τ σ0 ad) o) (F0 m 18 ls [.int s0]) := by
  obtain ⟨c2, h⟩ := ck_some h
  obtain rfl := Option.some.inj h
  exact rt_z E w hret c2 d_Cmd_in_18
def F_Cmd_in_17  : Option (Int32) := F_Cmd_in_18 0
set_option maxRecDepth 10000 in
set_option maxHeartbeats 4000000 in
theorem bt_Cmd_in_17 {p : Program} {l : Launch} {e : Env} {R : Room} {s : State} {m : MethodId} {args : Array Value} {below : List Frame} {meth : Method} {c : Code} {D : va_G} {τ : ClassId × ClassId × ClassId} {B : Nat} {A : Nat → Prop} {ad : Nat → Nat} {σ0 : Sg} (E : Cx p R s m args meth c prog_15_method_3_code 6 "DrawingMachineModel$DrawCommandsModel" 0 D τ B A) (hret : meth.sig.returnType = (some .boolean)) (o : Int32) (h : F_Cmd_in_17 = some o) {H : Heap} {locs : List Loc} {ls : Array Slot} (w : Wd s D A (wdM τ σ0 ad) H locs) (hl : lv_has ls 6 []) : W p l e R s m args below meth c H locs 0 0 (QI below args s A D τ (wdM τ σ0 ad) o) (F0 m 17 ls []) := by
  refine lv_iconst (v := 0) E.x E.b d_Cmd_in_17 (by decide) ?_
  exact bt_Cmd_in_18 E hret o 0 h w (lv_sub hl [] rfl)
def F_Cmd_in  (x0 : Int64) (x1 : Int64) (x2 : Int64) : Option (Int32) := if x0 < x1 then (F_Cmd_in_17) else (if x2 < x0 then (F_Cmd_in_17) else (F_Cmd_in_18 1))
set_option maxRecDepth 10000 in
set_option maxHeartbeats 4000000 in
theorem c_Cmd_in (l : Launch) (D : va_G) (τ : ClassId × ClassId × ClassId) (B : Nat) (σ0 : Sg) (ad : Nat → Nat) (x0 : Int64) (x1 : Int64) (x2 : Int64) (o : Int32) (h : F_Cmd_in x0 x1 x2 = some o) : MI l y_Cmd_in (Cond.code y_Cmd_in prog_15_method_3_code 6 (some .boolean)) 0 D τ B [.long x0, .long x1, .long x2] (wdM τ σ0 ad) (wdM τ σ0 ad) o := by
  refine en_i (by decide) (Nat.le_of_ble_eq_true rfl) ?_
  intro p e R s m args below meth c H locs ls A E hret w hl
  have E : Cx p R s m args meth c prog_15_method_3_code 6 "DrawingMachineModel$DrawCommandsModel" 0 D τ B A := E
  have hl : lv_has ls 6 [(0, .long x0), (2, .long x1), (4, .long x2)] := hl
  refine lv_lload_n E.x E.b d_Cmd_in_0 rfl (lv_at hl 0 rfl) ?_
  refine lv_lload_n E.x E.b d_Cmd_in_1 rfl (lv_at hl 1 rfl) ?_
  refine W.lcmp E.x E.b d_Cmd_in_2 ?_
  refine lv_if_lt (tgt := 17) E.x E.b d_Cmd_in_3 (by decide) (fun c => ?_) (fun c => ?_)
  ·
    replace h := ifT (lgc_lt.mp c) h
    exact bt_Cmd_in_17 E hret o h w (lv_sub hl [] rfl)
  ·
    replace h := ifF (fun h9 => c (lgc_lt.mpr h9)) h
    refine lv_lload_n E.x E.b d_Cmd_in_6 rfl (lv_at hl 0 rfl) ?_
    refine lv_lload E.x E.b d_Cmd_in_7 (lv_at hl 2 rfl) ?_
    refine W.lcmp E.x E.b d_Cmd_in_9 ?_
    refine lv_if_gt (tgt := 17) E.x E.b d_Cmd_in_10 (by decide) (fun c => ?_) (fun c => ?_)
    ·
      replace h := ifT (lgc_gt.mp c) h
      exact bt_Cmd_in_17 E hret o h w (lv_sub hl [] rfl)
    ·
      replace h := ifF (fun h9 => c (lgc_gt.mpr h9)) h
      refine lv_iconst (v := 1) E.x E.b d_Cmd_in_13 (by decide) ?_
      refine lv_goto (tgt := 18) E.x E.b d_Cmd_in_14 (by decide) ?_
      exact bt_Cmd_in_18 E hret o 1 h w (lv_sub hl [] rfl)
theorem clS_Cmd_in {p : Program} {l : Launch} {e : Env} {R : Room} {s : State} {m : MethodId} {args : Array Value} {below : List Frame} {meth : Method} {c : Code} {H : Heap} {locs : List Loc} {Q : State → Prop} {cc : ByteArray} {nL pc lev : Nat} {own : String} {D : va_G} {τ : ClassId × ClassId × ClassId} {B : Nat} {A : Nat → Prop} {σ : Sg} {ad : Nat → Nat} {ls : Array Slot} {rest : List Value} (E : Cx p R s m args meth c cc nL own lev D τ B A) (w : Wd s D A (wdM τ σ ad) H locs) {x0 : Int64} {x1 : Int64} {x2 : Int64} {o : Int32} (h : F_Cmd_in x0 x1 x2 = some o) {index : Nat} (hlk : Cond.methodLink own index y_Cmd_in ∈ tw) (hlev : 0 < lev) (hsz : ls.size = nL) (hr : (rest.map fun v => v.category).sum ≤ 8) (hd : decode cc pc = .ok (.invokestatic index, 3)) (kk : ∀ (H1 : Heap) (locs1 : List Loc), Wd s D A (wdM τ σ ad) H1 locs1 → W p l e R s m args below meth c H1 locs1 0 0 Q (F0 m (pc + 3) ls (.int o :: rest))) : W p l e R s m args below meth c H locs 0 0 Q (F0 m pc ls (.long x2 :: .long x1 :: .long x0 :: rest)) :=
  cr_i w E.C (va_runS (As := [.long x0, .long x1, .long x2]) (rest := rest) E.fix (c_Cmd_in l D τ B σ ad x0 x1 x2 o h H.size) (va_cwS 3 E.w (tw_pre (tw_good k1846) (l := [_, _, _]) (List.forall_mem_cons.mpr ⟨hlk, List.forall_mem_cons.mpr ⟨k1845, List.forall_mem_cons.mpr ⟨k15, fun _ h => absurd h List.not_mem_nil⟩⟩⟩)) rfl rfl rfl (by decide +kernel) (E.rm hlev (by decide))) (wd_pre w E.C [.long x0, .long x1, .long x2]) rfl rfl hsz rfl (lv_room hr) hd ⟨Nat.zero_le _, Nat.zero_le _⟩) kk

theorem d_Cmd_refuse_0 : decode prog_15_method_2_code 0 = .ok (.aload_n 0, 1) := by decide +kernel
theorem d_Cmd_refuse_1 : decode prog_15_method_2_code 1 = .ok (.iload_n 1, 1) := by decide +kernel
theorem d_Cmd_refuse_2 : decode prog_15_method_2_code 2 = .ok (.ifCond .eq 7, 3) := by decide +kernel
theorem d_Cmd_refuse_5 : decode prog_15_method_2_code 5 = .ok (.iconst 1, 1) := by decide +kernel
theorem d_Cmd_refuse_6 : decode prog_15_method_2_code 6 = .ok (.goto 4, 3) := by decide +kernel
theorem d_Cmd_refuse_9 : decode prog_15_method_2_code 9 = .ok (.iconst 0, 1) := by decide +kernel
theorem d_Cmd_refuse_10 : decode prog_15_method_2_code 10 = .ok (.putfield 44, 3) := by decide +kernel
theorem d_Cmd_refuse_13 : decode prog_15_method_2_code 13 = .ok (.iload_n 1, 1) := by decide +kernel
theorem d_Cmd_refuse_14 : decode prog_15_method_2_code 14 = .ok (.ireturn, 1) := by decide +kernel
def F_Cmd_refuse_10 (σ : Sg) (v1 : Int32) (s1 : Int32) : Option (Sg × Int32) := lt (sI σ 7 s1) (fun σ3 => ck (v1 = 0 ∨ v1 = 1) (some (σ3, v1)))
set_option maxRecDepth 10000 in
set_option maxHeartbeats 4000000 in
theorem bt_Cmd_refuse_10 {p : Program} {l : Launch} {e : Env} {R : Room} {s : State} {m : MethodId} {args : Array Value} {below : List Frame} {meth : Method} {c : Code} {D : va_G} {τ : ClassId × ClassId × ClassId} {B : Nat} {A : Nat → Prop} {ad : Nat → Nat} (E : Cx p R s m args meth c prog_15_method_2_code 2 "DrawingMachineModel$DrawCommandsModel" 0 D τ B A) (hret : meth.sig.returnType = (some .boolean)) (o : Sg × Int32) (σ : Sg) (v1 : Int32) (s1 : Int32) (h : F_Cmd_refuse_10 σ v1 s1 = some o) {H : Heap} {locs : List Loc} {ls : Array Slot} (w : Wd s D A (wdM τ σ ad) H locs) (hl : lv_has ls 2 [(1, .int v1)]) : W p l e R s m args below meth c H locs 0 0 (QI below args s A D τ (wdM τ o.1 ad) o.2) (F0 m 10 ls [.int s1, .ref (ad 60)]) := by
  obtain ⟨σ3, e_σ3, h⟩ := lt_some h
  refine pM_Cmd_thrown E w k1443 e_σ3 d_Cmd_refuse_10 (fun H locs w => ?_)
  refine lv_iload_n E.x E.b d_Cmd_refuse_13 rfl (lv_at hl 0 rfl) ?_
  obtain ⟨c4, h⟩ := ck_some h
  obtain rfl := Option.some.inj h
  exact rt_z E w hret c4 d_Cmd_refuse_14
def F_Cmd_refuse (σ : Sg) (x0 : Int32) : Option (Sg × Int32) := if x0 = 0 then (F_Cmd_refuse_10 σ x0 0) else (F_Cmd_refuse_10 σ x0 1)
set_option maxRecDepth 10000 in
set_option maxHeartbeats 4000000 in
theorem c_Cmd_refuse (l : Launch) (D : va_G) (τ : ClassId × ClassId × ClassId) (B : Nat) (σ : Sg) (ad : Nat → Nat) (x0 : Int32) (o : Sg × Int32) (h : F_Cmd_refuse σ x0 = some o) : MI l y_Cmd_refuse (Cond.code y_Cmd_refuse prog_15_method_2_code 2 (some .boolean)) 0 D τ B [.ref (ad 60), .int x0] (wdM τ σ ad) (wdM τ o.1 ad) o.2 := by
  refine en_i (by decide) (Nat.le_of_ble_eq_true rfl) ?_
  intro p e R s m args below meth c H locs ls A E hret w hl
  have E : Cx p R s m args meth c prog_15_method_2_code 2 "DrawingMachineModel$DrawCommandsModel" 0 D τ B A := E
  have hl : lv_has ls 2 [(0, .ref (ad 60)), (1, .int x0)] := hl
  refine lv_aload_n E.x E.b d_Cmd_refuse_0 rfl (lv_at hl 0 rfl) ?_
  refine lv_iload_n E.x E.b d_Cmd_refuse_1 rfl (lv_at hl 1 rfl) ?_
  refine lv_if_eq (tgt := 9) E.x E.b d_Cmd_refuse_2 (by decide) (fun c => ?_) (fun c => ?_)
  ·
    replace h := ifT c h
    refine lv_iconst (v := 0) E.x E.b d_Cmd_refuse_9 (by decide) ?_
    exact bt_Cmd_refuse_10 E hret o σ x0 0 h w (lv_sub hl [1] rfl)
  ·
    replace h := ifF c h
    refine lv_iconst (v := 1) E.x E.b d_Cmd_refuse_5 (by decide) ?_
    refine lv_goto (tgt := 10) E.x E.b d_Cmd_refuse_6 (by decide) ?_
    exact bt_Cmd_refuse_10 E hret o σ x0 1 h w (lv_sub hl [1] rfl)
theorem clV_Cmd_refuse {p : Program} {l : Launch} {e : Env} {R : Room} {s : State} {m : MethodId} {args : Array Value} {below : List Frame} {meth : Method} {c : Code} {H : Heap} {locs : List Loc} {Q : State → Prop} {cc : ByteArray} {nL pc lev : Nat} {own : String} {D : va_G} {τ : ClassId × ClassId × ClassId} {B : Nat} {A : Nat → Prop} {σ : Sg} {ad : Nat → Nat} {ls : Array Slot} {rest : List Value} (E : Cx p R s m args meth c cc nL own lev D τ B A) (w : Wd s D A (wdM τ σ ad) H locs) {x0 : Int32} {o : Sg × Int32} (h : F_Cmd_refuse σ x0 = some o) {index : Nat} (hlk : Cond.methodLink own index y_Cmd_refuse ∈ tw) (hlev : 0 < lev) (hsz : ls.size = nL) (hr : (rest.map fun v => v.category).sum ≤ 8) (hd : decode cc pc = .ok (.invokevirtual index, 3)) (kk : ∀ (H1 : Heap) (locs1 : List Loc), Wd s D A (wdM τ o.1 ad) H1 locs1 → W p l e R s m args below meth c H1 locs1 0 0 Q (F0 m (pc + 3) ls (.int o.2 :: rest))) : W p l e R s m args below meth c H locs 0 0 Q (F0 m pc ls (.int x0 :: .ref (ad 60) :: rest)) :=
  cr_i w E.C (va_runV (As := [.int x0]) (rest := rest) E.fix (c_Cmd_refuse l D τ B σ ad x0 o h H.size) (cwV 1 E.w (tw_pre (tw_good k1850) (l := [_, _, _, _]) (List.forall_mem_cons.mpr ⟨hlk, List.forall_mem_cons.mpr ⟨k1849, List.forall_mem_cons.mpr ⟨ks45, List.forall_mem_cons.mpr ⟨k15, fun _ h => absurd h List.not_mem_nil⟩⟩⟩⟩)) rfl rfl rfl (by decide +kernel) (E.rm hlev (by decide))) (wd_preV w E.C [.int x0] rcM_Cmd rfl) rfl rfl hsz rfl (lv_room hr) hd ⟨Nat.zero_le _, Nat.zero_le _⟩) kk

theorem d_Cmd_frame_0 : decode prog_15_method_14_code 0 = .ok (.aload_n 0, 1) := by decide +kernel
theorem d_Cmd_frame_1 : decode prog_15_method_14_code 1 = .ok (.iload_n 1, 1) := by decide +kernel
theorem d_Cmd_frame_2 : decode prog_15_method_14_code 2 = .ok (.i2l, 1) := by decide +kernel
theorem d_Cmd_frame_3 : decode prog_15_method_14_code 3 = .ok (.lconst 1, 1) := by decide +kernel
theorem d_Cmd_frame_4 : decode prog_15_method_14_code 4 = .ok (.ldc2_w 75, 3) := by decide +kernel
theorem d_Cmd_frame_7 : decode prog_15_method_14_code 7 = .ok (.invokestatic 51, 3) := by decide +kernel
theorem d_Cmd_frame_10 : decode prog_15_method_14_code 10 = .ok (.ifCond .eq 15, 3) := by decide +kernel
theorem d_Cmd_frame_13 : decode prog_15_method_14_code 13 = .ok (.iload_n 2, 1) := by decide +kernel
theorem d_Cmd_frame_14 : decode prog_15_method_14_code 14 = .ok (.i2l, 1) := by decide +kernel
theorem d_Cmd_frame_15 : decode prog_15_method_14_code 15 = .ok (.lconst 1, 1) := by decide +kernel
theorem d_Cmd_frame_16 : decode prog_15_method_14_code 16 = .ok (.ldc2_w 75, 3) := by decide +kernel
theorem d_Cmd_frame_19 : decode prog_15_method_14_code 19 = .ok (.invokestatic 51, 3) := by decide +kernel
theorem d_Cmd_frame_22 : decode prog_15_method_14_code 22 = .ok (.ifCond .ne 7, 3) := by decide +kernel
theorem d_Cmd_frame_25 : decode prog_15_method_14_code 25 = .ok (.iconst 1, 1) := by decide +kernel
theorem d_Cmd_frame_26 : decode prog_15_method_14_code 26 = .ok (.goto 4, 3) := by decide +kernel
theorem d_Cmd_frame_29 : decode prog_15_method_14_code 29 = .ok (.iconst 0, 1) := by decide +kernel
theorem d_Cmd_frame_30 : decode prog_15_method_14_code 30 = .ok (.invokevirtual 120, 3) := by decide +kernel
theorem d_Cmd_frame_33 : decode prog_15_method_14_code 33 = .ok (.ifCond .eq 4, 3) := by decide +kernel
theorem d_Cmd_frame_36 : decode prog_15_method_14_code 36 = .ok (.return_, 1) := by decide +kernel
theorem d_Cmd_frame_37 : decode prog_15_method_14_code 37 = .ok (.aload_n 0, 1) := by decide +kernel
theorem d_Cmd_frame_38 : decode prog_15_method_14_code 38 = .ok (.iload_n 1, 1) := by decide +kernel
theorem d_Cmd_frame_39 : decode prog_15_method_14_code 39 = .ok (.putfield 13, 3) := by decide +kernel
theorem d_Cmd_frame_42 : decode prog_15_method_14_code 42 = .ok (.aload_n 0, 1) := by decide +kernel
theorem d_Cmd_frame_43 : decode prog_15_method_14_code 43 = .ok (.iload_n 2, 1) := by decide +kernel
theorem d_Cmd_frame_44 : decode prog_15_method_14_code 44 = .ok (.putfield 17, 3) := by decide +kernel
theorem d_Cmd_frame_47 : decode prog_15_method_14_code 47 = .ok (.return_, 1) := by decide +kernel
def F_Cmd_frame_30 (σ : Sg) (v1 : Int32) (v2 : Int32) (s1 : Int32) : Option (Sg) := bd (F_Cmd_refuse σ s1) (fun o6 => if o6.2 = 0 then (lt (sI o6.1 8 v1) (fun σ7 => lt (sI σ7 9 v2) (fun σ8 => some σ8))) else (some o6.1))
set_option maxRecDepth 10000 in
set_option maxHeartbeats 4000000 in
theorem bt_Cmd_frame_30 {p : Program} {l : Launch} {e : Env} {R : Room} {s : State} {m : MethodId} {args : Array Value} {below : List Frame} {meth : Method} {c : Code} {D : va_G} {τ : ClassId × ClassId × ClassId} {B : Nat} {A : Nat → Prop} {ad : Nat → Nat} (E : Cx p R s m args meth c prog_15_method_14_code 3 "DrawingMachineModel$DrawCommandsModel" 1 D τ B A) (hret : meth.sig.returnType = none) (o : Sg) (σ : Sg) (v1 : Int32) (v2 : Int32) (s1 : Int32) (h : F_Cmd_frame_30 σ v1 v2 s1 = some o) {H : Heap} {locs : List Loc} {ls : Array Slot} (w : Wd s D A (wdM τ σ ad) H locs) (hl : lv_has ls 3 [(0, .ref (ad 60)), (1, .int v1), (2, .int v2)]) : W p l e R s m args below meth c H locs 0 0 (QV below args s A D τ (wdM τ o ad)) (F0 m 30 ls [.int s1, .ref (ad 60)]) := by
  obtain ⟨o6, h_o6, h⟩ := bd_some h
  refine clV_Cmd_refuse E w (x0 := s1) h_o6 k1847 (by decide) hl.1 (Nat.le_of_ble_eq_true rfl) d_Cmd_frame_30 (fun H locs w => ?_)
  refine lv_if_eq (tgt := 37) E.x E.b d_Cmd_frame_33 (by decide) (fun c => ?_) (fun c => ?_)
  ·
    replace h := ifT c h
    refine lv_aload_n E.x E.b d_Cmd_frame_37 rfl (lv_at hl 0 rfl) ?_
    refine lv_iload_n E.x E.b d_Cmd_frame_38 rfl (lv_at hl 1 rfl) ?_
    obtain ⟨σ7, e_σ7, h⟩ := lt_some h
    refine pM_Cmd_wide E w k1446 e_σ7 d_Cmd_frame_39 (fun H locs w => ?_)
    refine lv_aload_n E.x E.b d_Cmd_frame_42 rfl (lv_at hl 0 rfl) ?_
    refine lv_iload_n E.x E.b d_Cmd_frame_43 rfl (lv_at hl 2 rfl) ?_
    obtain ⟨σ8, e_σ8, h⟩ := lt_some h
    refine pM_Cmd_high E w k1447 e_σ8 d_Cmd_frame_44 (fun H locs w => ?_)
    obtain rfl := Option.some.inj h
    exact rt_v E w hret d_Cmd_frame_47
  ·
    replace h := ifF c h
    obtain rfl := Option.some.inj h
    exact rt_v E w hret d_Cmd_frame_36
def F_Cmd_frame_25 (σ : Sg) (v1 : Int32) (v2 : Int32) : Option (Sg) := F_Cmd_frame_30 σ v1 v2 1
set_option maxRecDepth 10000 in
set_option maxHeartbeats 4000000 in
theorem bt_Cmd_frame_25 {p : Program} {l : Launch} {e : Env} {R : Room} {s : State} {m : MethodId} {args : Array Value} {below : List Frame} {meth : Method} {c : Code} {D : va_G} {τ : ClassId × ClassId × ClassId} {B : Nat} {A : Nat → Prop} {ad : Nat → Nat} (E : Cx p R s m args meth c prog_15_method_14_code 3 "DrawingMachineModel$DrawCommandsModel" 1 D τ B A) (hret : meth.sig.returnType = none) (o : Sg) (σ : Sg) (v1 : Int32) (v2 : Int32) (h : F_Cmd_frame_25 σ v1 v2 = some o) {H : Heap} {locs : List Loc} {ls : Array Slot} (w : Wd s D A (wdM τ σ ad) H locs) (hl : lv_has ls 3 [(0, .ref (ad 60)), (1, .int v1), (2, .int v2)]) : W p l e R s m args below meth c H locs 0 0 (QV below args s A D τ (wdM τ o ad)) (F0 m 25 ls [.ref (ad 60)]) := by
  refine lv_iconst (v := 1) E.x E.b d_Cmd_frame_25 (by decide) ?_
  refine lv_goto (tgt := 30) E.x E.b d_Cmd_frame_26 (by decide) ?_
  exact bt_Cmd_frame_30 E hret o σ v1 v2 1 h w (lv_sub hl [0, 1, 2] rfl)
def F_Cmd_frame (σ : Sg) (x0 : Int32) (x1 : Int32) : Option (Sg) := bd (F_Cmd_in x0.toInt64 1 128) (fun o9 => if o9 = 0 then (F_Cmd_frame_25 σ x0 x1) else (bd (F_Cmd_in x1.toInt64 1 128) (fun o10 => if o10 = 0 then (F_Cmd_frame_25 σ x0 x1) else (F_Cmd_frame_30 σ x0 x1 0))))
set_option maxRecDepth 10000 in
set_option maxHeartbeats 4000000 in
theorem c_Cmd_frame (l : Launch) (D : va_G) (τ : ClassId × ClassId × ClassId) (B : Nat) (σ : Sg) (ad : Nat → Nat) (x0 : Int32) (x1 : Int32) (o : Sg) (h : F_Cmd_frame σ x0 x1 = some o) : MV l y_Cmd_frame (Cond.code y_Cmd_frame prog_15_method_14_code 3 none) 1 D τ B [.ref (ad 60), .int x0, .int x1] (wdM τ σ ad) (wdM τ o ad) := by
  refine en_v (by decide) (Nat.le_of_ble_eq_true rfl) ?_
  intro p e R s m args below meth c H locs ls A E hret w hl
  have E : Cx p R s m args meth c prog_15_method_14_code 3 "DrawingMachineModel$DrawCommandsModel" 1 D τ B A := E
  have hl : lv_has ls 3 [(0, .ref (ad 60)), (1, .int x0), (2, .int x1)] := hl
  refine lv_aload_n E.x E.b d_Cmd_frame_0 rfl (lv_at hl 0 rfl) ?_
  refine lv_iload_n E.x E.b d_Cmd_frame_1 rfl (lv_at hl 1 rfl) ?_
  refine lv_i2l (v := x0.toInt64) E.x E.b d_Cmd_frame_2 rfl ?_
  refine lv_lconst (v := 1) E.x E.b d_Cmd_frame_3 (by decide) ?_
  refine lv_ldc2 (v := 128) E.x E.b E.o (E.w _ k1843) d_Cmd_frame_4 ?_
  obtain ⟨o9, h_o9, h⟩ := bd_some h
  refine clS_Cmd_in E w (x0 := x0.toInt64) (x1 := 1) (x2 := 128) h_o9 k1844 (by decide) hl.1 (Nat.le_of_ble_eq_true rfl) d_Cmd_frame_7 (fun H locs w => ?_)
  refine lv_if_eq (tgt := 25) E.x E.b d_Cmd_frame_10 (by decide) (fun c => ?_) (fun c => ?_)
  ·
    replace h := ifT c h
    exact bt_Cmd_frame_25 E hret o σ x0 x1 h w (lv_sub hl [0, 1, 2] rfl)
  ·
    replace h := ifF c h
    refine lv_iload_n E.x E.b d_Cmd_frame_13 rfl (lv_at hl 2 rfl) ?_
    refine lv_i2l (v := x1.toInt64) E.x E.b d_Cmd_frame_14 rfl ?_
    refine lv_lconst (v := 1) E.x E.b d_Cmd_frame_15 (by decide) ?_
    refine lv_ldc2 (v := 128) E.x E.b E.o (E.w _ k1843) d_Cmd_frame_16 ?_
    obtain ⟨o10, h_o10, h⟩ := bd_some h
    refine clS_Cmd_in E w (x0 := x1.toInt64) (x1 := 1) (x2 := 128) h_o10 k1844 (by decide) hl.1 (Nat.le_of_ble_eq_true rfl) d_Cmd_frame_19 (fun H locs w => ?_)
    refine lv_if_ne (tgt := 29) E.x E.b d_Cmd_frame_22 (by decide) (fun c => ?_) (fun c => ?_)
    ·
      replace h := ifF c h
      refine lv_iconst (v := 0) E.x E.b d_Cmd_frame_29 (by decide) ?_
      exact bt_Cmd_frame_30 E hret o σ x0 x1 0 h w (lv_sub hl [0, 1, 2] rfl)
    ·
      replace h := ifT c h
      exact bt_Cmd_frame_25 E hret o σ x0 x1 h w (lv_sub hl [0, 1, 2] rfl)
theorem clV_Cmd_frame {p : Program} {l : Launch} {e : Env} {R : Room} {s : State} {m : MethodId} {args : Array Value} {below : List Frame} {meth : Method} {c : Code} {H : Heap} {locs : List Loc} {Q : State → Prop} {cc : ByteArray} {nL pc lev : Nat} {own : String} {D : va_G} {τ : ClassId × ClassId × ClassId} {B : Nat} {A : Nat → Prop} {σ : Sg} {ad : Nat → Nat} {ls : Array Slot} {rest : List Value} (E : Cx p R s m args meth c cc nL own lev D τ B A) (w : Wd s D A (wdM τ σ ad) H locs) {x0 : Int32} {x1 : Int32} {o : Sg} (h : F_Cmd_frame σ x0 x1 = some o) {index : Nat} (hlk : Cond.methodLink own index y_Cmd_frame ∈ tw) (hlev : 1 < lev) (hsz : ls.size = nL) (hr : (rest.map fun v => v.category).sum ≤ 8) (hd : decode cc pc = .ok (.invokevirtual index, 3)) (kk : ∀ (H1 : Heap) (locs1 : List Loc), Wd s D A (wdM τ o ad) H1 locs1 → W p l e R s m args below meth c H1 locs1 0 0 Q (F0 m (pc + 3) ls (rest))) : W p l e R s m args below meth c H locs 0 0 Q (F0 m pc ls (.int x1 :: .int x0 :: .ref (ad 60) :: rest)) :=
  cr_v w E.C (va_runV (As := [.int x0, .int x1]) (rest := rest) E.fix (c_Cmd_frame l D τ B σ ad x0 x1 o h H.size) (cwV 2 E.w (tw_pre (tw_good k1842) (l := [_, _, _, _]) (List.forall_mem_cons.mpr ⟨hlk, List.forall_mem_cons.mpr ⟨k1840, List.forall_mem_cons.mpr ⟨k1841, List.forall_mem_cons.mpr ⟨k15, fun _ h => absurd h List.not_mem_nil⟩⟩⟩⟩)) rfl rfl rfl (by decide +kernel) (E.rm hlev (by decide))) (wd_preV w E.C [.int x0, .int x1] rcM_Cmd rfl) rfl rfl hsz rfl (lv_room hr) hd ⟨Nat.zero_le _, Nat.zero_le _⟩) kk

theorem d_Ptm_in_0 : decode prog_17_method_3_code 0 = .ok (.iload_n 0, 1) := by decide +kernel
theorem d_Ptm_in_1 : decode prog_17_method_3_code 1 = .ok (.iload_n 1, 1) := by decide +kernel
theorem d_Ptm_in_2 : decode prog_17_method_3_code 2 = .ok (.if_icmp .lt 12, 3) := by decide +kernel
theorem d_Ptm_in_5 : decode prog_17_method_3_code 5 = .ok (.iload_n 0, 1) := by decide +kernel
theorem d_Ptm_in_6 : decode prog_17_method_3_code 6 = .ok (.iload_n 2, 1) := by decide +kernel
theorem d_Ptm_in_7 : decode prog_17_method_3_code 7 = .ok (.if_icmp .gt 7, 3) := by decide +kernel
theorem d_Ptm_in_10 : decode prog_17_method_3_code 10 = .ok (.iconst 1, 1) := by decide +kernel
theorem d_Ptm_in_11 : decode prog_17_method_3_code 11 = .ok (.goto 4, 3) := by decide +kernel
theorem d_Ptm_in_14 : decode prog_17_method_3_code 14 = .ok (.iconst 0, 1) := by decide +kernel
theorem d_Ptm_in_15 : decode prog_17_method_3_code 15 = .ok (.ireturn, 1) := by decide +kernel
def F_Ptm_in_15  (s0 : Int32) : Option (Int32) := ck (s0 = 0 ∨ s0 = 1) (some s0)
set_option maxRecDepth 10000 in
set_option maxHeartbeats 4000000 in
theorem bt_Ptm_in_15 {p : Program} {l : Launch} {e : Env} {R : Room} {s : State} {m : MethodId} {args : Array Value} {below : List Frame} {meth : Method} {c : Code} {D : va_G} {τ : ClassId × ClassId × ClassId} {B : Nat} {A : Nat → Prop} {ad : Nat → Nat} {σ0 : Sg} (E : Cx p R s m args meth c prog_17_method_3_code 3 "DrawingMachineModel$PlaceTestsModel" 0 D τ B A) (hret : meth.sig.returnType = (some .boolean)) (o : Int32) (s0 : Int32) (h : F_Ptm_in_15 s0 = some o) {H : Heap} {locs : List Loc} {ls : Array Slot} (w : Wd s D A (wdM τ σ0 ad) H locs) (hl : lv_has ls 3 []) : W p l e R s m args below meth c H locs 0 0 (QI below args s A D τ (wdM τ σ0 ad) o) (F0 m 15 ls [.int s0]) := by
  obtain ⟨c2, h⟩ := ck_some h
  obtain rfl := Option.some.inj h
  exact rt_z E w hret c2 d_Ptm_in_15
def F_Ptm_in_14  : Option (Int32) := F_Ptm_in_15 0
set_option maxRecDepth 10000 in
set_option maxHeartbeats 4000000 in
theorem bt_Ptm_in_14 {p : Program} {l : Launch} {e : Env} {R : Room} {s : State} {m : MethodId} {args : Array Value} {below : List Frame} {meth : Method} {c : Code} {D : va_G} {τ : ClassId × ClassId × ClassId} {B : Nat} {A : Nat → Prop} {ad : Nat → Nat} {σ0 : Sg} (E : Cx p R s m args meth c prog_17_method_3_code 3 "DrawingMachineModel$PlaceTestsModel" 0 D τ B A) (hret : meth.sig.returnType = (some .boolean)) (o : Int32) (h : F_Ptm_in_14 = some o) {H : Heap} {locs : List Loc} {ls : Array Slot} (w : Wd s D A (wdM τ σ0 ad) H locs) (hl : lv_has ls 3 []) : W p l e R s m args below meth c H locs 0 0 (QI below args s A D τ (wdM τ σ0 ad) o) (F0 m 14 ls []) := by
  refine lv_iconst (v := 0) E.x E.b d_Ptm_in_14 (by decide) ?_
  exact bt_Ptm_in_15 E hret o 0 h w (lv_sub hl [] rfl)
def F_Ptm_in  (x0 : Int32) (x1 : Int32) (x2 : Int32) : Option (Int32) := if x0 < x1 then (F_Ptm_in_14) else (if x2 < x0 then (F_Ptm_in_14) else (F_Ptm_in_15 1))
set_option maxRecDepth 10000 in
set_option maxHeartbeats 4000000 in
theorem c_Ptm_in (l : Launch) (D : va_G) (τ : ClassId × ClassId × ClassId) (B : Nat) (σ0 : Sg) (ad : Nat → Nat) (x0 : Int32) (x1 : Int32) (x2 : Int32) (o : Int32) (h : F_Ptm_in x0 x1 x2 = some o) : MI l y_Ptm_in (Cond.code y_Ptm_in prog_17_method_3_code 3 (some .boolean)) 0 D τ B [.int x0, .int x1, .int x2] (wdM τ σ0 ad) (wdM τ σ0 ad) o := by
  refine en_i (by decide) (Nat.le_of_ble_eq_true rfl) ?_
  intro p e R s m args below meth c H locs ls A E hret w hl
  have E : Cx p R s m args meth c prog_17_method_3_code 3 "DrawingMachineModel$PlaceTestsModel" 0 D τ B A := E
  have hl : lv_has ls 3 [(0, .int x0), (1, .int x1), (2, .int x2)] := hl
  refine lv_iload_n E.x E.b d_Ptm_in_0 rfl (lv_at hl 0 rfl) ?_
  refine lv_iload_n E.x E.b d_Ptm_in_1 rfl (lv_at hl 1 rfl) ?_
  refine lv_icmp_lt (tgt := 14) E.x E.b d_Ptm_in_2 (by decide) (fun c => ?_) (fun c => ?_)
  ·
    replace h := ifT c h
    exact bt_Ptm_in_14 E hret o h w (lv_sub hl [] rfl)
  ·
    replace h := ifF c h
    refine lv_iload_n E.x E.b d_Ptm_in_5 rfl (lv_at hl 0 rfl) ?_
    refine lv_iload_n E.x E.b d_Ptm_in_6 rfl (lv_at hl 2 rfl) ?_
    refine lv_icmp_gt (tgt := 14) E.x E.b d_Ptm_in_7 (by decide) (fun c => ?_) (fun c => ?_)
    ·
      replace h := ifT c h
      exact bt_Ptm_in_14 E hret o h w (lv_sub hl [] rfl)
    ·
      replace h := ifF c h
      refine lv_iconst (v := 1) E.x E.b d_Ptm_in_10 (by decide) ?_
      refine lv_goto (tgt := 15) E.x E.b d_Ptm_in_11 (by decide) ?_
      exact bt_Ptm_in_15 E hret o 1 h w (lv_sub hl [] rfl)
theorem clS_Ptm_in {p : Program} {l : Launch} {e : Env} {R : Room} {s : State} {m : MethodId} {args : Array Value} {below : List Frame} {meth : Method} {c : Code} {H : Heap} {locs : List Loc} {Q : State → Prop} {cc : ByteArray} {nL pc lev : Nat} {own : String} {D : va_G} {τ : ClassId × ClassId × ClassId} {B : Nat} {A : Nat → Prop} {σ : Sg} {ad : Nat → Nat} {ls : Array Slot} {rest : List Value} (E : Cx p R s m args meth c cc nL own lev D τ B A) (w : Wd s D A (wdM τ σ ad) H locs) {x0 : Int32} {x1 : Int32} {x2 : Int32} {o : Int32} (h : F_Ptm_in x0 x1 x2 = some o) {index : Nat} (hlk : Cond.methodLink own index y_Ptm_in ∈ tw) (hlev : 0 < lev) (hsz : ls.size = nL) (hr : (rest.map fun v => v.category).sum ≤ 8) (hd : decode cc pc = .ok (.invokestatic index, 3)) (kk : ∀ (H1 : Heap) (locs1 : List Loc), Wd s D A (wdM τ σ ad) H1 locs1 → W p l e R s m args below meth c H1 locs1 0 0 Q (F0 m (pc + 3) ls (.int o :: rest))) : W p l e R s m args below meth c H locs 0 0 Q (F0 m pc ls (.int x2 :: .int x1 :: .int x0 :: rest)) :=
  cr_i w E.C (va_runS (As := [.int x0, .int x1, .int x2]) (rest := rest) E.fix (c_Ptm_in l D τ B σ ad x0 x1 x2 o h H.size) (va_cwS 3 E.w (tw_pre (tw_good k1857) (l := [_, _, _]) (List.forall_mem_cons.mpr ⟨hlk, List.forall_mem_cons.mpr ⟨k1856, List.forall_mem_cons.mpr ⟨k20, fun _ h => absurd h List.not_mem_nil⟩⟩⟩)) rfl rfl rfl (by decide +kernel) (E.rm hlev (by decide))) (wd_pre w E.C [.int x0, .int x1, .int x2]) rfl rfl hsz rfl (lv_room hr) hd ⟨Nat.zero_le _, Nat.zero_le _⟩) kk

theorem d_Ptm_refuse_0 : decode prog_17_method_2_code 0 = .ok (.aload_n 0, 1) := by decide +kernel
theorem d_Ptm_refuse_1 : decode prog_17_method_2_code 1 = .ok (.iload_n 1, 1) := by decide +kernel
theorem d_Ptm_refuse_2 : decode prog_17_method_2_code 2 = .ok (.ifCond .eq 7, 3) := by decide +kernel
theorem d_Ptm_refuse_5 : decode prog_17_method_2_code 5 = .ok (.iconst 1, 1) := by decide +kernel
theorem d_Ptm_refuse_6 : decode prog_17_method_2_code 6 = .ok (.goto 12, 3) := by decide +kernel
theorem d_Ptm_refuse_9 : decode prog_17_method_2_code 9 = .ok (.iload_n 2, 1) := by decide +kernel
theorem d_Ptm_refuse_10 : decode prog_17_method_2_code 10 = .ok (.ifCond .eq 7, 3) := by decide +kernel
theorem d_Ptm_refuse_13 : decode prog_17_method_2_code 13 = .ok (.iconst 2, 1) := by decide +kernel
theorem d_Ptm_refuse_14 : decode prog_17_method_2_code 14 = .ok (.goto 4, 3) := by decide +kernel
theorem d_Ptm_refuse_17 : decode prog_17_method_2_code 17 = .ok (.iconst 0, 1) := by decide +kernel
theorem d_Ptm_refuse_18 : decode prog_17_method_2_code 18 = .ok (.putfield 60, 3) := by decide +kernel
theorem d_Ptm_refuse_21 : decode prog_17_method_2_code 21 = .ok (.aload_n 0, 1) := by decide +kernel
theorem d_Ptm_refuse_22 : decode prog_17_method_2_code 22 = .ok (.getfield 60, 3) := by decide +kernel
theorem d_Ptm_refuse_25 : decode prog_17_method_2_code 25 = .ok (.ifCond .le 7, 3) := by decide +kernel
theorem d_Ptm_refuse_28 : decode prog_17_method_2_code 28 = .ok (.iconst 1, 1) := by decide +kernel
theorem d_Ptm_refuse_29 : decode prog_17_method_2_code 29 = .ok (.goto 4, 3) := by decide +kernel
theorem d_Ptm_refuse_32 : decode prog_17_method_2_code 32 = .ok (.iconst 0, 1) := by decide +kernel
theorem d_Ptm_refuse_33 : decode prog_17_method_2_code 33 = .ok (.ireturn, 1) := by decide +kernel
def F_Ptm_refuse_33 (σ : Sg) (s0 : Int32) : Option (Sg × Int32) := ck (s0 = 0 ∨ s0 = 1) (some (σ, s0))
set_option maxRecDepth 10000 in
set_option maxHeartbeats 4000000 in
theorem bt_Ptm_refuse_33 {p : Program} {l : Launch} {e : Env} {R : Room} {s : State} {m : MethodId} {args : Array Value} {below : List Frame} {meth : Method} {c : Code} {D : va_G} {τ : ClassId × ClassId × ClassId} {B : Nat} {A : Nat → Prop} {ad : Nat → Nat} (E : Cx p R s m args meth c prog_17_method_2_code 3 "DrawingMachineModel$PlaceTestsModel" 0 D τ B A) (hret : meth.sig.returnType = (some .boolean)) (o : Sg × Int32) (σ : Sg) (s0 : Int32) (h : F_Ptm_refuse_33 σ s0 = some o) {H : Heap} {locs : List Loc} {ls : Array Slot} (w : Wd s D A (wdM τ σ ad) H locs) (hl : lv_has ls 3 []) : W p l e R s m args below meth c H locs 0 0 (QI below args s A D τ (wdM τ o.1 ad) o.2) (F0 m 33 ls [.int s0]) := by
  obtain ⟨c3, h⟩ := ck_some h
  obtain rfl := Option.some.inj h
  exact rt_z E w hret c3 d_Ptm_refuse_33
def F_Ptm_refuse_18 (σ : Sg) (s1 : Int32) : Option (Sg × Int32) := lt (sI σ 28 s1) (fun σ4 => if (σ4.1 28) ≤ 0 then (F_Ptm_refuse_33 σ4 0) else (F_Ptm_refuse_33 σ4 1))
set_option maxRecDepth 10000 in
set_option maxHeartbeats 4000000 in
theorem bt_Ptm_refuse_18 {p : Program} {l : Launch} {e : Env} {R : Room} {s : State} {m : MethodId} {args : Array Value} {below : List Frame} {meth : Method} {c : Code} {D : va_G} {τ : ClassId × ClassId × ClassId} {B : Nat} {A : Nat → Prop} {ad : Nat → Nat} (E : Cx p R s m args meth c prog_17_method_2_code 3 "DrawingMachineModel$PlaceTestsModel" 0 D τ B A) (hret : meth.sig.returnType = (some .boolean)) (o : Sg × Int32) (σ : Sg) (s1 : Int32) (h : F_Ptm_refuse_18 σ s1 = some o) {H : Heap} {locs : List Loc} {ls : Array Slot} (w : Wd s D A (wdM τ σ ad) H locs) (hl : lv_has ls 3 [(0, .ref (ad 64))]) : W p l e R s m args below meth c H locs 0 0 (QI below args s A D τ (wdM τ o.1 ad) o.2) (F0 m 18 ls [.int s1, .ref (ad 64)]) := by
  obtain ⟨σ4, e_σ4, h⟩ := lt_some h
  refine pM_Ptm_thrown E w k1698 e_σ4 d_Ptm_refuse_18 (fun H locs w => ?_)
  refine lv_aload_n E.x E.b d_Ptm_refuse_21 rfl (lv_at hl 0 rfl) ?_
  refine gM_Ptm_thrown E w k1698 d_Ptm_refuse_22 ?_
  refine lv_if_le (tgt := 32) E.x E.b d_Ptm_refuse_25 (by decide) (fun c => ?_) (fun c => ?_)
  ·
    replace h := ifT c h
    refine lv_iconst (v := 0) E.x E.b d_Ptm_refuse_32 (by decide) ?_
    exact bt_Ptm_refuse_33 E hret o σ4 0 h w (lv_sub hl [] rfl)
  ·
    replace h := ifF c h
    refine lv_iconst (v := 1) E.x E.b d_Ptm_refuse_28 (by decide) ?_
    refine lv_goto (tgt := 33) E.x E.b d_Ptm_refuse_29 (by decide) ?_
    exact bt_Ptm_refuse_33 E hret o σ4 1 h w (lv_sub hl [] rfl)
def F_Ptm_refuse (σ : Sg) (x0 : Int32) (x1 : Int32) : Option (Sg × Int32) := if x0 = 0 then (if x1 = 0 then (F_Ptm_refuse_18 σ 0) else (F_Ptm_refuse_18 σ 2)) else (F_Ptm_refuse_18 σ 1)
set_option maxRecDepth 10000 in
set_option maxHeartbeats 4000000 in
theorem c_Ptm_refuse (l : Launch) (D : va_G) (τ : ClassId × ClassId × ClassId) (B : Nat) (σ : Sg) (ad : Nat → Nat) (x0 : Int32) (x1 : Int32) (o : Sg × Int32) (h : F_Ptm_refuse σ x0 x1 = some o) : MI l y_Ptm_refuse (Cond.code y_Ptm_refuse prog_17_method_2_code 3 (some .boolean)) 0 D τ B [.ref (ad 64), .int x0, .int x1] (wdM τ σ ad) (wdM τ o.1 ad) o.2 := by
  refine en_i (by decide) (Nat.le_of_ble_eq_true rfl) ?_
  intro p e R s m args below meth c H locs ls A E hret w hl
  have E : Cx p R s m args meth c prog_17_method_2_code 3 "DrawingMachineModel$PlaceTestsModel" 0 D τ B A := E
  have hl : lv_has ls 3 [(0, .ref (ad 64)), (1, .int x0), (2, .int x1)] := hl
  refine lv_aload_n E.x E.b d_Ptm_refuse_0 rfl (lv_at hl 0 rfl) ?_
  refine lv_iload_n E.x E.b d_Ptm_refuse_1 rfl (lv_at hl 1 rfl) ?_
  refine lv_if_eq (tgt := 9) E.x E.b d_Ptm_refuse_2 (by decide) (fun c => ?_) (fun c => ?_)
  ·
    replace h := ifT c h
    refine lv_iload_n E.x E.b d_Ptm_refuse_9 rfl (lv_at hl 2 rfl) ?_
    refine lv_if_eq (tgt := 17) E.x E.b d_Ptm_refuse_10 (by decide) (fun c => ?_) (fun c => ?_)
    ·
      replace h := ifT c h
      refine lv_iconst (v := 0) E.x E.b d_Ptm_refuse_17 (by decide) ?_
      exact bt_Ptm_refuse_18 E hret o σ 0 h w (lv_sub hl [0] rfl)
    ·
      replace h := ifF c h
      refine lv_iconst (v := 2) E.x E.b d_Ptm_refuse_13 (by decide) ?_
      refine lv_goto (tgt := 18) E.x E.b d_Ptm_refuse_14 (by decide) ?_
      exact bt_Ptm_refuse_18 E hret o σ 2 h w (lv_sub hl [0] rfl)
  ·
    replace h := ifF c h
    refine lv_iconst (v := 1) E.x E.b d_Ptm_refuse_5 (by decide) ?_
    refine lv_goto (tgt := 18) E.x E.b d_Ptm_refuse_6 (by decide) ?_
    exact bt_Ptm_refuse_18 E hret o σ 1 h w (lv_sub hl [0] rfl)
theorem clV_Ptm_refuse {p : Program} {l : Launch} {e : Env} {R : Room} {s : State} {m : MethodId} {args : Array Value} {below : List Frame} {meth : Method} {c : Code} {H : Heap} {locs : List Loc} {Q : State → Prop} {cc : ByteArray} {nL pc lev : Nat} {own : String} {D : va_G} {τ : ClassId × ClassId × ClassId} {B : Nat} {A : Nat → Prop} {σ : Sg} {ad : Nat → Nat} {ls : Array Slot} {rest : List Value} (E : Cx p R s m args meth c cc nL own lev D τ B A) (w : Wd s D A (wdM τ σ ad) H locs) {x0 : Int32} {x1 : Int32} {o : Sg × Int32} (h : F_Ptm_refuse σ x0 x1 = some o) {index : Nat} (hlk : Cond.methodLink own index y_Ptm_refuse ∈ tw) (hlev : 0 < lev) (hsz : ls.size = nL) (hr : (rest.map fun v => v.category).sum ≤ 8) (hd : decode cc pc = .ok (.invokevirtual index, 3)) (kk : ∀ (H1 : Heap) (locs1 : List Loc), Wd s D A (wdM τ o.1 ad) H1 locs1 → W p l e R s m args below meth c H1 locs1 0 0 Q (F0 m (pc + 3) ls (.int o.2 :: rest))) : W p l e R s m args below meth c H locs 0 0 Q (F0 m pc ls (.int x1 :: .int x0 :: .ref (ad 64) :: rest)) :=
  cr_i w E.C (va_runV (As := [.int x0, .int x1]) (rest := rest) E.fix (c_Ptm_refuse l D τ B σ ad x0 x1 o h H.size) (cwV 2 E.w (tw_pre (tw_good k1861) (l := [_, _, _, _]) (List.forall_mem_cons.mpr ⟨hlk, List.forall_mem_cons.mpr ⟨k1860, List.forall_mem_cons.mpr ⟨ks46, List.forall_mem_cons.mpr ⟨k20, fun _ h => absurd h List.not_mem_nil⟩⟩⟩⟩)) rfl rfl rfl (by decide +kernel) (E.rm hlev (by decide))) (wd_preV w E.C [.int x0, .int x1] rcM_Ptm rfl) rfl rfl hsz rfl (lv_room hr) hd ⟨Nat.zero_le _, Nat.zero_le _⟩) kk

theorem d_Ptm_frame_0 : decode prog_17_method_4_code 0 = .ok (.aload_n 0, 1) := by decide +kernel
theorem d_Ptm_frame_1 : decode prog_17_method_4_code 1 = .ok (.iload_n 3, 1) := by decide +kernel
theorem d_Ptm_frame_2 : decode prog_17_method_4_code 2 = .ok (.iconst 1, 1) := by decide +kernel
theorem d_Ptm_frame_3 : decode prog_17_method_4_code 3 = .ok (.sipush 128, 3) := by decide +kernel
theorem d_Ptm_frame_6 : decode prog_17_method_4_code 6 = .ok (.invokestatic 63, 3) := by decide +kernel
theorem d_Ptm_frame_9 : decode prog_17_method_4_code 9 = .ok (.ifCond .eq 37, 3) := by decide +kernel
theorem d_Ptm_frame_12 : decode prog_17_method_4_code 12 = .ok (.iload 4, 2) := by decide +kernel
theorem d_Ptm_frame_14 : decode prog_17_method_4_code 14 = .ok (.iconst 1, 1) := by decide +kernel
theorem d_Ptm_frame_15 : decode prog_17_method_4_code 15 = .ok (.sipush 128, 3) := by decide +kernel
theorem d_Ptm_frame_18 : decode prog_17_method_4_code 18 = .ok (.invokestatic 63, 3) := by decide +kernel
theorem d_Ptm_frame_21 : decode prog_17_method_4_code 21 = .ok (.ifCond .eq 25, 3) := by decide +kernel
theorem d_Ptm_frame_24 : decode prog_17_method_4_code 24 = .ok (.iload_n 1, 1) := by decide +kernel
theorem d_Ptm_frame_25 : decode prog_17_method_4_code 25 = .ok (.iconst 0, 1) := by decide +kernel
theorem d_Ptm_frame_26 : decode prog_17_method_4_code 26 = .ok (.sipush 1023, 3) := by decide +kernel
theorem d_Ptm_frame_29 : decode prog_17_method_4_code 29 = .ok (.invokestatic 63, 3) := by decide +kernel
theorem d_Ptm_frame_32 : decode prog_17_method_4_code 32 = .ok (.ifCond .eq 14, 3) := by decide +kernel
theorem d_Ptm_frame_35 : decode prog_17_method_4_code 35 = .ok (.iload_n 2, 1) := by decide +kernel
theorem d_Ptm_frame_36 : decode prog_17_method_4_code 36 = .ok (.iconst 0, 1) := by decide +kernel
theorem d_Ptm_frame_37 : decode prog_17_method_4_code 37 = .ok (.sipush 1023, 3) := by decide +kernel
theorem d_Ptm_frame_40 : decode prog_17_method_4_code 40 = .ok (.invokestatic 63, 3) := by decide +kernel
theorem d_Ptm_frame_43 : decode prog_17_method_4_code 43 = .ok (.ifCond .ne 7, 3) := by decide +kernel
theorem d_Ptm_frame_46 : decode prog_17_method_4_code 46 = .ok (.iconst 1, 1) := by decide +kernel
theorem d_Ptm_frame_47 : decode prog_17_method_4_code 47 = .ok (.goto 4, 3) := by decide +kernel
theorem d_Ptm_frame_50 : decode prog_17_method_4_code 50 = .ok (.iconst 0, 1) := by decide +kernel
theorem d_Ptm_frame_51 : decode prog_17_method_4_code 51 = .ok (.iconst 0, 1) := by decide +kernel
theorem d_Ptm_frame_52 : decode prog_17_method_4_code 52 = .ok (.invokevirtual 67, 3) := by decide +kernel
theorem d_Ptm_frame_55 : decode prog_17_method_4_code 55 = .ok (.ifCond .eq 4, 3) := by decide +kernel
theorem d_Ptm_frame_58 : decode prog_17_method_4_code 58 = .ok (.return_, 1) := by decide +kernel
theorem d_Ptm_frame_59 : decode prog_17_method_4_code 59 = .ok (.aload_n 0, 1) := by decide +kernel
theorem d_Ptm_frame_60 : decode prog_17_method_4_code 60 = .ok (.iload_n 1, 1) := by decide +kernel
theorem d_Ptm_frame_61 : decode prog_17_method_4_code 61 = .ok (.putfield 71, 3) := by decide +kernel
theorem d_Ptm_frame_64 : decode prog_17_method_4_code 64 = .ok (.aload_n 0, 1) := by decide +kernel
theorem d_Ptm_frame_65 : decode prog_17_method_4_code 65 = .ok (.iload_n 2, 1) := by decide +kernel
theorem d_Ptm_frame_66 : decode prog_17_method_4_code 66 = .ok (.putfield 74, 3) := by decide +kernel
theorem d_Ptm_frame_69 : decode prog_17_method_4_code 69 = .ok (.aload_n 0, 1) := by decide +kernel
theorem d_Ptm_frame_70 : decode prog_17_method_4_code 70 = .ok (.iload_n 3, 1) := by decide +kernel
theorem d_Ptm_frame_71 : decode prog_17_method_4_code 71 = .ok (.putfield 7, 3) := by decide +kernel
theorem d_Ptm_frame_74 : decode prog_17_method_4_code 74 = .ok (.aload_n 0, 1) := by decide +kernel
theorem d_Ptm_frame_75 : decode prog_17_method_4_code 75 = .ok (.iload 4, 2) := by decide +kernel
theorem d_Ptm_frame_77 : decode prog_17_method_4_code 77 = .ok (.putfield 13, 3) := by decide +kernel
theorem d_Ptm_frame_80 : decode prog_17_method_4_code 80 = .ok (.iconst 0, 1) := by decide +kernel
theorem d_Ptm_frame_81 : decode prog_17_method_4_code 81 = .ok (.istore 5, 2) := by decide +kernel
theorem d_Ptm_frame_83 : decode prog_17_method_4_code 83 = .ok (.iload 5, 2) := by decide +kernel
theorem d_Ptm_frame_85 : decode prog_17_method_4_code 85 = .ok (.sipush 16384, 3) := by decide +kernel
theorem d_Ptm_frame_88 : decode prog_17_method_4_code 88 = .ok (.if_icmp .ge 25, 3) := by decide +kernel
theorem d_Ptm_frame_91 : decode prog_17_method_4_code 91 = .ok (.aload_n 0, 1) := by decide +kernel
theorem d_Ptm_frame_92 : decode prog_17_method_4_code 92 = .ok (.getfield 21, 3) := by decide +kernel
theorem d_Ptm_frame_95 : decode prog_17_method_4_code 95 = .ok (.iload 5, 2) := by decide +kernel
theorem d_Ptm_frame_97 : decode prog_17_method_4_code 97 = .ok (.iconst 0, 1) := by decide +kernel
theorem d_Ptm_frame_98 : decode prog_17_method_4_code 98 = .ok (.iastore, 1) := by decide +kernel
theorem d_Ptm_frame_99 : decode prog_17_method_4_code 99 = .ok (.aload_n 0, 1) := by decide +kernel
theorem d_Ptm_frame_100 : decode prog_17_method_4_code 100 = .ok (.getfield 24, 3) := by decide +kernel
theorem d_Ptm_frame_103 : decode prog_17_method_4_code 103 = .ok (.iload 5, 2) := by decide +kernel
theorem d_Ptm_frame_105 : decode prog_17_method_4_code 105 = .ok (.iconst 0, 1) := by decide +kernel
theorem d_Ptm_frame_106 : decode prog_17_method_4_code 106 = .ok (.iastore, 1) := by decide +kernel
theorem d_Ptm_frame_107 : decode prog_17_method_4_code 107 = .ok (.iinc 5 1, 3) := by decide +kernel
theorem d_Ptm_frame_110 : decode prog_17_method_4_code 110 = .ok (.goto (-27), 3) := by decide +kernel
theorem d_Ptm_frame_113 : decode prog_17_method_4_code 113 = .ok (.iconst 0, 1) := by decide +kernel
theorem d_Ptm_frame_114 : decode prog_17_method_4_code 114 = .ok (.istore 5, 2) := by decide +kernel
theorem d_Ptm_frame_116 : decode prog_17_method_4_code 116 = .ok (.iload 5, 2) := by decide +kernel
theorem d_Ptm_frame_118 : decode prog_17_method_4_code 118 = .ok (.ldc 16, 2) := by decide +kernel
theorem d_Ptm_frame_120 : decode prog_17_method_4_code 120 = .ok (.if_icmp .ge 17, 3) := by decide +kernel
theorem d_Ptm_frame_123 : decode prog_17_method_4_code 123 = .ok (.aload_n 0, 1) := by decide +kernel
theorem d_Ptm_frame_124 : decode prog_17_method_4_code 124 = .ok (.getfield 17, 3) := by decide +kernel
theorem d_Ptm_frame_127 : decode prog_17_method_4_code 127 = .ok (.iload 5, 2) := by decide +kernel
theorem d_Ptm_frame_129 : decode prog_17_method_4_code 129 = .ok (.iconst 0, 1) := by decide +kernel
theorem d_Ptm_frame_130 : decode prog_17_method_4_code 130 = .ok (.iastore, 1) := by decide +kernel
theorem d_Ptm_frame_131 : decode prog_17_method_4_code 131 = .ok (.iinc 5 1, 3) := by decide +kernel
theorem d_Ptm_frame_134 : decode prog_17_method_4_code 134 = .ok (.goto (-18), 3) := by decide +kernel
theorem d_Ptm_frame_137 : decode prog_17_method_4_code 137 = .ok (.return_, 1) := by decide +kernel
def L_Ptm_frame_116 : Nat → Sg → Int32 → Option (Sg)
  | 0, _, _ => none
  | n + 1, σ, v5 => if 65536 ≤ v5 then (some σ) else (ck (inb v5 65536) (lt (sA σ 45 (upd (σ.2.2.1 45) v5.toNatClampNeg 0)) (fun σ19 => lt (v5 + 1) (fun y20 => L_Ptm_frame_116 n σ19 y20))))
set_option maxRecDepth 10000 in
set_option maxHeartbeats 4000000 in
theorem lt_Ptm_frame_116 {p : Program} {l : Launch} {e : Env} {R : Room} {s : State} {m : MethodId} {args : Array Value} {below : List Frame} {meth : Method} {c : Code} {D : va_G} {τ : ClassId × ClassId × ClassId} {B : Nat} {A : Nat → Prop} {ad : Nat → Nat} (E : Cx p R s m args meth c prog_17_method_4_code 6 "DrawingMachineModel$PlaceTestsModel" 1 D τ B A) (hret : meth.sig.returnType = none) (o : Sg) : ∀ (n : Nat) (σ : Sg) (v5 : Int32) (H : Heap) (locs : List Loc) (ls : Array Slot), L_Ptm_frame_116 n σ v5 = some o → Wd s D A (wdM τ σ ad) H locs → lv_has ls 6 [(0, .ref (ad 64)), (5, .int v5)] → W p l e R s m args below meth c H locs 0 0 (QV below args s A D τ (wdM τ o ad)) (F0 m 116 ls []) := by
  intro n
  induction n with
  | zero =>
    intro σ v5 H locs ls h w hl
    cases h
  | succ n hr_116 =>
    intro σ v5 H locs ls h w hl
    refine lv_iload E.x E.b d_Ptm_frame_116 (lv_at hl 1 rfl) ?_
    refine lv_ldc (v := 65536) E.x E.b E.o (E.w _ k1697) d_Ptm_frame_118 ?_
    refine lv_icmp_ge (tgt := 137) E.x E.b d_Ptm_frame_120 (by decide) (fun c => ?_) (fun c => ?_)
    ·
      replace h := ifT c h
      obtain rfl := Option.some.inj h
      exact rt_v E w hret d_Ptm_frame_137
    ·
      replace h := ifF c h
      refine lv_aload_n E.x E.b d_Ptm_frame_123 rfl (lv_at hl 0 rfl) ?_
      refine gM_Ptm_channels E w k1703 d_Ptm_frame_124 ?_
      refine lv_iload E.x E.b d_Ptm_frame_127 (lv_at hl 1 rfl) ?_
      refine lv_iconst (v := 0) E.x E.b d_Ptm_frame_129 (by decide) ?_
      obtain ⟨c18, h⟩ := ck_some h
      obtain ⟨σ19, e_σ19, h⟩ := lt_some h
      refine iasM E w (k := 45) (by decide) c18 e_σ19 d_Ptm_frame_130 (fun H locs w => ?_)
      obtain ⟨y20, e_y20, h⟩ := lt_some h
      refine lv_iinc (v := y20) (lv' := [(5, .int y20), (0, .ref (ad 64))]) E.x E.b d_Ptm_frame_131 hl (k := 1) rfl (e_y20) (by decide) rfl (fun ls hl => ?_)
      refine lv_goto (tgt := 116) E.x E.b d_Ptm_frame_134 (by decide) ?_
      exact hr_116 σ19 y20 _ _ _ h w (lv_sub hl [1, 0] rfl)
def L_Ptm_frame_83 : Nat → Sg → Int32 → Option (Sg)
  | 0, _, _ => none
  | n + 1, σ, v5 => if 16384 ≤ v5 then (L_Ptm_frame_116 100000 σ 0) else (ck (inb v5 16384) (lt (sA σ 46 (upd (σ.2.2.1 46) v5.toNatClampNeg 0)) (fun σ22 => ck (inb v5 16384) (lt (sA σ22 47 (upd (σ22.2.2.1 47) v5.toNatClampNeg 0)) (fun σ24 => lt (v5 + 1) (fun y25 => L_Ptm_frame_83 n σ24 y25))))))
set_option maxRecDepth 10000 in
set_option maxHeartbeats 4000000 in
theorem lt_Ptm_frame_83 {p : Program} {l : Launch} {e : Env} {R : Room} {s : State} {m : MethodId} {args : Array Value} {below : List Frame} {meth : Method} {c : Code} {D : va_G} {τ : ClassId × ClassId × ClassId} {B : Nat} {A : Nat → Prop} {ad : Nat → Nat} (E : Cx p R s m args meth c prog_17_method_4_code 6 "DrawingMachineModel$PlaceTestsModel" 1 D τ B A) (hret : meth.sig.returnType = none) (o : Sg) : ∀ (n : Nat) (σ : Sg) (v5 : Int32) (H : Heap) (locs : List Loc) (ls : Array Slot), L_Ptm_frame_83 n σ v5 = some o → Wd s D A (wdM τ σ ad) H locs → lv_has ls 6 [(0, .ref (ad 64)), (5, .int v5)] → W p l e R s m args below meth c H locs 0 0 (QV below args s A D τ (wdM τ o ad)) (F0 m 83 ls []) := by
  intro n
  induction n with
  | zero =>
    intro σ v5 H locs ls h w hl
    cases h
  | succ n hr_83 =>
    intro σ v5 H locs ls h w hl
    refine lv_iload E.x E.b d_Ptm_frame_83 (lv_at hl 1 rfl) ?_
    refine lv_sipush (v := 16384) E.x E.b d_Ptm_frame_85 (by decide) ?_
    refine lv_icmp_ge (tgt := 113) E.x E.b d_Ptm_frame_88 (by decide) (fun c => ?_) (fun c => ?_)
    ·
      replace h := ifT c h
      refine lv_iconst (v := 0) E.x E.b d_Ptm_frame_113 (by decide) ?_
      refine lv_istore (lv' := [(5, .int 0), (0, .ref (ad 64))]) E.x E.b d_Ptm_frame_114 hl (by decide) rfl (fun ls hl => ?_)
      exact lt_Ptm_frame_116 E hret o 100000 σ 0 _ _ _ h w (lv_sub hl [1, 0] rfl)
    ·
      replace h := ifF c h
      refine lv_aload_n E.x E.b d_Ptm_frame_91 rfl (lv_at hl 0 rfl) ?_
      refine gM_Ptm_depths E w k1704 d_Ptm_frame_92 ?_
      refine lv_iload E.x E.b d_Ptm_frame_95 (lv_at hl 1 rfl) ?_
      refine lv_iconst (v := 0) E.x E.b d_Ptm_frame_97 (by decide) ?_
      obtain ⟨c21, h⟩ := ck_some h
      obtain ⟨σ22, e_σ22, h⟩ := lt_some h
      refine iasM E w (k := 46) (by decide) c21 e_σ22 d_Ptm_frame_98 (fun H locs w => ?_)
      refine lv_aload_n E.x E.b d_Ptm_frame_99 rfl (lv_at hl 0 rfl) ?_
      refine gM_Ptm_stencils E w k1705 d_Ptm_frame_100 ?_
      refine lv_iload E.x E.b d_Ptm_frame_103 (lv_at hl 1 rfl) ?_
      refine lv_iconst (v := 0) E.x E.b d_Ptm_frame_105 (by decide) ?_
      obtain ⟨c23, h⟩ := ck_some h
      obtain ⟨σ24, e_σ24, h⟩ := lt_some h
      refine iasM E w (k := 47) (by decide) c23 e_σ24 d_Ptm_frame_106 (fun H locs w => ?_)
      obtain ⟨y25, e_y25, h⟩ := lt_some h
      refine lv_iinc (v := y25) (lv' := [(5, .int y25), (0, .ref (ad 64))]) E.x E.b d_Ptm_frame_107 hl (k := 1) rfl (e_y25) (by decide) rfl (fun ls hl => ?_)
      refine lv_goto (tgt := 83) E.x E.b d_Ptm_frame_110 (by decide) ?_
      exact hr_83 σ24 y25 _ _ _ h w (lv_sub hl [1, 0] rfl)
def F_Ptm_frame_51 (σ : Sg) (v1 : Int32) (v2 : Int32) (v3 : Int32) (v4 : Int32) (s1 : Int32) : Option (Sg) := bd (F_Ptm_refuse σ s1 0) (fun o26 => if o26.2 = 0 then (lt (sI o26.1 29 v1) (fun σ27 => lt (sI σ27 30 v2) (fun σ28 => lt (sI σ28 31 v3) (fun σ29 => lt (sI σ29 32 v4) (fun σ30 => L_Ptm_frame_83 100000 σ30 0))))) else (some o26.1))
set_option maxRecDepth 10000 in
set_option maxHeartbeats 4000000 in
theorem bt_Ptm_frame_51 {p : Program} {l : Launch} {e : Env} {R : Room} {s : State} {m : MethodId} {args : Array Value} {below : List Frame} {meth : Method} {c : Code} {D : va_G} {τ : ClassId × ClassId × ClassId} {B : Nat} {A : Nat → Prop} {ad : Nat → Nat} (E : Cx p R s m args meth c prog_17_method_4_code 6 "DrawingMachineModel$PlaceTestsModel" 1 D τ B A) (hret : meth.sig.returnType = none) (o : Sg) (σ : Sg) (v1 : Int32) (v2 : Int32) (v3 : Int32) (v4 : Int32) (s1 : Int32) (h : F_Ptm_frame_51 σ v1 v2 v3 v4 s1 = some o) {H : Heap} {locs : List Loc} {ls : Array Slot} (w : Wd s D A (wdM τ σ ad) H locs) (hl : lv_has ls 6 [(0, .ref (ad 64)), (1, .int v1), (2, .int v2), (3, .int v3), (4, .int v4)]) : W p l e R s m args below meth c H locs 0 0 (QV below args s A D τ (wdM τ o ad)) (F0 m 51 ls [.int s1, .ref (ad 64)]) := by
  refine lv_iconst (v := 0) E.x E.b d_Ptm_frame_51 (by decide) ?_
  obtain ⟨o26, h_o26, h⟩ := bd_some h
  refine clV_Ptm_refuse E w (x0 := s1) (x1 := 0) h_o26 k1858 (by decide) hl.1 (Nat.le_of_ble_eq_true rfl) d_Ptm_frame_52 (fun H locs w => ?_)
  refine lv_if_eq (tgt := 59) E.x E.b d_Ptm_frame_55 (by decide) (fun c => ?_) (fun c => ?_)
  ·
    replace h := ifT c h
    refine lv_aload_n E.x E.b d_Ptm_frame_59 rfl (lv_at hl 0 rfl) ?_
    refine lv_iload_n E.x E.b d_Ptm_frame_60 rfl (lv_at hl 1 rfl) ?_
    obtain ⟨σ27, e_σ27, h⟩ := lt_some h
    refine pM_Ptm_x0 E w k1699 e_σ27 d_Ptm_frame_61 (fun H locs w => ?_)
    refine lv_aload_n E.x E.b d_Ptm_frame_64 rfl (lv_at hl 0 rfl) ?_
    refine lv_iload_n E.x E.b d_Ptm_frame_65 rfl (lv_at hl 2 rfl) ?_
    obtain ⟨σ28, e_σ28, h⟩ := lt_some h
    refine pM_Ptm_y0 E w k1700 e_σ28 d_Ptm_frame_66 (fun H locs w => ?_)
    refine lv_aload_n E.x E.b d_Ptm_frame_69 rfl (lv_at hl 0 rfl) ?_
    refine lv_iload_n E.x E.b d_Ptm_frame_70 rfl (lv_at hl 3 rfl) ?_
    obtain ⟨σ29, e_σ29, h⟩ := lt_some h
    refine pM_Ptm_wide E w k1701 e_σ29 d_Ptm_frame_71 (fun H locs w => ?_)
    refine lv_aload_n E.x E.b d_Ptm_frame_74 rfl (lv_at hl 0 rfl) ?_
    refine lv_iload E.x E.b d_Ptm_frame_75 (lv_at hl 4 rfl) ?_
    obtain ⟨σ30, e_σ30, h⟩ := lt_some h
    refine pM_Ptm_high E w k1702 e_σ30 d_Ptm_frame_77 (fun H locs w => ?_)
    refine lv_iconst (v := 0) E.x E.b d_Ptm_frame_80 (by decide) ?_
    refine lv_istore (lv' := [(5, .int 0), (0, .ref (ad 64)), (1, .int v1), (2, .int v2), (3, .int v3), (4, .int v4)]) E.x E.b d_Ptm_frame_81 hl (by decide) rfl (fun ls hl => ?_)
    exact lt_Ptm_frame_83 E hret o 100000 σ30 0 _ _ _ h w (lv_sub hl [1, 0] rfl)
  ·
    replace h := ifF c h
    obtain rfl := Option.some.inj h
    exact rt_v E w hret d_Ptm_frame_58
def F_Ptm_frame_46 (σ : Sg) (v1 : Int32) (v2 : Int32) (v3 : Int32) (v4 : Int32) : Option (Sg) := F_Ptm_frame_51 σ v1 v2 v3 v4 1
set_option maxRecDepth 10000 in
set_option maxHeartbeats 4000000 in
theorem bt_Ptm_frame_46 {p : Program} {l : Launch} {e : Env} {R : Room} {s : State} {m : MethodId} {args : Array Value} {below : List Frame} {meth : Method} {c : Code} {D : va_G} {τ : ClassId × ClassId × ClassId} {B : Nat} {A : Nat → Prop} {ad : Nat → Nat} (E : Cx p R s m args meth c prog_17_method_4_code 6 "DrawingMachineModel$PlaceTestsModel" 1 D τ B A) (hret : meth.sig.returnType = none) (o : Sg) (σ : Sg) (v1 : Int32) (v2 : Int32) (v3 : Int32) (v4 : Int32) (h : F_Ptm_frame_46 σ v1 v2 v3 v4 = some o) {H : Heap} {locs : List Loc} {ls : Array Slot} (w : Wd s D A (wdM τ σ ad) H locs) (hl : lv_has ls 6 [(0, .ref (ad 64)), (1, .int v1), (2, .int v2), (3, .int v3), (4, .int v4)]) : W p l e R s m args below meth c H locs 0 0 (QV below args s A D τ (wdM τ o ad)) (F0 m 46 ls [.ref (ad 64)]) := by
  refine lv_iconst (v := 1) E.x E.b d_Ptm_frame_46 (by decide) ?_
  refine lv_goto (tgt := 51) E.x E.b d_Ptm_frame_47 (by decide) ?_
  exact bt_Ptm_frame_51 E hret o σ v1 v2 v3 v4 1 h w (lv_sub hl [0, 1, 2, 3, 4] rfl)
def F_Ptm_frame (σ : Sg) (x0 : Int32) (x1 : Int32) (x2 : Int32) (x3 : Int32) : Option (Sg) := bd (F_Ptm_in x2 1 128) (fun o31 => if o31 = 0 then (F_Ptm_frame_46 σ x0 x1 x2 x3) else (bd (F_Ptm_in x3 1 128) (fun o32 => if o32 = 0 then (F_Ptm_frame_46 σ x0 x1 x2 x3) else (bd (F_Ptm_in x0 0 1023) (fun o33 => if o33 = 0 then (F_Ptm_frame_46 σ x0 x1 x2 x3) else (bd (F_Ptm_in x1 0 1023) (fun o34 => if o34 = 0 then (F_Ptm_frame_46 σ x0 x1 x2 x3) else (F_Ptm_frame_51 σ x0 x1 x2 x3 0))))))))
set_option maxRecDepth 10000 in
set_option maxHeartbeats 4000000 in
theorem c_Ptm_frame (l : Launch) (D : va_G) (τ : ClassId × ClassId × ClassId) (B : Nat) (σ : Sg) (ad : Nat → Nat) (x0 : Int32) (x1 : Int32) (x2 : Int32) (x3 : Int32) (o : Sg) (h : F_Ptm_frame σ x0 x1 x2 x3 = some o) : MV l y_Ptm_frame (Cond.code y_Ptm_frame prog_17_method_4_code 6 none) 1 D τ B [.ref (ad 64), .int x0, .int x1, .int x2, .int x3] (wdM τ σ ad) (wdM τ o ad) := by
  refine en_v (by decide) (Nat.le_of_ble_eq_true rfl) ?_
  intro p e R s m args below meth c H locs ls A E hret w hl
  have E : Cx p R s m args meth c prog_17_method_4_code 6 "DrawingMachineModel$PlaceTestsModel" 1 D τ B A := E
  have hl : lv_has ls 6 [(0, .ref (ad 64)), (1, .int x0), (2, .int x1), (3, .int x2), (4, .int x3)] := hl
  refine lv_aload_n E.x E.b d_Ptm_frame_0 rfl (lv_at hl 0 rfl) ?_
  refine lv_iload_n E.x E.b d_Ptm_frame_1 rfl (lv_at hl 3 rfl) ?_
  refine lv_iconst (v := 1) E.x E.b d_Ptm_frame_2 (by decide) ?_
  refine lv_sipush (v := 128) E.x E.b d_Ptm_frame_3 (by decide) ?_
  obtain ⟨o31, h_o31, h⟩ := bd_some h
  refine clS_Ptm_in E w (x0 := x2) (x1 := 1) (x2 := 128) h_o31 k1855 (by decide) hl.1 (Nat.le_of_ble_eq_true rfl) d_Ptm_frame_6 (fun H locs w => ?_)
  refine lv_if_eq (tgt := 46) E.x E.b d_Ptm_frame_9 (by decide) (fun c => ?_) (fun c => ?_)
  ·
    replace h := ifT c h
    exact bt_Ptm_frame_46 E hret o σ x0 x1 x2 x3 h w (lv_sub hl [0, 1, 2, 3, 4] rfl)
  ·
    replace h := ifF c h
    refine lv_iload E.x E.b d_Ptm_frame_12 (lv_at hl 4 rfl) ?_
    refine lv_iconst (v := 1) E.x E.b d_Ptm_frame_14 (by decide) ?_
    refine lv_sipush (v := 128) E.x E.b d_Ptm_frame_15 (by decide) ?_
    obtain ⟨o32, h_o32, h⟩ := bd_some h
    refine clS_Ptm_in E w (x0 := x3) (x1 := 1) (x2 := 128) h_o32 k1855 (by decide) hl.1 (Nat.le_of_ble_eq_true rfl) d_Ptm_frame_18 (fun H locs w => ?_)
    refine lv_if_eq (tgt := 46) E.x E.b d_Ptm_frame_21 (by decide) (fun c => ?_) (fun c => ?_)
    ·
      replace h := ifT c h
      exact bt_Ptm_frame_46 E hret o σ x0 x1 x2 x3 h w (lv_sub hl [0, 1, 2, 3, 4] rfl)
    ·
      replace h := ifF c h
      refine lv_iload_n E.x E.b d_Ptm_frame_24 rfl (lv_at hl 1 rfl) ?_
      refine lv_iconst (v := 0) E.x E.b d_Ptm_frame_25 (by decide) ?_
      refine lv_sipush (v := 1023) E.x E.b d_Ptm_frame_26 (by decide) ?_
      obtain ⟨o33, h_o33, h⟩ := bd_some h
      refine clS_Ptm_in E w (x0 := x0) (x1 := 0) (x2 := 1023) h_o33 k1855 (by decide) hl.1 (Nat.le_of_ble_eq_true rfl) d_Ptm_frame_29 (fun H locs w => ?_)
      refine lv_if_eq (tgt := 46) E.x E.b d_Ptm_frame_32 (by decide) (fun c => ?_) (fun c => ?_)
      ·
        replace h := ifT c h
        exact bt_Ptm_frame_46 E hret o σ x0 x1 x2 x3 h w (lv_sub hl [0, 1, 2, 3, 4] rfl)
      ·
        replace h := ifF c h
        refine lv_iload_n E.x E.b d_Ptm_frame_35 rfl (lv_at hl 2 rfl) ?_
        refine lv_iconst (v := 0) E.x E.b d_Ptm_frame_36 (by decide) ?_
        refine lv_sipush (v := 1023) E.x E.b d_Ptm_frame_37 (by decide) ?_
        obtain ⟨o34, h_o34, h⟩ := bd_some h
        refine clS_Ptm_in E w (x0 := x1) (x1 := 0) (x2 := 1023) h_o34 k1855 (by decide) hl.1 (Nat.le_of_ble_eq_true rfl) d_Ptm_frame_40 (fun H locs w => ?_)
        refine lv_if_ne (tgt := 50) E.x E.b d_Ptm_frame_43 (by decide) (fun c => ?_) (fun c => ?_)
        ·
          replace h := ifF c h
          refine lv_iconst (v := 0) E.x E.b d_Ptm_frame_50 (by decide) ?_
          exact bt_Ptm_frame_51 E hret o σ x0 x1 x2 x3 0 h w (lv_sub hl [0, 1, 2, 3, 4] rfl)
        ·
          replace h := ifT c h
          exact bt_Ptm_frame_46 E hret o σ x0 x1 x2 x3 h w (lv_sub hl [0, 1, 2, 3, 4] rfl)
theorem clV_Ptm_frame {p : Program} {l : Launch} {e : Env} {R : Room} {s : State} {m : MethodId} {args : Array Value} {below : List Frame} {meth : Method} {c : Code} {H : Heap} {locs : List Loc} {Q : State → Prop} {cc : ByteArray} {nL pc lev : Nat} {own : String} {D : va_G} {τ : ClassId × ClassId × ClassId} {B : Nat} {A : Nat → Prop} {σ : Sg} {ad : Nat → Nat} {ls : Array Slot} {rest : List Value} (E : Cx p R s m args meth c cc nL own lev D τ B A) (w : Wd s D A (wdM τ σ ad) H locs) {x0 : Int32} {x1 : Int32} {x2 : Int32} {x3 : Int32} {o : Sg} (h : F_Ptm_frame σ x0 x1 x2 x3 = some o) {index : Nat} (hlk : Cond.methodLink own index y_Ptm_frame ∈ tw) (hlev : 1 < lev) (hsz : ls.size = nL) (hr : (rest.map fun v => v.category).sum ≤ 8) (hd : decode cc pc = .ok (.invokevirtual index, 3)) (kk : ∀ (H1 : Heap) (locs1 : List Loc), Wd s D A (wdM τ o ad) H1 locs1 → W p l e R s m args below meth c H1 locs1 0 0 Q (F0 m (pc + 3) ls (rest))) : W p l e R s m args below meth c H locs 0 0 Q (F0 m pc ls (.int x3 :: .int x2 :: .int x1 :: .int x0 :: .ref (ad 64) :: rest)) :=
  cr_v w E.C (va_runV (As := [.int x0, .int x1, .int x2, .int x3]) (rest := rest) E.fix (c_Ptm_frame l D τ B σ ad x0 x1 x2 x3 o h H.size) (cwV 4 E.w (tw_pre (tw_good k1854) (l := [_, _, _, _]) (List.forall_mem_cons.mpr ⟨hlk, List.forall_mem_cons.mpr ⟨k1852, List.forall_mem_cons.mpr ⟨k1853, List.forall_mem_cons.mpr ⟨k20, fun _ h => absurd h List.not_mem_nil⟩⟩⟩⟩)) rfl rfl rfl (by decide +kernel) (E.rm hlev (by decide))) (wd_preV w E.C [.int x0, .int x1, .int x2, .int x3] rcM_Ptm rfl) rfl rfl hsz rfl (lv_room hr) hd ⟨Nat.zero_le _, Nat.zero_le _⟩) kk
