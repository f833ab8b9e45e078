theorem d_DM_stateAllows_0 : decode prog_1_method_18_code 0 = .ok (.aload_n 0, 1) := by decide +kernel
theorem d_DM_stateAllows_1 : decode prog_1_method_18_code 1 = .ok (.getfield 34, 3) := by decide +kernel
theorem d_DM_stateAllows_4 : decode prog_1_method_18_code 4 = .ok (.getfield 208, 3) := by decide +kernel
theorem d_DM_stateAllows_7 : decode prog_1_method_18_code 7 = .ok (.astore_n 1, 1) := by decide +kernel
theorem d_DM_stateAllows_8 : decode prog_1_method_18_code 8 = .ok (.aload_n 0, 1) := by decide +kernel
theorem d_DM_stateAllows_9 : decode prog_1_method_18_code 9 = .ok (.getfield 34, 3) := by decide +kernel
theorem d_DM_stateAllows_12 : decode prog_1_method_18_code 12 = .ok (.getfield 196, 3) := by decide +kernel
theorem d_DM_stateAllows_15 : decode prog_1_method_18_code 15 = .ok (.tableswitch 114 17 23 #[41, 41, 67, 114, 114, 114, 97], 41) := by decide +kernel
theorem d_DM_stateAllows_56 : decode prog_1_method_18_code 56 = .ok (.aload_n 0, 1) := by decide +kernel
theorem d_DM_stateAllows_57 : decode prog_1_method_18_code 57 = .ok (.getfield 57, 3) := by decide +kernel
theorem d_DM_stateAllows_60 : decode prog_1_method_18_code 60 = .ok (.getfield 114, 3) := by decide +kernel
theorem d_DM_stateAllows_63 : decode prog_1_method_18_code 63 = .ok (.ifCond .le 17, 3) := by decide +kernel
theorem d_DM_stateAllows_66 : decode prog_1_method_18_code 66 = .ok (.aload_n 0, 1) := by decide +kernel
theorem d_DM_stateAllows_67 : decode prog_1_method_18_code 67 = .ok (.getfield 61, 3) := by decide +kernel
theorem d_DM_stateAllows_70 : decode prog_1_method_18_code 70 = .ok (.getfield 114, 3) := by decide +kernel
theorem d_DM_stateAllows_73 : decode prog_1_method_18_code 73 = .ok (.ifCond .le 7, 3) := by decide +kernel
theorem d_DM_stateAllows_76 : decode prog_1_method_18_code 76 = .ok (.iconst 1, 1) := by decide +kernel
theorem d_DM_stateAllows_77 : decode prog_1_method_18_code 77 = .ok (.goto 4, 3) := by decide +kernel
theorem d_DM_stateAllows_80 : decode prog_1_method_18_code 80 = .ok (.iconst 0, 1) := by decide +kernel
theorem d_DM_stateAllows_81 : decode prog_1_method_18_code 81 = .ok (.ireturn, 1) := by decide +kernel
theorem d_DM_stateAllows_82 : decode prog_1_method_18_code 82 = .ok (.aload_n 0, 1) := by decide +kernel
theorem d_DM_stateAllows_83 : decode prog_1_method_18_code 83 = .ok (.getfield 50, 3) := by decide +kernel
theorem d_DM_stateAllows_86 : decode prog_1_method_18_code 86 = .ok (.getfield 158, 3) := by decide +kernel
theorem d_DM_stateAllows_89 : decode prog_1_method_18_code 89 = .ok (.aload_n 1, 1) := by decide +kernel
theorem d_DM_stateAllows_90 : decode prog_1_method_18_code 90 = .ok (.iconst 1, 1) := by decide +kernel
theorem d_DM_stateAllows_91 : decode prog_1_method_18_code 91 = .ok (.iaload, 1) := by decide +kernel
theorem d_DM_stateAllows_92 : decode prog_1_method_18_code 92 = .ok (.iconst 1, 1) := by decide +kernel
theorem d_DM_stateAllows_93 : decode prog_1_method_18_code 93 = .ok (.if_icmp .ne 7, 3) := by decide +kernel
theorem d_DM_stateAllows_96 : decode prog_1_method_18_code 96 = .ok (.iconst (-1), 1) := by decide +kernel
theorem d_DM_stateAllows_97 : decode prog_1_method_18_code 97 = .ok (.goto 6, 3) := by decide +kernel
theorem d_DM_stateAllows_100 : decode prog_1_method_18_code 100 = .ok (.aload_n 1, 1) := by decide +kernel
theorem d_DM_stateAllows_101 : decode prog_1_method_18_code 101 = .ok (.iconst 0, 1) := by decide +kernel
theorem d_DM_stateAllows_102 : decode prog_1_method_18_code 102 = .ok (.iaload, 1) := by decide +kernel
theorem d_DM_stateAllows_103 : decode prog_1_method_18_code 103 = .ok (.if_icmp .ne 7, 3) := by decide +kernel
theorem d_DM_stateAllows_106 : decode prog_1_method_18_code 106 = .ok (.iconst 1, 1) := by decide +kernel
theorem d_DM_stateAllows_107 : decode prog_1_method_18_code 107 = .ok (.goto 4, 3) := by decide +kernel
theorem d_DM_stateAllows_110 : decode prog_1_method_18_code 110 = .ok (.iconst 0, 1) := by decide +kernel
theorem d_DM_stateAllows_111 : decode prog_1_method_18_code 111 = .ok (.ireturn, 1) := by decide +kernel
theorem d_DM_stateAllows_112 : decode prog_1_method_18_code 112 = .ok (.aload_n 0, 1) := by decide +kernel
theorem d_DM_stateAllows_113 : decode prog_1_method_18_code 113 = .ok (.getfield 34, 3) := by decide +kernel
theorem d_DM_stateAllows_116 : decode prog_1_method_18_code 116 = .ok (.getfield 215, 3) := by decide +kernel
theorem d_DM_stateAllows_119 : decode prog_1_method_18_code 119 = .ok (.iconst 4, 1) := by decide +kernel
theorem d_DM_stateAllows_120 : decode prog_1_method_18_code 120 = .ok (.if_icmp .ge 7, 3) := by decide +kernel
theorem d_DM_stateAllows_123 : decode prog_1_method_18_code 123 = .ok (.iconst 1, 1) := by decide +kernel
theorem d_DM_stateAllows_124 : decode prog_1_method_18_code 124 = .ok (.goto 4, 3) := by decide +kernel
theorem d_DM_stateAllows_127 : decode prog_1_method_18_code 127 = .ok (.iconst 0, 1) := by decide +kernel
theorem d_DM_stateAllows_128 : decode prog_1_method_18_code 128 = .ok (.ireturn, 1) := by decide +kernel
theorem d_DM_stateAllows_129 : decode prog_1_method_18_code 129 = .ok (.iconst 1, 1) := by decide +kernel
theorem d_DM_stateAllows_130 : decode prog_1_method_18_code 130 = .ok (.ireturn, 1) := by decide +kernel
def F_DM_stateAllows_129 (σ : Sg) : Option (Int32) := some 1
set_option maxRecDepth 10000 in
set_option maxHeartbeats 4000000 in
theorem bt_DM_stateAllows_129 {p : Program} {l : Launch} {e : Env} {R : Room} {s : State} {m : MethodId} {args : Array Value} {below : List Frame} {meth : Method} {c : Code} {D : va_G} {τ : ClassId × ClassId × ClassId} {B : Nat} {A : Nat → Prop} {ad : Nat → Nat} (E : Cx p R s m args meth c prog_1_method_18_code 2 "DrawingMachine" 0 D τ B A) (hret : meth.sig.returnType = (some .boolean)) (o : Int32) (σ : Sg) (h : F_DM_stateAllows_129 σ = some o) {H : Heap} {locs : List Loc} {ls : Array Slot} (w : Wd s D A (wdC τ σ ad) H locs) (hl : lv_has ls 2 []) : W p l e R s m args below meth c H locs 0 0 (QI below args s A D τ (wdC τ σ ad) o) (F0 m 129 ls []) := by
  refine lv_iconst (v := 1) E.x E.b d_DM_stateAllows_129 (by decide) ?_
  obtain rfl := Option.some.inj h
  exact rt_z E w hret (show (1 : Int32) = 0 ∨ (1 : Int32) = 1 by decide) d_DM_stateAllows_130
def F_DM_stateAllows_128 (σ : Sg) (s0 : Int32) : Option (Int32) := ck (s0 = 0 ∨ s0 = 1) (some s0)
set_option maxRecDepth 10000 in
set_option maxHeartbeats 4000000 in
theorem bt_DM_stateAllows_128 {p : Program} {l : Launch} {e : Env} {R : Room} {s : State} {m : MethodId} {args : Array Value} {below : List Frame} {meth : Method} {c : Code} {D : va_G} {τ : ClassId × ClassId × ClassId} {B : Nat} {A : Nat → Prop} {ad : Nat → Nat} (E : Cx p R s m args meth c prog_1_method_18_code 2 "DrawingMachine" 0 D τ B A) (hret : meth.sig.returnType = (some .boolean)) (o : Int32) (σ : Sg) (s0 : Int32) (h : F_DM_stateAllows_128 σ s0 = some o) {H : Heap} {locs : List Loc} {ls : Array Slot} (w : Wd s D A (wdC τ σ ad) H locs) (hl : lv_has ls 2 []) : W p l e R s m args below meth c H locs 0 0 (QI below args s A D τ (wdC τ σ ad) o) (F0 m 128 ls [.int s0]) := by
  obtain ⟨c16, h⟩ := ck_some h
  obtain rfl := Option.some.inj h
  exact rt_z E w hret c16 d_DM_stateAllows_128
def F_DM_stateAllows_111 (σ : Sg) (s0 : Int32) : Option (Int32) := ck (s0 = 0 ∨ s0 = 1) (some s0)
set_option maxRecDepth 10000 in
set_option maxHeartbeats 4000000 in
theorem bt_DM_stateAllows_111 {p : Program} {l : Launch} {e : Env} {R : Room} {s : State} {m : MethodId} {args : Array Value} {below : List Frame} {meth : Method} {c : Code} {D : va_G} {τ : ClassId × ClassId × ClassId} {B : Nat} {A : Nat → Prop} {ad : Nat → Nat} (E : Cx p R s m args meth c prog_1_method_18_code 2 "DrawingMachine" 0 D τ B A) (hret : meth.sig.returnType = (some .boolean)) (o : Int32) (σ : Sg) (s0 : Int32) (h : F_DM_stateAllows_111 σ s0 = some o) {H : Heap} {locs : List Loc} {ls : Array Slot} (w : Wd s D A (wdC τ σ ad) H locs) (hl : lv_has ls 2 []) : W p l e R s m args below meth c H locs 0 0 (QI below args s A D τ (wdC τ σ ad) o) (F0 m 111 ls [.int s0]) := by
  obtain ⟨c17, h⟩ := ck_some h
  obtain rfl := Option.some.inj h
  exact rt_z E w hret c17 d_DM_stateAllows_111
def F_DM_stateAllows_103 (σ : Sg) (s0 : Int32) (s1 : Int32) : Option (Int32) := if s0 = s1 then (F_DM_stateAllows_111 σ 1) else (F_DM_stateAllows_111 σ 0)
set_option maxRecDepth 10000 in
set_option maxHeartbeats 4000000 in
theorem bt_DM_stateAllows_103 {p : Program} {l : Launch} {e : Env} {R : Room} {s : State} {m : MethodId} {args : Array Value} {below : List Frame} {meth : Method} {c : Code} {D : va_G} {τ : ClassId × ClassId × ClassId} {B : Nat} {A : Nat → Prop} {ad : Nat → Nat} (E : Cx p R s m args meth c prog_1_method_18_code 2 "DrawingMachine" 0 D τ B A) (hret : meth.sig.returnType = (some .boolean)) (o : Int32) (σ : Sg) (s0 : Int32) (s1 : Int32) (h : F_DM_stateAllows_103 σ s0 s1 = some o) {H : Heap} {locs : List Loc} {ls : Array Slot} (w : Wd s D A (wdC τ σ ad) H locs) (hl : lv_has ls 2 []) : W p l e R s m args below meth c H locs 0 0 (QI below args s A D τ (wdC τ σ ad) o) (F0 m 103 ls [.int s1, .int s0]) := by
  refine lv_icmp_ne (tgt := 110) E.x E.b d_DM_stateAllows_103 (by decide) (fun c => ?_) (fun c => ?_)
  ·
    replace h := ifF c h
    refine lv_iconst (v := 0) E.x E.b d_DM_stateAllows_110 (by decide) ?_
    exact bt_DM_stateAllows_111 E hret o σ 0 h w (lv_sub hl [] rfl)
  ·
    replace h := ifT c h
    refine lv_iconst (v := 1) E.x E.b d_DM_stateAllows_106 (by decide) ?_
    refine lv_goto (tgt := 111) E.x E.b d_DM_stateAllows_107 (by decide) ?_
    exact bt_DM_stateAllows_111 E hret o σ 1 h w (lv_sub hl [] rfl)
def F_DM_stateAllows_81 (σ : Sg) (s0 : Int32) : Option (Int32) := ck (s0 = 0 ∨ s0 = 1) (some s0)
set_option maxRecDepth 10000 in
set_option maxHeartbeats 4000000 in
theorem bt_DM_stateAllows_81 {p : Program} {l : Launch} {e : Env} {R : Room} {s : State} {m : MethodId} {args : Array Value} {below : List Frame} {meth : Method} {c : Code} {D : va_G} {τ : ClassId × ClassId × ClassId} {B : Nat} {A : Nat → Prop} {ad : Nat → Nat} (E : Cx p R s m args meth c prog_1_method_18_code 2 "DrawingMachine" 0 D τ B A) (hret : meth.sig.returnType = (some .boolean)) (o : Int32) (σ : Sg) (s0 : Int32) (h : F_DM_stateAllows_81 σ s0 = some o) {H : Heap} {locs : List Loc} {ls : Array Slot} (w : Wd s D A (wdC τ σ ad) H locs) (hl : lv_has ls 2 []) : W p l e R s m args below meth c H locs 0 0 (QI below args s A D τ (wdC τ σ ad) o) (F0 m 81 ls [.int s0]) := by
  obtain ⟨c18, h⟩ := ck_some h
  obtain rfl := Option.some.inj h
  exact rt_z E w hret c18 d_DM_stateAllows_81
def F_DM_stateAllows_80 (σ : Sg) : Option (Int32) := F_DM_stateAllows_81 σ 0
set_option maxRecDepth 10000 in
set_option maxHeartbeats 4000000 in
theorem bt_DM_stateAllows_80 {p : Program} {l : Launch} {e : Env} {R : Room} {s : State} {m : MethodId} {args : Array Value} {below : List Frame} {meth : Method} {c : Code} {D : va_G} {τ : ClassId × ClassId × ClassId} {B : Nat} {A : Nat → Prop} {ad : Nat → Nat} (E : Cx p R s m args meth c prog_1_method_18_code 2 "DrawingMachine" 0 D τ B A) (hret : meth.sig.returnType = (some .boolean)) (o : Int32) (σ : Sg) (h : F_DM_stateAllows_80 σ = some o) {H : Heap} {locs : List Loc} {ls : Array Slot} (w : Wd s D A (wdC τ σ ad) H locs) (hl : lv_has ls 2 []) : W p l e R s m args below meth c H locs 0 0 (QI below args s A D τ (wdC τ σ ad) o) (F0 m 80 ls []) := by
  refine lv_iconst (v := 0) E.x E.b d_DM_stateAllows_80 (by decide) ?_
  exact bt_DM_stateAllows_81 E hret o σ 0 h w (lv_sub hl [] rfl)
def F_DM_stateAllows_56 (σ : Sg) : Option (Int32) := lt (σ.2.2.2.2 2) (fun nn19 => ck (nn19 < 3) (if (σ.1 (22 + 3 * nn19)) ≤ 0 then (F_DM_stateAllows_80 σ) else (lt (σ.2.2.2.2 3) (fun nn21 => ck (nn21 < 3) (if (σ.1 (22 + 3 * nn21)) ≤ 0 then (F_DM_stateAllows_80 σ) else (F_DM_stateAllows_81 σ 1))))))
set_option maxRecDepth 10000 in
set_option maxHeartbeats 4000000 in
theorem bt_DM_stateAllows_56 {p : Program} {l : Launch} {e : Env} {R : Room} {s : State} {m : MethodId} {args : Array Value} {below : List Frame} {meth : Method} {c : Code} {D : va_G} {τ : ClassId × ClassId × ClassId} {B : Nat} {A : Nat → Prop} {ad : Nat → Nat} (E : Cx p R s m args meth c prog_1_method_18_code 2 "DrawingMachine" 0 D τ B A) (hret : meth.sig.returnType = (some .boolean)) (o : Int32) (σ : Sg) (h : F_DM_stateAllows_56 σ = some o) {H : Heap} {locs : List Loc} {ls : Array Slot} (w : Wd s D A (wdC τ σ ad) H locs) (hl : lv_has ls 2 [(0, .ref (ad 56))]) : W p l e R s m args below meth c H locs 0 0 (QI below args s A D τ (wdC τ σ ad) o) (F0 m 56 ls []) := by
  refine lv_aload_n E.x E.b d_DM_stateAllows_56 rfl (lv_at hl 0 rfl) ?_
  refine gC_DM_cornersProgram E w k436 d_DM_stateAllows_57 ?_
  obtain ⟨nn19, e_nn19, h⟩ := lt_some h
  refine wr_e (v := ad (67 + nn19)) (by rw [e_nn19]) ?_
  obtain ⟨c20, h⟩ := ck_some h
  refine gC_Prg_many E w (pid := nn19) c20 k416 d_DM_stateAllows_60 ?_
  refine lv_if_le (tgt := 80) E.x E.b d_DM_stateAllows_63 (by decide) (fun c => ?_) (fun c => ?_)
  ·
    replace h := ifT c h
    exact bt_DM_stateAllows_80 E hret o σ h w (lv_sub hl [] rfl)
  ·
    replace h := ifF c h
    refine lv_aload_n E.x E.b d_DM_stateAllows_66 rfl (lv_at hl 0 rfl) ?_
    refine gC_DM_placesProgram E w k437 d_DM_stateAllows_67 ?_
    obtain ⟨nn21, e_nn21, h⟩ := lt_some h
    refine wr_e (v := ad (67 + nn21)) (by rw [e_nn21]) ?_
    obtain ⟨c22, h⟩ := ck_some h
    refine gC_Prg_many E w (pid := nn21) c22 k416 d_DM_stateAllows_70 ?_
    refine lv_if_le (tgt := 80) E.x E.b d_DM_stateAllows_73 (by decide) (fun c => ?_) (fun c => ?_)
    ·
      replace h := ifT c h
      exact bt_DM_stateAllows_80 E hret o σ h w (lv_sub hl [] rfl)
    ·
      replace h := ifF c h
      refine lv_iconst (v := 1) E.x E.b d_DM_stateAllows_76 (by decide) ?_
      refine lv_goto (tgt := 81) E.x E.b d_DM_stateAllows_77 (by decide) ?_
      exact bt_DM_stateAllows_81 E hret o σ 1 h w (lv_sub hl [] rfl)
def F_DM_stateAllows (σ : Sg) : Option (Int32) := lt (σ.1 3) (fun y23 => if y23 = 17 then (F_DM_stateAllows_56 σ) else (if y23 = 18 then (F_DM_stateAllows_56 σ) else (if y23 = 19 then (if (σ.2.2.1 5 1) = 1 then (F_DM_stateAllows_103 σ (σ.1 15) (-1)) else (F_DM_stateAllows_103 σ (σ.1 15) (σ.2.2.1 5 0))) else (if y23 = 20 then (F_DM_stateAllows_129 σ) else (if y23 = 21 then (F_DM_stateAllows_129 σ) else (if y23 = 22 then (F_DM_stateAllows_129 σ) else (if y23 = 23 then (if 4 ≤ (σ.1 4) then (F_DM_stateAllows_128 σ 0) else (F_DM_stateAllows_128 σ 1)) else (F_DM_stateAllows_129 σ))))))))
set_option maxRecDepth 10000 in
set_option maxHeartbeats 4000000 in
theorem c_DM_stateAllows (l : Launch) (D : va_G) (τ : ClassId × ClassId × ClassId) (B : Nat) (σ : Sg) (ad : Nat → Nat) (o : Int32) (h : F_DM_stateAllows σ = some o) : MI l y_DM_stateAllows (Cond.code y_DM_stateAllows prog_1_method_18_code 2 (some .boolean)) 0 D τ B [.ref (ad 56)] (wdC τ σ ad) (wdC τ σ ad) o := by
  refine en_i (by decide) (Nat.le_of_ble_eq_true rfl) ?_
  intro p e R s m args below meth c H locs ls A E hret w hl
  have E : Cx p R s m args meth c prog_1_method_18_code 2 "DrawingMachine" 0 D τ B A := E
  have hl : lv_has ls 2 [(0, .ref (ad 56))] := hl
  refine lv_aload_n E.x E.b d_DM_stateAllows_0 rfl (lv_at hl 0 rfl) ?_
  refine gC_DM_course E w k433 d_DM_stateAllows_1 ?_
  refine gC_Cou_given E w k112 d_DM_stateAllows_4 ?_
  refine lv_astore_n (lv' := [(1, .ref (ad 5)), (0, .ref (ad 56))]) E.x E.b d_DM_stateAllows_7 rfl hl (by decide) rfl (fun ls hl => ?_)
  refine lv_aload_n E.x E.b d_DM_stateAllows_8 rfl (lv_at hl 1 rfl) ?_
  refine gC_DM_course E w k433 d_DM_stateAllows_9 ?_
  refine gC_Cou_kind E w k117 d_DM_stateAllows_12 ?_
  obtain ⟨y23, e_y23, h⟩ := lt_some h
  refine wi_e (v := y23) e_y23 ?_
  by_cases q24 : y23 = 17
  ·
    replace h := ifT q24 h
    refine wi_e (v := 17) q24 ?_
    refine lv_tableIn (off := 41) (tgt := 56) E.x E.b d_DM_stateAllows_15 (by decide) (by decide) (by decide) (by decide) ?_
    exact bt_DM_stateAllows_56 E hret o σ h w (lv_sub hl [1] rfl)
  replace h := ifF q24 h
  replace q24 := ne_ti (k := 17) (by decide) q24
  by_cases q25 : y23 = 18
  ·
    replace h := ifT q25 h
    refine wi_e (v := 18) q25 ?_
    refine lv_tableIn (off := 41) (tgt := 56) E.x E.b d_DM_stateAllows_15 (by decide) (by decide) (by decide) (by decide) ?_
    exact bt_DM_stateAllows_56 E hret o σ h w (lv_sub hl [1] rfl)
  replace h := ifF q25 h
  replace q25 := ne_ti (k := 18) (by decide) q25
  by_cases q26 : y23 = 19
  ·
    replace h := ifT q26 h
    refine wi_e (v := 19) q26 ?_
    refine lv_tableIn (off := 67) (tgt := 82) E.x E.b d_DM_stateAllows_15 (by decide) (by decide) (by decide) (by decide) ?_
    refine lv_aload_n E.x E.b d_DM_stateAllows_82 rfl (lv_at hl 1 rfl) ?_
    refine gC_DM_drawing E w k435 d_DM_stateAllows_83 ?_
    refine gC_Drw_openQuery E w k378 d_DM_stateAllows_86 ?_
    refine lv_aload_n E.x E.b d_DM_stateAllows_89 rfl (lv_at hl 0 rfl) ?_
    refine lv_iconst (v := 1) E.x E.b d_DM_stateAllows_90 (by decide) ?_
    refine ialC E w (k := 5) (by decide) (show inb 1 8 by decide) d_DM_stateAllows_91 ?_
    refine wi_e (v := σ.2.2.1 5 1) rfl ?_
    refine lv_iconst (v := 1) E.x E.b d_DM_stateAllows_92 (by decide) ?_
    refine lv_icmp_ne (tgt := 100) E.x E.b d_DM_stateAllows_93 (by decide) (fun c => ?_) (fun c => ?_)
    ·
      replace h := ifF c h
      refine lv_aload_n E.x E.b d_DM_stateAllows_100 rfl (lv_at hl 0 rfl) ?_
      refine lv_iconst (v := 0) E.x E.b d_DM_stateAllows_101 (by decide) ?_
      refine ialC E w (k := 5) (by decide) (show inb 0 8 by decide) d_DM_stateAllows_102 ?_
      refine wi_e (v := σ.2.2.1 5 0) rfl ?_
      exact bt_DM_stateAllows_103 E hret o σ (σ.1 15) (σ.2.2.1 5 0) h w (lv_sub hl [] rfl)
    ·
      replace h := ifT c h
      refine lv_iconst (v := (-1)) E.x E.b d_DM_stateAllows_96 (by decide) ?_
      refine lv_goto (tgt := 103) E.x E.b d_DM_stateAllows_97 (by decide) ?_
      exact bt_DM_stateAllows_103 E hret o σ (σ.1 15) (-1) h w (lv_sub hl [] rfl)
  replace h := ifF q26 h
  replace q26 := ne_ti (k := 19) (by decide) q26
  by_cases q27 : y23 = 20
  ·
    replace h := ifT q27 h
    refine wi_e (v := 20) q27 ?_
    refine lv_tableIn (off := 114) (tgt := 129) E.x E.b d_DM_stateAllows_15 (by decide) (by decide) (by decide) (by decide) ?_
    exact bt_DM_stateAllows_129 E hret o σ h w (lv_sub hl [] rfl)
  replace h := ifF q27 h
  replace q27 := ne_ti (k := 20) (by decide) q27
  by_cases q28 : y23 = 21
  ·
    replace h := ifT q28 h
    refine wi_e (v := 21) q28 ?_
    refine lv_tableIn (off := 114) (tgt := 129) E.x E.b d_DM_stateAllows_15 (by decide) (by decide) (by decide) (by decide) ?_
    exact bt_DM_stateAllows_129 E hret o σ h w (lv_sub hl [] rfl)
  replace h := ifF q28 h
  replace q28 := ne_ti (k := 21) (by decide) q28
  by_cases q29 : y23 = 22
  ·
    replace h := ifT q29 h
    refine wi_e (v := 22) q29 ?_
    refine lv_tableIn (off := 114) (tgt := 129) E.x E.b d_DM_stateAllows_15 (by decide) (by decide) (by decide) (by decide) ?_
    exact bt_DM_stateAllows_129 E hret o σ h w (lv_sub hl [] rfl)
  replace h := ifF q29 h
  replace q29 := ne_ti (k := 22) (by decide) q29
  by_cases q30 : y23 = 23
  ·
    replace h := ifT q30 h
    refine wi_e (v := 23) q30 ?_
    refine lv_tableIn (off := 97) (tgt := 112) E.x E.b d_DM_stateAllows_15 (by decide) (by decide) (by decide) (by decide) ?_
    refine lv_aload_n E.x E.b d_DM_stateAllows_112 rfl (lv_at hl 1 rfl) ?_
    refine gC_DM_course E w k433 d_DM_stateAllows_113 ?_
    refine gC_Cou_depth E w k119 d_DM_stateAllows_116 ?_
    refine lv_iconst (v := 4) E.x E.b d_DM_stateAllows_119 (by decide) ?_
    refine lv_icmp_ge (tgt := 127) E.x E.b d_DM_stateAllows_120 (by decide) (fun c => ?_) (fun c => ?_)
    ·
      replace h := ifT c h
      refine lv_iconst (v := 0) E.x E.b d_DM_stateAllows_127 (by decide) ?_
      exact bt_DM_stateAllows_128 E hret o σ 0 h w (lv_sub hl [] rfl)
    ·
      replace h := ifF c h
      refine lv_iconst (v := 1) E.x E.b d_DM_stateAllows_123 (by decide) ?_
      refine lv_goto (tgt := 128) E.x E.b d_DM_stateAllows_124 (by decide) ?_
      exact bt_DM_stateAllows_128 E hret o σ 1 h w (lv_sub hl [] rfl)
  replace h := ifF q30 h
  replace q30 := ne_ti (k := 23) (by decide) q30
  refine lv_tableOut (tgt := 129) E.x E.b d_DM_stateAllows_15 (by omega) (by decide) ?_
  exact bt_DM_stateAllows_129 E hret o σ h w (lv_sub hl [] rfl)
theorem clV_DM_stateAllows {p : Program} {l : Launch} {e : Env} {R : Room} {s : State} {m : MethodId} {args : Array Value} {below : List Frame} {meth : Method} {c : Code} {H : Heap} {locs : List Loc} {Q : State → Prop} {cc : ByteArray} {nL pc lev : Nat} {own : String} {D : va_G} {τ : ClassId × ClassId × ClassId} {B : Nat} {A : Nat → Prop} {σ : Sg} {ad : Nat → Nat} {ls : Array Slot} {rest : List Value} (E : Cx p R s m args meth c cc nL own lev D τ B A) (w : Wd s D A (wdC τ σ ad) H locs) {o : Int32} (h : F_DM_stateAllows σ = some o) {index : Nat} (hlk : Cond.methodLink own index y_DM_stateAllows ∈ tw) (hlev : 0 < lev) (hsz : ls.size = nL) (hr : (rest.map fun v => v.category).sum ≤ 8) (hd : decode cc pc = .ok (.invokevirtual index, 3)) (kk : ∀ (H1 : Heap) (locs1 : List Loc), Wd s D A (wdC τ σ ad) H1 locs1 → W p l e R s m args below meth c H1 locs1 0 0 Q (F0 m (pc + 3) ls (.int o :: rest))) : W p l e R s m args below meth c H locs 0 0 Q (F0 m pc ls (.ref (ad 56) :: rest)) :=
  cr_i w E.C (va_runV (As := []) (rest := rest) E.fix (c_DM_stateAllows l D τ B σ ad o h H.size) (cwV 0 E.w (tw_pre (tw_good k975) (l := [_, _, _, _]) (List.forall_mem_cons.mpr ⟨hlk, List.forall_mem_cons.mpr ⟨k974, List.forall_mem_cons.mpr ⟨ks7, List.forall_mem_cons.mpr ⟨k1, fun _ h => absurd h List.not_mem_nil⟩⟩⟩⟩)) rfl rfl rfl (by decide +kernel) (E.rm hlev (by decide))) (wd_preV w E.C [] rcC_DM rfl) rfl rfl hsz rfl (lv_room hr) hd ⟨Nat.zero_le _, Nat.zero_le _⟩) kk

theorem d_DM_within_0 : decode prog_1_method_26_code 0 = .ok (.lload_n 0, 1) := by decide +kernel
theorem d_DM_within_1 : decode prog_1_method_26_code 1 = .ok (.iload_n 2, 1) := by decide +kernel
theorem d_DM_within_2 : decode prog_1_method_26_code 2 = .ok (.i2l, 1) := by decide +kernel
theorem d_DM_within_3 : decode prog_1_method_26_code 3 = .ok (.lcmp, 1) := by decide +kernel
theorem d_DM_within_4 : decode prog_1_method_26_code 4 = .ok (.ifCond .ge 7, 3) := by decide +kernel
theorem d_DM_within_7 : decode prog_1_method_26_code 7 = .ok (.iload_n 2, 1) := by decide +kernel
theorem d_DM_within_8 : decode prog_1_method_26_code 8 = .ok (.goto 16, 3) := by decide +kernel
theorem d_DM_within_11 : decode prog_1_method_26_code 11 = .ok (.lload_n 0, 1) := by decide +kernel
theorem d_DM_within_12 : decode prog_1_method_26_code 12 = .ok (.iload_n 3, 1) := by decide +kernel
theorem d_DM_within_13 : decode prog_1_method_26_code 13 = .ok (.i2l, 1) := by decide +kernel
theorem d_DM_within_14 : decode prog_1_method_26_code 14 = .ok (.lcmp, 1) := by decide +kernel
theorem d_DM_within_15 : decode prog_1_method_26_code 15 = .ok (.ifCond .le 7, 3) := by decide +kernel
theorem d_DM_within_18 : decode prog_1_method_26_code 18 = .ok (.iload_n 3, 1) := by decide +kernel
theorem d_DM_within_19 : decode prog_1_method_26_code 19 = .ok (.goto 5, 3) := by decide +kernel
theorem d_DM_within_22 : decode prog_1_method_26_code 22 = .ok (.lload_n 0, 1) := by decide +kernel
theorem d_DM_within_23 : decode prog_1_method_26_code 23 = .ok (.l2i, 1) := by decide +kernel
theorem d_DM_within_24 : decode prog_1_method_26_code 24 = .ok (.ireturn, 1) := by decide +kernel
def F_DM_within_24  (s0 : Int32) : Option (Int32) := some s0
set_option maxRecDepth 10000 in
set_option maxHeartbeats 4000000 in
theorem bt_DM_within_24 {p : Program} {l : Launch} {e : Env} {R : Room} {s : State} {m : MethodId} {args : Array Value} {below : List Frame} {meth : Method} {c : Code} {D : va_G} {τ : ClassId × ClassId × ClassId} {B : Nat} {A : Nat → Prop} {ad : Nat → Nat} {σ0 : Sg} (E : Cx p R s m args meth c prog_1_method_26_code 4 "DrawingMachine" 0 D τ B A) (hret : meth.sig.returnType = (some .int)) (o : Int32) (s0 : Int32) (h : F_DM_within_24 s0 = some o) {H : Heap} {locs : List Loc} {ls : Array Slot} (w : Wd s D A (wdC τ σ0 ad) H locs) (hl : lv_has ls 4 []) : W p l e R s m args below meth c H locs 0 0 (QI below args s A D τ (wdC τ σ0 ad) o) (F0 m 24 ls [.int s0]) := by
  obtain rfl := Option.some.inj h
  exact rt_i E w hret d_DM_within_24
def F_DM_within  (x0 : Int64) (x1 : Int32) (x2 : Int32) : Option (Int32) := if x1.toInt64 ≤ x0 then (if x0 ≤ x2.toInt64 then (F_DM_within_24 x0.toInt32) else (F_DM_within_24 x2)) else (F_DM_within_24 x1)
set_option maxRecDepth 10000 in
set_option maxHeartbeats 4000000 in
theorem c_DM_within (l : Launch) (D : va_G) (τ : ClassId × ClassId × ClassId) (B : Nat) (σ0 : Sg) (ad : Nat → Nat) (x0 : Int64) (x1 : Int32) (x2 : Int32) (o : Int32) (h : F_DM_within x0 x1 x2 = some o) : MI l y_DM_within (Cond.code y_DM_within prog_1_method_26_code 4 (some .int)) 0 D τ B [.long x0, .int x1, .int x2] (wdC τ σ0 ad) (wdC τ σ0 ad) o := by
  refine en_i (by decide) (Nat.le_of_ble_eq_true rfl) ?_
  intro p e R s m args below meth c H locs ls A E hret w hl
  have E : Cx p R s m args meth c prog_1_method_26_code 4 "DrawingMachine" 0 D τ B A := E
  have hl : lv_has ls 4 [(0, .long x0), (2, .int x1), (3, .int x2)] := hl
  refine lv_lload_n E.x E.b d_DM_within_0 rfl (lv_at hl 0 rfl) ?_
  refine lv_iload_n E.x E.b d_DM_within_1 rfl (lv_at hl 1 rfl) ?_
  refine lv_i2l (v := x1.toInt64) E.x E.b d_DM_within_2 rfl ?_
  refine W.lcmp E.x E.b d_DM_within_3 ?_
  refine lv_if_ge (tgt := 11) E.x E.b d_DM_within_4 (by decide) (fun c => ?_) (fun c => ?_)
  ·
    replace h := ifT (lgc_ge.mp c) h
    refine lv_lload_n E.x E.b d_DM_within_11 rfl (lv_at hl 0 rfl) ?_
    refine lv_iload_n E.x E.b d_DM_within_12 rfl (lv_at hl 2 rfl) ?_
    refine lv_i2l (v := x2.toInt64) E.x E.b d_DM_within_13 rfl ?_
    refine W.lcmp E.x E.b d_DM_within_14 ?_
    refine lv_if_le (tgt := 22) E.x E.b d_DM_within_15 (by decide) (fun c => ?_) (fun c => ?_)
    ·
      replace h := ifT (lgc_le.mp c) h
      refine lv_lload_n E.x E.b d_DM_within_22 rfl (lv_at hl 0 rfl) ?_
      refine lv_l2i (v := x0.toInt32) E.x E.b d_DM_within_23 rfl ?_
      exact bt_DM_within_24 E hret o x0.toInt32 h w (lv_sub hl [] rfl)
    ·
      replace h := ifF (fun h9 => c (lgc_le.mpr h9)) h
      refine lv_iload_n E.x E.b d_DM_within_18 rfl (lv_at hl 2 rfl) ?_
      refine lv_goto (tgt := 24) E.x E.b d_DM_within_19 (by decide) ?_
      exact bt_DM_within_24 E hret o x2 h w (lv_sub hl [] rfl)
  ·
    replace h := ifF (fun h9 => c (lgc_ge.mpr h9)) h
    refine lv_iload_n E.x E.b d_DM_within_7 rfl (lv_at hl 1 rfl) ?_
    refine lv_goto (tgt := 24) E.x E.b d_DM_within_8 (by decide) ?_
    exact bt_DM_within_24 E hret o x1 h w (lv_sub hl [] rfl)
theorem clSN_DM_within {p : Program} {l : Launch} {e : Env} {R : Room} {s : State} {m : MethodId} {args : Array Value} {below : List Frame} {meth : Method} {c : Code} {H : Heap} {locs : List Loc} {Q : State → Prop} {cc : ByteArray} {nL pc lev : Nat} {own : String} {D : va_G} {τ : ClassId × ClassId × ClassId} {B : Nat} {A : Nat → Prop} {σ : Sg} {ad : Nat → Nat} {ls : Array Slot} {rest : List Value} (E : Cx p R s m args meth c cc nL own lev D τ B A) (w : Wd s D A (wdC τ σ ad) H locs) {x0 : Int64} {x1 : Int32} {x2 : Int32} {o : Int32} (h : F_DM_within x0 x1 x2 = some o) {index : Nat} {host : String} (hlk : Cond.methodLinkNest own index y_DM_within host ∈ nw) (hlev : 0 < lev) (hsz : ls.size = nL) (hr : (rest.map fun v => v.category).sum ≤ 8) (hd : decode cc pc = .ok (.invokestatic index, 3)) (kk : ∀ (H1 : Heap) (locs1 : List Loc), Wd s D A (wdC τ σ ad) H1 locs1 → W p l e R s m args below meth c H1 locs1 0 0 Q (F0 m (pc + 3) ls (.int o :: rest))) : W p l e R s m args below meth c H locs 0 0 Q (F0 m pc ls (.int x2 :: .int x1 :: .long x0 :: rest)) :=
  cr_i w E.C (va_runSN (As := [.long x0, .int x1, .int x2]) (rest := rest) E.fix (c_DM_within l D τ B σ ad x0 x1 x2 o h H.size) ⟨va_cnB 3 E.w (tw_good k953) rfl rfl rfl (E.C.2.1.1 _ hlk) (E.w _ k1) (by decide +kernel) (E.rm hlev (by decide)), E.w _ k952, trivial⟩ (wd_pre w E.C [.long x0, .int x1, .int x2]) rfl rfl hsz rfl (lv_room hr) hd ⟨Nat.zero_le _, Nat.zero_le _⟩) kk

theorem d_Cou_limit_0 : decode prog_3_method_7_code 0 = .ok (.aload_n 0, 1) := by decide +kernel
theorem d_Cou_limit_1 : decode prog_3_method_7_code 1 = .ok (.getfield 49, 3) := by decide +kernel
theorem d_Cou_limit_4 : decode prog_3_method_7_code 4 = .ok (.ifCond .ne 10, 3) := by decide +kernel
theorem d_Cou_limit_7 : decode prog_3_method_7_code 7 = .ok (.aload_n 0, 1) := by decide +kernel
theorem d_Cou_limit_8 : decode prog_3_method_7_code 8 = .ok (.getfield 31, 3) := by decide +kernel
theorem d_Cou_limit_11 : decode prog_3_method_7_code 11 = .ok (.goto 6, 3) := by decide +kernel
theorem d_Cou_limit_14 : decode prog_3_method_7_code 14 = .ok (.sipush 4096, 3) := by decide +kernel
theorem d_Cou_limit_17 : decode prog_3_method_7_code 17 = .ok (.ireturn, 1) := by decide +kernel
def F_Cou_limit_17 (σ : Sg) (s0 : Int32) : Option (Int32) := some s0
set_option maxRecDepth 10000 in
set_option maxHeartbeats 4000000 in
theorem bt_Cou_limit_17 {p : Program} {l : Launch} {e : Env} {R : Room} {s : State} {m : MethodId} {args : Array Value} {below : List Frame} {meth : Method} {c : Code} {D : va_G} {τ : ClassId × ClassId × ClassId} {B : Nat} {A : Nat → Prop} {ad : Nat → Nat} (E : Cx p R s m args meth c prog_3_method_7_code 1 "DrawingMachine$Course" 0 D τ B A) (hret : meth.sig.returnType = (some .int)) (o : Int32) (σ : Sg) (s0 : Int32) (h : F_Cou_limit_17 σ s0 = some o) {H : Heap} {locs : List Loc} {ls : Array Slot} (w : Wd s D A (wdC τ σ ad) H locs) (hl : lv_has ls 1 []) : W p l e R s m args below meth c H locs 0 0 (QI below args s A D τ (wdC τ σ ad) o) (F0 m 17 ls [.int s0]) := by
  obtain rfl := Option.some.inj h
  exact rt_i E w hret d_Cou_limit_17
def F_Cou_limit (σ : Sg) : Option (Int32) := if (σ.1 4) = 0 then (F_Cou_limit_17 σ (σ.1 2)) else (F_Cou_limit_17 σ 4096)
set_option maxRecDepth 10000 in
set_option maxHeartbeats 4000000 in
theorem c_Cou_limit (l : Launch) (D : va_G) (τ : ClassId × ClassId × ClassId) (B : Nat) (σ : Sg) (ad : Nat → Nat) (o : Int32) (h : F_Cou_limit σ = some o) : MI l y_Cou_limit (Cond.code y_Cou_limit prog_3_method_7_code 1 (some .int)) 0 D τ B [.ref (ad 59)] (wdC τ σ ad) (wdC τ σ ad) o := by
  refine en_i (by decide) (Nat.le_of_ble_eq_true rfl) ?_
  intro p e R s m args below meth c H locs ls A E hret w hl
  have E : Cx p R s m args meth c prog_3_method_7_code 1 "DrawingMachine$Course" 0 D τ B A := E
  have hl : lv_has ls 1 [(0, .ref (ad 59))] := hl
  refine lv_aload_n E.x E.b d_Cou_limit_0 rfl (lv_at hl 0 rfl) ?_
  refine gC_Cou_depth E w k118 d_Cou_limit_1 ?_
  refine lv_if_ne (tgt := 14) E.x E.b d_Cou_limit_4 (by decide) (fun c => ?_) (fun c => ?_)
  ·
    replace h := ifF c h
    refine lv_sipush (v := 4096) E.x E.b d_Cou_limit_14 (by decide) ?_
    exact bt_Cou_limit_17 E hret o σ 4096 h w (lv_sub hl [] rfl)
  ·
    replace h := ifT c h
    refine lv_aload_n E.x E.b d_Cou_limit_7 rfl (lv_at hl 0 rfl) ?_
    refine gC_Cou_words E w k113 d_Cou_limit_8 ?_
    refine lv_goto (tgt := 17) E.x E.b d_Cou_limit_11 (by decide) ?_
    exact bt_Cou_limit_17 E hret o σ (σ.1 2) h w (lv_sub hl [] rfl)
theorem clV_Cou_limit {p : Program} {l : Launch} {e : Env} {R : Room} {s : State} {m : MethodId} {args : Array Value} {below : List Frame} {meth : Method} {c : Code} {H : Heap} {locs : List Loc} {Q : State → Prop} {cc : ByteArray} {nL pc lev : Nat} {own : String} {D : va_G} {τ : ClassId × ClassId × ClassId} {B : Nat} {A : Nat → Prop} {σ : Sg} {ad : Nat → Nat} {ls : Array Slot} {rest : List Value} (E : Cx p R s m args meth c cc nL own lev D τ B A) (w : Wd s D A (wdC τ σ ad) H locs) {o : Int32} (h : F_Cou_limit σ = some o) {index : Nat} (hlk : Cond.methodLink own index y_Cou_limit ∈ tw) (hlev : 0 < lev) (hsz : ls.size = nL) (hr : (rest.map fun v => v.category).sum ≤ 8) (hd : decode cc pc = .ok (.invokevirtual index, 3)) (kk : ∀ (H1 : Heap) (locs1 : List Loc), Wd s D A (wdC τ σ ad) H1 locs1 → W p l e R s m args below meth c H1 locs1 0 0 Q (F0 m (pc + 3) ls (.int o :: rest))) : W p l e R s m args below meth c H locs 0 0 Q (F0 m pc ls (.ref (ad 59) :: rest)) :=
  cr_i w E.C (va_runV (As := []) (rest := rest) E.fix (c_Cou_limit l D τ B σ ad o h H.size) (cwV 0 E.w (tw_pre (tw_good k948) (l := [_, _, _, _]) (List.forall_mem_cons.mpr ⟨hlk, List.forall_mem_cons.mpr ⟨k947, List.forall_mem_cons.mpr ⟨ks4, List.forall_mem_cons.mpr ⟨k5, fun _ h => absurd h List.not_mem_nil⟩⟩⟩⟩)) rfl rfl rfl (by decide +kernel) (E.rm hlev (by decide))) (wd_preV w E.C [] rcC_Cou rfl) rfl rfl hsz rfl (lv_room hr) hd ⟨Nat.zero_le _, Nat.zero_le _⟩) kk

theorem d_Cou_valuesMayBe_0 : decode prog_3_method_8_code 0 = .ok (.getstatic 97, 3) := by decide +kernel
theorem d_Cou_valuesMayBe_3 : decode prog_3_method_8_code 3 = .ok (.aload_n 0, 1) := by decide +kernel
theorem d_Cou_valuesMayBe_4 : decode prog_3_method_8_code 4 = .ok (.getfield 74, 3) := by decide +kernel
theorem d_Cou_valuesMayBe_7 : decode prog_3_method_8_code 7 = .ok (.iaload, 1) := by decide +kernel
theorem d_Cou_valuesMayBe_8 : decode prog_3_method_8_code 8 = .ok (.istore_n 1, 1) := by decide +kernel
theorem d_Cou_valuesMayBe_9 : decode prog_3_method_8_code 9 = .ok (.iconst 0, 1) := by decide +kernel
theorem d_Cou_valuesMayBe_10 : decode prog_3_method_8_code 10 = .ok (.istore_n 2, 1) := by decide +kernel
theorem d_Cou_valuesMayBe_11 : decode prog_3_method_8_code 11 = .ok (.iload_n 2, 1) := by decide +kernel
theorem d_Cou_valuesMayBe_12 : decode prog_3_method_8_code 12 = .ok (.getstatic 80, 3) := by decide +kernel
theorem d_Cou_valuesMayBe_15 : decode prog_3_method_8_code 15 = .ok (.aload_n 0, 1) := by decide +kernel
theorem d_Cou_valuesMayBe_16 : decode prog_3_method_8_code 16 = .ok (.getfield 74, 3) := by decide +kernel
theorem d_Cou_valuesMayBe_19 : decode prog_3_method_8_code 19 = .ok (.iaload, 1) := by decide +kernel
theorem d_Cou_valuesMayBe_20 : decode prog_3_method_8_code 20 = .ok (.if_icmp .ge 43, 3) := by decide +kernel
theorem d_Cou_valuesMayBe_23 : decode prog_3_method_8_code 23 = .ok (.aload_n 0, 1) := by decide +kernel
theorem d_Cou_valuesMayBe_24 : decode prog_3_method_8_code 24 = .ok (.getfield 9, 3) := by decide +kernel
theorem d_Cou_valuesMayBe_27 : decode prog_3_method_8_code 27 = .ok (.iload_n 2, 1) := by decide +kernel
theorem d_Cou_valuesMayBe_28 : decode prog_3_method_8_code 28 = .ok (.iaload, 1) := by decide +kernel
theorem d_Cou_valuesMayBe_29 : decode prog_3_method_8_code 29 = .ok (.getstatic 100, 3) := by decide +kernel
theorem d_Cou_valuesMayBe_32 : decode prog_3_method_8_code 32 = .ok (.iload_n 1, 1) := by decide +kernel
theorem d_Cou_valuesMayBe_33 : decode prog_3_method_8_code 33 = .ok (.iload_n 2, 1) := by decide +kernel
theorem d_Cou_valuesMayBe_34 : decode prog_3_method_8_code 34 = .ok (.iadd, 1) := by decide +kernel
theorem d_Cou_valuesMayBe_35 : decode prog_3_method_8_code 35 = .ok (.iaload, 1) := by decide +kernel
theorem d_Cou_valuesMayBe_36 : decode prog_3_method_8_code 36 = .ok (.if_icmp .lt 19, 3) := by decide +kernel
theorem d_Cou_valuesMayBe_39 : decode prog_3_method_8_code 39 = .ok (.aload_n 0, 1) := by decide +kernel
theorem d_Cou_valuesMayBe_40 : decode prog_3_method_8_code 40 = .ok (.getfield 9, 3) := by decide +kernel
theorem d_Cou_valuesMayBe_43 : decode prog_3_method_8_code 43 = .ok (.iload_n 2, 1) := by decide +kernel
theorem d_Cou_valuesMayBe_44 : decode prog_3_method_8_code 44 = .ok (.iaload, 1) := by decide +kernel
theorem d_Cou_valuesMayBe_45 : decode prog_3_method_8_code 45 = .ok (.getstatic 103, 3) := by decide +kernel
theorem d_Cou_valuesMayBe_48 : decode prog_3_method_8_code 48 = .ok (.iload_n 1, 1) := by decide +kernel
theorem d_Cou_valuesMayBe_49 : decode prog_3_method_8_code 49 = .ok (.iload_n 2, 1) := by decide +kernel
theorem d_Cou_valuesMayBe_50 : decode prog_3_method_8_code 50 = .ok (.iadd, 1) := by decide +kernel
theorem d_Cou_valuesMayBe_51 : decode prog_3_method_8_code 51 = .ok (.iaload, 1) := by decide +kernel
theorem d_Cou_valuesMayBe_52 : decode prog_3_method_8_code 52 = .ok (.if_icmp .le 5, 3) := by decide +kernel
theorem d_Cou_valuesMayBe_55 : decode prog_3_method_8_code 55 = .ok (.iconst 0, 1) := by decide +kernel
theorem d_Cou_valuesMayBe_56 : decode prog_3_method_8_code 56 = .ok (.ireturn, 1) := by decide +kernel
theorem d_Cou_valuesMayBe_57 : decode prog_3_method_8_code 57 = .ok (.iinc 2 1, 3) := by decide +kernel
theorem d_Cou_valuesMayBe_60 : decode prog_3_method_8_code 60 = .ok (.goto (-49), 3) := by decide +kernel
theorem d_Cou_valuesMayBe_63 : decode prog_3_method_8_code 63 = .ok (.iconst 1, 1) := by decide +kernel
theorem d_Cou_valuesMayBe_64 : decode prog_3_method_8_code 64 = .ok (.ireturn, 1) := by decide +kernel
def F_Cou_valuesMayBe_55 (σ : Sg) : Option (Int32) := some 0
set_option maxRecDepth 10000 in
set_option maxHeartbeats 4000000 in
theorem bt_Cou_valuesMayBe_55 {p : Program} {l : Launch} {e : Env} {R : Room} {s : State} {m : MethodId} {args : Array Value} {below : List Frame} {meth : Method} {c : Code} {D : va_G} {τ : ClassId × ClassId × ClassId} {B : Nat} {A : Nat → Prop} {ad : Nat → Nat} (E : Cx p R s m args meth c prog_3_method_8_code 3 "DrawingMachine$Course" 0 D τ B A) (hret : meth.sig.returnType = (some .boolean)) (o : Int32) (σ : Sg) (h : F_Cou_valuesMayBe_55 σ = some o) {H : Heap} {locs : List Loc} {ls : Array Slot} (w : Wd s D A (wdC τ σ ad) H locs) (hl : lv_has ls 3 []) : W p l e R s m args below meth c H locs 0 0 (QI below args s A D τ (wdC τ σ ad) o) (F0 m 55 ls []) := by
  refine lv_iconst (v := 0) E.x E.b d_Cou_valuesMayBe_55 (by decide) ?_
  obtain rfl := Option.some.inj h
  exact rt_z E w hret (show (0 : Int32) = 0 ∨ (0 : Int32) = 1 by decide) d_Cou_valuesMayBe_56
def L_Cou_valuesMayBe_11 : Nat → Sg → Int32 → Int32 → Option (Int32)
  | 0, _, _, _ => none
  | n + 1, σ, v1, v2 => ck (inb (σ.1 3) 26) (if (tb_ARGUMENTS (σ.1 3).toNatClampNeg) ≤ v2 then (some 1) else (ck (inb v2 8) (ck (inb (v1 + v2) 86) (if (σ.2.2.1 5 v2.toNatClampNeg) < (tb_LEAST (v1 + v2).toNatClampNeg) then (F_Cou_valuesMayBe_55 σ) else (ck (inb v2 8) (ck (inb (v1 + v2) 86) (if (σ.2.2.1 5 v2.toNatClampNeg) ≤ (tb_MOST (v1 + v2).toNatClampNeg) then (lt (v2 + 1) (fun y21 => L_Cou_valuesMayBe_11 n σ v1 y21)) else (F_Cou_valuesMayBe_55 σ))))))))
set_option maxRecDepth 10000 in
set_option maxHeartbeats 4000000 in
theorem lt_Cou_valuesMayBe_11 {p : Program} {l : Launch} {e : Env} {R : Room} {s : State} {m : MethodId} {args : Array Value} {below : List Frame} {meth : Method} {c : Code} {D : va_G} {τ : ClassId × ClassId × ClassId} {B : Nat} {A : Nat → Prop} {ad : Nat → Nat} (E : Cx p R s m args meth c prog_3_method_8_code 3 "DrawingMachine$Course" 0 D τ B A) (hret : meth.sig.returnType = (some .boolean)) (o : Int32) (σ : Sg) : ∀ (n : Nat) (v1 : Int32) (v2 : Int32) (H : Heap) (locs : List Loc) (ls : Array Slot), L_Cou_valuesMayBe_11 n σ v1 v2 = some o → Wd s D A (wdC τ σ ad) H locs → lv_has ls 3 [(0, .ref (ad 59)), (1, .int v1), (2, .int v2)] → W p l e R s m args below meth c H locs 0 0 (QI below args s A D τ (wdC τ σ ad) o) (F0 m 11 ls []) := by
  intro n
  induction n with
  | zero =>
    intro v1 v2 H locs ls h w hl
    cases h
  | succ n hr_11 =>
    intro v1 v2 H locs ls h w hl
    refine lv_iload_n E.x E.b d_Cou_valuesMayBe_11 rfl (lv_at hl 2 rfl) ?_
    refine r_tab (n := "ARGUMENTS") E w (by decide) n949 d_Cou_valuesMayBe_12 (fun t13 h_t13 => ?_)
    refine lv_aload_n E.x E.b d_Cou_valuesMayBe_15 rfl (lv_at hl 0 rfl) ?_
    refine gC_Cou_kind E w k116 d_Cou_valuesMayBe_16 ?_
    obtain ⟨c14, h⟩ := ck_some h
    refine r_tld (f := fun j => tb_ARGUMENTS j) E w h_t13 c14 d_Cou_valuesMayBe_19 ?_
    refine lv_icmp_ge (tgt := 63) E.x E.b d_Cou_valuesMayBe_20 (by decide) (fun c => ?_) (fun c => ?_)
    ·
      replace h := ifT c h
      refine lv_iconst (v := 1) E.x E.b d_Cou_valuesMayBe_63 (by decide) ?_
      obtain rfl := Option.some.inj h
      exact rt_z E w hret (show (1 : Int32) = 0 ∨ (1 : Int32) = 1 by decide) d_Cou_valuesMayBe_64
    ·
      replace h := ifF c h
      refine lv_aload_n E.x E.b d_Cou_valuesMayBe_23 rfl (lv_at hl 0 rfl) ?_
      refine gC_Cou_given E w k110 d_Cou_valuesMayBe_24 ?_
      refine lv_iload_n E.x E.b d_Cou_valuesMayBe_27 rfl (lv_at hl 2 rfl) ?_
      obtain ⟨c15, h⟩ := ck_some h
      refine ialC E w (k := 5) (by decide) c15 d_Cou_valuesMayBe_28 ?_
      refine r_tab (n := "LEAST") E w (by decide) n961 d_Cou_valuesMayBe_29 (fun t16 h_t16 => ?_)
      refine lv_iload_n E.x E.b d_Cou_valuesMayBe_32 rfl (lv_at hl 1 rfl) ?_
      refine lv_iload_n E.x E.b d_Cou_valuesMayBe_33 rfl (lv_at hl 2 rfl) ?_
      refine lv_iadd E.x E.b d_Cou_valuesMayBe_34 ?_
      obtain ⟨c17, h⟩ := ck_some h
      refine r_tld (f := fun j => tb_LEAST j) E w h_t16 c17 d_Cou_valuesMayBe_35 ?_
      refine lv_icmp_lt (tgt := 55) E.x E.b d_Cou_valuesMayBe_36 (by decide) (fun c => ?_) (fun c => ?_)
      ·
        replace h := ifT c h
        exact bt_Cou_valuesMayBe_55 E hret o σ h w (lv_sub hl [] rfl)
      ·
        replace h := ifF c h
        refine lv_aload_n E.x E.b d_Cou_valuesMayBe_39 rfl (lv_at hl 0 rfl) ?_
        refine gC_Cou_given E w k110 d_Cou_valuesMayBe_40 ?_
        refine lv_iload_n E.x E.b d_Cou_valuesMayBe_43 rfl (lv_at hl 2 rfl) ?_
        obtain ⟨c18, h⟩ := ck_some h
        refine ialC E w (k := 5) (by decide) c18 d_Cou_valuesMayBe_44 ?_
        refine r_tab (n := "MOST") E w (by decide) n963 d_Cou_valuesMayBe_45 (fun t19 h_t19 => ?_)
        refine lv_iload_n E.x E.b d_Cou_valuesMayBe_48 rfl (lv_at hl 1 rfl) ?_
        refine lv_iload_n E.x E.b d_Cou_valuesMayBe_49 rfl (lv_at hl 2 rfl) ?_
        refine lv_iadd E.x E.b d_Cou_valuesMayBe_50 ?_
        obtain ⟨c20, h⟩ := ck_some h
        refine r_tld (f := fun j => tb_MOST j) E w h_t19 c20 d_Cou_valuesMayBe_51 ?_
        refine lv_icmp_le (tgt := 57) E.x E.b d_Cou_valuesMayBe_52 (by decide) (fun c => ?_) (fun c => ?_)
        ·
          replace h := ifT c h
          obtain ⟨y21, e_y21, h⟩ := lt_some h
          refine lv_iinc (v := y21) (lv' := [(2, .int y21), (0, .ref (ad 59)), (1, .int v1)]) E.x E.b d_Cou_valuesMayBe_57 hl (k := 2) rfl (e_y21) (by decide) rfl (fun ls hl => ?_)
          refine lv_goto (tgt := 11) E.x E.b d_Cou_valuesMayBe_60 (by decide) ?_
          exact hr_11 v1 y21 _ _ _ h w (lv_sub hl [1, 2, 0] rfl)
        ·
          replace h := ifF c h
          exact bt_Cou_valuesMayBe_55 E hret o σ h w (lv_sub hl [] rfl)
def F_Cou_valuesMayBe (σ : Sg) : Option (Int32) := ck (inb (σ.1 3) 26) (lt (tb_BOUNDS_AT (σ.1 3).toNatClampNeg) (fun y24 => L_Cou_valuesMayBe_11 100000 σ y24 0))
set_option maxRecDepth 10000 in
set_option maxHeartbeats 4000000 in
theorem c_Cou_valuesMayBe (l : Launch) (D : va_G) (τ : ClassId × ClassId × ClassId) (B : Nat) (σ : Sg) (ad : Nat → Nat) (o : Int32) (h : F_Cou_valuesMayBe σ = some o) : MI l y_Cou_valuesMayBe (Cond.code y_Cou_valuesMayBe prog_3_method_8_code 3 (some .boolean)) 0 D τ B [.ref (ad 59)] (wdC τ σ ad) (wdC τ σ ad) o := by
  refine en_i (by decide) (Nat.le_of_ble_eq_true rfl) ?_
  intro p e R s m args below meth c H locs ls A E hret w hl
  have E : Cx p R s m args meth c prog_3_method_8_code 3 "DrawingMachine$Course" 0 D τ B A := E
  have hl : lv_has ls 3 [(0, .ref (ad 59))] := hl
  refine r_tab (n := "BOUNDS_AT") E w (by decide) n959 d_Cou_valuesMayBe_0 (fun t22 h_t22 => ?_)
  refine lv_aload_n E.x E.b d_Cou_valuesMayBe_3 rfl (lv_at hl 0 rfl) ?_
  refine gC_Cou_kind E w k116 d_Cou_valuesMayBe_4 ?_
  obtain ⟨c23, h⟩ := ck_some h
  refine r_tld (f := fun j => tb_BOUNDS_AT j) E w h_t22 c23 d_Cou_valuesMayBe_7 ?_
  obtain ⟨y24, e_y24, h⟩ := lt_some h
  refine wi_e (v := y24) e_y24 ?_
  refine lv_istore_n (lv' := [(1, .int y24), (0, .ref (ad 59))]) E.x E.b d_Cou_valuesMayBe_8 rfl hl (by decide) rfl (fun ls hl => ?_)
  refine lv_iconst (v := 0) E.x E.b d_Cou_valuesMayBe_9 (by decide) ?_
  refine lv_istore_n (lv' := [(2, .int 0), (1, .int y24), (0, .ref (ad 59))]) E.x E.b d_Cou_valuesMayBe_10 rfl hl (by decide) rfl (fun ls hl => ?_)
  exact lt_Cou_valuesMayBe_11 E hret o σ 100000 y24 0 _ _ _ h w (lv_sub hl [2, 1, 0] rfl)
theorem clV_Cou_valuesMayBe {p : Program} {l : Launch} {e : Env} {R : Room} {s : State} {m : MethodId} {args : Array Value} {below : List Frame} {meth : Method} {c : Code} {H : Heap} {locs : List Loc} {Q : State → Prop} {cc : ByteArray} {nL pc lev : Nat} {own : String} {D : va_G} {τ : ClassId × ClassId × ClassId} {B : Nat} {A : Nat → Prop} {σ : Sg} {ad : Nat → Nat} {ls : Array Slot} {rest : List Value} (E : Cx p R s m args meth c cc nL own lev D τ B A) (w : Wd s D A (wdC τ σ ad) H locs) {o : Int32} (h : F_Cou_valuesMayBe σ = some o) {index : Nat} (hlk : Cond.methodLink own index y_Cou_valuesMayBe ∈ tw) (hlev : 0 < lev) (hsz : ls.size = nL) (hr : (rest.map fun v => v.category).sum ≤ 8) (hd : decode cc pc = .ok (.invokevirtual index, 3)) (kk : ∀ (H1 : Heap) (locs1 : List Loc), Wd s D A (wdC τ σ ad) H1 locs1 → W p l e R s m args below meth c H1 locs1 0 0 Q (F0 m (pc + 3) ls (.int o :: rest))) : W p l e R s m args below meth c H locs 0 0 Q (F0 m pc ls (.ref (ad 59) :: rest)) :=
  cr_i w E.C (va_runV (As := []) (rest := rest) E.fix (c_Cou_valuesMayBe l D τ B σ ad o h H.size) (cwV 0 E.w (tw_pre (tw_good k958) (l := [_, _, _, _]) (List.forall_mem_cons.mpr ⟨hlk, List.forall_mem_cons.mpr ⟨k957, List.forall_mem_cons.mpr ⟨ks5, List.forall_mem_cons.mpr ⟨k5, fun _ h => absurd h List.not_mem_nil⟩⟩⟩⟩)) rfl rfl rfl (by decide +kernel) (E.rm hlev (by decide))) (wd_preV w E.C [] rcC_Cou rfl) rfl rfl hsz rfl (lv_room hr) hd ⟨Nat.zero_le _, Nat.zero_le _⟩) kk

theorem d_Cou_fetch_0 : decode prog_3_method_5_code 0 = .ok (.aload_n 0, 1) := by decide +kernel
theorem d_Cou_fetch_1 : decode prog_3_method_5_code 1 = .ok (.aload_n 0, 1) := by decide +kernel
theorem d_Cou_fetch_2 : decode prog_3_method_5_code 2 = .ok (.getfield 46, 3) := by decide +kernel
theorem d_Cou_fetch_5 : decode prog_3_method_5_code 5 = .ok (.putfield 15, 3) := by decide +kernel
theorem d_Cou_fetch_8 : decode prog_3_method_5_code 8 = .ok (.aload_n 0, 1) := by decide +kernel
theorem d_Cou_fetch_9 : decode prog_3_method_5_code 9 = .ok (.aload_n 0, 1) := by decide +kernel
theorem d_Cou_fetch_10 : decode prog_3_method_5_code 10 = .ok (.getfield 49, 3) := by decide +kernel
theorem d_Cou_fetch_13 : decode prog_3_method_5_code 13 = .ok (.putfield 19, 3) := by decide +kernel
theorem d_Cou_fetch_16 : decode prog_3_method_5_code 16 = .ok (.aload_n 0, 1) := by decide +kernel
theorem d_Cou_fetch_17 : decode prog_3_method_5_code 17 = .ok (.getfield 52, 3) := by decide +kernel
theorem d_Cou_fetch_20 : decode prog_3_method_5_code 20 = .ok (.sipush 2000, 3) := by decide +kernel
theorem d_Cou_fetch_23 : decode prog_3_method_5_code 23 = .ok (.if_icmp .lt 6, 3) := by decide +kernel
theorem d_Cou_fetch_26 : decode prog_3_method_5_code 26 = .ok (.bipush 7, 2) := by decide +kernel
theorem d_Cou_fetch_28 : decode prog_3_method_5_code 28 = .ok (.ireturn, 1) := by decide +kernel
theorem d_Cou_fetch_29 : decode prog_3_method_5_code 29 = .ok (.aload_n 0, 1) := by decide +kernel
theorem d_Cou_fetch_30 : decode prog_3_method_5_code 30 = .ok (.invokevirtual 66, 3) := by decide +kernel
theorem d_Cou_fetch_33 : decode prog_3_method_5_code 33 = .ok (.astore_n 1, 1) := by decide +kernel
theorem d_Cou_fetch_34 : decode prog_3_method_5_code 34 = .ok (.aload_n 0, 1) := by decide +kernel
theorem d_Cou_fetch_35 : decode prog_3_method_5_code 35 = .ok (.invokevirtual 70, 3) := by decide +kernel
theorem d_Cou_fetch_38 : decode prog_3_method_5_code 38 = .ok (.istore_n 2, 1) := by decide +kernel
theorem d_Cou_fetch_39 : decode prog_3_method_5_code 39 = .ok (.aload_n 0, 1) := by decide +kernel
theorem d_Cou_fetch_40 : decode prog_3_method_5_code 40 = .ok (.getfield 46, 3) := by decide +kernel
theorem d_Cou_fetch_43 : decode prog_3_method_5_code 43 = .ok (.iload_n 2, 1) := by decide +kernel
theorem d_Cou_fetch_44 : decode prog_3_method_5_code 44 = .ok (.if_icmp .lt 26, 3) := by decide +kernel
theorem d_Cou_fetch_47 : decode prog_3_method_5_code 47 = .ok (.aload_n 0, 1) := by decide +kernel
theorem d_Cou_fetch_48 : decode prog_3_method_5_code 48 = .ok (.iconst 0, 1) := by decide +kernel
theorem d_Cou_fetch_49 : decode prog_3_method_5_code 49 = .ok (.putfield 74, 3) := by decide +kernel
theorem d_Cou_fetch_52 : decode prog_3_method_5_code 52 = .ok (.aload_n 0, 1) := by decide +kernel
theorem d_Cou_fetch_53 : decode prog_3_method_5_code 53 = .ok (.iconst 0, 1) := by decide +kernel
theorem d_Cou_fetch_54 : decode prog_3_method_5_code 54 = .ok (.putfield 77, 3) := by decide +kernel
theorem d_Cou_fetch_57 : decode prog_3_method_5_code 57 = .ok (.aload_n 0, 1) := by decide +kernel
theorem d_Cou_fetch_58 : decode prog_3_method_5_code 58 = .ok (.getfield 49, 3) := by decide +kernel
theorem d_Cou_fetch_61 : decode prog_3_method_5_code 61 = .ok (.ifCond .le 7, 3) := by decide +kernel
theorem d_Cou_fetch_64 : decode prog_3_method_5_code 64 = .ok (.iconst 1, 1) := by decide +kernel
theorem d_Cou_fetch_65 : decode prog_3_method_5_code 65 = .ok (.goto 4, 3) := by decide +kernel
theorem d_Cou_fetch_68 : decode prog_3_method_5_code 68 = .ok (.iconst 0, 1) := by decide +kernel
theorem d_Cou_fetch_69 : decode prog_3_method_5_code 69 = .ok (.ireturn, 1) := by decide +kernel
theorem d_Cou_fetch_70 : decode prog_3_method_5_code 70 = .ok (.aload_n 0, 1) := by decide +kernel
theorem d_Cou_fetch_71 : decode prog_3_method_5_code 71 = .ok (.aload_n 1, 1) := by decide +kernel
theorem d_Cou_fetch_72 : decode prog_3_method_5_code 72 = .ok (.aload_n 0, 1) := by decide +kernel
theorem d_Cou_fetch_73 : decode prog_3_method_5_code 73 = .ok (.getfield 46, 3) := by decide +kernel
theorem d_Cou_fetch_76 : decode prog_3_method_5_code 76 = .ok (.iaload, 1) := by decide +kernel
theorem d_Cou_fetch_77 : decode prog_3_method_5_code 77 = .ok (.putfield 74, 3) := by decide +kernel
theorem d_Cou_fetch_80 : decode prog_3_method_5_code 80 = .ok (.aload_n 0, 1) := by decide +kernel
theorem d_Cou_fetch_81 : decode prog_3_method_5_code 81 = .ok (.getfield 74, 3) := by decide +kernel
theorem d_Cou_fetch_84 : decode prog_3_method_5_code 84 = .ok (.ifCond .lt 12, 3) := by decide +kernel
theorem d_Cou_fetch_87 : decode prog_3_method_5_code 87 = .ok (.aload_n 0, 1) := by decide +kernel
theorem d_Cou_fetch_88 : decode prog_3_method_5_code 88 = .ok (.getfield 74, 3) := by decide +kernel
theorem d_Cou_fetch_91 : decode prog_3_method_5_code 91 = .ok (.bipush 25, 2) := by decide +kernel
theorem d_Cou_fetch_93 : decode prog_3_method_5_code 93 = .ok (.if_icmp .le 5, 3) := by decide +kernel
theorem d_Cou_fetch_96 : decode prog_3_method_5_code 96 = .ok (.iconst 2, 1) := by decide +kernel
theorem d_Cou_fetch_97 : decode prog_3_method_5_code 97 = .ok (.ireturn, 1) := by decide +kernel
theorem d_Cou_fetch_98 : decode prog_3_method_5_code 98 = .ok (.aload_n 0, 1) := by decide +kernel
theorem d_Cou_fetch_99 : decode prog_3_method_5_code 99 = .ok (.iconst 1, 1) := by decide +kernel
theorem d_Cou_fetch_100 : decode prog_3_method_5_code 100 = .ok (.getstatic 80, 3) := by decide +kernel
theorem d_Cou_fetch_103 : decode prog_3_method_5_code 103 = .ok (.aload_n 0, 1) := by decide +kernel
theorem d_Cou_fetch_104 : decode prog_3_method_5_code 104 = .ok (.getfield 74, 3) := by decide +kernel
theorem d_Cou_fetch_107 : decode prog_3_method_5_code 107 = .ok (.iaload, 1) := by decide +kernel
theorem d_Cou_fetch_108 : decode prog_3_method_5_code 108 = .ok (.iadd, 1) := by decide +kernel
theorem d_Cou_fetch_109 : decode prog_3_method_5_code 109 = .ok (.putfield 77, 3) := by decide +kernel
theorem d_Cou_fetch_112 : decode prog_3_method_5_code 112 = .ok (.aload_n 0, 1) := by decide +kernel
theorem d_Cou_fetch_113 : decode prog_3_method_5_code 113 = .ok (.getfield 46, 3) := by decide +kernel
theorem d_Cou_fetch_116 : decode prog_3_method_5_code 116 = .ok (.aload_n 0, 1) := by decide +kernel
theorem d_Cou_fetch_117 : decode prog_3_method_5_code 117 = .ok (.getfield 77, 3) := by decide +kernel
theorem d_Cou_fetch_120 : decode prog_3_method_5_code 120 = .ok (.iadd, 1) := by decide +kernel
theorem d_Cou_fetch_121 : decode prog_3_method_5_code 121 = .ok (.iload_n 2, 1) := by decide +kernel
theorem d_Cou_fetch_122 : decode prog_3_method_5_code 122 = .ok (.if_icmp .le 5, 3) := by decide +kernel
theorem d_Cou_fetch_125 : decode prog_3_method_5_code 125 = .ok (.iconst 1, 1) := by decide +kernel
theorem d_Cou_fetch_126 : decode prog_3_method_5_code 126 = .ok (.ireturn, 1) := by decide +kernel
theorem d_Cou_fetch_127 : decode prog_3_method_5_code 127 = .ok (.aload_n 0, 1) := by decide +kernel
theorem d_Cou_fetch_128 : decode prog_3_method_5_code 128 = .ok (.getfield 74, 3) := by decide +kernel
theorem d_Cou_fetch_131 : decode prog_3_method_5_code 131 = .ok (.bipush 21, 2) := by decide +kernel
theorem d_Cou_fetch_133 : decode prog_3_method_5_code 133 = .ok (.if_icmp .ne 28, 3) := by decide +kernel
theorem d_Cou_fetch_136 : decode prog_3_method_5_code 136 = .ok (.aload_n 0, 1) := by decide +kernel
theorem d_Cou_fetch_137 : decode prog_3_method_5_code 137 = .ok (.dup, 1) := by decide +kernel
theorem d_Cou_fetch_138 : decode prog_3_method_5_code 138 = .ok (.getfield 77, 3) := by decide +kernel
theorem d_Cou_fetch_141 : decode prog_3_method_5_code 141 = .ok (.aload_n 1, 1) := by decide +kernel
theorem d_Cou_fetch_142 : decode prog_3_method_5_code 142 = .ok (.aload_n 0, 1) := by decide +kernel
theorem d_Cou_fetch_143 : decode prog_3_method_5_code 143 = .ok (.getfield 46, 3) := by decide +kernel
theorem d_Cou_fetch_146 : decode prog_3_method_5_code 146 = .ok (.iconst 2, 1) := by decide +kernel
theorem d_Cou_fetch_147 : decode prog_3_method_5_code 147 = .ok (.iadd, 1) := by decide +kernel
theorem d_Cou_fetch_148 : decode prog_3_method_5_code 148 = .ok (.iaload, 1) := by decide +kernel
theorem d_Cou_fetch_149 : decode prog_3_method_5_code 149 = .ok (.i2l, 1) := by decide +kernel
theorem d_Cou_fetch_150 : decode prog_3_method_5_code 150 = .ok (.iconst 0, 1) := by decide +kernel
theorem d_Cou_fetch_151 : decode prog_3_method_5_code 151 = .ok (.sipush 256, 3) := by decide +kernel
theorem d_Cou_fetch_154 : decode prog_3_method_5_code 154 = .ok (.invokestatic 83, 3) := by decide +kernel
theorem d_Cou_fetch_157 : decode prog_3_method_5_code 157 = .ok (.iadd, 1) := by decide +kernel
theorem d_Cou_fetch_158 : decode prog_3_method_5_code 158 = .ok (.putfield 77, 3) := by decide +kernel
theorem d_Cou_fetch_161 : decode prog_3_method_5_code 161 = .ok (.aload_n 0, 1) := by decide +kernel
theorem d_Cou_fetch_162 : decode prog_3_method_5_code 162 = .ok (.getfield 46, 3) := by decide +kernel
theorem d_Cou_fetch_165 : decode prog_3_method_5_code 165 = .ok (.aload_n 0, 1) := by decide +kernel
theorem d_Cou_fetch_166 : decode prog_3_method_5_code 166 = .ok (.getfield 77, 3) := by decide +kernel
theorem d_Cou_fetch_169 : decode prog_3_method_5_code 169 = .ok (.iadd, 1) := by decide +kernel
theorem d_Cou_fetch_170 : decode prog_3_method_5_code 170 = .ok (.iload_n 2, 1) := by decide +kernel
theorem d_Cou_fetch_171 : decode prog_3_method_5_code 171 = .ok (.if_icmp .le 5, 3) := by decide +kernel
theorem d_Cou_fetch_174 : decode prog_3_method_5_code 174 = .ok (.iconst 1, 1) := by decide +kernel
theorem d_Cou_fetch_175 : decode prog_3_method_5_code 175 = .ok (.ireturn, 1) := by decide +kernel
theorem d_Cou_fetch_176 : decode prog_3_method_5_code 176 = .ok (.aload_n 1, 1) := by decide +kernel
theorem d_Cou_fetch_177 : decode prog_3_method_5_code 177 = .ok (.aload_n 0, 1) := by decide +kernel
theorem d_Cou_fetch_178 : decode prog_3_method_5_code 178 = .ok (.getfield 46, 3) := by decide +kernel
theorem d_Cou_fetch_181 : decode prog_3_method_5_code 181 = .ok (.iconst 1, 1) := by decide +kernel
theorem d_Cou_fetch_182 : decode prog_3_method_5_code 182 = .ok (.iadd, 1) := by decide +kernel
theorem d_Cou_fetch_183 : decode prog_3_method_5_code 183 = .ok (.aload_n 0, 1) := by decide +kernel
theorem d_Cou_fetch_184 : decode prog_3_method_5_code 184 = .ok (.getfield 9, 3) := by decide +kernel
theorem d_Cou_fetch_187 : decode prog_3_method_5_code 187 = .ok (.iconst 0, 1) := by decide +kernel
theorem d_Cou_fetch_188 : decode prog_3_method_5_code 188 = .ok (.getstatic 80, 3) := by decide +kernel
theorem d_Cou_fetch_191 : decode prog_3_method_5_code 191 = .ok (.aload_n 0, 1) := by decide +kernel
theorem d_Cou_fetch_192 : decode prog_3_method_5_code 192 = .ok (.getfield 74, 3) := by decide +kernel
theorem d_Cou_fetch_195 : decode prog_3_method_5_code 195 = .ok (.iaload, 1) := by decide +kernel
theorem d_Cou_fetch_196 : decode prog_3_method_5_code 196 = .ok (.invokestatic 87, 3) := by decide +kernel
theorem d_Cou_fetch_199 : decode prog_3_method_5_code 199 = .ok (.aload_n 0, 1) := by decide +kernel
theorem d_Cou_fetch_200 : decode prog_3_method_5_code 200 = .ok (.invokevirtual 93, 3) := by decide +kernel
theorem d_Cou_fetch_203 : decode prog_3_method_5_code 203 = .ok (.ifCond .eq 7, 3) := by decide +kernel
theorem d_Cou_fetch_206 : decode prog_3_method_5_code 206 = .ok (.iconst 0, 1) := by decide +kernel
theorem d_Cou_fetch_207 : decode prog_3_method_5_code 207 = .ok (.goto 4, 3) := by decide +kernel
theorem d_Cou_fetch_210 : decode prog_3_method_5_code 210 = .ok (.iconst 3, 1) := by decide +kernel
theorem d_Cou_fetch_211 : decode prog_3_method_5_code 211 = .ok (.ireturn, 1) := by decide +kernel
def F_Cou_fetch_211 (σ : Sg) (s0 : Int32) : Option (Sg × Int32) := some (σ, s0)
set_option maxRecDepth 10000 in
set_option maxHeartbeats 4000000 in
theorem bt_Cou_fetch_211 {p : Program} {l : Launch} {e : Env} {R : Room} {s : State} {m : MethodId} {args : Array Value} {below : List Frame} {meth : Method} {c : Code} {D : va_G} {τ : ClassId × ClassId × ClassId} {B : Nat} {A : Nat → Prop} {ad : Nat → Nat} (E : Cx p R s m args meth c prog_3_method_5_code 3 "DrawingMachine$Course" 1 D τ B A) (hret : meth.sig.returnType = (some .int)) (o : Sg × Int32) (σ : Sg) (s0 : Int32) (h : F_Cou_fetch_211 σ s0 = some o) {H : Heap} {locs : List Loc} {ls : Array Slot} (w : Wd s D A (wdC τ σ ad) H locs) (hl : lv_has ls 3 []) : W p l e R s m args below meth c H locs 0 0 (QI below args s A D τ (wdC τ o.1 ad) o.2) (F0 m 211 ls [.int s0]) := by
  obtain rfl := Option.some.inj h
  exact rt_i E w hret d_Cou_fetch_211
def F_Cou_fetch_161 (σ : Sg) (v1 : Nat) (v2 : Int32) : Option (Sg × Int32) := ck (v1 < 47) (if ((σ.1 10) + (σ.1 11)) ≤ v2 then (ck (inb (σ.1 3) 26) (ck (cpok ((σ.1 10) + 1) 0 (tb_ARGUMENTS (σ.1 3).toNatClampNeg) (lenC σ v1) 8) (lt (sA σ 5 (va_cpy (σ.2.2.1 v1) (σ.2.2.1 5) ((σ.1 10) + 1).toNatClampNeg (0 : Int32).toNatClampNeg (tb_ARGUMENTS (σ.1 3).toNatClampNeg).toNatClampNeg)) (fun σ26 => bd (F_Cou_valuesMayBe σ26) (fun o27 => if o27 = 0 then (F_Cou_fetch_211 σ26 3) else (F_Cou_fetch_211 σ26 0)))))) else (some (σ, 1)))
set_option maxRecDepth 10000 in
set_option maxHeartbeats 4000000 in
theorem bt_Cou_fetch_161 {p : Program} {l : Launch} {e : Env} {R : Room} {s : State} {m : MethodId} {args : Array Value} {below : List Frame} {meth : Method} {c : Code} {D : va_G} {τ : ClassId × ClassId × ClassId} {B : Nat} {A : Nat → Prop} {ad : Nat → Nat} (E : Cx p R s m args meth c prog_3_method_5_code 3 "DrawingMachine$Course" 1 D τ B A) (hret : meth.sig.returnType = (some .int)) (o : Sg × Int32) (σ : Sg) (v1 : Nat) (v2 : Int32) (h : F_Cou_fetch_161 σ v1 v2 = some o) {H : Heap} {locs : List Loc} {ls : Array Slot} (w : Wd s D A (wdC τ σ ad) H locs) (hl : lv_has ls 3 [(0, .ref (ad 59)), (1, .ref (ad v1)), (2, .int v2)]) : W p l e R s m args below meth c H locs 0 0 (QI below args s A D τ (wdC τ o.1 ad) o.2) (F0 m 161 ls []) := by
  obtain ⟨c22, h⟩ := ck_some h
  refine lv_aload_n E.x E.b d_Cou_fetch_161 rfl (lv_at hl 0 rfl) ?_
  refine gC_Cou_position E w k135 d_Cou_fetch_162 ?_
  refine lv_aload_n E.x E.b d_Cou_fetch_165 rfl (lv_at hl 0 rfl) ?_
  refine gC_Cou_length E w k136 d_Cou_fetch_166 ?_
  refine lv_iadd E.x E.b d_Cou_fetch_169 ?_
  refine lv_iload_n E.x E.b d_Cou_fetch_170 rfl (lv_at hl 2 rfl) ?_
  refine lv_icmp_le (tgt := 176) E.x E.b d_Cou_fetch_171 (by decide) (fun c => ?_) (fun c => ?_)
  ·
    replace h := ifT c h
    refine lv_aload_n E.x E.b d_Cou_fetch_176 rfl (lv_at hl 1 rfl) ?_
    refine lv_aload_n E.x E.b d_Cou_fetch_177 rfl (lv_at hl 0 rfl) ?_
    refine gC_Cou_position E w k135 d_Cou_fetch_178 ?_
    refine lv_iconst (v := 1) E.x E.b d_Cou_fetch_181 (by decide) ?_
    refine lv_iadd E.x E.b d_Cou_fetch_182 ?_
    refine lv_aload_n E.x E.b d_Cou_fetch_183 rfl (lv_at hl 0 rfl) ?_
    refine gC_Cou_given E w k110 d_Cou_fetch_184 ?_
    refine lv_iconst (v := 0) E.x E.b d_Cou_fetch_187 (by decide) ?_
    refine r_tab (n := "ARGUMENTS") E w (by decide) n949 d_Cou_fetch_188 (fun t23 h_t23 => ?_)
    refine lv_aload_n E.x E.b d_Cou_fetch_191 rfl (lv_at hl 0 rfl) ?_
    refine gC_Cou_kind E w k116 d_Cou_fetch_192 ?_
    obtain ⟨c24, h⟩ := ck_some h
    refine r_tld (f := fun j => tb_ARGUMENTS j) E w h_t23 c24 d_Cou_fetch_195 ?_
    obtain ⟨c25, h⟩ := ck_some h
    obtain ⟨σ26, e_σ26, h⟩ := lt_some h
    refine cpyC E w hl.1 k954 k645 k644 k31 (k0 := v1) (k1 := 5) c22 (by decide) c25 e_σ26 (Nat.le_of_ble_eq_true rfl) d_Cou_fetch_196 (fun H locs w => ?_)
    refine lv_aload_n E.x E.b d_Cou_fetch_199 rfl (lv_at hl 0 rfl) ?_
    obtain ⟨o27, h_o27, h⟩ := bd_some h
    refine clV_Cou_valuesMayBe E w h_o27 k955 (by decide) hl.1 (Nat.le_of_ble_eq_true rfl) d_Cou_fetch_200 (fun H locs w => ?_)
    refine lv_if_eq (tgt := 210) E.x E.b d_Cou_fetch_203 (by decide) (fun c => ?_) (fun c => ?_)
    ·
      replace h := ifT c h
      refine lv_iconst (v := 3) E.x E.b d_Cou_fetch_210 (by decide) ?_
      exact bt_Cou_fetch_211 E hret o σ26 3 h w (lv_sub hl [] rfl)
    ·
      replace h := ifF c h
      refine lv_iconst (v := 0) E.x E.b d_Cou_fetch_206 (by decide) ?_
      refine lv_goto (tgt := 211) E.x E.b d_Cou_fetch_207 (by decide) ?_
      exact bt_Cou_fetch_211 E hret o σ26 0 h w (lv_sub hl [] rfl)
  ·
    replace h := ifF c h
    refine lv_iconst (v := 1) E.x E.b d_Cou_fetch_174 (by decide) ?_
    obtain rfl := Option.some.inj h
    exact rt_i E w hret d_Cou_fetch_175
def F_Cou_fetch_96 (σ : Sg) : Option (Sg × Int32) := some (σ, 2)
set_option maxRecDepth 10000 in
set_option maxHeartbeats 4000000 in
theorem bt_Cou_fetch_96 {p : Program} {l : Launch} {e : Env} {R : Room} {s : State} {m : MethodId} {args : Array Value} {below : List Frame} {meth : Method} {c : Code} {D : va_G} {τ : ClassId × ClassId × ClassId} {B : Nat} {A : Nat → Prop} {ad : Nat → Nat} (E : Cx p R s m args meth c prog_3_method_5_code 3 "DrawingMachine$Course" 1 D τ B A) (hret : meth.sig.returnType = (some .int)) (o : Sg × Int32) (σ : Sg) (h : F_Cou_fetch_96 σ = some o) {H : Heap} {locs : List Loc} {ls : Array Slot} (w : Wd s D A (wdC τ σ ad) H locs) (hl : lv_has ls 3 []) : W p l e R s m args below meth c H locs 0 0 (QI below args s A D τ (wdC τ o.1 ad) o.2) (F0 m 96 ls []) := by
  refine lv_iconst (v := 2) E.x E.b d_Cou_fetch_96 (by decide) ?_
  obtain rfl := Option.some.inj h
  exact rt_i E w hret d_Cou_fetch_97
def F_Cou_fetch_69 (σ : Sg) (s0 : Int32) : Option (Sg × Int32) := some (σ, s0)
set_option maxRecDepth 10000 in
set_option maxHeartbeats 4000000 in
theorem bt_Cou_fetch_69 {p : Program} {l : Launch} {e : Env} {R : Room} {s : State} {m : MethodId} {args : Array Value} {below : List Frame} {meth : Method} {c : Code} {D : va_G} {τ : ClassId × ClassId × ClassId} {B : Nat} {A : Nat → Prop} {ad : Nat → Nat} (E : Cx p R s m args meth c prog_3_method_5_code 3 "DrawingMachine$Course" 1 D τ B A) (hret : meth.sig.returnType = (some .int)) (o : Sg × Int32) (σ : Sg) (s0 : Int32) (h : F_Cou_fetch_69 σ s0 = some o) {H : Heap} {locs : List Loc} {ls : Array Slot} (w : Wd s D A (wdC τ σ ad) H locs) (hl : lv_has ls 3 []) : W p l e R s m args below meth c H locs 0 0 (QI below args s A D τ (wdC τ o.1 ad) o.2) (F0 m 69 ls [.int s0]) := by
  obtain rfl := Option.some.inj h
  exact rt_i E w hret d_Cou_fetch_69
def F_Cou_fetch (σ : Sg) : Option (Sg × Int32) := lt (sI σ 7 (σ.1 10)) (fun σ28 => lt (sI σ28 8 (σ28.1 4)) (fun σ29 => if (σ29.1 5) < 2000 then (bd (F_Cou_source σ29) (fun o30 => lt (o30) (fun ar_31 => ck (ar_31 < 47) (bd (F_Cou_limit σ29) (fun o33 => if (σ29.1 10) < o33 then (ck (inb (σ29.1 10) (lenC σ29 ar_31)) (lt (sI σ29 3 (σ29.2.2.1 ar_31 (σ29.1 10).toNatClampNeg)) (fun σ35 => if (σ35.1 3) < 0 then (F_Cou_fetch_96 σ35) else (if (σ35.1 3) ≤ 25 then (ck (inb (σ35.1 3) 26) (lt (sI σ35 11 (1 + (tb_ARGUMENTS (σ35.1 3).toNatClampNeg))) (fun σ38 => if ((σ38.1 10) + (σ38.1 11)) ≤ o33 then (if (σ38.1 3) = 21 then (ck (inb ((σ38.1 10) + 2) (lenC σ38 ar_31)) (bd (F_DM_within ((σ38.2.2.1 ar_31 ((σ38.1 10) + 2).toNatClampNeg).toInt64) 0 256) (fun o40 => lt (sI σ38 11 ((σ38.1 11) + o40)) (fun σ41 => F_Cou_fetch_161 σ41 ar_31 o33)))) else (F_Cou_fetch_161 σ38 ar_31 o33)) else (some (σ38, 1))))) else (F_Cou_fetch_96 σ35))))) else (lt (sI σ29 3 0) (fun σ42 => lt (sI σ42 11 0) (fun σ43 => if (σ43.1 4) ≤ 0 then (F_Cou_fetch_69 σ43 0) else (F_Cou_fetch_69 σ43 1))))))))) else (some (σ29, 7))))
set_option maxRecDepth 10000 in
set_option maxHeartbeats 4000000 in
theorem c_Cou_fetch (l : Launch) (D : va_G) (τ : ClassId × ClassId × ClassId) (B : Nat) (σ : Sg) (ad : Nat → Nat) (o : Sg × Int32) (h : F_Cou_fetch σ = some o) : MI l y_Cou_fetch (Cond.code y_Cou_fetch prog_3_method_5_code 3 (some .int)) 1 D τ B [.ref (ad 59)] (wdC τ σ ad) (wdC τ o.1 ad) o.2 := by
  refine en_i (by decide) (Nat.le_of_ble_eq_true rfl) ?_
  intro p e R s m args below meth c H locs ls A E hret w hl
  have E : Cx p R s m args meth c prog_3_method_5_code 3 "DrawingMachine$Course" 1 D τ B A := E
  have hl : lv_has ls 3 [(0, .ref (ad 59))] := hl
  refine lv_aload_n E.x E.b d_Cou_fetch_0 rfl (lv_at hl 0 rfl) ?_
  refine lv_aload_n E.x E.b d_Cou_fetch_1 rfl (lv_at hl 0 rfl) ?_
  refine gC_Cou_position E w k135 d_Cou_fetch_2 ?_
  obtain ⟨σ28, e_σ28, h⟩ := lt_some h
  refine pC_Cou_lastPlace E w k124 e_σ28 d_Cou_fetch_5 (fun H locs w => ?_)
  refine lv_aload_n E.x E.b d_Cou_fetch_8 rfl (lv_at hl 0 rfl) ?_
  refine lv_aload_n E.x E.b d_Cou_fetch_9 rfl (lv_at hl 0 rfl) ?_
  refine gC_Cou_depth E w k118 d_Cou_fetch_10 ?_
  obtain ⟨σ29, e_σ29, h⟩ := lt_some h
  refine pC_Cou_lastDepth E w k126 e_σ29 d_Cou_fetch_13 (fun H locs w => ?_)
  refine lv_aload_n E.x E.b d_Cou_fetch_16 rfl (lv_at hl 0 rfl) ?_
  refine gC_Cou_done E w k120 d_Cou_fetch_17 ?_
  refine lv_sipush (v := 2000) E.x E.b d_Cou_fetch_20 (by decide) ?_
  refine lv_icmp_lt (tgt := 29) E.x E.b d_Cou_fetch_23 (by decide) (fun c => ?_) (fun c => ?_)
  ·
    replace h := ifT c h
    refine lv_aload_n E.x E.b d_Cou_fetch_29 rfl (lv_at hl 0 rfl) ?_
    obtain ⟨o30, h_o30, h⟩ := bd_some h
    refine clV_Cou_source E w h_o30 k941 (by decide) hl.1 (Nat.le_of_ble_eq_true rfl) d_Cou_fetch_30 (fun H locs w => ?_)
    obtain ⟨ar_31, e_ar_31, h⟩ := lt_some h
    refine wr_e (v := ad ar_31) (by rw [e_ar_31]) ?_
    obtain ⟨c32, h⟩ := ck_some h
    refine lv_astore_n (lv' := [(1, .ref (ad ar_31)), (0, .ref (ad 59))]) E.x E.b d_Cou_fetch_33 rfl hl (by decide) rfl (fun ls hl => ?_)
    refine lv_aload_n E.x E.b d_Cou_fetch_34 rfl (lv_at hl 1 rfl) ?_
    obtain ⟨o33, h_o33, h⟩ := bd_some h
    refine clV_Cou_limit E w h_o33 k945 (by decide) hl.1 (Nat.le_of_ble_eq_true rfl) d_Cou_fetch_35 (fun H locs w => ?_)
    refine lv_istore_n (lv' := [(2, .int o33), (1, .ref (ad ar_31)), (0, .ref (ad 59))]) E.x E.b d_Cou_fetch_38 rfl hl (by decide) rfl (fun ls hl => ?_)
    refine lv_aload_n E.x E.b d_Cou_fetch_39 rfl (lv_at hl 2 rfl) ?_
    refine gC_Cou_position E w k135 d_Cou_fetch_40 ?_
    refine lv_iload_n E.x E.b d_Cou_fetch_43 rfl (lv_at hl 0 rfl) ?_
    refine lv_icmp_lt (tgt := 70) E.x E.b d_Cou_fetch_44 (by decide) (fun c => ?_) (fun c => ?_)
    ·
      replace h := ifT c h
      refine lv_aload_n E.x E.b d_Cou_fetch_70 rfl (lv_at hl 2 rfl) ?_
      refine lv_aload_n E.x E.b d_Cou_fetch_71 rfl (lv_at hl 1 rfl) ?_
      refine lv_aload_n E.x E.b d_Cou_fetch_72 rfl (lv_at hl 2 rfl) ?_
      refine gC_Cou_position E w k135 d_Cou_fetch_73 ?_
      obtain ⟨c34, h⟩ := ck_some h
      refine ialC E w (k := ar_31) c32 c34 d_Cou_fetch_76 ?_
      obtain ⟨σ35, e_σ35, h⟩ := lt_some h
      refine pC_Cou_kind E w k116 e_σ35 d_Cou_fetch_77 (fun H locs w => ?_)
      refine lv_aload_n E.x E.b d_Cou_fetch_80 rfl (lv_at hl 2 rfl) ?_
      refine gC_Cou_kind E w k116 d_Cou_fetch_81 ?_
      refine lv_if_lt (tgt := 96) E.x E.b d_Cou_fetch_84 (by decide) (fun c => ?_) (fun c => ?_)
      ·
        replace h := ifT c h
        exact bt_Cou_fetch_96 E hret o σ35 h w (lv_sub hl [] rfl)
      ·
        replace h := ifF c h
        refine lv_aload_n E.x E.b d_Cou_fetch_87 rfl (lv_at hl 2 rfl) ?_
        refine gC_Cou_kind E w k116 d_Cou_fetch_88 ?_
        refine lv_bipush (v := 25) E.x E.b d_Cou_fetch_91 (by decide) ?_
        refine lv_icmp_le (tgt := 98) E.x E.b d_Cou_fetch_93 (by decide) (fun c => ?_) (fun c => ?_)
        ·
          replace h := ifT c h
          refine lv_aload_n E.x E.b d_Cou_fetch_98 rfl (lv_at hl 2 rfl) ?_
          refine lv_iconst (v := 1) E.x E.b d_Cou_fetch_99 (by decide) ?_
          refine r_tab (n := "ARGUMENTS") E w (by decide) n949 d_Cou_fetch_100 (fun t36 h_t36 => ?_)
          refine lv_aload_n E.x E.b d_Cou_fetch_103 rfl (lv_at hl 2 rfl) ?_
          refine gC_Cou_kind E w k116 d_Cou_fetch_104 ?_
          obtain ⟨c37, h⟩ := ck_some h
          refine r_tld (f := fun j => tb_ARGUMENTS j) E w h_t36 c37 d_Cou_fetch_107 ?_
          refine lv_iadd E.x E.b d_Cou_fetch_108 ?_
          obtain ⟨σ38, e_σ38, h⟩ := lt_some h
          refine pC_Cou_length E w k136 e_σ38 d_Cou_fetch_109 (fun H locs w => ?_)
          refine lv_aload_n E.x E.b d_Cou_fetch_112 rfl (lv_at hl 2 rfl) ?_
          refine gC_Cou_position E w k135 d_Cou_fetch_113 ?_
          refine lv_aload_n E.x E.b d_Cou_fetch_116 rfl (lv_at hl 2 rfl) ?_
          refine gC_Cou_length E w k136 d_Cou_fetch_117 ?_
          refine lv_iadd E.x E.b d_Cou_fetch_120 ?_
          refine lv_iload_n E.x E.b d_Cou_fetch_121 rfl (lv_at hl 0 rfl) ?_
          refine lv_icmp_le (tgt := 127) E.x E.b d_Cou_fetch_122 (by decide) (fun c => ?_) (fun c => ?_)
          ·
            replace h := ifT c h
            refine lv_aload_n E.x E.b d_Cou_fetch_127 rfl (lv_at hl 2 rfl) ?_
            refine gC_Cou_kind E w k116 d_Cou_fetch_128 ?_
            refine lv_bipush (v := 21) E.x E.b d_Cou_fetch_131 (by decide) ?_
            refine lv_icmp_ne (tgt := 161) E.x E.b d_Cou_fetch_133 (by decide) (fun c => ?_) (fun c => ?_)
            ·
              replace h := ifF c h
              exact bt_Cou_fetch_161 E hret o σ38 ar_31 o33 h w (lv_sub hl [2, 1, 0] rfl)
            ·
              replace h := ifT c h
              refine lv_aload_n E.x E.b d_Cou_fetch_136 rfl (lv_at hl 2 rfl) ?_
              refine lv_dup E.x E.b d_Cou_fetch_137 rfl ?_
              refine gC_Cou_length E w k136 d_Cou_fetch_138 ?_
              refine lv_aload_n E.x E.b d_Cou_fetch_141 rfl (lv_at hl 1 rfl) ?_
              refine lv_aload_n E.x E.b d_Cou_fetch_142 rfl (lv_at hl 2 rfl) ?_
              refine gC_Cou_position E w k135 d_Cou_fetch_143 ?_
              refine lv_iconst (v := 2) E.x E.b d_Cou_fetch_146 (by decide) ?_
              refine lv_iadd E.x E.b d_Cou_fetch_147 ?_
              obtain ⟨c39, h⟩ := ck_some h
              refine ialC E w (k := ar_31) c32 c39 d_Cou_fetch_148 ?_
              refine lv_i2l (v := (σ38.2.2.1 ar_31 ((σ38.1 10) + 2).toNatClampNeg).toInt64) E.x E.b d_Cou_fetch_149 rfl ?_
              refine lv_iconst (v := 0) E.x E.b d_Cou_fetch_150 (by decide) ?_
              refine lv_sipush (v := 256) E.x E.b d_Cou_fetch_151 (by decide) ?_
              obtain ⟨o40, h_o40, h⟩ := bd_some h
              refine clSN_DM_within E w (x0 := ((σ38.2.2.1 ar_31 ((σ38.1 10) + 2).toNatClampNeg).toInt64)) (x1 := 0) (x2 := 256) h_o40 n951 (by decide) hl.1 (Nat.le_of_ble_eq_true rfl) d_Cou_fetch_154 (fun H locs w => ?_)
              refine lv_iadd E.x E.b d_Cou_fetch_157 ?_
              obtain ⟨σ41, e_σ41, h⟩ := lt_some h
              refine pC_Cou_length E w k136 e_σ41 d_Cou_fetch_158 (fun H locs w => ?_)
              exact bt_Cou_fetch_161 E hret o σ41 ar_31 o33 h w (lv_sub hl [2, 1, 0] rfl)
          ·
            replace h := ifF c h
            refine lv_iconst (v := 1) E.x E.b d_Cou_fetch_125 (by decide) ?_
            obtain rfl := Option.some.inj h
            exact rt_i E w hret d_Cou_fetch_126
        ·
          replace h := ifF c h
          exact bt_Cou_fetch_96 E hret o σ35 h w (lv_sub hl [] rfl)
    ·
      replace h := ifF c h
      refine lv_aload_n E.x E.b d_Cou_fetch_47 rfl (lv_at hl 2 rfl) ?_
      refine lv_iconst (v := 0) E.x E.b d_Cou_fetch_48 (by decide) ?_
      obtain ⟨σ42, e_σ42, h⟩ := lt_some h
      refine pC_Cou_kind E w k116 e_σ42 d_Cou_fetch_49 (fun H locs w => ?_)
      refine lv_aload_n E.x E.b d_Cou_fetch_52 rfl (lv_at hl 2 rfl) ?_
      refine lv_iconst (v := 0) E.x E.b d_Cou_fetch_53 (by decide) ?_
      obtain ⟨σ43, e_σ43, h⟩ := lt_some h
      refine pC_Cou_length E w k136 e_σ43 d_Cou_fetch_54 (fun H locs w => ?_)
      refine lv_aload_n E.x E.b d_Cou_fetch_57 rfl (lv_at hl 2 rfl) ?_
      refine gC_Cou_depth E w k118 d_Cou_fetch_58 ?_
      refine lv_if_le (tgt := 68) E.x E.b d_Cou_fetch_61 (by decide) (fun c => ?_) (fun c => ?_)
      ·
        replace h := ifT c h
        refine lv_iconst (v := 0) E.x E.b d_Cou_fetch_68 (by decide) ?_
        exact bt_Cou_fetch_69 E hret o σ43 0 h w (lv_sub hl [] rfl)
      ·
        replace h := ifF c h
        refine lv_iconst (v := 1) E.x E.b d_Cou_fetch_64 (by decide) ?_
        refine lv_goto (tgt := 69) E.x E.b d_Cou_fetch_65 (by decide) ?_
        exact bt_Cou_fetch_69 E hret o σ43 1 h w (lv_sub hl [] rfl)
  ·
    replace h := ifF c h
    refine lv_bipush (v := 7) E.x E.b d_Cou_fetch_26 (by decide) ?_
    obtain rfl := Option.some.inj h
    exact rt_i E w hret d_Cou_fetch_28
theorem clV_Cou_fetch {p : Program} {l : Launch} {e : Env} {R : Room} {s : State} {m : MethodId} {args : Array Value} {below : List Frame} {meth : Method} {c : Code} {H : Heap} {locs : List Loc} {Q : State → Prop} {cc : ByteArray} {nL pc lev : Nat} {own : String} {D : va_G} {τ : ClassId × ClassId × ClassId} {B : Nat} {A : Nat → Prop} {σ : Sg} {ad : Nat → Nat} {ls : Array Slot} {rest : List Value} (E : Cx p R s m args meth c cc nL own lev D τ B A) (w : Wd s D A (wdC τ σ ad) H locs) {o : Sg × Int32} (h : F_Cou_fetch σ = some o) {index : Nat} (hlk : Cond.methodLink own index y_Cou_fetch ∈ tw) (hlev : 1 < lev) (hsz : ls.size = nL) (hr : (rest.map fun v => v.category).sum ≤ 8) (hd : decode cc pc = .ok (.invokevirtual index, 3)) (kk : ∀ (H1 : Heap) (locs1 : List Loc), Wd s D A (wdC τ o.1 ad) H1 locs1 → W p l e R s m args below meth c H1 locs1 0 0 Q (F0 m (pc + 3) ls (.int o.2 :: rest))) : W p l e R s m args below meth c H locs 0 0 Q (F0 m pc ls (.ref (ad 59) :: rest)) :=
  cr_i w E.C (va_runV (As := []) (rest := rest) E.fix (c_Cou_fetch l D τ B σ ad o h H.size) (cwV 0 E.w (tw_pre (tw_good k940) (l := [_, _, _, _]) (List.forall_mem_cons.mpr ⟨hlk, List.forall_mem_cons.mpr ⟨k938, List.forall_mem_cons.mpr ⟨k939, List.forall_mem_cons.mpr ⟨k5, fun _ h => absurd h List.not_mem_nil⟩⟩⟩⟩)) rfl rfl rfl (by decide +kernel) (E.rm hlev (by decide))) (wd_preV w E.C [] rcC_Cou rfl) rfl rfl hsz rfl (lv_room hr) hd ⟨Nat.zero_le _, Nat.zero_le _⟩) kk

theorem d_DM_refusal_0 : decode prog_1_method_16_code 0 = .ok (.aload_n 0, 1) := by decide +kernel
theorem d_DM_refusal_1 : decode prog_1_method_16_code 1 = .ok (.getfield 34, 3) := by decide +kernel
theorem d_DM_refusal_4 : decode prog_1_method_16_code 4 = .ok (.invokevirtual 199, 3) := by decide +kernel
theorem d_DM_refusal_7 : decode prog_1_method_16_code 7 = .ok (.istore_n 1, 1) := by decide +kernel
theorem d_DM_refusal_8 : decode prog_1_method_16_code 8 = .ok (.iload_n 1, 1) := by decide +kernel
theorem d_DM_refusal_9 : decode prog_1_method_16_code 9 = .ok (.ifCond .ne 12, 3) := by decide +kernel
theorem d_DM_refusal_12 : decode prog_1_method_16_code 12 = .ok (.aload_n 0, 1) := by decide +kernel
theorem d_DM_refusal_13 : decode prog_1_method_16_code 13 = .ok (.invokevirtual 202, 3) := by decide +kernel
theorem d_DM_refusal_16 : decode prog_1_method_16_code 16 = .ok (.ifCond .ne 5, 3) := by decide +kernel
theorem d_DM_refusal_19 : decode prog_1_method_16_code 19 = .ok (.iconst 5, 1) := by decide +kernel
theorem d_DM_refusal_20 : decode prog_1_method_16_code 20 = .ok (.ireturn, 1) := by decide +kernel
theorem d_DM_refusal_21 : decode prog_1_method_16_code 21 = .ok (.iload_n 1, 1) := by decide +kernel
theorem d_DM_refusal_22 : decode prog_1_method_16_code 22 = .ok (.ifCond .ne 13, 3) := by decide +kernel
theorem d_DM_refusal_25 : decode prog_1_method_16_code 25 = .ok (.aload_n 0, 1) := by decide +kernel
theorem d_DM_refusal_26 : decode prog_1_method_16_code 26 = .ok (.invokevirtual 205, 3) := by decide +kernel
theorem d_DM_refusal_29 : decode prog_1_method_16_code 29 = .ok (.ifCond .ne 6, 3) := by decide +kernel
theorem d_DM_refusal_32 : decode prog_1_method_16_code 32 = .ok (.bipush 6, 2) := by decide +kernel
theorem d_DM_refusal_34 : decode prog_1_method_16_code 34 = .ok (.ireturn, 1) := by decide +kernel
theorem d_DM_refusal_35 : decode prog_1_method_16_code 35 = .ok (.iload_n 1, 1) := by decide +kernel
theorem d_DM_refusal_36 : decode prog_1_method_16_code 36 = .ok (.ireturn, 1) := by decide +kernel
def F_DM_refusal_35 (σ : Sg) (v1 : Int32) : Option (Sg × Int32) := some (σ, v1)
set_option maxRecDepth 10000 in
set_option maxHeartbeats 4000000 in
theorem bt_DM_refusal_35 {p : Program} {l : Launch} {e : Env} {R : Room} {s : State} {m : MethodId} {args : Array Value} {below : List Frame} {meth : Method} {c : Code} {D : va_G} {τ : ClassId × ClassId × ClassId} {B : Nat} {A : Nat → Prop} {ad : Nat → Nat} (E : Cx p R s m args meth c prog_1_method_16_code 2 "DrawingMachine" 2 D τ B A) (hret : meth.sig.returnType = (some .int)) (o : Sg × Int32) (σ : Sg) (v1 : Int32) (h : F_DM_refusal_35 σ v1 = some o) {H : Heap} {locs : List Loc} {ls : Array Slot} (w : Wd s D A (wdC τ σ ad) H locs) (hl : lv_has ls 2 [(1, .int v1)]) : W p l e R s m args below meth c H locs 0 0 (QI below args s A D τ (wdC τ o.1 ad) o.2) (F0 m 35 ls []) := by
  refine lv_iload_n E.x E.b d_DM_refusal_35 rfl (lv_at hl 0 rfl) ?_
  obtain rfl := Option.some.inj h
  exact rt_i E w hret d_DM_refusal_36
def F_DM_refusal_21 (σ : Sg) (v1 : Int32) : Option (Sg × Int32) := if v1 = 0 then (bd (F_DM_stateAllows σ) (fun o4 => if o4 = 0 then (some (σ, 6)) else (F_DM_refusal_35 σ v1))) else (F_DM_refusal_35 σ v1)
set_option maxRecDepth 10000 in
set_option maxHeartbeats 4000000 in
theorem bt_DM_refusal_21 {p : Program} {l : Launch} {e : Env} {R : Room} {s : State} {m : MethodId} {args : Array Value} {below : List Frame} {meth : Method} {c : Code} {D : va_G} {τ : ClassId × ClassId × ClassId} {B : Nat} {A : Nat → Prop} {ad : Nat → Nat} (E : Cx p R s m args meth c prog_1_method_16_code 2 "DrawingMachine" 2 D τ B A) (hret : meth.sig.returnType = (some .int)) (o : Sg × Int32) (σ : Sg) (v1 : Int32) (h : F_DM_refusal_21 σ v1 = some o) {H : Heap} {locs : List Loc} {ls : Array Slot} (w : Wd s D A (wdC τ σ ad) H locs) (hl : lv_has ls 2 [(0, .ref (ad 56)), (1, .int v1)]) : W p l e R s m args below meth c H locs 0 0 (QI below args s A D τ (wdC τ o.1 ad) o.2) (F0 m 21 ls []) := by
  refine lv_iload_n E.x E.b d_DM_refusal_21 rfl (lv_at hl 1 rfl) ?_
  refine lv_if_ne (tgt := 35) E.x E.b d_DM_refusal_22 (by decide) (fun c => ?_) (fun c => ?_)
  ·
    replace h := ifF c h
    exact bt_DM_refusal_35 E hret o σ v1 h w (lv_sub hl [1] rfl)
  ·
    replace h := ifT c h
    refine lv_aload_n E.x E.b d_DM_refusal_25 rfl (lv_at hl 0 rfl) ?_
    obtain ⟨o4, h_o4, h⟩ := bd_some h
    refine clV_DM_stateAllows E w h_o4 k972 (by decide) hl.1 (Nat.le_of_ble_eq_true rfl) d_DM_refusal_26 (fun H locs w => ?_)
    refine lv_if_ne (tgt := 35) E.x E.b d_DM_refusal_29 (by decide) (fun c => ?_) (fun c => ?_)
    ·
      replace h := ifF c h
      exact bt_DM_refusal_35 E hret o σ v1 h w (lv_sub hl [1] rfl)
    ·
      replace h := ifT c h
      refine lv_bipush (v := 6) E.x E.b d_DM_refusal_32 (by decide) ?_
      obtain rfl := Option.some.inj h
      exact rt_i E w hret d_DM_refusal_34
def F_DM_refusal (σ : Sg) : Option (Sg × Int32) := bd (F_Cou_fetch σ) (fun o5 => if o5.2 = 0 then (bd (F_DM_placesAreThere o5.1) (fun o6 => if o6 = 0 then (some (o5.1, 5)) else (F_DM_refusal_21 o5.1 o5.2))) else (F_DM_refusal_21 o5.1 o5.2))
set_option maxRecDepth 10000 in
set_option maxHeartbeats 4000000 in
theorem c_DM_refusal (l : Launch) (D : va_G) (τ : ClassId × ClassId × ClassId) (B : Nat) (σ : Sg) (ad : Nat → Nat) (o : Sg × Int32) (h : F_DM_refusal σ = some o) : MI l y_DM_refusal (Cond.code y_DM_refusal prog_1_method_16_code 2 (some .int)) 2 D τ B [.ref (ad 56)] (wdC τ σ ad) (wdC τ o.1 ad) o.2 := by
  refine en_i (by decide) (Nat.le_of_ble_eq_true rfl) ?_
  intro p e R s m args below meth c H locs ls A E hret w hl
  have E : Cx p R s m args meth c prog_1_method_16_code 2 "DrawingMachine" 2 D τ B A := E
  have hl : lv_has ls 2 [(0, .ref (ad 56))] := hl
  refine lv_aload_n E.x E.b d_DM_refusal_0 rfl (lv_at hl 0 rfl) ?_
  refine gC_DM_course E w k433 d_DM_refusal_1 ?_
  obtain ⟨o5, h_o5, h⟩ := bd_some h
  refine clV_Cou_fetch E w h_o5 k937 (by decide) hl.1 (Nat.le_of_ble_eq_true rfl) d_DM_refusal_4 (fun H locs w => ?_)
  refine lv_istore_n (lv' := [(1, .int o5.2), (0, .ref (ad 56))]) E.x E.b d_DM_refusal_7 rfl hl (by decide) rfl (fun ls hl => ?_)
  refine lv_iload_n E.x E.b d_DM_refusal_8 rfl (lv_at hl 0 rfl) ?_
  refine lv_if_ne (tgt := 21) E.x E.b d_DM_refusal_9 (by decide) (fun c => ?_) (fun c => ?_)
  ·
    replace h := ifF c h
    exact bt_DM_refusal_21 E hret o o5.1 o5.2 h w (lv_sub hl [1, 0] rfl)
  ·
    replace h := ifT c h
    refine lv_aload_n E.x E.b d_DM_refusal_12 rfl (lv_at hl 1 rfl) ?_
    obtain ⟨o6, h_o6, h⟩ := bd_some h
    refine clV_DM_placesAreThere E w h_o6 k965 (by decide) hl.1 (Nat.le_of_ble_eq_true rfl) d_DM_refusal_13 (fun H locs w => ?_)
    refine lv_if_ne (tgt := 21) E.x E.b d_DM_refusal_16 (by decide) (fun c => ?_) (fun c => ?_)
    ·
      replace h := ifF c h
      exact bt_DM_refusal_21 E hret o o5.1 o5.2 h w (lv_sub hl [1, 0] rfl)
    ·
      replace h := ifT c h
      refine lv_iconst (v := 5) E.x E.b d_DM_refusal_19 (by decide) ?_
      obtain rfl := Option.some.inj h
      exact rt_i E w hret d_DM_refusal_20
theorem clV_DM_refusal {p : Program} {l : Launch} {e : Env} {R : Room} {s : State} {m : MethodId} {args : Array Value} {below : List Frame} {meth : Method} {c : Code} {H : Heap} {locs : List Loc} {Q : State → Prop} {cc : ByteArray} {nL pc lev : Nat} {own : String} {D : va_G} {τ : ClassId × ClassId × ClassId} {B : Nat} {A : Nat → Prop} {σ : Sg} {ad : Nat → Nat} {ls : Array Slot} {rest : List Value} (E : Cx p R s m args meth c cc nL own lev D τ B A) (w : Wd s D A (wdC τ σ ad) H locs) {o : Sg × Int32} (h : F_DM_refusal σ = some o) {index : Nat} (hlk : Cond.methodLink own index y_DM_refusal ∈ tw) (hlev : 2 < lev) (hsz : ls.size = nL) (hr : (rest.map fun v => v.category).sum ≤ 8) (hd : decode cc pc = .ok (.invokevirtual index, 3)) (kk : ∀ (H1 : Heap) (locs1 : List Loc), Wd s D A (wdC τ o.1 ad) H1 locs1 → W p l e R s m args below meth c H1 locs1 0 0 Q (F0 m (pc + 3) ls (.int o.2 :: rest))) : W p l e R s m args below meth c H locs 0 0 Q (F0 m pc ls (.ref (ad 56) :: rest)) :=
  cr_i w E.C (va_runV (As := []) (rest := rest) E.fix (c_DM_refusal l D τ B σ ad o h H.size) (cwV 0 E.w (tw_pre (tw_good k936) (l := [_, _, _, _]) (List.forall_mem_cons.mpr ⟨hlk, List.forall_mem_cons.mpr ⟨k935, List.forall_mem_cons.mpr ⟨ks2, List.forall_mem_cons.mpr ⟨k1, fun _ h => absurd h List.not_mem_nil⟩⟩⟩⟩)) rfl rfl rfl (by decide +kernel) (E.rm hlev (by decide))) (wd_preV w E.C [] rcC_DM rfl) rfl rfl hsz rfl (lv_room hr) hd ⟨Nat.zero_le _, Nat.zero_le _⟩) kk

theorem d_Cou_goOn_0 : decode prog_3_method_10_code 0 = .ok (.iload_n 1, 1) := by decide +kernel
theorem d_Cou_goOn_1 : decode prog_3_method_10_code 1 = .ok (.ifCond .eq 14, 3) := by decide +kernel
theorem d_Cou_goOn_4 : decode prog_3_method_10_code 4 = .ok (.aload_n 0, 1) := by decide +kernel
theorem d_Cou_goOn_5 : decode prog_3_method_10_code 5 = .ok (.iload_n 1, 1) := by decide +kernel
theorem d_Cou_goOn_6 : decode prog_3_method_10_code 6 = .ok (.putfield 55, 3) := by decide +kernel
theorem d_Cou_goOn_9 : decode prog_3_method_10_code 9 = .ok (.aload_n 0, 1) := by decide +kernel
theorem d_Cou_goOn_10 : decode prog_3_method_10_code 10 = .ok (.iconst 1, 1) := by decide +kernel
theorem d_Cou_goOn_11 : decode prog_3_method_10_code 11 = .ok (.putfield 58, 3) := by decide +kernel
theorem d_Cou_goOn_14 : decode prog_3_method_10_code 14 = .ok (.return_, 1) := by decide +kernel
theorem d_Cou_goOn_15 : decode prog_3_method_10_code 15 = .ok (.aload_n 0, 1) := by decide +kernel
theorem d_Cou_goOn_16 : decode prog_3_method_10_code 16 = .ok (.dup, 1) := by decide +kernel
theorem d_Cou_goOn_17 : decode prog_3_method_10_code 17 = .ok (.getfield 52, 3) := by decide +kernel
theorem d_Cou_goOn_20 : decode prog_3_method_10_code 20 = .ok (.iconst 1, 1) := by decide +kernel
theorem d_Cou_goOn_21 : decode prog_3_method_10_code 21 = .ok (.iadd, 1) := by decide +kernel
theorem d_Cou_goOn_22 : decode prog_3_method_10_code 22 = .ok (.putfield 52, 3) := by decide +kernel
theorem d_Cou_goOn_25 : decode prog_3_method_10_code 25 = .ok (.aload_n 0, 1) := by decide +kernel
theorem d_Cou_goOn_26 : decode prog_3_method_10_code 26 = .ok (.dup, 1) := by decide +kernel
theorem d_Cou_goOn_27 : decode prog_3_method_10_code 27 = .ok (.getfield 46, 3) := by decide +kernel
theorem d_Cou_goOn_30 : decode prog_3_method_10_code 30 = .ok (.aload_n 0, 1) := by decide +kernel
theorem d_Cou_goOn_31 : decode prog_3_method_10_code 31 = .ok (.getfield 77, 3) := by decide +kernel
theorem d_Cou_goOn_34 : decode prog_3_method_10_code 34 = .ok (.iadd, 1) := by decide +kernel
theorem d_Cou_goOn_35 : decode prog_3_method_10_code 35 = .ok (.putfield 46, 3) := by decide +kernel
theorem d_Cou_goOn_38 : decode prog_3_method_10_code 38 = .ok (.aload_n 0, 1) := by decide +kernel
theorem d_Cou_goOn_39 : decode prog_3_method_10_code 39 = .ok (.getfield 74, 3) := by decide +kernel
theorem d_Cou_goOn_42 : decode prog_3_method_10_code 42 = .ok (.bipush 23, 2) := by decide +kernel
theorem d_Cou_goOn_44 : decode prog_3_method_10_code 44 = .ok (.if_icmp .ne 47, 3) := by decide +kernel
theorem d_Cou_goOn_47 : decode prog_3_method_10_code 47 = .ok (.aload_n 0, 1) := by decide +kernel
theorem d_Cou_goOn_48 : decode prog_3_method_10_code 48 = .ok (.getfield 49, 3) := by decide +kernel
theorem d_Cou_goOn_51 : decode prog_3_method_10_code 51 = .ok (.iconst 4, 1) := by decide +kernel
theorem d_Cou_goOn_52 : decode prog_3_method_10_code 52 = .ok (.if_icmp .ge 39, 3) := by decide +kernel
theorem d_Cou_goOn_55 : decode prog_3_method_10_code 55 = .ok (.aload_n 0, 1) := by decide +kernel
theorem d_Cou_goOn_56 : decode prog_3_method_10_code 56 = .ok (.getfield 22, 3) := by decide +kernel
theorem d_Cou_goOn_59 : decode prog_3_method_10_code 59 = .ok (.aload_n 0, 1) := by decide +kernel
theorem d_Cou_goOn_60 : decode prog_3_method_10_code 60 = .ok (.getfield 49, 3) := by decide +kernel
theorem d_Cou_goOn_63 : decode prog_3_method_10_code 63 = .ok (.aload_n 0, 1) := by decide +kernel
theorem d_Cou_goOn_64 : decode prog_3_method_10_code 64 = .ok (.getfield 46, 3) := by decide +kernel
theorem d_Cou_goOn_67 : decode prog_3_method_10_code 67 = .ok (.iastore, 1) := by decide +kernel
theorem d_Cou_goOn_68 : decode prog_3_method_10_code 68 = .ok (.aload_n 0, 1) := by decide +kernel
theorem d_Cou_goOn_69 : decode prog_3_method_10_code 69 = .ok (.dup, 1) := by decide +kernel
theorem d_Cou_goOn_70 : decode prog_3_method_10_code 70 = .ok (.getfield 49, 3) := by decide +kernel
theorem d_Cou_goOn_73 : decode prog_3_method_10_code 73 = .ok (.iconst 1, 1) := by decide +kernel
theorem d_Cou_goOn_74 : decode prog_3_method_10_code 74 = .ok (.iadd, 1) := by decide +kernel
theorem d_Cou_goOn_75 : decode prog_3_method_10_code 75 = .ok (.putfield 49, 3) := by decide +kernel
theorem d_Cou_goOn_78 : decode prog_3_method_10_code 78 = .ok (.aload_n 0, 1) := by decide +kernel
theorem d_Cou_goOn_79 : decode prog_3_method_10_code 79 = .ok (.aload_n 0, 1) := by decide +kernel
theorem d_Cou_goOn_80 : decode prog_3_method_10_code 80 = .ok (.getfield 9, 3) := by decide +kernel
theorem d_Cou_goOn_83 : decode prog_3_method_10_code 83 = .ok (.iconst 0, 1) := by decide +kernel
theorem d_Cou_goOn_84 : decode prog_3_method_10_code 84 = .ok (.iaload, 1) := by decide +kernel
theorem d_Cou_goOn_85 : decode prog_3_method_10_code 85 = .ok (.putfield 46, 3) := by decide +kernel
theorem d_Cou_goOn_88 : decode prog_3_method_10_code 88 = .ok (.goto 55, 3) := by decide +kernel
theorem d_Cou_goOn_91 : decode prog_3_method_10_code 91 = .ok (.aload_n 0, 1) := by decide +kernel
theorem d_Cou_goOn_92 : decode prog_3_method_10_code 92 = .ok (.getfield 74, 3) := by decide +kernel
theorem d_Cou_goOn_95 : decode prog_3_method_10_code 95 = .ok (.ifCond .ne 36, 3) := by decide +kernel
theorem d_Cou_goOn_98 : decode prog_3_method_10_code 98 = .ok (.aload_n 0, 1) := by decide +kernel
theorem d_Cou_goOn_99 : decode prog_3_method_10_code 99 = .ok (.getfield 49, 3) := by decide +kernel
theorem d_Cou_goOn_102 : decode prog_3_method_10_code 102 = .ok (.ifCond .le 29, 3) := by decide +kernel
theorem d_Cou_goOn_105 : decode prog_3_method_10_code 105 = .ok (.aload_n 0, 1) := by decide +kernel
theorem d_Cou_goOn_106 : decode prog_3_method_10_code 106 = .ok (.dup, 1) := by decide +kernel
theorem d_Cou_goOn_107 : decode prog_3_method_10_code 107 = .ok (.getfield 49, 3) := by decide +kernel
theorem d_Cou_goOn_110 : decode prog_3_method_10_code 110 = .ok (.iconst 1, 1) := by decide +kernel
theorem d_Cou_goOn_111 : decode prog_3_method_10_code 111 = .ok (.isub, 1) := by decide +kernel
theorem d_Cou_goOn_112 : decode prog_3_method_10_code 112 = .ok (.putfield 49, 3) := by decide +kernel
theorem d_Cou_goOn_115 : decode prog_3_method_10_code 115 = .ok (.aload_n 0, 1) := by decide +kernel
theorem d_Cou_goOn_116 : decode prog_3_method_10_code 116 = .ok (.aload_n 0, 1) := by decide +kernel
theorem d_Cou_goOn_117 : decode prog_3_method_10_code 117 = .ok (.getfield 22, 3) := by decide +kernel
theorem d_Cou_goOn_120 : decode prog_3_method_10_code 120 = .ok (.aload_n 0, 1) := by decide +kernel
theorem d_Cou_goOn_121 : decode prog_3_method_10_code 121 = .ok (.getfield 49, 3) := by decide +kernel
theorem d_Cou_goOn_124 : decode prog_3_method_10_code 124 = .ok (.iaload, 1) := by decide +kernel
theorem d_Cou_goOn_125 : decode prog_3_method_10_code 125 = .ok (.putfield 46, 3) := by decide +kernel
theorem d_Cou_goOn_128 : decode prog_3_method_10_code 128 = .ok (.goto 15, 3) := by decide +kernel
theorem d_Cou_goOn_131 : decode prog_3_method_10_code 131 = .ok (.aload_n 0, 1) := by decide +kernel
theorem d_Cou_goOn_132 : decode prog_3_method_10_code 132 = .ok (.getfield 74, 3) := by decide +kernel
theorem d_Cou_goOn_135 : decode prog_3_method_10_code 135 = .ok (.ifCond .ne 8, 3) := by decide +kernel
theorem d_Cou_goOn_138 : decode prog_3_method_10_code 138 = .ok (.aload_n 0, 1) := by decide +kernel
theorem d_Cou_goOn_139 : decode prog_3_method_10_code 139 = .ok (.iconst 1, 1) := by decide +kernel
theorem d_Cou_goOn_140 : decode prog_3_method_10_code 140 = .ok (.putfield 58, 3) := by decide +kernel
theorem d_Cou_goOn_143 : decode prog_3_method_10_code 143 = .ok (.return_, 1) := by decide +kernel
def F_Cou_goOn_143 (σ : Sg) : Option (Sg) := some σ
set_option maxRecDepth 10000 in
set_option maxHeartbeats 4000000 in
theorem bt_Cou_goOn_143 {p : Program} {l : Launch} {e : Env} {R : Room} {s : State} {m : MethodId} {args : Array Value} {below : List Frame} {meth : Method} {c : Code} {D : va_G} {τ : ClassId × ClassId × ClassId} {B : Nat} {A : Nat → Prop} {ad : Nat → Nat} (E : Cx p R s m args meth c prog_3_method_10_code 2 "DrawingMachine$Course" 0 D τ B A) (hret : meth.sig.returnType = none) (o : Sg) (σ : Sg) (h : F_Cou_goOn_143 σ = some o) {H : Heap} {locs : List Loc} {ls : Array Slot} (w : Wd s D A (wdC τ σ ad) H locs) (hl : lv_has ls 2 []) : W p l e R s m args below meth c H locs 0 0 (QV below args s A D τ (wdC τ o ad)) (F0 m 143 ls []) := by
  obtain rfl := Option.some.inj h
  exact rt_v E w hret d_Cou_goOn_143
def F_Cou_goOn_131 (σ : Sg) : Option (Sg) := if (σ.1 3) = 0 then (lt (sI σ 9 1) (fun σ13 => F_Cou_goOn_143 σ13)) else (F_Cou_goOn_143 σ)
set_option maxRecDepth 10000 in
set_option maxHeartbeats 4000000 in
theorem bt_Cou_goOn_131 {p : Program} {l : Launch} {e : Env} {R : Room} {s : State} {m : MethodId} {args : Array Value} {below : List Frame} {meth : Method} {c : Code} {D : va_G} {τ : ClassId × ClassId × ClassId} {B : Nat} {A : Nat → Prop} {ad : Nat → Nat} (E : Cx p R s m args meth c prog_3_method_10_code 2 "DrawingMachine$Course" 0 D τ B A) (hret : meth.sig.returnType = none) (o : Sg) (σ : Sg) (h : F_Cou_goOn_131 σ = some o) {H : Heap} {locs : List Loc} {ls : Array Slot} (w : Wd s D A (wdC τ σ ad) H locs) (hl : lv_has ls 2 [(0, .ref (ad 59))]) : W p l e R s m args below meth c H locs 0 0 (QV below args s A D τ (wdC τ o ad)) (F0 m 131 ls []) := by
  refine lv_aload_n E.x E.b d_Cou_goOn_131 rfl (lv_at hl 0 rfl) ?_
  refine gC_Cou_kind E w k116 d_Cou_goOn_132 ?_
  refine lv_if_ne (tgt := 143) E.x E.b d_Cou_goOn_135 (by decide) (fun c => ?_) (fun c => ?_)
  ·
    replace h := ifF c h
    exact bt_Cou_goOn_143 E hret o σ h w (lv_sub hl [] rfl)
  ·
    replace h := ifT c h
    refine lv_aload_n E.x E.b d_Cou_goOn_138 rfl (lv_at hl 0 rfl) ?_
    refine lv_iconst (v := 1) E.x E.b d_Cou_goOn_139 (by decide) ?_
    obtain ⟨σ13, e_σ13, h⟩ := lt_some h
    refine pC_Cou_over E w k128 (by decide) e_σ13 d_Cou_goOn_140 (fun H locs w => ?_)
    exact bt_Cou_goOn_143 E hret o σ13 h w (lv_sub hl [] rfl)
def F_Cou_goOn_91 (σ : Sg) : Option (Sg) := if (σ.1 3) = 0 then (if (σ.1 4) ≤ 0 then (F_Cou_goOn_131 σ) else (lt (sI σ 4 ((σ.1 4) - 1)) (fun σ14 => ck (inb (σ14.1 4) 4) (lt (sI σ14 10 (σ14.2.2.1 6 (σ14.1 4).toNatClampNeg)) (fun σ16 => F_Cou_goOn_143 σ16))))) else (F_Cou_goOn_131 σ)
set_option maxRecDepth 10000 in
set_option maxHeartbeats 4000000 in
theorem bt_Cou_goOn_91 {p : Program} {l : Launch} {e : Env} {R : Room} {s : State} {m : MethodId} {args : Array Value} {below : List Frame} {meth : Method} {c : Code} {D : va_G} {τ : ClassId × ClassId × ClassId} {B : Nat} {A : Nat → Prop} {ad : Nat → Nat} (E : Cx p R s m args meth c prog_3_method_10_code 2 "DrawingMachine$Course" 0 D τ B A) (hret : meth.sig.returnType = none) (o : Sg) (σ : Sg) (h : F_Cou_goOn_91 σ = some o) {H : Heap} {locs : List Loc} {ls : Array Slot} (w : Wd s D A (wdC τ σ ad) H locs) (hl : lv_has ls 2 [(0, .ref (ad 59))]) : W p l e R s m args below meth c H locs 0 0 (QV below args s A D τ (wdC τ o ad)) (F0 m 91 ls []) := by
  refine lv_aload_n E.x E.b d_Cou_goOn_91 rfl (lv_at hl 0 rfl) ?_
  refine gC_Cou_kind E w k116 d_Cou_goOn_92 ?_
  refine lv_if_ne (tgt := 131) E.x E.b d_Cou_goOn_95 (by decide) (fun c => ?_) (fun c => ?_)
  ·
    replace h := ifF c h
    exact bt_Cou_goOn_131 E hret o σ h w (lv_sub hl [0] rfl)
  ·
    replace h := ifT c h
    refine lv_aload_n E.x E.b d_Cou_goOn_98 rfl (lv_at hl 0 rfl) ?_
    refine gC_Cou_depth E w k118 d_Cou_goOn_99 ?_
    refine lv_if_le (tgt := 131) E.x E.b d_Cou_goOn_102 (by decide) (fun c => ?_) (fun c => ?_)
    ·
      replace h := ifT c h
      exact bt_Cou_goOn_131 E hret o σ h w (lv_sub hl [0] rfl)
    ·
      replace h := ifF c h
      refine lv_aload_n E.x E.b d_Cou_goOn_105 rfl (lv_at hl 0 rfl) ?_
      refine lv_dup E.x E.b d_Cou_goOn_106 rfl ?_
      refine gC_Cou_depth E w k118 d_Cou_goOn_107 ?_
      refine lv_iconst (v := 1) E.x E.b d_Cou_goOn_110 (by decide) ?_
      refine lv_isub E.x E.b d_Cou_goOn_111 ?_
      obtain ⟨σ14, e_σ14, h⟩ := lt_some h
      refine pC_Cou_depth E w k118 e_σ14 d_Cou_goOn_112 (fun H locs w => ?_)
      refine lv_aload_n E.x E.b d_Cou_goOn_115 rfl (lv_at hl 0 rfl) ?_
      refine lv_aload_n E.x E.b d_Cou_goOn_116 rfl (lv_at hl 0 rfl) ?_
      refine gC_Cou_returns E w k133 d_Cou_goOn_117 ?_
      refine lv_aload_n E.x E.b d_Cou_goOn_120 rfl (lv_at hl 0 rfl) ?_
      refine gC_Cou_depth E w k118 d_Cou_goOn_121 ?_
      obtain ⟨c15, h⟩ := ck_some h
      refine ialC E w (k := 6) (by decide) c15 d_Cou_goOn_124 ?_
      obtain ⟨σ16, e_σ16, h⟩ := lt_some h
      refine pC_Cou_position E w k135 e_σ16 d_Cou_goOn_125 (fun H locs w => ?_)
      refine lv_goto (tgt := 143) E.x E.b d_Cou_goOn_128 (by decide) ?_
      exact bt_Cou_goOn_143 E hret o σ16 h w (lv_sub hl [] rfl)
def F_Cou_goOn (σ : Sg) (x0 : Int32) : Option (Sg) := if x0 = 0 then (lt (sI σ 5 ((σ.1 5) + 1)) (fun σ17 => lt (sI σ17 10 ((σ17.1 10) + (σ17.1 11))) (fun σ18 => if (σ18.1 3) = 23 then (if 4 ≤ (σ18.1 4) then (F_Cou_goOn_91 σ18) else (ck (inb (σ18.1 4) 4) (lt (sA σ18 6 (upd (σ18.2.2.1 6) (σ18.1 4).toNatClampNeg (σ18.1 10))) (fun σ20 => lt (sI σ20 4 ((σ20.1 4) + 1)) (fun σ21 => lt (sI σ21 10 (σ21.2.2.1 5 0)) (fun σ22 => F_Cou_goOn_143 σ22)))))) else (F_Cou_goOn_91 σ18)))) else (lt (sI σ 6 x0) (fun σ23 => lt (sI σ23 9 1) (fun σ24 => some σ24)))
set_option maxRecDepth 10000 in
set_option maxHeartbeats 4000000 in
theorem c_Cou_goOn (l : Launch) (D : va_G) (τ : ClassId × ClassId × ClassId) (B : Nat) (σ : Sg) (ad : Nat → Nat) (x0 : Int32) (o : Sg) (h : F_Cou_goOn σ x0 = some o) : MV l y_Cou_goOn (Cond.code y_Cou_goOn prog_3_method_10_code 2 none) 0 D τ B [.ref (ad 59), .int x0] (wdC τ σ ad) (wdC τ o ad) := by
  refine en_v (by decide) (Nat.le_of_ble_eq_true rfl) ?_
  intro p e R s m args below meth c H locs ls A E hret w hl
  have E : Cx p R s m args meth c prog_3_method_10_code 2 "DrawingMachine$Course" 0 D τ B A := E
  have hl : lv_has ls 2 [(0, .ref (ad 59)), (1, .int x0)] := hl
  refine lv_iload_n E.x E.b d_Cou_goOn_0 rfl (lv_at hl 1 rfl) ?_
  refine lv_if_eq (tgt := 15) E.x E.b d_Cou_goOn_1 (by decide) (fun c => ?_) (fun c => ?_)
  ·
    replace h := ifT c h
    refine lv_aload_n E.x E.b d_Cou_goOn_15 rfl (lv_at hl 0 rfl) ?_
    refine lv_dup E.x E.b d_Cou_goOn_16 rfl ?_
    refine gC_Cou_done E w k120 d_Cou_goOn_17 ?_
    refine lv_iconst (v := 1) E.x E.b d_Cou_goOn_20 (by decide) ?_
    refine lv_iadd E.x E.b d_Cou_goOn_21 ?_
    obtain ⟨σ17, e_σ17, h⟩ := lt_some h
    refine pC_Cou_done E w k120 e_σ17 d_Cou_goOn_22 (fun H locs w => ?_)
    refine lv_aload_n E.x E.b d_Cou_goOn_25 rfl (lv_at hl 0 rfl) ?_
    refine lv_dup E.x E.b d_Cou_goOn_26 rfl ?_
    refine gC_Cou_position E w k135 d_Cou_goOn_27 ?_
    refine lv_aload_n E.x E.b d_Cou_goOn_30 rfl (lv_at hl 0 rfl) ?_
    refine gC_Cou_length E w k136 d_Cou_goOn_31 ?_
    refine lv_iadd E.x E.b d_Cou_goOn_34 ?_
    obtain ⟨σ18, e_σ18, h⟩ := lt_some h
    refine pC_Cou_position E w k135 e_σ18 d_Cou_goOn_35 (fun H locs w => ?_)
    refine lv_aload_n E.x E.b d_Cou_goOn_38 rfl (lv_at hl 0 rfl) ?_
    refine gC_Cou_kind E w k116 d_Cou_goOn_39 ?_
    refine lv_bipush (v := 23) E.x E.b d_Cou_goOn_42 (by decide) ?_
    refine lv_icmp_ne (tgt := 91) E.x E.b d_Cou_goOn_44 (by decide) (fun c => ?_) (fun c => ?_)
    ·
      replace h := ifF c h
      exact bt_Cou_goOn_91 E hret o σ18 h w (lv_sub hl [0] rfl)
    ·
      replace h := ifT c h
      refine lv_aload_n E.x E.b d_Cou_goOn_47 rfl (lv_at hl 0 rfl) ?_
      refine gC_Cou_depth E w k118 d_Cou_goOn_48 ?_
      refine lv_iconst (v := 4) E.x E.b d_Cou_goOn_51 (by decide) ?_
      refine lv_icmp_ge (tgt := 91) E.x E.b d_Cou_goOn_52 (by decide) (fun c => ?_) (fun c => ?_)
      ·
        replace h := ifT c h
        exact bt_Cou_goOn_91 E hret o σ18 h w (lv_sub hl [0] rfl)
      ·
        replace h := ifF c h
        refine lv_aload_n E.x E.b d_Cou_goOn_55 rfl (lv_at hl 0 rfl) ?_
        refine gC_Cou_returns E w k133 d_Cou_goOn_56 ?_
        refine lv_aload_n E.x E.b d_Cou_goOn_59 rfl (lv_at hl 0 rfl) ?_
        refine gC_Cou_depth E w k118 d_Cou_goOn_60 ?_
        refine lv_aload_n E.x E.b d_Cou_goOn_63 rfl (lv_at hl 0 rfl) ?_
        refine gC_Cou_position E w k135 d_Cou_goOn_64 ?_
        obtain ⟨c19, h⟩ := ck_some h
        obtain ⟨σ20, e_σ20, h⟩ := lt_some h
        refine iasC E w (k := 6) (by decide) c19 e_σ20 d_Cou_goOn_67 (fun H locs w => ?_)
        refine lv_aload_n E.x E.b d_Cou_goOn_68 rfl (lv_at hl 0 rfl) ?_
        refine lv_dup E.x E.b d_Cou_goOn_69 rfl ?_
        refine gC_Cou_depth E w k118 d_Cou_goOn_70 ?_
        refine lv_iconst (v := 1) E.x E.b d_Cou_goOn_73 (by decide) ?_
        refine lv_iadd E.x E.b d_Cou_goOn_74 ?_
        obtain ⟨σ21, e_σ21, h⟩ := lt_some h
        refine pC_Cou_depth E w k118 e_σ21 d_Cou_goOn_75 (fun H locs w => ?_)
        refine lv_aload_n E.x E.b d_Cou_goOn_78 rfl (lv_at hl 0 rfl) ?_
        refine lv_aload_n E.x E.b d_Cou_goOn_79 rfl (lv_at hl 0 rfl) ?_
        refine gC_Cou_given E w k110 d_Cou_goOn_80 ?_
        refine lv_iconst (v := 0) E.x E.b d_Cou_goOn_83 (by decide) ?_
        refine ialC E w (k := 5) (by decide) (show inb 0 8 by decide) d_Cou_goOn_84 ?_
        refine wi_e (v := σ21.2.2.1 5 0) rfl ?_
        obtain ⟨σ22, e_σ22, h⟩ := lt_some h
        refine pC_Cou_position E w k135 e_σ22 d_Cou_goOn_85 (fun H locs w => ?_)
        refine lv_goto (tgt := 143) E.x E.b d_Cou_goOn_88 (by decide) ?_
        exact bt_Cou_goOn_143 E hret o σ22 h w (lv_sub hl [] rfl)
  ·
    replace h := ifF c h
    refine lv_aload_n E.x E.b d_Cou_goOn_4 rfl (lv_at hl 0 rfl) ?_
    refine lv_iload_n E.x E.b d_Cou_goOn_5 rfl (lv_at hl 1 rfl) ?_
    obtain ⟨σ23, e_σ23, h⟩ := lt_some h
    refine pC_Cou_refused E w k122 e_σ23 d_Cou_goOn_6 (fun H locs w => ?_)
    refine lv_aload_n E.x E.b d_Cou_goOn_9 rfl (lv_at hl 0 rfl) ?_
    refine lv_iconst (v := 1) E.x E.b d_Cou_goOn_10 (by decide) ?_
    obtain ⟨σ24, e_σ24, h⟩ := lt_some h
    refine pC_Cou_over E w k128 (by decide) e_σ24 d_Cou_goOn_11 (fun H locs w => ?_)
    obtain rfl := Option.some.inj h
    exact rt_v E w hret d_Cou_goOn_14
theorem clV_Cou_goOn {p : Program} {l : Launch} {e : Env} {R : Room} {s : State} {m : MethodId} {args : Array Value} {below : List Frame} {meth : Method} {c : Code} {H : Heap} {locs : List Loc} {Q : State → Prop} {cc : ByteArray} {nL pc lev : Nat} {own : String} {D : va_G} {τ : ClassId × ClassId × ClassId} {B : Nat} {A : Nat → Prop} {σ : Sg} {ad : Nat → Nat} {ls : Array Slot} {rest : List Value} (E : Cx p R s m args meth c cc nL own lev D τ B A) (w : Wd s D A (wdC τ σ ad) H locs) {x0 : Int32} {o : Sg} (h : F_Cou_goOn σ x0 = some o) {index : Nat} (hlk : Cond.methodLink own index y_Cou_goOn ∈ tw) (hlev : 0 < lev) (hsz : ls.size = nL) (hr : (rest.map fun v => v.category).sum ≤ 8) (hd : decode cc pc = .ok (.invokevirtual index, 3)) (kk : ∀ (H1 : Heap) (locs1 : List Loc), Wd s D A (wdC τ o ad) H1 locs1 → W p l e R s m args below meth c H1 locs1 0 0 Q (F0 m (pc + 3) ls (rest))) : W p l e R s m args below meth c H locs 0 0 Q (F0 m pc ls (.int x0 :: .ref (ad 59) :: rest)) :=
  cr_v w E.C (va_runV (As := [.int x0]) (rest := rest) E.fix (c_Cou_goOn l D τ B σ ad x0 o h H.size) (cwV 1 E.w (tw_pre (tw_good k1375) (l := [_, _, _, _]) (List.forall_mem_cons.mpr ⟨hlk, List.forall_mem_cons.mpr ⟨k1373, List.forall_mem_cons.mpr ⟨k1374, List.forall_mem_cons.mpr ⟨k5, fun _ h => absurd h List.not_mem_nil⟩⟩⟩⟩)) rfl rfl rfl (by decide +kernel) (E.rm hlev (by decide))) (wd_preV w E.C [.int x0] rcC_Cou rfl) rfl rfl hsz rfl (lv_room hr) hd ⟨Nat.zero_le _, Nat.zero_le _⟩) kk

theorem d_Cov_take_0 : decode prog_4_method_2_code 0 = .ok (.aload_n 0, 1) := by decide +kernel
theorem d_Cov_take_1 : decode prog_4_method_2_code 1 = .ok (.getfield 9, 3) := by decide +kernel
theorem d_Cov_take_4 : decode prog_4_method_2_code 4 = .ok (.iconst 0, 1) := by decide +kernel
theorem d_Cov_take_5 : decode prog_4_method_2_code 5 = .ok (.iconst 0, 1) := by decide +kernel
theorem d_Cov_take_6 : decode prog_4_method_2_code 6 = .ok (.iastore, 1) := by decide +kernel
theorem d_Cov_take_7 : decode prog_4_method_2_code 7 = .ok (.aload_n 0, 1) := by decide +kernel
theorem d_Cov_take_8 : decode prog_4_method_2_code 8 = .ok (.getfield 9, 3) := by decide +kernel
theorem d_Cov_take_11 : decode prog_4_method_2_code 11 = .ok (.iconst 1, 1) := by decide +kernel
theorem d_Cov_take_12 : decode prog_4_method_2_code 12 = .ok (.iload_n 1, 1) := by decide +kernel
theorem d_Cov_take_13 : decode prog_4_method_2_code 13 = .ok (.iastore, 1) := by decide +kernel
theorem d_Cov_take_14 : decode prog_4_method_2_code 14 = .ok (.aload_n 0, 1) := by decide +kernel
theorem d_Cov_take_15 : decode prog_4_method_2_code 15 = .ok (.getfield 9, 3) := by decide +kernel
theorem d_Cov_take_18 : decode prog_4_method_2_code 18 = .ok (.iconst 2, 1) := by decide +kernel
theorem d_Cov_take_19 : decode prog_4_method_2_code 19 = .ok (.iload_n 1, 1) := by decide +kernel
theorem d_Cov_take_20 : decode prog_4_method_2_code 20 = .ok (.iconst 1, 1) := by decide +kernel
theorem d_Cov_take_21 : decode prog_4_method_2_code 21 = .ok (.iadd, 1) := by decide +kernel
theorem d_Cov_take_22 : decode prog_4_method_2_code 22 = .ok (.iastore, 1) := by decide +kernel
theorem d_Cov_take_23 : decode prog_4_method_2_code 23 = .ok (.aload_n 0, 1) := by decide +kernel
theorem d_Cov_take_24 : decode prog_4_method_2_code 24 = .ok (.getfield 34, 3) := by decide +kernel
theorem d_Cov_take_27 : decode prog_4_method_2_code 27 = .ok (.getfield 38, 3) := by decide +kernel
theorem d_Cov_take_30 : decode prog_4_method_2_code 30 = .ok (.astore_n 2, 1) := by decide +kernel
theorem d_Cov_take_31 : decode prog_4_method_2_code 31 = .ok (.aload_n 0, 1) := by decide +kernel
theorem d_Cov_take_32 : decode prog_4_method_2_code 32 = .ok (.getfield 34, 3) := by decide +kernel
theorem d_Cov_take_35 : decode prog_4_method_2_code 35 = .ok (.getfield 43, 3) := by decide +kernel
theorem d_Cov_take_38 : decode prog_4_method_2_code 38 = .ok (.astore_n 3, 1) := by decide +kernel
theorem d_Cov_take_39 : decode prog_4_method_2_code 39 = .ok (.aload_n 2, 1) := by decide +kernel
theorem d_Cov_take_40 : decode prog_4_method_2_code 40 = .ok (.iload_n 1, 1) := by decide +kernel
theorem d_Cov_take_41 : decode prog_4_method_2_code 41 = .ok (.iaload, 1) := by decide +kernel
theorem d_Cov_take_42 : decode prog_4_method_2_code 42 = .ok (.aload_n 2, 1) := by decide +kernel
theorem d_Cov_take_43 : decode prog_4_method_2_code 43 = .ok (.iconst 0, 1) := by decide +kernel
theorem d_Cov_take_44 : decode prog_4_method_2_code 44 = .ok (.iaload, 1) := by decide +kernel
theorem d_Cov_take_45 : decode prog_4_method_2_code 45 = .ok (.isub, 1) := by decide +kernel
theorem d_Cov_take_46 : decode prog_4_method_2_code 46 = .ok (.i2l, 1) := by decide +kernel
theorem d_Cov_take_47 : decode prog_4_method_2_code 47 = .ok (.aload_n 3, 1) := by decide +kernel
theorem d_Cov_take_48 : decode prog_4_method_2_code 48 = .ok (.iload_n 1, 1) := by decide +kernel
theorem d_Cov_take_49 : decode prog_4_method_2_code 49 = .ok (.iconst 1, 1) := by decide +kernel
theorem d_Cov_take_50 : decode prog_4_method_2_code 50 = .ok (.iadd, 1) := by decide +kernel
theorem d_Cov_take_51 : decode prog_4_method_2_code 51 = .ok (.iaload, 1) := by decide +kernel
theorem d_Cov_take_52 : decode prog_4_method_2_code 52 = .ok (.aload_n 3, 1) := by decide +kernel
theorem d_Cov_take_53 : decode prog_4_method_2_code 53 = .ok (.iconst 0, 1) := by decide +kernel
theorem d_Cov_take_54 : decode prog_4_method_2_code 54 = .ok (.iaload, 1) := by decide +kernel
theorem d_Cov_take_55 : decode prog_4_method_2_code 55 = .ok (.isub, 1) := by decide +kernel
theorem d_Cov_take_56 : decode prog_4_method_2_code 56 = .ok (.i2l, 1) := by decide +kernel
theorem d_Cov_take_57 : decode prog_4_method_2_code 57 = .ok (.lmul, 1) := by decide +kernel
theorem d_Cov_take_58 : decode prog_4_method_2_code 58 = .ok (.aload_n 2, 1) := by decide +kernel
theorem d_Cov_take_59 : decode prog_4_method_2_code 59 = .ok (.iload_n 1, 1) := by decide +kernel
theorem d_Cov_take_60 : decode prog_4_method_2_code 60 = .ok (.iconst 1, 1) := by decide +kernel
theorem d_Cov_take_61 : decode prog_4_method_2_code 61 = .ok (.iadd, 1) := by decide +kernel
theorem d_Cov_take_62 : decode prog_4_method_2_code 62 = .ok (.iaload, 1) := by decide +kernel
theorem d_Cov_take_63 : decode prog_4_method_2_code 63 = .ok (.aload_n 2, 1) := by decide +kernel
theorem d_Cov_take_64 : decode prog_4_method_2_code 64 = .ok (.iconst 0, 1) := by decide +kernel
theorem d_Cov_take_65 : decode prog_4_method_2_code 65 = .ok (.iaload, 1) := by decide +kernel
theorem d_Cov_take_66 : decode prog_4_method_2_code 66 = .ok (.isub, 1) := by decide +kernel
theorem d_Cov_take_67 : decode prog_4_method_2_code 67 = .ok (.i2l, 1) := by decide +kernel
theorem d_Cov_take_68 : decode prog_4_method_2_code 68 = .ok (.aload_n 3, 1) := by decide +kernel
theorem d_Cov_take_69 : decode prog_4_method_2_code 69 = .ok (.iload_n 1, 1) := by decide +kernel
theorem d_Cov_take_70 : decode prog_4_method_2_code 70 = .ok (.iaload, 1) := by decide +kernel
theorem d_Cov_take_71 : decode prog_4_method_2_code 71 = .ok (.aload_n 3, 1) := by decide +kernel
theorem d_Cov_take_72 : decode prog_4_method_2_code 72 = .ok (.iconst 0, 1) := by decide +kernel
theorem d_Cov_take_73 : decode prog_4_method_2_code 73 = .ok (.iaload, 1) := by decide +kernel
theorem d_Cov_take_74 : decode prog_4_method_2_code 74 = .ok (.isub, 1) := by decide +kernel
theorem d_Cov_take_75 : decode prog_4_method_2_code 75 = .ok (.i2l, 1) := by decide +kernel
theorem d_Cov_take_76 : decode prog_4_method_2_code 76 = .ok (.lmul, 1) := by decide +kernel
theorem d_Cov_take_77 : decode prog_4_method_2_code 77 = .ok (.lsub, 1) := by decide +kernel
theorem d_Cov_take_78 : decode prog_4_method_2_code 78 = .ok (.lstore 4, 2) := by decide +kernel
theorem d_Cov_take_80 : decode prog_4_method_2_code 80 = .ok (.lload 4, 2) := by decide +kernel
theorem d_Cov_take_82 : decode prog_4_method_2_code 82 = .ok (.lconst 0, 1) := by decide +kernel
theorem d_Cov_take_83 : decode prog_4_method_2_code 83 = .ok (.lcmp, 1) := by decide +kernel
theorem d_Cov_take_84 : decode prog_4_method_2_code 84 = .ok (.ifCond .ge 19, 3) := by decide +kernel
theorem d_Cov_take_87 : decode prog_4_method_2_code 87 = .ok (.aload_n 0, 1) := by decide +kernel
theorem d_Cov_take_88 : decode prog_4_method_2_code 88 = .ok (.getfield 9, 3) := by decide +kernel
theorem d_Cov_take_91 : decode prog_4_method_2_code 91 = .ok (.iconst 1, 1) := by decide +kernel
theorem d_Cov_take_92 : decode prog_4_method_2_code 92 = .ok (.iload_n 1, 1) := by decide +kernel
theorem d_Cov_take_93 : decode prog_4_method_2_code 93 = .ok (.iconst 1, 1) := by decide +kernel
theorem d_Cov_take_94 : decode prog_4_method_2_code 94 = .ok (.iadd, 1) := by decide +kernel
theorem d_Cov_take_95 : decode prog_4_method_2_code 95 = .ok (.iastore, 1) := by decide +kernel
theorem d_Cov_take_96 : decode prog_4_method_2_code 96 = .ok (.aload_n 0, 1) := by decide +kernel
theorem d_Cov_take_97 : decode prog_4_method_2_code 97 = .ok (.getfield 9, 3) := by decide +kernel
theorem d_Cov_take_100 : decode prog_4_method_2_code 100 = .ok (.iconst 2, 1) := by decide +kernel
theorem d_Cov_take_101 : decode prog_4_method_2_code 101 = .ok (.iload_n 1, 1) := by decide +kernel
theorem d_Cov_take_102 : decode prog_4_method_2_code 102 = .ok (.iastore, 1) := by decide +kernel
theorem d_Cov_take_103 : decode prog_4_method_2_code 103 = .ok (.aload_n 0, 1) := by decide +kernel
theorem d_Cov_take_104 : decode prog_4_method_2_code 104 = .ok (.lload 4, 2) := by decide +kernel
theorem d_Cov_take_106 : decode prog_4_method_2_code 106 = .ok (.lconst 0, 1) := by decide +kernel
theorem d_Cov_take_107 : decode prog_4_method_2_code 107 = .ok (.lcmp, 1) := by decide +kernel
theorem d_Cov_take_108 : decode prog_4_method_2_code 108 = .ok (.ifCond .ge 9, 3) := by decide +kernel
theorem d_Cov_take_111 : decode prog_4_method_2_code 111 = .ok (.lload 4, 2) := by decide +kernel
theorem d_Cov_take_113 : decode prog_4_method_2_code 113 = .ok (.lneg, 1) := by decide +kernel
theorem d_Cov_take_114 : decode prog_4_method_2_code 114 = .ok (.goto 5, 3) := by decide +kernel
theorem d_Cov_take_117 : decode prog_4_method_2_code 117 = .ok (.lload 4, 2) := by decide +kernel
theorem d_Cov_take_119 : decode prog_4_method_2_code 119 = .ok (.putfield 46, 3) := by decide +kernel
theorem d_Cov_take_122 : decode prog_4_method_2_code 122 = .ok (.lload 4, 2) := by decide +kernel
theorem d_Cov_take_124 : decode prog_4_method_2_code 124 = .ok (.lreturn, 1) := by decide +kernel
def F_Cov_take_119 (σ : Sg) (v4 : Int64) (s1 : Int64) : Option (Sg × Int64) := lt (sJ σ 2 s1) (fun σ12 => some (σ12, v4))
set_option maxRecDepth 10000 in
set_option maxHeartbeats 4000000 in
theorem bt_Cov_take_119 {p : Program} {l : Launch} {e : Env} {R : Room} {s : State} {m : MethodId} {args : Array Value} {below : List Frame} {meth : Method} {c : Code} {D : va_G} {τ : ClassId × ClassId × ClassId} {B : Nat} {A : Nat → Prop} {ad : Nat → Nat} (E : Cx p R s m args meth c prog_4_method_2_code 6 "DrawingMachine$Covering" 0 D τ B A) (hret : meth.sig.returnType = (some .long)) (o : Sg × Int64) (σ : Sg) (v4 : Int64) (s1 : Int64) (h : F_Cov_take_119 σ v4 s1 = some o) {H : Heap} {locs : List Loc} {ls : Array Slot} (w : Wd s D A (wdC τ σ ad) H locs) (hl : lv_has ls 6 [(4, .long v4)]) : W p l e R s m args below meth c H locs 0 0 (QL below args s A D τ (wdC τ o.1 ad) o.2) (F0 m 119 ls [.long s1, .ref (ad 66)]) := by
  obtain ⟨σ12, e_σ12, h⟩ := lt_some h
  refine pC_Cov_area E w k340 e_σ12 d_Cov_take_119 (fun H locs w => ?_)
  refine lv_lload E.x E.b d_Cov_take_122 (lv_at hl 0 rfl) ?_
  obtain rfl := Option.some.inj h
  exact rt_l E w hret d_Cov_take_124
def F_Cov_take_103 (σ : Sg) (v4 : Int64) : Option (Sg × Int64) := if 0 ≤ v4 then (F_Cov_take_119 σ v4 v4) else (F_Cov_take_119 σ v4 (-v4))
set_option maxRecDepth 10000 in
set_option maxHeartbeats 4000000 in
theorem bt_Cov_take_103 {p : Program} {l : Launch} {e : Env} {R : Room} {s : State} {m : MethodId} {args : Array Value} {below : List Frame} {meth : Method} {c : Code} {D : va_G} {τ : ClassId × ClassId × ClassId} {B : Nat} {A : Nat → Prop} {ad : Nat → Nat} (E : Cx p R s m args meth c prog_4_method_2_code 6 "DrawingMachine$Covering" 0 D τ B A) (hret : meth.sig.returnType = (some .long)) (o : Sg × Int64) (σ : Sg) (v4 : Int64) (h : F_Cov_take_103 σ v4 = some o) {H : Heap} {locs : List Loc} {ls : Array Slot} (w : Wd s D A (wdC τ σ ad) H locs) (hl : lv_has ls 6 [(0, .ref (ad 66)), (4, .long v4)]) : W p l e R s m args below meth c H locs 0 0 (QL below args s A D τ (wdC τ o.1 ad) o.2) (F0 m 103 ls []) := by
  refine lv_aload_n E.x E.b d_Cov_take_103 rfl (lv_at hl 0 rfl) ?_
  refine lv_lload E.x E.b d_Cov_take_104 (lv_at hl 1 rfl) ?_
  refine lv_lconst (v := 0) E.x E.b d_Cov_take_106 (by decide) ?_
  refine W.lcmp E.x E.b d_Cov_take_107 ?_
  refine lv_if_ge (tgt := 117) E.x E.b d_Cov_take_108 (by decide) (fun c => ?_) (fun c => ?_)
  ·
    replace h := ifT (lgc_ge.mp c) h
    refine lv_lload E.x E.b d_Cov_take_117 (lv_at hl 1 rfl) ?_
    exact bt_Cov_take_119 E hret o σ v4 v4 h w (lv_sub hl [1] rfl)
  ·
    replace h := ifF (fun h9 => c (lgc_ge.mpr h9)) h
    refine lv_lload E.x E.b d_Cov_take_111 (lv_at hl 1 rfl) ?_
    refine lv_lneg E.x E.b d_Cov_take_113 ?_
    refine lv_goto (tgt := 119) E.x E.b d_Cov_take_114 (by decide) ?_
    exact bt_Cov_take_119 E hret o σ v4 (-v4) h w (lv_sub hl [1] rfl)
def F_Cov_take (σ : Sg) (x0 : Int32) : Option (Sg × Int64) := lt (sA σ 28 (upd (σ.2.2.1 28) 0 0)) (fun σ13 => lt (sA σ13 28 (upd (σ13.2.2.1 28) 1 x0)) (fun σ14 => lt (sA σ14 28 (upd (σ14.2.2.1 28) 2 (x0 + 1))) (fun σ15 => ck (inb x0 8) (ck (inb (x0 + 1) 8) (ck (inb (x0 + 1) 8) (ck (inb x0 8) (lt (((((σ15.2.2.1 24 x0.toNatClampNeg) - (σ15.2.2.1 24 0)).toInt64) * (((σ15.2.2.1 25 (x0 + 1).toNatClampNeg) - (σ15.2.2.1 25 0)).toInt64)) - ((((σ15.2.2.1 24 (x0 + 1).toNatClampNeg) - (σ15.2.2.1 24 0)).toInt64) * (((σ15.2.2.1 25 x0.toNatClampNeg) - (σ15.2.2.1 25 0)).toInt64))) (fun y20 => if 0 ≤ y20 then (F_Cov_take_103 σ15 y20) else (lt (sA σ15 28 (upd (σ15.2.2.1 28) 1 (x0 + 1))) (fun σ21 => lt (sA σ21 28 (upd (σ21.2.2.1 28) 2 x0)) (fun σ22 => F_Cov_take_103 σ22 y20)))))))))))
set_option maxRecDepth 10000 in
set_option maxHeartbeats 4000000 in
theorem c_Cov_take (l : Launch) (D : va_G) (τ : ClassId × ClassId × ClassId) (B : Nat) (σ : Sg) (ad : Nat → Nat) (x0 : Int32) (o : Sg × Int64) (h : F_Cov_take σ x0 = some o) : ML l y_Cov_take (Cond.code y_Cov_take prog_4_method_2_code 6 (some .long)) 0 D τ B [.ref (ad 66), .int x0] (wdC τ σ ad) (wdC τ o.1 ad) o.2 := by
  refine en_l (by decide) (Nat.le_of_ble_eq_true rfl) ?_
  intro p e R s m args below meth c H locs ls A E hret w hl
  have E : Cx p R s m args meth c prog_4_method_2_code 6 "DrawingMachine$Covering" 0 D τ B A := E
  have hl : lv_has ls 6 [(0, .ref (ad 66)), (1, .int x0)] := hl
  refine lv_aload_n E.x E.b d_Cov_take_0 rfl (lv_at hl 0 rfl) ?_
  refine gC_Cov_who E w k333 d_Cov_take_1 ?_
  refine lv_iconst (v := 0) E.x E.b d_Cov_take_4 (by decide) ?_
  refine lv_iconst (v := 0) E.x E.b d_Cov_take_5 (by decide) ?_
  obtain ⟨σ13, e_σ13, h⟩ := lt_some h
  refine iasC E w (k := 28) (by decide) (show inb 0 3 by decide) e_σ13 d_Cov_take_6 (fun H locs w => ?_)
  refine lv_aload_n E.x E.b d_Cov_take_7 rfl (lv_at hl 0 rfl) ?_
  refine gC_Cov_who E w k333 d_Cov_take_8 ?_
  refine lv_iconst (v := 1) E.x E.b d_Cov_take_11 (by decide) ?_
  refine lv_iload_n E.x E.b d_Cov_take_12 rfl (lv_at hl 1 rfl) ?_
  obtain ⟨σ14, e_σ14, h⟩ := lt_some h
  refine iasC E w (k := 28) (by decide) (show inb 1 3 by decide) e_σ14 d_Cov_take_13 (fun H locs w => ?_)
  refine lv_aload_n E.x E.b d_Cov_take_14 rfl (lv_at hl 0 rfl) ?_
  refine gC_Cov_who E w k333 d_Cov_take_15 ?_
  refine lv_iconst (v := 2) E.x E.b d_Cov_take_18 (by decide) ?_
  refine lv_iload_n E.x E.b d_Cov_take_19 rfl (lv_at hl 1 rfl) ?_
  refine lv_iconst (v := 1) E.x E.b d_Cov_take_20 (by decide) ?_
  refine lv_iadd E.x E.b d_Cov_take_21 ?_
  obtain ⟨σ15, e_σ15, h⟩ := lt_some h
  refine iasC E w (k := 28) (by decide) (show inb 2 3 by decide) e_σ15 d_Cov_take_22 (fun H locs w => ?_)
  refine lv_aload_n E.x E.b d_Cov_take_23 rfl (lv_at hl 0 rfl) ?_
  refine gC_Cov_shape E w k332 d_Cov_take_24 ?_
  refine gC_Sha_x E w k291 d_Cov_take_27 ?_
  refine lv_astore_n (lv' := [(2, .ref (ad 24)), (0, .ref (ad 66)), (1, .int x0)]) E.x E.b d_Cov_take_30 rfl hl (by decide) rfl (fun ls hl => ?_)
  refine lv_aload_n E.x E.b d_Cov_take_31 rfl (lv_at hl 1 rfl) ?_
  refine gC_Cov_shape E w k332 d_Cov_take_32 ?_
  refine gC_Sha_y E w k293 d_Cov_take_35 ?_
  refine lv_astore_n (lv' := [(3, .ref (ad 25)), (2, .ref (ad 24)), (0, .ref (ad 66)), (1, .int x0)]) E.x E.b d_Cov_take_38 rfl hl (by decide) rfl (fun ls hl => ?_)
  refine lv_aload_n E.x E.b d_Cov_take_39 rfl (lv_at hl 1 rfl) ?_
  refine lv_iload_n E.x E.b d_Cov_take_40 rfl (lv_at hl 3 rfl) ?_
  obtain ⟨c16, h⟩ := ck_some h
  refine ialC E w (k := 24) (by decide) c16 d_Cov_take_41 ?_
  refine lv_aload_n E.x E.b d_Cov_take_42 rfl (lv_at hl 1 rfl) ?_
  refine lv_iconst (v := 0) E.x E.b d_Cov_take_43 (by decide) ?_
  refine ialC E w (k := 24) (by decide) (show inb 0 8 by decide) d_Cov_take_44 ?_
  refine wi_e (v := σ15.2.2.1 24 0) rfl ?_
  refine lv_isub E.x E.b d_Cov_take_45 ?_
  refine lv_i2l (v := ((σ15.2.2.1 24 x0.toNatClampNeg) - (σ15.2.2.1 24 0)).toInt64) E.x E.b d_Cov_take_46 rfl ?_
  refine lv_aload_n E.x E.b d_Cov_take_47 rfl (lv_at hl 0 rfl) ?_
  refine lv_iload_n E.x E.b d_Cov_take_48 rfl (lv_at hl 3 rfl) ?_
  refine lv_iconst (v := 1) E.x E.b d_Cov_take_49 (by decide) ?_
  refine lv_iadd E.x E.b d_Cov_take_50 ?_
  obtain ⟨c17, h⟩ := ck_some h
  refine ialC E w (k := 25) (by decide) c17 d_Cov_take_51 ?_
  refine lv_aload_n E.x E.b d_Cov_take_52 rfl (lv_at hl 0 rfl) ?_
  refine lv_iconst (v := 0) E.x E.b d_Cov_take_53 (by decide) ?_
  refine ialC E w (k := 25) (by decide) (show inb 0 8 by decide) d_Cov_take_54 ?_
  refine wi_e (v := σ15.2.2.1 25 0) rfl ?_
  refine lv_isub E.x E.b d_Cov_take_55 ?_
  refine lv_i2l (v := ((σ15.2.2.1 25 (x0 + 1).toNatClampNeg) - (σ15.2.2.1 25 0)).toInt64) E.x E.b d_Cov_take_56 rfl ?_
  refine lv_lmul E.x E.b d_Cov_take_57 ?_
  refine lv_aload_n E.x E.b d_Cov_take_58 rfl (lv_at hl 1 rfl) ?_
  refine lv_iload_n E.x E.b d_Cov_take_59 rfl (lv_at hl 3 rfl) ?_
  refine lv_iconst (v := 1) E.x E.b d_Cov_take_60 (by decide) ?_
  refine lv_iadd E.x E.b d_Cov_take_61 ?_
  obtain ⟨c18, h⟩ := ck_some h
  refine ialC E w (k := 24) (by decide) c18 d_Cov_take_62 ?_
  refine lv_aload_n E.x E.b d_Cov_take_63 rfl (lv_at hl 1 rfl) ?_
  refine lv_iconst (v := 0) E.x E.b d_Cov_take_64 (by decide) ?_
  refine ialC E w (k := 24) (by decide) (show inb 0 8 by decide) d_Cov_take_65 ?_
  refine wi_e (v := σ15.2.2.1 24 0) rfl ?_
  refine lv_isub E.x E.b d_Cov_take_66 ?_
  refine lv_i2l (v := ((σ15.2.2.1 24 (x0 + 1).toNatClampNeg) - (σ15.2.2.1 24 0)).toInt64) E.x E.b d_Cov_take_67 rfl ?_
  refine lv_aload_n E.x E.b d_Cov_take_68 rfl (lv_at hl 0 rfl) ?_
  refine lv_iload_n E.x E.b d_Cov_take_69 rfl (lv_at hl 3 rfl) ?_
  obtain ⟨c19, h⟩ := ck_some h
  refine ialC E w (k := 25) (by decide) c19 d_Cov_take_70 ?_
  refine lv_aload_n E.x E.b d_Cov_take_71 rfl (lv_at hl 0 rfl) ?_
  refine lv_iconst (v := 0) E.x E.b d_Cov_take_72 (by decide) ?_
  refine ialC E w (k := 25) (by decide) (show inb 0 8 by decide) d_Cov_take_73 ?_
  refine wi_e (v := σ15.2.2.1 25 0) rfl ?_
  refine lv_isub E.x E.b d_Cov_take_74 ?_
  refine lv_i2l (v := ((σ15.2.2.1 25 x0.toNatClampNeg) - (σ15.2.2.1 25 0)).toInt64) E.x E.b d_Cov_take_75 rfl ?_
  refine lv_lmul E.x E.b d_Cov_take_76 ?_
  refine lv_lsub E.x E.b d_Cov_take_77 ?_
  obtain ⟨y20, e_y20, h⟩ := lt_some h
  refine wl_e (v := y20) e_y20 ?_
  refine lv_lstore (lv' := [(4, .long y20), (3, .ref (ad 25)), (2, .ref (ad 24)), (0, .ref (ad 66)), (1, .int x0)]) E.x E.b d_Cov_take_78 hl (by decide) rfl (fun ls hl => ?_)
  refine lv_lload E.x E.b d_Cov_take_80 (lv_at hl 0 rfl) ?_
  refine lv_lconst (v := 0) E.x E.b d_Cov_take_82 (by decide) ?_
  refine W.lcmp E.x E.b d_Cov_take_83 ?_
  refine lv_if_ge (tgt := 103) E.x E.b d_Cov_take_84 (by decide) (fun c => ?_) (fun c => ?_)
  ·
    replace h := ifT (lgc_ge.mp c) h
    exact bt_Cov_take_103 E hret o σ15 y20 h w (lv_sub hl [3, 0] rfl)
  ·
    replace h := ifF (fun h9 => c (lgc_ge.mpr h9)) h
    refine lv_aload_n E.x E.b d_Cov_take_87 rfl (lv_at hl 3 rfl) ?_
    refine gC_Cov_who E w k333 d_Cov_take_88 ?_
    refine lv_iconst (v := 1) E.x E.b d_Cov_take_91 (by decide) ?_
    refine lv_iload_n E.x E.b d_Cov_take_92 rfl (lv_at hl 4 rfl) ?_
    refine lv_iconst (v := 1) E.x E.b d_Cov_take_93 (by decide) ?_
    refine lv_iadd E.x E.b d_Cov_take_94 ?_
    obtain ⟨σ21, e_σ21, h⟩ := lt_some h
    refine iasC E w (k := 28) (by decide) (show inb 1 3 by decide) e_σ21 d_Cov_take_95 (fun H locs w => ?_)
    refine lv_aload_n E.x E.b d_Cov_take_96 rfl (lv_at hl 3 rfl) ?_
    refine gC_Cov_who E w k333 d_Cov_take_97 ?_
    refine lv_iconst (v := 2) E.x E.b d_Cov_take_100 (by decide) ?_
    refine lv_iload_n E.x E.b d_Cov_take_101 rfl (lv_at hl 4 rfl) ?_
    obtain ⟨σ22, e_σ22, h⟩ := lt_some h
    refine iasC E w (k := 28) (by decide) (show inb 2 3 by decide) e_σ22 d_Cov_take_102 (fun H locs w => ?_)
    exact bt_Cov_take_103 E hret o σ22 y20 h w (lv_sub hl [3, 0] rfl)
theorem clV_Cov_take {p : Program} {l : Launch} {e : Env} {R : Room} {s : State} {m : MethodId} {args : Array Value} {below : List Frame} {meth : Method} {c : Code} {H : Heap} {locs : List Loc} {Q : State → Prop} {cc : ByteArray} {nL pc lev : Nat} {own : String} {D : va_G} {τ : ClassId × ClassId × ClassId} {B : Nat} {A : Nat → Prop} {σ : Sg} {ad : Nat → Nat} {ls : Array Slot} {rest : List Value} (E : Cx p R s m args meth c cc nL own lev D τ B A) (w : Wd s D A (wdC τ σ ad) H locs) {x0 : Int32} {o : Sg × Int64} (h : F_Cov_take σ x0 = some o) {index : Nat} (hlk : Cond.methodLink own index y_Cov_take ∈ tw) (hlev : 0 < lev) (hsz : ls.size = nL) (hr : (rest.map fun v => v.category).sum ≤ 8) (hd : decode cc pc = .ok (.invokevirtual index, 3)) (kk : ∀ (H1 : Heap) (locs1 : List Loc), Wd s D A (wdC τ o.1 ad) H1 locs1 → W p l e R s m args below meth c H1 locs1 0 0 Q (F0 m (pc + 3) ls (.long o.2 :: rest))) : W p l e R s m args below meth c H locs 0 0 Q (F0 m pc ls (.int x0 :: .ref (ad 66) :: rest)) :=
  cr_l w E.C (va_runV (As := [.int x0]) (rest := rest) E.fix (c_Cov_take l D τ B σ ad x0 o h H.size) (cwV 1 E.w (tw_pre (tw_good k1178) (l := [_, _, _, _]) (List.forall_mem_cons.mpr ⟨hlk, List.forall_mem_cons.mpr ⟨k1176, List.forall_mem_cons.mpr ⟨k1177, List.forall_mem_cons.mpr ⟨k12, fun _ h => absurd h List.not_mem_nil⟩⟩⟩⟩)) rfl rfl rfl (by decide +kernel) (E.rm hlev (by decide))) (wd_preV w E.C [.int x0] rcC_Cov rfl) rfl rfl hsz rfl (lv_room hr) hd ⟨Nat.zero_le _, Nat.zero_le _⟩) kk

theorem d_Cov_covers_0 : decode prog_4_method_7_code 0 = .ok (.iconst 0, 1) := by decide +kernel
theorem d_Cov_covers_1 : decode prog_4_method_7_code 1 = .ok (.istore_n 3, 1) := by decide +kernel
theorem d_Cov_covers_2 : decode prog_4_method_7_code 2 = .ok (.iload_n 3, 1) := by decide +kernel
theorem d_Cov_covers_3 : decode prog_4_method_7_code 3 = .ok (.iconst 3, 1) := by decide +kernel
theorem d_Cov_covers_4 : decode prog_4_method_7_code 4 = .ok (.if_icmp .ge 59, 3) := by decide +kernel
theorem d_Cov_covers_7 : decode prog_4_method_7_code 7 = .ok (.aload_n 0, 1) := by decide +kernel
theorem d_Cov_covers_8 : decode prog_4_method_7_code 8 = .ok (.getfield 28, 3) := by decide +kernel
theorem d_Cov_covers_11 : decode prog_4_method_7_code 11 = .ok (.iload_n 3, 1) := by decide +kernel
theorem d_Cov_covers_12 : decode prog_4_method_7_code 12 = .ok (.aload_n 0, 1) := by decide +kernel
theorem d_Cov_covers_13 : decode prog_4_method_7_code 13 = .ok (.getfield 15, 3) := by decide +kernel
theorem d_Cov_covers_16 : decode prog_4_method_7_code 16 = .ok (.iload_n 3, 1) := by decide +kernel
theorem d_Cov_covers_17 : decode prog_4_method_7_code 17 = .ok (.laload, 1) := by decide +kernel
theorem d_Cov_covers_18 : decode prog_4_method_7_code 18 = .ok (.iload_n 1, 1) := by decide +kernel
theorem d_Cov_covers_19 : decode prog_4_method_7_code 19 = .ok (.i2l, 1) := by decide +kernel
theorem d_Cov_covers_20 : decode prog_4_method_7_code 20 = .ok (.lmul, 1) := by decide +kernel
theorem d_Cov_covers_21 : decode prog_4_method_7_code 21 = .ok (.aload_n 0, 1) := by decide +kernel
theorem d_Cov_covers_22 : decode prog_4_method_7_code 22 = .ok (.getfield 19, 3) := by decide +kernel
theorem d_Cov_covers_25 : decode prog_4_method_7_code 25 = .ok (.iload_n 3, 1) := by decide +kernel
theorem d_Cov_covers_26 : decode prog_4_method_7_code 26 = .ok (.laload, 1) := by decide +kernel
theorem d_Cov_covers_27 : decode prog_4_method_7_code 27 = .ok (.iload_n 2, 1) := by decide +kernel
theorem d_Cov_covers_28 : decode prog_4_method_7_code 28 = .ok (.i2l, 1) := by decide +kernel
theorem d_Cov_covers_29 : decode prog_4_method_7_code 29 = .ok (.lmul, 1) := by decide +kernel
theorem d_Cov_covers_30 : decode prog_4_method_7_code 30 = .ok (.ladd, 1) := by decide +kernel
theorem d_Cov_covers_31 : decode prog_4_method_7_code 31 = .ok (.aload_n 0, 1) := by decide +kernel
theorem d_Cov_covers_32 : decode prog_4_method_7_code 32 = .ok (.getfield 22, 3) := by decide +kernel
theorem d_Cov_covers_35 : decode prog_4_method_7_code 35 = .ok (.iload_n 3, 1) := by decide +kernel
theorem d_Cov_covers_36 : decode prog_4_method_7_code 36 = .ok (.laload, 1) := by decide +kernel
theorem d_Cov_covers_37 : decode prog_4_method_7_code 37 = .ok (.ladd, 1) := by decide +kernel
theorem d_Cov_covers_38 : decode prog_4_method_7_code 38 = .ok (.lastore, 1) := by decide +kernel
theorem d_Cov_covers_39 : decode prog_4_method_7_code 39 = .ok (.aload_n 0, 1) := by decide +kernel
theorem d_Cov_covers_40 : decode prog_4_method_7_code 40 = .ok (.getfield 28, 3) := by decide +kernel
theorem d_Cov_covers_43 : decode prog_4_method_7_code 43 = .ok (.iload_n 3, 1) := by decide +kernel
theorem d_Cov_covers_44 : decode prog_4_method_7_code 44 = .ok (.laload, 1) := by decide +kernel
theorem d_Cov_covers_45 : decode prog_4_method_7_code 45 = .ok (.aload_n 0, 1) := by decide +kernel
theorem d_Cov_covers_46 : decode prog_4_method_7_code 46 = .ok (.getfield 25, 3) := by decide +kernel
theorem d_Cov_covers_49 : decode prog_4_method_7_code 49 = .ok (.iload_n 3, 1) := by decide +kernel
theorem d_Cov_covers_50 : decode prog_4_method_7_code 50 = .ok (.laload, 1) := by decide +kernel
theorem d_Cov_covers_51 : decode prog_4_method_7_code 51 = .ok (.lcmp, 1) := by decide +kernel
theorem d_Cov_covers_52 : decode prog_4_method_7_code 52 = .ok (.ifCond .ge 5, 3) := by decide +kernel
theorem d_Cov_covers_55 : decode prog_4_method_7_code 55 = .ok (.iconst 0, 1) := by decide +kernel
theorem d_Cov_covers_56 : decode prog_4_method_7_code 56 = .ok (.ireturn, 1) := by decide +kernel
theorem d_Cov_covers_57 : decode prog_4_method_7_code 57 = .ok (.iinc 3 1, 3) := by decide +kernel
theorem d_Cov_covers_60 : decode prog_4_method_7_code 60 = .ok (.goto (-58), 3) := by decide +kernel
theorem d_Cov_covers_63 : decode prog_4_method_7_code 63 = .ok (.aload_n 0, 1) := by decide +kernel
theorem d_Cov_covers_64 : decode prog_4_method_7_code 64 = .ok (.getfield 46, 3) := by decide +kernel
theorem d_Cov_covers_67 : decode prog_4_method_7_code 67 = .ok (.lconst 0, 1) := by decide +kernel
theorem d_Cov_covers_68 : decode prog_4_method_7_code 68 = .ok (.lcmp, 1) := by decide +kernel
theorem d_Cov_covers_69 : decode prog_4_method_7_code 69 = .ok (.ifCond .le 7, 3) := by decide +kernel
theorem d_Cov_covers_72 : decode prog_4_method_7_code 72 = .ok (.iconst 1, 1) := by decide +kernel
theorem d_Cov_covers_73 : decode prog_4_method_7_code 73 = .ok (.goto 4, 3) := by decide +kernel
theorem d_Cov_covers_76 : decode prog_4_method_7_code 76 = .ok (.iconst 0, 1) := by decide +kernel
theorem d_Cov_covers_77 : decode prog_4_method_7_code 77 = .ok (.ireturn, 1) := by decide +kernel
def F_Cov_covers_77 (σ : Sg) (s0 : Int32) : Option (Sg × Int32) := ck (s0 = 0 ∨ s0 = 1) (some (σ, s0))
set_option maxRecDepth 10000 in
set_option maxHeartbeats 4000000 in
theorem bt_Cov_covers_77 {p : Program} {l : Launch} {e : Env} {R : Room} {s : State} {m : MethodId} {args : Array Value} {below : List Frame} {meth : Method} {c : Code} {D : va_G} {τ : ClassId × ClassId × ClassId} {B : Nat} {A : Nat → Prop} {ad : Nat → Nat} (E : Cx p R s m args meth c prog_4_method_7_code 4 "DrawingMachine$Covering" 0 D τ B A) (hret : meth.sig.returnType = (some .boolean)) (o : Sg × Int32) (σ : Sg) (s0 : Int32) (h : F_Cov_covers_77 σ s0 = some o) {H : Heap} {locs : List Loc} {ls : Array Slot} (w : Wd s D A (wdC τ σ ad) H locs) (hl : lv_has ls 4 []) : W p l e R s m args below meth c H locs 0 0 (QI below args s A D τ (wdC τ o.1 ad) o.2) (F0 m 77 ls [.int s0]) := by
  obtain ⟨c10, h⟩ := ck_some h
  obtain rfl := Option.some.inj h
  exact rt_z E w hret c10 d_Cov_covers_77
def L_Cov_covers_2 : Nat → Sg → Int32 → Int32 → Int32 → Option (Sg × Int32)
  | 0, _, _, _, _ => none
  | n + 1, σ, v1, v2, v3 => if 3 ≤ v3 then (if (σ.2.1 2) ≤ 0 then (F_Cov_covers_77 σ 0) else (F_Cov_covers_77 σ 1)) else (ck (inb v3 3) (ck (inb v3 3) (ck (inb v3 3) (ck (inb v3 3) (lt (sB σ 5 (vp_updL (σ.2.2.2.1 5) v3.toNatClampNeg ((((σ.2.2.2.1 1 v3.toNatClampNeg) * v1.toInt64) + ((σ.2.2.2.1 2 v3.toNatClampNeg) * v2.toInt64)) + (σ.2.2.2.1 3 v3.toNatClampNeg)))) (fun σ15 => ck (inb v3 3) (ck (inb v3 3) (if (σ15.2.2.2.1 4 v3.toNatClampNeg) ≤ (σ15.2.2.2.1 5 v3.toNatClampNeg) then (lt (v3 + 1) (fun y18 => L_Cov_covers_2 n σ15 v1 v2 y18)) else (some (σ15, 0))))))))))
set_option maxRecDepth 10000 in
set_option maxHeartbeats 4000000 in
theorem lt_Cov_covers_2 {p : Program} {l : Launch} {e : Env} {R : Room} {s : State} {m : MethodId} {args : Array Value} {below : List Frame} {meth : Method} {c : Code} {D : va_G} {τ : ClassId × ClassId × ClassId} {B : Nat} {A : Nat → Prop} {ad : Nat → Nat} (E : Cx p R s m args meth c prog_4_method_7_code 4 "DrawingMachine$Covering" 0 D τ B A) (hret : meth.sig.returnType = (some .boolean)) (o : Sg × Int32) : ∀ (n : Nat) (σ : Sg) (v1 : Int32) (v2 : Int32) (v3 : Int32) (H : Heap) (locs : List Loc) (ls : Array Slot), L_Cov_covers_2 n σ v1 v2 v3 = some o → Wd s D A (wdC τ σ ad) H locs → lv_has ls 4 [(0, .ref (ad 66)), (1, .int v1), (2, .int v2), (3, .int v3)] → W p l e R s m args below meth c H locs 0 0 (QI below args s A D τ (wdC τ o.1 ad) o.2) (F0 m 2 ls []) := by
  intro n
  induction n with
  | zero =>
    intro σ v1 v2 v3 H locs ls h w hl
    cases h
  | succ n hr_2 =>
    intro σ v1 v2 v3 H locs ls h w hl
    refine lv_iload_n E.x E.b d_Cov_covers_2 rfl (lv_at hl 3 rfl) ?_
    refine lv_iconst (v := 3) E.x E.b d_Cov_covers_3 (by decide) ?_
    refine lv_icmp_ge (tgt := 63) E.x E.b d_Cov_covers_4 (by decide) (fun c => ?_) (fun c => ?_)
    ·
      replace h := ifT c h
      refine lv_aload_n E.x E.b d_Cov_covers_63 rfl (lv_at hl 0 rfl) ?_
      refine gC_Cov_area E w k340 d_Cov_covers_64 ?_
      refine lv_lconst (v := 0) E.x E.b d_Cov_covers_67 (by decide) ?_
      refine W.lcmp E.x E.b d_Cov_covers_68 ?_
      refine lv_if_le (tgt := 76) E.x E.b d_Cov_covers_69 (by decide) (fun c => ?_) (fun c => ?_)
      ·
        replace h := ifT (lgc_le.mp c) h
        refine lv_iconst (v := 0) E.x E.b d_Cov_covers_76 (by decide) ?_
        exact bt_Cov_covers_77 E hret o σ 0 h w (lv_sub hl [] rfl)
      ·
        replace h := ifF (fun h9 => c (lgc_le.mpr h9)) h
        refine lv_iconst (v := 1) E.x E.b d_Cov_covers_72 (by decide) ?_
        refine lv_goto (tgt := 77) E.x E.b d_Cov_covers_73 (by decide) ?_
        exact bt_Cov_covers_77 E hret o σ 1 h w (lv_sub hl [] rfl)
    ·
      replace h := ifF c h
      refine lv_aload_n E.x E.b d_Cov_covers_7 rfl (lv_at hl 0 rfl) ?_
      refine gC_Cov_weight E w k338 d_Cov_covers_8 ?_
      refine lv_iload_n E.x E.b d_Cov_covers_11 rfl (lv_at hl 3 rfl) ?_
      refine lv_aload_n E.x E.b d_Cov_covers_12 rfl (lv_at hl 0 rfl) ?_
      refine gC_Cov_along E w k334 d_Cov_covers_13 ?_
      refine lv_iload_n E.x E.b d_Cov_covers_16 rfl (lv_at hl 3 rfl) ?_
      obtain ⟨c11, h⟩ := ck_some h
      refine lalC_1 E w c11 d_Cov_covers_17 ?_
      refine lv_iload_n E.x E.b d_Cov_covers_18 rfl (lv_at hl 1 rfl) ?_
      refine lv_i2l (v := v1.toInt64) E.x E.b d_Cov_covers_19 rfl ?_
      refine lv_lmul E.x E.b d_Cov_covers_20 ?_
      refine lv_aload_n E.x E.b d_Cov_covers_21 rfl (lv_at hl 0 rfl) ?_
      refine gC_Cov_down E w k335 d_Cov_covers_22 ?_
      refine lv_iload_n E.x E.b d_Cov_covers_25 rfl (lv_at hl 3 rfl) ?_
      obtain ⟨c12, h⟩ := ck_some h
      refine lalC_2 E w c12 d_Cov_covers_26 ?_
      refine lv_iload_n E.x E.b d_Cov_covers_27 rfl (lv_at hl 2 rfl) ?_
      refine lv_i2l (v := v2.toInt64) E.x E.b d_Cov_covers_28 rfl ?_
      refine lv_lmul E.x E.b d_Cov_covers_29 ?_
      refine lv_ladd E.x E.b d_Cov_covers_30 ?_
      refine lv_aload_n E.x E.b d_Cov_covers_31 rfl (lv_at hl 0 rfl) ?_
      refine gC_Cov_start E w k336 d_Cov_covers_32 ?_
      refine lv_iload_n E.x E.b d_Cov_covers_35 rfl (lv_at hl 3 rfl) ?_
      obtain ⟨c13, h⟩ := ck_some h
      refine lalC_3 E w c13 d_Cov_covers_36 ?_
      refine lv_ladd E.x E.b d_Cov_covers_37 ?_
      obtain ⟨c14, h⟩ := ck_some h
      obtain ⟨σ15, e_σ15, h⟩ := lt_some h
      refine lasC_5 E w c14 e_σ15 d_Cov_covers_38 (fun H locs w => ?_)
      refine lv_aload_n E.x E.b d_Cov_covers_39 rfl (lv_at hl 0 rfl) ?_
      refine gC_Cov_weight E w k338 d_Cov_covers_40 ?_
      refine lv_iload_n E.x E.b d_Cov_covers_43 rfl (lv_at hl 3 rfl) ?_
      obtain ⟨c16, h⟩ := ck_some h
      refine lalC_5 E w c16 d_Cov_covers_44 ?_
      refine lv_aload_n E.x E.b d_Cov_covers_45 rfl (lv_at hl 0 rfl) ?_
      refine gC_Cov_least E w k337 d_Cov_covers_46 ?_
      refine lv_iload_n E.x E.b d_Cov_covers_49 rfl (lv_at hl 3 rfl) ?_
      obtain ⟨c17, h⟩ := ck_some h
      refine lalC_4 E w c17 d_Cov_covers_50 ?_
      refine W.lcmp E.x E.b d_Cov_covers_51 ?_
      refine lv_if_ge (tgt := 57) E.x E.b d_Cov_covers_52 (by decide) (fun c => ?_) (fun c => ?_)
      ·
        replace h := ifT (lgc_ge.mp c) h
        obtain ⟨y18, e_y18, h⟩ := lt_some h
        refine lv_iinc (v := y18) (lv' := [(3, .int y18), (0, .ref (ad 66)), (1, .int v1), (2, .int v2)]) E.x E.b d_Cov_covers_57 hl (k := 3) rfl (e_y18) (by decide) rfl (fun ls hl => ?_)
        refine lv_goto (tgt := 2) E.x E.b d_Cov_covers_60 (by decide) ?_
        exact hr_2 σ15 v1 v2 y18 _ _ _ h w (lv_sub hl [1, 2, 3, 0] rfl)
      ·
        replace h := ifF (fun h9 => c (lgc_ge.mpr h9)) h
        refine lv_iconst (v := 0) E.x E.b d_Cov_covers_55 (by decide) ?_
        obtain rfl := Option.some.inj h
        exact rt_z E w hret (show (0 : Int32) = 0 ∨ (0 : Int32) = 1 by decide) d_Cov_covers_56
def F_Cov_covers (σ : Sg) (x0 : Int32) (x1 : Int32) : Option (Sg × Int32) := L_Cov_covers_2 100000 σ x0 x1 0
set_option maxRecDepth 10000 in
set_option maxHeartbeats 4000000 in
theorem c_Cov_covers (l : Launch) (D : va_G) (τ : ClassId × ClassId × ClassId) (B : Nat) (σ : Sg) (ad : Nat → Nat) (x0 : Int32) (x1 : Int32) (o : Sg × Int32) (h : F_Cov_covers σ x0 x1 = some o) : MI l y_Cov_covers (Cond.code y_Cov_covers prog_4_method_7_code 4 (some .boolean)) 0 D τ B [.ref (ad 66), .int x0, .int x1] (wdC τ σ ad) (wdC τ o.1 ad) o.2 := by
  refine en_i (by decide) (Nat.le_of_ble_eq_true rfl) ?_
  intro p e R s m args below meth c H locs ls A E hret w hl
  have E : Cx p R s m args meth c prog_4_method_7_code 4 "DrawingMachine$Covering" 0 D τ B A := E
  have hl : lv_has ls 4 [(0, .ref (ad 66)), (1, .int x0), (2, .int x1)] := hl
  refine lv_iconst (v := 0) E.x E.b d_Cov_covers_0 (by decide) ?_
  refine lv_istore_n (lv' := [(3, .int 0), (0, .ref (ad 66)), (1, .int x0), (2, .int x1)]) E.x E.b d_Cov_covers_1 rfl hl (by decide) rfl (fun ls hl => ?_)
  exact lt_Cov_covers_2 E hret o 100000 σ x0 x1 0 _ _ _ h w (lv_sub hl [1, 2, 3, 0] rfl)
theorem clV_Cov_covers {p : Program} {l : Launch} {e : Env} {R : Room} {s : State} {m : MethodId} {args : Array Value} {below : List Frame} {meth : Method} {c : Code} {H : Heap} {locs : List Loc} {Q : State → Prop} {cc : ByteArray} {nL pc lev : Nat} {own : String} {D : va_G} {τ : ClassId × ClassId × ClassId} {B : Nat} {A : Nat → Prop} {σ : Sg} {ad : Nat → Nat} {ls : Array Slot} {rest : List Value} (E : Cx p R s m args meth c cc nL own lev D τ B A) (w : Wd s D A (wdC τ σ ad) H locs) {x0 : Int32} {x1 : Int32} {o : Sg × Int32} (h : F_Cov_covers σ x0 x1 = some o) {index : Nat} (hlk : Cond.methodLink own index y_Cov_covers ∈ tw) (hlev : 0 < lev) (hsz : ls.size = nL) (hr : (rest.map fun v => v.category).sum ≤ 8) (hd : decode cc pc = .ok (.invokevirtual index, 3)) (kk : ∀ (H1 : Heap) (locs1 : List Loc), Wd s D A (wdC τ o.1 ad) H1 locs1 → W p l e R s m args below meth c H1 locs1 0 0 Q (F0 m (pc + 3) ls (.int o.2 :: rest))) : W p l e R s m args below meth c H locs 0 0 Q (F0 m pc ls (.int x1 :: .int x0 :: .ref (ad 66) :: rest)) :=
  cr_i w E.C (va_runV (As := [.int x0, .int x1]) (rest := rest) E.fix (c_Cov_covers l D τ B σ ad x0 x1 o h H.size) (cwV 2 E.w (tw_pre (tw_good k1210) (l := [_, _, _, _]) (List.forall_mem_cons.mpr ⟨hlk, List.forall_mem_cons.mpr ⟨k1208, List.forall_mem_cons.mpr ⟨k1209, List.forall_mem_cons.mpr ⟨k12, fun _ h => absurd h List.not_mem_nil⟩⟩⟩⟩)) rfl rfl rfl (by decide +kernel) (E.rm hlev (by decide))) (wd_preV w E.C [.int x0, .int x1] rcC_Cov rfl) rfl rfl hsz rfl (lv_room hr) hd ⟨Nat.zero_le _, Nat.zero_le _⟩) kk

theorem d_Cov_depthThere_0 : decode prog_4_method_8_code 0 = .ok (.lconst 0, 1) := by decide +kernel
theorem d_Cov_depthThere_1 : decode prog_4_method_8_code 1 = .ok (.lstore_n 1, 1) := by decide +kernel
theorem d_Cov_depthThere_2 : decode prog_4_method_8_code 2 = .ok (.iconst 0, 1) := by decide +kernel
theorem d_Cov_depthThere_3 : decode prog_4_method_8_code 3 = .ok (.istore_n 3, 1) := by decide +kernel
theorem d_Cov_depthThere_4 : decode prog_4_method_8_code 4 = .ok (.iload_n 3, 1) := by decide +kernel
theorem d_Cov_depthThere_5 : decode prog_4_method_8_code 5 = .ok (.iconst 3, 1) := by decide +kernel
theorem d_Cov_depthThere_6 : decode prog_4_method_8_code 6 = .ok (.if_icmp .ge 34, 3) := by decide +kernel
theorem d_Cov_depthThere_9 : decode prog_4_method_8_code 9 = .ok (.lload_n 1, 1) := by decide +kernel
theorem d_Cov_depthThere_10 : decode prog_4_method_8_code 10 = .ok (.aload_n 0, 1) := by decide +kernel
theorem d_Cov_depthThere_11 : decode prog_4_method_8_code 11 = .ok (.getfield 28, 3) := by decide +kernel
theorem d_Cov_depthThere_14 : decode prog_4_method_8_code 14 = .ok (.iload_n 3, 1) := by decide +kernel
theorem d_Cov_depthThere_15 : decode prog_4_method_8_code 15 = .ok (.laload, 1) := by decide +kernel
theorem d_Cov_depthThere_16 : decode prog_4_method_8_code 16 = .ok (.aload_n 0, 1) := by decide +kernel
theorem d_Cov_depthThere_17 : decode prog_4_method_8_code 17 = .ok (.getfield 34, 3) := by decide +kernel
theorem d_Cov_depthThere_20 : decode prog_4_method_8_code 20 = .ok (.getfield 87, 3) := by decide +kernel
theorem d_Cov_depthThere_23 : decode prog_4_method_8_code 23 = .ok (.aload_n 0, 1) := by decide +kernel
theorem d_Cov_depthThere_24 : decode prog_4_method_8_code 24 = .ok (.getfield 9, 3) := by decide +kernel
theorem d_Cov_depthThere_27 : decode prog_4_method_8_code 27 = .ok (.iload_n 3, 1) := by decide +kernel
theorem d_Cov_depthThere_28 : decode prog_4_method_8_code 28 = .ok (.iaload, 1) := by decide +kernel
theorem d_Cov_depthThere_29 : decode prog_4_method_8_code 29 = .ok (.iaload, 1) := by decide +kernel
theorem d_Cov_depthThere_30 : decode prog_4_method_8_code 30 = .ok (.i2l, 1) := by decide +kernel
theorem d_Cov_depthThere_31 : decode prog_4_method_8_code 31 = .ok (.lmul, 1) := by decide +kernel
theorem d_Cov_depthThere_32 : decode prog_4_method_8_code 32 = .ok (.ladd, 1) := by decide +kernel
theorem d_Cov_depthThere_33 : decode prog_4_method_8_code 33 = .ok (.lstore_n 1, 1) := by decide +kernel
theorem d_Cov_depthThere_34 : decode prog_4_method_8_code 34 = .ok (.iinc 3 1, 3) := by decide +kernel
theorem d_Cov_depthThere_37 : decode prog_4_method_8_code 37 = .ok (.goto (-33), 3) := by decide +kernel
theorem d_Cov_depthThere_40 : decode prog_4_method_8_code 40 = .ok (.aload_n 0, 1) := by decide +kernel
theorem d_Cov_depthThere_41 : decode prog_4_method_8_code 41 = .ok (.getfield 46, 3) := by decide +kernel
theorem d_Cov_depthThere_44 : decode prog_4_method_8_code 44 = .ok (.lconst 0, 1) := by decide +kernel
theorem d_Cov_depthThere_45 : decode prog_4_method_8_code 45 = .ok (.lcmp, 1) := by decide +kernel
theorem d_Cov_depthThere_46 : decode prog_4_method_8_code 46 = .ok (.ifCond .ne 7, 3) := by decide +kernel
theorem d_Cov_depthThere_49 : decode prog_4_method_8_code 49 = .ok (.iconst 0, 1) := by decide +kernel
theorem d_Cov_depthThere_50 : decode prog_4_method_8_code 50 = .ok (.goto 10, 3) := by decide +kernel
theorem d_Cov_depthThere_53 : decode prog_4_method_8_code 53 = .ok (.lload_n 1, 1) := by decide +kernel
theorem d_Cov_depthThere_54 : decode prog_4_method_8_code 54 = .ok (.aload_n 0, 1) := by decide +kernel
theorem d_Cov_depthThere_55 : decode prog_4_method_8_code 55 = .ok (.getfield 46, 3) := by decide +kernel
theorem d_Cov_depthThere_58 : decode prog_4_method_8_code 58 = .ok (.ldiv, 1) := by decide +kernel
theorem d_Cov_depthThere_59 : decode prog_4_method_8_code 59 = .ok (.l2i, 1) := by decide +kernel
theorem d_Cov_depthThere_60 : decode prog_4_method_8_code 60 = .ok (.ireturn, 1) := by decide +kernel
def F_Cov_depthThere_60 (σ : Sg) (s0 : Int32) : Option (Int32) := some s0
set_option maxRecDepth 10000 in
set_option maxHeartbeats 4000000 in
theorem bt_Cov_depthThere_60 {p : Program} {l : Launch} {e : Env} {R : Room} {s : State} {m : MethodId} {args : Array Value} {below : List Frame} {meth : Method} {c : Code} {D : va_G} {τ : ClassId × ClassId × ClassId} {B : Nat} {A : Nat → Prop} {ad : Nat → Nat} (E : Cx p R s m args meth c prog_4_method_8_code 4 "DrawingMachine$Covering" 0 D τ B A) (hret : meth.sig.returnType = (some .int)) (o : Int32) (σ : Sg) (s0 : Int32) (h : F_Cov_depthThere_60 σ s0 = some o) {H : Heap} {locs : List Loc} {ls : Array Slot} (w : Wd s D A (wdC τ σ ad) H locs) (hl : lv_has ls 4 []) : W p l e R s m args below meth c H locs 0 0 (QI below args s A D τ (wdC τ σ ad) o) (F0 m 60 ls [.int s0]) := by
  obtain rfl := Option.some.inj h
  exact rt_i E w hret d_Cov_depthThere_60
def L_Cov_depthThere_4 : Nat → Sg → Int64 → Int32 → Option (Int32)
  | 0, _, _, _ => none
  | n + 1, σ, v1, v3 => if 3 ≤ v3 then (if (σ.2.1 2) = 0 then (F_Cov_depthThere_60 σ 0) else (ck (¬ (σ.2.1 2) = 0) (F_Cov_depthThere_60 σ ((v1 / (σ.2.1 2)).toInt32)))) else (ck (inb v3 3) (ck (inb v3 3) (ck (inb (σ.2.2.1 28 v3.toNatClampNeg) 8) (lt (v1 + ((σ.2.2.2.1 5 v3.toNatClampNeg) * ((σ.2.2.1 26 (σ.2.2.1 28 v3.toNatClampNeg).toNatClampNeg).toInt64))) (fun y11 => lt (v3 + 1) (fun y12 => L_Cov_depthThere_4 n σ y11 y12))))))
set_option maxRecDepth 10000 in
set_option maxHeartbeats 4000000 in
theorem lt_Cov_depthThere_4 {p : Program} {l : Launch} {e : Env} {R : Room} {s : State} {m : MethodId} {args : Array Value} {below : List Frame} {meth : Method} {c : Code} {D : va_G} {τ : ClassId × ClassId × ClassId} {B : Nat} {A : Nat → Prop} {ad : Nat → Nat} (E : Cx p R s m args meth c prog_4_method_8_code 4 "DrawingMachine$Covering" 0 D τ B A) (hret : meth.sig.returnType = (some .int)) (o : Int32) (σ : Sg) : ∀ (n : Nat) (v1 : Int64) (v3 : Int32) (H : Heap) (locs : List Loc) (ls : Array Slot), L_Cov_depthThere_4 n σ v1 v3 = some o → Wd s D A (wdC τ σ ad) H locs → lv_has ls 4 [(0, .ref (ad 66)), (1, .long v1), (3, .int v3)] → W p l e R s m args below meth c H locs 0 0 (QI below args s A D τ (wdC τ σ ad) o) (F0 m 4 ls []) := by
  intro n
  induction n with
  | zero =>
    intro v1 v3 H locs ls h w hl
    cases h
  | succ n hr_4 =>
    intro v1 v3 H locs ls h w hl
    refine lv_iload_n E.x E.b d_Cov_depthThere_4 rfl (lv_at hl 2 rfl) ?_
    refine lv_iconst (v := 3) E.x E.b d_Cov_depthThere_5 (by decide) ?_
    refine lv_icmp_ge (tgt := 40) E.x E.b d_Cov_depthThere_6 (by decide) (fun c => ?_) (fun c => ?_)
    ·
      replace h := ifT c h
      refine lv_aload_n E.x E.b d_Cov_depthThere_40 rfl (lv_at hl 0 rfl) ?_
      refine gC_Cov_area E w k340 d_Cov_depthThere_41 ?_
      refine lv_lconst (v := 0) E.x E.b d_Cov_depthThere_44 (by decide) ?_
      refine W.lcmp E.x E.b d_Cov_depthThere_45 ?_
      refine lv_if_ne (tgt := 53) E.x E.b d_Cov_depthThere_46 (by decide) (fun c => ?_) (fun c => ?_)
      ·
        replace h := ifF (fun h9 => c (lgc_eq.mpr h9)) h
        refine lv_lload_n E.x E.b d_Cov_depthThere_53 rfl (lv_at hl 1 rfl) ?_
        refine lv_aload_n E.x E.b d_Cov_depthThere_54 rfl (lv_at hl 0 rfl) ?_
        refine gC_Cov_area E w k340 d_Cov_depthThere_55 ?_
        obtain ⟨c7, h⟩ := ck_some h
        refine lv_ldiv E.x E.b d_Cov_depthThere_58 c7 ?_
        refine lv_l2i (v := (v1 / (σ.2.1 2)).toInt32) E.x E.b d_Cov_depthThere_59 rfl ?_
        exact bt_Cov_depthThere_60 E hret o σ ((v1 / (σ.2.1 2)).toInt32) h w (lv_sub hl [] rfl)
      ·
        replace h := ifT (lgc_eq.mp c) h
        refine lv_iconst (v := 0) E.x E.b d_Cov_depthThere_49 (by decide) ?_
        refine lv_goto (tgt := 60) E.x E.b d_Cov_depthThere_50 (by decide) ?_
        exact bt_Cov_depthThere_60 E hret o σ 0 h w (lv_sub hl [] rfl)
    ·
      replace h := ifF c h
      refine lv_lload_n E.x E.b d_Cov_depthThere_9 rfl (lv_at hl 1 rfl) ?_
      refine lv_aload_n E.x E.b d_Cov_depthThere_10 rfl (lv_at hl 0 rfl) ?_
      refine gC_Cov_weight E w k338 d_Cov_depthThere_11 ?_
      refine lv_iload_n E.x E.b d_Cov_depthThere_14 rfl (lv_at hl 2 rfl) ?_
      obtain ⟨c8, h⟩ := ck_some h
      refine lalC_5 E w c8 d_Cov_depthThere_15 ?_
      refine lv_aload_n E.x E.b d_Cov_depthThere_16 rfl (lv_at hl 0 rfl) ?_
      refine gC_Cov_shape E w k332 d_Cov_depthThere_17 ?_
      refine gC_Sha_depth E w k295 d_Cov_depthThere_20 ?_
      refine lv_aload_n E.x E.b d_Cov_depthThere_23 rfl (lv_at hl 0 rfl) ?_
      refine gC_Cov_who E w k333 d_Cov_depthThere_24 ?_
      refine lv_iload_n E.x E.b d_Cov_depthThere_27 rfl (lv_at hl 2 rfl) ?_
      obtain ⟨c9, h⟩ := ck_some h
      refine ialC E w (k := 28) (by decide) c9 d_Cov_depthThere_28 ?_
      obtain ⟨c10, h⟩ := ck_some h
      refine ialC E w (k := 26) (by decide) c10 d_Cov_depthThere_29 ?_
      refine lv_i2l (v := (σ.2.2.1 26 (σ.2.2.1 28 v3.toNatClampNeg).toNatClampNeg).toInt64) E.x E.b d_Cov_depthThere_30 rfl ?_
      refine lv_lmul E.x E.b d_Cov_depthThere_31 ?_
      refine lv_ladd E.x E.b d_Cov_depthThere_32 ?_
      obtain ⟨y11, e_y11, h⟩ := lt_some h
      refine wl_e (v := y11) e_y11 ?_
      refine lv_lstore_n (lv' := [(1, .long y11), (0, .ref (ad 66)), (3, .int v3)]) E.x E.b d_Cov_depthThere_33 rfl hl (by decide) rfl (fun ls hl => ?_)
      obtain ⟨y12, e_y12, h⟩ := lt_some h
      refine lv_iinc (v := y12) (lv' := [(3, .int y12), (1, .long y11), (0, .ref (ad 66))]) E.x E.b d_Cov_depthThere_34 hl (k := 2) rfl (e_y12) (by decide) rfl (fun ls hl => ?_)
      refine lv_goto (tgt := 4) E.x E.b d_Cov_depthThere_37 (by decide) ?_
      exact hr_4 y11 y12 _ _ _ h w (lv_sub hl [2, 1, 0] rfl)
def F_Cov_depthThere (σ : Sg) : Option (Int32) := L_Cov_depthThere_4 100000 σ 0 0
set_option maxRecDepth 10000 in
set_option maxHeartbeats 4000000 in
theorem c_Cov_depthThere (l : Launch) (D : va_G) (τ : ClassId × ClassId × ClassId) (B : Nat) (σ : Sg) (ad : Nat → Nat) (o : Int32) (h : F_Cov_depthThere σ = some o) : MI l y_Cov_depthThere (Cond.code y_Cov_depthThere prog_4_method_8_code 4 (some .int)) 0 D τ B [.ref (ad 66)] (wdC τ σ ad) (wdC τ σ ad) o := by
  refine en_i (by decide) (Nat.le_of_ble_eq_true rfl) ?_
  intro p e R s m args below meth c H locs ls A E hret w hl
  have E : Cx p R s m args meth c prog_4_method_8_code 4 "DrawingMachine$Covering" 0 D τ B A := E
  have hl : lv_has ls 4 [(0, .ref (ad 66))] := hl
  refine lv_lconst (v := 0) E.x E.b d_Cov_depthThere_0 (by decide) ?_
  refine lv_lstore_n (lv' := [(1, .long 0), (0, .ref (ad 66))]) E.x E.b d_Cov_depthThere_1 rfl hl (by decide) rfl (fun ls hl => ?_)
  refine lv_iconst (v := 0) E.x E.b d_Cov_depthThere_2 (by decide) ?_
  refine lv_istore_n (lv' := [(3, .int 0), (1, .long 0), (0, .ref (ad 66))]) E.x E.b d_Cov_depthThere_3 rfl hl (by decide) rfl (fun ls hl => ?_)
  exact lt_Cov_depthThere_4 E hret o σ 100000 0 0 _ _ _ h w (lv_sub hl [2, 1, 0] rfl)
theorem clV_Cov_depthThere {p : Program} {l : Launch} {e : Env} {R : Room} {s : State} {m : MethodId} {args : Array Value} {below : List Frame} {meth : Method} {c : Code} {H : Heap} {locs : List Loc} {Q : State → Prop} {cc : ByteArray} {nL pc lev : Nat} {own : String} {D : va_G} {τ : ClassId × ClassId × ClassId} {B : Nat} {A : Nat → Prop} {σ : Sg} {ad : Nat → Nat} {ls : Array Slot} {rest : List Value} (E : Cx p R s m args meth c cc nL own lev D τ B A) (w : Wd s D A (wdC τ σ ad) H locs) {o : Int32} (h : F_Cov_depthThere σ = some o) {index : Nat} (hlk : Cond.methodLink own index y_Cov_depthThere ∈ tw) (hlev : 0 < lev) (hsz : ls.size = nL) (hr : (rest.map fun v => v.category).sum ≤ 8) (hd : decode cc pc = .ok (.invokevirtual index, 3)) (kk : ∀ (H1 : Heap) (locs1 : List Loc), Wd s D A (wdC τ σ ad) H1 locs1 → W p l e R s m args below meth c H1 locs1 0 0 Q (F0 m (pc + 3) ls (.int o :: rest))) : W p l e R s m args below meth c H locs 0 0 Q (F0 m pc ls (.ref (ad 66) :: rest)) :=
  cr_i w E.C (va_runV (As := []) (rest := rest) E.fix (c_Cov_depthThere l D τ B σ ad o h H.size) (cwV 0 E.w (tw_pre (tw_good k1214) (l := [_, _, _, _]) (List.forall_mem_cons.mpr ⟨hlk, List.forall_mem_cons.mpr ⟨k1212, List.forall_mem_cons.mpr ⟨k1213, List.forall_mem_cons.mpr ⟨k12, fun _ h => absurd h List.not_mem_nil⟩⟩⟩⟩)) rfl rfl rfl (by decide +kernel) (E.rm hlev (by decide))) (wd_preV w E.C [] rcC_Cov rfl) rfl rfl hsz rfl (lv_room hr) hd ⟨Nat.zero_le _, Nat.zero_le _⟩) kk
