theorem d_DM_run_0 : decode prog_1_method_8_code 0 = .ok (.iload_n 1, 1) := by decide +kernel
theorem d_DM_run_1 : decode prog_1_method_8_code 1 = .ok (.ifCond .ge 13, 3) := by decide +kernel
theorem d_DM_run_4 : decode prog_1_method_8_code 4 = .ok (.new 74, 3) := by decide +kernel
theorem d_DM_run_14 : decode prog_1_method_8_code 14 = .ok (.aload_n 0, 1) := by decide +kernel
theorem d_DM_run_15 : decode prog_1_method_8_code 15 = .ok (.getfield 34, 3) := by decide +kernel
theorem d_DM_run_18 : decode prog_1_method_8_code 18 = .ok (.getfield 119, 3) := by decide +kernel
theorem d_DM_run_21 : decode prog_1_method_8_code 21 = .ok (.ifCond .eq 13, 3) := by decide +kernel
theorem d_DM_run_24 : decode prog_1_method_8_code 24 = .ok (.new 123, 3) := by decide +kernel
theorem d_DM_run_34 : decode prog_1_method_8_code 34 = .ok (.aload_n 0, 1) := by decide +kernel
theorem d_DM_run_35 : decode prog_1_method_8_code 35 = .ok (.getfield 34, 3) := by decide +kernel
theorem d_DM_run_38 : decode prog_1_method_8_code 38 = .ok (.getfield 128, 3) := by decide +kernel
theorem d_DM_run_41 : decode prog_1_method_8_code 41 = .ok (.istore_n 2, 1) := by decide +kernel
theorem d_DM_run_42 : decode prog_1_method_8_code 42 = .ok (.iconst 0, 1) := by decide +kernel
theorem d_DM_run_43 : decode prog_1_method_8_code 43 = .ok (.istore_n 3, 1) := by decide +kernel
theorem d_DM_run_44 : decode prog_1_method_8_code 44 = .ok (.iload_n 3, 1) := by decide +kernel
theorem d_DM_run_45 : decode prog_1_method_8_code 45 = .ok (.iload_n 1, 1) := by decide +kernel
theorem d_DM_run_46 : decode prog_1_method_8_code 46 = .ok (.if_icmp .ge 74, 3) := by decide +kernel
theorem d_DM_run_49 : decode prog_1_method_8_code 49 = .ok (.aload_n 0, 1) := by decide +kernel
theorem d_DM_run_50 : decode prog_1_method_8_code 50 = .ok (.getfield 34, 3) := by decide +kernel
theorem d_DM_run_53 : decode prog_1_method_8_code 53 = .ok (.getfield 119, 3) := by decide +kernel
theorem d_DM_run_56 : decode prog_1_method_8_code 56 = .ok (.ifCond .ne 64, 3) := by decide +kernel
theorem d_DM_run_59 : decode prog_1_method_8_code 59 = .ok (.aload_n 0, 1) := by decide +kernel
theorem d_DM_run_60 : decode prog_1_method_8_code 60 = .ok (.invokevirtual 131, 3) := by decide +kernel
theorem d_DM_run_63 : decode prog_1_method_8_code 63 = .ok (.istore 4, 2) := by decide +kernel
theorem d_DM_run_65 : decode prog_1_method_8_code 65 = .ok (.iload 4, 2) := by decide +kernel
theorem d_DM_run_67 : decode prog_1_method_8_code 67 = .ok (.ifCond .ne 38, 3) := by decide +kernel
theorem d_DM_run_70 : decode prog_1_method_8_code 70 = .ok (.aload_n 0, 1) := by decide +kernel
theorem d_DM_run_71 : decode prog_1_method_8_code 71 = .ok (.invokevirtual 135, 3) := by decide +kernel
theorem d_DM_run_74 : decode prog_1_method_8_code 74 = .ok (.ifCond .eq 25, 3) := by decide +kernel
theorem d_DM_run_77 : decode prog_1_method_8_code 77 = .ok (.aload_n 0, 1) := by decide +kernel
theorem d_DM_run_78 : decode prog_1_method_8_code 78 = .ok (.getfield 50, 3) := by decide +kernel
theorem d_DM_run_81 : decode prog_1_method_8_code 81 = .ok (.aload_n 0, 1) := by decide +kernel
theorem d_DM_run_82 : decode prog_1_method_8_code 82 = .ok (.getfield 34, 3) := by decide +kernel
theorem d_DM_run_85 : decode prog_1_method_8_code 85 = .ok (.aload_n 0, 1) := by decide +kernel
theorem d_DM_run_86 : decode prog_1_method_8_code 86 = .ok (.getfield 57, 3) := by decide +kernel
theorem d_DM_run_89 : decode prog_1_method_8_code 89 = .ok (.aload_n 0, 1) := by decide +kernel
theorem d_DM_run_90 : decode prog_1_method_8_code 90 = .ok (.getfield 61, 3) := by decide +kernel
theorem d_DM_run_93 : decode prog_1_method_8_code 93 = .ok (.invokevirtual 139, 3) := by decide +kernel
theorem d_DM_run_96 : decode prog_1_method_8_code 96 = .ok (.goto 7, 3) := by decide +kernel
theorem d_DM_run_99 : decode prog_1_method_8_code 99 = .ok (.aload_n 0, 1) := by decide +kernel
theorem d_DM_run_100 : decode prog_1_method_8_code 100 = .ok (.invokevirtual 143, 3) := by decide +kernel
theorem d_DM_run_103 : decode prog_1_method_8_code 103 = .ok (.istore 4, 2) := by decide +kernel
theorem d_DM_run_105 : decode prog_1_method_8_code 105 = .ok (.aload_n 0, 1) := by decide +kernel
theorem d_DM_run_106 : decode prog_1_method_8_code 106 = .ok (.getfield 34, 3) := by decide +kernel
theorem d_DM_run_109 : decode prog_1_method_8_code 109 = .ok (.iload 4, 2) := by decide +kernel
theorem d_DM_run_111 : decode prog_1_method_8_code 111 = .ok (.invokevirtual 146, 3) := by decide +kernel
theorem d_DM_run_114 : decode prog_1_method_8_code 114 = .ok (.iinc 3 1, 3) := by decide +kernel
theorem d_DM_run_117 : decode prog_1_method_8_code 117 = .ok (.goto (-73), 3) := by decide +kernel
theorem d_DM_run_120 : decode prog_1_method_8_code 120 = .ok (.aload_n 0, 1) := by decide +kernel
theorem d_DM_run_121 : decode prog_1_method_8_code 121 = .ok (.getfield 34, 3) := by decide +kernel
theorem d_DM_run_124 : decode prog_1_method_8_code 124 = .ok (.getfield 128, 3) := by decide +kernel
theorem d_DM_run_127 : decode prog_1_method_8_code 127 = .ok (.iload_n 2, 1) := by decide +kernel
theorem d_DM_run_128 : decode prog_1_method_8_code 128 = .ok (.isub, 1) := by decide +kernel
theorem d_DM_run_129 : decode prog_1_method_8_code 129 = .ok (.ireturn, 1) := by decide +kernel
def F_DM_run_120 (σ : Sg) (v2 : Int32) : Option (Sg × Int32) := some (σ, (σ.1 5) - v2)
set_option maxRecDepth 10000 in
set_option maxHeartbeats 4000000 in
theorem bt_DM_run_120 {p : Program} {l : Launch} {e : Env} {R : Room} {s : State} {m : MethodId} {args : Array Value} {below : List Frame} {meth : Method} {c : Code} {D : va_G} {τ : ClassId × ClassId × ClassId} {B : Nat} {A : Nat → Prop} {ad : Nat → Nat} (E : Cx p R s m args meth c prog_1_method_8_code 5 "DrawingMachine" 7 D τ B A) (hret : meth.sig.returnType = (some .int)) (o : Sg × Int32) (σ : Sg) (v2 : Int32) (h : F_DM_run_120 σ v2 = some o) {H : Heap} {locs : List Loc} {ls : Array Slot} (w : Wd s D A (wdC τ σ ad) H locs) (hl : lv_has ls 5 [(0, .ref (ad 56)), (2, .int v2)]) : W p l e R s m args below meth c H locs 0 0 (QI below args s A D τ (wdC τ o.1 ad) o.2) (F0 m 120 ls []) := by
  refine lv_aload_n E.x E.b d_DM_run_120 rfl (lv_at hl 0 rfl) ?_
  refine gC_DM_course E w k433 d_DM_run_121 ?_
  refine gC_Cou_done E w k121 d_DM_run_124 ?_
  refine lv_iload_n E.x E.b d_DM_run_127 rfl (lv_at hl 1 rfl) ?_
  refine lv_isub E.x E.b d_DM_run_128 ?_
  obtain rfl := Option.some.inj h
  exact rt_i E w hret d_DM_run_129
def F_DM_run_105 (rc_44 : Sg → Int32 → Int32 → Int32 → Option (Sg × Int32)) (σ : Sg) (v1 : Int32) (v2 : Int32) (v3 : Int32) (v4 : Int32) : Option (Sg × Int32) := bd (F_Cou_goOn σ v4) (fun o12 => lt (v3 + 1) (fun y13 => rc_44 o12 v1 v2 y13))
set_option maxRecDepth 10000 in
set_option maxHeartbeats 4000000 in
theorem bt_DM_run_105 {p : Program} {l : Launch} {e : Env} {R : Room} {s : State} {m : MethodId} {args : Array Value} {below : List Frame} {meth : Method} {c : Code} {D : va_G} {τ : ClassId × ClassId × ClassId} {B : Nat} {A : Nat → Prop} {ad : Nat → Nat} (E : Cx p R s m args meth c prog_1_method_8_code 5 "DrawingMachine" 7 D τ B A) (hret : meth.sig.returnType = (some .int)) (o : Sg × Int32) (rc_44 : Sg → Int32 → Int32 → Int32 → Option (Sg × Int32)) (hr_44 : ∀ (σ : Sg) (v1 : Int32) (v2 : Int32) (v3 : Int32) (H : Heap) (locs : List Loc) (ls : Array Slot), rc_44 σ v1 v2 v3 = some o → Wd s D A (wdC τ σ ad) H locs → lv_has ls 5 [(0, .ref (ad 56)), (1, .int v1), (2, .int v2), (3, .int v3)] → W p l e R s m args below meth c H locs 0 0 (QI below args s A D τ (wdC τ o.1 ad) o.2) (F0 m 44 ls [])) (σ : Sg) (v1 : Int32) (v2 : Int32) (v3 : Int32) (v4 : Int32) (h : F_DM_run_105 rc_44 σ v1 v2 v3 v4 = some o) {H : Heap} {locs : List Loc} {ls : Array Slot} (w : Wd s D A (wdC τ σ ad) H locs) (hl : lv_has ls 5 [(0, .ref (ad 56)), (1, .int v1), (2, .int v2), (3, .int v3), (4, .int v4)]) : W p l e R s m args below meth c H locs 0 0 (QI below args s A D τ (wdC τ o.1 ad) o.2) (F0 m 105 ls []) := by
  refine lv_aload_n E.x E.b d_DM_run_105 rfl (lv_at hl 0 rfl) ?_
  refine gC_DM_course E w k433 d_DM_run_106 ?_
  refine lv_iload E.x E.b d_DM_run_109 (lv_at hl 4 rfl) ?_
  obtain ⟨o12, h_o12, h⟩ := bd_some h
  refine clV_Cou_goOn E w (x0 := v4) h_o12 k1372 (by decide) hl.1 (Nat.le_of_ble_eq_true rfl) d_DM_run_111 (fun H locs w => ?_)
  obtain ⟨y13, e_y13, h⟩ := lt_some h
  refine lv_iinc (v := y13) (lv' := [(3, .int y13), (0, .ref (ad 56)), (1, .int v1), (2, .int v2), (4, .int v4)]) E.x E.b d_DM_run_114 hl (k := 3) rfl (e_y13) (by decide) rfl (fun ls hl => ?_)
  refine lv_goto (tgt := 44) E.x E.b d_DM_run_117 (by decide) ?_
  exact hr_44 o12 v1 v2 y13 _ _ _ h w (lv_sub hl [1, 2, 3, 0] rfl)
def F_DM_run_103 (rc_44 : Sg → Int32 → Int32 → Int32 → Option (Sg × Int32)) (σ : Sg) (v1 : Int32) (v2 : Int32) (v3 : Int32) (s0 : Int32) : Option (Sg × Int32) := F_DM_run_105 rc_44 σ v1 v2 v3 s0
set_option maxRecDepth 10000 in
set_option maxHeartbeats 4000000 in
theorem bt_DM_run_103 {p : Program} {l : Launch} {e : Env} {R : Room} {s : State} {m : MethodId} {args : Array Value} {below : List Frame} {meth : Method} {c : Code} {D : va_G} {τ : ClassId × ClassId × ClassId} {B : Nat} {A : Nat → Prop} {ad : Nat → Nat} (E : Cx p R s m args meth c prog_1_method_8_code 5 "DrawingMachine" 7 D τ B A) (hret : meth.sig.returnType = (some .int)) (o : Sg × Int32) (rc_44 : Sg → Int32 → Int32 → Int32 → Option (Sg × Int32)) (hr_44 : ∀ (σ : Sg) (v1 : Int32) (v2 : Int32) (v3 : Int32) (H : Heap) (locs : List Loc) (ls : Array Slot), rc_44 σ v1 v2 v3 = some o → Wd s D A (wdC τ σ ad) H locs → lv_has ls 5 [(0, .ref (ad 56)), (1, .int v1), (2, .int v2), (3, .int v3)] → W p l e R s m args below meth c H locs 0 0 (QI below args s A D τ (wdC τ o.1 ad) o.2) (F0 m 44 ls [])) (σ : Sg) (v1 : Int32) (v2 : Int32) (v3 : Int32) (s0 : Int32) (h : F_DM_run_103 rc_44 σ v1 v2 v3 s0 = some o) {H : Heap} {locs : List Loc} {ls : Array Slot} (w : Wd s D A (wdC τ σ ad) H locs) (hl : lv_has ls 5 [(0, .ref (ad 56)), (1, .int v1), (2, .int v2), (3, .int v3)]) : W p l e R s m args below meth c H locs 0 0 (QI below args s A D τ (wdC τ o.1 ad) o.2) (F0 m 103 ls [.int s0]) := by
  refine lv_istore (lv' := [(4, .int s0), (0, .ref (ad 56)), (1, .int v1), (2, .int v2), (3, .int v3)]) E.x E.b d_DM_run_103 hl (by decide) rfl (fun ls hl => ?_)
  exact bt_DM_run_105 E hret o rc_44 hr_44 σ v1 v2 v3 s0 h w (lv_sub hl [1, 2, 3, 4, 0] rfl)
def L_DM_run_44 : Nat → Sg → Int32 → Int32 → Int32 → Option (Sg × Int32)
  | 0, _, _, _, _ => none
  | n + 1, σ, v1, v2, v3 => if v1 ≤ v3 then (F_DM_run_120 σ v2) else (if (σ.1 9) = 0 then (bd (F_DM_refusal σ) (fun o14 => if o14.2 = 0 then (bd (F_DM_isDraw o14.1) (fun o15 => if o15 = 0 then (bd (F_DM_carryOut o14.1) (fun o16 => F_DM_run_103 (L_DM_run_44 n) o16.1 v1 v2 v3 o16.2)) else (lt (o14.1.2.2.2.2 2) (fun nn17 => ck (nn17 < 3) (lt (o14.1.2.2.2.2 3) (fun nn19 => ck (nn19 < 3) (bd (F_Drw_draw o14.1 nn17 nn19) (fun o21 => F_DM_run_103 (L_DM_run_44 n) o21.1 v1 v2 v3 o21.2)))))))) else (F_DM_run_105 (L_DM_run_44 n) o14.1 v1 v2 v3 o14.2))) else (F_DM_run_120 σ v2))
set_option maxRecDepth 10000 in
set_option maxHeartbeats 4000000 in
theorem lt_DM_run_44 {p : Program} {l : Launch} {e : Env} {R : Room} {s : State} {m : MethodId} {args : Array Value} {below : List Frame} {meth : Method} {c : Code} {D : va_G} {τ : ClassId × ClassId × ClassId} {B : Nat} {A : Nat → Prop} {ad : Nat → Nat} (E : Cx p R s m args meth c prog_1_method_8_code 5 "DrawingMachine" 7 D τ B A) (hret : meth.sig.returnType = (some .int)) (o : Sg × Int32) : ∀ (n : Nat) (σ : Sg) (v1 : Int32) (v2 : Int32) (v3 : Int32) (H : Heap) (locs : List Loc) (ls : Array Slot), L_DM_run_44 n σ v1 v2 v3 = some o → Wd s D A (wdC τ σ ad) H locs → lv_has ls 5 [(0, .ref (ad 56)), (1, .int v1), (2, .int v2), (3, .int v3)] → W p l e R s m args below meth c H locs 0 0 (QI below args s A D τ (wdC τ o.1 ad) o.2) (F0 m 44 ls []) := by
  intro n
  induction n with
  | zero =>
    intro σ v1 v2 v3 H locs ls h w hl
    cases h
  | succ n hr_44 =>
    intro σ v1 v2 v3 H locs ls h w hl
    refine lv_iload_n E.x E.b d_DM_run_44 rfl (lv_at hl 3 rfl) ?_
    refine lv_iload_n E.x E.b d_DM_run_45 rfl (lv_at hl 1 rfl) ?_
    refine lv_icmp_ge (tgt := 120) E.x E.b d_DM_run_46 (by decide) (fun c => ?_) (fun c => ?_)
    ·
      replace h := ifT c h
      exact bt_DM_run_120 E hret o σ v2 h w (lv_sub hl [0, 2] rfl)
    ·
      replace h := ifF c h
      refine lv_aload_n E.x E.b d_DM_run_49 rfl (lv_at hl 0 rfl) ?_
      refine gC_DM_course E w k433 d_DM_run_50 ?_
      refine gC_Cou_over E w k129 d_DM_run_53 ?_
      refine lv_if_ne (tgt := 120) E.x E.b d_DM_run_56 (by decide) (fun c => ?_) (fun c => ?_)
      ·
        replace h := ifF c h
        exact bt_DM_run_120 E hret o σ v2 h w (lv_sub hl [0, 2] rfl)
      ·
        replace h := ifT c h
        refine lv_aload_n E.x E.b d_DM_run_59 rfl (lv_at hl 0 rfl) ?_
        obtain ⟨o14, h_o14, h⟩ := bd_some h
        refine clV_DM_refusal E w h_o14 k933 (by decide) hl.1 (Nat.le_of_ble_eq_true rfl) d_DM_run_60 (fun H locs w => ?_)
        refine lv_istore (lv' := [(4, .int o14.2), (0, .ref (ad 56)), (1, .int v1), (2, .int v2), (3, .int v3)]) E.x E.b d_DM_run_63 hl (by decide) rfl (fun ls hl => ?_)
        refine lv_iload E.x E.b d_DM_run_65 (lv_at hl 0 rfl) ?_
        refine lv_if_ne (tgt := 105) E.x E.b d_DM_run_67 (by decide) (fun c => ?_) (fun c => ?_)
        ·
          replace h := ifF c h
          exact bt_DM_run_105 E hret o (L_DM_run_44 n) hr_44 o14.1 v1 v2 v3 o14.2 h w (lv_sub hl [1, 2, 3, 4, 0] rfl)
        ·
          replace h := ifT c h
          refine lv_aload_n E.x E.b d_DM_run_70 rfl (lv_at hl 1 rfl) ?_
          obtain ⟨o15, h_o15, h⟩ := bd_some h
          refine clV_DM_isDraw E w h_o15 k976 (by decide) hl.1 (Nat.le_of_ble_eq_true rfl) d_DM_run_71 (fun H locs w => ?_)
          refine lv_if_eq (tgt := 99) E.x E.b d_DM_run_74 (by decide) (fun c => ?_) (fun c => ?_)
          ·
            replace h := ifT c h
            refine lv_aload_n E.x E.b d_DM_run_99 rfl (lv_at hl 1 rfl) ?_
            obtain ⟨o16, h_o16, h⟩ := bd_some h
            refine clV_DM_carryOut E w h_o16 k1288 (by decide) hl.1 (Nat.le_of_ble_eq_true rfl) d_DM_run_100 (fun H locs w => ?_)
            exact bt_DM_run_103 E hret o (L_DM_run_44 n) hr_44 o16.1 v1 v2 v3 o16.2 h w (lv_sub hl [1, 2, 3, 4] rfl)
          ·
            replace h := ifF c h
            refine lv_aload_n E.x E.b d_DM_run_77 rfl (lv_at hl 1 rfl) ?_
            refine gC_DM_drawing E w k435 d_DM_run_78 ?_
            refine lv_aload_n E.x E.b d_DM_run_81 rfl (lv_at hl 1 rfl) ?_
            refine gC_DM_course E w k433 d_DM_run_82 ?_
            refine lv_aload_n E.x E.b d_DM_run_85 rfl (lv_at hl 1 rfl) ?_
            refine gC_DM_cornersProgram E w k436 d_DM_run_86 ?_
            obtain ⟨nn17, e_nn17, h⟩ := lt_some h
            refine wr_e (v := ad (67 + nn17)) (by rw [e_nn17]) ?_
            obtain ⟨c18, h⟩ := ck_some h
            refine lv_aload_n E.x E.b d_DM_run_89 rfl (lv_at hl 1 rfl) ?_
            refine gC_DM_placesProgram E w k437 d_DM_run_90 ?_
            obtain ⟨nn19, e_nn19, h⟩ := lt_some h
            refine wr_e (v := ad (67 + nn19)) (by rw [e_nn19]) ?_
            obtain ⟨c20, h⟩ := ck_some h
            obtain ⟨o21, h_o21, h⟩ := bd_some h
            refine clV_Drw_draw E w (p2 := nn17) (p3 := nn19) h_o21 k980 (by decide) hl.1 (Nat.le_of_ble_eq_true rfl) d_DM_run_93 (fun H locs w => ?_)
            refine lv_goto (tgt := 103) E.x E.b d_DM_run_96 (by decide) ?_
            exact bt_DM_run_103 E hret o (L_DM_run_44 n) hr_44 o21.1 v1 v2 v3 o21.2 h w (lv_sub hl [1, 2, 3, 4] rfl)
def F_DM_run (σ : Sg) (x0 : Int32) : Option (Sg × Int32) := if 0 ≤ x0 then (if (σ.1 9) = 0 then (lt (σ.1 5) (fun y22 => L_DM_run_44 100000 σ x0 y22 0)) else (none)) else (none)
set_option maxRecDepth 10000 in
set_option maxHeartbeats 4000000 in
theorem c_DM_run (l : Launch) (D : va_G) (τ : ClassId × ClassId × ClassId) (B : Nat) (σ : Sg) (ad : Nat → Nat) (x0 : Int32) (o : Sg × Int32) (h : F_DM_run σ x0 = some o) : MI l y_DM_run (Cond.code y_DM_run prog_1_method_8_code 5 (some .int)) 7 D τ B [.ref (ad 56), .int x0] (wdC τ σ ad) (wdC τ o.1 ad) o.2 := by
  refine en_i (by decide) (Nat.le_of_ble_eq_true rfl) ?_
  intro p e R s m args below meth c H locs ls A E hret w hl
  have E : Cx p R s m args meth c prog_1_method_8_code 5 "DrawingMachine" 7 D τ B A := E
  have hl : lv_has ls 5 [(0, .ref (ad 56)), (1, .int x0)] := hl
  refine lv_iload_n E.x E.b d_DM_run_0 rfl (lv_at hl 1 rfl) ?_
  refine lv_if_ge (tgt := 14) E.x E.b d_DM_run_1 (by decide) (fun c => ?_) (fun c => ?_)
  ·
    replace h := ifT c h
    refine lv_aload_n E.x E.b d_DM_run_14 rfl (lv_at hl 0 rfl) ?_
    refine gC_DM_course E w k433 d_DM_run_15 ?_
    refine gC_Cou_over E w k129 d_DM_run_18 ?_
    refine lv_if_eq (tgt := 34) E.x E.b d_DM_run_21 (by decide) (fun c => ?_) (fun c => ?_)
    ·
      replace h := ifT c h
      refine lv_aload_n E.x E.b d_DM_run_34 rfl (lv_at hl 0 rfl) ?_
      refine gC_DM_course E w k433 d_DM_run_35 ?_
      refine gC_Cou_done E w k121 d_DM_run_38 ?_
      obtain ⟨y22, e_y22, h⟩ := lt_some h
      refine wi_e (v := y22) e_y22 ?_
      refine lv_istore_n (lv' := [(2, .int y22), (0, .ref (ad 56)), (1, .int x0)]) E.x E.b d_DM_run_41 rfl hl (by decide) rfl (fun ls hl => ?_)
      refine lv_iconst (v := 0) E.x E.b d_DM_run_42 (by decide) ?_
      refine lv_istore_n (lv' := [(3, .int 0), (2, .int y22), (0, .ref (ad 56)), (1, .int x0)]) E.x E.b d_DM_run_43 rfl hl (by decide) rfl (fun ls hl => ?_)
      exact lt_DM_run_44 E hret o 100000 σ x0 y22 0 _ _ _ h w (lv_sub hl [2, 3, 1, 0] rfl)
    ·
      replace h := ifF c h
      cases h
  ·
    replace h := ifF c h
    cases h

theorem d_DM_about_0 : decode prog_1_method_9_code 0 = .ok (.iload_n 1, 1) := by decide +kernel
theorem d_DM_about_1 : decode prog_1_method_9_code 1 = .ok (.tableswitch 131 0 8 #[51, 67, 75, 83, 91, 99, 107, 115, 123], 51) := by decide +kernel
theorem d_DM_about_52 : decode prog_1_method_9_code 52 = .ok (.aload_n 0, 1) := by decide +kernel
theorem d_DM_about_53 : decode prog_1_method_9_code 53 = .ok (.getfield 34, 3) := by decide +kernel
theorem d_DM_about_56 : decode prog_1_method_9_code 56 = .ok (.getfield 119, 3) := by decide +kernel
theorem d_DM_about_59 : decode prog_1_method_9_code 59 = .ok (.ifCond .eq 7, 3) := by decide +kernel
theorem d_DM_about_62 : decode prog_1_method_9_code 62 = .ok (.iconst 1, 1) := by decide +kernel
theorem d_DM_about_63 : decode prog_1_method_9_code 63 = .ok (.goto 4, 3) := by decide +kernel
theorem d_DM_about_66 : decode prog_1_method_9_code 66 = .ok (.iconst 0, 1) := by decide +kernel
theorem d_DM_about_67 : decode prog_1_method_9_code 67 = .ok (.ireturn, 1) := by decide +kernel
theorem d_DM_about_68 : decode prog_1_method_9_code 68 = .ok (.aload_n 0, 1) := by decide +kernel
theorem d_DM_about_69 : decode prog_1_method_9_code 69 = .ok (.getfield 34, 3) := by decide +kernel
theorem d_DM_about_72 : decode prog_1_method_9_code 72 = .ok (.getfield 149, 3) := by decide +kernel
theorem d_DM_about_75 : decode prog_1_method_9_code 75 = .ok (.ireturn, 1) := by decide +kernel
theorem d_DM_about_76 : decode prog_1_method_9_code 76 = .ok (.aload_n 0, 1) := by decide +kernel
theorem d_DM_about_77 : decode prog_1_method_9_code 77 = .ok (.getfield 34, 3) := by decide +kernel
theorem d_DM_about_80 : decode prog_1_method_9_code 80 = .ok (.getfield 152, 3) := by decide +kernel
theorem d_DM_about_83 : decode prog_1_method_9_code 83 = .ok (.ireturn, 1) := by decide +kernel
theorem d_DM_about_84 : decode prog_1_method_9_code 84 = .ok (.aload_n 0, 1) := by decide +kernel
theorem d_DM_about_85 : decode prog_1_method_9_code 85 = .ok (.getfield 34, 3) := by decide +kernel
theorem d_DM_about_88 : decode prog_1_method_9_code 88 = .ok (.getfield 155, 3) := by decide +kernel
theorem d_DM_about_91 : decode prog_1_method_9_code 91 = .ok (.ireturn, 1) := by decide +kernel
theorem d_DM_about_92 : decode prog_1_method_9_code 92 = .ok (.aload_n 0, 1) := by decide +kernel
theorem d_DM_about_93 : decode prog_1_method_9_code 93 = .ok (.getfield 34, 3) := by decide +kernel
theorem d_DM_about_96 : decode prog_1_method_9_code 96 = .ok (.getfield 128, 3) := by decide +kernel
theorem d_DM_about_99 : decode prog_1_method_9_code 99 = .ok (.ireturn, 1) := by decide +kernel
theorem d_DM_about_100 : decode prog_1_method_9_code 100 = .ok (.aload_n 0, 1) := by decide +kernel
theorem d_DM_about_101 : decode prog_1_method_9_code 101 = .ok (.getfield 50, 3) := by decide +kernel
theorem d_DM_about_104 : decode prog_1_method_9_code 104 = .ok (.getfield 158, 3) := by decide +kernel
theorem d_DM_about_107 : decode prog_1_method_9_code 107 = .ok (.ireturn, 1) := by decide +kernel
theorem d_DM_about_108 : decode prog_1_method_9_code 108 = .ok (.aload_n 0, 1) := by decide +kernel
theorem d_DM_about_109 : decode prog_1_method_9_code 109 = .ok (.getfield 34, 3) := by decide +kernel
theorem d_DM_about_112 : decode prog_1_method_9_code 112 = .ok (.getfield 90, 3) := by decide +kernel
theorem d_DM_about_115 : decode prog_1_method_9_code 115 = .ok (.ireturn, 1) := by decide +kernel
theorem d_DM_about_116 : decode prog_1_method_9_code 116 = .ok (.aload_n 0, 1) := by decide +kernel
theorem d_DM_about_117 : decode prog_1_method_9_code 117 = .ok (.getfield 41, 3) := by decide +kernel
theorem d_DM_about_120 : decode prog_1_method_9_code 120 = .ok (.getfield 161, 3) := by decide +kernel
theorem d_DM_about_123 : decode prog_1_method_9_code 123 = .ok (.ireturn, 1) := by decide +kernel
theorem d_DM_about_124 : decode prog_1_method_9_code 124 = .ok (.aload_n 0, 1) := by decide +kernel
theorem d_DM_about_125 : decode prog_1_method_9_code 125 = .ok (.getfield 41, 3) := by decide +kernel
theorem d_DM_about_128 : decode prog_1_method_9_code 128 = .ok (.getfield 164, 3) := by decide +kernel
theorem d_DM_about_131 : decode prog_1_method_9_code 131 = .ok (.ireturn, 1) := by decide +kernel
theorem d_DM_about_132 : decode prog_1_method_9_code 132 = .ok (.new 74, 3) := by decide +kernel
def F_DM_about_67 (σ : Sg) (s0 : Int32) : Option (Int32) := some s0
set_option maxRecDepth 10000 in
set_option maxHeartbeats 4000000 in
theorem bt_DM_about_67 {p : Program} {l : Launch} {e : Env} {R : Room} {s : State} {m : MethodId} {args : Array Value} {below : List Frame} {meth : Method} {c : Code} {D : va_G} {τ : ClassId × ClassId × ClassId} {B : Nat} {A : Nat → Prop} {ad : Nat → Nat} (E : Cx p R s m args meth c prog_1_method_9_code 2 "DrawingMachine" 0 D τ B A) (hret : meth.sig.returnType = (some .int)) (o : Int32) (σ : Sg) (s0 : Int32) (h : F_DM_about_67 σ s0 = some o) {H : Heap} {locs : List Loc} {ls : Array Slot} (w : Wd s D A (wdC τ σ ad) H locs) (hl : lv_has ls 2 []) : W p l e R s m args below meth c H locs 0 0 (QI below args s A D τ (wdC τ σ ad) o) (F0 m 67 ls [.int s0]) := by
  obtain rfl := Option.some.inj h
  exact rt_i E w hret d_DM_about_67
def F_DM_about (σ : Sg) (x0 : Int32) : Option (Int32) := if x0 = 0 then (if (σ.1 9) = 0 then (F_DM_about_67 σ 0) else (F_DM_about_67 σ 1)) else (if x0 = 1 then (some (σ.1 6)) else (if x0 = 2 then (some (σ.1 7)) else (if x0 = 3 then (some (σ.1 8)) else (if x0 = 4 then (some (σ.1 5)) else (if x0 = 5 then (some (σ.1 15)) else (if x0 = 6 then (some (σ.1 2)) else (if x0 = 7 then (some (σ.1 12)) else (if x0 = 8 then (some (σ.1 13)) else (none)))))))))
set_option maxRecDepth 10000 in
set_option maxHeartbeats 4000000 in
theorem c_DM_about (l : Launch) (D : va_G) (τ : ClassId × ClassId × ClassId) (B : Nat) (σ : Sg) (ad : Nat → Nat) (x0 : Int32) (o : Int32) (h : F_DM_about σ x0 = some o) : MI l y_DM_about (Cond.code y_DM_about prog_1_method_9_code 2 (some .int)) 0 D τ B [.ref (ad 56), .int x0] (wdC τ σ ad) (wdC τ σ ad) o := by
  refine en_i (by decide) (Nat.le_of_ble_eq_true rfl) ?_
  intro p e R s m args below meth c H locs ls A E hret w hl
  have E : Cx p R s m args meth c prog_1_method_9_code 2 "DrawingMachine" 0 D τ B A := E
  have hl : lv_has ls 2 [(0, .ref (ad 56)), (1, .int x0)] := hl
  refine lv_iload_n E.x E.b d_DM_about_0 rfl (lv_at hl 1 rfl) ?_
  by_cases q10 : x0 = 0
  ·
    replace h := ifT q10 h
    refine wi_e (v := 0) q10 ?_
    refine lv_tableIn (off := 51) (tgt := 52) E.x E.b d_DM_about_1 (by decide) (by decide) (by decide) (by decide) ?_
    refine lv_aload_n E.x E.b d_DM_about_52 rfl (lv_at hl 0 rfl) ?_
    refine gC_DM_course E w k433 d_DM_about_53 ?_
    refine gC_Cou_over E w k129 d_DM_about_56 ?_
    refine lv_if_eq (tgt := 66) E.x E.b d_DM_about_59 (by decide) (fun c => ?_) (fun c => ?_)
    ·
      replace h := ifT c h
      refine lv_iconst (v := 0) E.x E.b d_DM_about_66 (by decide) ?_
      exact bt_DM_about_67 E hret o σ 0 h w (lv_sub hl [] rfl)
    ·
      replace h := ifF c h
      refine lv_iconst (v := 1) E.x E.b d_DM_about_62 (by decide) ?_
      refine lv_goto (tgt := 67) E.x E.b d_DM_about_63 (by decide) ?_
      exact bt_DM_about_67 E hret o σ 1 h w (lv_sub hl [] rfl)
  replace h := ifF q10 h
  replace q10 := ne_ti (k := 0) (by decide) q10
  by_cases q11 : x0 = 1
  ·
    replace h := ifT q11 h
    refine wi_e (v := 1) q11 ?_
    refine lv_tableIn (off := 67) (tgt := 68) E.x E.b d_DM_about_1 (by decide) (by decide) (by decide) (by decide) ?_
    refine lv_aload_n E.x E.b d_DM_about_68 rfl (lv_at hl 0 rfl) ?_
    refine gC_DM_course E w k433 d_DM_about_69 ?_
    refine gC_Cou_refused E w k123 d_DM_about_72 ?_
    obtain rfl := Option.some.inj h
    exact rt_i E w hret d_DM_about_75
  replace h := ifF q11 h
  replace q11 := ne_ti (k := 1) (by decide) q11
  by_cases q12 : x0 = 2
  ·
    replace h := ifT q12 h
    refine wi_e (v := 2) q12 ?_
    refine lv_tableIn (off := 75) (tgt := 76) E.x E.b d_DM_about_1 (by decide) (by decide) (by decide) (by decide) ?_
    refine lv_aload_n E.x E.b d_DM_about_76 rfl (lv_at hl 0 rfl) ?_
    refine gC_DM_course E w k433 d_DM_about_77 ?_
    refine gC_Cou_lastPlace E w k125 d_DM_about_80 ?_
    obtain rfl := Option.some.inj h
    exact rt_i E w hret d_DM_about_83
  replace h := ifF q12 h
  replace q12 := ne_ti (k := 2) (by decide) q12
  by_cases q13 : x0 = 3
  ·
    replace h := ifT q13 h
    refine wi_e (v := 3) q13 ?_
    refine lv_tableIn (off := 83) (tgt := 84) E.x E.b d_DM_about_1 (by decide) (by decide) (by decide) (by decide) ?_
    refine lv_aload_n E.x E.b d_DM_about_84 rfl (lv_at hl 0 rfl) ?_
    refine gC_DM_course E w k433 d_DM_about_85 ?_
    refine gC_Cou_lastDepth E w k127 d_DM_about_88 ?_
    obtain rfl := Option.some.inj h
    exact rt_i E w hret d_DM_about_91
  replace h := ifF q13 h
  replace q13 := ne_ti (k := 3) (by decide) q13
  by_cases q14 : x0 = 4
  ·
    replace h := ifT q14 h
    refine wi_e (v := 4) q14 ?_
    refine lv_tableIn (off := 91) (tgt := 92) E.x E.b d_DM_about_1 (by decide) (by decide) (by decide) (by decide) ?_
    refine lv_aload_n E.x E.b d_DM_about_92 rfl (lv_at hl 0 rfl) ?_
    refine gC_DM_course E w k433 d_DM_about_93 ?_
    refine gC_Cou_done E w k121 d_DM_about_96 ?_
    obtain rfl := Option.some.inj h
    exact rt_i E w hret d_DM_about_99
  replace h := ifF q14 h
  replace q14 := ne_ti (k := 4) (by decide) q14
  by_cases q15 : x0 = 5
  ·
    replace h := ifT q15 h
    refine wi_e (v := 5) q15 ?_
    refine lv_tableIn (off := 99) (tgt := 100) E.x E.b d_DM_about_1 (by decide) (by decide) (by decide) (by decide) ?_
    refine lv_aload_n E.x E.b d_DM_about_100 rfl (lv_at hl 0 rfl) ?_
    refine gC_DM_drawing E w k435 d_DM_about_101 ?_
    refine gC_Drw_openQuery E w k378 d_DM_about_104 ?_
    obtain rfl := Option.some.inj h
    exact rt_i E w hret d_DM_about_107
  replace h := ifF q15 h
  replace q15 := ne_ti (k := 5) (by decide) q15
  by_cases q16 : x0 = 6
  ·
    replace h := ifT q16 h
    refine wi_e (v := 6) q16 ?_
    refine lv_tableIn (off := 107) (tgt := 108) E.x E.b d_DM_about_1 (by decide) (by decide) (by decide) (by decide) ?_
    refine lv_aload_n E.x E.b d_DM_about_108 rfl (lv_at hl 0 rfl) ?_
    refine gC_DM_course E w k433 d_DM_about_109 ?_
    refine gC_Cou_words E w k114 d_DM_about_112 ?_
    obtain rfl := Option.some.inj h
    exact rt_i E w hret d_DM_about_115
  replace h := ifF q16 h
  replace q16 := ne_ti (k := 6) (by decide) q16
  by_cases q17 : x0 = 7
  ·
    replace h := ifT q17 h
    refine wi_e (v := 7) q17 ?_
    refine lv_tableIn (off := 115) (tgt := 116) E.x E.b d_DM_about_1 (by decide) (by decide) (by decide) (by decide) ?_
    refine lv_aload_n E.x E.b d_DM_about_116 rfl (lv_at hl 0 rfl) ?_
    refine gC_DM_checker E w k434 d_DM_about_117 ?_
    refine gC_Chk_fault E w k175 d_DM_about_120 ?_
    obtain rfl := Option.some.inj h
    exact rt_i E w hret d_DM_about_123
  replace h := ifF q17 h
  replace q17 := ne_ti (k := 7) (by decide) q17
  by_cases q18 : x0 = 8
  ·
    replace h := ifT q18 h
    refine wi_e (v := 8) q18 ?_
    refine lv_tableIn (off := 123) (tgt := 124) E.x E.b d_DM_about_1 (by decide) (by decide) (by decide) (by decide) ?_
    refine lv_aload_n E.x E.b d_DM_about_124 rfl (lv_at hl 0 rfl) ?_
    refine gC_DM_checker E w k434 d_DM_about_125 ?_
    refine gC_Chk_place E w k177 d_DM_about_128 ?_
    obtain rfl := Option.some.inj h
    exact rt_i E w hret d_DM_about_131
  replace h := ifF q18 h
  replace q18 := ne_ti (k := 8) (by decide) q18
  refine lv_tableOut (tgt := 132) E.x E.b d_DM_about_1 (by omega) (by decide) ?_
  cases h

theorem d_DM_at_0 : decode prog_1_method_10_code 0 = .ok (.iload_n 3, 1) := by decide +kernel
theorem d_DM_at_1 : decode prog_1_method_10_code 1 = .ok (.ifCond .lt 8, 3) := by decide +kernel
theorem d_DM_at_4 : decode prog_1_method_10_code 4 = .ok (.iload_n 3, 1) := by decide +kernel
theorem d_DM_at_5 : decode prog_1_method_10_code 5 = .ok (.iconst 2, 1) := by decide +kernel
theorem d_DM_at_6 : decode prog_1_method_10_code 6 = .ok (.if_icmp .le 13, 3) := by decide +kernel
theorem d_DM_at_9 : decode prog_1_method_10_code 9 = .ok (.new 74, 3) := by decide +kernel
theorem d_DM_at_19 : decode prog_1_method_10_code 19 = .ok (.iload_n 1, 1) := by decide +kernel
theorem d_DM_at_20 : decode prog_1_method_10_code 20 = .ok (.ifCond .lt 29, 3) := by decide +kernel
theorem d_DM_at_23 : decode prog_1_method_10_code 23 = .ok (.iload_n 1, 1) := by decide +kernel
theorem d_DM_at_24 : decode prog_1_method_10_code 24 = .ok (.aload_n 0, 1) := by decide +kernel
theorem d_DM_at_25 : decode prog_1_method_10_code 25 = .ok (.getfield 25, 3) := by decide +kernel
theorem d_DM_at_28 : decode prog_1_method_10_code 28 = .ok (.getfield 171, 3) := by decide +kernel
theorem d_DM_at_31 : decode prog_1_method_10_code 31 = .ok (.if_icmp .ge 18, 3) := by decide +kernel
theorem d_DM_at_34 : decode prog_1_method_10_code 34 = .ok (.iload_n 2, 1) := by decide +kernel
theorem d_DM_at_35 : decode prog_1_method_10_code 35 = .ok (.ifCond .lt 14, 3) := by decide +kernel
theorem d_DM_at_38 : decode prog_1_method_10_code 38 = .ok (.iload_n 2, 1) := by decide +kernel
theorem d_DM_at_39 : decode prog_1_method_10_code 39 = .ok (.aload_n 0, 1) := by decide +kernel
theorem d_DM_at_40 : decode prog_1_method_10_code 40 = .ok (.getfield 25, 3) := by decide +kernel
theorem d_DM_at_43 : decode prog_1_method_10_code 43 = .ok (.getfield 174, 3) := by decide +kernel
theorem d_DM_at_46 : decode prog_1_method_10_code 46 = .ok (.if_icmp .lt 13, 3) := by decide +kernel
theorem d_DM_at_49 : decode prog_1_method_10_code 49 = .ok (.new 85, 3) := by decide +kernel
theorem d_DM_at_59 : decode prog_1_method_10_code 59 = .ok (.aload_n 0, 1) := by decide +kernel
theorem d_DM_at_60 : decode prog_1_method_10_code 60 = .ok (.getfield 25, 3) := by decide +kernel
theorem d_DM_at_63 : decode prog_1_method_10_code 63 = .ok (.iload_n 3, 1) := by decide +kernel
theorem d_DM_at_64 : decode prog_1_method_10_code 64 = .ok (.invokevirtual 179, 3) := by decide +kernel
theorem d_DM_at_67 : decode prog_1_method_10_code 67 = .ok (.iload_n 2, 1) := by decide +kernel
theorem d_DM_at_68 : decode prog_1_method_10_code 68 = .ok (.aload_n 0, 1) := by decide +kernel
theorem d_DM_at_69 : decode prog_1_method_10_code 69 = .ok (.getfield 25, 3) := by decide +kernel
theorem d_DM_at_72 : decode prog_1_method_10_code 72 = .ok (.getfield 171, 3) := by decide +kernel
theorem d_DM_at_75 : decode prog_1_method_10_code 75 = .ok (.imul, 1) := by decide +kernel
theorem d_DM_at_76 : decode prog_1_method_10_code 76 = .ok (.iload_n 1, 1) := by decide +kernel
theorem d_DM_at_77 : decode prog_1_method_10_code 77 = .ok (.iadd, 1) := by decide +kernel
theorem d_DM_at_78 : decode prog_1_method_10_code 78 = .ok (.iaload, 1) := by decide +kernel
theorem d_DM_at_79 : decode prog_1_method_10_code 79 = .ok (.ireturn, 1) := by decide +kernel
def F_DM_at_49 (σ : Sg) : Option (Int32) := none
set_option maxRecDepth 10000 in
set_option maxHeartbeats 4000000 in
theorem bt_DM_at_49 {p : Program} {l : Launch} {e : Env} {R : Room} {s : State} {m : MethodId} {args : Array Value} {below : List Frame} {meth : Method} {c : Code} {D : va_G} {τ : ClassId × ClassId × ClassId} {B : Nat} {A : Nat → Prop} {ad : Nat → Nat} (E : Cx p R s m args meth c prog_1_method_10_code 4 "DrawingMachine" 1 D τ B A) (hret : meth.sig.returnType = (some .int)) (o : Int32) (σ : Sg) (h : F_DM_at_49 σ = some o) {H : Heap} {locs : List Loc} {ls : Array Slot} (w : Wd s D A (wdC τ σ ad) H locs) (hl : lv_has ls 4 []) : W p l e R s m args below meth c H locs 0 0 (QI below args s A D τ (wdC τ σ ad) o) (F0 m 49 ls []) := by
  cases h
def F_DM_at_9 (σ : Sg) : Option (Int32) := none
set_option maxRecDepth 10000 in
set_option maxHeartbeats 4000000 in
theorem bt_DM_at_9 {p : Program} {l : Launch} {e : Env} {R : Room} {s : State} {m : MethodId} {args : Array Value} {below : List Frame} {meth : Method} {c : Code} {D : va_G} {τ : ClassId × ClassId × ClassId} {B : Nat} {A : Nat → Prop} {ad : Nat → Nat} (E : Cx p R s m args meth c prog_1_method_10_code 4 "DrawingMachine" 1 D τ B A) (hret : meth.sig.returnType = (some .int)) (o : Int32) (σ : Sg) (h : F_DM_at_9 σ = some o) {H : Heap} {locs : List Loc} {ls : Array Slot} (w : Wd s D A (wdC τ σ ad) H locs) (hl : lv_has ls 4 []) : W p l e R s m args below meth c H locs 0 0 (QI below args s A D τ (wdC τ σ ad) o) (F0 m 9 ls []) := by
  cases h
def F_DM_at (σ : Sg) (x0 : Int32) (x1 : Int32) (x2 : Int32) : Option (Int32) := if x2 < 0 then (F_DM_at_9 σ) else (if x2 ≤ 2 then (if x0 < 0 then (F_DM_at_49 σ) else (if (σ.1 0) ≤ x0 then (F_DM_at_49 σ) else (if x1 < 0 then (F_DM_at_49 σ) else (if x1 < (σ.1 1) then (bd (F_Pic_rowOf σ x2) (fun o5 => lt (o5) (fun ar_6 => ck (ar_6 < 47) (ck (inb ((x1 * (σ.1 0)) + x0) (lenC σ ar_6)) (some (σ.2.2.1 ar_6 ((x1 * (σ.1 0)) + x0).toNatClampNeg)))))) else (F_DM_at_49 σ))))) else (F_DM_at_9 σ))
set_option maxRecDepth 10000 in
set_option maxHeartbeats 4000000 in
theorem c_DM_at (l : Launch) (D : va_G) (τ : ClassId × ClassId × ClassId) (B : Nat) (σ : Sg) (ad : Nat → Nat) (x0 : Int32) (x1 : Int32) (x2 : Int32) (o : Int32) (h : F_DM_at σ x0 x1 x2 = some o) : MI l y_DM_at (Cond.code y_DM_at prog_1_method_10_code 4 (some .int)) 1 D τ B [.ref (ad 56), .int x0, .int x1, .int x2] (wdC τ σ ad) (wdC τ σ ad) o := by
  refine en_i (by decide) (Nat.le_of_ble_eq_true rfl) ?_
  intro p e R s m args below meth c H locs ls A E hret w hl
  have E : Cx p R s m args meth c prog_1_method_10_code 4 "DrawingMachine" 1 D τ B A := E
  have hl : lv_has ls 4 [(0, .ref (ad 56)), (1, .int x0), (2, .int x1), (3, .int x2)] := hl
  refine lv_iload_n E.x E.b d_DM_at_0 rfl (lv_at hl 3 rfl) ?_
  refine lv_if_lt (tgt := 9) E.x E.b d_DM_at_1 (by decide) (fun c => ?_) (fun c => ?_)
  ·
    replace h := ifT c h
    exact bt_DM_at_9 E hret o σ h w (lv_sub hl [] rfl)
  ·
    replace h := ifF c h
    refine lv_iload_n E.x E.b d_DM_at_4 rfl (lv_at hl 3 rfl) ?_
    refine lv_iconst (v := 2) E.x E.b d_DM_at_5 (by decide) ?_
    refine lv_icmp_le (tgt := 19) E.x E.b d_DM_at_6 (by decide) (fun c => ?_) (fun c => ?_)
    ·
      replace h := ifT c h
      refine lv_iload_n E.x E.b d_DM_at_19 rfl (lv_at hl 1 rfl) ?_
      refine lv_if_lt (tgt := 49) E.x E.b d_DM_at_20 (by decide) (fun c => ?_) (fun c => ?_)
      ·
        replace h := ifT c h
        exact bt_DM_at_49 E hret o σ h w (lv_sub hl [] rfl)
      ·
        replace h := ifF c h
        refine lv_iload_n E.x E.b d_DM_at_23 rfl (lv_at hl 1 rfl) ?_
        refine lv_aload_n E.x E.b d_DM_at_24 rfl (lv_at hl 0 rfl) ?_
        refine gC_DM_picture E w k432 d_DM_at_25 ?_
        refine gC_Pic_wide E w k80 d_DM_at_28 ?_
        refine lv_icmp_ge (tgt := 49) E.x E.b d_DM_at_31 (by decide) (fun c => ?_) (fun c => ?_)
        ·
          replace h := ifT c h
          exact bt_DM_at_49 E hret o σ h w (lv_sub hl [] rfl)
        ·
          replace h := ifF c h
          refine lv_iload_n E.x E.b d_DM_at_34 rfl (lv_at hl 2 rfl) ?_
          refine lv_if_lt (tgt := 49) E.x E.b d_DM_at_35 (by decide) (fun c => ?_) (fun c => ?_)
          ·
            replace h := ifT c h
            exact bt_DM_at_49 E hret o σ h w (lv_sub hl [] rfl)
          ·
            replace h := ifF c h
            refine lv_iload_n E.x E.b d_DM_at_38 rfl (lv_at hl 2 rfl) ?_
            refine lv_aload_n E.x E.b d_DM_at_39 rfl (lv_at hl 0 rfl) ?_
            refine gC_DM_picture E w k432 d_DM_at_40 ?_
            refine gC_Pic_high E w k83 d_DM_at_43 ?_
            refine lv_icmp_lt (tgt := 59) E.x E.b d_DM_at_46 (by decide) (fun c => ?_) (fun c => ?_)
            ·
              replace h := ifT c h
              refine lv_aload_n E.x E.b d_DM_at_59 rfl (lv_at hl 0 rfl) ?_
              refine gC_DM_picture E w k432 d_DM_at_60 ?_
              refine lv_iload_n E.x E.b d_DM_at_63 rfl (lv_at hl 3 rfl) ?_
              obtain ⟨o5, h_o5, h⟩ := bd_some h
              refine clV_Pic_rowOf E w (x0 := x2) h_o5 k1355 (by decide) hl.1 (Nat.le_of_ble_eq_true rfl) d_DM_at_64 (fun H locs w => ?_)
              obtain ⟨ar_6, e_ar_6, h⟩ := lt_some h
              refine wr_e (v := ad ar_6) (by rw [e_ar_6]) ?_
              obtain ⟨c7, h⟩ := ck_some h
              refine lv_iload_n E.x E.b d_DM_at_67 rfl (lv_at hl 2 rfl) ?_
              refine lv_aload_n E.x E.b d_DM_at_68 rfl (lv_at hl 0 rfl) ?_
              refine gC_DM_picture E w k432 d_DM_at_69 ?_
              refine gC_Pic_wide E w k80 d_DM_at_72 ?_
              refine lv_imul E.x E.b d_DM_at_75 ?_
              refine lv_iload_n E.x E.b d_DM_at_76 rfl (lv_at hl 1 rfl) ?_
              refine lv_iadd E.x E.b d_DM_at_77 ?_
              obtain ⟨c8, h⟩ := ck_some h
              refine ialC E w (k := ar_6) c7 c8 d_DM_at_78 ?_
              obtain rfl := Option.some.inj h
              exact rt_i E w hret d_DM_at_79
            ·
              replace h := ifF c h
              exact bt_DM_at_49 E hret o σ h w (lv_sub hl [] rfl)
    ·
      replace h := ifF c h
      exact bt_DM_at_9 E hret o σ h w (lv_sub hl [] rfl)

theorem d_DM_sum_0 : decode prog_1_method_11_code 0 = .ok (.iload_n 1, 1) := by decide +kernel
theorem d_DM_sum_1 : decode prog_1_method_11_code 1 = .ok (.ifCond .lt 8, 3) := by decide +kernel
theorem d_DM_sum_4 : decode prog_1_method_11_code 4 = .ok (.iload_n 1, 1) := by decide +kernel
theorem d_DM_sum_5 : decode prog_1_method_11_code 5 = .ok (.iconst 2, 1) := by decide +kernel
theorem d_DM_sum_6 : decode prog_1_method_11_code 6 = .ok (.if_icmp .le 13, 3) := by decide +kernel
theorem d_DM_sum_9 : decode prog_1_method_11_code 9 = .ok (.new 74, 3) := by decide +kernel
theorem d_DM_sum_19 : decode prog_1_method_11_code 19 = .ok (.aload_n 0, 1) := by decide +kernel
theorem d_DM_sum_20 : decode prog_1_method_11_code 20 = .ok (.getfield 25, 3) := by decide +kernel
theorem d_DM_sum_23 : decode prog_1_method_11_code 23 = .ok (.iload_n 1, 1) := by decide +kernel
theorem d_DM_sum_24 : decode prog_1_method_11_code 24 = .ok (.invokevirtual 179, 3) := by decide +kernel
theorem d_DM_sum_27 : decode prog_1_method_11_code 27 = .ok (.astore_n 2, 1) := by decide +kernel
theorem d_DM_sum_28 : decode prog_1_method_11_code 28 = .ok (.aload_n 0, 1) := by decide +kernel
theorem d_DM_sum_29 : decode prog_1_method_11_code 29 = .ok (.getfield 25, 3) := by decide +kernel
theorem d_DM_sum_32 : decode prog_1_method_11_code 32 = .ok (.getfield 171, 3) := by decide +kernel
theorem d_DM_sum_35 : decode prog_1_method_11_code 35 = .ok (.aload_n 0, 1) := by decide +kernel
theorem d_DM_sum_36 : decode prog_1_method_11_code 36 = .ok (.getfield 25, 3) := by decide +kernel
theorem d_DM_sum_39 : decode prog_1_method_11_code 39 = .ok (.getfield 174, 3) := by decide +kernel
theorem d_DM_sum_42 : decode prog_1_method_11_code 42 = .ok (.imul, 1) := by decide +kernel
theorem d_DM_sum_43 : decode prog_1_method_11_code 43 = .ok (.istore_n 3, 1) := by decide +kernel
theorem d_DM_sum_44 : decode prog_1_method_11_code 44 = .ok (.iconst 0, 1) := by decide +kernel
theorem d_DM_sum_45 : decode prog_1_method_11_code 45 = .ok (.istore 4, 2) := by decide +kernel
theorem d_DM_sum_47 : decode prog_1_method_11_code 47 = .ok (.iconst 0, 1) := by decide +kernel
theorem d_DM_sum_48 : decode prog_1_method_11_code 48 = .ok (.istore 5, 2) := by decide +kernel
theorem d_DM_sum_50 : decode prog_1_method_11_code 50 = .ok (.iload 5, 2) := by decide +kernel
theorem d_DM_sum_52 : decode prog_1_method_11_code 52 = .ok (.iload_n 3, 1) := by decide +kernel
theorem d_DM_sum_53 : decode prog_1_method_11_code 53 = .ok (.if_icmp .ge 21, 3) := by decide +kernel
theorem d_DM_sum_56 : decode prog_1_method_11_code 56 = .ok (.bipush 31, 2) := by decide +kernel
theorem d_DM_sum_58 : decode prog_1_method_11_code 58 = .ok (.iload 4, 2) := by decide +kernel
theorem d_DM_sum_60 : decode prog_1_method_11_code 60 = .ok (.imul, 1) := by decide +kernel
theorem d_DM_sum_61 : decode prog_1_method_11_code 61 = .ok (.aload_n 2, 1) := by decide +kernel
theorem d_DM_sum_62 : decode prog_1_method_11_code 62 = .ok (.iload 5, 2) := by decide +kernel
theorem d_DM_sum_64 : decode prog_1_method_11_code 64 = .ok (.iaload, 1) := by decide +kernel
theorem d_DM_sum_65 : decode prog_1_method_11_code 65 = .ok (.iadd, 1) := by decide +kernel
theorem d_DM_sum_66 : decode prog_1_method_11_code 66 = .ok (.istore 4, 2) := by decide +kernel
theorem d_DM_sum_68 : decode prog_1_method_11_code 68 = .ok (.iinc 5 1, 3) := by decide +kernel
theorem d_DM_sum_71 : decode prog_1_method_11_code 71 = .ok (.goto (-21), 3) := by decide +kernel
theorem d_DM_sum_74 : decode prog_1_method_11_code 74 = .ok (.iload 4, 2) := by decide +kernel
theorem d_DM_sum_76 : decode prog_1_method_11_code 76 = .ok (.ireturn, 1) := by decide +kernel
def L_DM_sum_50 : Nat → Sg → Nat → Int32 → Int32 → Int32 → Option (Int32)
  | 0, _, _, _, _, _ => none
  | n + 1, σ, v2, v3, v4, v5 => ck (v2 < 47) (if v3 ≤ v5 then (some v4) else (ck (inb v5 (lenC σ v2)) (lt ((31 * v4) + (σ.2.2.1 v2 v5.toNatClampNeg)) (fun y10 => lt (v5 + 1) (fun y11 => L_DM_sum_50 n σ v2 v3 y10 y11)))))
set_option maxRecDepth 10000 in
set_option maxHeartbeats 4000000 in
theorem lt_DM_sum_50 {p : Program} {l : Launch} {e : Env} {R : Room} {s : State} {m : MethodId} {args : Array Value} {below : List Frame} {meth : Method} {c : Code} {D : va_G} {τ : ClassId × ClassId × ClassId} {B : Nat} {A : Nat → Prop} {ad : Nat → Nat} (E : Cx p R s m args meth c prog_1_method_11_code 6 "DrawingMachine" 1 D τ B A) (hret : meth.sig.returnType = (some .int)) (o : Int32) (σ : Sg) : ∀ (n : Nat) (v2 : Nat) (v3 : Int32) (v4 : Int32) (v5 : Int32) (H : Heap) (locs : List Loc) (ls : Array Slot), L_DM_sum_50 n σ v2 v3 v4 v5 = some o → Wd s D A (wdC τ σ ad) H locs → lv_has ls 6 [(2, .ref (ad v2)), (3, .int v3), (4, .int v4), (5, .int v5)] → W p l e R s m args below meth c H locs 0 0 (QI below args s A D τ (wdC τ σ ad) o) (F0 m 50 ls []) := by
  intro n
  induction n with
  | zero =>
    intro v2 v3 v4 v5 H locs ls h w hl
    cases h
  | succ n hr_50 =>
    intro v2 v3 v4 v5 H locs ls h w hl
    obtain ⟨c8, h⟩ := ck_some h
    refine lv_iload E.x E.b d_DM_sum_50 (lv_at hl 3 rfl) ?_
    refine lv_iload_n E.x E.b d_DM_sum_52 rfl (lv_at hl 1 rfl) ?_
    refine lv_icmp_ge (tgt := 74) E.x E.b d_DM_sum_53 (by decide) (fun c => ?_) (fun c => ?_)
    ·
      replace h := ifT c h
      refine lv_iload E.x E.b d_DM_sum_74 (lv_at hl 2 rfl) ?_
      obtain rfl := Option.some.inj h
      exact rt_i E w hret d_DM_sum_76
    ·
      replace h := ifF c h
      refine lv_bipush (v := 31) E.x E.b d_DM_sum_56 (by decide) ?_
      refine lv_iload E.x E.b d_DM_sum_58 (lv_at hl 2 rfl) ?_
      refine lv_imul E.x E.b d_DM_sum_60 ?_
      refine lv_aload_n E.x E.b d_DM_sum_61 rfl (lv_at hl 0 rfl) ?_
      refine lv_iload E.x E.b d_DM_sum_62 (lv_at hl 3 rfl) ?_
      obtain ⟨c9, h⟩ := ck_some h
      refine ialC E w (k := v2) c8 c9 d_DM_sum_64 ?_
      refine lv_iadd E.x E.b d_DM_sum_65 ?_
      obtain ⟨y10, e_y10, h⟩ := lt_some h
      refine wi_e (v := y10) e_y10 ?_
      refine lv_istore (lv' := [(4, .int y10), (2, .ref (ad v2)), (3, .int v3), (5, .int v5)]) E.x E.b d_DM_sum_66 hl (by decide) rfl (fun ls hl => ?_)
      obtain ⟨y11, e_y11, h⟩ := lt_some h
      refine lv_iinc (v := y11) (lv' := [(5, .int y11), (4, .int y10), (2, .ref (ad v2)), (3, .int v3)]) E.x E.b d_DM_sum_68 hl (k := 3) rfl (e_y11) (by decide) rfl (fun ls hl => ?_)
      refine lv_goto (tgt := 50) E.x E.b d_DM_sum_71 (by decide) ?_
      exact hr_50 v2 v3 y10 y11 _ _ _ h w (lv_sub hl [2, 3, 1, 0] rfl)
def F_DM_sum_9 (σ : Sg) : Option (Int32) := none
set_option maxRecDepth 10000 in
set_option maxHeartbeats 4000000 in
theorem bt_DM_sum_9 {p : Program} {l : Launch} {e : Env} {R : Room} {s : State} {m : MethodId} {args : Array Value} {below : List Frame} {meth : Method} {c : Code} {D : va_G} {τ : ClassId × ClassId × ClassId} {B : Nat} {A : Nat → Prop} {ad : Nat → Nat} (E : Cx p R s m args meth c prog_1_method_11_code 6 "DrawingMachine" 1 D τ B A) (hret : meth.sig.returnType = (some .int)) (o : Int32) (σ : Sg) (h : F_DM_sum_9 σ = some o) {H : Heap} {locs : List Loc} {ls : Array Slot} (w : Wd s D A (wdC τ σ ad) H locs) (hl : lv_has ls 6 []) : W p l e R s m args below meth c H locs 0 0 (QI below args s A D τ (wdC τ σ ad) o) (F0 m 9 ls []) := by
  cases h
def F_DM_sum (σ : Sg) (x0 : Int32) : Option (Int32) := if x0 < 0 then (F_DM_sum_9 σ) else (if x0 ≤ 2 then (bd (F_Pic_rowOf σ x0) (fun o12 => lt (o12) (fun ar_13 => ck (ar_13 < 47) (lt ((σ.1 0) * (σ.1 1)) (fun y15 => L_DM_sum_50 100000 σ ar_13 y15 0 0))))) else (F_DM_sum_9 σ))
set_option maxRecDepth 10000 in
set_option maxHeartbeats 4000000 in
theorem c_DM_sum (l : Launch) (D : va_G) (τ : ClassId × ClassId × ClassId) (B : Nat) (σ : Sg) (ad : Nat → Nat) (x0 : Int32) (o : Int32) (h : F_DM_sum σ x0 = some o) : MI l y_DM_sum (Cond.code y_DM_sum prog_1_method_11_code 6 (some .int)) 1 D τ B [.ref (ad 56), .int x0] (wdC τ σ ad) (wdC τ σ ad) o := by
  refine en_i (by decide) (Nat.le_of_ble_eq_true rfl) ?_
  intro p e R s m args below meth c H locs ls A E hret w hl
  have E : Cx p R s m args meth c prog_1_method_11_code 6 "DrawingMachine" 1 D τ B A := E
  have hl : lv_has ls 6 [(0, .ref (ad 56)), (1, .int x0)] := hl
  refine lv_iload_n E.x E.b d_DM_sum_0 rfl (lv_at hl 1 rfl) ?_
  refine lv_if_lt (tgt := 9) E.x E.b d_DM_sum_1 (by decide) (fun c => ?_) (fun c => ?_)
  ·
    replace h := ifT c h
    exact bt_DM_sum_9 E hret o σ h w (lv_sub hl [] rfl)
  ·
    replace h := ifF c h
    refine lv_iload_n E.x E.b d_DM_sum_4 rfl (lv_at hl 1 rfl) ?_
    refine lv_iconst (v := 2) E.x E.b d_DM_sum_5 (by decide) ?_
    refine lv_icmp_le (tgt := 19) E.x E.b d_DM_sum_6 (by decide) (fun c => ?_) (fun c => ?_)
    ·
      replace h := ifT c h
      refine lv_aload_n E.x E.b d_DM_sum_19 rfl (lv_at hl 0 rfl) ?_
      refine gC_DM_picture E w k432 d_DM_sum_20 ?_
      refine lv_iload_n E.x E.b d_DM_sum_23 rfl (lv_at hl 1 rfl) ?_
      obtain ⟨o12, h_o12, h⟩ := bd_some h
      refine clV_Pic_rowOf E w (x0 := x0) h_o12 k1355 (by decide) hl.1 (Nat.le_of_ble_eq_true rfl) d_DM_sum_24 (fun H locs w => ?_)
      obtain ⟨ar_13, e_ar_13, h⟩ := lt_some h
      refine wr_e (v := ad ar_13) (by rw [e_ar_13]) ?_
      obtain ⟨c14, h⟩ := ck_some h
      refine lv_astore_n (lv' := [(2, .ref (ad ar_13)), (0, .ref (ad 56)), (1, .int x0)]) E.x E.b d_DM_sum_27 rfl hl (by decide) rfl (fun ls hl => ?_)
      refine lv_aload_n E.x E.b d_DM_sum_28 rfl (lv_at hl 1 rfl) ?_
      refine gC_DM_picture E w k432 d_DM_sum_29 ?_
      refine gC_Pic_wide E w k80 d_DM_sum_32 ?_
      refine lv_aload_n E.x E.b d_DM_sum_35 rfl (lv_at hl 1 rfl) ?_
      refine gC_DM_picture E w k432 d_DM_sum_36 ?_
      refine gC_Pic_high E w k83 d_DM_sum_39 ?_
      refine lv_imul E.x E.b d_DM_sum_42 ?_
      obtain ⟨y15, e_y15, h⟩ := lt_some h
      refine wi_e (v := y15) e_y15 ?_
      refine lv_istore_n (lv' := [(3, .int y15), (2, .ref (ad ar_13)), (0, .ref (ad 56)), (1, .int x0)]) E.x E.b d_DM_sum_43 rfl hl (by decide) rfl (fun ls hl => ?_)
      refine lv_iconst (v := 0) E.x E.b d_DM_sum_44 (by decide) ?_
      refine lv_istore (lv' := [(4, .int 0), (3, .int y15), (2, .ref (ad ar_13)), (0, .ref (ad 56)), (1, .int x0)]) E.x E.b d_DM_sum_45 hl (by decide) rfl (fun ls hl => ?_)
      refine lv_iconst (v := 0) E.x E.b d_DM_sum_47 (by decide) ?_
      refine lv_istore (lv' := [(5, .int 0), (4, .int 0), (3, .int y15), (2, .ref (ad ar_13)), (0, .ref (ad 56)), (1, .int x0)]) E.x E.b d_DM_sum_48 hl (by decide) rfl (fun ls hl => ?_)
      exact lt_DM_sum_50 E hret o σ 100000 ar_13 y15 0 0 _ _ _ h w (lv_sub hl [3, 2, 1, 0] rfl)
    ·
      replace h := ifF c h
      exact bt_DM_sum_9 E hret o σ h w (lv_sub hl [] rfl)

theorem d_DM_query_0 : decode prog_1_method_12_code 0 = .ok (.iload_n 1, 1) := by decide +kernel
theorem d_DM_query_1 : decode prog_1_method_12_code 1 = .ok (.ifCond .lt 9, 3) := by decide +kernel
theorem d_DM_query_4 : decode prog_1_method_12_code 4 = .ok (.iload_n 1, 1) := by decide +kernel
theorem d_DM_query_5 : decode prog_1_method_12_code 5 = .ok (.bipush 8, 2) := by decide +kernel
theorem d_DM_query_7 : decode prog_1_method_12_code 7 = .ok (.if_icmp .lt 13, 3) := by decide +kernel
theorem d_DM_query_10 : decode prog_1_method_12_code 10 = .ok (.new 74, 3) := by decide +kernel
theorem d_DM_query_20 : decode prog_1_method_12_code 20 = .ok (.aload_n 0, 1) := by decide +kernel
theorem d_DM_query_21 : decode prog_1_method_12_code 21 = .ok (.getfield 50, 3) := by decide +kernel
theorem d_DM_query_24 : decode prog_1_method_12_code 24 = .ok (.getfield 187, 3) := by decide +kernel
theorem d_DM_query_27 : decode prog_1_method_12_code 27 = .ok (.iload_n 1, 1) := by decide +kernel
theorem d_DM_query_28 : decode prog_1_method_12_code 28 = .ok (.iaload, 1) := by decide +kernel
theorem d_DM_query_29 : decode prog_1_method_12_code 29 = .ok (.ireturn, 1) := by decide +kernel
def F_DM_query_10 (σ : Sg) : Option (Int32) := none
set_option maxRecDepth 10000 in
set_option maxHeartbeats 4000000 in
theorem bt_DM_query_10 {p : Program} {l : Launch} {e : Env} {R : Room} {s : State} {m : MethodId} {args : Array Value} {below : List Frame} {meth : Method} {c : Code} {D : va_G} {τ : ClassId × ClassId × ClassId} {B : Nat} {A : Nat → Prop} {ad : Nat → Nat} (E : Cx p R s m args meth c prog_1_method_12_code 2 "DrawingMachine" 0 D τ B A) (hret : meth.sig.returnType = (some .int)) (o : Int32) (σ : Sg) (h : F_DM_query_10 σ = some o) {H : Heap} {locs : List Loc} {ls : Array Slot} (w : Wd s D A (wdC τ σ ad) H locs) (hl : lv_has ls 2 []) : W p l e R s m args below meth c H locs 0 0 (QI below args s A D τ (wdC τ σ ad) o) (F0 m 10 ls []) := by
  cases h
def F_DM_query (σ : Sg) (x0 : Int32) : Option (Int32) := if x0 < 0 then (F_DM_query_10 σ) else (if x0 < 8 then (ck (inb x0 8) (some (σ.2.2.1 30 x0.toNatClampNeg))) else (F_DM_query_10 σ))
set_option maxRecDepth 10000 in
set_option maxHeartbeats 4000000 in
theorem c_DM_query (l : Launch) (D : va_G) (τ : ClassId × ClassId × ClassId) (B : Nat) (σ : Sg) (ad : Nat → Nat) (x0 : Int32) (o : Int32) (h : F_DM_query σ x0 = some o) : MI l y_DM_query (Cond.code y_DM_query prog_1_method_12_code 2 (some .int)) 0 D τ B [.ref (ad 56), .int x0] (wdC τ σ ad) (wdC τ σ ad) o := by
  refine en_i (by decide) (Nat.le_of_ble_eq_true rfl) ?_
  intro p e R s m args below meth c H locs ls A E hret w hl
  have E : Cx p R s m args meth c prog_1_method_12_code 2 "DrawingMachine" 0 D τ B A := E
  have hl : lv_has ls 2 [(0, .ref (ad 56)), (1, .int x0)] := hl
  refine lv_iload_n E.x E.b d_DM_query_0 rfl (lv_at hl 1 rfl) ?_
  refine lv_if_lt (tgt := 10) E.x E.b d_DM_query_1 (by decide) (fun c => ?_) (fun c => ?_)
  ·
    replace h := ifT c h
    exact bt_DM_query_10 E hret o σ h w (lv_sub hl [] rfl)
  ·
    replace h := ifF c h
    refine lv_iload_n E.x E.b d_DM_query_4 rfl (lv_at hl 1 rfl) ?_
    refine lv_bipush (v := 8) E.x E.b d_DM_query_5 (by decide) ?_
    refine lv_icmp_lt (tgt := 20) E.x E.b d_DM_query_7 (by decide) (fun c => ?_) (fun c => ?_)
    ·
      replace h := ifT c h
      refine lv_aload_n E.x E.b d_DM_query_20 rfl (lv_at hl 0 rfl) ?_
      refine gC_DM_drawing E w k435 d_DM_query_21 ?_
      refine gC_Drw_queries E w k376 d_DM_query_24 ?_
      refine lv_iload_n E.x E.b d_DM_query_27 rfl (lv_at hl 1 rfl) ?_
      obtain ⟨c2, h⟩ := ck_some h
      refine ialC E w (k := 30) (by decide) c2 d_DM_query_28 ?_
      obtain rfl := Option.some.inj h
      exact rt_i E w hret d_DM_query_29
    ·
      replace h := ifF c h
      exact bt_DM_query_10 E hret o σ h w (lv_sub hl [] rfl)

theorem d_DM_count_0 : decode prog_1_method_13_code 0 = .ok (.iload_n 1, 1) := by decide +kernel
theorem d_DM_count_1 : decode prog_1_method_13_code 1 = .ok (.ifCond .lt 9, 3) := by decide +kernel
theorem d_DM_count_4 : decode prog_1_method_13_code 4 = .ok (.iload_n 1, 1) := by decide +kernel
theorem d_DM_count_5 : decode prog_1_method_13_code 5 = .ok (.bipush 9, 2) := by decide +kernel
theorem d_DM_count_7 : decode prog_1_method_13_code 7 = .ok (.if_icmp .lt 13, 3) := by decide +kernel
theorem d_DM_count_10 : decode prog_1_method_13_code 10 = .ok (.new 74, 3) := by decide +kernel
theorem d_DM_count_20 : decode prog_1_method_13_code 20 = .ok (.aload_n 0, 1) := by decide +kernel
theorem d_DM_count_21 : decode prog_1_method_13_code 21 = .ok (.getfield 50, 3) := by decide +kernel
theorem d_DM_count_24 : decode prog_1_method_13_code 24 = .ok (.getfield 192, 3) := by decide +kernel
theorem d_DM_count_27 : decode prog_1_method_13_code 27 = .ok (.iload_n 1, 1) := by decide +kernel
theorem d_DM_count_28 : decode prog_1_method_13_code 28 = .ok (.iaload, 1) := by decide +kernel
theorem d_DM_count_29 : decode prog_1_method_13_code 29 = .ok (.ireturn, 1) := by decide +kernel
def F_DM_count_10 (σ : Sg) : Option (Int32) := none
set_option maxRecDepth 10000 in
set_option maxHeartbeats 4000000 in
theorem bt_DM_count_10 {p : Program} {l : Launch} {e : Env} {R : Room} {s : State} {m : MethodId} {args : Array Value} {below : List Frame} {meth : Method} {c : Code} {D : va_G} {τ : ClassId × ClassId × ClassId} {B : Nat} {A : Nat → Prop} {ad : Nat → Nat} (E : Cx p R s m args meth c prog_1_method_13_code 2 "DrawingMachine" 0 D τ B A) (hret : meth.sig.returnType = (some .int)) (o : Int32) (σ : Sg) (h : F_DM_count_10 σ = some o) {H : Heap} {locs : List Loc} {ls : Array Slot} (w : Wd s D A (wdC τ σ ad) H locs) (hl : lv_has ls 2 []) : W p l e R s m args below meth c H locs 0 0 (QI below args s A D τ (wdC τ σ ad) o) (F0 m 10 ls []) := by
  cases h
def F_DM_count (σ : Sg) (x0 : Int32) : Option (Int32) := if x0 < 0 then (F_DM_count_10 σ) else (if x0 < 9 then (ck (inb x0 9) (some (σ.2.2.1 29 x0.toNatClampNeg))) else (F_DM_count_10 σ))
set_option maxRecDepth 10000 in
set_option maxHeartbeats 4000000 in
theorem c_DM_count (l : Launch) (D : va_G) (τ : ClassId × ClassId × ClassId) (B : Nat) (σ : Sg) (ad : Nat → Nat) (x0 : Int32) (o : Int32) (h : F_DM_count σ x0 = some o) : MI l y_DM_count (Cond.code y_DM_count prog_1_method_13_code 2 (some .int)) 0 D τ B [.ref (ad 56), .int x0] (wdC τ σ ad) (wdC τ σ ad) o := by
  refine en_i (by decide) (Nat.le_of_ble_eq_true rfl) ?_
  intro p e R s m args below meth c H locs ls A E hret w hl
  have E : Cx p R s m args meth c prog_1_method_13_code 2 "DrawingMachine" 0 D τ B A := E
  have hl : lv_has ls 2 [(0, .ref (ad 56)), (1, .int x0)] := hl
  refine lv_iload_n E.x E.b d_DM_count_0 rfl (lv_at hl 1 rfl) ?_
  refine lv_if_lt (tgt := 10) E.x E.b d_DM_count_1 (by decide) (fun c => ?_) (fun c => ?_)
  ·
    replace h := ifT c h
    exact bt_DM_count_10 E hret o σ h w (lv_sub hl [] rfl)
  ·
    replace h := ifF c h
    refine lv_iload_n E.x E.b d_DM_count_4 rfl (lv_at hl 1 rfl) ?_
    refine lv_bipush (v := 9) E.x E.b d_DM_count_5 (by decide) ?_
    refine lv_icmp_lt (tgt := 20) E.x E.b d_DM_count_7 (by decide) (fun c => ?_) (fun c => ?_)
    ·
      replace h := ifT c h
      refine lv_aload_n E.x E.b d_DM_count_20 rfl (lv_at hl 0 rfl) ?_
      refine gC_DM_drawing E w k435 d_DM_count_21 ?_
      refine gC_Drw_counts E w k374 d_DM_count_24 ?_
      refine lv_iload_n E.x E.b d_DM_count_27 rfl (lv_at hl 1 rfl) ?_
      obtain ⟨c2, h⟩ := ck_some h
      refine ialC E w (k := 29) (by decide) c2 d_DM_count_28 ?_
      obtain rfl := Option.some.inj h
      exact rt_i E w hret d_DM_count_29
    ·
      replace h := ifF c h
      exact bt_DM_count_10 E hret o σ h w (lv_sub hl [] rfl)
