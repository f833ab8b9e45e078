theorem d_Erm_isCovered_0 : decode prog_16_method_11_code 0 = .ok (.aload_n 0, 1) := by decide +kernel
theorem d_Erm_isCovered_1 : decode prog_16_method_11_code 1 = .ok (.invokevirtual 43, 3) := by decide +kernel
theorem d_Erm_isCovered_4 : decode prog_16_method_11_code 4 = .ok (.lconst 0, 1) := by decide +kernel
theorem d_Erm_isCovered_5 : decode prog_16_method_11_code 5 = .ok (.lcmp, 1) := by decide +kernel
theorem d_Erm_isCovered_6 : decode prog_16_method_11_code 6 = .ok (.ifCond .eq 7, 3) := by decide +kernel
theorem d_Erm_isCovered_9 : decode prog_16_method_11_code 9 = .ok (.iconst 1, 1) := by decide +kernel
theorem d_Erm_isCovered_10 : decode prog_16_method_11_code 10 = .ok (.goto 4, 3) := by decide +kernel
theorem d_Erm_isCovered_13 : decode prog_16_method_11_code 13 = .ok (.iconst 0, 1) := by decide +kernel
theorem d_Erm_isCovered_14 : decode prog_16_method_11_code 14 = .ok (.istore_n 3, 1) := by decide +kernel
theorem d_Erm_isCovered_15 : decode prog_16_method_11_code 15 = .ok (.iconst 0, 1) := by decide +kernel
theorem d_Erm_isCovered_16 : decode prog_16_method_11_code 16 = .ok (.istore 4, 2) := by decide +kernel
theorem d_Erm_isCovered_18 : decode prog_16_method_11_code 18 = .ok (.iload 4, 2) := by decide +kernel
theorem d_Erm_isCovered_20 : decode prog_16_method_11_code 20 = .ok (.iconst 3, 1) := by decide +kernel
theorem d_Erm_isCovered_21 : decode prog_16_method_11_code 21 = .ok (.if_icmp .ge 120, 3) := by decide +kernel
theorem d_Erm_isCovered_24 : decode prog_16_method_11_code 24 = .ok (.iload_n 3, 1) := by decide +kernel
theorem d_Erm_isCovered_25 : decode prog_16_method_11_code 25 = .ok (.ifCond .eq 116, 3) := by decide +kernel
theorem d_Erm_isCovered_28 : decode prog_16_method_11_code 28 = .ok (.aload_n 0, 1) := by decide +kernel
theorem d_Erm_isCovered_29 : decode prog_16_method_11_code 29 = .ok (.iload 4, 2) := by decide +kernel
theorem d_Erm_isCovered_31 : decode prog_16_method_11_code 31 = .ok (.iload_n 1, 1) := by decide +kernel
theorem d_Erm_isCovered_32 : decode prog_16_method_11_code 32 = .ok (.iload_n 2, 1) := by decide +kernel
theorem d_Erm_isCovered_33 : decode prog_16_method_11_code 33 = .ok (.invokevirtual 54, 3) := by decide +kernel
theorem d_Erm_isCovered_36 : decode prog_16_method_11_code 36 = .ok (.lstore 5, 2) := by decide +kernel
theorem d_Erm_isCovered_38 : decode prog_16_method_11_code 38 = .ok (.aload_n 0, 1) := by decide +kernel
theorem d_Erm_isCovered_39 : decode prog_16_method_11_code 39 = .ok (.getfield 7, 3) := by decide +kernel
theorem d_Erm_isCovered_42 : decode prog_16_method_11_code 42 = .ok (.aload_n 0, 1) := by decide +kernel
theorem d_Erm_isCovered_43 : decode prog_16_method_11_code 43 = .ok (.iload 4, 2) := by decide +kernel
theorem d_Erm_isCovered_45 : decode prog_16_method_11_code 45 = .ok (.invokevirtual 51, 3) := by decide +kernel
theorem d_Erm_isCovered_48 : decode prog_16_method_11_code 48 = .ok (.iaload, 1) := by decide +kernel
theorem d_Erm_isCovered_49 : decode prog_16_method_11_code 49 = .ok (.aload_n 0, 1) := by decide +kernel
theorem d_Erm_isCovered_50 : decode prog_16_method_11_code 50 = .ok (.getfield 7, 3) := by decide +kernel
theorem d_Erm_isCovered_53 : decode prog_16_method_11_code 53 = .ok (.aload_n 0, 1) := by decide +kernel
theorem d_Erm_isCovered_54 : decode prog_16_method_11_code 54 = .ok (.iload 4, 2) := by decide +kernel
theorem d_Erm_isCovered_56 : decode prog_16_method_11_code 56 = .ok (.invokevirtual 47, 3) := by decide +kernel
theorem d_Erm_isCovered_59 : decode prog_16_method_11_code 59 = .ok (.iaload, 1) := by decide +kernel
theorem d_Erm_isCovered_60 : decode prog_16_method_11_code 60 = .ok (.isub, 1) := by decide +kernel
theorem d_Erm_isCovered_61 : decode prog_16_method_11_code 61 = .ok (.istore 7, 2) := by decide +kernel
theorem d_Erm_isCovered_63 : decode prog_16_method_11_code 63 = .ok (.aload_n 0, 1) := by decide +kernel
theorem d_Erm_isCovered_64 : decode prog_16_method_11_code 64 = .ok (.getfield 13, 3) := by decide +kernel
theorem d_Erm_isCovered_67 : decode prog_16_method_11_code 67 = .ok (.aload_n 0, 1) := by decide +kernel
theorem d_Erm_isCovered_68 : decode prog_16_method_11_code 68 = .ok (.iload 4, 2) := by decide +kernel
theorem d_Erm_isCovered_70 : decode prog_16_method_11_code 70 = .ok (.invokevirtual 51, 3) := by decide +kernel
theorem d_Erm_isCovered_73 : decode prog_16_method_11_code 73 = .ok (.iaload, 1) := by decide +kernel
theorem d_Erm_isCovered_74 : decode prog_16_method_11_code 74 = .ok (.aload_n 0, 1) := by decide +kernel
theorem d_Erm_isCovered_75 : decode prog_16_method_11_code 75 = .ok (.getfield 13, 3) := by decide +kernel
theorem d_Erm_isCovered_78 : decode prog_16_method_11_code 78 = .ok (.aload_n 0, 1) := by decide +kernel
theorem d_Erm_isCovered_79 : decode prog_16_method_11_code 79 = .ok (.iload 4, 2) := by decide +kernel
theorem d_Erm_isCovered_81 : decode prog_16_method_11_code 81 = .ok (.invokevirtual 47, 3) := by decide +kernel
theorem d_Erm_isCovered_84 : decode prog_16_method_11_code 84 = .ok (.iaload, 1) := by decide +kernel
theorem d_Erm_isCovered_85 : decode prog_16_method_11_code 85 = .ok (.isub, 1) := by decide +kernel
theorem d_Erm_isCovered_86 : decode prog_16_method_11_code 86 = .ok (.istore 8, 2) := by decide +kernel
theorem d_Erm_isCovered_88 : decode prog_16_method_11_code 88 = .ok (.iload 8, 2) := by decide +kernel
theorem d_Erm_isCovered_90 : decode prog_16_method_11_code 90 = .ok (.ifCond .ne 8, 3) := by decide +kernel
theorem d_Erm_isCovered_93 : decode prog_16_method_11_code 93 = .ok (.iload 7, 2) := by decide +kernel
theorem d_Erm_isCovered_95 : decode prog_16_method_11_code 95 = .ok (.ifCond .gt 8, 3) := by decide +kernel
theorem d_Erm_isCovered_98 : decode prog_16_method_11_code 98 = .ok (.iload 8, 2) := by decide +kernel
theorem d_Erm_isCovered_100 : decode prog_16_method_11_code 100 = .ok (.ifCond .ge 7, 3) := by decide +kernel
theorem d_Erm_isCovered_103 : decode prog_16_method_11_code 103 = .ok (.iconst 1, 1) := by decide +kernel
theorem d_Erm_isCovered_104 : decode prog_16_method_11_code 104 = .ok (.goto 4, 3) := by decide +kernel
theorem d_Erm_isCovered_107 : decode prog_16_method_11_code 107 = .ok (.iconst 0, 1) := by decide +kernel
theorem d_Erm_isCovered_108 : decode prog_16_method_11_code 108 = .ok (.istore 9, 2) := by decide +kernel
theorem d_Erm_isCovered_110 : decode prog_16_method_11_code 110 = .ok (.lload 5, 2) := by decide +kernel
theorem d_Erm_isCovered_112 : decode prog_16_method_11_code 112 = .ok (.lconst 0, 1) := by decide +kernel
theorem d_Erm_isCovered_113 : decode prog_16_method_11_code 113 = .ok (.lcmp, 1) := by decide +kernel
theorem d_Erm_isCovered_114 : decode prog_16_method_11_code 114 = .ok (.ifCond .gt 15, 3) := by decide +kernel
theorem d_Erm_isCovered_117 : decode prog_16_method_11_code 117 = .ok (.lload 5, 2) := by decide +kernel
theorem d_Erm_isCovered_119 : decode prog_16_method_11_code 119 = .ok (.lconst 0, 1) := by decide +kernel
theorem d_Erm_isCovered_120 : decode prog_16_method_11_code 120 = .ok (.lcmp, 1) := by decide +kernel
theorem d_Erm_isCovered_121 : decode prog_16_method_11_code 121 = .ok (.ifCond .ne 12, 3) := by decide +kernel
theorem d_Erm_isCovered_124 : decode prog_16_method_11_code 124 = .ok (.iload 9, 2) := by decide +kernel
theorem d_Erm_isCovered_126 : decode prog_16_method_11_code 126 = .ok (.ifCond .eq 7, 3) := by decide +kernel
theorem d_Erm_isCovered_129 : decode prog_16_method_11_code 129 = .ok (.iconst 1, 1) := by decide +kernel
theorem d_Erm_isCovered_130 : decode prog_16_method_11_code 130 = .ok (.goto 4, 3) := by decide +kernel
theorem d_Erm_isCovered_133 : decode prog_16_method_11_code 133 = .ok (.iconst 0, 1) := by decide +kernel
theorem d_Erm_isCovered_134 : decode prog_16_method_11_code 134 = .ok (.istore_n 3, 1) := by decide +kernel
theorem d_Erm_isCovered_135 : decode prog_16_method_11_code 135 = .ok (.iinc 4 1, 3) := by decide +kernel
theorem d_Erm_isCovered_138 : decode prog_16_method_11_code 138 = .ok (.goto (-120), 3) := by decide +kernel
theorem d_Erm_isCovered_141 : decode prog_16_method_11_code 141 = .ok (.iload_n 3, 1) := by decide +kernel
theorem d_Erm_isCovered_142 : decode prog_16_method_11_code 142 = .ok (.ireturn, 1) := by decide +kernel
def F_Erm_isCovered_141 (σ : Sg) (v3 : Int32) : Option (Int32) := ck (v3 = 0 ∨ v3 = 1) (some v3)
set_option maxRecDepth 10000 in
set_option maxHeartbeats 4000000 in
theorem bt_Erm_isCovered_141 {p : Program} {l : Launch} {e : Env} {R : Room} {s : State} {m : MethodId} {args : Array Value} {below : List Frame} {meth : Method} {c : Code} {D : va_G} {τ : ClassId × ClassId × ClassId} {B : Nat} {A : Nat → Prop} {ad : Nat → Nat} (E : Cx p R s m args meth c prog_16_method_11_code 10 "DrawingMachineModel$EdgeRasterModel" 4 D τ B A) (hret : meth.sig.returnType = (some .boolean)) (o : Int32) (σ : Sg) (v3 : Int32) (h : F_Erm_isCovered_141 σ v3 = some o) {H : Heap} {locs : List Loc} {ls : Array Slot} (w : Wd s D A (wdM τ σ ad) H locs) (hl : lv_has ls 10 [(3, .int v3)]) : W p l e R s m args below meth c H locs 0 0 (QI below args s A D τ (wdM τ σ ad) o) (F0 m 141 ls []) := by
  refine lv_iload_n E.x E.b d_Erm_isCovered_141 rfl (lv_at hl 0 rfl) ?_
  obtain ⟨c15, h⟩ := ck_some h
  obtain rfl := Option.some.inj h
  exact rt_z E w hret c15 d_Erm_isCovered_142
def F_Erm_isCovered_134 (rc_18 : Sg → Int32 → Int32 → Int32 → Int32 → Option (Int32)) (σ : Sg) (v1 : Int32) (v2 : Int32) (v4 : Int32) (s0 : Int32) : Option (Int32) := lt (v4 + 1) (fun y16 => rc_18 σ v1 v2 s0 y16)
set_option maxRecDepth 10000 in
set_option maxHeartbeats 4000000 in
theorem bt_Erm_isCovered_134 {p : Program} {l : Launch} {e : Env} {R : Room} {s : State} {m : MethodId} {args : Array Value} {below : List Frame} {meth : Method} {c : Code} {D : va_G} {τ : ClassId × ClassId × ClassId} {B : Nat} {A : Nat → Prop} {ad : Nat → Nat} (E : Cx p R s m args meth c prog_16_method_11_code 10 "DrawingMachineModel$EdgeRasterModel" 4 D τ B A) (hret : meth.sig.returnType = (some .boolean)) (o : Int32) (rc_18 : Sg → Int32 → Int32 → Int32 → Int32 → Option (Int32)) (σ : Sg) (hr_18 : ∀ (v1 : Int32) (v2 : Int32) (v3 : Int32) (v4 : Int32) (H : Heap) (locs : List Loc) (ls : Array Slot), rc_18 σ v1 v2 v3 v4 = some o → Wd s D A (wdM τ σ ad) H locs → lv_has ls 10 [(0, .ref (ad 63)), (1, .int v1), (2, .int v2), (3, .int v3), (4, .int v4)] → W p l e R s m args below meth c H locs 0 0 (QI below args s A D τ (wdM τ σ ad) o) (F0 m 18 ls [])) (v1 : Int32) (v2 : Int32) (v4 : Int32) (s0 : Int32) (h : F_Erm_isCovered_134 rc_18 σ v1 v2 v4 s0 = some o) {H : Heap} {locs : List Loc} {ls : Array Slot} (w : Wd s D A (wdM τ σ ad) H locs) (hl : lv_has ls 10 [(0, .ref (ad 63)), (1, .int v1), (2, .int v2), (4, .int v4)]) : W p l e R s m args below meth c H locs 0 0 (QI below args s A D τ (wdM τ σ ad) o) (F0 m 134 ls [.int s0]) := by
  refine lv_istore_n (lv' := [(3, .int s0), (0, .ref (ad 63)), (1, .int v1), (2, .int v2), (4, .int v4)]) E.x E.b d_Erm_isCovered_134 rfl hl (by decide) rfl (fun ls hl => ?_)
  obtain ⟨y16, e_y16, h⟩ := lt_some h
  refine lv_iinc (v := y16) (lv' := [(4, .int y16), (3, .int s0), (0, .ref (ad 63)), (1, .int v1), (2, .int v2)]) E.x E.b d_Erm_isCovered_135 hl (k := 4) rfl (e_y16) (by decide) rfl (fun ls hl => ?_)
  refine lv_goto (tgt := 18) E.x E.b d_Erm_isCovered_138 (by decide) ?_
  exact hr_18 v1 v2 s0 y16 _ _ _ h w (lv_sub hl [2, 3, 4, 1, 0] rfl)
def F_Erm_isCovered_133 (rc_18 : Sg → Int32 → Int32 → Int32 → Int32 → Option (Int32)) (σ : Sg) (v1 : Int32) (v2 : Int32) (v4 : Int32) : Option (Int32) := F_Erm_isCovered_134 rc_18 σ v1 v2 v4 0
set_option maxRecDepth 10000 in
set_option maxHeartbeats 4000000 in
theorem bt_Erm_isCovered_133 {p : Program} {l : Launch} {e : Env} {R : Room} {s : State} {m : MethodId} {args : Array Value} {below : List Frame} {meth : Method} {c : Code} {D : va_G} {τ : ClassId × ClassId × ClassId} {B : Nat} {A : Nat → Prop} {ad : Nat → Nat} (E : Cx p R s m args meth c prog_16_method_11_code 10 "DrawingMachineModel$EdgeRasterModel" 4 D τ B A) (hret : meth.sig.returnType = (some .boolean)) (o : Int32) (rc_18 : Sg → Int32 → Int32 → Int32 → Int32 → Option (Int32)) (σ : Sg) (hr_18 : ∀ (v1 : Int32) (v2 : Int32) (v3 : Int32) (v4 : Int32) (H : Heap) (locs : List Loc) (ls : Array Slot), rc_18 σ v1 v2 v3 v4 = some o → Wd s D A (wdM τ σ ad) H locs → lv_has ls 10 [(0, .ref (ad 63)), (1, .int v1), (2, .int v2), (3, .int v3), (4, .int v4)] → W p l e R s m args below meth c H locs 0 0 (QI below args s A D τ (wdM τ σ ad) o) (F0 m 18 ls [])) (v1 : Int32) (v2 : Int32) (v4 : Int32) (h : F_Erm_isCovered_133 rc_18 σ v1 v2 v4 = some o) {H : Heap} {locs : List Loc} {ls : Array Slot} (w : Wd s D A (wdM τ σ ad) H locs) (hl : lv_has ls 10 [(0, .ref (ad 63)), (1, .int v1), (2, .int v2), (4, .int v4)]) : W p l e R s m args below meth c H locs 0 0 (QI below args s A D τ (wdM τ σ ad) o) (F0 m 133 ls []) := by
  refine lv_iconst (v := 0) E.x E.b d_Erm_isCovered_133 (by decide) ?_
  exact bt_Erm_isCovered_134 E hret o rc_18 σ hr_18 v1 v2 v4 0 h w (lv_sub hl [0, 1, 2, 3] rfl)
def F_Erm_isCovered_129 (rc_18 : Sg → Int32 → Int32 → Int32 → Int32 → Option (Int32)) (σ : Sg) (v1 : Int32) (v2 : Int32) (v4 : Int32) : Option (Int32) := F_Erm_isCovered_134 rc_18 σ v1 v2 v4 1
set_option maxRecDepth 10000 in
set_option maxHeartbeats 4000000 in
theorem bt_Erm_isCovered_129 {p : Program} {l : Launch} {e : Env} {R : Room} {s : State} {m : MethodId} {args : Array Value} {below : List Frame} {meth : Method} {c : Code} {D : va_G} {τ : ClassId × ClassId × ClassId} {B : Nat} {A : Nat → Prop} {ad : Nat → Nat} (E : Cx p R s m args meth c prog_16_method_11_code 10 "DrawingMachineModel$EdgeRasterModel" 4 D τ B A) (hret : meth.sig.returnType = (some .boolean)) (o : Int32) (rc_18 : Sg → Int32 → Int32 → Int32 → Int32 → Option (Int32)) (σ : Sg) (hr_18 : ∀ (v1 : Int32) (v2 : Int32) (v3 : Int32) (v4 : Int32) (H : Heap) (locs : List Loc) (ls : Array Slot), rc_18 σ v1 v2 v3 v4 = some o → Wd s D A (wdM τ σ ad) H locs → lv_has ls 10 [(0, .ref (ad 63)), (1, .int v1), (2, .int v2), (3, .int v3), (4, .int v4)] → W p l e R s m args below meth c H locs 0 0 (QI below args s A D τ (wdM τ σ ad) o) (F0 m 18 ls [])) (v1 : Int32) (v2 : Int32) (v4 : Int32) (h : F_Erm_isCovered_129 rc_18 σ v1 v2 v4 = some o) {H : Heap} {locs : List Loc} {ls : Array Slot} (w : Wd s D A (wdM τ σ ad) H locs) (hl : lv_has ls 10 [(0, .ref (ad 63)), (1, .int v1), (2, .int v2), (4, .int v4)]) : W p l e R s m args below meth c H locs 0 0 (QI below args s A D τ (wdM τ σ ad) o) (F0 m 129 ls []) := by
  refine lv_iconst (v := 1) E.x E.b d_Erm_isCovered_129 (by decide) ?_
  refine lv_goto (tgt := 134) E.x E.b d_Erm_isCovered_130 (by decide) ?_
  exact bt_Erm_isCovered_134 E hret o rc_18 σ hr_18 v1 v2 v4 1 h w (lv_sub hl [0, 1, 2, 3] rfl)
def F_Erm_isCovered_108 (rc_18 : Sg → Int32 → Int32 → Int32 → Int32 → Option (Int32)) (σ : Sg) (v1 : Int32) (v2 : Int32) (v4 : Int32) (v5 : Int64) (s0 : Int32) : Option (Int32) := if 0 < v5 then (F_Erm_isCovered_129 rc_18 σ v1 v2 v4) else (if v5 = 0 then (if s0 = 0 then (F_Erm_isCovered_133 rc_18 σ v1 v2 v4) else (F_Erm_isCovered_129 rc_18 σ v1 v2 v4)) else (F_Erm_isCovered_133 rc_18 σ v1 v2 v4))
set_option maxRecDepth 10000 in
set_option maxHeartbeats 4000000 in
theorem bt_Erm_isCovered_108 {p : Program} {l : Launch} {e : Env} {R : Room} {s : State} {m : MethodId} {args : Array Value} {below : List Frame} {meth : Method} {c : Code} {D : va_G} {τ : ClassId × ClassId × ClassId} {B : Nat} {A : Nat → Prop} {ad : Nat → Nat} (E : Cx p R s m args meth c prog_16_method_11_code 10 "DrawingMachineModel$EdgeRasterModel" 4 D τ B A) (hret : meth.sig.returnType = (some .boolean)) (o : Int32) (rc_18 : Sg → Int32 → Int32 → Int32 → Int32 → Option (Int32)) (σ : Sg) (hr_18 : ∀ (v1 : Int32) (v2 : Int32) (v3 : Int32) (v4 : Int32) (H : Heap) (locs : List Loc) (ls : Array Slot), rc_18 σ v1 v2 v3 v4 = some o → Wd s D A (wdM τ σ ad) H locs → lv_has ls 10 [(0, .ref (ad 63)), (1, .int v1), (2, .int v2), (3, .int v3), (4, .int v4)] → W p l e R s m args below meth c H locs 0 0 (QI below args s A D τ (wdM τ σ ad) o) (F0 m 18 ls [])) (v1 : Int32) (v2 : Int32) (v4 : Int32) (v5 : Int64) (s0 : Int32) (h : F_Erm_isCovered_108 rc_18 σ v1 v2 v4 v5 s0 = some o) {H : Heap} {locs : List Loc} {ls : Array Slot} (w : Wd s D A (wdM τ σ ad) H locs) (hl : lv_has ls 10 [(0, .ref (ad 63)), (1, .int v1), (2, .int v2), (4, .int v4), (5, .long v5)]) : W p l e R s m args below meth c H locs 0 0 (QI below args s A D τ (wdM τ σ ad) o) (F0 m 108 ls [.int s0]) := by
  refine lv_istore (lv' := [(9, .int s0), (0, .ref (ad 63)), (1, .int v1), (2, .int v2), (4, .int v4), (5, .long v5)]) E.x E.b d_Erm_isCovered_108 hl (by decide) rfl (fun ls hl => ?_)
  refine lv_lload E.x E.b d_Erm_isCovered_110 (lv_at hl 5 rfl) ?_
  refine lv_lconst (v := 0) E.x E.b d_Erm_isCovered_112 (by decide) ?_
  refine W.lcmp E.x E.b d_Erm_isCovered_113 ?_
  refine lv_if_gt (tgt := 129) E.x E.b d_Erm_isCovered_114 (by decide) (fun c => ?_) (fun c => ?_)
  ·
    replace h := ifT (lgc_gt.mp c) h
    exact bt_Erm_isCovered_129 E hret o rc_18 σ hr_18 v1 v2 v4 h w (lv_sub hl [1, 2, 3, 4] rfl)
  ·
    replace h := ifF (fun h9 => c (lgc_gt.mpr h9)) h
    refine lv_lload E.x E.b d_Erm_isCovered_117 (lv_at hl 5 rfl) ?_
    refine lv_lconst (v := 0) E.x E.b d_Erm_isCovered_119 (by decide) ?_
    refine W.lcmp E.x E.b d_Erm_isCovered_120 ?_
    refine lv_if_ne (tgt := 133) E.x E.b d_Erm_isCovered_121 (by decide) (fun c => ?_) (fun c => ?_)
    ·
      replace h := ifF (fun h9 => c (lgc_eq.mpr h9)) h
      exact bt_Erm_isCovered_133 E hret o rc_18 σ hr_18 v1 v2 v4 h w (lv_sub hl [1, 2, 3, 4] rfl)
    ·
      replace h := ifT (lgc_eq.mp c) h
      refine lv_iload E.x E.b d_Erm_isCovered_124 (lv_at hl 0 rfl) ?_
      refine lv_if_eq (tgt := 133) E.x E.b d_Erm_isCovered_126 (by decide) (fun c => ?_) (fun c => ?_)
      ·
        replace h := ifT c h
        exact bt_Erm_isCovered_133 E hret o rc_18 σ hr_18 v1 v2 v4 h w (lv_sub hl [1, 2, 3, 4] rfl)
      ·
        replace h := ifF c h
        exact bt_Erm_isCovered_129 E hret o rc_18 σ hr_18 v1 v2 v4 h w (lv_sub hl [1, 2, 3, 4] rfl)
def F_Erm_isCovered_103 (rc_18 : Sg → Int32 → Int32 → Int32 → Int32 → Option (Int32)) (σ : Sg) (v1 : Int32) (v2 : Int32) (v4 : Int32) (v5 : Int64) : Option (Int32) := F_Erm_isCovered_108 rc_18 σ v1 v2 v4 v5 1
set_option maxRecDepth 10000 in
set_option maxHeartbeats 4000000 in
theorem bt_Erm_isCovered_103 {p : Program} {l : Launch} {e : Env} {R : Room} {s : State} {m : MethodId} {args : Array Value} {below : List Frame} {meth : Method} {c : Code} {D : va_G} {τ : ClassId × ClassId × ClassId} {B : Nat} {A : Nat → Prop} {ad : Nat → Nat} (E : Cx p R s m args meth c prog_16_method_11_code 10 "DrawingMachineModel$EdgeRasterModel" 4 D τ B A) (hret : meth.sig.returnType = (some .boolean)) (o : Int32) (rc_18 : Sg → Int32 → Int32 → Int32 → Int32 → Option (Int32)) (σ : Sg) (hr_18 : ∀ (v1 : Int32) (v2 : Int32) (v3 : Int32) (v4 : Int32) (H : Heap) (locs : List Loc) (ls : Array Slot), rc_18 σ v1 v2 v3 v4 = some o → Wd s D A (wdM τ σ ad) H locs → lv_has ls 10 [(0, .ref (ad 63)), (1, .int v1), (2, .int v2), (3, .int v3), (4, .int v4)] → W p l e R s m args below meth c H locs 0 0 (QI below args s A D τ (wdM τ σ ad) o) (F0 m 18 ls [])) (v1 : Int32) (v2 : Int32) (v4 : Int32) (v5 : Int64) (h : F_Erm_isCovered_103 rc_18 σ v1 v2 v4 v5 = some o) {H : Heap} {locs : List Loc} {ls : Array Slot} (w : Wd s D A (wdM τ σ ad) H locs) (hl : lv_has ls 10 [(0, .ref (ad 63)), (1, .int v1), (2, .int v2), (4, .int v4), (5, .long v5)]) : W p l e R s m args below meth c H locs 0 0 (QI below args s A D τ (wdM τ σ ad) o) (F0 m 103 ls []) := by
  refine lv_iconst (v := 1) E.x E.b d_Erm_isCovered_103 (by decide) ?_
  refine lv_goto (tgt := 108) E.x E.b d_Erm_isCovered_104 (by decide) ?_
  exact bt_Erm_isCovered_108 E hret o rc_18 σ hr_18 v1 v2 v4 v5 1 h w (lv_sub hl [0, 1, 2, 3, 4] rfl)
def F_Erm_isCovered_98 (rc_18 : Sg → Int32 → Int32 → Int32 → Int32 → Option (Int32)) (σ : Sg) (v1 : Int32) (v2 : Int32) (v4 : Int32) (v5 : Int64) (v8 : Int32) : Option (Int32) := if 0 ≤ v8 then (F_Erm_isCovered_108 rc_18 σ v1 v2 v4 v5 0) else (F_Erm_isCovered_103 rc_18 σ v1 v2 v4 v5)
set_option maxRecDepth 10000 in
set_option maxHeartbeats 4000000 in
theorem bt_Erm_isCovered_98 {p : Program} {l : Launch} {e : Env} {R : Room} {s : State} {m : MethodId} {args : Array Value} {below : List Frame} {meth : Method} {c : Code} {D : va_G} {τ : ClassId × ClassId × ClassId} {B : Nat} {A : Nat → Prop} {ad : Nat → Nat} (E : Cx p R s m args meth c prog_16_method_11_code 10 "DrawingMachineModel$EdgeRasterModel" 4 D τ B A) (hret : meth.sig.returnType = (some .boolean)) (o : Int32) (rc_18 : Sg → Int32 → Int32 → Int32 → Int32 → Option (Int32)) (σ : Sg) (hr_18 : ∀ (v1 : Int32) (v2 : Int32) (v3 : Int32) (v4 : Int32) (H : Heap) (locs : List Loc) (ls : Array Slot), rc_18 σ v1 v2 v3 v4 = some o → Wd s D A (wdM τ σ ad) H locs → lv_has ls 10 [(0, .ref (ad 63)), (1, .int v1), (2, .int v2), (3, .int v3), (4, .int v4)] → W p l e R s m args below meth c H locs 0 0 (QI below args s A D τ (wdM τ σ ad) o) (F0 m 18 ls [])) (v1 : Int32) (v2 : Int32) (v4 : Int32) (v5 : Int64) (v8 : Int32) (h : F_Erm_isCovered_98 rc_18 σ v1 v2 v4 v5 v8 = some o) {H : Heap} {locs : List Loc} {ls : Array Slot} (w : Wd s D A (wdM τ σ ad) H locs) (hl : lv_has ls 10 [(0, .ref (ad 63)), (1, .int v1), (2, .int v2), (4, .int v4), (5, .long v5), (8, .int v8)]) : W p l e R s m args below meth c H locs 0 0 (QI below args s A D τ (wdM τ σ ad) o) (F0 m 98 ls []) := by
  refine lv_iload E.x E.b d_Erm_isCovered_98 (lv_at hl 5 rfl) ?_
  refine lv_if_ge (tgt := 107) E.x E.b d_Erm_isCovered_100 (by decide) (fun c => ?_) (fun c => ?_)
  ·
    replace h := ifT c h
    refine lv_iconst (v := 0) E.x E.b d_Erm_isCovered_107 (by decide) ?_
    exact bt_Erm_isCovered_108 E hret o rc_18 σ hr_18 v1 v2 v4 v5 0 h w (lv_sub hl [0, 1, 2, 3, 4] rfl)
  ·
    replace h := ifF c h
    exact bt_Erm_isCovered_103 E hret o rc_18 σ hr_18 v1 v2 v4 v5 h w (lv_sub hl [0, 1, 2, 3, 4] rfl)
def L_Erm_isCovered_18 : Nat → Sg → Int32 → Int32 → Int32 → Int32 → Option (Int32)
  | 0, _, _, _, _, _ => none
  | n + 1, σ, v1, v2, v3, v4 => if 3 ≤ v4 then (F_Erm_isCovered_141 σ v3) else (if v3 = 0 then (F_Erm_isCovered_141 σ v3) else (bd (F_Erm_weightOf σ v4 v1 v2) (fun o17 => bd (F_Erm_to σ v4) (fun o18 => ck (inb o18 3) (bd (F_Erm_from σ v4) (fun o20 => ck (inb o20 3) (lt ((σ.2.2.1 40 o18.toNatClampNeg) - (σ.2.2.1 40 o20.toNatClampNeg)) (fun y22 => bd (F_Erm_to σ v4) (fun o23 => ck (inb o23 3) (bd (F_Erm_from σ v4) (fun o25 => ck (inb o25 3) (lt ((σ.2.2.1 41 o23.toNatClampNeg) - (σ.2.2.1 41 o25.toNatClampNeg)) (fun y27 => if y27 = 0 then (if 0 < y22 then (F_Erm_isCovered_103 (L_Erm_isCovered_18 n) σ v1 v2 v4 o17) else (F_Erm_isCovered_98 (L_Erm_isCovered_18 n) σ v1 v2 v4 o17 y27)) else (F_Erm_isCovered_98 (L_Erm_isCovered_18 n) σ v1 v2 v4 o17 y27))))))))))))))
set_option maxRecDepth 10000 in
set_option maxHeartbeats 4000000 in
theorem lt_Erm_isCovered_18 {p : Program} {l : Launch} {e : Env} {R : Room} {s : State} {m : MethodId} {args : Array Value} {below : List Frame} {meth : Method} {c : Code} {D : va_G} {τ : ClassId × ClassId × ClassId} {B : Nat} {A : Nat → Prop} {ad : Nat → Nat} (E : Cx p R s m args meth c prog_16_method_11_code 10 "DrawingMachineModel$EdgeRasterModel" 4 D τ B A) (hret : meth.sig.returnType = (some .boolean)) (o : Int32) (σ : Sg) : ∀ (n : Nat) (v1 : Int32) (v2 : Int32) (v3 : Int32) (v4 : Int32) (H : Heap) (locs : List Loc) (ls : Array Slot), L_Erm_isCovered_18 n σ v1 v2 v3 v4 = some o → Wd s D A (wdM τ σ ad) H locs → lv_has ls 10 [(0, .ref (ad 63)), (1, .int v1), (2, .int v2), (3, .int v3), (4, .int v4)] → W p l e R s m args below meth c H locs 0 0 (QI below args s A D τ (wdM τ σ ad) o) (F0 m 18 ls []) := by
  intro n
  induction n with
  | zero =>
    intro v1 v2 v3 v4 H locs ls h w hl
    cases h
  | succ n hr_18 =>
    intro v1 v2 v3 v4 H locs ls h w hl
    refine lv_iload E.x E.b d_Erm_isCovered_18 (lv_at hl 4 rfl) ?_
    refine lv_iconst (v := 3) E.x E.b d_Erm_isCovered_20 (by decide) ?_
    refine lv_icmp_ge (tgt := 141) E.x E.b d_Erm_isCovered_21 (by decide) (fun c => ?_) (fun c => ?_)
    ·
      replace h := ifT c h
      exact bt_Erm_isCovered_141 E hret o σ v3 h w (lv_sub hl [3] rfl)
    ·
      replace h := ifF c h
      refine lv_iload_n E.x E.b d_Erm_isCovered_24 rfl (lv_at hl 3 rfl) ?_
      refine lv_if_eq (tgt := 141) E.x E.b d_Erm_isCovered_25 (by decide) (fun c => ?_) (fun c => ?_)
      ·
        replace h := ifT c h
        exact bt_Erm_isCovered_141 E hret o σ v3 h w (lv_sub hl [3] rfl)
      ·
        replace h := ifF c h
        refine lv_aload_n E.x E.b d_Erm_isCovered_28 rfl (lv_at hl 0 rfl) ?_
        refine lv_iload E.x E.b d_Erm_isCovered_29 (lv_at hl 4 rfl) ?_
        refine lv_iload_n E.x E.b d_Erm_isCovered_31 rfl (lv_at hl 1 rfl) ?_
        refine lv_iload_n E.x E.b d_Erm_isCovered_32 rfl (lv_at hl 2 rfl) ?_
        obtain ⟨o17, h_o17, h⟩ := bd_some h
        refine clV_Erm_weightOf E w (x0 := v4) (x1 := v1) (x2 := v2) h_o17 k2408 (by decide) hl.1 (Nat.le_of_ble_eq_true rfl) d_Erm_isCovered_33 (fun H locs w => ?_)
        refine lv_lstore (lv' := [(5, .long o17), (0, .ref (ad 63)), (1, .int v1), (2, .int v2), (3, .int v3), (4, .int v4)]) E.x E.b d_Erm_isCovered_36 hl (by decide) rfl (fun ls hl => ?_)
        refine lv_aload_n E.x E.b d_Erm_isCovered_38 rfl (lv_at hl 1 rfl) ?_
        refine gM_Erm_cornerX E w k1668 d_Erm_isCovered_39 ?_
        refine lv_aload_n E.x E.b d_Erm_isCovered_42 rfl (lv_at hl 1 rfl) ?_
        refine lv_iload E.x E.b d_Erm_isCovered_43 (lv_at hl 5 rfl) ?_
        obtain ⟨o18, h_o18, h⟩ := bd_some h
        refine clV_Erm_to E w (x0 := v4) h_o18 k2416 (by decide) hl.1 (Nat.le_of_ble_eq_true rfl) d_Erm_isCovered_45 (fun H locs w => ?_)
        obtain ⟨c19, h⟩ := ck_some h
        refine ialM E w (k := 40) (by decide) c19 d_Erm_isCovered_48 ?_
        refine lv_aload_n E.x E.b d_Erm_isCovered_49 rfl (lv_at hl 1 rfl) ?_
        refine gM_Erm_cornerX E w k1668 d_Erm_isCovered_50 ?_
        refine lv_aload_n E.x E.b d_Erm_isCovered_53 rfl (lv_at hl 1 rfl) ?_
        refine lv_iload E.x E.b d_Erm_isCovered_54 (lv_at hl 5 rfl) ?_
        obtain ⟨o20, h_o20, h⟩ := bd_some h
        refine clV_Erm_from E w (x0 := v4) h_o20 k2412 (by decide) hl.1 (Nat.le_of_ble_eq_true rfl) d_Erm_isCovered_56 (fun H locs w => ?_)
        obtain ⟨c21, h⟩ := ck_some h
        refine ialM E w (k := 40) (by decide) c21 d_Erm_isCovered_59 ?_
        refine lv_isub E.x E.b d_Erm_isCovered_60 ?_
        obtain ⟨y22, e_y22, h⟩ := lt_some h
        refine wi_e (v := y22) e_y22 ?_
        refine lv_istore (lv' := [(7, .int y22), (5, .long o17), (0, .ref (ad 63)), (1, .int v1), (2, .int v2), (3, .int v3), (4, .int v4)]) E.x E.b d_Erm_isCovered_61 hl (by decide) rfl (fun ls hl => ?_)
        refine lv_aload_n E.x E.b d_Erm_isCovered_63 rfl (lv_at hl 2 rfl) ?_
        refine gM_Erm_cornerY E w k1670 d_Erm_isCovered_64 ?_
        refine lv_aload_n E.x E.b d_Erm_isCovered_67 rfl (lv_at hl 2 rfl) ?_
        refine lv_iload E.x E.b d_Erm_isCovered_68 (lv_at hl 6 rfl) ?_
        obtain ⟨o23, h_o23, h⟩ := bd_some h
        refine clV_Erm_to E w (x0 := v4) h_o23 k2416 (by decide) hl.1 (Nat.le_of_ble_eq_true rfl) d_Erm_isCovered_70 (fun H locs w => ?_)
        obtain ⟨c24, h⟩ := ck_some h
        refine ialM E w (k := 41) (by decide) c24 d_Erm_isCovered_73 ?_
        refine lv_aload_n E.x E.b d_Erm_isCovered_74 rfl (lv_at hl 2 rfl) ?_
        refine gM_Erm_cornerY E w k1670 d_Erm_isCovered_75 ?_
        refine lv_aload_n E.x E.b d_Erm_isCovered_78 rfl (lv_at hl 2 rfl) ?_
        refine lv_iload E.x E.b d_Erm_isCovered_79 (lv_at hl 6 rfl) ?_
        obtain ⟨o25, h_o25, h⟩ := bd_some h
        refine clV_Erm_from E w (x0 := v4) h_o25 k2412 (by decide) hl.1 (Nat.le_of_ble_eq_true rfl) d_Erm_isCovered_81 (fun H locs w => ?_)
        obtain ⟨c26, h⟩ := ck_some h
        refine ialM E w (k := 41) (by decide) c26 d_Erm_isCovered_84 ?_
        refine lv_isub E.x E.b d_Erm_isCovered_85 ?_
        obtain ⟨y27, e_y27, h⟩ := lt_some h
        refine wi_e (v := y27) e_y27 ?_
        refine lv_istore (lv' := [(8, .int y27), (7, .int y22), (5, .long o17), (0, .ref (ad 63)), (1, .int v1), (2, .int v2), (3, .int v3), (4, .int v4)]) E.x E.b d_Erm_isCovered_86 hl (by decide) rfl (fun ls hl => ?_)
        refine lv_iload E.x E.b d_Erm_isCovered_88 (lv_at hl 0 rfl) ?_
        refine lv_if_ne (tgt := 98) E.x E.b d_Erm_isCovered_90 (by decide) (fun c => ?_) (fun c => ?_)
        ·
          replace h := ifF c h
          exact bt_Erm_isCovered_98 E hret o (L_Erm_isCovered_18 n) σ hr_18 v1 v2 v4 o17 y27 h w (lv_sub hl [3, 4, 5, 7, 2, 0] rfl)
        ·
          replace h := ifT c h
          refine lv_iload E.x E.b d_Erm_isCovered_93 (lv_at hl 1 rfl) ?_
          refine lv_if_gt (tgt := 103) E.x E.b d_Erm_isCovered_95 (by decide) (fun c => ?_) (fun c => ?_)
          ·
            replace h := ifT c h
            exact bt_Erm_isCovered_103 E hret o (L_Erm_isCovered_18 n) σ hr_18 v1 v2 v4 o17 h w (lv_sub hl [3, 4, 5, 7, 2] rfl)
          ·
            replace h := ifF c h
            exact bt_Erm_isCovered_98 E hret o (L_Erm_isCovered_18 n) σ hr_18 v1 v2 v4 o17 y27 h w (lv_sub hl [3, 4, 5, 7, 2, 0] rfl)
def F_Erm_isCovered_14 (σ : Sg) (v1 : Int32) (v2 : Int32) (s0 : Int32) : Option (Int32) := L_Erm_isCovered_18 100000 σ v1 v2 s0 0
set_option maxRecDepth 10000 in
set_option maxHeartbeats 4000000 in
theorem bt_Erm_isCovered_14 {p : Program} {l : Launch} {e : Env} {R : Room} {s : State} {m : MethodId} {args : Array Value} {below : List Frame} {meth : Method} {c : Code} {D : va_G} {τ : ClassId × ClassId × ClassId} {B : Nat} {A : Nat → Prop} {ad : Nat → Nat} (E : Cx p R s m args meth c prog_16_method_11_code 10 "DrawingMachineModel$EdgeRasterModel" 4 D τ B A) (hret : meth.sig.returnType = (some .boolean)) (o : Int32) (σ : Sg) (v1 : Int32) (v2 : Int32) (s0 : Int32) (h : F_Erm_isCovered_14 σ v1 v2 s0 = some o) {H : Heap} {locs : List Loc} {ls : Array Slot} (w : Wd s D A (wdM τ σ ad) H locs) (hl : lv_has ls 10 [(0, .ref (ad 63)), (1, .int v1), (2, .int v2)]) : W p l e R s m args below meth c H locs 0 0 (QI below args s A D τ (wdM τ σ ad) o) (F0 m 14 ls [.int s0]) := by
  refine lv_istore_n (lv' := [(3, .int s0), (0, .ref (ad 63)), (1, .int v1), (2, .int v2)]) E.x E.b d_Erm_isCovered_14 rfl hl (by decide) rfl (fun ls hl => ?_)
  refine lv_iconst (v := 0) E.x E.b d_Erm_isCovered_15 (by decide) ?_
  refine lv_istore (lv' := [(4, .int 0), (3, .int s0), (0, .ref (ad 63)), (1, .int v1), (2, .int v2)]) E.x E.b d_Erm_isCovered_16 hl (by decide) rfl (fun ls hl => ?_)
  exact lt_Erm_isCovered_18 E hret o σ 100000 v1 v2 s0 0 _ _ _ h w (lv_sub hl [2, 3, 4, 1, 0] rfl)
def F_Erm_isCovered (σ : Sg) (x0 : Int32) (x1 : Int32) : Option (Int32) := bd (F_Erm_whole σ) (fun o28 => if o28 = 0 then (F_Erm_isCovered_14 σ x0 x1 0) else (F_Erm_isCovered_14 σ x0 x1 1))
set_option maxRecDepth 10000 in
set_option maxHeartbeats 4000000 in
theorem c_Erm_isCovered (l : Launch) (D : va_G) (τ : ClassId × ClassId × ClassId) (B : Nat) (σ : Sg) (ad : Nat → Nat) (x0 : Int32) (x1 : Int32) (o : Int32) (h : F_Erm_isCovered σ x0 x1 = some o) : MI l y_Erm_isCovered (Cond.code y_Erm_isCovered prog_16_method_11_code 10 (some .boolean)) 4 D τ B [.ref (ad 63), .int x0, .int x1] (wdM τ σ ad) (wdM τ σ ad) o := by
  refine en_i (by decide) (Nat.le_of_ble_eq_true rfl) ?_
  intro p e R s m args below meth c H locs ls A E hret w hl
  have E : Cx p R s m args meth c prog_16_method_11_code 10 "DrawingMachineModel$EdgeRasterModel" 4 D τ B A := E
  have hl : lv_has ls 10 [(0, .ref (ad 63)), (1, .int x0), (2, .int x1)] := hl
  refine lv_aload_n E.x E.b d_Erm_isCovered_0 rfl (lv_at hl 0 rfl) ?_
  obtain ⟨o28, h_o28, h⟩ := bd_some h
  refine clV_Erm_whole E w h_o28 k2400 (by decide) hl.1 (Nat.le_of_ble_eq_true rfl) d_Erm_isCovered_1 (fun H locs w => ?_)
  refine lv_lconst (v := 0) E.x E.b d_Erm_isCovered_4 (by decide) ?_
  refine W.lcmp E.x E.b d_Erm_isCovered_5 ?_
  refine lv_if_eq (tgt := 13) E.x E.b d_Erm_isCovered_6 (by decide) (fun c => ?_) (fun c => ?_)
  ·
    replace h := ifT (lgc_eq.mp c) h
    refine lv_iconst (v := 0) E.x E.b d_Erm_isCovered_13 (by decide) ?_
    exact bt_Erm_isCovered_14 E hret o σ x0 x1 0 h w (lv_sub hl [0, 1, 2] rfl)
  ·
    replace h := ifF (fun h9 => c (lgc_eq.mpr h9)) h
    refine lv_iconst (v := 1) E.x E.b d_Erm_isCovered_9 (by decide) ?_
    refine lv_goto (tgt := 14) E.x E.b d_Erm_isCovered_10 (by decide) ?_
    exact bt_Erm_isCovered_14 E hret o σ x0 x1 1 h w (lv_sub hl [0, 1, 2] rfl)
theorem clVN_Erm_isCovered {p : Program} {l : Launch} {e : Env} {R : Room} {s : State} {m : MethodId} {args : Array Value} {below : List Frame} {meth : Method} {c : Code} {H : Heap} {locs : List Loc} {Q : State → Prop} {cc : ByteArray} {nL pc lev : Nat} {own : String} {D : va_G} {τ : ClassId × ClassId × ClassId} {B : Nat} {A : Nat → Prop} {σ : Sg} {ad : Nat → Nat} {ls : Array Slot} {rest : List Value} (E : Cx p R s m args meth c cc nL own lev D τ B A) (w : Wd s D A (wdM τ σ ad) H locs) {x0 : Int32} {x1 : Int32} {o : Int32} (h : F_Erm_isCovered σ x0 x1 = some o) {index : Nat} {host : String} (hlk : Cond.methodLinkNest own index y_Erm_isCovered host ∈ nw) (hlev : 4 < lev) (hsz : ls.size = nL) (hr : (rest.map fun v => v.category).sum ≤ 8) (hd : decode cc pc = .ok (.invokevirtual index, 3)) (kk : ∀ (H1 : Heap) (locs1 : List Loc), Wd s D A (wdM τ σ ad) H1 locs1 → W p l e R s m args below meth c H1 locs1 0 0 Q (F0 m (pc + 3) ls (.int o :: rest))) : W p l e R s m args below meth c H locs 0 0 Q (F0 m pc ls (.int x1 :: .int x0 :: .ref (ad 63) :: rest)) :=
  cr_i w E.C (va_runVN (As := [.int x0, .int x1]) (rest := rest) E.fix (c_Erm_isCovered l D τ B σ ad x0 x1 o h H.size) ⟨va_cnB 2 E.w (tw_good k2399) rfl rfl rfl (E.C.2.1.1 _ hlk) (E.w _ k19) (by decide +kernel) (E.rm hlev (by decide)), E.w _ k2398, E.w _ ks101⟩ (wd_preV w E.C [.int x0, .int x1] rcM_Erm rfl) rfl rfl hsz rfl (lv_room hr) hd ⟨Nat.zero_le _, Nat.zero_le _⟩) kk

theorem d_Erm_value_0 : decode prog_16_method_5_code 0 = .ok (.aload_n 0, 1) := by decide +kernel
theorem d_Erm_value_1 : decode prog_16_method_5_code 1 = .ok (.iload_n 1, 1) := by decide +kernel
theorem d_Erm_value_2 : decode prog_16_method_5_code 2 = .ok (.iconst 0, 1) := by decide +kernel
theorem d_Erm_value_3 : decode prog_16_method_5_code 3 = .ok (.iconst 2, 1) := by decide +kernel
theorem d_Erm_value_4 : decode prog_16_method_5_code 4 = .ok (.invokestatic 29, 3) := by decide +kernel
theorem d_Erm_value_7 : decode prog_16_method_5_code 7 = .ok (.ifCond .eq 13, 3) := by decide +kernel
theorem d_Erm_value_10 : decode prog_16_method_5_code 10 = .ok (.iload_n 2, 1) := by decide +kernel
theorem d_Erm_value_11 : decode prog_16_method_5_code 11 = .ok (.iconst 0, 1) := by decide +kernel
theorem d_Erm_value_12 : decode prog_16_method_5_code 12 = .ok (.bipush 27, 2) := by decide +kernel
theorem d_Erm_value_14 : decode prog_16_method_5_code 14 = .ok (.invokestatic 29, 3) := by decide +kernel
theorem d_Erm_value_17 : decode prog_16_method_5_code 17 = .ok (.ifCond .ne 7, 3) := by decide +kernel
theorem d_Erm_value_20 : decode prog_16_method_5_code 20 = .ok (.iconst 1, 1) := by decide +kernel
theorem d_Erm_value_21 : decode prog_16_method_5_code 21 = .ok (.goto 4, 3) := by decide +kernel
theorem d_Erm_value_24 : decode prog_16_method_5_code 24 = .ok (.iconst 0, 1) := by decide +kernel
theorem d_Erm_value_25 : decode prog_16_method_5_code 25 = .ok (.iconst 0, 1) := by decide +kernel
theorem d_Erm_value_26 : decode prog_16_method_5_code 26 = .ok (.invokevirtual 35, 3) := by decide +kernel
theorem d_Erm_value_29 : decode prog_16_method_5_code 29 = .ok (.ifCond .eq 4, 3) := by decide +kernel
theorem d_Erm_value_32 : decode prog_16_method_5_code 32 = .ok (.return_, 1) := by decide +kernel
theorem d_Erm_value_33 : decode prog_16_method_5_code 33 = .ok (.aload_n 0, 1) := by decide +kernel
theorem d_Erm_value_34 : decode prog_16_method_5_code 34 = .ok (.getfield 22, 3) := by decide +kernel
theorem d_Erm_value_37 : decode prog_16_method_5_code 37 = .ok (.bipush 28, 2) := by decide +kernel
theorem d_Erm_value_39 : decode prog_16_method_5_code 39 = .ok (.iload_n 1, 1) := by decide +kernel
theorem d_Erm_value_40 : decode prog_16_method_5_code 40 = .ok (.imul, 1) := by decide +kernel
theorem d_Erm_value_41 : decode prog_16_method_5_code 41 = .ok (.iload_n 2, 1) := by decide +kernel
theorem d_Erm_value_42 : decode prog_16_method_5_code 42 = .ok (.iadd, 1) := by decide +kernel
theorem d_Erm_value_43 : decode prog_16_method_5_code 43 = .ok (.iload_n 3, 1) := by decide +kernel
theorem d_Erm_value_44 : decode prog_16_method_5_code 44 = .ok (.iastore, 1) := by decide +kernel
theorem d_Erm_value_45 : decode prog_16_method_5_code 45 = .ok (.return_, 1) := by decide +kernel
def F_Erm_value_25 (σ : Sg) (v1 : Int32) (v2 : Int32) (v3 : Int32) (s1 : Int32) : Option (Sg) := bd (F_Erm_refuse σ s1 0) (fun o6 => if o6.2 = 0 then (ck (inb ((28 * v1) + v2) 84) (lt (sA o6.1 44 (upd (o6.1.2.2.1 44) ((28 * v1) + v2).toNatClampNeg v3)) (fun σ8 => some σ8))) else (some o6.1))
set_option maxRecDepth 10000 in
set_option maxHeartbeats 4000000 in
theorem bt_Erm_value_25 {p : Program} {l : Launch} {e : Env} {R : Room} {s : State} {m : MethodId} {args : Array Value} {below : List Frame} {meth : Method} {c : Code} {D : va_G} {τ : ClassId × ClassId × ClassId} {B : Nat} {A : Nat → Prop} {ad : Nat → Nat} (E : Cx p R s m args meth c prog_16_method_5_code 4 "DrawingMachineModel$EdgeRasterModel" 1 D τ B A) (hret : meth.sig.returnType = none) (o : Sg) (σ : Sg) (v1 : Int32) (v2 : Int32) (v3 : Int32) (s1 : Int32) (h : F_Erm_value_25 σ v1 v2 v3 s1 = some o) {H : Heap} {locs : List Loc} {ls : Array Slot} (w : Wd s D A (wdM τ σ ad) H locs) (hl : lv_has ls 4 [(0, .ref (ad 63)), (1, .int v1), (2, .int v2), (3, .int v3)]) : W p l e R s m args below meth c H locs 0 0 (QV below args s A D τ (wdM τ o ad)) (F0 m 25 ls [.int s1, .ref (ad 63)]) := by
  refine lv_iconst (v := 0) E.x E.b d_Erm_value_25 (by decide) ?_
  obtain ⟨o6, h_o6, h⟩ := bd_some h
  refine clV_Erm_refuse E w (x0 := s1) (x1 := 0) h_o6 k2379 (by decide) hl.1 (Nat.le_of_ble_eq_true rfl) d_Erm_value_26 (fun H locs w => ?_)
  refine lv_if_eq (tgt := 33) E.x E.b d_Erm_value_29 (by decide) (fun c => ?_) (fun c => ?_)
  ·
    replace h := ifT c h
    refine lv_aload_n E.x E.b d_Erm_value_33 rfl (lv_at hl 0 rfl) ?_
    refine gM_Erm_values E w k1676 d_Erm_value_34 ?_
    refine lv_bipush (v := 28) E.x E.b d_Erm_value_37 (by decide) ?_
    refine lv_iload_n E.x E.b d_Erm_value_39 rfl (lv_at hl 1 rfl) ?_
    refine lv_imul E.x E.b d_Erm_value_40 ?_
    refine lv_iload_n E.x E.b d_Erm_value_41 rfl (lv_at hl 2 rfl) ?_
    refine lv_iadd E.x E.b d_Erm_value_42 ?_
    refine lv_iload_n E.x E.b d_Erm_value_43 rfl (lv_at hl 3 rfl) ?_
    obtain ⟨c7, h⟩ := ck_some h
    obtain ⟨σ8, e_σ8, h⟩ := lt_some h
    refine iasM E w (k := 44) (by decide) c7 e_σ8 d_Erm_value_44 (fun H locs w => ?_)
    obtain rfl := Option.some.inj h
    exact rt_v E w hret d_Erm_value_45
  ·
    replace h := ifF c h
    obtain rfl := Option.some.inj h
    exact rt_v E w hret d_Erm_value_32
def F_Erm_value_20 (σ : Sg) (v1 : Int32) (v2 : Int32) (v3 : Int32) : Option (Sg) := F_Erm_value_25 σ v1 v2 v3 1
set_option maxRecDepth 10000 in
set_option maxHeartbeats 4000000 in
theorem bt_Erm_value_20 {p : Program} {l : Launch} {e : Env} {R : Room} {s : State} {m : MethodId} {args : Array Value} {below : List Frame} {meth : Method} {c : Code} {D : va_G} {τ : ClassId × ClassId × ClassId} {B : Nat} {A : Nat → Prop} {ad : Nat → Nat} (E : Cx p R s m args meth c prog_16_method_5_code 4 "DrawingMachineModel$EdgeRasterModel" 1 D τ B A) (hret : meth.sig.returnType = none) (o : Sg) (σ : Sg) (v1 : Int32) (v2 : Int32) (v3 : Int32) (h : F_Erm_value_20 σ v1 v2 v3 = some o) {H : Heap} {locs : List Loc} {ls : Array Slot} (w : Wd s D A (wdM τ σ ad) H locs) (hl : lv_has ls 4 [(0, .ref (ad 63)), (1, .int v1), (2, .int v2), (3, .int v3)]) : W p l e R s m args below meth c H locs 0 0 (QV below args s A D τ (wdM τ o ad)) (F0 m 20 ls [.ref (ad 63)]) := by
  refine lv_iconst (v := 1) E.x E.b d_Erm_value_20 (by decide) ?_
  refine lv_goto (tgt := 25) E.x E.b d_Erm_value_21 (by decide) ?_
  exact bt_Erm_value_25 E hret o σ v1 v2 v3 1 h w (lv_sub hl [0, 1, 2, 3] rfl)
def F_Erm_value (σ : Sg) (x0 : Int32) (x1 : Int32) (x2 : Int32) : Option (Sg) := bd (F_Erm_in x0 0 2) (fun o9 => if o9 = 0 then (F_Erm_value_20 σ x0 x1 x2) else (bd (F_Erm_in x1 0 27) (fun o10 => if o10 = 0 then (F_Erm_value_20 σ x0 x1 x2) else (F_Erm_value_25 σ x0 x1 x2 0))))
set_option maxRecDepth 10000 in
set_option maxHeartbeats 4000000 in
theorem c_Erm_value (l : Launch) (D : va_G) (τ : ClassId × ClassId × ClassId) (B : Nat) (σ : Sg) (ad : Nat → Nat) (x0 : Int32) (x1 : Int32) (x2 : Int32) (o : Sg) (h : F_Erm_value σ x0 x1 x2 = some o) : MV l y_Erm_value (Cond.code y_Erm_value prog_16_method_5_code 4 none) 1 D τ B [.ref (ad 63), .int x0, .int x1, .int x2] (wdM τ σ ad) (wdM τ o ad) := by
  refine en_v (by decide) (Nat.le_of_ble_eq_true rfl) ?_
  intro p e R s m args below meth c H locs ls A E hret w hl
  have E : Cx p R s m args meth c prog_16_method_5_code 4 "DrawingMachineModel$EdgeRasterModel" 1 D τ B A := E
  have hl : lv_has ls 4 [(0, .ref (ad 63)), (1, .int x0), (2, .int x1), (3, .int x2)] := hl
  refine lv_aload_n E.x E.b d_Erm_value_0 rfl (lv_at hl 0 rfl) ?_
  refine lv_iload_n E.x E.b d_Erm_value_1 rfl (lv_at hl 1 rfl) ?_
  refine lv_iconst (v := 0) E.x E.b d_Erm_value_2 (by decide) ?_
  refine lv_iconst (v := 2) E.x E.b d_Erm_value_3 (by decide) ?_
  obtain ⟨o9, h_o9, h⟩ := bd_some h
  refine clS_Erm_in E w (x0 := x0) (x1 := 0) (x2 := 2) h_o9 k2374 (by decide) hl.1 (Nat.le_of_ble_eq_true rfl) d_Erm_value_4 (fun H locs w => ?_)
  refine lv_if_eq (tgt := 20) E.x E.b d_Erm_value_7 (by decide) (fun c => ?_) (fun c => ?_)
  ·
    replace h := ifT c h
    exact bt_Erm_value_20 E hret o σ x0 x1 x2 h w (lv_sub hl [0, 1, 2, 3] rfl)
  ·
    replace h := ifF c h
    refine lv_iload_n E.x E.b d_Erm_value_10 rfl (lv_at hl 2 rfl) ?_
    refine lv_iconst (v := 0) E.x E.b d_Erm_value_11 (by decide) ?_
    refine lv_bipush (v := 27) E.x E.b d_Erm_value_12 (by decide) ?_
    obtain ⟨o10, h_o10, h⟩ := bd_some h
    refine clS_Erm_in E w (x0 := x1) (x1 := 0) (x2 := 27) h_o10 k2374 (by decide) hl.1 (Nat.le_of_ble_eq_true rfl) d_Erm_value_14 (fun H locs w => ?_)
    refine lv_if_ne (tgt := 24) E.x E.b d_Erm_value_17 (by decide) (fun c => ?_) (fun c => ?_)
    ·
      replace h := ifF c h
      refine lv_iconst (v := 0) E.x E.b d_Erm_value_24 (by decide) ?_
      exact bt_Erm_value_25 E hret o σ x0 x1 x2 0 h w (lv_sub hl [0, 1, 2, 3] rfl)
    ·
      replace h := ifT c h
      exact bt_Erm_value_20 E hret o σ x0 x1 x2 h w (lv_sub hl [0, 1, 2, 3] rfl)
theorem clV_Erm_value {p : Program} {l : Launch} {e : Env} {R : Room} {s : State} {m : MethodId} {args : Array Value} {below : List Frame} {meth : Method} {c : Code} {H : Heap} {locs : List Loc} {Q : State → Prop} {cc : ByteArray} {nL pc lev : Nat} {own : String} {D : va_G} {τ : ClassId × ClassId × ClassId} {B : Nat} {A : Nat → Prop} {σ : Sg} {ad : Nat → Nat} {ls : Array Slot} {rest : List Value} (E : Cx p R s m args meth c cc nL own lev D τ B A) (w : Wd s D A (wdM τ σ ad) H locs) {x0 : Int32} {x1 : Int32} {x2 : Int32} {o : Sg} (h : F_Erm_value σ x0 x1 x2 = some o) {index : Nat} (hlk : Cond.methodLink own index y_Erm_value ∈ tw) (hlev : 1 < lev) (hsz : ls.size = nL) (hr : (rest.map fun v => v.category).sum ≤ 8) (hd : decode cc pc = .ok (.invokevirtual index, 3)) (kk : ∀ (H1 : Heap) (locs1 : List Loc), Wd s D A (wdM τ o ad) H1 locs1 → W p l e R s m args below meth c H1 locs1 0 0 Q (F0 m (pc + 3) ls (rest))) : W p l e R s m args below meth c H locs 0 0 Q (F0 m pc ls (.int x2 :: .int x1 :: .int x0 :: .ref (ad 63) :: rest)) :=
  cr_v w E.C (va_runV (As := [.int x0, .int x1, .int x2]) (rest := rest) E.fix (c_Erm_value l D τ B σ ad x0 x1 x2 o h H.size) (cwV 3 E.w (tw_pre (tw_good k2386) (l := [_, _, _, _]) (List.forall_mem_cons.mpr ⟨hlk, List.forall_mem_cons.mpr ⟨k2384, List.forall_mem_cons.mpr ⟨k2385, List.forall_mem_cons.mpr ⟨k19, fun _ h => absurd h List.not_mem_nil⟩⟩⟩⟩)) rfl rfl rfl (by decide +kernel) (E.rm hlev (by decide))) (wd_preV w E.C [.int x0, .int x1, .int x2] rcM_Erm rfl) rfl rfl hsz rfl (lv_room hr) hd ⟨Nat.zero_le _, Nat.zero_le _⟩) kk

theorem d_Vwm_cornerOf_0 : decode prog_20_method_24_code 0 = .ok (.iload_n 1, 1) := by decide +kernel
theorem d_Vwm_cornerOf_1 : decode prog_20_method_24_code 1 = .ok (.ifCond .ne 7, 3) := by decide +kernel
theorem d_Vwm_cornerOf_4 : decode prog_20_method_24_code 4 = .ok (.iconst 0, 1) := by decide +kernel
theorem d_Vwm_cornerOf_5 : decode prog_20_method_24_code 5 = .ok (.goto 6, 3) := by decide +kernel
theorem d_Vwm_cornerOf_8 : decode prog_20_method_24_code 8 = .ok (.iload_n 0, 1) := by decide +kernel
theorem d_Vwm_cornerOf_9 : decode prog_20_method_24_code 9 = .ok (.iload_n 1, 1) := by decide +kernel
theorem d_Vwm_cornerOf_10 : decode prog_20_method_24_code 10 = .ok (.iadd, 1) := by decide +kernel
theorem d_Vwm_cornerOf_11 : decode prog_20_method_24_code 11 = .ok (.ireturn, 1) := by decide +kernel
def F_Vwm_cornerOf_11  (s0 : Int32) : Option (Int32) := some s0
set_option maxRecDepth 10000 in
set_option maxHeartbeats 4000000 in
theorem bt_Vwm_cornerOf_11 {p : Program} {l : Launch} {e : Env} {R : Room} {s : State} {m : MethodId} {args : Array Value} {below : List Frame} {meth : Method} {c : Code} {D : va_G} {τ : ClassId × ClassId × ClassId} {B : Nat} {A : Nat → Prop} {ad : Nat → Nat} {σ0 : Sg} (E : Cx p R s m args meth c prog_20_method_24_code 2 "DrawingMachineModel$VertexWorkModel" 0 D τ B A) (hret : meth.sig.returnType = (some .int)) (o : Int32) (s0 : Int32) (h : F_Vwm_cornerOf_11 s0 = some o) {H : Heap} {locs : List Loc} {ls : Array Slot} (w : Wd s D A (wdM τ σ0 ad) H locs) (hl : lv_has ls 2 []) : W p l e R s m args below meth c H locs 0 0 (QI below args s A D τ (wdM τ σ0 ad) o) (F0 m 11 ls [.int s0]) := by
  obtain rfl := Option.some.inj h
  exact rt_i E w hret d_Vwm_cornerOf_11
def F_Vwm_cornerOf  (x0 : Int32) (x1 : Int32) : Option (Int32) := if x1 = 0 then (F_Vwm_cornerOf_11 0) else (F_Vwm_cornerOf_11 (x0 + x1))
set_option maxRecDepth 10000 in
set_option maxHeartbeats 4000000 in
theorem c_Vwm_cornerOf (l : Launch) (D : va_G) (τ : ClassId × ClassId × ClassId) (B : Nat) (σ0 : Sg) (ad : Nat → Nat) (x0 : Int32) (x1 : Int32) (o : Int32) (h : F_Vwm_cornerOf x0 x1 = some o) : MI l y_Vwm_cornerOf (Cond.code y_Vwm_cornerOf prog_20_method_24_code 2 (some .int)) 0 D τ B [.int x0, .int x1] (wdM τ σ0 ad) (wdM τ σ0 ad) o := by
  refine en_i (by decide) (Nat.le_of_ble_eq_true rfl) ?_
  intro p e R s m args below meth c H locs ls A E hret w hl
  have E : Cx p R s m args meth c prog_20_method_24_code 2 "DrawingMachineModel$VertexWorkModel" 0 D τ B A := E
  have hl : lv_has ls 2 [(0, .int x0), (1, .int x1)] := hl
  refine lv_iload_n E.x E.b d_Vwm_cornerOf_0 rfl (lv_at hl 1 rfl) ?_
  refine lv_if_ne (tgt := 8) E.x E.b d_Vwm_cornerOf_1 (by decide) (fun c => ?_) (fun c => ?_)
  ·
    replace h := ifF c h
    refine lv_iload_n E.x E.b d_Vwm_cornerOf_8 rfl (lv_at hl 0 rfl) ?_
    refine lv_iload_n E.x E.b d_Vwm_cornerOf_9 rfl (lv_at hl 1 rfl) ?_
    refine lv_iadd E.x E.b d_Vwm_cornerOf_10 ?_
    exact bt_Vwm_cornerOf_11 E hret o (x0 + x1) h w (lv_sub hl [] rfl)
  ·
    replace h := ifT c h
    refine lv_iconst (v := 0) E.x E.b d_Vwm_cornerOf_4 (by decide) ?_
    refine lv_goto (tgt := 11) E.x E.b d_Vwm_cornerOf_5 (by decide) ?_
    exact bt_Vwm_cornerOf_11 E hret o 0 h w (lv_sub hl [] rfl)
theorem clS_Vwm_cornerOf {p : Program} {l : Launch} {e : Env} {R : Room} {s : State} {m : MethodId} {args : Array Value} {below : List Frame} {meth : Method} {c : Code} {H : Heap} {locs : List Loc} {Q : State → Prop} {cc : ByteArray} {nL pc lev : Nat} {own : String} {D : va_G} {τ : ClassId × ClassId × ClassId} {B : Nat} {A : Nat → Prop} {σ : Sg} {ad : Nat → Nat} {ls : Array Slot} {rest : List Value} (E : Cx p R s m args meth c cc nL own lev D τ B A) (w : Wd s D A (wdM τ σ ad) H locs) {x0 : Int32} {x1 : Int32} {o : Int32} (h : F_Vwm_cornerOf x0 x1 = some o) {index : Nat} (hlk : Cond.methodLink own index y_Vwm_cornerOf ∈ tw) (hlev : 0 < lev) (hsz : ls.size = nL) (hr : (rest.map fun v => v.category).sum ≤ 8) (hd : decode cc pc = .ok (.invokestatic index, 3)) (kk : ∀ (H1 : Heap) (locs1 : List Loc), Wd s D A (wdM τ σ ad) H1 locs1 → W p l e R s m args below meth c H1 locs1 0 0 Q (F0 m (pc + 3) ls (.int o :: rest))) : W p l e R s m args below meth c H locs 0 0 Q (F0 m pc ls (.int x1 :: .int x0 :: rest)) :=
  cr_i w E.C (va_runS (As := [.int x0, .int x1]) (rest := rest) E.fix (c_Vwm_cornerOf l D τ B σ ad x0 x1 o h H.size) (va_cwS 2 E.w (tw_pre (tw_good k2361) (l := [_, _, _]) (List.forall_mem_cons.mpr ⟨hlk, List.forall_mem_cons.mpr ⟨k2360, List.forall_mem_cons.mpr ⟨k18, fun _ h => absurd h List.not_mem_nil⟩⟩⟩)) rfl rfl rfl (by decide +kernel) (E.rm hlev (by decide))) (wd_pre w E.C [.int x0, .int x1]) rfl rfl hsz rfl (lv_room hr) hd ⟨Nat.zero_le _, Nat.zero_le _⟩) kk

theorem d_Vwm_got_0 : decode prog_20_method_27_code 0 = .ok (.aload_n 0, 1) := by decide +kernel
theorem d_Vwm_got_1 : decode prog_20_method_27_code 1 = .ok (.iload_n 1, 1) := by decide +kernel
theorem d_Vwm_got_2 : decode prog_20_method_27_code 2 = .ok (.iconst 0, 1) := by decide +kernel
theorem d_Vwm_got_3 : decode prog_20_method_27_code 3 = .ok (.aload_n 0, 1) := by decide +kernel
theorem d_Vwm_got_4 : decode prog_20_method_27_code 4 = .ok (.getfield 64, 3) := by decide +kernel
theorem d_Vwm_got_7 : decode prog_20_method_27_code 7 = .ok (.iconst 1, 1) := by decide +kernel
theorem d_Vwm_got_8 : decode prog_20_method_27_code 8 = .ok (.isub, 1) := by decide +kernel
theorem d_Vwm_got_9 : decode prog_20_method_27_code 9 = .ok (.invokestatic 38, 3) := by decide +kernel
theorem d_Vwm_got_12 : decode prog_20_method_27_code 12 = .ok (.ifCond .ne 7, 3) := by decide +kernel
theorem d_Vwm_got_15 : decode prog_20_method_27_code 15 = .ok (.iconst 1, 1) := by decide +kernel
theorem d_Vwm_got_16 : decode prog_20_method_27_code 16 = .ok (.goto 4, 3) := by decide +kernel
theorem d_Vwm_got_19 : decode prog_20_method_27_code 19 = .ok (.iconst 0, 1) := by decide +kernel
theorem d_Vwm_got_20 : decode prog_20_method_27_code 20 = .ok (.iload_n 2, 1) := by decide +kernel
theorem d_Vwm_got_21 : decode prog_20_method_27_code 21 = .ok (.iconst 0, 1) := by decide +kernel
theorem d_Vwm_got_22 : decode prog_20_method_27_code 22 = .ok (.iconst 2, 1) := by decide +kernel
theorem d_Vwm_got_23 : decode prog_20_method_27_code 23 = .ok (.invokestatic 38, 3) := by decide +kernel
theorem d_Vwm_got_26 : decode prog_20_method_27_code 26 = .ok (.ifCond .eq 13, 3) := by decide +kernel
theorem d_Vwm_got_29 : decode prog_20_method_27_code 29 = .ok (.iload_n 3, 1) := by decide +kernel
theorem d_Vwm_got_30 : decode prog_20_method_27_code 30 = .ok (.iconst 0, 1) := by decide +kernel
theorem d_Vwm_got_31 : decode prog_20_method_27_code 31 = .ok (.bipush 31, 2) := by decide +kernel
theorem d_Vwm_got_33 : decode prog_20_method_27_code 33 = .ok (.invokestatic 38, 3) := by decide +kernel
theorem d_Vwm_got_36 : decode prog_20_method_27_code 36 = .ok (.ifCond .ne 7, 3) := by decide +kernel
theorem d_Vwm_got_39 : decode prog_20_method_27_code 39 = .ok (.iconst 1, 1) := by decide +kernel
theorem d_Vwm_got_40 : decode prog_20_method_27_code 40 = .ok (.goto 4, 3) := by decide +kernel
theorem d_Vwm_got_43 : decode prog_20_method_27_code 43 = .ok (.iconst 0, 1) := by decide +kernel
theorem d_Vwm_got_44 : decode prog_20_method_27_code 44 = .ok (.invokevirtual 42, 3) := by decide +kernel
theorem d_Vwm_got_47 : decode prog_20_method_27_code 47 = .ok (.ifCond .eq 5, 3) := by decide +kernel
theorem d_Vwm_got_50 : decode prog_20_method_27_code 50 = .ok (.iconst 0, 1) := by decide +kernel
theorem d_Vwm_got_51 : decode prog_20_method_27_code 51 = .ok (.ireturn, 1) := by decide +kernel
theorem d_Vwm_got_52 : decode prog_20_method_27_code 52 = .ok (.iload_n 1, 1) := by decide +kernel
theorem d_Vwm_got_53 : decode prog_20_method_27_code 53 = .ok (.iload_n 2, 1) := by decide +kernel
theorem d_Vwm_got_54 : decode prog_20_method_27_code 54 = .ok (.invokestatic 120, 3) := by decide +kernel
theorem d_Vwm_got_57 : decode prog_20_method_27_code 57 = .ok (.istore 4, 2) := by decide +kernel
theorem d_Vwm_got_59 : decode prog_20_method_27_code 59 = .ok (.iload_n 3, 1) := by decide +kernel
theorem d_Vwm_got_60 : decode prog_20_method_27_code 60 = .ok (.iconst 4, 1) := by decide +kernel
theorem d_Vwm_got_61 : decode prog_20_method_27_code 61 = .ok (.if_icmp .ge 17, 3) := by decide +kernel
theorem d_Vwm_got_64 : decode prog_20_method_27_code 64 = .ok (.aload_n 0, 1) := by decide +kernel
theorem d_Vwm_got_65 : decode prog_20_method_27_code 65 = .ok (.getfield 25, 3) := by decide +kernel
theorem d_Vwm_got_68 : decode prog_20_method_27_code 68 = .ok (.iconst 4, 1) := by decide +kernel
theorem d_Vwm_got_69 : decode prog_20_method_27_code 69 = .ok (.iload 4, 2) := by decide +kernel
theorem d_Vwm_got_71 : decode prog_20_method_27_code 71 = .ok (.imul, 1) := by decide +kernel
theorem d_Vwm_got_72 : decode prog_20_method_27_code 72 = .ok (.iload_n 3, 1) := by decide +kernel
theorem d_Vwm_got_73 : decode prog_20_method_27_code 73 = .ok (.iadd, 1) := by decide +kernel
theorem d_Vwm_got_74 : decode prog_20_method_27_code 74 = .ok (.iaload, 1) := by decide +kernel
theorem d_Vwm_got_75 : decode prog_20_method_27_code 75 = .ok (.goto 15, 3) := by decide +kernel
theorem d_Vwm_got_78 : decode prog_20_method_27_code 78 = .ok (.aload_n 0, 1) := by decide +kernel
theorem d_Vwm_got_79 : decode prog_20_method_27_code 79 = .ok (.getfield 19, 3) := by decide +kernel
theorem d_Vwm_got_82 : decode prog_20_method_27_code 82 = .ok (.bipush 32, 2) := by decide +kernel
theorem d_Vwm_got_84 : decode prog_20_method_27_code 84 = .ok (.iload 4, 2) := by decide +kernel
theorem d_Vwm_got_86 : decode prog_20_method_27_code 86 = .ok (.imul, 1) := by decide +kernel
theorem d_Vwm_got_87 : decode prog_20_method_27_code 87 = .ok (.iload_n 3, 1) := by decide +kernel
theorem d_Vwm_got_88 : decode prog_20_method_27_code 88 = .ok (.iadd, 1) := by decide +kernel
theorem d_Vwm_got_89 : decode prog_20_method_27_code 89 = .ok (.iaload, 1) := by decide +kernel
theorem d_Vwm_got_90 : decode prog_20_method_27_code 90 = .ok (.ireturn, 1) := by decide +kernel
def F_Vwm_got_90 (σ : Sg) (s0 : Int32) : Option (Sg × Int32) := some (σ, s0)
set_option maxRecDepth 10000 in
set_option maxHeartbeats 4000000 in
theorem bt_Vwm_got_90 {p : Program} {l : Launch} {e : Env} {R : Room} {s : State} {m : MethodId} {args : Array Value} {below : List Frame} {meth : Method} {c : Code} {D : va_G} {τ : ClassId × ClassId × ClassId} {B : Nat} {A : Nat → Prop} {ad : Nat → Nat} (E : Cx p R s m args meth c prog_20_method_27_code 5 "DrawingMachineModel$VertexWorkModel" 1 D τ B A) (hret : meth.sig.returnType = (some .int)) (o : Sg × Int32) (σ : Sg) (s0 : Int32) (h : F_Vwm_got_90 σ s0 = some o) {H : Heap} {locs : List Loc} {ls : Array Slot} (w : Wd s D A (wdM τ σ ad) H locs) (hl : lv_has ls 5 []) : W p l e R s m args below meth c H locs 0 0 (QI below args s A D τ (wdM τ o.1 ad) o.2) (F0 m 90 ls [.int s0]) := by
  obtain rfl := Option.some.inj h
  exact rt_i E w hret d_Vwm_got_90
def F_Vwm_got_44 (σ : Sg) (v1 : Int32) (v2 : Int32) (v3 : Int32) (s1 : Int32) (s2 : Int32) : Option (Sg × Int32) := bd (F_Vwm_refuse σ s1 s2) (fun o8 => if o8.2 = 0 then (bd (F_Vwm_cornerOf v1 v2) (fun o9 => if 4 ≤ v3 then (ck (inb ((32 * o9) + v3) 256) (F_Vwm_got_90 o8.1 (o8.1.2.2.1 37 ((32 * o9) + v3).toNatClampNeg))) else (ck (inb ((4 * o9) + v3) 32) (F_Vwm_got_90 o8.1 (o8.1.2.2.1 39 ((4 * o9) + v3).toNatClampNeg))))) else (some (o8.1, 0)))
set_option maxRecDepth 10000 in
set_option maxHeartbeats 4000000 in
theorem bt_Vwm_got_44 {p : Program} {l : Launch} {e : Env} {R : Room} {s : State} {m : MethodId} {args : Array Value} {below : List Frame} {meth : Method} {c : Code} {D : va_G} {τ : ClassId × ClassId × ClassId} {B : Nat} {A : Nat → Prop} {ad : Nat → Nat} (E : Cx p R s m args meth c prog_20_method_27_code 5 "DrawingMachineModel$VertexWorkModel" 1 D τ B A) (hret : meth.sig.returnType = (some .int)) (o : Sg × Int32) (σ : Sg) (v1 : Int32) (v2 : Int32) (v3 : Int32) (s1 : Int32) (s2 : Int32) (h : F_Vwm_got_44 σ v1 v2 v3 s1 s2 = some o) {H : Heap} {locs : List Loc} {ls : Array Slot} (w : Wd s D A (wdM τ σ ad) H locs) (hl : lv_has ls 5 [(0, .ref (ad 62)), (1, .int v1), (2, .int v2), (3, .int v3)]) : W p l e R s m args below meth c H locs 0 0 (QI below args s A D τ (wdM τ o.1 ad) o.2) (F0 m 44 ls [.int s2, .int s1, .ref (ad 62)]) := by
  obtain ⟨o8, h_o8, h⟩ := bd_some h
  refine clV_Vwm_refuse E w (x0 := s1) (x1 := s2) h_o8 k2028 (by decide) hl.1 (Nat.le_of_ble_eq_true rfl) d_Vwm_got_44 (fun H locs w => ?_)
  refine lv_if_eq (tgt := 52) E.x E.b d_Vwm_got_47 (by decide) (fun c => ?_) (fun c => ?_)
  ·
    replace h := ifT c h
    refine lv_iload_n E.x E.b d_Vwm_got_52 rfl (lv_at hl 1 rfl) ?_
    refine lv_iload_n E.x E.b d_Vwm_got_53 rfl (lv_at hl 2 rfl) ?_
    obtain ⟨o9, h_o9, h⟩ := bd_some h
    refine clS_Vwm_cornerOf E w (x0 := v1) (x1 := v2) h_o9 k2359 (by decide) hl.1 (Nat.le_of_ble_eq_true rfl) d_Vwm_got_54 (fun H locs w => ?_)
    refine lv_istore (lv' := [(4, .int o9), (0, .ref (ad 62)), (1, .int v1), (2, .int v2), (3, .int v3)]) E.x E.b d_Vwm_got_57 hl (by decide) rfl (fun ls hl => ?_)
    refine lv_iload_n E.x E.b d_Vwm_got_59 rfl (lv_at hl 4 rfl) ?_
    refine lv_iconst (v := 4) E.x E.b d_Vwm_got_60 (by decide) ?_
    refine lv_icmp_ge (tgt := 78) E.x E.b d_Vwm_got_61 (by decide) (fun c => ?_) (fun c => ?_)
    ·
      replace h := ifT c h
      refine lv_aload_n E.x E.b d_Vwm_got_78 rfl (lv_at hl 1 rfl) ?_
      refine gM_Vwm_ring E w k1629 d_Vwm_got_79 ?_
      refine lv_bipush (v := 32) E.x E.b d_Vwm_got_82 (by decide) ?_
      refine lv_iload E.x E.b d_Vwm_got_84 (lv_at hl 0 rfl) ?_
      refine lv_imul E.x E.b d_Vwm_got_86 ?_
      refine lv_iload_n E.x E.b d_Vwm_got_87 rfl (lv_at hl 4 rfl) ?_
      refine lv_iadd E.x E.b d_Vwm_got_88 ?_
      obtain ⟨c10, h⟩ := ck_some h
      refine ialM E w (k := 37) (by decide) c10 d_Vwm_got_89 ?_
      exact bt_Vwm_got_90 E hret o o8.1 (o8.1.2.2.1 37 ((32 * o9) + v3).toNatClampNeg) h w (lv_sub hl [] rfl)
    ·
      replace h := ifF c h
      refine lv_aload_n E.x E.b d_Vwm_got_64 rfl (lv_at hl 1 rfl) ?_
      refine gM_Vwm_laid E w k1633 d_Vwm_got_65 ?_
      refine lv_iconst (v := 4) E.x E.b d_Vwm_got_68 (by decide) ?_
      refine lv_iload E.x E.b d_Vwm_got_69 (lv_at hl 0 rfl) ?_
      refine lv_imul E.x E.b d_Vwm_got_71 ?_
      refine lv_iload_n E.x E.b d_Vwm_got_72 rfl (lv_at hl 4 rfl) ?_
      refine lv_iadd E.x E.b d_Vwm_got_73 ?_
      obtain ⟨c11, h⟩ := ck_some h
      refine ialM E w (k := 39) (by decide) c11 d_Vwm_got_74 ?_
      refine lv_goto (tgt := 90) E.x E.b d_Vwm_got_75 (by decide) ?_
      exact bt_Vwm_got_90 E hret o o8.1 (o8.1.2.2.1 39 ((4 * o9) + v3).toNatClampNeg) h w (lv_sub hl [] rfl)
  ·
    replace h := ifF c h
    refine lv_iconst (v := 0) E.x E.b d_Vwm_got_50 (by decide) ?_
    obtain rfl := Option.some.inj h
    exact rt_i E w hret d_Vwm_got_51
def F_Vwm_got_39 (σ : Sg) (v1 : Int32) (v2 : Int32) (v3 : Int32) (s1 : Int32) : Option (Sg × Int32) := F_Vwm_got_44 σ v1 v2 v3 s1 1
set_option maxRecDepth 10000 in
set_option maxHeartbeats 4000000 in
theorem bt_Vwm_got_39 {p : Program} {l : Launch} {e : Env} {R : Room} {s : State} {m : MethodId} {args : Array Value} {below : List Frame} {meth : Method} {c : Code} {D : va_G} {τ : ClassId × ClassId × ClassId} {B : Nat} {A : Nat → Prop} {ad : Nat → Nat} (E : Cx p R s m args meth c prog_20_method_27_code 5 "DrawingMachineModel$VertexWorkModel" 1 D τ B A) (hret : meth.sig.returnType = (some .int)) (o : Sg × Int32) (σ : Sg) (v1 : Int32) (v2 : Int32) (v3 : Int32) (s1 : Int32) (h : F_Vwm_got_39 σ v1 v2 v3 s1 = some o) {H : Heap} {locs : List Loc} {ls : Array Slot} (w : Wd s D A (wdM τ σ ad) H locs) (hl : lv_has ls 5 [(0, .ref (ad 62)), (1, .int v1), (2, .int v2), (3, .int v3)]) : W p l e R s m args below meth c H locs 0 0 (QI below args s A D τ (wdM τ o.1 ad) o.2) (F0 m 39 ls [.int s1, .ref (ad 62)]) := by
  refine lv_iconst (v := 1) E.x E.b d_Vwm_got_39 (by decide) ?_
  refine lv_goto (tgt := 44) E.x E.b d_Vwm_got_40 (by decide) ?_
  exact bt_Vwm_got_44 E hret o σ v1 v2 v3 s1 1 h w (lv_sub hl [0, 1, 2, 3] rfl)
def F_Vwm_got_20 (σ : Sg) (v1 : Int32) (v2 : Int32) (v3 : Int32) (s1 : Int32) : Option (Sg × Int32) := bd (F_Vwm_in v2 0 2) (fun o12 => if o12 = 0 then (F_Vwm_got_39 σ v1 v2 v3 s1) else (bd (F_Vwm_in v3 0 31) (fun o13 => if o13 = 0 then (F_Vwm_got_39 σ v1 v2 v3 s1) else (F_Vwm_got_44 σ v1 v2 v3 s1 0))))
set_option maxRecDepth 10000 in
set_option maxHeartbeats 4000000 in
theorem bt_Vwm_got_20 {p : Program} {l : Launch} {e : Env} {R : Room} {s : State} {m : MethodId} {args : Array Value} {below : List Frame} {meth : Method} {c : Code} {D : va_G} {τ : ClassId × ClassId × ClassId} {B : Nat} {A : Nat → Prop} {ad : Nat → Nat} (E : Cx p R s m args meth c prog_20_method_27_code 5 "DrawingMachineModel$VertexWorkModel" 1 D τ B A) (hret : meth.sig.returnType = (some .int)) (o : Sg × Int32) (σ : Sg) (v1 : Int32) (v2 : Int32) (v3 : Int32) (s1 : Int32) (h : F_Vwm_got_20 σ v1 v2 v3 s1 = some o) {H : Heap} {locs : List Loc} {ls : Array Slot} (w : Wd s D A (wdM τ σ ad) H locs) (hl : lv_has ls 5 [(0, .ref (ad 62)), (1, .int v1), (2, .int v2), (3, .int v3)]) : W p l e R s m args below meth c H locs 0 0 (QI below args s A D τ (wdM τ o.1 ad) o.2) (F0 m 20 ls [.int s1, .ref (ad 62)]) := by
  refine lv_iload_n E.x E.b d_Vwm_got_20 rfl (lv_at hl 2 rfl) ?_
  refine lv_iconst (v := 0) E.x E.b d_Vwm_got_21 (by decide) ?_
  refine lv_iconst (v := 2) E.x E.b d_Vwm_got_22 (by decide) ?_
  obtain ⟨o12, h_o12, h⟩ := bd_some h
  refine clS_Vwm_in E w (x0 := v2) (x1 := 0) (x2 := 2) h_o12 k2025 (by decide) hl.1 (Nat.le_of_ble_eq_true rfl) d_Vwm_got_23 (fun H locs w => ?_)
  refine lv_if_eq (tgt := 39) E.x E.b d_Vwm_got_26 (by decide) (fun c => ?_) (fun c => ?_)
  ·
    replace h := ifT c h
    exact bt_Vwm_got_39 E hret o σ v1 v2 v3 s1 h w (lv_sub hl [0, 1, 2, 3] rfl)
  ·
    replace h := ifF c h
    refine lv_iload_n E.x E.b d_Vwm_got_29 rfl (lv_at hl 3 rfl) ?_
    refine lv_iconst (v := 0) E.x E.b d_Vwm_got_30 (by decide) ?_
    refine lv_bipush (v := 31) E.x E.b d_Vwm_got_31 (by decide) ?_
    obtain ⟨o13, h_o13, h⟩ := bd_some h
    refine clS_Vwm_in E w (x0 := v3) (x1 := 0) (x2 := 31) h_o13 k2025 (by decide) hl.1 (Nat.le_of_ble_eq_true rfl) d_Vwm_got_33 (fun H locs w => ?_)
    refine lv_if_ne (tgt := 43) E.x E.b d_Vwm_got_36 (by decide) (fun c => ?_) (fun c => ?_)
    ·
      replace h := ifF c h
      refine lv_iconst (v := 0) E.x E.b d_Vwm_got_43 (by decide) ?_
      exact bt_Vwm_got_44 E hret o σ v1 v2 v3 s1 0 h w (lv_sub hl [0, 1, 2, 3] rfl)
    ·
      replace h := ifT c h
      exact bt_Vwm_got_39 E hret o σ v1 v2 v3 s1 h w (lv_sub hl [0, 1, 2, 3] rfl)
def F_Vwm_got (σ : Sg) (x0 : Int32) (x1 : Int32) (x2 : Int32) : Option (Sg × Int32) := bd (F_Vwm_in x0 0 ((σ.1 26) - 1)) (fun o14 => if o14 = 0 then (F_Vwm_got_20 σ x0 x1 x2 1) else (F_Vwm_got_20 σ x0 x1 x2 0))
set_option maxRecDepth 10000 in
set_option maxHeartbeats 4000000 in
theorem c_Vwm_got (l : Launch) (D : va_G) (τ : ClassId × ClassId × ClassId) (B : Nat) (σ : Sg) (ad : Nat → Nat) (x0 : Int32) (x1 : Int32) (x2 : Int32) (o : Sg × Int32) (h : F_Vwm_got σ x0 x1 x2 = some o) : MI l y_Vwm_got (Cond.code y_Vwm_got prog_20_method_27_code 5 (some .int)) 1 D τ B [.ref (ad 62), .int x0, .int x1, .int x2] (wdM τ σ ad) (wdM τ o.1 ad) o.2 := by
  refine en_i (by decide) (Nat.le_of_ble_eq_true rfl) ?_
  intro p e R s m args below meth c H locs ls A E hret w hl
  have E : Cx p R s m args meth c prog_20_method_27_code 5 "DrawingMachineModel$VertexWorkModel" 1 D τ B A := E
  have hl : lv_has ls 5 [(0, .ref (ad 62)), (1, .int x0), (2, .int x1), (3, .int x2)] := hl
  refine lv_aload_n E.x E.b d_Vwm_got_0 rfl (lv_at hl 0 rfl) ?_
  refine lv_iload_n E.x E.b d_Vwm_got_1 rfl (lv_at hl 1 rfl) ?_
  refine lv_iconst (v := 0) E.x E.b d_Vwm_got_2 (by decide) ?_
  refine lv_aload_n E.x E.b d_Vwm_got_3 rfl (lv_at hl 0 rfl) ?_
  refine gM_Vwm_made E w k1632 d_Vwm_got_4 ?_
  refine lv_iconst (v := 1) E.x E.b d_Vwm_got_7 (by decide) ?_
  refine lv_isub E.x E.b d_Vwm_got_8 ?_
  obtain ⟨o14, h_o14, h⟩ := bd_some h
  refine clS_Vwm_in E w (x0 := x0) (x1 := 0) (x2 := ((σ.1 26) - 1)) h_o14 k2025 (by decide) hl.1 (Nat.le_of_ble_eq_true rfl) d_Vwm_got_9 (fun H locs w => ?_)
  refine lv_if_ne (tgt := 19) E.x E.b d_Vwm_got_12 (by decide) (fun c => ?_) (fun c => ?_)
  ·
    replace h := ifF c h
    refine lv_iconst (v := 0) E.x E.b d_Vwm_got_19 (by decide) ?_
    exact bt_Vwm_got_20 E hret o σ x0 x1 x2 0 h w (lv_sub hl [0, 1, 2, 3] rfl)
  ·
    replace h := ifT c h
    refine lv_iconst (v := 1) E.x E.b d_Vwm_got_15 (by decide) ?_
    refine lv_goto (tgt := 20) E.x E.b d_Vwm_got_16 (by decide) ?_
    exact bt_Vwm_got_20 E hret o σ x0 x1 x2 1 h w (lv_sub hl [0, 1, 2, 3] rfl)
theorem clV_Vwm_got {p : Program} {l : Launch} {e : Env} {R : Room} {s : State} {m : MethodId} {args : Array Value} {below : List Frame} {meth : Method} {c : Code} {H : Heap} {locs : List Loc} {Q : State → Prop} {cc : ByteArray} {nL pc lev : Nat} {own : String} {D : va_G} {τ : ClassId × ClassId × ClassId} {B : Nat} {A : Nat → Prop} {σ : Sg} {ad : Nat → Nat} {ls : Array Slot} {rest : List Value} (E : Cx p R s m args meth c cc nL own lev D τ B A) (w : Wd s D A (wdM τ σ ad) H locs) {x0 : Int32} {x1 : Int32} {x2 : Int32} {o : Sg × Int32} (h : F_Vwm_got σ x0 x1 x2 = some o) {index : Nat} (hlk : Cond.methodLink own index y_Vwm_got ∈ tw) (hlev : 1 < lev) (hsz : ls.size = nL) (hr : (rest.map fun v => v.category).sum ≤ 8) (hd : decode cc pc = .ok (.invokevirtual index, 3)) (kk : ∀ (H1 : Heap) (locs1 : List Loc), Wd s D A (wdM τ o.1 ad) H1 locs1 → W p l e R s m args below meth c H1 locs1 0 0 Q (F0 m (pc + 3) ls (.int o.2 :: rest))) : W p l e R s m args below meth c H locs 0 0 Q (F0 m pc ls (.int x2 :: .int x1 :: .int x0 :: .ref (ad 62) :: rest)) :=
  cr_i w E.C (va_runV (As := [.int x0, .int x1, .int x2]) (rest := rest) E.fix (c_Vwm_got l D τ B σ ad x0 x1 x2 o h H.size) (cwV 3 E.w (tw_pre (tw_good k2369) (l := [_, _, _, _]) (List.forall_mem_cons.mpr ⟨hlk, List.forall_mem_cons.mpr ⟨k2367, List.forall_mem_cons.mpr ⟨k2368, List.forall_mem_cons.mpr ⟨k18, fun _ h => absurd h List.not_mem_nil⟩⟩⟩⟩)) rfl rfl rfl (by decide +kernel) (E.rm hlev (by decide))) (wd_preV w E.C [.int x0, .int x1, .int x2] rcM_Vwm rfl) rfl rfl hsz rfl (lv_room hr) hd ⟨Nat.zero_le _, Nat.zero_le _⟩) kk

theorem d_Mod_triangle_0 : decode prog_14_method_24_code 0 = .ok (.iconst 0, 1) := by decide +kernel
theorem d_Mod_triangle_1 : decode prog_14_method_24_code 1 = .ok (.istore_n 3, 1) := by decide +kernel
theorem d_Mod_triangle_2 : decode prog_14_method_24_code 2 = .ok (.iload_n 3, 1) := by decide +kernel
theorem d_Mod_triangle_3 : decode prog_14_method_24_code 3 = .ok (.iconst 3, 1) := by decide +kernel
theorem d_Mod_triangle_4 : decode prog_14_method_24_code 4 = .ok (.if_icmp .ge 96, 3) := by decide +kernel
theorem d_Mod_triangle_7 : decode prog_14_method_24_code 7 = .ok (.aload_n 0, 1) := by decide +kernel
theorem d_Mod_triangle_8 : decode prog_14_method_24_code 8 = .ok (.getfield 58, 3) := by decide +kernel
theorem d_Mod_triangle_11 : decode prog_14_method_24_code 11 = .ok (.iload_n 3, 1) := by decide +kernel
theorem d_Mod_triangle_12 : decode prog_14_method_24_code 12 = .ok (.aload_n 0, 1) := by decide +kernel
theorem d_Mod_triangle_13 : decode prog_14_method_24_code 13 = .ok (.getfield 51, 3) := by decide +kernel
theorem d_Mod_triangle_16 : decode prog_14_method_24_code 16 = .ok (.iload_n 1, 1) := by decide +kernel
theorem d_Mod_triangle_17 : decode prog_14_method_24_code 17 = .ok (.iload_n 3, 1) := by decide +kernel
theorem d_Mod_triangle_18 : decode prog_14_method_24_code 18 = .ok (.iconst 0, 1) := by decide +kernel
theorem d_Mod_triangle_19 : decode prog_14_method_24_code 19 = .ok (.invokevirtual 298, 3) := by decide +kernel
theorem d_Mod_triangle_22 : decode prog_14_method_24_code 22 = .ok (.aload_n 0, 1) := by decide +kernel
theorem d_Mod_triangle_23 : decode prog_14_method_24_code 23 = .ok (.getfield 51, 3) := by decide +kernel
theorem d_Mod_triangle_26 : decode prog_14_method_24_code 26 = .ok (.iload_n 1, 1) := by decide +kernel
theorem d_Mod_triangle_27 : decode prog_14_method_24_code 27 = .ok (.iload_n 3, 1) := by decide +kernel
theorem d_Mod_triangle_28 : decode prog_14_method_24_code 28 = .ok (.iconst 1, 1) := by decide +kernel
theorem d_Mod_triangle_29 : decode prog_14_method_24_code 29 = .ok (.invokevirtual 298, 3) := by decide +kernel
theorem d_Mod_triangle_32 : decode prog_14_method_24_code 32 = .ok (.aload_n 0, 1) := by decide +kernel
theorem d_Mod_triangle_33 : decode prog_14_method_24_code 33 = .ok (.getfield 51, 3) := by decide +kernel
theorem d_Mod_triangle_36 : decode prog_14_method_24_code 36 = .ok (.iload_n 1, 1) := by decide +kernel
theorem d_Mod_triangle_37 : decode prog_14_method_24_code 37 = .ok (.iload_n 3, 1) := by decide +kernel
theorem d_Mod_triangle_38 : decode prog_14_method_24_code 38 = .ok (.iconst 2, 1) := by decide +kernel
theorem d_Mod_triangle_39 : decode prog_14_method_24_code 39 = .ok (.invokevirtual 298, 3) := by decide +kernel
theorem d_Mod_triangle_42 : decode prog_14_method_24_code 42 = .ok (.aload_n 0, 1) := by decide +kernel
theorem d_Mod_triangle_43 : decode prog_14_method_24_code 43 = .ok (.getfield 51, 3) := by decide +kernel
theorem d_Mod_triangle_46 : decode prog_14_method_24_code 46 = .ok (.iload_n 1, 1) := by decide +kernel
theorem d_Mod_triangle_47 : decode prog_14_method_24_code 47 = .ok (.iload_n 3, 1) := by decide +kernel
theorem d_Mod_triangle_48 : decode prog_14_method_24_code 48 = .ok (.iconst 3, 1) := by decide +kernel
theorem d_Mod_triangle_49 : decode prog_14_method_24_code 49 = .ok (.invokevirtual 298, 3) := by decide +kernel
theorem d_Mod_triangle_52 : decode prog_14_method_24_code 52 = .ok (.invokevirtual 301, 3) := by decide +kernel
theorem d_Mod_triangle_55 : decode prog_14_method_24_code 55 = .ok (.iconst 0, 1) := by decide +kernel
theorem d_Mod_triangle_56 : decode prog_14_method_24_code 56 = .ok (.istore 4, 2) := by decide +kernel
theorem d_Mod_triangle_58 : decode prog_14_method_24_code 58 = .ok (.iload 4, 2) := by decide +kernel
theorem d_Mod_triangle_60 : decode prog_14_method_24_code 60 = .ok (.bipush 28, 2) := by decide +kernel
theorem d_Mod_triangle_62 : decode prog_14_method_24_code 62 = .ok (.if_icmp .ge 32, 3) := by decide +kernel
theorem d_Mod_triangle_65 : decode prog_14_method_24_code 65 = .ok (.aload_n 0, 1) := by decide +kernel
theorem d_Mod_triangle_66 : decode prog_14_method_24_code 66 = .ok (.getfield 58, 3) := by decide +kernel
theorem d_Mod_triangle_69 : decode prog_14_method_24_code 69 = .ok (.iload_n 3, 1) := by decide +kernel
theorem d_Mod_triangle_70 : decode prog_14_method_24_code 70 = .ok (.iload 4, 2) := by decide +kernel
theorem d_Mod_triangle_72 : decode prog_14_method_24_code 72 = .ok (.aload_n 0, 1) := by decide +kernel
theorem d_Mod_triangle_73 : decode prog_14_method_24_code 73 = .ok (.getfield 51, 3) := by decide +kernel
theorem d_Mod_triangle_76 : decode prog_14_method_24_code 76 = .ok (.iload_n 1, 1) := by decide +kernel
theorem d_Mod_triangle_77 : decode prog_14_method_24_code 77 = .ok (.iload_n 3, 1) := by decide +kernel
theorem d_Mod_triangle_78 : decode prog_14_method_24_code 78 = .ok (.iconst 4, 1) := by decide +kernel
theorem d_Mod_triangle_79 : decode prog_14_method_24_code 79 = .ok (.iload 4, 2) := by decide +kernel
theorem d_Mod_triangle_81 : decode prog_14_method_24_code 81 = .ok (.iadd, 1) := by decide +kernel
theorem d_Mod_triangle_82 : decode prog_14_method_24_code 82 = .ok (.invokevirtual 298, 3) := by decide +kernel
theorem d_Mod_triangle_85 : decode prog_14_method_24_code 85 = .ok (.invokevirtual 303, 3) := by decide +kernel
theorem d_Mod_triangle_88 : decode prog_14_method_24_code 88 = .ok (.iinc 4 1, 3) := by decide +kernel
theorem d_Mod_triangle_91 : decode prog_14_method_24_code 91 = .ok (.goto (-33), 3) := by decide +kernel
theorem d_Mod_triangle_94 : decode prog_14_method_24_code 94 = .ok (.iinc 3 1, 3) := by decide +kernel
theorem d_Mod_triangle_97 : decode prog_14_method_24_code 97 = .ok (.goto (-95), 3) := by decide +kernel
theorem d_Mod_triangle_100 : decode prog_14_method_24_code 100 = .ok (.iconst 0, 1) := by decide +kernel
theorem d_Mod_triangle_101 : decode prog_14_method_24_code 101 = .ok (.aload_n 0, 1) := by decide +kernel
theorem d_Mod_triangle_102 : decode prog_14_method_24_code 102 = .ok (.getfield 58, 3) := by decide +kernel
theorem d_Mod_triangle_105 : decode prog_14_method_24_code 105 = .ok (.getfield 307, 3) := by decide +kernel
theorem d_Mod_triangle_108 : decode prog_14_method_24_code 108 = .ok (.iconst 0, 1) := by decide +kernel
theorem d_Mod_triangle_109 : decode prog_14_method_24_code 109 = .ok (.invokestatic 310, 3) := by decide +kernel
theorem d_Mod_triangle_112 : decode prog_14_method_24_code 112 = .ok (.invokestatic 292, 3) := by decide +kernel
theorem d_Mod_triangle_115 : decode prog_14_method_24_code 115 = .ok (.istore_n 3, 1) := by decide +kernel
theorem d_Mod_triangle_116 : decode prog_14_method_24_code 116 = .ok (.iload_n 3, 1) := by decide +kernel
theorem d_Mod_triangle_117 : decode prog_14_method_24_code 117 = .ok (.aload_n 0, 1) := by decide +kernel
theorem d_Mod_triangle_118 : decode prog_14_method_24_code 118 = .ok (.getfield 13, 3) := by decide +kernel
theorem d_Mod_triangle_121 : decode prog_14_method_24_code 121 = .ok (.iconst 1, 1) := by decide +kernel
theorem d_Mod_triangle_122 : decode prog_14_method_24_code 122 = .ok (.isub, 1) := by decide +kernel
theorem d_Mod_triangle_123 : decode prog_14_method_24_code 123 = .ok (.aload_n 0, 1) := by decide +kernel
theorem d_Mod_triangle_124 : decode prog_14_method_24_code 124 = .ok (.getfield 58, 3) := by decide +kernel
theorem d_Mod_triangle_127 : decode prog_14_method_24_code 127 = .ok (.getfield 307, 3) := by decide +kernel
theorem d_Mod_triangle_130 : decode prog_14_method_24_code 130 = .ok (.iconst 1, 1) := by decide +kernel
theorem d_Mod_triangle_131 : decode prog_14_method_24_code 131 = .ok (.invokestatic 310, 3) := by decide +kernel
theorem d_Mod_triangle_134 : decode prog_14_method_24_code 134 = .ok (.invokestatic 295, 3) := by decide +kernel
theorem d_Mod_triangle_137 : decode prog_14_method_24_code 137 = .ok (.if_icmp .gt 89, 3) := by decide +kernel
theorem d_Mod_triangle_140 : decode prog_14_method_24_code 140 = .ok (.iconst 0, 1) := by decide +kernel
theorem d_Mod_triangle_141 : decode prog_14_method_24_code 141 = .ok (.aload_n 0, 1) := by decide +kernel
theorem d_Mod_triangle_142 : decode prog_14_method_24_code 142 = .ok (.getfield 58, 3) := by decide +kernel
theorem d_Mod_triangle_145 : decode prog_14_method_24_code 145 = .ok (.getfield 314, 3) := by decide +kernel
theorem d_Mod_triangle_148 : decode prog_14_method_24_code 148 = .ok (.iconst 0, 1) := by decide +kernel
theorem d_Mod_triangle_149 : decode prog_14_method_24_code 149 = .ok (.invokestatic 310, 3) := by decide +kernel
theorem d_Mod_triangle_152 : decode prog_14_method_24_code 152 = .ok (.invokestatic 292, 3) := by decide +kernel
theorem d_Mod_triangle_155 : decode prog_14_method_24_code 155 = .ok (.istore 4, 2) := by decide +kernel
theorem d_Mod_triangle_157 : decode prog_14_method_24_code 157 = .ok (.iload 4, 2) := by decide +kernel
theorem d_Mod_triangle_159 : decode prog_14_method_24_code 159 = .ok (.aload_n 0, 1) := by decide +kernel
theorem d_Mod_triangle_160 : decode prog_14_method_24_code 160 = .ok (.getfield 7, 3) := by decide +kernel
theorem d_Mod_triangle_163 : decode prog_14_method_24_code 163 = .ok (.iconst 1, 1) := by decide +kernel
theorem d_Mod_triangle_164 : decode prog_14_method_24_code 164 = .ok (.isub, 1) := by decide +kernel
theorem d_Mod_triangle_165 : decode prog_14_method_24_code 165 = .ok (.aload_n 0, 1) := by decide +kernel
theorem d_Mod_triangle_166 : decode prog_14_method_24_code 166 = .ok (.getfield 58, 3) := by decide +kernel
theorem d_Mod_triangle_169 : decode prog_14_method_24_code 169 = .ok (.getfield 314, 3) := by decide +kernel
theorem d_Mod_triangle_172 : decode prog_14_method_24_code 172 = .ok (.iconst 1, 1) := by decide +kernel
theorem d_Mod_triangle_173 : decode prog_14_method_24_code 173 = .ok (.invokestatic 310, 3) := by decide +kernel
theorem d_Mod_triangle_176 : decode prog_14_method_24_code 176 = .ok (.invokestatic 295, 3) := by decide +kernel
theorem d_Mod_triangle_179 : decode prog_14_method_24_code 179 = .ok (.if_icmp .gt 41, 3) := by decide +kernel
theorem d_Mod_triangle_182 : decode prog_14_method_24_code 182 = .ok (.aload_n 0, 1) := by decide +kernel
theorem d_Mod_triangle_183 : decode prog_14_method_24_code 183 = .ok (.getfield 58, 3) := by decide +kernel
theorem d_Mod_triangle_186 : decode prog_14_method_24_code 186 = .ok (.iload 4, 2) := by decide +kernel
theorem d_Mod_triangle_188 : decode prog_14_method_24_code 188 = .ok (.iload_n 3, 1) := by decide +kernel
theorem d_Mod_triangle_189 : decode prog_14_method_24_code 189 = .ok (.invokevirtual 317, 3) := by decide +kernel
theorem d_Mod_triangle_192 : decode prog_14_method_24_code 192 = .ok (.ifCond .eq 22, 3) := by decide +kernel
theorem d_Mod_triangle_195 : decode prog_14_method_24_code 195 = .ok (.aload_n 0, 1) := by decide +kernel
theorem d_Mod_triangle_196 : decode prog_14_method_24_code 196 = .ok (.getfield 75, 3) := by decide +kernel
theorem d_Mod_triangle_199 : decode prog_14_method_24_code 199 = .ok (.bipush 8, 2) := by decide +kernel
theorem d_Mod_triangle_201 : decode prog_14_method_24_code 201 = .ok (.dup2, 1) := by decide +kernel
theorem d_Mod_triangle_202 : decode prog_14_method_24_code 202 = .ok (.iaload, 1) := by decide +kernel
theorem d_Mod_triangle_203 : decode prog_14_method_24_code 203 = .ok (.iconst 1, 1) := by decide +kernel
theorem d_Mod_triangle_204 : decode prog_14_method_24_code 204 = .ok (.iadd, 1) := by decide +kernel
theorem d_Mod_triangle_205 : decode prog_14_method_24_code 205 = .ok (.iastore, 1) := by decide +kernel
theorem d_Mod_triangle_206 : decode prog_14_method_24_code 206 = .ok (.aload_n 0, 1) := by decide +kernel
theorem d_Mod_triangle_207 : decode prog_14_method_24_code 207 = .ok (.iload 4, 2) := by decide +kernel
theorem d_Mod_triangle_209 : decode prog_14_method_24_code 209 = .ok (.iload_n 3, 1) := by decide +kernel
theorem d_Mod_triangle_210 : decode prog_14_method_24_code 210 = .ok (.iload_n 2, 1) := by decide +kernel
theorem d_Mod_triangle_211 : decode prog_14_method_24_code 211 = .ok (.invokevirtual 321, 3) := by decide +kernel
theorem d_Mod_triangle_214 : decode prog_14_method_24_code 214 = .ok (.iinc 4 1, 3) := by decide +kernel
theorem d_Mod_triangle_217 : decode prog_14_method_24_code 217 = .ok (.goto (-60), 3) := by decide +kernel
theorem d_Mod_triangle_220 : decode prog_14_method_24_code 220 = .ok (.iinc 3 1, 3) := by decide +kernel
theorem d_Mod_triangle_223 : decode prog_14_method_24_code 223 = .ok (.goto (-107), 3) := by decide +kernel
theorem d_Mod_triangle_226 : decode prog_14_method_24_code 226 = .ok (.return_, 1) := by decide +kernel
def F_Mod_triangle_214 (rc_116 : Sg → Int32 → Int32 → Option (Sg)) (rc_157 : Sg → Int32 → Int32 → Int32 → Option (Sg)) (σ : Sg) (v2 : Int32) (v3 : Int32) (v4 : Int32) : Option (Sg) := lt (v4 + 1) (fun y23 => rc_157 σ v2 v3 y23)
set_option maxRecDepth 10000 in
set_option maxHeartbeats 4000000 in
theorem bt_Mod_triangle_214 {p : Program} {l : Launch} {e : Env} {R : Room} {s : State} {m : MethodId} {args : Array Value} {below : List Frame} {meth : Method} {c : Code} {D : va_G} {τ : ClassId × ClassId × ClassId} {B : Nat} {A : Nat → Prop} {ad : Nat → Nat} (E : Cx p R s m args meth c prog_14_method_24_code 5 "DrawingMachineModel" 14 D τ B A) (hret : meth.sig.returnType = none) (o : Sg) (rc_116 : Sg → Int32 → Int32 → Option (Sg)) (rc_157 : Sg → Int32 → Int32 → Int32 → Option (Sg)) (hr_116 : ∀ (σ : Sg) (v2 : Int32) (v3 : Int32) (H : Heap) (locs : List Loc) (ls : Array Slot), rc_116 σ v2 v3 = some o → Wd s D A (wdM τ σ ad) H locs → lv_has ls 5 [(0, .ref (ad 59)), (2, .int v2), (3, .int v3)] → W p l e R s m args below meth c H locs 0 0 (QV below args s A D τ (wdM τ o ad)) (F0 m 116 ls [])) (hr_157 : ∀ (σ : Sg) (v2 : Int32) (v3 : Int32) (v4 : Int32) (H : Heap) (locs : List Loc) (ls : Array Slot), rc_157 σ v2 v3 v4 = some o → Wd s D A (wdM τ σ ad) H locs → lv_has ls 5 [(0, .ref (ad 59)), (2, .int v2), (3, .int v3), (4, .int v4)] → W p l e R s m args below meth c H locs 0 0 (QV below args s A D τ (wdM τ o ad)) (F0 m 157 ls [])) (σ : Sg) (v2 : Int32) (v3 : Int32) (v4 : Int32) (h : F_Mod_triangle_214 rc_116 rc_157 σ v2 v3 v4 = some o) {H : Heap} {locs : List Loc} {ls : Array Slot} (w : Wd s D A (wdM τ σ ad) H locs) (hl : lv_has ls 5 [(0, .ref (ad 59)), (2, .int v2), (3, .int v3), (4, .int v4)]) : W p l e R s m args below meth c H locs 0 0 (QV below args s A D τ (wdM τ o ad)) (F0 m 214 ls []) := by
  obtain ⟨y23, e_y23, h⟩ := lt_some h
  refine lv_iinc (v := y23) (lv' := [(4, .int y23), (0, .ref (ad 59)), (2, .int v2), (3, .int v3)]) E.x E.b d_Mod_triangle_214 hl (k := 3) rfl (e_y23) (by decide) rfl (fun ls hl => ?_)
  refine lv_goto (tgt := 157) E.x E.b d_Mod_triangle_217 (by decide) ?_
  exact hr_157 σ v2 v3 y23 _ _ _ h w (lv_sub hl [1, 2, 3, 0] rfl)
def L_Mod_triangle_157 (rc_116 : Sg → Int32 → Int32 → Option (Sg)) : Nat → Sg → Int32 → Int32 → Int32 → Option (Sg)
  | 0, _, _, _, _ => none
  | n + 1, σ, v2, v3, v4 => bd (F_Mod_edge σ 40 1) (fun o24 => bd (F_Mod_least ((σ.1 1) - 1) o24) (fun o25 => if o25 < v4 then (lt (v3 + 1) (fun y26 => rc_116 σ v2 y26)) else (bd (F_Erm_isCovered σ v4 v3) (fun o27 => if o27 = 0 then (F_Mod_triangle_214 rc_116 (L_Mod_triangle_157 rc_116 n) σ v2 v3 v4) else (lt (sA σ 56 (upd (σ.2.2.1 56) 8 ((σ.2.2.1 56 8) + 1))) (fun σ28 => bd (F_Mod_place σ28 v4 v3 v2) (fun o29 => F_Mod_triangle_214 rc_116 (L_Mod_triangle_157 rc_116 n) o29 v2 v3 v4)))))))
set_option maxRecDepth 10000 in
set_option maxHeartbeats 4000000 in
theorem lt_Mod_triangle_157 {p : Program} {l : Launch} {e : Env} {R : Room} {s : State} {m : MethodId} {args : Array Value} {below : List Frame} {meth : Method} {c : Code} {D : va_G} {τ : ClassId × ClassId × ClassId} {B : Nat} {A : Nat → Prop} {ad : Nat → Nat} (E : Cx p R s m args meth c prog_14_method_24_code 5 "DrawingMachineModel" 14 D τ B A) (hret : meth.sig.returnType = none) (o : Sg) (rc_116 : Sg → Int32 → Int32 → Option (Sg)) (hr_116 : ∀ (σ : Sg) (v2 : Int32) (v3 : Int32) (H : Heap) (locs : List Loc) (ls : Array Slot), rc_116 σ v2 v3 = some o → Wd s D A (wdM τ σ ad) H locs → lv_has ls 5 [(0, .ref (ad 59)), (2, .int v2), (3, .int v3)] → W p l e R s m args below meth c H locs 0 0 (QV below args s A D τ (wdM τ o ad)) (F0 m 116 ls [])) : ∀ (n : Nat) (σ : Sg) (v2 : Int32) (v3 : Int32) (v4 : Int32) (H : Heap) (locs : List Loc) (ls : Array Slot), L_Mod_triangle_157 rc_116 n σ v2 v3 v4 = some o → Wd s D A (wdM τ σ ad) H locs → lv_has ls 5 [(0, .ref (ad 59)), (2, .int v2), (3, .int v3), (4, .int v4)] → W p l e R s m args below meth c H locs 0 0 (QV below args s A D τ (wdM τ o ad)) (F0 m 157 ls []) := by
  intro n
  induction n with
  | zero =>
    intro σ v2 v3 v4 H locs ls h w hl
    cases h
  | succ n hr_157 =>
    intro σ v2 v3 v4 H locs ls h w hl
    refine lv_iload E.x E.b d_Mod_triangle_157 (lv_at hl 3 rfl) ?_
    refine lv_aload_n E.x E.b d_Mod_triangle_159 rfl (lv_at hl 0 rfl) ?_
    refine gM_Mod_wide E w k1766 d_Mod_triangle_160 ?_
    refine lv_iconst (v := 1) E.x E.b d_Mod_triangle_163 (by decide) ?_
    refine lv_isub E.x E.b d_Mod_triangle_164 ?_
    refine lv_aload_n E.x E.b d_Mod_triangle_165 rfl (lv_at hl 0 rfl) ?_
    refine gM_Mod_raster E w k1773 d_Mod_triangle_166 ?_
    refine gNM_Erm_cornerX E w n1669 d_Mod_triangle_169 ?_
    refine lv_iconst (v := 1) E.x E.b d_Mod_triangle_172 (by decide) ?_
    obtain ⟨o24, h_o24, h⟩ := bd_some h
    refine clS_Mod_edge E w (ar0 := 40) (x1 := 1) h_o24 k2387 (by decide) hl.1 (Nat.le_of_ble_eq_true rfl) d_Mod_triangle_173 (fun H locs w => ?_)
    obtain ⟨o25, h_o25, h⟩ := bd_some h
    refine clS_Mod_least E w (x0 := ((σ.1 1) - 1)) (x1 := o24) h_o25 k2393 (by decide) hl.1 (Nat.le_of_ble_eq_true rfl) d_Mod_triangle_176 (fun H locs w => ?_)
    refine lv_icmp_gt (tgt := 220) E.x E.b d_Mod_triangle_179 (by decide) (fun c => ?_) (fun c => ?_)
    ·
      replace h := ifT c h
      obtain ⟨y26, e_y26, h⟩ := lt_some h
      refine lv_iinc (v := y26) (lv' := [(3, .int y26), (0, .ref (ad 59)), (2, .int v2), (4, .int v4)]) E.x E.b d_Mod_triangle_220 hl (k := 2) rfl (e_y26) (by decide) rfl (fun ls hl => ?_)
      refine lv_goto (tgt := 116) E.x E.b d_Mod_triangle_223 (by decide) ?_
      exact hr_116 σ v2 y26 _ _ _ h w (lv_sub hl [1, 2, 0] rfl)
    ·
      replace h := ifF c h
      refine lv_aload_n E.x E.b d_Mod_triangle_182 rfl (lv_at hl 0 rfl) ?_
      refine gM_Mod_raster E w k1773 d_Mod_triangle_183 ?_
      refine lv_iload E.x E.b d_Mod_triangle_186 (lv_at hl 3 rfl) ?_
      refine lv_iload_n E.x E.b d_Mod_triangle_188 rfl (lv_at hl 2 rfl) ?_
      obtain ⟨o27, h_o27, h⟩ := bd_some h
      refine clVN_Erm_isCovered E w (x0 := v4) (x1 := v3) h_o27 n2396 (by decide) hl.1 (Nat.le_of_ble_eq_true rfl) d_Mod_triangle_189 (fun H locs w => ?_)
      refine lv_if_eq (tgt := 214) E.x E.b d_Mod_triangle_192 (by decide) (fun c => ?_) (fun c => ?_)
      ·
        replace h := ifT c h
        exact bt_Mod_triangle_214 E hret o rc_116 (L_Mod_triangle_157 rc_116 n) hr_116 hr_157 σ v2 v3 v4 h w (lv_sub hl [0, 1, 2, 3] rfl)
      ·
        replace h := ifF c h
        refine lv_aload_n E.x E.b d_Mod_triangle_195 rfl (lv_at hl 0 rfl) ?_
        refine gM_Mod_counts E w k1781 d_Mod_triangle_196 ?_
        refine lv_bipush (v := 8) E.x E.b d_Mod_triangle_199 (by decide) ?_
        refine lv_dup2_11 E.x E.b d_Mod_triangle_201 rfl rfl ?_
        refine ialM E w (k := 56) (by decide) (show inb 8 9 by decide) d_Mod_triangle_202 ?_
        refine wi_e (v := σ.2.2.1 56 8) rfl ?_
        refine lv_iconst (v := 1) E.x E.b d_Mod_triangle_203 (by decide) ?_
        refine lv_iadd E.x E.b d_Mod_triangle_204 ?_
        obtain ⟨σ28, e_σ28, h⟩ := lt_some h
        refine iasM E w (k := 56) (by decide) (show inb 8 9 by decide) e_σ28 d_Mod_triangle_205 (fun H locs w => ?_)
        refine lv_aload_n E.x E.b d_Mod_triangle_206 rfl (lv_at hl 0 rfl) ?_
        refine lv_iload E.x E.b d_Mod_triangle_207 (lv_at hl 3 rfl) ?_
        refine lv_iload_n E.x E.b d_Mod_triangle_209 rfl (lv_at hl 2 rfl) ?_
        refine lv_iload_n E.x E.b d_Mod_triangle_210 rfl (lv_at hl 1 rfl) ?_
        obtain ⟨o29, h_o29, h⟩ := bd_some h
        refine clV_Mod_place E w (x0 := v4) (x1 := v3) (x2 := v2) h_o29 k2420 (by decide) hl.1 (Nat.le_of_ble_eq_true rfl) d_Mod_triangle_211 (fun H locs w => ?_)
        exact bt_Mod_triangle_214 E hret o rc_116 (L_Mod_triangle_157 rc_116 n) hr_116 hr_157 o29 v2 v3 v4 h w (lv_sub hl [0, 1, 2, 3] rfl)
def L_Mod_triangle_116 : Nat → Sg → Int32 → Int32 → Option (Sg)
  | 0, _, _, _ => none
  | n + 1, σ, v2, v3 => bd (F_Mod_edge σ 41 1) (fun o30 => bd (F_Mod_least ((σ.1 2) - 1) o30) (fun o31 => if o31 < v3 then (some σ) else (bd (F_Mod_edge σ 40 0) (fun o32 => bd (F_Mod_greatest 0 o32) (fun o33 => L_Mod_triangle_157 (L_Mod_triangle_116 n) 100000 σ v2 v3 o33)))))
set_option maxRecDepth 10000 in
set_option maxHeartbeats 4000000 in
theorem lt_Mod_triangle_116 {p : Program} {l : Launch} {e : Env} {R : Room} {s : State} {m : MethodId} {args : Array Value} {below : List Frame} {meth : Method} {c : Code} {D : va_G} {τ : ClassId × ClassId × ClassId} {B : Nat} {A : Nat → Prop} {ad : Nat → Nat} (E : Cx p R s m args meth c prog_14_method_24_code 5 "DrawingMachineModel" 14 D τ B A) (hret : meth.sig.returnType = none) (o : Sg) : ∀ (n : Nat) (σ : Sg) (v2 : Int32) (v3 : Int32) (H : Heap) (locs : List Loc) (ls : Array Slot), L_Mod_triangle_116 n σ v2 v3 = some o → Wd s D A (wdM τ σ ad) H locs → lv_has ls 5 [(0, .ref (ad 59)), (2, .int v2), (3, .int v3)] → W p l e R s m args below meth c H locs 0 0 (QV below args s A D τ (wdM τ o ad)) (F0 m 116 ls []) := by
  intro n
  induction n with
  | zero =>
    intro σ v2 v3 H locs ls h w hl
    cases h
  | succ n hr_116 =>
    intro σ v2 v3 H locs ls h w hl
    refine lv_iload_n E.x E.b d_Mod_triangle_116 rfl (lv_at hl 2 rfl) ?_
    refine lv_aload_n E.x E.b d_Mod_triangle_117 rfl (lv_at hl 0 rfl) ?_
    refine gM_Mod_high E w k1767 d_Mod_triangle_118 ?_
    refine lv_iconst (v := 1) E.x E.b d_Mod_triangle_121 (by decide) ?_
    refine lv_isub E.x E.b d_Mod_triangle_122 ?_
    refine lv_aload_n E.x E.b d_Mod_triangle_123 rfl (lv_at hl 0 rfl) ?_
    refine gM_Mod_raster E w k1773 d_Mod_triangle_124 ?_
    refine gNM_Erm_cornerY E w n1671 d_Mod_triangle_127 ?_
    refine lv_iconst (v := 1) E.x E.b d_Mod_triangle_130 (by decide) ?_
    obtain ⟨o30, h_o30, h⟩ := bd_some h
    refine clS_Mod_edge E w (ar0 := 41) (x1 := 1) h_o30 k2387 (by decide) hl.1 (Nat.le_of_ble_eq_true rfl) d_Mod_triangle_131 (fun H locs w => ?_)
    obtain ⟨o31, h_o31, h⟩ := bd_some h
    refine clS_Mod_least E w (x0 := ((σ.1 2) - 1)) (x1 := o30) h_o31 k2393 (by decide) hl.1 (Nat.le_of_ble_eq_true rfl) d_Mod_triangle_134 (fun H locs w => ?_)
    refine lv_icmp_gt (tgt := 226) E.x E.b d_Mod_triangle_137 (by decide) (fun c => ?_) (fun c => ?_)
    ·
      replace h := ifT c h
      obtain rfl := Option.some.inj h
      exact rt_v E w hret d_Mod_triangle_226
    ·
      replace h := ifF c h
      refine lv_iconst (v := 0) E.x E.b d_Mod_triangle_140 (by decide) ?_
      refine lv_aload_n E.x E.b d_Mod_triangle_141 rfl (lv_at hl 0 rfl) ?_
      refine gM_Mod_raster E w k1773 d_Mod_triangle_142 ?_
      refine gNM_Erm_cornerX E w n1669 d_Mod_triangle_145 ?_
      refine lv_iconst (v := 0) E.x E.b d_Mod_triangle_148 (by decide) ?_
      obtain ⟨o32, h_o32, h⟩ := bd_some h
      refine clS_Mod_edge E w (ar0 := 40) (x1 := 0) h_o32 k2387 (by decide) hl.1 (Nat.le_of_ble_eq_true rfl) d_Mod_triangle_149 (fun H locs w => ?_)
      obtain ⟨o33, h_o33, h⟩ := bd_some h
      refine clS_Mod_greatest E w (x0 := 0) (x1 := o32) h_o33 k2390 (by decide) hl.1 (Nat.le_of_ble_eq_true rfl) d_Mod_triangle_152 (fun H locs w => ?_)
      refine lv_istore (lv' := [(4, .int o33), (0, .ref (ad 59)), (2, .int v2), (3, .int v3)]) E.x E.b d_Mod_triangle_155 hl (by decide) rfl (fun ls hl => ?_)
      exact lt_Mod_triangle_157 E hret o (L_Mod_triangle_116 n) hr_116 100000 σ v2 v3 o33 _ _ _ h w (lv_sub hl [1, 2, 3, 0] rfl)
def L_Mod_triangle_58 (rc_2 : Sg → Int32 → Int32 → Int32 → Option (Sg)) : Nat → Sg → Int32 → Int32 → Int32 → Int32 → Option (Sg)
  | 0, _, _, _, _, _ => none
  | n + 1, σ, v1, v2, v3, v4 => if 28 ≤ v4 then (lt (v3 + 1) (fun y34 => rc_2 σ v1 v2 y34)) else (bd (F_Vwm_got σ v1 v3 (4 + v4)) (fun o35 => bd (F_Erm_value o35.1 v3 v4 o35.2) (fun o36 => lt (v4 + 1) (fun y37 => L_Mod_triangle_58 rc_2 n o36 v1 v2 v3 y37))))
set_option maxRecDepth 10000 in
set_option maxHeartbeats 4000000 in
theorem lt_Mod_triangle_58 {p : Program} {l : Launch} {e : Env} {R : Room} {s : State} {m : MethodId} {args : Array Value} {below : List Frame} {meth : Method} {c : Code} {D : va_G} {τ : ClassId × ClassId × ClassId} {B : Nat} {A : Nat → Prop} {ad : Nat → Nat} (E : Cx p R s m args meth c prog_14_method_24_code 5 "DrawingMachineModel" 14 D τ B A) (hret : meth.sig.returnType = none) (o : Sg) (rc_2 : Sg → Int32 → Int32 → Int32 → Option (Sg)) (hr_2 : ∀ (σ : Sg) (v1 : Int32) (v2 : Int32) (v3 : Int32) (H : Heap) (locs : List Loc) (ls : Array Slot), rc_2 σ v1 v2 v3 = some o → Wd s D A (wdM τ σ ad) H locs → lv_has ls 5 [(0, .ref (ad 59)), (1, .int v1), (2, .int v2), (3, .int v3)] → W p l e R s m args below meth c H locs 0 0 (QV below args s A D τ (wdM τ o ad)) (F0 m 2 ls [])) : ∀ (n : Nat) (σ : Sg) (v1 : Int32) (v2 : Int32) (v3 : Int32) (v4 : Int32) (H : Heap) (locs : List Loc) (ls : Array Slot), L_Mod_triangle_58 rc_2 n σ v1 v2 v3 v4 = some o → Wd s D A (wdM τ σ ad) H locs → lv_has ls 5 [(0, .ref (ad 59)), (1, .int v1), (2, .int v2), (3, .int v3), (4, .int v4)] → W p l e R s m args below meth c H locs 0 0 (QV below args s A D τ (wdM τ o ad)) (F0 m 58 ls []) := by
  intro n
  induction n with
  | zero =>
    intro σ v1 v2 v3 v4 H locs ls h w hl
    cases h
  | succ n hr_58 =>
    intro σ v1 v2 v3 v4 H locs ls h w hl
    refine lv_iload E.x E.b d_Mod_triangle_58 (lv_at hl 4 rfl) ?_
    refine lv_bipush (v := 28) E.x E.b d_Mod_triangle_60 (by decide) ?_
    refine lv_icmp_ge (tgt := 94) E.x E.b d_Mod_triangle_62 (by decide) (fun c => ?_) (fun c => ?_)
    ·
      replace h := ifT c h
      obtain ⟨y34, e_y34, h⟩ := lt_some h
      refine lv_iinc (v := y34) (lv' := [(3, .int y34), (0, .ref (ad 59)), (1, .int v1), (2, .int v2), (4, .int v4)]) E.x E.b d_Mod_triangle_94 hl (k := 3) rfl (e_y34) (by decide) rfl (fun ls hl => ?_)
      refine lv_goto (tgt := 2) E.x E.b d_Mod_triangle_97 (by decide) ?_
      exact hr_2 σ v1 v2 y34 _ _ _ h w (lv_sub hl [1, 2, 3, 0] rfl)
    ·
      replace h := ifF c h
      refine lv_aload_n E.x E.b d_Mod_triangle_65 rfl (lv_at hl 0 rfl) ?_
      refine gM_Mod_raster E w k1773 d_Mod_triangle_66 ?_
      refine lv_iload_n E.x E.b d_Mod_triangle_69 rfl (lv_at hl 3 rfl) ?_
      refine lv_iload E.x E.b d_Mod_triangle_70 (lv_at hl 4 rfl) ?_
      refine lv_aload_n E.x E.b d_Mod_triangle_72 rfl (lv_at hl 0 rfl) ?_
      refine gM_Mod_vertices E w k1772 d_Mod_triangle_73 ?_
      refine lv_iload_n E.x E.b d_Mod_triangle_76 rfl (lv_at hl 1 rfl) ?_
      refine lv_iload_n E.x E.b d_Mod_triangle_77 rfl (lv_at hl 3 rfl) ?_
      refine lv_iconst (v := 4) E.x E.b d_Mod_triangle_78 (by decide) ?_
      refine lv_iload E.x E.b d_Mod_triangle_79 (lv_at hl 4 rfl) ?_
      refine lv_iadd E.x E.b d_Mod_triangle_81 ?_
      obtain ⟨o35, h_o35, h⟩ := bd_some h
      refine clV_Vwm_got E w (x0 := v1) (x1 := v3) (x2 := (4 + v4)) h_o35 k2366 (by decide) hl.1 (Nat.le_of_ble_eq_true rfl) d_Mod_triangle_82 (fun H locs w => ?_)
      obtain ⟨o36, h_o36, h⟩ := bd_some h
      refine clV_Erm_value E w (x0 := v3) (x1 := v4) (x2 := o35.2) h_o36 k2383 (by decide) hl.1 (Nat.le_of_ble_eq_true rfl) d_Mod_triangle_85 (fun H locs w => ?_)
      obtain ⟨y37, e_y37, h⟩ := lt_some h
      refine lv_iinc (v := y37) (lv' := [(4, .int y37), (0, .ref (ad 59)), (1, .int v1), (2, .int v2), (3, .int v3)]) E.x E.b d_Mod_triangle_88 hl (k := 4) rfl (e_y37) (by decide) rfl (fun ls hl => ?_)
      refine lv_goto (tgt := 58) E.x E.b d_Mod_triangle_91 (by decide) ?_
      exact hr_58 o36 v1 v2 v3 y37 _ _ _ h w (lv_sub hl [1, 2, 3, 4, 0] rfl)
def L_Mod_triangle_2 : Nat → Sg → Int32 → Int32 → Int32 → Option (Sg)
  | 0, _, _, _, _ => none
  | n + 1, σ, v1, v2, v3 => if 3 ≤ v3 then (bd (F_Mod_edge σ 41 0) (fun o38 => bd (F_Mod_greatest 0 o38) (fun o39 => L_Mod_triangle_116 100000 σ v2 o39))) else (bd (F_Vwm_got σ v1 v3 0) (fun o40 => bd (F_Vwm_got o40.1 v1 v3 1) (fun o41 => bd (F_Vwm_got o41.1 v1 v3 2) (fun o42 => bd (F_Vwm_got o42.1 v1 v3 3) (fun o43 => bd (F_Erm_corner o43.1 v3 o40.2 o41.2 o42.2 o43.2) (fun o44 => L_Mod_triangle_58 (L_Mod_triangle_2 n) 100000 o44 v1 v2 v3 0))))))
set_option maxRecDepth 10000 in
set_option maxHeartbeats 4000000 in
theorem lt_Mod_triangle_2 {p : Program} {l : Launch} {e : Env} {R : Room} {s : State} {m : MethodId} {args : Array Value} {below : List Frame} {meth : Method} {c : Code} {D : va_G} {τ : ClassId × ClassId × ClassId} {B : Nat} {A : Nat → Prop} {ad : Nat → Nat} (E : Cx p R s m args meth c prog_14_method_24_code 5 "DrawingMachineModel" 14 D τ B A) (hret : meth.sig.returnType = none) (o : Sg) : ∀ (n : Nat) (σ : Sg) (v1 : Int32) (v2 : Int32) (v3 : Int32) (H : Heap) (locs : List Loc) (ls : Array Slot), L_Mod_triangle_2 n σ v1 v2 v3 = some o → Wd s D A (wdM τ σ ad) H locs → lv_has ls 5 [(0, .ref (ad 59)), (1, .int v1), (2, .int v2), (3, .int v3)] → W p l e R s m args below meth c H locs 0 0 (QV below args s A D τ (wdM τ o ad)) (F0 m 2 ls []) := by
  intro n
  induction n with
  | zero =>
    intro σ v1 v2 v3 H locs ls h w hl
    cases h
  | succ n hr_2 =>
    intro σ v1 v2 v3 H locs ls h w hl
    refine lv_iload_n E.x E.b d_Mod_triangle_2 rfl (lv_at hl 3 rfl) ?_
    refine lv_iconst (v := 3) E.x E.b d_Mod_triangle_3 (by decide) ?_
    refine lv_icmp_ge (tgt := 100) E.x E.b d_Mod_triangle_4 (by decide) (fun c => ?_) (fun c => ?_)
    ·
      replace h := ifT c h
      refine lv_iconst (v := 0) E.x E.b d_Mod_triangle_100 (by decide) ?_
      refine lv_aload_n E.x E.b d_Mod_triangle_101 rfl (lv_at hl 0 rfl) ?_
      refine gM_Mod_raster E w k1773 d_Mod_triangle_102 ?_
      refine gNM_Erm_cornerY E w n1671 d_Mod_triangle_105 ?_
      refine lv_iconst (v := 0) E.x E.b d_Mod_triangle_108 (by decide) ?_
      obtain ⟨o38, h_o38, h⟩ := bd_some h
      refine clS_Mod_edge E w (ar0 := 41) (x1 := 0) h_o38 k2387 (by decide) hl.1 (Nat.le_of_ble_eq_true rfl) d_Mod_triangle_109 (fun H locs w => ?_)
      obtain ⟨o39, h_o39, h⟩ := bd_some h
      refine clS_Mod_greatest E w (x0 := 0) (x1 := o38) h_o39 k2390 (by decide) hl.1 (Nat.le_of_ble_eq_true rfl) d_Mod_triangle_112 (fun H locs w => ?_)
      refine lv_istore_n (lv' := [(3, .int o39), (0, .ref (ad 59)), (1, .int v1), (2, .int v2)]) E.x E.b d_Mod_triangle_115 rfl hl (by decide) rfl (fun ls hl => ?_)
      exact lt_Mod_triangle_116 E hret o 100000 σ v2 o39 _ _ _ h w (lv_sub hl [1, 3, 0] rfl)
    ·
      replace h := ifF c h
      refine lv_aload_n E.x E.b d_Mod_triangle_7 rfl (lv_at hl 0 rfl) ?_
      refine gM_Mod_raster E w k1773 d_Mod_triangle_8 ?_
      refine lv_iload_n E.x E.b d_Mod_triangle_11 rfl (lv_at hl 3 rfl) ?_
      refine lv_aload_n E.x E.b d_Mod_triangle_12 rfl (lv_at hl 0 rfl) ?_
      refine gM_Mod_vertices E w k1772 d_Mod_triangle_13 ?_
      refine lv_iload_n E.x E.b d_Mod_triangle_16 rfl (lv_at hl 1 rfl) ?_
      refine lv_iload_n E.x E.b d_Mod_triangle_17 rfl (lv_at hl 3 rfl) ?_
      refine lv_iconst (v := 0) E.x E.b d_Mod_triangle_18 (by decide) ?_
      obtain ⟨o40, h_o40, h⟩ := bd_some h
      refine clV_Vwm_got E w (x0 := v1) (x1 := v3) (x2 := 0) h_o40 k2366 (by decide) hl.1 (Nat.le_of_ble_eq_true rfl) d_Mod_triangle_19 (fun H locs w => ?_)
      refine lv_aload_n E.x E.b d_Mod_triangle_22 rfl (lv_at hl 0 rfl) ?_
      refine gM_Mod_vertices E w k1772 d_Mod_triangle_23 ?_
      refine lv_iload_n E.x E.b d_Mod_triangle_26 rfl (lv_at hl 1 rfl) ?_
      refine lv_iload_n E.x E.b d_Mod_triangle_27 rfl (lv_at hl 3 rfl) ?_
      refine lv_iconst (v := 1) E.x E.b d_Mod_triangle_28 (by decide) ?_
      obtain ⟨o41, h_o41, h⟩ := bd_some h
      refine clV_Vwm_got E w (x0 := v1) (x1 := v3) (x2 := 1) h_o41 k2366 (by decide) hl.1 (Nat.le_of_ble_eq_true rfl) d_Mod_triangle_29 (fun H locs w => ?_)
      refine lv_aload_n E.x E.b d_Mod_triangle_32 rfl (lv_at hl 0 rfl) ?_
      refine gM_Mod_vertices E w k1772 d_Mod_triangle_33 ?_
      refine lv_iload_n E.x E.b d_Mod_triangle_36 rfl (lv_at hl 1 rfl) ?_
      refine lv_iload_n E.x E.b d_Mod_triangle_37 rfl (lv_at hl 3 rfl) ?_
      refine lv_iconst (v := 2) E.x E.b d_Mod_triangle_38 (by decide) ?_
      obtain ⟨o42, h_o42, h⟩ := bd_some h
      refine clV_Vwm_got E w (x0 := v1) (x1 := v3) (x2 := 2) h_o42 k2366 (by decide) hl.1 (Nat.le_of_ble_eq_true rfl) d_Mod_triangle_39 (fun H locs w => ?_)
      refine lv_aload_n E.x E.b d_Mod_triangle_42 rfl (lv_at hl 0 rfl) ?_
      refine gM_Mod_vertices E w k1772 d_Mod_triangle_43 ?_
      refine lv_iload_n E.x E.b d_Mod_triangle_46 rfl (lv_at hl 1 rfl) ?_
      refine lv_iload_n E.x E.b d_Mod_triangle_47 rfl (lv_at hl 3 rfl) ?_
      refine lv_iconst (v := 3) E.x E.b d_Mod_triangle_48 (by decide) ?_
      obtain ⟨o43, h_o43, h⟩ := bd_some h
      refine clV_Vwm_got E w (x0 := v1) (x1 := v3) (x2 := 3) h_o43 k2366 (by decide) hl.1 (Nat.le_of_ble_eq_true rfl) d_Mod_triangle_49 (fun H locs w => ?_)
      obtain ⟨o44, h_o44, h⟩ := bd_some h
      refine clV_Erm_corner E w (x0 := v3) (x1 := o40.2) (x2 := o41.2) (x3 := o42.2) (x4 := o43.2) h_o44 k2370 (by decide) hl.1 (Nat.le_of_ble_eq_true rfl) d_Mod_triangle_52 (fun H locs w => ?_)
      refine lv_iconst (v := 0) E.x E.b d_Mod_triangle_55 (by decide) ?_
      refine lv_istore (lv' := [(4, .int 0), (0, .ref (ad 59)), (1, .int v1), (2, .int v2), (3, .int v3)]) E.x E.b d_Mod_triangle_56 hl (by decide) rfl (fun ls hl => ?_)
      exact lt_Mod_triangle_58 E hret o (L_Mod_triangle_2 n) hr_2 100000 o44 v1 v2 v3 0 _ _ _ h w (lv_sub hl [1, 2, 3, 4, 0] rfl)
def F_Mod_triangle (σ : Sg) (x0 : Int32) (x1 : Int32) : Option (Sg) := L_Mod_triangle_2 100000 σ x0 x1 0
set_option maxRecDepth 10000 in
set_option maxHeartbeats 4000000 in
theorem c_Mod_triangle (l : Launch) (D : va_G) (τ : ClassId × ClassId × ClassId) (B : Nat) (σ : Sg) (ad : Nat → Nat) (x0 : Int32) (x1 : Int32) (o : Sg) (h : F_Mod_triangle σ x0 x1 = some o) : MV l y_Mod_triangle (Cond.code y_Mod_triangle prog_14_method_24_code 5 none) 14 D τ B [.ref (ad 59), .int x0, .int x1] (wdM τ σ ad) (wdM τ o ad) := by
  refine en_v (by decide) (Nat.le_of_ble_eq_true rfl) ?_
  intro p e R s m args below meth c H locs ls A E hret w hl
  have E : Cx p R s m args meth c prog_14_method_24_code 5 "DrawingMachineModel" 14 D τ B A := E
  have hl : lv_has ls 5 [(0, .ref (ad 59)), (1, .int x0), (2, .int x1)] := hl
  refine lv_iconst (v := 0) E.x E.b d_Mod_triangle_0 (by decide) ?_
  refine lv_istore_n (lv' := [(3, .int 0), (0, .ref (ad 59)), (1, .int x0), (2, .int x1)]) E.x E.b d_Mod_triangle_1 rfl hl (by decide) rfl (fun ls hl => ?_)
  exact lt_Mod_triangle_2 E hret o 100000 σ x0 x1 0 _ _ _ h w (lv_sub hl [1, 2, 3, 0] rfl)
theorem clV_Mod_triangle {p : Program} {l : Launch} {e : Env} {R : Room} {s : State} {m : MethodId} {args : Array Value} {below : List Frame} {meth : Method} {c : Code} {H : Heap} {locs : List Loc} {Q : State → Prop} {cc : ByteArray} {nL pc lev : Nat} {own : String} {D : va_G} {τ : ClassId × ClassId × ClassId} {B : Nat} {A : Nat → Prop} {σ : Sg} {ad : Nat → Nat} {ls : Array Slot} {rest : List Value} (E : Cx p R s m args meth c cc nL own lev D τ B A) (w : Wd s D A (wdM τ σ ad) H locs) {x0 : Int32} {x1 : Int32} {o : Sg} (h : F_Mod_triangle σ x0 x1 = some o) {index : Nat} (hlk : Cond.methodLink own index y_Mod_triangle ∈ tw) (hlev : 14 < lev) (hsz : ls.size = nL) (hr : (rest.map fun v => v.category).sum ≤ 8) (hd : decode cc pc = .ok (.invokevirtual index, 3)) (kk : ∀ (H1 : Heap) (locs1 : List Loc), Wd s D A (wdM τ o ad) H1 locs1 → W p l e R s m args below meth c H1 locs1 0 0 Q (F0 m (pc + 3) ls (rest))) : W p l e R s m args below meth c H locs 0 0 Q (F0 m pc ls (.int x1 :: .int x0 :: .ref (ad 59) :: rest)) :=
  cr_v w E.C (va_runV (As := [.int x0, .int x1]) (rest := rest) E.fix (c_Mod_triangle l D τ B σ ad x0 x1 o h H.size) (cwV 2 E.w (tw_pre (tw_good k2365) (l := [_, _, _, _]) (List.forall_mem_cons.mpr ⟨hlk, List.forall_mem_cons.mpr ⟨k2364, List.forall_mem_cons.mpr ⟨ks99, List.forall_mem_cons.mpr ⟨k14, fun _ h => absurd h List.not_mem_nil⟩⟩⟩⟩)) rfl rfl rfl (by decide +kernel) (E.rm hlev (by decide))) (wd_preV w E.C [.int x0, .int x1] rcM_Mod rfl) rfl rfl hsz rfl (lv_room hr) hd ⟨Nat.zero_le _, Nat.zero_le _⟩) kk

theorem d_Vwm_corner_0 : decode prog_20_method_12_code 0 = .ok (.aload_n 0, 1) := by decide +kernel
theorem d_Vwm_corner_1 : decode prog_20_method_12_code 1 = .ok (.iload_n 1, 1) := by decide +kernel
theorem d_Vwm_corner_2 : decode prog_20_method_12_code 2 = .ok (.iconst 0, 1) := by decide +kernel
theorem d_Vwm_corner_3 : decode prog_20_method_12_code 3 = .ok (.iconst 2, 1) := by decide +kernel
theorem d_Vwm_corner_4 : decode prog_20_method_12_code 4 = .ok (.invokestatic 38, 3) := by decide +kernel
theorem d_Vwm_corner_7 : decode prog_20_method_12_code 7 = .ok (.ifCond .eq 22, 3) := by decide +kernel
theorem d_Vwm_corner_10 : decode prog_20_method_12_code 10 = .ok (.iload_n 2, 1) := by decide +kernel
theorem d_Vwm_corner_11 : decode prog_20_method_12_code 11 = .ok (.iconst 0, 1) := by decide +kernel
theorem d_Vwm_corner_12 : decode prog_20_method_12_code 12 = .ok (.ldc 59, 2) := by decide +kernel
theorem d_Vwm_corner_14 : decode prog_20_method_12_code 14 = .ok (.invokestatic 38, 3) := by decide +kernel
theorem d_Vwm_corner_17 : decode prog_20_method_12_code 17 = .ok (.ifCond .eq 12, 3) := by decide +kernel
theorem d_Vwm_corner_20 : decode prog_20_method_12_code 20 = .ok (.iload_n 3, 1) := by decide +kernel
theorem d_Vwm_corner_21 : decode prog_20_method_12_code 21 = .ok (.iconst 0, 1) := by decide +kernel
theorem d_Vwm_corner_22 : decode prog_20_method_12_code 22 = .ok (.iconst 2, 1) := by decide +kernel
theorem d_Vwm_corner_23 : decode prog_20_method_12_code 23 = .ok (.invokestatic 38, 3) := by decide +kernel
theorem d_Vwm_corner_26 : decode prog_20_method_12_code 26 = .ok (.ifCond .ne 7, 3) := by decide +kernel
theorem d_Vwm_corner_29 : decode prog_20_method_12_code 29 = .ok (.iconst 1, 1) := by decide +kernel
theorem d_Vwm_corner_30 : decode prog_20_method_12_code 30 = .ok (.goto 4, 3) := by decide +kernel
theorem d_Vwm_corner_33 : decode prog_20_method_12_code 33 = .ok (.iconst 0, 1) := by decide +kernel
theorem d_Vwm_corner_34 : decode prog_20_method_12_code 34 = .ok (.iconst 0, 1) := by decide +kernel
theorem d_Vwm_corner_35 : decode prog_20_method_12_code 35 = .ok (.invokevirtual 42, 3) := by decide +kernel
theorem d_Vwm_corner_38 : decode prog_20_method_12_code 38 = .ok (.ifCond .eq 5, 3) := by decide +kernel
theorem d_Vwm_corner_41 : decode prog_20_method_12_code 41 = .ok (.iconst 0, 1) := by decide +kernel
theorem d_Vwm_corner_42 : decode prog_20_method_12_code 42 = .ok (.ireturn, 1) := by decide +kernel
theorem d_Vwm_corner_43 : decode prog_20_method_12_code 43 = .ok (.iload_n 1, 1) := by decide +kernel
theorem d_Vwm_corner_44 : decode prog_20_method_12_code 44 = .ok (.ifCond .ne 9, 3) := by decide +kernel
theorem d_Vwm_corner_47 : decode prog_20_method_12_code 47 = .ok (.iconst 3, 1) := by decide +kernel
theorem d_Vwm_corner_48 : decode prog_20_method_12_code 48 = .ok (.iload_n 2, 1) := by decide +kernel
theorem d_Vwm_corner_49 : decode prog_20_method_12_code 49 = .ok (.imul, 1) := by decide +kernel
theorem d_Vwm_corner_50 : decode prog_20_method_12_code 50 = .ok (.iload_n 3, 1) := by decide +kernel
theorem d_Vwm_corner_51 : decode prog_20_method_12_code 51 = .ok (.iadd, 1) := by decide +kernel
theorem d_Vwm_corner_52 : decode prog_20_method_12_code 52 = .ok (.ireturn, 1) := by decide +kernel
theorem d_Vwm_corner_53 : decode prog_20_method_12_code 53 = .ok (.iload_n 1, 1) := by decide +kernel
theorem d_Vwm_corner_54 : decode prog_20_method_12_code 54 = .ok (.iconst 2, 1) := by decide +kernel
theorem d_Vwm_corner_55 : decode prog_20_method_12_code 55 = .ok (.if_icmp .ne 15, 3) := by decide +kernel
theorem d_Vwm_corner_58 : decode prog_20_method_12_code 58 = .ok (.iload_n 3, 1) := by decide +kernel
theorem d_Vwm_corner_59 : decode prog_20_method_12_code 59 = .ok (.ifCond .ne 7, 3) := by decide +kernel
theorem d_Vwm_corner_62 : decode prog_20_method_12_code 62 = .ok (.iconst 0, 1) := by decide +kernel
theorem d_Vwm_corner_63 : decode prog_20_method_12_code 63 = .ok (.goto 6, 3) := by decide +kernel
theorem d_Vwm_corner_66 : decode prog_20_method_12_code 66 = .ok (.iload_n 2, 1) := by decide +kernel
theorem d_Vwm_corner_67 : decode prog_20_method_12_code 67 = .ok (.iload_n 3, 1) := by decide +kernel
theorem d_Vwm_corner_68 : decode prog_20_method_12_code 68 = .ok (.iadd, 1) := by decide +kernel
theorem d_Vwm_corner_69 : decode prog_20_method_12_code 69 = .ok (.ireturn, 1) := by decide +kernel
theorem d_Vwm_corner_70 : decode prog_20_method_12_code 70 = .ok (.iload_n 2, 1) := by decide +kernel
theorem d_Vwm_corner_71 : decode prog_20_method_12_code 71 = .ok (.iconst 2, 1) := by decide +kernel
theorem d_Vwm_corner_72 : decode prog_20_method_12_code 72 = .ok (.irem, 1) := by decide +kernel
theorem d_Vwm_corner_73 : decode prog_20_method_12_code 73 = .ok (.iconst 1, 1) := by decide +kernel
theorem d_Vwm_corner_74 : decode prog_20_method_12_code 74 = .ok (.if_icmp .ne 12, 3) := by decide +kernel
theorem d_Vwm_corner_77 : decode prog_20_method_12_code 77 = .ok (.iload_n 3, 1) := by decide +kernel
theorem d_Vwm_corner_78 : decode prog_20_method_12_code 78 = .ok (.iconst 2, 1) := by decide +kernel
theorem d_Vwm_corner_79 : decode prog_20_method_12_code 79 = .ok (.if_icmp .ge 7, 3) := by decide +kernel
theorem d_Vwm_corner_82 : decode prog_20_method_12_code 82 = .ok (.iconst 1, 1) := by decide +kernel
theorem d_Vwm_corner_83 : decode prog_20_method_12_code 83 = .ok (.goto 4, 3) := by decide +kernel
theorem d_Vwm_corner_86 : decode prog_20_method_12_code 86 = .ok (.iconst 0, 1) := by decide +kernel
theorem d_Vwm_corner_87 : decode prog_20_method_12_code 87 = .ok (.istore 4, 2) := by decide +kernel
theorem d_Vwm_corner_89 : decode prog_20_method_12_code 89 = .ok (.iload 4, 2) := by decide +kernel
theorem d_Vwm_corner_91 : decode prog_20_method_12_code 91 = .ok (.ifCond .eq 11, 3) := by decide +kernel
theorem d_Vwm_corner_94 : decode prog_20_method_12_code 94 = .ok (.iload_n 2, 1) := by decide +kernel
theorem d_Vwm_corner_95 : decode prog_20_method_12_code 95 = .ok (.iconst 1, 1) := by decide +kernel
theorem d_Vwm_corner_96 : decode prog_20_method_12_code 96 = .ok (.iadd, 1) := by decide +kernel
theorem d_Vwm_corner_97 : decode prog_20_method_12_code 97 = .ok (.iload_n 3, 1) := by decide +kernel
theorem d_Vwm_corner_98 : decode prog_20_method_12_code 98 = .ok (.isub, 1) := by decide +kernel
theorem d_Vwm_corner_99 : decode prog_20_method_12_code 99 = .ok (.goto 6, 3) := by decide +kernel
theorem d_Vwm_corner_102 : decode prog_20_method_12_code 102 = .ok (.iload_n 2, 1) := by decide +kernel
theorem d_Vwm_corner_103 : decode prog_20_method_12_code 103 = .ok (.iload_n 3, 1) := by decide +kernel
theorem d_Vwm_corner_104 : decode prog_20_method_12_code 104 = .ok (.iadd, 1) := by decide +kernel
theorem d_Vwm_corner_105 : decode prog_20_method_12_code 105 = .ok (.ireturn, 1) := by decide +kernel
def F_Vwm_corner_105 (σ : Sg) (s0 : Int32) : Option (Sg × Int32) := some (σ, s0)
set_option maxRecDepth 10000 in
set_option maxHeartbeats 4000000 in
theorem bt_Vwm_corner_105 {p : Program} {l : Launch} {e : Env} {R : Room} {s : State} {m : MethodId} {args : Array Value} {below : List Frame} {meth : Method} {c : Code} {D : va_G} {τ : ClassId × ClassId × ClassId} {B : Nat} {A : Nat → Prop} {ad : Nat → Nat} (E : Cx p R s m args meth c prog_20_method_12_code 5 "DrawingMachineModel$VertexWorkModel" 1 D τ B A) (hret : meth.sig.returnType = (some .int)) (o : Sg × Int32) (σ : Sg) (s0 : Int32) (h : F_Vwm_corner_105 σ s0 = some o) {H : Heap} {locs : List Loc} {ls : Array Slot} (w : Wd s D A (wdM τ σ ad) H locs) (hl : lv_has ls 5 []) : W p l e R s m args below meth c H locs 0 0 (QI below args s A D τ (wdM τ o.1 ad) o.2) (F0 m 105 ls [.int s0]) := by
  obtain rfl := Option.some.inj h
  exact rt_i E w hret d_Vwm_corner_105
def F_Vwm_corner_87 (σ : Sg) (v2 : Int32) (v3 : Int32) (s0 : Int32) : Option (Sg × Int32) := if s0 = 0 then (F_Vwm_corner_105 σ (v2 + v3)) else (F_Vwm_corner_105 σ ((v2 + 1) - v3))
set_option maxRecDepth 10000 in
set_option maxHeartbeats 4000000 in
theorem bt_Vwm_corner_87 {p : Program} {l : Launch} {e : Env} {R : Room} {s : State} {m : MethodId} {args : Array Value} {below : List Frame} {meth : Method} {c : Code} {D : va_G} {τ : ClassId × ClassId × ClassId} {B : Nat} {A : Nat → Prop} {ad : Nat → Nat} (E : Cx p R s m args meth c prog_20_method_12_code 5 "DrawingMachineModel$VertexWorkModel" 1 D τ B A) (hret : meth.sig.returnType = (some .int)) (o : Sg × Int32) (σ : Sg) (v2 : Int32) (v3 : Int32) (s0 : Int32) (h : F_Vwm_corner_87 σ v2 v3 s0 = some o) {H : Heap} {locs : List Loc} {ls : Array Slot} (w : Wd s D A (wdM τ σ ad) H locs) (hl : lv_has ls 5 [(2, .int v2), (3, .int v3)]) : W p l e R s m args below meth c H locs 0 0 (QI below args s A D τ (wdM τ o.1 ad) o.2) (F0 m 87 ls [.int s0]) := by
  refine lv_istore (lv' := [(4, .int s0), (2, .int v2), (3, .int v3)]) E.x E.b d_Vwm_corner_87 hl (by decide) rfl (fun ls hl => ?_)
  refine lv_iload E.x E.b d_Vwm_corner_89 (lv_at hl 0 rfl) ?_
  refine lv_if_eq (tgt := 102) E.x E.b d_Vwm_corner_91 (by decide) (fun c => ?_) (fun c => ?_)
  ·
    replace h := ifT c h
    refine lv_iload_n E.x E.b d_Vwm_corner_102 rfl (lv_at hl 1 rfl) ?_
    refine lv_iload_n E.x E.b d_Vwm_corner_103 rfl (lv_at hl 2 rfl) ?_
    refine lv_iadd E.x E.b d_Vwm_corner_104 ?_
    exact bt_Vwm_corner_105 E hret o σ (v2 + v3) h w (lv_sub hl [] rfl)
  ·
    replace h := ifF c h
    refine lv_iload_n E.x E.b d_Vwm_corner_94 rfl (lv_at hl 1 rfl) ?_
    refine lv_iconst (v := 1) E.x E.b d_Vwm_corner_95 (by decide) ?_
    refine lv_iadd E.x E.b d_Vwm_corner_96 ?_
    refine lv_iload_n E.x E.b d_Vwm_corner_97 rfl (lv_at hl 2 rfl) ?_
    refine lv_isub E.x E.b d_Vwm_corner_98 ?_
    refine lv_goto (tgt := 105) E.x E.b d_Vwm_corner_99 (by decide) ?_
    exact bt_Vwm_corner_105 E hret o σ ((v2 + 1) - v3) h w (lv_sub hl [] rfl)
def F_Vwm_corner_86 (σ : Sg) (v2 : Int32) (v3 : Int32) : Option (Sg × Int32) := F_Vwm_corner_87 σ v2 v3 0
set_option maxRecDepth 10000 in
set_option maxHeartbeats 4000000 in
theorem bt_Vwm_corner_86 {p : Program} {l : Launch} {e : Env} {R : Room} {s : State} {m : MethodId} {args : Array Value} {below : List Frame} {meth : Method} {c : Code} {D : va_G} {τ : ClassId × ClassId × ClassId} {B : Nat} {A : Nat → Prop} {ad : Nat → Nat} (E : Cx p R s m args meth c prog_20_method_12_code 5 "DrawingMachineModel$VertexWorkModel" 1 D τ B A) (hret : meth.sig.returnType = (some .int)) (o : Sg × Int32) (σ : Sg) (v2 : Int32) (v3 : Int32) (h : F_Vwm_corner_86 σ v2 v3 = some o) {H : Heap} {locs : List Loc} {ls : Array Slot} (w : Wd s D A (wdM τ σ ad) H locs) (hl : lv_has ls 5 [(2, .int v2), (3, .int v3)]) : W p l e R s m args below meth c H locs 0 0 (QI below args s A D τ (wdM τ o.1 ad) o.2) (F0 m 86 ls []) := by
  refine lv_iconst (v := 0) E.x E.b d_Vwm_corner_86 (by decide) ?_
  exact bt_Vwm_corner_87 E hret o σ v2 v3 0 h w (lv_sub hl [0, 1] rfl)
def F_Vwm_corner_69 (σ : Sg) (s0 : Int32) : Option (Sg × Int32) := some (σ, s0)
set_option maxRecDepth 10000 in
set_option maxHeartbeats 4000000 in
theorem bt_Vwm_corner_69 {p : Program} {l : Launch} {e : Env} {R : Room} {s : State} {m : MethodId} {args : Array Value} {below : List Frame} {meth : Method} {c : Code} {D : va_G} {τ : ClassId × ClassId × ClassId} {B : Nat} {A : Nat → Prop} {ad : Nat → Nat} (E : Cx p R s m args meth c prog_20_method_12_code 5 "DrawingMachineModel$VertexWorkModel" 1 D τ B A) (hret : meth.sig.returnType = (some .int)) (o : Sg × Int32) (σ : Sg) (s0 : Int32) (h : F_Vwm_corner_69 σ s0 = some o) {H : Heap} {locs : List Loc} {ls : Array Slot} (w : Wd s D A (wdM τ σ ad) H locs) (hl : lv_has ls 5 []) : W p l e R s m args below meth c H locs 0 0 (QI below args s A D τ (wdM τ o.1 ad) o.2) (F0 m 69 ls [.int s0]) := by
  obtain rfl := Option.some.inj h
  exact rt_i E w hret d_Vwm_corner_69
def F_Vwm_corner_34 (σ : Sg) (v1 : Int32) (v2 : Int32) (v3 : Int32) (s1 : Int32) : Option (Sg × Int32) := bd (F_Vwm_refuse σ s1 0) (fun o5 => if o5.2 = 0 then (if v1 = 0 then (some (o5.1, (3 * v2) + v3)) else (if v1 = 2 then (if v3 = 0 then (F_Vwm_corner_69 o5.1 0) else (F_Vwm_corner_69 o5.1 (v2 + v3))) else (if (irem v2 2) = 1 then (if 2 ≤ v3 then (F_Vwm_corner_86 o5.1 v2 v3) else (F_Vwm_corner_87 o5.1 v2 v3 1)) else (F_Vwm_corner_86 o5.1 v2 v3)))) else (some (o5.1, 0)))
set_option maxRecDepth 10000 in
set_option maxHeartbeats 4000000 in
theorem bt_Vwm_corner_34 {p : Program} {l : Launch} {e : Env} {R : Room} {s : State} {m : MethodId} {args : Array Value} {below : List Frame} {meth : Method} {c : Code} {D : va_G} {τ : ClassId × ClassId × ClassId} {B : Nat} {A : Nat → Prop} {ad : Nat → Nat} (E : Cx p R s m args meth c prog_20_method_12_code 5 "DrawingMachineModel$VertexWorkModel" 1 D τ B A) (hret : meth.sig.returnType = (some .int)) (o : Sg × Int32) (σ : Sg) (v1 : Int32) (v2 : Int32) (v3 : Int32) (s1 : Int32) (h : F_Vwm_corner_34 σ v1 v2 v3 s1 = some o) {H : Heap} {locs : List Loc} {ls : Array Slot} (w : Wd s D A (wdM τ σ ad) H locs) (hl : lv_has ls 5 [(1, .int v1), (2, .int v2), (3, .int v3)]) : W p l e R s m args below meth c H locs 0 0 (QI below args s A D τ (wdM τ o.1 ad) o.2) (F0 m 34 ls [.int s1, .ref (ad 62)]) := by
  refine lv_iconst (v := 0) E.x E.b d_Vwm_corner_34 (by decide) ?_
  obtain ⟨o5, h_o5, h⟩ := bd_some h
  refine clV_Vwm_refuse E w (x0 := s1) (x1 := 0) h_o5 k2028 (by decide) hl.1 (Nat.le_of_ble_eq_true rfl) d_Vwm_corner_35 (fun H locs w => ?_)
  refine lv_if_eq (tgt := 43) E.x E.b d_Vwm_corner_38 (by decide) (fun c => ?_) (fun c => ?_)
  ·
    replace h := ifT c h
    refine lv_iload_n E.x E.b d_Vwm_corner_43 rfl (lv_at hl 0 rfl) ?_
    refine lv_if_ne (tgt := 53) E.x E.b d_Vwm_corner_44 (by decide) (fun c => ?_) (fun c => ?_)
    ·
      replace h := ifF c h
      refine lv_iload_n E.x E.b d_Vwm_corner_53 rfl (lv_at hl 0 rfl) ?_
      refine lv_iconst (v := 2) E.x E.b d_Vwm_corner_54 (by decide) ?_
      refine lv_icmp_ne (tgt := 70) E.x E.b d_Vwm_corner_55 (by decide) (fun c => ?_) (fun c => ?_)
      ·
        replace h := ifF c h
        refine lv_iload_n E.x E.b d_Vwm_corner_70 rfl (lv_at hl 1 rfl) ?_
        refine lv_iconst (v := 2) E.x E.b d_Vwm_corner_71 (by decide) ?_
        refine lv_irem E.x E.b d_Vwm_corner_72 (by decide) ?_
        refine wi_e (v := irem v2 2) rfl ?_
        refine lv_iconst (v := 1) E.x E.b d_Vwm_corner_73 (by decide) ?_
        refine lv_icmp_ne (tgt := 86) E.x E.b d_Vwm_corner_74 (by decide) (fun c => ?_) (fun c => ?_)
        ·
          replace h := ifF c h
          exact bt_Vwm_corner_86 E hret o o5.1 v2 v3 h w (lv_sub hl [1, 2] rfl)
        ·
          replace h := ifT c h
          refine lv_iload_n E.x E.b d_Vwm_corner_77 rfl (lv_at hl 2 rfl) ?_
          refine lv_iconst (v := 2) E.x E.b d_Vwm_corner_78 (by decide) ?_
          refine lv_icmp_ge (tgt := 86) E.x E.b d_Vwm_corner_79 (by decide) (fun c => ?_) (fun c => ?_)
          ·
            replace h := ifT c h
            exact bt_Vwm_corner_86 E hret o o5.1 v2 v3 h w (lv_sub hl [1, 2] rfl)
          ·
            replace h := ifF c h
            refine lv_iconst (v := 1) E.x E.b d_Vwm_corner_82 (by decide) ?_
            refine lv_goto (tgt := 87) E.x E.b d_Vwm_corner_83 (by decide) ?_
            exact bt_Vwm_corner_87 E hret o o5.1 v2 v3 1 h w (lv_sub hl [1, 2] rfl)
      ·
        replace h := ifT c h
        refine lv_iload_n E.x E.b d_Vwm_corner_58 rfl (lv_at hl 2 rfl) ?_
        refine lv_if_ne (tgt := 66) E.x E.b d_Vwm_corner_59 (by decide) (fun c => ?_) (fun c => ?_)
        ·
          replace h := ifF c h
          refine lv_iload_n E.x E.b d_Vwm_corner_66 rfl (lv_at hl 1 rfl) ?_
          refine lv_iload_n E.x E.b d_Vwm_corner_67 rfl (lv_at hl 2 rfl) ?_
          refine lv_iadd E.x E.b d_Vwm_corner_68 ?_
          exact bt_Vwm_corner_69 E hret o o5.1 (v2 + v3) h w (lv_sub hl [] rfl)
        ·
          replace h := ifT c h
          refine lv_iconst (v := 0) E.x E.b d_Vwm_corner_62 (by decide) ?_
          refine lv_goto (tgt := 69) E.x E.b d_Vwm_corner_63 (by decide) ?_
          exact bt_Vwm_corner_69 E hret o o5.1 0 h w (lv_sub hl [] rfl)
    ·
      replace h := ifT c h
      refine lv_iconst (v := 3) E.x E.b d_Vwm_corner_47 (by decide) ?_
      refine lv_iload_n E.x E.b d_Vwm_corner_48 rfl (lv_at hl 1 rfl) ?_
      refine lv_imul E.x E.b d_Vwm_corner_49 ?_
      refine lv_iload_n E.x E.b d_Vwm_corner_50 rfl (lv_at hl 2 rfl) ?_
      refine lv_iadd E.x E.b d_Vwm_corner_51 ?_
      obtain rfl := Option.some.inj h
      exact rt_i E w hret d_Vwm_corner_52
  ·
    replace h := ifF c h
    refine lv_iconst (v := 0) E.x E.b d_Vwm_corner_41 (by decide) ?_
    obtain rfl := Option.some.inj h
    exact rt_i E w hret d_Vwm_corner_42
def F_Vwm_corner_29 (σ : Sg) (v1 : Int32) (v2 : Int32) (v3 : Int32) : Option (Sg × Int32) := F_Vwm_corner_34 σ v1 v2 v3 1
set_option maxRecDepth 10000 in
set_option maxHeartbeats 4000000 in
theorem bt_Vwm_corner_29 {p : Program} {l : Launch} {e : Env} {R : Room} {s : State} {m : MethodId} {args : Array Value} {below : List Frame} {meth : Method} {c : Code} {D : va_G} {τ : ClassId × ClassId × ClassId} {B : Nat} {A : Nat → Prop} {ad : Nat → Nat} (E : Cx p R s m args meth c prog_20_method_12_code 5 "DrawingMachineModel$VertexWorkModel" 1 D τ B A) (hret : meth.sig.returnType = (some .int)) (o : Sg × Int32) (σ : Sg) (v1 : Int32) (v2 : Int32) (v3 : Int32) (h : F_Vwm_corner_29 σ v1 v2 v3 = some o) {H : Heap} {locs : List Loc} {ls : Array Slot} (w : Wd s D A (wdM τ σ ad) H locs) (hl : lv_has ls 5 [(1, .int v1), (2, .int v2), (3, .int v3)]) : W p l e R s m args below meth c H locs 0 0 (QI below args s A D τ (wdM τ o.1 ad) o.2) (F0 m 29 ls [.ref (ad 62)]) := by
  refine lv_iconst (v := 1) E.x E.b d_Vwm_corner_29 (by decide) ?_
  refine lv_goto (tgt := 34) E.x E.b d_Vwm_corner_30 (by decide) ?_
  exact bt_Vwm_corner_34 E hret o σ v1 v2 v3 1 h w (lv_sub hl [0, 1, 2] rfl)
def F_Vwm_corner (σ : Sg) (x0 : Int32) (x1 : Int32) (x2 : Int32) : Option (Sg × Int32) := bd (F_Vwm_in x0 0 2) (fun o6 => if o6 = 0 then (F_Vwm_corner_29 σ x0 x1 x2) else (bd (F_Vwm_in x1 0 100000000) (fun o7 => if o7 = 0 then (F_Vwm_corner_29 σ x0 x1 x2) else (bd (F_Vwm_in x2 0 2) (fun o8 => if o8 = 0 then (F_Vwm_corner_29 σ x0 x1 x2) else (F_Vwm_corner_34 σ x0 x1 x2 0))))))
set_option maxRecDepth 10000 in
set_option maxHeartbeats 4000000 in
theorem c_Vwm_corner (l : Launch) (D : va_G) (τ : ClassId × ClassId × ClassId) (B : Nat) (σ : Sg) (ad : Nat → Nat) (x0 : Int32) (x1 : Int32) (x2 : Int32) (o : Sg × Int32) (h : F_Vwm_corner σ x0 x1 x2 = some o) : MI l y_Vwm_corner (Cond.code y_Vwm_corner prog_20_method_12_code 5 (some .int)) 1 D τ B [.ref (ad 62), .int x0, .int x1, .int x2] (wdM τ σ ad) (wdM τ o.1 ad) o.2 := by
  refine en_i (by decide) (Nat.le_of_ble_eq_true rfl) ?_
  intro p e R s m args below meth c H locs ls A E hret w hl
  have E : Cx p R s m args meth c prog_20_method_12_code 5 "DrawingMachineModel$VertexWorkModel" 1 D τ B A := E
  have hl : lv_has ls 5 [(0, .ref (ad 62)), (1, .int x0), (2, .int x1), (3, .int x2)] := hl
  refine lv_aload_n E.x E.b d_Vwm_corner_0 rfl (lv_at hl 0 rfl) ?_
  refine lv_iload_n E.x E.b d_Vwm_corner_1 rfl (lv_at hl 1 rfl) ?_
  refine lv_iconst (v := 0) E.x E.b d_Vwm_corner_2 (by decide) ?_
  refine lv_iconst (v := 2) E.x E.b d_Vwm_corner_3 (by decide) ?_
  obtain ⟨o6, h_o6, h⟩ := bd_some h
  refine clS_Vwm_in E w (x0 := x0) (x1 := 0) (x2 := 2) h_o6 k2025 (by decide) hl.1 (Nat.le_of_ble_eq_true rfl) d_Vwm_corner_4 (fun H locs w => ?_)
  refine lv_if_eq (tgt := 29) E.x E.b d_Vwm_corner_7 (by decide) (fun c => ?_) (fun c => ?_)
  ·
    replace h := ifT c h
    exact bt_Vwm_corner_29 E hret o σ x0 x1 x2 h w (lv_sub hl [1, 2, 3] rfl)
  ·
    replace h := ifF c h
    refine lv_iload_n E.x E.b d_Vwm_corner_10 rfl (lv_at hl 2 rfl) ?_
    refine lv_iconst (v := 0) E.x E.b d_Vwm_corner_11 (by decide) ?_
    refine lv_ldc (v := 100000000) E.x E.b E.o (E.w _ k2166) d_Vwm_corner_12 ?_
    obtain ⟨o7, h_o7, h⟩ := bd_some h
    refine clS_Vwm_in E w (x0 := x1) (x1 := 0) (x2 := 100000000) h_o7 k2025 (by decide) hl.1 (Nat.le_of_ble_eq_true rfl) d_Vwm_corner_14 (fun H locs w => ?_)
    refine lv_if_eq (tgt := 29) E.x E.b d_Vwm_corner_17 (by decide) (fun c => ?_) (fun c => ?_)
    ·
      replace h := ifT c h
      exact bt_Vwm_corner_29 E hret o σ x0 x1 x2 h w (lv_sub hl [1, 2, 3] rfl)
    ·
      replace h := ifF c h
      refine lv_iload_n E.x E.b d_Vwm_corner_20 rfl (lv_at hl 3 rfl) ?_
      refine lv_iconst (v := 0) E.x E.b d_Vwm_corner_21 (by decide) ?_
      refine lv_iconst (v := 2) E.x E.b d_Vwm_corner_22 (by decide) ?_
      obtain ⟨o8, h_o8, h⟩ := bd_some h
      refine clS_Vwm_in E w (x0 := x2) (x1 := 0) (x2 := 2) h_o8 k2025 (by decide) hl.1 (Nat.le_of_ble_eq_true rfl) d_Vwm_corner_23 (fun H locs w => ?_)
      refine lv_if_ne (tgt := 33) E.x E.b d_Vwm_corner_26 (by decide) (fun c => ?_) (fun c => ?_)
      ·
        replace h := ifF c h
        refine lv_iconst (v := 0) E.x E.b d_Vwm_corner_33 (by decide) ?_
        exact bt_Vwm_corner_34 E hret o σ x0 x1 x2 0 h w (lv_sub hl [1, 2, 3] rfl)
      ·
        replace h := ifT c h
        exact bt_Vwm_corner_29 E hret o σ x0 x1 x2 h w (lv_sub hl [1, 2, 3] rfl)
theorem clV_Vwm_corner {p : Program} {l : Launch} {e : Env} {R : Room} {s : State} {m : MethodId} {args : Array Value} {below : List Frame} {meth : Method} {c : Code} {H : Heap} {locs : List Loc} {Q : State → Prop} {cc : ByteArray} {nL pc lev : Nat} {own : String} {D : va_G} {τ : ClassId × ClassId × ClassId} {B : Nat} {A : Nat → Prop} {σ : Sg} {ad : Nat → Nat} {ls : Array Slot} {rest : List Value} (E : Cx p R s m args meth c cc nL own lev D τ B A) (w : Wd s D A (wdM τ σ ad) H locs) {x0 : Int32} {x1 : Int32} {x2 : Int32} {o : Sg × Int32} (h : F_Vwm_corner σ x0 x1 x2 = some o) {index : Nat} (hlk : Cond.methodLink own index y_Vwm_corner ∈ tw) (hlev : 1 < lev) (hsz : ls.size = nL) (hr : (rest.map fun v => v.category).sum ≤ 8) (hd : decode cc pc = .ok (.invokevirtual index, 3)) (kk : ∀ (H1 : Heap) (locs1 : List Loc), Wd s D A (wdM τ o.1 ad) H1 locs1 → W p l e R s m args below meth c H1 locs1 0 0 Q (F0 m (pc + 3) ls (.int o.2 :: rest))) : W p l e R s m args below meth c H locs 0 0 Q (F0 m pc ls (.int x2 :: .int x1 :: .int x0 :: .ref (ad 62) :: rest)) :=
  cr_i w E.C (va_runV (As := [.int x0, .int x1, .int x2]) (rest := rest) E.fix (c_Vwm_corner l D τ B σ ad x0 x1 x2 o h H.size) (cwV 3 E.w (tw_pre (tw_good k2165) (l := [_, _, _, _]) (List.forall_mem_cons.mpr ⟨hlk, List.forall_mem_cons.mpr ⟨k2163, List.forall_mem_cons.mpr ⟨k2164, List.forall_mem_cons.mpr ⟨k18, fun _ h => absurd h List.not_mem_nil⟩⟩⟩⟩)) rfl rfl rfl (by decide +kernel) (E.rm hlev (by decide))) (wd_preV w E.C [.int x0, .int x1, .int x2] rcM_Vwm rfl) rfl rfl hsz rfl (lv_room hr) hd ⟨Nat.zero_le _, Nat.zero_le _⟩) kk

theorem d_Vwm_down_0 : decode prog_20_method_4_code 0 = .ok (.lload_n 0, 1) := by decide +kernel
theorem d_Vwm_down_1 : decode prog_20_method_4_code 1 = .ok (.lload_n 2, 1) := by decide +kernel
theorem d_Vwm_down_2 : decode prog_20_method_4_code 2 = .ok (.ldiv, 1) := by decide +kernel
theorem d_Vwm_down_3 : decode prog_20_method_4_code 3 = .ok (.lstore 4, 2) := by decide +kernel
theorem d_Vwm_down_5 : decode prog_20_method_4_code 5 = .ok (.lload 4, 2) := by decide +kernel
theorem d_Vwm_down_7 : decode prog_20_method_4_code 7 = .ok (.lload_n 2, 1) := by decide +kernel
theorem d_Vwm_down_8 : decode prog_20_method_4_code 8 = .ok (.lmul, 1) := by decide +kernel
theorem d_Vwm_down_9 : decode prog_20_method_4_code 9 = .ok (.lload_n 0, 1) := by decide +kernel
theorem d_Vwm_down_10 : decode prog_20_method_4_code 10 = .ok (.lcmp, 1) := by decide +kernel
theorem d_Vwm_down_11 : decode prog_20_method_4_code 11 = .ok (.ifCond .le 10, 3) := by decide +kernel
theorem d_Vwm_down_14 : decode prog_20_method_4_code 14 = .ok (.lload 4, 2) := by decide +kernel
theorem d_Vwm_down_16 : decode prog_20_method_4_code 16 = .ok (.lconst 1, 1) := by decide +kernel
theorem d_Vwm_down_17 : decode prog_20_method_4_code 17 = .ok (.lsub, 1) := by decide +kernel
theorem d_Vwm_down_18 : decode prog_20_method_4_code 18 = .ok (.goto 5, 3) := by decide +kernel
theorem d_Vwm_down_21 : decode prog_20_method_4_code 21 = .ok (.lload 4, 2) := by decide +kernel
theorem d_Vwm_down_23 : decode prog_20_method_4_code 23 = .ok (.lreturn, 1) := by decide +kernel
def F_Vwm_down_23  (s0 : Int64) : Option (Int64) := some s0
set_option maxRecDepth 10000 in
set_option maxHeartbeats 4000000 in
theorem bt_Vwm_down_23 {p : Program} {l : Launch} {e : Env} {R : Room} {s : State} {m : MethodId} {args : Array Value} {below : List Frame} {meth : Method} {c : Code} {D : va_G} {τ : ClassId × ClassId × ClassId} {B : Nat} {A : Nat → Prop} {ad : Nat → Nat} {σ0 : Sg} (E : Cx p R s m args meth c prog_20_method_4_code 6 "DrawingMachineModel$VertexWorkModel" 0 D τ B A) (hret : meth.sig.returnType = (some .long)) (o : Int64) (s0 : Int64) (h : F_Vwm_down_23 s0 = some o) {H : Heap} {locs : List Loc} {ls : Array Slot} (w : Wd s D A (wdM τ σ0 ad) H locs) (hl : lv_has ls 6 []) : W p l e R s m args below meth c H locs 0 0 (QL below args s A D τ (wdM τ σ0 ad) o) (F0 m 23 ls [.long s0]) := by
  obtain rfl := Option.some.inj h
  exact rt_l E w hret d_Vwm_down_23
def F_Vwm_down  (x0 : Int64) (x1 : Int64) : Option (Int64) := ck (¬ x1 = 0) (lt (x0 / x1) (fun y4 => if (y4 * x1) ≤ x0 then (F_Vwm_down_23 y4) else (F_Vwm_down_23 (y4 - 1))))
set_option maxRecDepth 10000 in
set_option maxHeartbeats 4000000 in
theorem c_Vwm_down (l : Launch) (D : va_G) (τ : ClassId × ClassId × ClassId) (B : Nat) (σ0 : Sg) (ad : Nat → Nat) (x0 : Int64) (x1 : Int64) (o : Int64) (h : F_Vwm_down x0 x1 = some o) : ML l y_Vwm_down (Cond.code y_Vwm_down prog_20_method_4_code 6 (some .long)) 0 D τ B [.long x0, .long x1] (wdM τ σ0 ad) (wdM τ σ0 ad) o := by
  refine en_l (by decide) (Nat.le_of_ble_eq_true rfl) ?_
  intro p e R s m args below meth c H locs ls A E hret w hl
  have E : Cx p R s m args meth c prog_20_method_4_code 6 "DrawingMachineModel$VertexWorkModel" 0 D τ B A := E
  have hl : lv_has ls 6 [(0, .long x0), (2, .long x1)] := hl
  refine lv_lload_n E.x E.b d_Vwm_down_0 rfl (lv_at hl 0 rfl) ?_
  refine lv_lload_n E.x E.b d_Vwm_down_1 rfl (lv_at hl 1 rfl) ?_
  obtain ⟨c3, h⟩ := ck_some h
  refine lv_ldiv E.x E.b d_Vwm_down_2 c3 ?_
  obtain ⟨y4, e_y4, h⟩ := lt_some h
  refine wl_e (v := y4) e_y4 ?_
  refine lv_lstore (lv' := [(4, .long y4), (0, .long x0), (2, .long x1)]) E.x E.b d_Vwm_down_3 hl (by decide) rfl (fun ls hl => ?_)
  refine lv_lload E.x E.b d_Vwm_down_5 (lv_at hl 0 rfl) ?_
  refine lv_lload_n E.x E.b d_Vwm_down_7 rfl (lv_at hl 2 rfl) ?_
  refine lv_lmul E.x E.b d_Vwm_down_8 ?_
  refine lv_lload_n E.x E.b d_Vwm_down_9 rfl (lv_at hl 1 rfl) ?_
  refine W.lcmp E.x E.b d_Vwm_down_10 ?_
  refine lv_if_le (tgt := 21) E.x E.b d_Vwm_down_11 (by decide) (fun c => ?_) (fun c => ?_)
  ·
    replace h := ifT (lgc_le.mp c) h
    refine lv_lload E.x E.b d_Vwm_down_21 (lv_at hl 0 rfl) ?_
    exact bt_Vwm_down_23 E hret o y4 h w (lv_sub hl [] rfl)
  ·
    replace h := ifF (fun h9 => c (lgc_le.mpr h9)) h
    refine lv_lload E.x E.b d_Vwm_down_14 (lv_at hl 0 rfl) ?_
    refine lv_lconst (v := 1) E.x E.b d_Vwm_down_16 (by decide) ?_
    refine lv_lsub E.x E.b d_Vwm_down_17 ?_
    refine lv_goto (tgt := 23) E.x E.b d_Vwm_down_18 (by decide) ?_
    exact bt_Vwm_down_23 E hret o (y4 - 1) h w (lv_sub hl [] rfl)
theorem clS_Vwm_down {p : Program} {l : Launch} {e : Env} {R : Room} {s : State} {m : MethodId} {args : Array Value} {below : List Frame} {meth : Method} {c : Code} {H : Heap} {locs : List Loc} {Q : State → Prop} {cc : ByteArray} {nL pc lev : Nat} {own : String} {D : va_G} {τ : ClassId × ClassId × ClassId} {B : Nat} {A : Nat → Prop} {σ : Sg} {ad : Nat → Nat} {ls : Array Slot} {rest : List Value} (E : Cx p R s m args meth c cc nL own lev D τ B A) (w : Wd s D A (wdM τ σ ad) H locs) {x0 : Int64} {x1 : Int64} {o : Int64} (h : F_Vwm_down x0 x1 = some o) {index : Nat} (hlk : Cond.methodLink own index y_Vwm_down ∈ tw) (hlev : 0 < lev) (hsz : ls.size = nL) (hr : (rest.map fun v => v.category).sum ≤ 8) (hd : decode cc pc = .ok (.invokestatic index, 3)) (kk : ∀ (H1 : Heap) (locs1 : List Loc), Wd s D A (wdM τ σ ad) H1 locs1 → W p l e R s m args below meth c H1 locs1 0 0 Q (F0 m (pc + 3) ls (.long o :: rest))) : W p l e R s m args below meth c H locs 0 0 Q (F0 m pc ls (.long x1 :: .long x0 :: rest)) :=
  cr_l w E.C (va_runS (As := [.long x0, .long x1]) (rest := rest) E.fix (c_Vwm_down l D τ B σ ad x0 x1 o h H.size) (va_cwS 2 E.w (tw_pre (tw_good k2337) (l := [_, _, _]) (List.forall_mem_cons.mpr ⟨hlk, List.forall_mem_cons.mpr ⟨k2336, List.forall_mem_cons.mpr ⟨k18, fun _ h => absurd h List.not_mem_nil⟩⟩⟩)) rfl rfl rfl (by decide +kernel) (E.rm hlev (by decide))) (wd_pre w E.C [.long x0, .long x1]) rfl rfl hsz rfl (lv_room hr) hd ⟨Nat.zero_le _, Nat.zero_le _⟩) kk

theorem d_Vwm_inside_0 : decode prog_20_method_18_code 0 = .ok (.iload_n 2, 1) := by decide +kernel
theorem d_Vwm_inside_1 : decode prog_20_method_18_code 1 = .ok (.ifCond .eq 22, 3) := by decide +kernel
theorem d_Vwm_inside_4 : decode prog_20_method_18_code 4 = .ok (.aload_n 0, 1) := by decide +kernel
theorem d_Vwm_inside_5 : decode prog_20_method_18_code 5 = .ok (.getfield 19, 3) := by decide +kernel
theorem d_Vwm_inside_8 : decode prog_20_method_18_code 8 = .ok (.bipush 32, 2) := by decide +kernel
theorem d_Vwm_inside_10 : decode prog_20_method_18_code 10 = .ok (.iload_n 1, 1) := by decide +kernel
theorem d_Vwm_inside_11 : decode prog_20_method_18_code 11 = .ok (.imul, 1) := by decide +kernel
theorem d_Vwm_inside_12 : decode prog_20_method_18_code 12 = .ok (.iconst 3, 1) := by decide +kernel
theorem d_Vwm_inside_13 : decode prog_20_method_18_code 13 = .ok (.iadd, 1) := by decide +kernel
theorem d_Vwm_inside_14 : decode prog_20_method_18_code 14 = .ok (.iaload, 1) := by decide +kernel
theorem d_Vwm_inside_15 : decode prog_20_method_18_code 15 = .ok (.i2l, 1) := by decide +kernel
theorem d_Vwm_inside_16 : decode prog_20_method_18_code 16 = .ok (.ldc2_w 74, 3) := by decide +kernel
theorem d_Vwm_inside_19 : decode prog_20_method_18_code 19 = .ok (.lsub, 1) := by decide +kernel
theorem d_Vwm_inside_20 : decode prog_20_method_18_code 20 = .ok (.goto 28, 3) := by decide +kernel
theorem d_Vwm_inside_23 : decode prog_20_method_18_code 23 = .ok (.aload_n 0, 1) := by decide +kernel
theorem d_Vwm_inside_24 : decode prog_20_method_18_code 24 = .ok (.getfield 19, 3) := by decide +kernel
theorem d_Vwm_inside_27 : decode prog_20_method_18_code 27 = .ok (.bipush 32, 2) := by decide +kernel
theorem d_Vwm_inside_29 : decode prog_20_method_18_code 29 = .ok (.iload_n 1, 1) := by decide +kernel
theorem d_Vwm_inside_30 : decode prog_20_method_18_code 30 = .ok (.imul, 1) := by decide +kernel
theorem d_Vwm_inside_31 : decode prog_20_method_18_code 31 = .ok (.iconst 2, 1) := by decide +kernel
theorem d_Vwm_inside_32 : decode prog_20_method_18_code 32 = .ok (.iadd, 1) := by decide +kernel
theorem d_Vwm_inside_33 : decode prog_20_method_18_code 33 = .ok (.iaload, 1) := by decide +kernel
theorem d_Vwm_inside_34 : decode prog_20_method_18_code 34 = .ok (.i2l, 1) := by decide +kernel
theorem d_Vwm_inside_35 : decode prog_20_method_18_code 35 = .ok (.aload_n 0, 1) := by decide +kernel
theorem d_Vwm_inside_36 : decode prog_20_method_18_code 36 = .ok (.getfield 19, 3) := by decide +kernel
theorem d_Vwm_inside_39 : decode prog_20_method_18_code 39 = .ok (.bipush 32, 2) := by decide +kernel
theorem d_Vwm_inside_41 : decode prog_20_method_18_code 41 = .ok (.iload_n 1, 1) := by decide +kernel
theorem d_Vwm_inside_42 : decode prog_20_method_18_code 42 = .ok (.imul, 1) := by decide +kernel
theorem d_Vwm_inside_43 : decode prog_20_method_18_code 43 = .ok (.iconst 3, 1) := by decide +kernel
theorem d_Vwm_inside_44 : decode prog_20_method_18_code 44 = .ok (.iadd, 1) := by decide +kernel
theorem d_Vwm_inside_45 : decode prog_20_method_18_code 45 = .ok (.iaload, 1) := by decide +kernel
theorem d_Vwm_inside_46 : decode prog_20_method_18_code 46 = .ok (.i2l, 1) := by decide +kernel
theorem d_Vwm_inside_47 : decode prog_20_method_18_code 47 = .ok (.ladd, 1) := by decide +kernel
theorem d_Vwm_inside_48 : decode prog_20_method_18_code 48 = .ok (.lreturn, 1) := by decide +kernel
def F_Vwm_inside_48 (σ : Sg) (s0 : Int64) : Option (Int64) := some s0
set_option maxRecDepth 10000 in
set_option maxHeartbeats 4000000 in
theorem bt_Vwm_inside_48 {p : Program} {l : Launch} {e : Env} {R : Room} {s : State} {m : MethodId} {args : Array Value} {below : List Frame} {meth : Method} {c : Code} {D : va_G} {τ : ClassId × ClassId × ClassId} {B : Nat} {A : Nat → Prop} {ad : Nat → Nat} (E : Cx p R s m args meth c prog_20_method_18_code 3 "DrawingMachineModel$VertexWorkModel" 0 D τ B A) (hret : meth.sig.returnType = (some .long)) (o : Int64) (σ : Sg) (s0 : Int64) (h : F_Vwm_inside_48 σ s0 = some o) {H : Heap} {locs : List Loc} {ls : Array Slot} (w : Wd s D A (wdM τ σ ad) H locs) (hl : lv_has ls 3 []) : W p l e R s m args below meth c H locs 0 0 (QL below args s A D τ (wdM τ σ ad) o) (F0 m 48 ls [.long s0]) := by
  obtain rfl := Option.some.inj h
  exact rt_l E w hret d_Vwm_inside_48
def F_Vwm_inside (σ : Sg) (x0 : Int32) (x1 : Int32) : Option (Int64) := if x1 = 0 then (ck (inb ((32 * x0) + 2) 256) (ck (inb ((32 * x0) + 3) 256) (F_Vwm_inside_48 σ (((σ.2.2.1 37 ((32 * x0) + 2).toNatClampNeg).toInt64) + ((σ.2.2.1 37 ((32 * x0) + 3).toNatClampNeg).toInt64))))) else (ck (inb ((32 * x0) + 3) 256) (F_Vwm_inside_48 σ (((σ.2.2.1 37 ((32 * x0) + 3).toNatClampNeg).toInt64) - 256)))
set_option maxRecDepth 10000 in
set_option maxHeartbeats 4000000 in
theorem c_Vwm_inside (l : Launch) (D : va_G) (τ : ClassId × ClassId × ClassId) (B : Nat) (σ : Sg) (ad : Nat → Nat) (x0 : Int32) (x1 : Int32) (o : Int64) (h : F_Vwm_inside σ x0 x1 = some o) : ML l y_Vwm_inside (Cond.code y_Vwm_inside prog_20_method_18_code 3 (some .long)) 0 D τ B [.ref (ad 62), .int x0, .int x1] (wdM τ σ ad) (wdM τ σ ad) o := by
  refine en_l (by decide) (Nat.le_of_ble_eq_true rfl) ?_
  intro p e R s m args below meth c H locs ls A E hret w hl
  have E : Cx p R s m args meth c prog_20_method_18_code 3 "DrawingMachineModel$VertexWorkModel" 0 D τ B A := E
  have hl : lv_has ls 3 [(0, .ref (ad 62)), (1, .int x0), (2, .int x1)] := hl
  refine lv_iload_n E.x E.b d_Vwm_inside_0 rfl (lv_at hl 2 rfl) ?_
  refine lv_if_eq (tgt := 23) E.x E.b d_Vwm_inside_1 (by decide) (fun c => ?_) (fun c => ?_)
  ·
    replace h := ifT c h
    refine lv_aload_n E.x E.b d_Vwm_inside_23 rfl (lv_at hl 0 rfl) ?_
    refine gM_Vwm_ring E w k1629 d_Vwm_inside_24 ?_
    refine lv_bipush (v := 32) E.x E.b d_Vwm_inside_27 (by decide) ?_
    refine lv_iload_n E.x E.b d_Vwm_inside_29 rfl (lv_at hl 1 rfl) ?_
    refine lv_imul E.x E.b d_Vwm_inside_30 ?_
    refine lv_iconst (v := 2) E.x E.b d_Vwm_inside_31 (by decide) ?_
    refine lv_iadd E.x E.b d_Vwm_inside_32 ?_
    obtain ⟨c4, h⟩ := ck_some h
    refine ialM E w (k := 37) (by decide) c4 d_Vwm_inside_33 ?_
    refine lv_i2l (v := (σ.2.2.1 37 ((32 * x0) + 2).toNatClampNeg).toInt64) E.x E.b d_Vwm_inside_34 rfl ?_
    refine lv_aload_n E.x E.b d_Vwm_inside_35 rfl (lv_at hl 0 rfl) ?_
    refine gM_Vwm_ring E w k1629 d_Vwm_inside_36 ?_
    refine lv_bipush (v := 32) E.x E.b d_Vwm_inside_39 (by decide) ?_
    refine lv_iload_n E.x E.b d_Vwm_inside_41 rfl (lv_at hl 1 rfl) ?_
    refine lv_imul E.x E.b d_Vwm_inside_42 ?_
    refine lv_iconst (v := 3) E.x E.b d_Vwm_inside_43 (by decide) ?_
    refine lv_iadd E.x E.b d_Vwm_inside_44 ?_
    obtain ⟨c5, h⟩ := ck_some h
    refine ialM E w (k := 37) (by decide) c5 d_Vwm_inside_45 ?_
    refine lv_i2l (v := (σ.2.2.1 37 ((32 * x0) + 3).toNatClampNeg).toInt64) E.x E.b d_Vwm_inside_46 rfl ?_
    refine lv_ladd E.x E.b d_Vwm_inside_47 ?_
    exact bt_Vwm_inside_48 E hret o σ (((σ.2.2.1 37 ((32 * x0) + 2).toNatClampNeg).toInt64) + ((σ.2.2.1 37 ((32 * x0) + 3).toNatClampNeg).toInt64)) h w (lv_sub hl [] rfl)
  ·
    replace h := ifF c h
    refine lv_aload_n E.x E.b d_Vwm_inside_4 rfl (lv_at hl 0 rfl) ?_
    refine gM_Vwm_ring E w k1629 d_Vwm_inside_5 ?_
    refine lv_bipush (v := 32) E.x E.b d_Vwm_inside_8 (by decide) ?_
    refine lv_iload_n E.x E.b d_Vwm_inside_10 rfl (lv_at hl 1 rfl) ?_
    refine lv_imul E.x E.b d_Vwm_inside_11 ?_
    refine lv_iconst (v := 3) E.x E.b d_Vwm_inside_12 (by decide) ?_
    refine lv_iadd E.x E.b d_Vwm_inside_13 ?_
    obtain ⟨c6, h⟩ := ck_some h
    refine ialM E w (k := 37) (by decide) c6 d_Vwm_inside_14 ?_
    refine lv_i2l (v := (σ.2.2.1 37 ((32 * x0) + 3).toNatClampNeg).toInt64) E.x E.b d_Vwm_inside_15 rfl ?_
    refine lv_ldc2 (v := 256) E.x E.b E.o (E.w _ k2329) d_Vwm_inside_16 ?_
    refine lv_lsub E.x E.b d_Vwm_inside_19 ?_
    refine lv_goto (tgt := 48) E.x E.b d_Vwm_inside_20 (by decide) ?_
    exact bt_Vwm_inside_48 E hret o σ (((σ.2.2.1 37 ((32 * x0) + 3).toNatClampNeg).toInt64) - 256) h w (lv_sub hl [] rfl)
theorem clV_Vwm_inside {p : Program} {l : Launch} {e : Env} {R : Room} {s : State} {m : MethodId} {args : Array Value} {below : List Frame} {meth : Method} {c : Code} {H : Heap} {locs : List Loc} {Q : State → Prop} {cc : ByteArray} {nL pc lev : Nat} {own : String} {D : va_G} {τ : ClassId × ClassId × ClassId} {B : Nat} {A : Nat → Prop} {σ : Sg} {ad : Nat → Nat} {ls : Array Slot} {rest : List Value} (E : Cx p R s m args meth c cc nL own lev D τ B A) (w : Wd s D A (wdM τ σ ad) H locs) {x0 : Int32} {x1 : Int32} {o : Int64} (h : F_Vwm_inside σ x0 x1 = some o) {index : Nat} (hlk : Cond.methodLink own index y_Vwm_inside ∈ tw) (hlev : 0 < lev) (hsz : ls.size = nL) (hr : (rest.map fun v => v.category).sum ≤ 8) (hd : decode cc pc = .ok (.invokevirtual index, 3)) (kk : ∀ (H1 : Heap) (locs1 : List Loc), Wd s D A (wdM τ σ ad) H1 locs1 → W p l e R s m args below meth c H1 locs1 0 0 Q (F0 m (pc + 3) ls (.long o :: rest))) : W p l e R s m args below meth c H locs 0 0 Q (F0 m pc ls (.int x1 :: .int x0 :: .ref (ad 62) :: rest)) :=
  cr_l w E.C (va_runV (As := [.int x0, .int x1]) (rest := rest) E.fix (c_Vwm_inside l D τ B σ ad x0 x1 o h H.size) (cwV 2 E.w (tw_pre (tw_good k2328) (l := [_, _, _, _]) (List.forall_mem_cons.mpr ⟨hlk, List.forall_mem_cons.mpr ⟨k2327, List.forall_mem_cons.mpr ⟨ks96, List.forall_mem_cons.mpr ⟨k18, fun _ h => absurd h List.not_mem_nil⟩⟩⟩⟩)) rfl rfl rfl (by decide +kernel) (E.rm hlev (by decide))) (wd_preV w E.C [.int x0, .int x1] rcM_Vwm rfl) rfl rfl hsz rfl (lv_room hr) hd ⟨Nat.zero_le _, Nat.zero_le _⟩) kk

theorem d_Vwm_between_0 : decode prog_20_method_19_code 0 = .ok (.aload_n 0, 1) := by decide +kernel
theorem d_Vwm_between_1 : decode prog_20_method_19_code 1 = .ok (.iload_n 1, 1) := by decide +kernel
theorem d_Vwm_between_2 : decode prog_20_method_19_code 2 = .ok (.iload_n 3, 1) := by decide +kernel
theorem d_Vwm_between_3 : decode prog_20_method_19_code 3 = .ok (.invokevirtual 76, 3) := by decide +kernel
theorem d_Vwm_between_6 : decode prog_20_method_19_code 6 = .ok (.lstore 4, 2) := by decide +kernel
theorem d_Vwm_between_8 : decode prog_20_method_19_code 8 = .ok (.aload_n 0, 1) := by decide +kernel
theorem d_Vwm_between_9 : decode prog_20_method_19_code 9 = .ok (.iload_n 2, 1) := by decide +kernel
theorem d_Vwm_between_10 : decode prog_20_method_19_code 10 = .ok (.iload_n 3, 1) := by decide +kernel
theorem d_Vwm_between_11 : decode prog_20_method_19_code 11 = .ok (.invokevirtual 76, 3) := by decide +kernel
theorem d_Vwm_between_14 : decode prog_20_method_19_code 14 = .ok (.lstore 6, 2) := by decide +kernel
theorem d_Vwm_between_16 : decode prog_20_method_19_code 16 = .ok (.ldc2_w 80, 3) := by decide +kernel
theorem d_Vwm_between_19 : decode prog_20_method_19_code 19 = .ok (.lload 4, 2) := by decide +kernel
theorem d_Vwm_between_21 : decode prog_20_method_19_code 21 = .ok (.lmul, 1) := by decide +kernel
theorem d_Vwm_between_22 : decode prog_20_method_19_code 22 = .ok (.lload 4, 2) := by decide +kernel
theorem d_Vwm_between_24 : decode prog_20_method_19_code 24 = .ok (.lload 6, 2) := by decide +kernel
theorem d_Vwm_between_26 : decode prog_20_method_19_code 26 = .ok (.lsub, 1) := by decide +kernel
theorem d_Vwm_between_27 : decode prog_20_method_19_code 27 = .ok (.invokestatic 82, 3) := by decide +kernel
theorem d_Vwm_between_30 : decode prog_20_method_19_code 30 = .ok (.lstore 8, 2) := by decide +kernel
theorem d_Vwm_between_32 : decode prog_20_method_19_code 32 = .ok (.iconst 0, 1) := by decide +kernel
theorem d_Vwm_between_33 : decode prog_20_method_19_code 33 = .ok (.istore 10, 2) := by decide +kernel
theorem d_Vwm_between_35 : decode prog_20_method_19_code 35 = .ok (.iload 10, 2) := by decide +kernel
theorem d_Vwm_between_37 : decode prog_20_method_19_code 37 = .ok (.bipush 32, 2) := by decide +kernel
theorem d_Vwm_between_39 : decode prog_20_method_19_code 39 = .ok (.if_icmp .ge 72, 3) := by decide +kernel
theorem d_Vwm_between_42 : decode prog_20_method_19_code 42 = .ok (.aload_n 0, 1) := by decide +kernel
theorem d_Vwm_between_43 : decode prog_20_method_19_code 43 = .ok (.getfield 19, 3) := by decide +kernel
theorem d_Vwm_between_46 : decode prog_20_method_19_code 46 = .ok (.bipush 32, 2) := by decide +kernel
theorem d_Vwm_between_48 : decode prog_20_method_19_code 48 = .ok (.iload_n 1, 1) := by decide +kernel
theorem d_Vwm_between_49 : decode prog_20_method_19_code 49 = .ok (.imul, 1) := by decide +kernel
theorem d_Vwm_between_50 : decode prog_20_method_19_code 50 = .ok (.iload 10, 2) := by decide +kernel
theorem d_Vwm_between_52 : decode prog_20_method_19_code 52 = .ok (.iadd, 1) := by decide +kernel
theorem d_Vwm_between_53 : decode prog_20_method_19_code 53 = .ok (.iaload, 1) := by decide +kernel
theorem d_Vwm_between_54 : decode prog_20_method_19_code 54 = .ok (.i2l, 1) := by decide +kernel
theorem d_Vwm_between_55 : decode prog_20_method_19_code 55 = .ok (.lstore 11, 2) := by decide +kernel
theorem d_Vwm_between_57 : decode prog_20_method_19_code 57 = .ok (.aload_n 0, 1) := by decide +kernel
theorem d_Vwm_between_58 : decode prog_20_method_19_code 58 = .ok (.getfield 19, 3) := by decide +kernel
theorem d_Vwm_between_61 : decode prog_20_method_19_code 61 = .ok (.bipush 32, 2) := by decide +kernel
theorem d_Vwm_between_63 : decode prog_20_method_19_code 63 = .ok (.iload_n 2, 1) := by decide +kernel
theorem d_Vwm_between_64 : decode prog_20_method_19_code 64 = .ok (.imul, 1) := by decide +kernel
theorem d_Vwm_between_65 : decode prog_20_method_19_code 65 = .ok (.iload 10, 2) := by decide +kernel
theorem d_Vwm_between_67 : decode prog_20_method_19_code 67 = .ok (.iadd, 1) := by decide +kernel
theorem d_Vwm_between_68 : decode prog_20_method_19_code 68 = .ok (.iaload, 1) := by decide +kernel
theorem d_Vwm_between_69 : decode prog_20_method_19_code 69 = .ok (.i2l, 1) := by decide +kernel
theorem d_Vwm_between_70 : decode prog_20_method_19_code 70 = .ok (.lstore 13, 2) := by decide +kernel
theorem d_Vwm_between_72 : decode prog_20_method_19_code 72 = .ok (.aload_n 0, 1) := by decide +kernel
theorem d_Vwm_between_73 : decode prog_20_method_19_code 73 = .ok (.getfield 22, 3) := by decide +kernel
theorem d_Vwm_between_76 : decode prog_20_method_19_code 76 = .ok (.bipush 32, 2) := by decide +kernel
theorem d_Vwm_between_78 : decode prog_20_method_19_code 78 = .ok (.aload_n 0, 1) := by decide +kernel
theorem d_Vwm_between_79 : decode prog_20_method_19_code 79 = .ok (.getfield 86, 3) := by decide +kernel
theorem d_Vwm_between_82 : decode prog_20_method_19_code 82 = .ok (.imul, 1) := by decide +kernel
theorem d_Vwm_between_83 : decode prog_20_method_19_code 83 = .ok (.iload 10, 2) := by decide +kernel
theorem d_Vwm_between_85 : decode prog_20_method_19_code 85 = .ok (.iadd, 1) := by decide +kernel
theorem d_Vwm_between_86 : decode prog_20_method_19_code 86 = .ok (.lload 11, 2) := by decide +kernel
theorem d_Vwm_between_88 : decode prog_20_method_19_code 88 = .ok (.lload 13, 2) := by decide +kernel
theorem d_Vwm_between_90 : decode prog_20_method_19_code 90 = .ok (.lload 11, 2) := by decide +kernel
theorem d_Vwm_between_92 : decode prog_20_method_19_code 92 = .ok (.lsub, 1) := by decide +kernel
theorem d_Vwm_between_93 : decode prog_20_method_19_code 93 = .ok (.lload 8, 2) := by decide +kernel
theorem d_Vwm_between_95 : decode prog_20_method_19_code 95 = .ok (.lmul, 1) := by decide +kernel
theorem d_Vwm_between_96 : decode prog_20_method_19_code 96 = .ok (.ldc2_w 80, 3) := by decide +kernel
theorem d_Vwm_between_99 : decode prog_20_method_19_code 99 = .ok (.invokestatic 82, 3) := by decide +kernel
theorem d_Vwm_between_102 : decode prog_20_method_19_code 102 = .ok (.ladd, 1) := by decide +kernel
theorem d_Vwm_between_103 : decode prog_20_method_19_code 103 = .ok (.l2i, 1) := by decide +kernel
theorem d_Vwm_between_104 : decode prog_20_method_19_code 104 = .ok (.iastore, 1) := by decide +kernel
theorem d_Vwm_between_105 : decode prog_20_method_19_code 105 = .ok (.iinc 10 1, 3) := by decide +kernel
theorem d_Vwm_between_108 : decode prog_20_method_19_code 108 = .ok (.goto (-73), 3) := by decide +kernel
theorem d_Vwm_between_111 : decode prog_20_method_19_code 111 = .ok (.aload_n 0, 1) := by decide +kernel
theorem d_Vwm_between_112 : decode prog_20_method_19_code 112 = .ok (.dup, 1) := by decide +kernel
theorem d_Vwm_between_113 : decode prog_20_method_19_code 113 = .ok (.getfield 86, 3) := by decide +kernel
theorem d_Vwm_between_116 : decode prog_20_method_19_code 116 = .ok (.iconst 1, 1) := by decide +kernel
theorem d_Vwm_between_117 : decode prog_20_method_19_code 117 = .ok (.iadd, 1) := by decide +kernel
theorem d_Vwm_between_118 : decode prog_20_method_19_code 118 = .ok (.putfield 86, 3) := by decide +kernel
theorem d_Vwm_between_121 : decode prog_20_method_19_code 121 = .ok (.return_, 1) := by decide +kernel
def L_Vwm_between_35 : Nat → Sg → Int32 → Int32 → Int64 → Int32 → Option (Sg)
  | 0, _, _, _, _, _ => none
  | n + 1, σ, v1, v2, v8, v10 => if 32 ≤ v10 then (lt (sI σ 25 ((σ.1 25) + 1)) (fun σ13 => some σ13)) else (ck (inb ((32 * v1) + v10) 256) (lt ((σ.2.2.1 37 ((32 * v1) + v10).toNatClampNeg).toInt64) (fun y15 => ck (inb ((32 * v2) + v10) 256) (lt ((σ.2.2.1 37 ((32 * v2) + v10).toNatClampNeg).toInt64) (fun y17 => bd (F_Vwm_down ((y17 - y15) * v8) 65536) (fun o18 => ck (inb ((32 * (σ.1 25)) + v10) 256) (lt (sA σ 38 (upd (σ.2.2.1 38) ((32 * (σ.1 25)) + v10).toNatClampNeg ((y15 + o18).toInt32))) (fun σ20 => lt (v10 + 1) (fun y21 => L_Vwm_between_35 n σ20 v1 v2 v8 y21)))))))))
set_option maxRecDepth 10000 in
set_option maxHeartbeats 4000000 in
theorem lt_Vwm_between_35 {p : Program} {l : Launch} {e : Env} {R : Room} {s : State} {m : MethodId} {args : Array Value} {below : List Frame} {meth : Method} {c : Code} {D : va_G} {τ : ClassId × ClassId × ClassId} {B : Nat} {A : Nat → Prop} {ad : Nat → Nat} (E : Cx p R s m args meth c prog_20_method_19_code 15 "DrawingMachineModel$VertexWorkModel" 1 D τ B A) (hret : meth.sig.returnType = none) (o : Sg) : ∀ (n : Nat) (σ : Sg) (v1 : Int32) (v2 : Int32) (v8 : Int64) (v10 : Int32) (H : Heap) (locs : List Loc) (ls : Array Slot), L_Vwm_between_35 n σ v1 v2 v8 v10 = some o → Wd s D A (wdM τ σ ad) H locs → lv_has ls 15 [(0, .ref (ad 62)), (1, .int v1), (2, .int v2), (8, .long v8), (10, .int v10)] → W p l e R s m args below meth c H locs 0 0 (QV below args s A D τ (wdM τ o ad)) (F0 m 35 ls []) := by
  intro n
  induction n with
  | zero =>
    intro σ v1 v2 v8 v10 H locs ls h w hl
    cases h
  | succ n hr_35 =>
    intro σ v1 v2 v8 v10 H locs ls h w hl
    refine lv_iload E.x E.b d_Vwm_between_35 (lv_at hl 4 rfl) ?_
    refine lv_bipush (v := 32) E.x E.b d_Vwm_between_37 (by decide) ?_
    refine lv_icmp_ge (tgt := 111) E.x E.b d_Vwm_between_39 (by decide) (fun c => ?_) (fun c => ?_)
    ·
      replace h := ifT c h
      refine lv_aload_n E.x E.b d_Vwm_between_111 rfl (lv_at hl 0 rfl) ?_
      refine lv_dup E.x E.b d_Vwm_between_112 rfl ?_
      refine gM_Vwm_fewer E w k1630 d_Vwm_between_113 ?_
      refine lv_iconst (v := 1) E.x E.b d_Vwm_between_116 (by decide) ?_
      refine lv_iadd E.x E.b d_Vwm_between_117 ?_
      obtain ⟨σ13, e_σ13, h⟩ := lt_some h
      refine pM_Vwm_fewer E w k1630 e_σ13 d_Vwm_between_118 (fun H locs w => ?_)
      obtain rfl := Option.some.inj h
      exact rt_v E w hret d_Vwm_between_121
    ·
      replace h := ifF c h
      refine lv_aload_n E.x E.b d_Vwm_between_42 rfl (lv_at hl 0 rfl) ?_
      refine gM_Vwm_ring E w k1629 d_Vwm_between_43 ?_
      refine lv_bipush (v := 32) E.x E.b d_Vwm_between_46 (by decide) ?_
      refine lv_iload_n E.x E.b d_Vwm_between_48 rfl (lv_at hl 1 rfl) ?_
      refine lv_imul E.x E.b d_Vwm_between_49 ?_
      refine lv_iload E.x E.b d_Vwm_between_50 (lv_at hl 4 rfl) ?_
      refine lv_iadd E.x E.b d_Vwm_between_52 ?_
      obtain ⟨c14, h⟩ := ck_some h
      refine ialM E w (k := 37) (by decide) c14 d_Vwm_between_53 ?_
      refine lv_i2l (v := (σ.2.2.1 37 ((32 * v1) + v10).toNatClampNeg).toInt64) E.x E.b d_Vwm_between_54 rfl ?_
      obtain ⟨y15, e_y15, h⟩ := lt_some h
      refine wl_e (v := y15) e_y15 ?_
      refine lv_lstore (lv' := [(11, .long y15), (0, .ref (ad 62)), (1, .int v1), (2, .int v2), (8, .long v8), (10, .int v10)]) E.x E.b d_Vwm_between_55 hl (by decide) rfl (fun ls hl => ?_)
      refine lv_aload_n E.x E.b d_Vwm_between_57 rfl (lv_at hl 1 rfl) ?_
      refine gM_Vwm_ring E w k1629 d_Vwm_between_58 ?_
      refine lv_bipush (v := 32) E.x E.b d_Vwm_between_61 (by decide) ?_
      refine lv_iload_n E.x E.b d_Vwm_between_63 rfl (lv_at hl 3 rfl) ?_
      refine lv_imul E.x E.b d_Vwm_between_64 ?_
      refine lv_iload E.x E.b d_Vwm_between_65 (lv_at hl 5 rfl) ?_
      refine lv_iadd E.x E.b d_Vwm_between_67 ?_
      obtain ⟨c16, h⟩ := ck_some h
      refine ialM E w (k := 37) (by decide) c16 d_Vwm_between_68 ?_
      refine lv_i2l (v := (σ.2.2.1 37 ((32 * v2) + v10).toNatClampNeg).toInt64) E.x E.b d_Vwm_between_69 rfl ?_
      obtain ⟨y17, e_y17, h⟩ := lt_some h
      refine wl_e (v := y17) e_y17 ?_
      refine lv_lstore (lv' := [(13, .long y17), (11, .long y15), (0, .ref (ad 62)), (1, .int v1), (2, .int v2), (8, .long v8), (10, .int v10)]) E.x E.b d_Vwm_between_70 hl (by decide) rfl (fun ls hl => ?_)
      refine lv_aload_n E.x E.b d_Vwm_between_72 rfl (lv_at hl 2 rfl) ?_
      refine gM_Vwm_other E w k1631 d_Vwm_between_73 ?_
      refine lv_bipush (v := 32) E.x E.b d_Vwm_between_76 (by decide) ?_
      refine lv_aload_n E.x E.b d_Vwm_between_78 rfl (lv_at hl 2 rfl) ?_
      refine gM_Vwm_fewer E w k1630 d_Vwm_between_79 ?_
      refine lv_imul E.x E.b d_Vwm_between_82 ?_
      refine lv_iload E.x E.b d_Vwm_between_83 (lv_at hl 6 rfl) ?_
      refine lv_iadd E.x E.b d_Vwm_between_85 ?_
      refine lv_lload E.x E.b d_Vwm_between_86 (lv_at hl 1 rfl) ?_
      refine lv_lload E.x E.b d_Vwm_between_88 (lv_at hl 0 rfl) ?_
      refine lv_lload E.x E.b d_Vwm_between_90 (lv_at hl 1 rfl) ?_
      refine lv_lsub E.x E.b d_Vwm_between_92 ?_
      refine lv_lload E.x E.b d_Vwm_between_93 (lv_at hl 5 rfl) ?_
      refine lv_lmul E.x E.b d_Vwm_between_95 ?_
      refine lv_ldc2 (v := 65536) E.x E.b E.o (E.w _ k2334) d_Vwm_between_96 ?_
      obtain ⟨o18, h_o18, h⟩ := bd_some h
      refine clS_Vwm_down E w (x0 := ((y17 - y15) * v8)) (x1 := 65536) h_o18 k2335 (by decide) hl.1 (Nat.le_of_ble_eq_true rfl) d_Vwm_between_99 (fun H locs w => ?_)
      refine lv_ladd E.x E.b d_Vwm_between_102 ?_
      refine lv_l2i (v := (y15 + o18).toInt32) E.x E.b d_Vwm_between_103 rfl ?_
      obtain ⟨c19, h⟩ := ck_some h
      obtain ⟨σ20, e_σ20, h⟩ := lt_some h
      refine iasM E w (k := 38) (by decide) c19 e_σ20 d_Vwm_between_104 (fun H locs w => ?_)
      obtain ⟨y21, e_y21, h⟩ := lt_some h
      refine lv_iinc (v := y21) (lv' := [(10, .int y21), (13, .long y17), (11, .long y15), (0, .ref (ad 62)), (1, .int v1), (2, .int v2), (8, .long v8)]) E.x E.b d_Vwm_between_105 hl (k := 6) rfl (e_y21) (by decide) rfl (fun ls hl => ?_)
      refine lv_goto (tgt := 35) E.x E.b d_Vwm_between_108 (by decide) ?_
      exact hr_35 σ20 v1 v2 v8 y21 _ _ _ h w (lv_sub hl [3, 4, 5, 6, 0] rfl)
def F_Vwm_between (σ : Sg) (x0 : Int32) (x1 : Int32) (x2 : Int32) : Option (Sg) := bd (F_Vwm_inside σ x0 x2) (fun o22 => bd (F_Vwm_inside σ x1 x2) (fun o23 => bd (F_Vwm_down (65536 * o22) (o22 - o23)) (fun o24 => L_Vwm_between_35 100000 σ x0 x1 o24 0)))
set_option maxRecDepth 10000 in
set_option maxHeartbeats 4000000 in
theorem c_Vwm_between (l : Launch) (D : va_G) (τ : ClassId × ClassId × ClassId) (B : Nat) (σ : Sg) (ad : Nat → Nat) (x0 : Int32) (x1 : Int32) (x2 : Int32) (o : Sg) (h : F_Vwm_between σ x0 x1 x2 = some o) : MV l y_Vwm_between (Cond.code y_Vwm_between prog_20_method_19_code 15 none) 1 D τ B [.ref (ad 62), .int x0, .int x1, .int x2] (wdM τ σ ad) (wdM τ o ad) := by
  refine en_v (by decide) (Nat.le_of_ble_eq_true rfl) ?_
  intro p e R s m args below meth c H locs ls A E hret w hl
  have E : Cx p R s m args meth c prog_20_method_19_code 15 "DrawingMachineModel$VertexWorkModel" 1 D τ B A := E
  have hl : lv_has ls 15 [(0, .ref (ad 62)), (1, .int x0), (2, .int x1), (3, .int x2)] := hl
  refine lv_aload_n E.x E.b d_Vwm_between_0 rfl (lv_at hl 0 rfl) ?_
  refine lv_iload_n E.x E.b d_Vwm_between_1 rfl (lv_at hl 1 rfl) ?_
  refine lv_iload_n E.x E.b d_Vwm_between_2 rfl (lv_at hl 3 rfl) ?_
  obtain ⟨o22, h_o22, h⟩ := bd_some h
  refine clV_Vwm_inside E w (x0 := x0) (x1 := x2) h_o22 k2325 (by decide) hl.1 (Nat.le_of_ble_eq_true rfl) d_Vwm_between_3 (fun H locs w => ?_)
  refine lv_lstore (lv' := [(4, .long o22), (0, .ref (ad 62)), (1, .int x0), (2, .int x1), (3, .int x2)]) E.x E.b d_Vwm_between_6 hl (by decide) rfl (fun ls hl => ?_)
  refine lv_aload_n E.x E.b d_Vwm_between_8 rfl (lv_at hl 1 rfl) ?_
  refine lv_iload_n E.x E.b d_Vwm_between_9 rfl (lv_at hl 3 rfl) ?_
  refine lv_iload_n E.x E.b d_Vwm_between_10 rfl (lv_at hl 4 rfl) ?_
  obtain ⟨o23, h_o23, h⟩ := bd_some h
  refine clV_Vwm_inside E w (x0 := x1) (x1 := x2) h_o23 k2325 (by decide) hl.1 (Nat.le_of_ble_eq_true rfl) d_Vwm_between_11 (fun H locs w => ?_)
  refine lv_lstore (lv' := [(6, .long o23), (4, .long o22), (0, .ref (ad 62)), (1, .int x0), (2, .int x1), (3, .int x2)]) E.x E.b d_Vwm_between_14 hl (by decide) rfl (fun ls hl => ?_)
  refine lv_ldc2 (v := 65536) E.x E.b E.o (E.w _ k2334) d_Vwm_between_16 ?_
  refine lv_lload E.x E.b d_Vwm_between_19 (lv_at hl 1 rfl) ?_
  refine lv_lmul E.x E.b d_Vwm_between_21 ?_
  refine lv_lload E.x E.b d_Vwm_between_22 (lv_at hl 1 rfl) ?_
  refine lv_lload E.x E.b d_Vwm_between_24 (lv_at hl 0 rfl) ?_
  refine lv_lsub E.x E.b d_Vwm_between_26 ?_
  obtain ⟨o24, h_o24, h⟩ := bd_some h
  refine clS_Vwm_down E w (x0 := (65536 * o22)) (x1 := (o22 - o23)) h_o24 k2335 (by decide) hl.1 (Nat.le_of_ble_eq_true rfl) d_Vwm_between_27 (fun H locs w => ?_)
  refine lv_lstore (lv' := [(8, .long o24), (6, .long o23), (4, .long o22), (0, .ref (ad 62)), (1, .int x0), (2, .int x1), (3, .int x2)]) E.x E.b d_Vwm_between_30 hl (by decide) rfl (fun ls hl => ?_)
  refine lv_iconst (v := 0) E.x E.b d_Vwm_between_32 (by decide) ?_
  refine lv_istore (lv' := [(10, .int 0), (8, .long o24), (6, .long o23), (4, .long o22), (0, .ref (ad 62)), (1, .int x0), (2, .int x1), (3, .int x2)]) E.x E.b d_Vwm_between_33 hl (by decide) rfl (fun ls hl => ?_)
  exact lt_Vwm_between_35 E hret o 100000 σ x0 x1 o24 0 _ _ _ h w (lv_sub hl [4, 5, 6, 1, 0] rfl)
theorem clV_Vwm_between {p : Program} {l : Launch} {e : Env} {R : Room} {s : State} {m : MethodId} {args : Array Value} {below : List Frame} {meth : Method} {c : Code} {H : Heap} {locs : List Loc} {Q : State → Prop} {cc : ByteArray} {nL pc lev : Nat} {own : String} {D : va_G} {τ : ClassId × ClassId × ClassId} {B : Nat} {A : Nat → Prop} {σ : Sg} {ad : Nat → Nat} {ls : Array Slot} {rest : List Value} (E : Cx p R s m args meth c cc nL own lev D τ B A) (w : Wd s D A (wdM τ σ ad) H locs) {x0 : Int32} {x1 : Int32} {x2 : Int32} {o : Sg} (h : F_Vwm_between σ x0 x1 x2 = some o) {index : Nat} (hlk : Cond.methodLink own index y_Vwm_between ∈ tw) (hlev : 1 < lev) (hsz : ls.size = nL) (hr : (rest.map fun v => v.category).sum ≤ 8) (hd : decode cc pc = .ok (.invokevirtual index, 3)) (kk : ∀ (H1 : Heap) (locs1 : List Loc), Wd s D A (wdM τ o ad) H1 locs1 → W p l e R s m args below meth c H1 locs1 0 0 Q (F0 m (pc + 3) ls (rest))) : W p l e R s m args below meth c H locs 0 0 Q (F0 m pc ls (.int x2 :: .int x1 :: .int x0 :: .ref (ad 62) :: rest)) :=
  cr_v w E.C (va_runV (As := [.int x0, .int x1, .int x2]) (rest := rest) E.fix (c_Vwm_between l D τ B σ ad x0 x1 x2 o h H.size) (cwV 3 E.w (tw_pre (tw_good k2333) (l := [_, _, _, _]) (List.forall_mem_cons.mpr ⟨hlk, List.forall_mem_cons.mpr ⟨k2332, List.forall_mem_cons.mpr ⟨ks97, List.forall_mem_cons.mpr ⟨k18, fun _ h => absurd h List.not_mem_nil⟩⟩⟩⟩)) rfl rfl rfl (by decide +kernel) (E.rm hlev (by decide))) (wd_preV w E.C [.int x0, .int x1, .int x2] rcM_Vwm rfl) rfl rfl hsz rfl (lv_room hr) hd ⟨Nat.zero_le _, Nat.zero_le _⟩) kk
