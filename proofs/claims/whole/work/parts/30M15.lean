theorem d_Cmd_look_0 : decode prog_15_method_25_code 0 = .ok (.aload_n 0, 1) := by decide +kernel
theorem d_Cmd_look_1 : decode prog_15_method_25_code 1 = .ok (.getfield 130, 3) := by decide +kernel
theorem d_Cmd_look_4 : decode prog_15_method_25_code 4 = .ok (.ifCond .ne 18, 3) := by decide +kernel
theorem d_Cmd_look_7 : decode prog_15_method_25_code 7 = .ok (.aload_n 0, 1) := by decide +kernel
theorem d_Cmd_look_8 : decode prog_15_method_25_code 8 = .ok (.getfield 127, 3) := by decide +kernel
theorem d_Cmd_look_11 : decode prog_15_method_25_code 11 = .ok (.aload_n 0, 1) := by decide +kernel
theorem d_Cmd_look_12 : decode prog_15_method_25_code 12 = .ok (.getfield 124, 3) := by decide +kernel
theorem d_Cmd_look_15 : decode prog_15_method_25_code 15 = .ok (.if_icmp .ne 7, 3) := by decide +kernel
theorem d_Cmd_look_18 : decode prog_15_method_25_code 18 = .ok (.iconst 1, 1) := by decide +kernel
theorem d_Cmd_look_19 : decode prog_15_method_25_code 19 = .ok (.goto 4, 3) := by decide +kernel
theorem d_Cmd_look_22 : decode prog_15_method_25_code 22 = .ok (.iconst 0, 1) := by decide +kernel
theorem d_Cmd_look_23 : decode prog_15_method_25_code 23 = .ok (.istore_n 1, 1) := by decide +kernel
theorem d_Cmd_look_24 : decode prog_15_method_25_code 24 = .ok (.aload_n 0, 1) := by decide +kernel
theorem d_Cmd_look_25 : decode prog_15_method_25_code 25 = .ok (.getfield 140, 3) := by decide +kernel
theorem d_Cmd_look_28 : decode prog_15_method_25_code 28 = .ok (.sipush 2000, 3) := by decide +kernel
theorem d_Cmd_look_31 : decode prog_15_method_25_code 31 = .ok (.if_icmp .ne 6, 3) := by decide +kernel
theorem d_Cmd_look_34 : decode prog_15_method_25_code 34 = .ok (.bipush 7, 2) := by decide +kernel
theorem d_Cmd_look_36 : decode prog_15_method_25_code 36 = .ok (.ireturn, 1) := by decide +kernel
theorem d_Cmd_look_37 : decode prog_15_method_25_code 37 = .ok (.iload_n 1, 1) := by decide +kernel
theorem d_Cmd_look_38 : decode prog_15_method_25_code 38 = .ok (.ifCond .eq 10, 3) := by decide +kernel
theorem d_Cmd_look_41 : decode prog_15_method_25_code 41 = .ok (.aload_n 0, 1) := by decide +kernel
theorem d_Cmd_look_42 : decode prog_15_method_25_code 42 = .ok (.iconst 0, 1) := by decide +kernel
theorem d_Cmd_look_43 : decode prog_15_method_25_code 43 = .ok (.putfield 143, 3) := by decide +kernel
theorem d_Cmd_look_46 : decode prog_15_method_25_code 46 = .ok (.iconst 0, 1) := by decide +kernel
theorem d_Cmd_look_47 : decode prog_15_method_25_code 47 = .ok (.ireturn, 1) := by decide +kernel
theorem d_Cmd_look_48 : decode prog_15_method_25_code 48 = .ok (.aload_n 0, 1) := by decide +kernel
theorem d_Cmd_look_49 : decode prog_15_method_25_code 49 = .ok (.aload_n 0, 1) := by decide +kernel
theorem d_Cmd_look_50 : decode prog_15_method_25_code 50 = .ok (.getfield 127, 3) := by decide +kernel
theorem d_Cmd_look_53 : decode prog_15_method_25_code 53 = .ok (.invokevirtual 149, 3) := by decide +kernel
theorem d_Cmd_look_56 : decode prog_15_method_25_code 56 = .ok (.ifCond .ne 5, 3) := by decide +kernel
theorem d_Cmd_look_59 : decode prog_15_method_25_code 59 = .ok (.iconst 1, 1) := by decide +kernel
theorem d_Cmd_look_60 : decode prog_15_method_25_code 60 = .ok (.ireturn, 1) := by decide +kernel
theorem d_Cmd_look_61 : decode prog_15_method_25_code 61 = .ok (.aload_n 0, 1) := by decide +kernel
theorem d_Cmd_look_62 : decode prog_15_method_25_code 62 = .ok (.aload_n 0, 1) := by decide +kernel
theorem d_Cmd_look_63 : decode prog_15_method_25_code 63 = .ok (.getfield 127, 3) := by decide +kernel
theorem d_Cmd_look_66 : decode prog_15_method_25_code 66 = .ok (.invokevirtual 153, 3) := by decide +kernel
theorem d_Cmd_look_69 : decode prog_15_method_25_code 69 = .ok (.istore_n 2, 1) := by decide +kernel
theorem d_Cmd_look_70 : decode prog_15_method_25_code 70 = .ok (.iload_n 2, 1) := by decide +kernel
theorem d_Cmd_look_71 : decode prog_15_method_25_code 71 = .ok (.i2l, 1) := by decide +kernel
theorem d_Cmd_look_72 : decode prog_15_method_25_code 72 = .ok (.lconst 0, 1) := by decide +kernel
theorem d_Cmd_look_73 : decode prog_15_method_25_code 73 = .ok (.ldc2_w 160, 3) := by decide +kernel
theorem d_Cmd_look_76 : decode prog_15_method_25_code 76 = .ok (.invokestatic 51, 3) := by decide +kernel
theorem d_Cmd_look_79 : decode prog_15_method_25_code 79 = .ok (.ifCond .ne 5, 3) := by decide +kernel
theorem d_Cmd_look_82 : decode prog_15_method_25_code 82 = .ok (.iconst 2, 1) := by decide +kernel
theorem d_Cmd_look_83 : decode prog_15_method_25_code 83 = .ok (.ireturn, 1) := by decide +kernel
theorem d_Cmd_look_84 : decode prog_15_method_25_code 84 = .ok (.aload_n 0, 1) := by decide +kernel
theorem d_Cmd_look_85 : decode prog_15_method_25_code 85 = .ok (.iload_n 2, 1) := by decide +kernel
theorem d_Cmd_look_86 : decode prog_15_method_25_code 86 = .ok (.invokevirtual 162, 3) := by decide +kernel
theorem d_Cmd_look_89 : decode prog_15_method_25_code 89 = .ok (.istore_n 3, 1) := by decide +kernel
theorem d_Cmd_look_90 : decode prog_15_method_25_code 90 = .ok (.aload_n 0, 1) := by decide +kernel
theorem d_Cmd_look_91 : decode prog_15_method_25_code 91 = .ok (.aload_n 0, 1) := by decide +kernel
theorem d_Cmd_look_92 : decode prog_15_method_25_code 92 = .ok (.getfield 127, 3) := by decide +kernel
theorem d_Cmd_look_95 : decode prog_15_method_25_code 95 = .ok (.iload_n 3, 1) := by decide +kernel
theorem d_Cmd_look_96 : decode prog_15_method_25_code 96 = .ok (.iadd, 1) := by decide +kernel
theorem d_Cmd_look_97 : decode prog_15_method_25_code 97 = .ok (.invokevirtual 149, 3) := by decide +kernel
theorem d_Cmd_look_100 : decode prog_15_method_25_code 100 = .ok (.ifCond .ne 5, 3) := by decide +kernel
theorem d_Cmd_look_103 : decode prog_15_method_25_code 103 = .ok (.iconst 1, 1) := by decide +kernel
theorem d_Cmd_look_104 : decode prog_15_method_25_code 104 = .ok (.ireturn, 1) := by decide +kernel
theorem d_Cmd_look_105 : decode prog_15_method_25_code 105 = .ok (.iconst 1, 1) := by decide +kernel
theorem d_Cmd_look_106 : decode prog_15_method_25_code 106 = .ok (.istore 4, 2) := by decide +kernel
theorem d_Cmd_look_108 : decode prog_15_method_25_code 108 = .ok (.iconst 0, 1) := by decide +kernel
theorem d_Cmd_look_109 : decode prog_15_method_25_code 109 = .ok (.istore 5, 2) := by decide +kernel
theorem d_Cmd_look_111 : decode prog_15_method_25_code 111 = .ok (.iload 5, 2) := by decide +kernel
theorem d_Cmd_look_113 : decode prog_15_method_25_code 113 = .ok (.iload_n 3, 1) := by decide +kernel
theorem d_Cmd_look_114 : decode prog_15_method_25_code 114 = .ok (.if_icmp .ge 57, 3) := by decide +kernel
theorem d_Cmd_look_117 : decode prog_15_method_25_code 117 = .ok (.aload_n 0, 1) := by decide +kernel
theorem d_Cmd_look_118 : decode prog_15_method_25_code 118 = .ok (.getfield 35, 3) := by decide +kernel
theorem d_Cmd_look_121 : decode prog_15_method_25_code 121 = .ok (.iload 5, 2) := by decide +kernel
theorem d_Cmd_look_123 : decode prog_15_method_25_code 123 = .ok (.aload_n 0, 1) := by decide +kernel
theorem d_Cmd_look_124 : decode prog_15_method_25_code 124 = .ok (.aload_n 0, 1) := by decide +kernel
theorem d_Cmd_look_125 : decode prog_15_method_25_code 125 = .ok (.getfield 127, 3) := by decide +kernel
theorem d_Cmd_look_128 : decode prog_15_method_25_code 128 = .ok (.iconst 1, 1) := by decide +kernel
theorem d_Cmd_look_129 : decode prog_15_method_25_code 129 = .ok (.iadd, 1) := by decide +kernel
theorem d_Cmd_look_130 : decode prog_15_method_25_code 130 = .ok (.iload 5, 2) := by decide +kernel
theorem d_Cmd_look_132 : decode prog_15_method_25_code 132 = .ok (.iadd, 1) := by decide +kernel
theorem d_Cmd_look_133 : decode prog_15_method_25_code 133 = .ok (.invokevirtual 153, 3) := by decide +kernel
theorem d_Cmd_look_136 : decode prog_15_method_25_code 136 = .ok (.iastore, 1) := by decide +kernel
theorem d_Cmd_look_137 : decode prog_15_method_25_code 137 = .ok (.iload 4, 2) := by decide +kernel
theorem d_Cmd_look_139 : decode prog_15_method_25_code 139 = .ok (.ifCond .eq 23, 3) := by decide +kernel
theorem d_Cmd_look_142 : decode prog_15_method_25_code 142 = .ok (.iload_n 2, 1) := by decide +kernel
theorem d_Cmd_look_143 : decode prog_15_method_25_code 143 = .ok (.iload 5, 2) := by decide +kernel
theorem d_Cmd_look_145 : decode prog_15_method_25_code 145 = .ok (.aload_n 0, 1) := by decide +kernel
theorem d_Cmd_look_146 : decode prog_15_method_25_code 146 = .ok (.getfield 35, 3) := by decide +kernel
theorem d_Cmd_look_149 : decode prog_15_method_25_code 149 = .ok (.iload 5, 2) := by decide +kernel
theorem d_Cmd_look_151 : decode prog_15_method_25_code 151 = .ok (.iaload, 1) := by decide +kernel
theorem d_Cmd_look_152 : decode prog_15_method_25_code 152 = .ok (.invokestatic 165, 3) := by decide +kernel
theorem d_Cmd_look_155 : decode prog_15_method_25_code 155 = .ok (.ifCond .eq 7, 3) := by decide +kernel
theorem d_Cmd_look_158 : decode prog_15_method_25_code 158 = .ok (.iconst 1, 1) := by decide +kernel
theorem d_Cmd_look_159 : decode prog_15_method_25_code 159 = .ok (.goto 4, 3) := by decide +kernel
theorem d_Cmd_look_162 : decode prog_15_method_25_code 162 = .ok (.iconst 0, 1) := by decide +kernel
theorem d_Cmd_look_163 : decode prog_15_method_25_code 163 = .ok (.istore 4, 2) := by decide +kernel
theorem d_Cmd_look_165 : decode prog_15_method_25_code 165 = .ok (.iinc 5 1, 3) := by decide +kernel
theorem d_Cmd_look_168 : decode prog_15_method_25_code 168 = .ok (.goto (-57), 3) := by decide +kernel
theorem d_Cmd_look_171 : decode prog_15_method_25_code 171 = .ok (.aload_n 0, 1) := by decide +kernel
theorem d_Cmd_look_172 : decode prog_15_method_25_code 172 = .ok (.iload_n 3, 1) := by decide +kernel
theorem d_Cmd_look_173 : decode prog_15_method_25_code 173 = .ok (.putfield 143, 3) := by decide +kernel
theorem d_Cmd_look_176 : decode prog_15_method_25_code 176 = .ok (.iload 4, 2) := by decide +kernel
theorem d_Cmd_look_178 : decode prog_15_method_25_code 178 = .ok (.ifCond .ne 7, 3) := by decide +kernel
theorem d_Cmd_look_181 : decode prog_15_method_25_code 181 = .ok (.iconst 3, 1) := by decide +kernel
theorem d_Cmd_look_182 : decode prog_15_method_25_code 182 = .ok (.goto 29, 3) := by decide +kernel
theorem d_Cmd_look_185 : decode prog_15_method_25_code 185 = .ok (.aload_n 0, 1) := by decide +kernel
theorem d_Cmd_look_186 : decode prog_15_method_25_code 186 = .ok (.iload_n 2, 1) := by decide +kernel
theorem d_Cmd_look_187 : decode prog_15_method_25_code 187 = .ok (.invokevirtual 169, 3) := by decide +kernel
theorem d_Cmd_look_190 : decode prog_15_method_25_code 190 = .ok (.ifCond .ne 7, 3) := by decide +kernel
theorem d_Cmd_look_193 : decode prog_15_method_25_code 193 = .ok (.iconst 5, 1) := by decide +kernel
theorem d_Cmd_look_194 : decode prog_15_method_25_code 194 = .ok (.goto 17, 3) := by decide +kernel
theorem d_Cmd_look_197 : decode prog_15_method_25_code 197 = .ok (.aload_n 0, 1) := by decide +kernel
theorem d_Cmd_look_198 : decode prog_15_method_25_code 198 = .ok (.iload_n 2, 1) := by decide +kernel
theorem d_Cmd_look_199 : decode prog_15_method_25_code 199 = .ok (.invokevirtual 172, 3) := by decide +kernel
theorem d_Cmd_look_202 : decode prog_15_method_25_code 202 = .ok (.ifCond .ne 8, 3) := by decide +kernel
theorem d_Cmd_look_205 : decode prog_15_method_25_code 205 = .ok (.bipush 6, 2) := by decide +kernel
theorem d_Cmd_look_207 : decode prog_15_method_25_code 207 = .ok (.goto 4, 3) := by decide +kernel
theorem d_Cmd_look_210 : decode prog_15_method_25_code 210 = .ok (.iconst 0, 1) := by decide +kernel
theorem d_Cmd_look_211 : decode prog_15_method_25_code 211 = .ok (.ireturn, 1) := by decide +kernel
def F_Cmd_look_211 (σ : Sg) (s0 : Int32) : Option (Sg × Int32) := some (σ, s0)
set_option maxRecDepth 10000 in
set_option maxHeartbeats 4000000 in
theorem bt_Cmd_look_211 {p : Program} {l : Launch} {e : Env} {R : Room} {s : State} {m : MethodId} {args : Array Value} {below : List Frame} {meth : Method} {c : Code} {D : va_G} {τ : ClassId × ClassId × ClassId} {B : Nat} {A : Nat → Prop} {ad : Nat → Nat} (E : Cx p R s m args meth c prog_15_method_25_code 6 "DrawingMachineModel$DrawCommandsModel" 3 D τ B A) (hret : meth.sig.returnType = (some .int)) (o : Sg × Int32) (σ : Sg) (s0 : Int32) (h : F_Cmd_look_211 σ s0 = some o) {H : Heap} {locs : List Loc} {ls : Array Slot} (w : Wd s D A (wdM τ σ ad) H locs) (hl : lv_has ls 6 []) : W p l e R s m args below meth c H locs 0 0 (QI below args s A D τ (wdM τ o.1 ad) o.2) (F0 m 211 ls [.int s0]) := by
  obtain rfl := Option.some.inj h
  exact rt_i E w hret d_Cmd_look_211
def F_Cmd_look_163 (rc_111 : Sg → Int32 → Int32 → Int32 → Int32 → Option (Sg × Int32)) (σ : Sg) (v2 : Int32) (v3 : Int32) (v5 : Int32) (s0 : Int32) : Option (Sg × Int32) := lt (v5 + 1) (fun y16 => rc_111 σ v2 v3 s0 y16)
set_option maxRecDepth 10000 in
set_option maxHeartbeats 4000000 in
theorem bt_Cmd_look_163 {p : Program} {l : Launch} {e : Env} {R : Room} {s : State} {m : MethodId} {args : Array Value} {below : List Frame} {meth : Method} {c : Code} {D : va_G} {τ : ClassId × ClassId × ClassId} {B : Nat} {A : Nat → Prop} {ad : Nat → Nat} (E : Cx p R s m args meth c prog_15_method_25_code 6 "DrawingMachineModel$DrawCommandsModel" 3 D τ B A) (hret : meth.sig.returnType = (some .int)) (o : Sg × Int32) (rc_111 : Sg → Int32 → Int32 → Int32 → Int32 → Option (Sg × Int32)) (hr_111 : ∀ (σ : Sg) (v2 : Int32) (v3 : Int32) (v4 : Int32) (v5 : Int32) (H : Heap) (locs : List Loc) (ls : Array Slot), rc_111 σ v2 v3 v4 v5 = some o → Wd s D A (wdM τ σ ad) H locs → lv_has ls 6 [(0, .ref (ad 60)), (2, .int v2), (3, .int v3), (4, .int v4), (5, .int v5)] → W p l e R s m args below meth c H locs 0 0 (QI below args s A D τ (wdM τ o.1 ad) o.2) (F0 m 111 ls [])) (σ : Sg) (v2 : Int32) (v3 : Int32) (v5 : Int32) (s0 : Int32) (h : F_Cmd_look_163 rc_111 σ v2 v3 v5 s0 = some o) {H : Heap} {locs : List Loc} {ls : Array Slot} (w : Wd s D A (wdM τ σ ad) H locs) (hl : lv_has ls 6 [(0, .ref (ad 60)), (2, .int v2), (3, .int v3), (5, .int v5)]) : W p l e R s m args below meth c H locs 0 0 (QI below args s A D τ (wdM τ o.1 ad) o.2) (F0 m 163 ls [.int s0]) := by
  refine lv_istore (lv' := [(4, .int s0), (0, .ref (ad 60)), (2, .int v2), (3, .int v3), (5, .int v5)]) E.x E.b d_Cmd_look_163 hl (by decide) rfl (fun ls hl => ?_)
  obtain ⟨y16, e_y16, h⟩ := lt_some h
  refine lv_iinc (v := y16) (lv' := [(5, .int y16), (4, .int s0), (0, .ref (ad 60)), (2, .int v2), (3, .int v3)]) E.x E.b d_Cmd_look_165 hl (k := 4) rfl (e_y16) (by decide) rfl (fun ls hl => ?_)
  refine lv_goto (tgt := 111) E.x E.b d_Cmd_look_168 (by decide) ?_
  exact hr_111 σ v2 v3 s0 y16 _ _ _ h w (lv_sub hl [2, 3, 4, 1, 0] rfl)
def F_Cmd_look_162 (rc_111 : Sg → Int32 → Int32 → Int32 → Int32 → Option (Sg × Int32)) (σ : Sg) (v2 : Int32) (v3 : Int32) (v5 : Int32) : Option (Sg × Int32) := F_Cmd_look_163 rc_111 σ v2 v3 v5 0
set_option maxRecDepth 10000 in
set_option maxHeartbeats 4000000 in
theorem bt_Cmd_look_162 {p : Program} {l : Launch} {e : Env} {R : Room} {s : State} {m : MethodId} {args : Array Value} {below : List Frame} {meth : Method} {c : Code} {D : va_G} {τ : ClassId × ClassId × ClassId} {B : Nat} {A : Nat → Prop} {ad : Nat → Nat} (E : Cx p R s m args meth c prog_15_method_25_code 6 "DrawingMachineModel$DrawCommandsModel" 3 D τ B A) (hret : meth.sig.returnType = (some .int)) (o : Sg × Int32) (rc_111 : Sg → Int32 → Int32 → Int32 → Int32 → Option (Sg × Int32)) (hr_111 : ∀ (σ : Sg) (v2 : Int32) (v3 : Int32) (v4 : Int32) (v5 : Int32) (H : Heap) (locs : List Loc) (ls : Array Slot), rc_111 σ v2 v3 v4 v5 = some o → Wd s D A (wdM τ σ ad) H locs → lv_has ls 6 [(0, .ref (ad 60)), (2, .int v2), (3, .int v3), (4, .int v4), (5, .int v5)] → W p l e R s m args below meth c H locs 0 0 (QI below args s A D τ (wdM τ o.1 ad) o.2) (F0 m 111 ls [])) (σ : Sg) (v2 : Int32) (v3 : Int32) (v5 : Int32) (h : F_Cmd_look_162 rc_111 σ v2 v3 v5 = some o) {H : Heap} {locs : List Loc} {ls : Array Slot} (w : Wd s D A (wdM τ σ ad) H locs) (hl : lv_has ls 6 [(0, .ref (ad 60)), (2, .int v2), (3, .int v3), (5, .int v5)]) : W p l e R s m args below meth c H locs 0 0 (QI below args s A D τ (wdM τ o.1 ad) o.2) (F0 m 162 ls []) := by
  refine lv_iconst (v := 0) E.x E.b d_Cmd_look_162 (by decide) ?_
  exact bt_Cmd_look_163 E hret o rc_111 hr_111 σ v2 v3 v5 0 h w (lv_sub hl [0, 1, 2, 3] rfl)
def L_Cmd_look_111 : Nat → Sg → Int32 → Int32 → Int32 → Int32 → Option (Sg × Int32)
  | 0, _, _, _, _, _ => none
  | n + 1, σ, v2, v3, v4, v5 => if v3 ≤ v5 then (lt (sI σ 19 v3) (fun σ17 => if v4 = (0 : Int32) then (F_Cmd_look_211 σ17 3) else (bd (F_Cmd_liesRight σ17 v2) (fun o18 => if o18 = (0 : Int32) then (F_Cmd_look_211 σ17 5) else (bd (F_Cmd_fitsState σ17 v2) (fun o19 => if o19 = (0 : Int32) then (F_Cmd_look_211 σ17 6) else (F_Cmd_look_211 σ17 0))))))) else (bd (F_Cmd_read σ (((σ.1 11) + 1) + v5)) (fun o20 => ck (inb v5 300) (lt (sA σ 3 (upd (σ.2.2.1 3) v5.toNatClampNeg o20)) (fun σ22 => if v4 = (0 : Int32) then (F_Cmd_look_162 (L_Cmd_look_111 n) σ22 v2 v3 v5) else (ck (inb v5 300) (bd (F_Cmd_may v2 v5 (σ22.2.2.1 3 v5.toNatClampNeg)) (fun o24 => if o24 = (0 : Int32) then (F_Cmd_look_162 (L_Cmd_look_111 n) σ22 v2 v3 v5) else (F_Cmd_look_163 (L_Cmd_look_111 n) σ22 v2 v3 v5 1))))))))
set_option maxRecDepth 10000 in
set_option maxHeartbeats 4000000 in
theorem lt_Cmd_look_111 {p : Program} {l : Launch} {e : Env} {R : Room} {s : State} {m : MethodId} {args : Array Value} {below : List Frame} {meth : Method} {c : Code} {D : va_G} {τ : ClassId × ClassId × ClassId} {B : Nat} {A : Nat → Prop} {ad : Nat → Nat} (E : Cx p R s m args meth c prog_15_method_25_code 6 "DrawingMachineModel$DrawCommandsModel" 3 D τ B A) (hret : meth.sig.returnType = (some .int)) (o : Sg × Int32) : ∀ (n : Nat) (σ : Sg) (v2 : Int32) (v3 : Int32) (v4 : Int32) (v5 : Int32) (H : Heap) (locs : List Loc) (ls : Array Slot), L_Cmd_look_111 n σ v2 v3 v4 v5 = some o → Wd s D A (wdM τ σ ad) H locs → lv_has ls 6 [(0, .ref (ad 60)), (2, .int v2), (3, .int v3), (4, .int v4), (5, .int v5)] → W p l e R s m args below meth c H locs 0 0 (QI below args s A D τ (wdM τ o.1 ad) o.2) (F0 m 111 ls []) := by
  intro n
  induction n with
  | zero =>
    intro σ v2 v3 v4 v5 H locs ls h w hl
    cases h
  | succ n hr_111 =>
    intro σ v2 v3 v4 v5 H locs ls h w hl
    refine lv_iload E.x E.b d_Cmd_look_111 (lv_at hl 4 rfl) ?_
    refine lv_iload_n E.x E.b d_Cmd_look_113 rfl (lv_at hl 2 rfl) ?_
    refine lv_icmp_ge (tgt := 171) E.x E.b d_Cmd_look_114 (by decide) (fun c => ?_) (fun c => ?_)
    ·
      replace h := ifT c h
      refine lv_aload_n E.x E.b d_Cmd_look_171 rfl (lv_at hl 0 rfl) ?_
      refine lv_iload_n E.x E.b d_Cmd_look_172 rfl (lv_at hl 2 rfl) ?_
      obtain ⟨σ17, e_σ17, h⟩ := lt_some h
      refine pM_Cmd_arguments E w k1465 e_σ17 d_Cmd_look_173 (fun H locs w => ?_)
      refine lv_iload E.x E.b d_Cmd_look_176 (lv_at hl 3 rfl) ?_
      refine lv_if_ne (tgt := 185) E.x E.b d_Cmd_look_178 (by decide) (fun c => ?_) (fun c => ?_)
      ·
        replace h := ifF c h
        refine lv_aload_n E.x E.b d_Cmd_look_185 rfl (lv_at hl 0 rfl) ?_
        refine lv_iload_n E.x E.b d_Cmd_look_186 rfl (lv_at hl 1 rfl) ?_
        obtain ⟨o18, h_o18, h⟩ := bd_some h
        refine clV_Cmd_liesRight E w (x0 := v2) h_o18 k1969 (by decide) hl.1 (Nat.le_of_ble_eq_true rfl) d_Cmd_look_187 (fun H locs w => ?_)
        refine lv_if_ne (tgt := 197) E.x E.b d_Cmd_look_190 (by decide) (fun c => ?_) (fun c => ?_)
        ·
          replace h := ifF c h
          refine lv_aload_n E.x E.b d_Cmd_look_197 rfl (lv_at hl 0 rfl) ?_
          refine lv_iload_n E.x E.b d_Cmd_look_198 rfl (lv_at hl 1 rfl) ?_
          obtain ⟨o19, h_o19, h⟩ := bd_some h
          refine clV_Cmd_fitsState E w (x0 := v2) h_o19 k1977 (by decide) hl.1 (Nat.le_of_ble_eq_true rfl) d_Cmd_look_199 (fun H locs w => ?_)
          refine lv_if_ne (tgt := 210) E.x E.b d_Cmd_look_202 (by decide) (fun c => ?_) (fun c => ?_)
          ·
            replace h := ifF c h
            refine lv_iconst (v := 0) E.x E.b d_Cmd_look_210 (by decide) ?_
            exact bt_Cmd_look_211 E hret o σ17 0 h w (lv_sub hl [] rfl)
          ·
            replace h := ifT c h
            refine lv_bipush (v := 6) E.x E.b d_Cmd_look_205 (by decide) ?_
            refine lv_goto (tgt := 211) E.x E.b d_Cmd_look_207 (by decide) ?_
            exact bt_Cmd_look_211 E hret o σ17 6 h w (lv_sub hl [] rfl)
        ·
          replace h := ifT c h
          refine lv_iconst (v := 5) E.x E.b d_Cmd_look_193 (by decide) ?_
          refine lv_goto (tgt := 211) E.x E.b d_Cmd_look_194 (by decide) ?_
          exact bt_Cmd_look_211 E hret o σ17 5 h w (lv_sub hl [] rfl)
      ·
        replace h := ifT c h
        refine lv_iconst (v := 3) E.x E.b d_Cmd_look_181 (by decide) ?_
        refine lv_goto (tgt := 211) E.x E.b d_Cmd_look_182 (by decide) ?_
        exact bt_Cmd_look_211 E hret o σ17 3 h w (lv_sub hl [] rfl)
    ·
      replace h := ifF c h
      refine lv_aload_n E.x E.b d_Cmd_look_117 rfl (lv_at hl 0 rfl) ?_
      refine gM_Cmd_argument E w k1466 d_Cmd_look_118 ?_
      refine lv_iload E.x E.b d_Cmd_look_121 (lv_at hl 4 rfl) ?_
      refine lv_aload_n E.x E.b d_Cmd_look_123 rfl (lv_at hl 0 rfl) ?_
      refine lv_aload_n E.x E.b d_Cmd_look_124 rfl (lv_at hl 0 rfl) ?_
      refine gM_Cmd_at E w k1451 d_Cmd_look_125 ?_
      refine lv_iconst (v := 1) E.x E.b d_Cmd_look_128 (by decide) ?_
      refine lv_iadd E.x E.b d_Cmd_look_129 ?_
      refine lv_iload E.x E.b d_Cmd_look_130 (lv_at hl 4 rfl) ?_
      refine lv_iadd E.x E.b d_Cmd_look_132 ?_
      obtain ⟨o20, h_o20, h⟩ := bd_some h
      refine clV_Cmd_read E w (x0 := (((σ.1 11) + 1) + v5)) h_o20 k1925 (by decide) hl.1 (Nat.le_of_ble_eq_true rfl) d_Cmd_look_133 (fun H locs w => ?_)
      obtain ⟨c21, h⟩ := ck_some h
      obtain ⟨σ22, e_σ22, h⟩ := lt_some h
      refine iasM E w (k := 3) (by decide) c21 e_σ22 d_Cmd_look_136 (fun H locs w => ?_)
      refine lv_iload E.x E.b d_Cmd_look_137 (lv_at hl 3 rfl) ?_
      refine lv_if_eq (tgt := 162) E.x E.b d_Cmd_look_139 (by decide) (fun c => ?_) (fun c => ?_)
      ·
        replace h := ifT c h
        exact bt_Cmd_look_162 E hret o (L_Cmd_look_111 n) hr_111 σ22 v2 v3 v5 h w (lv_sub hl [0, 1, 2, 4] rfl)
      ·
        replace h := ifF c h
        refine lv_iload_n E.x E.b d_Cmd_look_142 rfl (lv_at hl 1 rfl) ?_
        refine lv_iload E.x E.b d_Cmd_look_143 (lv_at hl 4 rfl) ?_
        refine lv_aload_n E.x E.b d_Cmd_look_145 rfl (lv_at hl 0 rfl) ?_
        refine gM_Cmd_argument E w k1466 d_Cmd_look_146 ?_
        refine lv_iload E.x E.b d_Cmd_look_149 (lv_at hl 4 rfl) ?_
        obtain ⟨c23, h⟩ := ck_some h
        refine ialM E w (k := 3) (by decide) c23 d_Cmd_look_151 ?_
        obtain ⟨o24, h_o24, h⟩ := bd_some h
        refine clS_Cmd_may E w (x0 := v2) (x1 := v5) (x2 := (σ22.2.2.1 3 v5.toNatClampNeg)) h_o24 k1934 (by decide) hl.1 (Nat.le_of_ble_eq_true rfl) d_Cmd_look_152 (fun H locs w => ?_)
        refine lv_if_eq (tgt := 162) E.x E.b d_Cmd_look_155 (by decide) (fun c => ?_) (fun c => ?_)
        ·
          replace h := ifT c h
          exact bt_Cmd_look_162 E hret o (L_Cmd_look_111 n) hr_111 σ22 v2 v3 v5 h w (lv_sub hl [0, 1, 2, 4] rfl)
        ·
          replace h := ifF c h
          refine lv_iconst (v := 1) E.x E.b d_Cmd_look_158 (by decide) ?_
          refine lv_goto (tgt := 163) E.x E.b d_Cmd_look_159 (by decide) ?_
          exact bt_Cmd_look_163 E hret o (L_Cmd_look_111 n) hr_111 σ22 v2 v3 v5 1 h w (lv_sub hl [0, 1, 2, 4] rfl)
def F_Cmd_look_23 (σ : Sg) (s0 : Int32) : Option (Sg × Int32) := if (σ.1 17) = (2000 : Int32) then (some (σ, 7)) else (if s0 = (0 : Int32) then (bd (F_Cmd_isThere σ (σ.1 11)) (fun o25 => if o25 = (0 : Int32) then (some (σ, 1)) else (bd (F_Cmd_read σ (σ.1 11)) (fun o26 => bd (F_Cmd_in o26.toInt64 0 25) (fun o27 => if o27 = (0 : Int32) then (some (σ, 2)) else (bd (F_Cmd_length σ o26) (fun o28 => bd (F_Cmd_isThere σ ((σ.1 11) + o28)) (fun o29 => if o29 = (0 : Int32) then (some (σ, 1)) else (L_Cmd_look_111 100000 σ o26 o28 1 0))))))))) else (lt (sI σ 19 0) (fun σ30 => some (σ30, 0))))
set_option maxRecDepth 10000 in
set_option maxHeartbeats 4000000 in
theorem bt_Cmd_look_23 {p : Program} {l : Launch} {e : Env} {R : Room} {s : State} {m : MethodId} {args : Array Value} {below : List Frame} {meth : Method} {c : Code} {D : va_G} {τ : ClassId × ClassId × ClassId} {B : Nat} {A : Nat → Prop} {ad : Nat → Nat} (E : Cx p R s m args meth c prog_15_method_25_code 6 "DrawingMachineModel$DrawCommandsModel" 3 D τ B A) (hret : meth.sig.returnType = (some .int)) (o : Sg × Int32) (σ : Sg) (s0 : Int32) (h : F_Cmd_look_23 σ s0 = some o) {H : Heap} {locs : List Loc} {ls : Array Slot} (w : Wd s D A (wdM τ σ ad) H locs) (hl : lv_has ls 6 [(0, .ref (ad 60))]) : W p l e R s m args below meth c H locs 0 0 (QI below args s A D τ (wdM τ o.1 ad) o.2) (F0 m 23 ls [.int s0]) := by
  refine lv_istore_n (lv' := [(1, .int s0), (0, .ref (ad 60))]) E.x E.b d_Cmd_look_23 rfl hl (by decide) rfl (fun ls hl => ?_)
  refine lv_aload_n E.x E.b d_Cmd_look_24 rfl (lv_at hl 1 rfl) ?_
  refine gM_Cmd_done E w k1461 d_Cmd_look_25 ?_
  refine lv_sipush (v := 2000) E.x E.b d_Cmd_look_28 (by decide) ?_
  refine lv_icmp_ne (tgt := 37) E.x E.b d_Cmd_look_31 (by decide) (fun c => ?_) (fun c => ?_)
  ·
    replace h := ifF c h
    refine lv_iload_n E.x E.b d_Cmd_look_37 rfl (lv_at hl 0 rfl) ?_
    refine lv_if_eq (tgt := 48) E.x E.b d_Cmd_look_38 (by decide) (fun c => ?_) (fun c => ?_)
    ·
      replace h := ifT c h
      refine lv_aload_n E.x E.b d_Cmd_look_48 rfl (lv_at hl 1 rfl) ?_
      refine lv_aload_n E.x E.b d_Cmd_look_49 rfl (lv_at hl 1 rfl) ?_
      refine gM_Cmd_at E w k1451 d_Cmd_look_50 ?_
      obtain ⟨o25, h_o25, h⟩ := bd_some h
      refine clV_Cmd_isThere E w (x0 := (σ.1 11)) h_o25 k1921 (by decide) hl.1 (Nat.le_of_ble_eq_true rfl) d_Cmd_look_53 (fun H locs w => ?_)
      refine lv_if_ne (tgt := 61) E.x E.b d_Cmd_look_56 (by decide) (fun c => ?_) (fun c => ?_)
      ·
        replace h := ifF c h
        refine lv_aload_n E.x E.b d_Cmd_look_61 rfl (lv_at hl 1 rfl) ?_
        refine lv_aload_n E.x E.b d_Cmd_look_62 rfl (lv_at hl 1 rfl) ?_
        refine gM_Cmd_at E w k1451 d_Cmd_look_63 ?_
        obtain ⟨o26, h_o26, h⟩ := bd_some h
        refine clV_Cmd_read E w (x0 := (σ.1 11)) h_o26 k1925 (by decide) hl.1 (Nat.le_of_ble_eq_true rfl) d_Cmd_look_66 (fun H locs w => ?_)
        refine lv_istore_n (lv' := [(2, .int o26), (1, .int s0), (0, .ref (ad 60))]) E.x E.b d_Cmd_look_69 rfl hl (by decide) rfl (fun ls hl => ?_)
        refine lv_iload_n E.x E.b d_Cmd_look_70 rfl (lv_at hl 0 rfl) ?_
        refine lv_i2l (v := o26.toInt64) E.x E.b d_Cmd_look_71 rfl ?_
        refine lv_lconst (v := 0) E.x E.b d_Cmd_look_72 (by decide) ?_
        refine lv_ldc2 (v := 25) E.x E.b E.o (E.w _ k1929) d_Cmd_look_73 ?_
        obtain ⟨o27, h_o27, h⟩ := bd_some h
        refine clS_Cmd_in E w (x0 := o26.toInt64) (x1 := 0) (x2 := 25) h_o27 k1844 (by decide) hl.1 (Nat.le_of_ble_eq_true rfl) d_Cmd_look_76 (fun H locs w => ?_)
        refine lv_if_ne (tgt := 84) E.x E.b d_Cmd_look_79 (by decide) (fun c => ?_) (fun c => ?_)
        ·
          replace h := ifF c h
          refine lv_aload_n E.x E.b d_Cmd_look_84 rfl (lv_at hl 2 rfl) ?_
          refine lv_iload_n E.x E.b d_Cmd_look_85 rfl (lv_at hl 0 rfl) ?_
          obtain ⟨o28, h_o28, h⟩ := bd_some h
          refine clV_Cmd_length E w (x0 := o26) h_o28 k1930 (by decide) hl.1 (Nat.le_of_ble_eq_true rfl) d_Cmd_look_86 (fun H locs w => ?_)
          refine lv_istore_n (lv' := [(3, .int o28), (2, .int o26), (1, .int s0), (0, .ref (ad 60))]) E.x E.b d_Cmd_look_89 rfl hl (by decide) rfl (fun ls hl => ?_)
          refine lv_aload_n E.x E.b d_Cmd_look_90 rfl (lv_at hl 3 rfl) ?_
          refine lv_aload_n E.x E.b d_Cmd_look_91 rfl (lv_at hl 3 rfl) ?_
          refine gM_Cmd_at E w k1451 d_Cmd_look_92 ?_
          refine lv_iload_n E.x E.b d_Cmd_look_95 rfl (lv_at hl 0 rfl) ?_
          refine lv_iadd E.x E.b d_Cmd_look_96 ?_
          obtain ⟨o29, h_o29, h⟩ := bd_some h
          refine clV_Cmd_isThere E w (x0 := ((σ.1 11) + o28)) h_o29 k1921 (by decide) hl.1 (Nat.le_of_ble_eq_true rfl) d_Cmd_look_97 (fun H locs w => ?_)
          refine lv_if_ne (tgt := 105) E.x E.b d_Cmd_look_100 (by decide) (fun c => ?_) (fun c => ?_)
          ·
            replace h := ifF c h
            refine lv_iconst (v := 1) E.x E.b d_Cmd_look_105 (by decide) ?_
            refine lv_istore (lv' := [(4, .int 1), (3, .int o28), (2, .int o26), (1, .int s0), (0, .ref (ad 60))]) E.x E.b d_Cmd_look_106 hl (by decide) rfl (fun ls hl => ?_)
            refine lv_iconst (v := 0) E.x E.b d_Cmd_look_108 (by decide) ?_
            refine lv_istore (lv' := [(5, .int 0), (4, .int 1), (3, .int o28), (2, .int o26), (1, .int s0), (0, .ref (ad 60))]) E.x E.b d_Cmd_look_109 hl (by decide) rfl (fun ls hl => ?_)
            exact lt_Cmd_look_111 E hret o 100000 σ o26 o28 1 0 _ _ _ h w (lv_sub hl [5, 3, 2, 1, 0] rfl)
          ·
            replace h := ifT c h
            refine lv_iconst (v := 1) E.x E.b d_Cmd_look_103 (by decide) ?_
            obtain rfl := Option.some.inj h
            exact rt_i E w hret d_Cmd_look_104
        ·
          replace h := ifT c h
          refine lv_iconst (v := 2) E.x E.b d_Cmd_look_82 (by decide) ?_
          obtain rfl := Option.some.inj h
          exact rt_i E w hret d_Cmd_look_83
      ·
        replace h := ifT c h
        refine lv_iconst (v := 1) E.x E.b d_Cmd_look_59 (by decide) ?_
        obtain rfl := Option.some.inj h
        exact rt_i E w hret d_Cmd_look_60
    ·
      replace h := ifF c h
      refine lv_aload_n E.x E.b d_Cmd_look_41 rfl (lv_at hl 1 rfl) ?_
      refine lv_iconst (v := 0) E.x E.b d_Cmd_look_42 (by decide) ?_
      obtain ⟨σ30, e_σ30, h⟩ := lt_some h
      refine pM_Cmd_arguments E w k1465 e_σ30 d_Cmd_look_43 (fun H locs w => ?_)
      refine lv_iconst (v := 0) E.x E.b d_Cmd_look_46 (by decide) ?_
      obtain rfl := Option.some.inj h
      exact rt_i E w hret d_Cmd_look_47
  ·
    replace h := ifT c h
    refine lv_bipush (v := 7) E.x E.b d_Cmd_look_34 (by decide) ?_
    obtain rfl := Option.some.inj h
    exact rt_i E w hret d_Cmd_look_36
def F_Cmd_look_22 (σ : Sg) : Option (Sg × Int32) := F_Cmd_look_23 σ 0
set_option maxRecDepth 10000 in
set_option maxHeartbeats 4000000 in
theorem bt_Cmd_look_22 {p : Program} {l : Launch} {e : Env} {R : Room} {s : State} {m : MethodId} {args : Array Value} {below : List Frame} {meth : Method} {c : Code} {D : va_G} {τ : ClassId × ClassId × ClassId} {B : Nat} {A : Nat → Prop} {ad : Nat → Nat} (E : Cx p R s m args meth c prog_15_method_25_code 6 "DrawingMachineModel$DrawCommandsModel" 3 D τ B A) (hret : meth.sig.returnType = (some .int)) (o : Sg × Int32) (σ : Sg) (h : F_Cmd_look_22 σ = some o) {H : Heap} {locs : List Loc} {ls : Array Slot} (w : Wd s D A (wdM τ σ ad) H locs) (hl : lv_has ls 6 [(0, .ref (ad 60))]) : W p l e R s m args below meth c H locs 0 0 (QI below args s A D τ (wdM τ o.1 ad) o.2) (F0 m 22 ls []) := by
  refine lv_iconst (v := 0) E.x E.b d_Cmd_look_22 (by decide) ?_
  exact bt_Cmd_look_23 E hret o σ 0 h w (lv_sub hl [0] rfl)
def F_Cmd_look (σ : Sg) : Option (Sg × Int32) := if (σ.1 12) = (0 : Int32) then (if (σ.1 11) = (σ.1 10) then (F_Cmd_look_23 σ 1) else (F_Cmd_look_22 σ)) else (F_Cmd_look_22 σ)
set_option maxRecDepth 10000 in
set_option maxHeartbeats 4000000 in
theorem c_Cmd_look (l : Launch) (D : va_G) (τ : ClassId × ClassId × ClassId) (B : Nat) (σ : Sg) (ad : Nat → Nat) (o : Sg × Int32) (h : F_Cmd_look σ = some o) : MI l y_Cmd_look (Cond.code y_Cmd_look prog_15_method_25_code 6 (some .int)) 3 D τ B [.ref (ad 60)] (wdM τ σ ad) (wdM τ o.1 ad) o.2 := by
  refine en_i (by decide) (Nat.le_of_ble_eq_true rfl) ?_
  intro p e R s m args below meth c H locs ls A E hret w hl
  have E : Cx p R s m args meth c prog_15_method_25_code 6 "DrawingMachineModel$DrawCommandsModel" 3 D τ B A := E
  have hl : lv_has ls 6 [(0, .ref (ad 60))] := hl
  refine lv_aload_n E.x E.b d_Cmd_look_0 rfl (lv_at hl 0 rfl) ?_
  refine gM_Cmd_depth E w k1452 d_Cmd_look_1 ?_
  refine lv_if_ne (tgt := 22) E.x E.b d_Cmd_look_4 (by decide) (fun c => ?_) (fun c => ?_)
  ·
    replace h := ifF c h
    exact bt_Cmd_look_22 E hret o σ h w (lv_sub hl [0] rfl)
  ·
    replace h := ifT c h
    refine lv_aload_n E.x E.b d_Cmd_look_7 rfl (lv_at hl 0 rfl) ?_
    refine gM_Cmd_at E w k1451 d_Cmd_look_8 ?_
    refine lv_aload_n E.x E.b d_Cmd_look_11 rfl (lv_at hl 0 rfl) ?_
    refine gM_Cmd_size E w k1450 d_Cmd_look_12 ?_
    refine lv_icmp_ne (tgt := 22) E.x E.b d_Cmd_look_15 (by decide) (fun c => ?_) (fun c => ?_)
    ·
      replace h := ifF c h
      exact bt_Cmd_look_22 E hret o σ h w (lv_sub hl [0] rfl)
    ·
      replace h := ifT c h
      refine lv_iconst (v := 1) E.x E.b d_Cmd_look_18 (by decide) ?_
      refine lv_goto (tgt := 23) E.x E.b d_Cmd_look_19 (by decide) ?_
      exact bt_Cmd_look_23 E hret o σ 1 h w (lv_sub hl [0] rfl)
theorem clV_Cmd_look {p : Program} {l : Launch} {e : Env} {R : Room} {s : State} {m : MethodId} {args : Array Value} {below : List Frame} {meth : Method} {c : Code} {H : Heap} {locs : List Loc} {Q : State → Prop} {cc : ByteArray} {nL pc lev : Nat} {own : String} {D : va_G} {τ : ClassId × ClassId × ClassId} {B : Nat} {A : Nat → Prop} {σ : Sg} {ad : Nat → Nat} {ls : Array Slot} {rest : List Value} (E : Cx p R s m args meth c cc nL own lev D τ B A) (w : Wd s D A (wdM τ σ ad) H locs) {o : Sg × Int32} (h : F_Cmd_look σ = some o) {index : Nat} (hlk : Cond.methodLink own index y_Cmd_look ∈ tw) (hlev : 3 < lev) (hsz : ls.size = nL) (hr : (rest.map fun v => v.category).sum ≤ 8) (hd : decode cc pc = .ok (.invokevirtual index, 3)) (kk : ∀ (H1 : Heap) (locs1 : List Loc), Wd s D A (wdM τ o.1 ad) H1 locs1 → W p l e R s m args below meth c H1 locs1 0 0 Q (F0 m (pc + 3) ls (.int o.2 :: rest))) : W p l e R s m args below meth c H locs 0 0 Q (F0 m pc ls (.ref (ad 60) :: rest)) :=
  cr_i w E.C (va_runV (As := []) (rest := rest) E.fix (c_Cmd_look l D τ B σ ad o h H.size) (cwV 0 E.w (tw_pre (tw_good k1920) (l := [_, _, _, _]) (List.forall_mem_cons.mpr ⟨hlk, List.forall_mem_cons.mpr ⟨k1919, List.forall_mem_cons.mpr ⟨ks50, List.forall_mem_cons.mpr ⟨k15, fun _ h => absurd h List.not_mem_nil⟩⟩⟩⟩)) rfl rfl rfl (by decide +kernel) (E.rm hlev (by decide))) (wd_preV w E.C [] rcM_Cmd rfl) rfl rfl hsz rfl (lv_room hr) hd ⟨Nat.zero_le _, Nat.zero_le _⟩) kk

theorem d_Cmd_keep_0 : decode prog_15_method_28_code 0 = .ok (.iload_n 1, 1) := by decide +kernel
theorem d_Cmd_keep_1 : decode prog_15_method_28_code 1 = .ok (.invokestatic 110, 3) := by decide +kernel
theorem d_Cmd_keep_4 : decode prog_15_method_28_code 4 = .ok (.ifCond .ne 4, 3) := by decide +kernel
theorem d_Cmd_keep_7 : decode prog_15_method_28_code 7 = .ok (.return_, 1) := by decide +kernel
theorem d_Cmd_keep_8 : decode prog_15_method_28_code 8 = .ok (.iload_n 1, 1) := by decide +kernel
theorem d_Cmd_keep_9 : decode prog_15_method_28_code 9 = .ok (.iload_n 1, 1) := by decide +kernel
theorem d_Cmd_keep_10 : decode prog_15_method_28_code 10 = .ok (.invokestatic 110, 3) := by decide +kernel
theorem d_Cmd_keep_13 : decode prog_15_method_28_code 13 = .ok (.iconst 1, 1) := by decide +kernel
theorem d_Cmd_keep_14 : decode prog_15_method_28_code 14 = .ok (.if_icmp .le 12, 3) := by decide +kernel
theorem d_Cmd_keep_17 : decode prog_15_method_28_code 17 = .ok (.aload_n 0, 1) := by decide +kernel
theorem d_Cmd_keep_18 : decode prog_15_method_28_code 18 = .ok (.getfield 35, 3) := by decide +kernel
theorem d_Cmd_keep_21 : decode prog_15_method_28_code 21 = .ok (.iconst 0, 1) := by decide +kernel
theorem d_Cmd_keep_22 : decode prog_15_method_28_code 22 = .ok (.iaload, 1) := by decide +kernel
theorem d_Cmd_keep_23 : decode prog_15_method_28_code 23 = .ok (.goto 4, 3) := by decide +kernel
theorem d_Cmd_keep_26 : decode prog_15_method_28_code 26 = .ok (.iconst 0, 1) := by decide +kernel
theorem d_Cmd_keep_27 : decode prog_15_method_28_code 27 = .ok (.invokestatic 113, 3) := by decide +kernel
theorem d_Cmd_keep_30 : decode prog_15_method_28_code 30 = .ok (.istore_n 2, 1) := by decide +kernel
theorem d_Cmd_keep_31 : decode prog_15_method_28_code 31 = .ok (.iconst 0, 1) := by decide +kernel
theorem d_Cmd_keep_32 : decode prog_15_method_28_code 32 = .ok (.istore_n 3, 1) := by decide +kernel
theorem d_Cmd_keep_33 : decode prog_15_method_28_code 33 = .ok (.iload_n 3, 1) := by decide +kernel
theorem d_Cmd_keep_34 : decode prog_15_method_28_code 34 = .ok (.aload_n 0, 1) := by decide +kernel
theorem d_Cmd_keep_35 : decode prog_15_method_28_code 35 = .ok (.getfield 143, 3) := by decide +kernel
theorem d_Cmd_keep_38 : decode prog_15_method_28_code 38 = .ok (.if_icmp .ge 23, 3) := by decide +kernel
theorem d_Cmd_keep_41 : decode prog_15_method_28_code 41 = .ok (.aload_n 0, 1) := by decide +kernel
theorem d_Cmd_keep_42 : decode prog_15_method_28_code 42 = .ok (.getfield 38, 3) := by decide +kernel
theorem d_Cmd_keep_45 : decode prog_15_method_28_code 45 = .ok (.iload_n 2, 1) := by decide +kernel
theorem d_Cmd_keep_46 : decode prog_15_method_28_code 46 = .ok (.iload_n 3, 1) := by decide +kernel
theorem d_Cmd_keep_47 : decode prog_15_method_28_code 47 = .ok (.iadd, 1) := by decide +kernel
theorem d_Cmd_keep_48 : decode prog_15_method_28_code 48 = .ok (.aload_n 0, 1) := by decide +kernel
theorem d_Cmd_keep_49 : decode prog_15_method_28_code 49 = .ok (.getfield 35, 3) := by decide +kernel
theorem d_Cmd_keep_52 : decode prog_15_method_28_code 52 = .ok (.iload_n 3, 1) := by decide +kernel
theorem d_Cmd_keep_53 : decode prog_15_method_28_code 53 = .ok (.iaload, 1) := by decide +kernel
theorem d_Cmd_keep_54 : decode prog_15_method_28_code 54 = .ok (.iastore, 1) := by decide +kernel
theorem d_Cmd_keep_55 : decode prog_15_method_28_code 55 = .ok (.iinc 3 1, 3) := by decide +kernel
theorem d_Cmd_keep_58 : decode prog_15_method_28_code 58 = .ok (.goto (-25), 3) := by decide +kernel
theorem d_Cmd_keep_61 : decode prog_15_method_28_code 61 = .ok (.return_, 1) := by decide +kernel
def L_Cmd_keep_33 : Nat → Sg → Int32 → Int32 → Option (Sg)
  | 0, _, _, _ => none
  | n + 1, σ, v2, v3 => if (σ.1 19) ≤ v3 then (some σ) else (ck (inb v3 300) (ck (inb (v2 + v3) 4160) (lt (sA σ 4 (upd (σ.2.2.1 4) (v2 + v3).toNatClampNeg (σ.2.2.1 3 v3.toNatClampNeg))) (fun σ10 => lt (v3 + 1) (fun y11 => L_Cmd_keep_33 n σ10 v2 y11)))))
set_option maxRecDepth 10000 in
set_option maxHeartbeats 4000000 in
theorem lt_Cmd_keep_33 {p : Program} {l : Launch} {e : Env} {R : Room} {s : State} {m : MethodId} {args : Array Value} {below : List Frame} {meth : Method} {c : Code} {D : va_G} {τ : ClassId × ClassId × ClassId} {B : Nat} {A : Nat → Prop} {ad : Nat → Nat} (E : Cx p R s m args meth c prog_15_method_28_code 4 "DrawingMachineModel$DrawCommandsModel" 2 D τ B A) (hret : meth.sig.returnType = none) (o : Sg) : ∀ (n : Nat) (σ : Sg) (v2 : Int32) (v3 : Int32) (H : Heap) (locs : List Loc) (ls : Array Slot), L_Cmd_keep_33 n σ v2 v3 = some o → Wd s D A (wdM τ σ ad) H locs → lv_has ls 4 [(0, .ref (ad 60)), (2, .int v2), (3, .int v3)] → W p l e R s m args below meth c H locs 0 0 (QV below args s A D τ (wdM τ o ad)) (F0 m 33 ls []) := by
  intro n
  induction n with
  | zero =>
    intro σ v2 v3 H locs ls h w hl
    cases h
  | succ n hr_33 =>
    intro σ v2 v3 H locs ls h w hl
    refine lv_iload_n E.x E.b d_Cmd_keep_33 rfl (lv_at hl 2 rfl) ?_
    refine lv_aload_n E.x E.b d_Cmd_keep_34 rfl (lv_at hl 0 rfl) ?_
    refine gM_Cmd_arguments E w k1465 d_Cmd_keep_35 ?_
    refine lv_icmp_ge (tgt := 61) E.x E.b d_Cmd_keep_38 (by decide) (fun c => ?_) (fun c => ?_)
    ·
      replace h := ifT c h
      obtain rfl := Option.some.inj h
      exact rt_v E w hret d_Cmd_keep_61
    ·
      replace h := ifF c h
      refine lv_aload_n E.x E.b d_Cmd_keep_41 rfl (lv_at hl 0 rfl) ?_
      refine gM_Cmd_kept E w k1468 d_Cmd_keep_42 ?_
      refine lv_iload_n E.x E.b d_Cmd_keep_45 rfl (lv_at hl 1 rfl) ?_
      refine lv_iload_n E.x E.b d_Cmd_keep_46 rfl (lv_at hl 2 rfl) ?_
      refine lv_iadd E.x E.b d_Cmd_keep_47 ?_
      refine lv_aload_n E.x E.b d_Cmd_keep_48 rfl (lv_at hl 0 rfl) ?_
      refine gM_Cmd_argument E w k1466 d_Cmd_keep_49 ?_
      refine lv_iload_n E.x E.b d_Cmd_keep_52 rfl (lv_at hl 2 rfl) ?_
      obtain ⟨c8, h⟩ := ck_some h
      refine ialM E w (k := 3) (by decide) c8 d_Cmd_keep_53 ?_
      obtain ⟨c9, h⟩ := ck_some h
      obtain ⟨σ10, e_σ10, h⟩ := lt_some h
      refine iasM E w (k := 4) (by decide) c9 e_σ10 d_Cmd_keep_54 (fun H locs w => ?_)
      obtain ⟨y11, e_y11, h⟩ := lt_some h
      refine lv_iinc (v := y11) (lv' := [(3, .int y11), (0, .ref (ad 60)), (2, .int v2)]) E.x E.b d_Cmd_keep_55 hl (k := 2) rfl (e_y11) (by decide) rfl (fun ls hl => ?_)
      refine lv_goto (tgt := 33) E.x E.b d_Cmd_keep_58 (by decide) ?_
      exact hr_33 σ10 v2 y11 _ _ _ h w (lv_sub hl [1, 2, 0] rfl)
def F_Cmd_keep_27 (σ : Sg) (s0 : Int32) (s1 : Int32) : Option (Sg) := bd (F_Cmd_rowOf s0 s1) (fun o12 => L_Cmd_keep_33 100000 σ o12 0)
set_option maxRecDepth 10000 in
set_option maxHeartbeats 4000000 in
theorem bt_Cmd_keep_27 {p : Program} {l : Launch} {e : Env} {R : Room} {s : State} {m : MethodId} {args : Array Value} {below : List Frame} {meth : Method} {c : Code} {D : va_G} {τ : ClassId × ClassId × ClassId} {B : Nat} {A : Nat → Prop} {ad : Nat → Nat} (E : Cx p R s m args meth c prog_15_method_28_code 4 "DrawingMachineModel$DrawCommandsModel" 2 D τ B A) (hret : meth.sig.returnType = none) (o : Sg) (σ : Sg) (s0 : Int32) (s1 : Int32) (h : F_Cmd_keep_27 σ s0 s1 = some o) {H : Heap} {locs : List Loc} {ls : Array Slot} (w : Wd s D A (wdM τ σ ad) H locs) (hl : lv_has ls 4 [(0, .ref (ad 60))]) : W p l e R s m args below meth c H locs 0 0 (QV below args s A D τ (wdM τ o ad)) (F0 m 27 ls [.int s1, .int s0]) := by
  obtain ⟨o12, h_o12, h⟩ := bd_some h
  refine clS_Cmd_rowOf E w (x0 := s0) (x1 := s1) h_o12 k1436 (by decide) hl.1 (Nat.le_of_ble_eq_true rfl) d_Cmd_keep_27 (fun H locs w => ?_)
  refine lv_istore_n (lv' := [(2, .int o12), (0, .ref (ad 60))]) E.x E.b d_Cmd_keep_30 rfl hl (by decide) rfl (fun ls hl => ?_)
  refine lv_iconst (v := 0) E.x E.b d_Cmd_keep_31 (by decide) ?_
  refine lv_istore_n (lv' := [(3, .int 0), (2, .int o12), (0, .ref (ad 60))]) E.x E.b d_Cmd_keep_32 rfl hl (by decide) rfl (fun ls hl => ?_)
  exact lt_Cmd_keep_33 E hret o 100000 σ o12 0 _ _ _ h w (lv_sub hl [2, 1, 0] rfl)
def F_Cmd_keep (σ : Sg) (x0 : Int32) : Option (Sg) := bd (F_Cmd_many x0) (fun o13 => if o13 = (0 : Int32) then (some σ) else (bd (F_Cmd_many x0) (fun o14 => if o14 ≤ (1 : Int32) then (F_Cmd_keep_27 σ x0 0) else (F_Cmd_keep_27 σ x0 (σ.2.2.1 3 0)))))
set_option maxRecDepth 10000 in
set_option maxHeartbeats 4000000 in
theorem c_Cmd_keep (l : Launch) (D : va_G) (τ : ClassId × ClassId × ClassId) (B : Nat) (σ : Sg) (ad : Nat → Nat) (x0 : Int32) (o : Sg) (h : F_Cmd_keep σ x0 = some o) : MV l y_Cmd_keep (Cond.code y_Cmd_keep prog_15_method_28_code 4 none) 2 D τ B [.ref (ad 60), .int x0] (wdM τ σ ad) (wdM τ o ad) := by
  refine en_v (by decide) (Nat.le_of_ble_eq_true rfl) ?_
  intro p e R s m args below meth c H locs ls A E hret w hl
  have E : Cx p R s m args meth c prog_15_method_28_code 4 "DrawingMachineModel$DrawCommandsModel" 2 D τ B A := E
  have hl : lv_has ls 4 [(0, .ref (ad 60)), (1, .int x0)] := hl
  refine lv_iload_n E.x E.b d_Cmd_keep_0 rfl (lv_at hl 1 rfl) ?_
  obtain ⟨o13, h_o13, h⟩ := bd_some h
  refine clS_Cmd_many E w (x0 := x0) h_o13 k1433 (by decide) hl.1 (Nat.le_of_ble_eq_true rfl) d_Cmd_keep_1 (fun H locs w => ?_)
  refine lv_if_ne (tgt := 8) E.x E.b d_Cmd_keep_4 (by decide) (fun c => ?_) (fun c => ?_)
  ·
    replace h := ifF c h
    refine lv_iload_n E.x E.b d_Cmd_keep_8 rfl (lv_at hl 1 rfl) ?_
    refine lv_iload_n E.x E.b d_Cmd_keep_9 rfl (lv_at hl 1 rfl) ?_
    obtain ⟨o14, h_o14, h⟩ := bd_some h
    refine clS_Cmd_many E w (x0 := x0) h_o14 k1433 (by decide) hl.1 (Nat.le_of_ble_eq_true rfl) d_Cmd_keep_10 (fun H locs w => ?_)
    refine lv_iconst (v := 1) E.x E.b d_Cmd_keep_13 (by decide) ?_
    refine lv_icmp_le (tgt := 26) E.x E.b d_Cmd_keep_14 (by decide) (fun c => ?_) (fun c => ?_)
    ·
      replace h := ifT c h
      refine lv_iconst (v := 0) E.x E.b d_Cmd_keep_26 (by decide) ?_
      exact bt_Cmd_keep_27 E hret o σ x0 0 h w (lv_sub hl [0] rfl)
    ·
      replace h := ifF c h
      refine lv_aload_n E.x E.b d_Cmd_keep_17 rfl (lv_at hl 0 rfl) ?_
      refine gM_Cmd_argument E w k1466 d_Cmd_keep_18 ?_
      refine lv_iconst (v := 0) E.x E.b d_Cmd_keep_21 (by decide) ?_
      refine ialM E w (k := 3) (by decide) (show inb 0 300 by decide) d_Cmd_keep_22 ?_
      refine wi_e (v := σ.2.2.1 3 0) rfl ?_
      refine lv_goto (tgt := 27) E.x E.b d_Cmd_keep_23 (by decide) ?_
      exact bt_Cmd_keep_27 E hret o σ x0 (σ.2.2.1 3 0) h w (lv_sub hl [0] rfl)
  ·
    replace h := ifT c h
    obtain rfl := Option.some.inj h
    exact rt_v E w hret d_Cmd_keep_7
theorem clV_Cmd_keep {p : Program} {l : Launch} {e : Env} {R : Room} {s : State} {m : MethodId} {args : Array Value} {below : List Frame} {meth : Method} {c : Code} {H : Heap} {locs : List Loc} {Q : State → Prop} {cc : ByteArray} {nL pc lev : Nat} {own : String} {D : va_G} {τ : ClassId × ClassId × ClassId} {B : Nat} {A : Nat → Prop} {σ : Sg} {ad : Nat → Nat} {ls : Array Slot} {rest : List Value} (E : Cx p R s m args meth c cc nL own lev D τ B A) (w : Wd s D A (wdM τ σ ad) H locs) {x0 : Int32} {o : Sg} (h : F_Cmd_keep σ x0 = some o) {index : Nat} (hlk : Cond.methodLink own index y_Cmd_keep ∈ tw) (hlev : 2 < lev) (hsz : ls.size = nL) (hr : (rest.map fun v => v.category).sum ≤ 8) (hd : decode cc pc = .ok (.invokevirtual index, 3)) (kk : ∀ (H1 : Heap) (locs1 : List Loc), Wd s D A (wdM τ o ad) H1 locs1 → W p l e R s m args below meth c H1 locs1 0 0 Q (F0 m (pc + 3) ls (rest))) : W p l e R s m args below meth c H locs 0 0 Q (F0 m pc ls (.int x0 :: .ref (ad 60) :: rest)) :=
  cr_v w E.C (va_runV (As := [.int x0]) (rest := rest) E.fix (c_Cmd_keep l D τ B σ ad x0 o h H.size) (cwV 1 E.w (tw_pre (tw_good k1988) (l := [_, _, _, _]) (List.forall_mem_cons.mpr ⟨hlk, List.forall_mem_cons.mpr ⟨k1987, List.forall_mem_cons.mpr ⟨ks58, List.forall_mem_cons.mpr ⟨k15, fun _ h => absurd h List.not_mem_nil⟩⟩⟩⟩)) rfl rfl rfl (by decide +kernel) (E.rm hlev (by decide))) (wd_preV w E.C [.int x0] rcM_Cmd rfl) rfl rfl hsz rfl (lv_room hr) hd ⟨Nat.zero_le _, Nat.zero_le _⟩) kk

theorem d_Cmd_perform_0 : decode prog_15_method_27_code 0 = .ok (.iload_n 1, 1) := by decide +kernel
theorem d_Cmd_perform_1 : decode prog_15_method_27_code 1 = .ok (.lookupswitch 266 #[(0, 51), (6, 205), (19, 136), (21, 163), (23, 100)], 51) := by decide +kernel
theorem d_Cmd_perform_52 : decode prog_15_method_27_code 52 = .ok (.aload_n 0, 1) := by decide +kernel
theorem d_Cmd_perform_53 : decode prog_15_method_27_code 53 = .ok (.aload_n 0, 1) := by decide +kernel
theorem d_Cmd_perform_54 : decode prog_15_method_27_code 54 = .ok (.getfield 130, 3) := by decide +kernel
theorem d_Cmd_perform_57 : decode prog_15_method_27_code 57 = .ok (.ifCond .ne 7, 3) := by decide +kernel
theorem d_Cmd_perform_60 : decode prog_15_method_27_code 60 = .ok (.iconst 1, 1) := by decide +kernel
theorem d_Cmd_perform_61 : decode prog_15_method_27_code 61 = .ok (.goto 4, 3) := by decide +kernel
theorem d_Cmd_perform_64 : decode prog_15_method_27_code 64 = .ok (.iconst 0, 1) := by decide +kernel
theorem d_Cmd_perform_65 : decode prog_15_method_27_code 65 = .ok (.putfield 133, 3) := by decide +kernel
theorem d_Cmd_perform_68 : decode prog_15_method_27_code 68 = .ok (.aload_n 0, 1) := by decide +kernel
theorem d_Cmd_perform_69 : decode prog_15_method_27_code 69 = .ok (.getfield 130, 3) := by decide +kernel
theorem d_Cmd_perform_72 : decode prog_15_method_27_code 72 = .ok (.ifCond .le 200, 3) := by decide +kernel
theorem d_Cmd_perform_75 : decode prog_15_method_27_code 75 = .ok (.aload_n 0, 1) := by decide +kernel
theorem d_Cmd_perform_76 : decode prog_15_method_27_code 76 = .ok (.dup, 1) := by decide +kernel
theorem d_Cmd_perform_77 : decode prog_15_method_27_code 77 = .ok (.getfield 130, 3) := by decide +kernel
theorem d_Cmd_perform_80 : decode prog_15_method_27_code 80 = .ok (.iconst 1, 1) := by decide +kernel
theorem d_Cmd_perform_81 : decode prog_15_method_27_code 81 = .ok (.isub, 1) := by decide +kernel
theorem d_Cmd_perform_82 : decode prog_15_method_27_code 82 = .ok (.putfield 130, 3) := by decide +kernel
theorem d_Cmd_perform_85 : decode prog_15_method_27_code 85 = .ok (.aload_n 0, 1) := by decide +kernel
theorem d_Cmd_perform_86 : decode prog_15_method_27_code 86 = .ok (.aload_n 0, 1) := by decide +kernel
theorem d_Cmd_perform_87 : decode prog_15_method_27_code 87 = .ok (.getfield 23, 3) := by decide +kernel
theorem d_Cmd_perform_90 : decode prog_15_method_27_code 90 = .ok (.aload_n 0, 1) := by decide +kernel
theorem d_Cmd_perform_91 : decode prog_15_method_27_code 91 = .ok (.getfield 130, 3) := by decide +kernel
theorem d_Cmd_perform_94 : decode prog_15_method_27_code 94 = .ok (.iaload, 1) := by decide +kernel
theorem d_Cmd_perform_95 : decode prog_15_method_27_code 95 = .ok (.putfield 127, 3) := by decide +kernel
theorem d_Cmd_perform_98 : decode prog_15_method_27_code 98 = .ok (.goto 174, 3) := by decide +kernel
theorem d_Cmd_perform_101 : decode prog_15_method_27_code 101 = .ok (.aload_n 0, 1) := by decide +kernel
theorem d_Cmd_perform_102 : decode prog_15_method_27_code 102 = .ok (.getfield 23, 3) := by decide +kernel
theorem d_Cmd_perform_105 : decode prog_15_method_27_code 105 = .ok (.aload_n 0, 1) := by decide +kernel
theorem d_Cmd_perform_106 : decode prog_15_method_27_code 106 = .ok (.getfield 130, 3) := by decide +kernel
theorem d_Cmd_perform_109 : decode prog_15_method_27_code 109 = .ok (.aload_n 0, 1) := by decide +kernel
theorem d_Cmd_perform_110 : decode prog_15_method_27_code 110 = .ok (.getfield 127, 3) := by decide +kernel
theorem d_Cmd_perform_113 : decode prog_15_method_27_code 113 = .ok (.iastore, 1) := by decide +kernel
theorem d_Cmd_perform_114 : decode prog_15_method_27_code 114 = .ok (.aload_n 0, 1) := by decide +kernel
theorem d_Cmd_perform_115 : decode prog_15_method_27_code 115 = .ok (.dup, 1) := by decide +kernel
theorem d_Cmd_perform_116 : decode prog_15_method_27_code 116 = .ok (.getfield 130, 3) := by decide +kernel
theorem d_Cmd_perform_119 : decode prog_15_method_27_code 119 = .ok (.iconst 1, 1) := by decide +kernel
theorem d_Cmd_perform_120 : decode prog_15_method_27_code 120 = .ok (.iadd, 1) := by decide +kernel
theorem d_Cmd_perform_121 : decode prog_15_method_27_code 121 = .ok (.putfield 130, 3) := by decide +kernel
theorem d_Cmd_perform_124 : decode prog_15_method_27_code 124 = .ok (.aload_n 0, 1) := by decide +kernel
theorem d_Cmd_perform_125 : decode prog_15_method_27_code 125 = .ok (.aload_n 0, 1) := by decide +kernel
theorem d_Cmd_perform_126 : decode prog_15_method_27_code 126 = .ok (.getfield 35, 3) := by decide +kernel
theorem d_Cmd_perform_129 : decode prog_15_method_27_code 129 = .ok (.iconst 0, 1) := by decide +kernel
theorem d_Cmd_perform_130 : decode prog_15_method_27_code 130 = .ok (.iaload, 1) := by decide +kernel
theorem d_Cmd_perform_131 : decode prog_15_method_27_code 131 = .ok (.putfield 127, 3) := by decide +kernel
theorem d_Cmd_perform_134 : decode prog_15_method_27_code 134 = .ok (.goto 138, 3) := by decide +kernel
theorem d_Cmd_perform_137 : decode prog_15_method_27_code 137 = .ok (.aload_n 0, 1) := by decide +kernel
theorem d_Cmd_perform_138 : decode prog_15_method_27_code 138 = .ok (.aload_n 0, 1) := by decide +kernel
theorem d_Cmd_perform_139 : decode prog_15_method_27_code 139 = .ok (.getfield 35, 3) := by decide +kernel
theorem d_Cmd_perform_142 : decode prog_15_method_27_code 142 = .ok (.iconst 1, 1) := by decide +kernel
theorem d_Cmd_perform_143 : decode prog_15_method_27_code 143 = .ok (.iaload, 1) := by decide +kernel
theorem d_Cmd_perform_144 : decode prog_15_method_27_code 144 = .ok (.iconst 1, 1) := by decide +kernel
theorem d_Cmd_perform_145 : decode prog_15_method_27_code 145 = .ok (.if_icmp .ne 12, 3) := by decide +kernel
theorem d_Cmd_perform_148 : decode prog_15_method_27_code 148 = .ok (.aload_n 0, 1) := by decide +kernel
theorem d_Cmd_perform_149 : decode prog_15_method_27_code 149 = .ok (.getfield 35, 3) := by decide +kernel
theorem d_Cmd_perform_152 : decode prog_15_method_27_code 152 = .ok (.iconst 0, 1) := by decide +kernel
theorem d_Cmd_perform_153 : decode prog_15_method_27_code 153 = .ok (.iaload, 1) := by decide +kernel
theorem d_Cmd_perform_154 : decode prog_15_method_27_code 154 = .ok (.goto 4, 3) := by decide +kernel
theorem d_Cmd_perform_157 : decode prog_15_method_27_code 157 = .ok (.iconst (-1), 1) := by decide +kernel
theorem d_Cmd_perform_158 : decode prog_15_method_27_code 158 = .ok (.putfield 32, 3) := by decide +kernel
theorem d_Cmd_perform_161 : decode prog_15_method_27_code 161 = .ok (.goto 111, 3) := by decide +kernel
theorem d_Cmd_perform_164 : decode prog_15_method_27_code 164 = .ok (.iconst 0, 1) := by decide +kernel
theorem d_Cmd_perform_165 : decode prog_15_method_27_code 165 = .ok (.istore_n 2, 1) := by decide +kernel
theorem d_Cmd_perform_166 : decode prog_15_method_27_code 166 = .ok (.iload_n 2, 1) := by decide +kernel
theorem d_Cmd_perform_167 : decode prog_15_method_27_code 167 = .ok (.aload_n 0, 1) := by decide +kernel
theorem d_Cmd_perform_168 : decode prog_15_method_27_code 168 = .ok (.getfield 35, 3) := by decide +kernel
theorem d_Cmd_perform_171 : decode prog_15_method_27_code 171 = .ok (.iconst 1, 1) := by decide +kernel
theorem d_Cmd_perform_172 : decode prog_15_method_27_code 172 = .ok (.iaload, 1) := by decide +kernel
theorem d_Cmd_perform_173 : decode prog_15_method_27_code 173 = .ok (.if_icmp .ge 30, 3) := by decide +kernel
theorem d_Cmd_perform_176 : decode prog_15_method_27_code 176 = .ok (.aload_n 0, 1) := by decide +kernel
theorem d_Cmd_perform_177 : decode prog_15_method_27_code 177 = .ok (.getfield 7, 3) := by decide +kernel
theorem d_Cmd_perform_180 : decode prog_15_method_27_code 180 = .ok (.aload_n 0, 1) := by decide +kernel
theorem d_Cmd_perform_181 : decode prog_15_method_27_code 181 = .ok (.getfield 35, 3) := by decide +kernel
theorem d_Cmd_perform_184 : decode prog_15_method_27_code 184 = .ok (.iconst 0, 1) := by decide +kernel
theorem d_Cmd_perform_185 : decode prog_15_method_27_code 185 = .ok (.iaload, 1) := by decide +kernel
theorem d_Cmd_perform_186 : decode prog_15_method_27_code 186 = .ok (.iload_n 2, 1) := by decide +kernel
theorem d_Cmd_perform_187 : decode prog_15_method_27_code 187 = .ok (.iadd, 1) := by decide +kernel
theorem d_Cmd_perform_188 : decode prog_15_method_27_code 188 = .ok (.aload_n 0, 1) := by decide +kernel
theorem d_Cmd_perform_189 : decode prog_15_method_27_code 189 = .ok (.getfield 35, 3) := by decide +kernel
theorem d_Cmd_perform_192 : decode prog_15_method_27_code 192 = .ok (.iconst 2, 1) := by decide +kernel
theorem d_Cmd_perform_193 : decode prog_15_method_27_code 193 = .ok (.iload_n 2, 1) := by decide +kernel
theorem d_Cmd_perform_194 : decode prog_15_method_27_code 194 = .ok (.iadd, 1) := by decide +kernel
theorem d_Cmd_perform_195 : decode prog_15_method_27_code 195 = .ok (.iaload, 1) := by decide +kernel
theorem d_Cmd_perform_196 : decode prog_15_method_27_code 196 = .ok (.iastore, 1) := by decide +kernel
theorem d_Cmd_perform_197 : decode prog_15_method_27_code 197 = .ok (.iinc 2 1, 3) := by decide +kernel
theorem d_Cmd_perform_200 : decode prog_15_method_27_code 200 = .ok (.goto (-34), 3) := by decide +kernel
theorem d_Cmd_perform_203 : decode prog_15_method_27_code 203 = .ok (.goto 69, 3) := by decide +kernel
theorem d_Cmd_perform_206 : decode prog_15_method_27_code 206 = .ok (.iconst 0, 1) := by decide +kernel
theorem d_Cmd_perform_207 : decode prog_15_method_27_code 207 = .ok (.istore_n 2, 1) := by decide +kernel
theorem d_Cmd_perform_208 : decode prog_15_method_27_code 208 = .ok (.iload_n 2, 1) := by decide +kernel
theorem d_Cmd_perform_209 : decode prog_15_method_27_code 209 = .ok (.iconst 4, 1) := by decide +kernel
theorem d_Cmd_perform_210 : decode prog_15_method_27_code 210 = .ok (.aload_n 0, 1) := by decide +kernel
theorem d_Cmd_perform_211 : decode prog_15_method_27_code 211 = .ok (.getfield 35, 3) := by decide +kernel
theorem d_Cmd_perform_214 : decode prog_15_method_27_code 214 = .ok (.iconst 1, 1) := by decide +kernel
theorem d_Cmd_perform_215 : decode prog_15_method_27_code 215 = .ok (.iaload, 1) := by decide +kernel
theorem d_Cmd_perform_216 : decode prog_15_method_27_code 216 = .ok (.imul, 1) := by decide +kernel
theorem d_Cmd_perform_217 : decode prog_15_method_27_code 217 = .ok (.if_icmp .ge 47, 3) := by decide +kernel
theorem d_Cmd_perform_220 : decode prog_15_method_27_code 220 = .ok (.aload_n 0, 1) := by decide +kernel
theorem d_Cmd_perform_221 : decode prog_15_method_27_code 221 = .ok (.getfield 38, 3) := by decide +kernel
theorem d_Cmd_perform_224 : decode prog_15_method_27_code 224 = .ok (.iconst 5, 1) := by decide +kernel
theorem d_Cmd_perform_225 : decode prog_15_method_27_code 225 = .ok (.aload_n 0, 1) := by decide +kernel
theorem d_Cmd_perform_226 : decode prog_15_method_27_code 226 = .ok (.getfield 35, 3) := by decide +kernel
theorem d_Cmd_perform_229 : decode prog_15_method_27_code 229 = .ok (.iconst 0, 1) := by decide +kernel
theorem d_Cmd_perform_230 : decode prog_15_method_27_code 230 = .ok (.iaload, 1) := by decide +kernel
theorem d_Cmd_perform_231 : decode prog_15_method_27_code 231 = .ok (.iload_n 2, 1) := by decide +kernel
theorem d_Cmd_perform_232 : decode prog_15_method_27_code 232 = .ok (.iconst 4, 1) := by decide +kernel
theorem d_Cmd_perform_233 : decode prog_15_method_27_code 233 = .ok (.idiv, 1) := by decide +kernel
theorem d_Cmd_perform_234 : decode prog_15_method_27_code 234 = .ok (.iadd, 1) := by decide +kernel
theorem d_Cmd_perform_235 : decode prog_15_method_27_code 235 = .ok (.invokestatic 113, 3) := by decide +kernel
theorem d_Cmd_perform_238 : decode prog_15_method_27_code 238 = .ok (.iconst 1, 1) := by decide +kernel
theorem d_Cmd_perform_239 : decode prog_15_method_27_code 239 = .ok (.iadd, 1) := by decide +kernel
theorem d_Cmd_perform_240 : decode prog_15_method_27_code 240 = .ok (.iload_n 2, 1) := by decide +kernel
theorem d_Cmd_perform_241 : decode prog_15_method_27_code 241 = .ok (.iconst 4, 1) := by decide +kernel
theorem d_Cmd_perform_242 : decode prog_15_method_27_code 242 = .ok (.irem, 1) := by decide +kernel
theorem d_Cmd_perform_243 : decode prog_15_method_27_code 243 = .ok (.iadd, 1) := by decide +kernel
theorem d_Cmd_perform_244 : decode prog_15_method_27_code 244 = .ok (.aload_n 0, 1) := by decide +kernel
theorem d_Cmd_perform_245 : decode prog_15_method_27_code 245 = .ok (.getfield 7, 3) := by decide +kernel
theorem d_Cmd_perform_248 : decode prog_15_method_27_code 248 = .ok (.aload_n 0, 1) := by decide +kernel
theorem d_Cmd_perform_249 : decode prog_15_method_27_code 249 = .ok (.getfield 35, 3) := by decide +kernel
theorem d_Cmd_perform_252 : decode prog_15_method_27_code 252 = .ok (.iconst 2, 1) := by decide +kernel
theorem d_Cmd_perform_253 : decode prog_15_method_27_code 253 = .ok (.iaload, 1) := by decide +kernel
theorem d_Cmd_perform_254 : decode prog_15_method_27_code 254 = .ok (.iload_n 2, 1) := by decide +kernel
theorem d_Cmd_perform_255 : decode prog_15_method_27_code 255 = .ok (.iadd, 1) := by decide +kernel
theorem d_Cmd_perform_256 : decode prog_15_method_27_code 256 = .ok (.iaload, 1) := by decide +kernel
theorem d_Cmd_perform_257 : decode prog_15_method_27_code 257 = .ok (.iastore, 1) := by decide +kernel
theorem d_Cmd_perform_258 : decode prog_15_method_27_code 258 = .ok (.iinc 2 1, 3) := by decide +kernel
theorem d_Cmd_perform_261 : decode prog_15_method_27_code 261 = .ok (.goto (-53), 3) := by decide +kernel
theorem d_Cmd_perform_264 : decode prog_15_method_27_code 264 = .ok (.goto 8, 3) := by decide +kernel
theorem d_Cmd_perform_267 : decode prog_15_method_27_code 267 = .ok (.aload_n 0, 1) := by decide +kernel
theorem d_Cmd_perform_268 : decode prog_15_method_27_code 268 = .ok (.iload_n 1, 1) := by decide +kernel
theorem d_Cmd_perform_269 : decode prog_15_method_27_code 269 = .ok (.invokevirtual 183, 3) := by decide +kernel
theorem d_Cmd_perform_272 : decode prog_15_method_27_code 272 = .ok (.return_, 1) := by decide +kernel
def F_Cmd_perform_272 (σ : Sg) : Option (Sg) := some σ
set_option maxRecDepth 10000 in
set_option maxHeartbeats 4000000 in
theorem bt_Cmd_perform_272 {p : Program} {l : Launch} {e : Env} {R : Room} {s : State} {m : MethodId} {args : Array Value} {below : List Frame} {meth : Method} {c : Code} {D : va_G} {τ : ClassId × ClassId × ClassId} {B : Nat} {A : Nat → Prop} {ad : Nat → Nat} (E : Cx p R s m args meth c prog_15_method_27_code 3 "DrawingMachineModel$DrawCommandsModel" 3 D τ B A) (hret : meth.sig.returnType = none) (o : Sg) (σ : Sg) (h : F_Cmd_perform_272 σ = some o) {H : Heap} {locs : List Loc} {ls : Array Slot} (w : Wd s D A (wdM τ σ ad) H locs) (hl : lv_has ls 3 []) : W p l e R s m args below meth c H locs 0 0 (QV below args s A D τ (wdM τ o ad)) (F0 m 272 ls []) := by
  obtain rfl := Option.some.inj h
  exact rt_v E w hret d_Cmd_perform_272
def L_Cmd_perform_208 : Nat → Sg → Int32 → Option (Sg)
  | 0, _, _ => none
  | n + 1, σ, v2 => if (4 * (σ.2.2.1 3 1)) ≤ v2 then (F_Cmd_perform_272 σ) else (bd (F_Cmd_rowOf 5 ((σ.2.2.1 3 0) + (v2 / 4))) (fun o26 => ck (inb ((σ.2.2.1 3 2) + v2) 4096) (ck (inb ((o26 + 1) + (irem v2 4)) 4160) (lt (sA σ 4 (upd (σ.2.2.1 4) ((o26 + 1) + (irem v2 4)).toNatClampNeg (σ.2.2.1 0 ((σ.2.2.1 3 2) + v2).toNatClampNeg))) (fun σ29 => lt (v2 + 1) (fun y30 => L_Cmd_perform_208 n σ29 y30))))))
set_option maxRecDepth 10000 in
set_option maxHeartbeats 4000000 in
theorem lt_Cmd_perform_208 {p : Program} {l : Launch} {e : Env} {R : Room} {s : State} {m : MethodId} {args : Array Value} {below : List Frame} {meth : Method} {c : Code} {D : va_G} {τ : ClassId × ClassId × ClassId} {B : Nat} {A : Nat → Prop} {ad : Nat → Nat} (E : Cx p R s m args meth c prog_15_method_27_code 3 "DrawingMachineModel$DrawCommandsModel" 3 D τ B A) (hret : meth.sig.returnType = none) (o : Sg) : ∀ (n : Nat) (σ : Sg) (v2 : Int32) (H : Heap) (locs : List Loc) (ls : Array Slot), L_Cmd_perform_208 n σ v2 = some o → Wd s D A (wdM τ σ ad) H locs → lv_has ls 3 [(0, .ref (ad 60)), (2, .int v2)] → W p l e R s m args below meth c H locs 0 0 (QV below args s A D τ (wdM τ o ad)) (F0 m 208 ls []) := by
  intro n
  induction n with
  | zero =>
    intro σ v2 H locs ls h w hl
    cases h
  | succ n hr_208 =>
    intro σ v2 H locs ls h w hl
    refine lv_iload_n E.x E.b d_Cmd_perform_208 rfl (lv_at hl 1 rfl) ?_
    refine lv_iconst (v := 4) E.x E.b d_Cmd_perform_209 (by decide) ?_
    refine lv_aload_n E.x E.b d_Cmd_perform_210 rfl (lv_at hl 0 rfl) ?_
    refine gM_Cmd_argument E w k1466 d_Cmd_perform_211 ?_
    refine lv_iconst (v := 1) E.x E.b d_Cmd_perform_214 (by decide) ?_
    refine ialM E w (k := 3) (by decide) (show inb 1 300 by decide) d_Cmd_perform_215 ?_
    refine wi_e (v := σ.2.2.1 3 1) rfl ?_
    refine lv_imul E.x E.b d_Cmd_perform_216 ?_
    refine lv_icmp_ge (tgt := 264) E.x E.b d_Cmd_perform_217 (by decide) (fun c => ?_) (fun c => ?_)
    ·
      replace h := ifT c h
      refine lv_goto (tgt := 272) E.x E.b d_Cmd_perform_264 (by decide) ?_
      exact bt_Cmd_perform_272 E hret o σ h w (lv_sub hl [] rfl)
    ·
      replace h := ifF c h
      refine lv_aload_n E.x E.b d_Cmd_perform_220 rfl (lv_at hl 0 rfl) ?_
      refine gM_Cmd_kept E w k1468 d_Cmd_perform_221 ?_
      refine lv_iconst (v := 5) E.x E.b d_Cmd_perform_224 (by decide) ?_
      refine lv_aload_n E.x E.b d_Cmd_perform_225 rfl (lv_at hl 0 rfl) ?_
      refine gM_Cmd_argument E w k1466 d_Cmd_perform_226 ?_
      refine lv_iconst (v := 0) E.x E.b d_Cmd_perform_229 (by decide) ?_
      refine ialM E w (k := 3) (by decide) (show inb 0 300 by decide) d_Cmd_perform_230 ?_
      refine wi_e (v := σ.2.2.1 3 0) rfl ?_
      refine lv_iload_n E.x E.b d_Cmd_perform_231 rfl (lv_at hl 1 rfl) ?_
      refine lv_iconst (v := 4) E.x E.b d_Cmd_perform_232 (by decide) ?_
      refine lv_idiv E.x E.b d_Cmd_perform_233 (by decide) ?_
      refine lv_iadd E.x E.b d_Cmd_perform_234 ?_
      obtain ⟨o26, h_o26, h⟩ := bd_some h
      refine clS_Cmd_rowOf E w (x0 := 5) (x1 := ((σ.2.2.1 3 0) + (v2 / 4))) h_o26 k1436 (by decide) hl.1 (Nat.le_of_ble_eq_true rfl) d_Cmd_perform_235 (fun H locs w => ?_)
      refine lv_iconst (v := 1) E.x E.b d_Cmd_perform_238 (by decide) ?_
      refine lv_iadd E.x E.b d_Cmd_perform_239 ?_
      refine lv_iload_n E.x E.b d_Cmd_perform_240 rfl (lv_at hl 1 rfl) ?_
      refine lv_iconst (v := 4) E.x E.b d_Cmd_perform_241 (by decide) ?_
      refine lv_irem E.x E.b d_Cmd_perform_242 (by decide) ?_
      refine wi_e (v := irem v2 4) rfl ?_
      refine lv_iadd E.x E.b d_Cmd_perform_243 ?_
      refine lv_aload_n E.x E.b d_Cmd_perform_244 rfl (lv_at hl 0 rfl) ?_
      refine gM_Cmd_memory E w k1444 d_Cmd_perform_245 ?_
      refine lv_aload_n E.x E.b d_Cmd_perform_248 rfl (lv_at hl 0 rfl) ?_
      refine gM_Cmd_argument E w k1466 d_Cmd_perform_249 ?_
      refine lv_iconst (v := 2) E.x E.b d_Cmd_perform_252 (by decide) ?_
      refine ialM E w (k := 3) (by decide) (show inb 2 300 by decide) d_Cmd_perform_253 ?_
      refine wi_e (v := σ.2.2.1 3 2) rfl ?_
      refine lv_iload_n E.x E.b d_Cmd_perform_254 rfl (lv_at hl 1 rfl) ?_
      refine lv_iadd E.x E.b d_Cmd_perform_255 ?_
      obtain ⟨c27, h⟩ := ck_some h
      refine ialM E w (k := 0) (by decide) c27 d_Cmd_perform_256 ?_
      obtain ⟨c28, h⟩ := ck_some h
      obtain ⟨σ29, e_σ29, h⟩ := lt_some h
      refine iasM E w (k := 4) (by decide) c28 e_σ29 d_Cmd_perform_257 (fun H locs w => ?_)
      obtain ⟨y30, e_y30, h⟩ := lt_some h
      refine lv_iinc (v := y30) (lv' := [(2, .int y30), (0, .ref (ad 60))]) E.x E.b d_Cmd_perform_258 hl (k := 1) rfl (e_y30) (by decide) rfl (fun ls hl => ?_)
      refine lv_goto (tgt := 208) E.x E.b d_Cmd_perform_261 (by decide) ?_
      exact hr_208 σ29 y30 _ _ _ h w (lv_sub hl [1, 0] rfl)
def L_Cmd_perform_166 : Nat → Sg → Int32 → Option (Sg)
  | 0, _, _ => none
  | n + 1, σ, v2 => if (σ.2.2.1 3 1) ≤ v2 then (F_Cmd_perform_272 σ) else (ck (inb (2 + v2) 300) (ck (inb ((σ.2.2.1 3 0) + v2) 4096) (lt (sA σ 0 (upd (σ.2.2.1 0) ((σ.2.2.1 3 0) + v2).toNatClampNeg (σ.2.2.1 3 (2 + v2).toNatClampNeg))) (fun σ33 => lt (v2 + 1) (fun y34 => L_Cmd_perform_166 n σ33 y34)))))
set_option maxRecDepth 10000 in
set_option maxHeartbeats 4000000 in
theorem lt_Cmd_perform_166 {p : Program} {l : Launch} {e : Env} {R : Room} {s : State} {m : MethodId} {args : Array Value} {below : List Frame} {meth : Method} {c : Code} {D : va_G} {τ : ClassId × ClassId × ClassId} {B : Nat} {A : Nat → Prop} {ad : Nat → Nat} (E : Cx p R s m args meth c prog_15_method_27_code 3 "DrawingMachineModel$DrawCommandsModel" 3 D τ B A) (hret : meth.sig.returnType = none) (o : Sg) : ∀ (n : Nat) (σ : Sg) (v2 : Int32) (H : Heap) (locs : List Loc) (ls : Array Slot), L_Cmd_perform_166 n σ v2 = some o → Wd s D A (wdM τ σ ad) H locs → lv_has ls 3 [(0, .ref (ad 60)), (2, .int v2)] → W p l e R s m args below meth c H locs 0 0 (QV below args s A D τ (wdM τ o ad)) (F0 m 166 ls []) := by
  intro n
  induction n with
  | zero =>
    intro σ v2 H locs ls h w hl
    cases h
  | succ n hr_166 =>
    intro σ v2 H locs ls h w hl
    refine lv_iload_n E.x E.b d_Cmd_perform_166 rfl (lv_at hl 1 rfl) ?_
    refine lv_aload_n E.x E.b d_Cmd_perform_167 rfl (lv_at hl 0 rfl) ?_
    refine gM_Cmd_argument E w k1466 d_Cmd_perform_168 ?_
    refine lv_iconst (v := 1) E.x E.b d_Cmd_perform_171 (by decide) ?_
    refine ialM E w (k := 3) (by decide) (show inb 1 300 by decide) d_Cmd_perform_172 ?_
    refine wi_e (v := σ.2.2.1 3 1) rfl ?_
    refine lv_icmp_ge (tgt := 203) E.x E.b d_Cmd_perform_173 (by decide) (fun c => ?_) (fun c => ?_)
    ·
      replace h := ifT c h
      refine lv_goto (tgt := 272) E.x E.b d_Cmd_perform_203 (by decide) ?_
      exact bt_Cmd_perform_272 E hret o σ h w (lv_sub hl [] rfl)
    ·
      replace h := ifF c h
      refine lv_aload_n E.x E.b d_Cmd_perform_176 rfl (lv_at hl 0 rfl) ?_
      refine gM_Cmd_memory E w k1444 d_Cmd_perform_177 ?_
      refine lv_aload_n E.x E.b d_Cmd_perform_180 rfl (lv_at hl 0 rfl) ?_
      refine gM_Cmd_argument E w k1466 d_Cmd_perform_181 ?_
      refine lv_iconst (v := 0) E.x E.b d_Cmd_perform_184 (by decide) ?_
      refine ialM E w (k := 3) (by decide) (show inb 0 300 by decide) d_Cmd_perform_185 ?_
      refine wi_e (v := σ.2.2.1 3 0) rfl ?_
      refine lv_iload_n E.x E.b d_Cmd_perform_186 rfl (lv_at hl 1 rfl) ?_
      refine lv_iadd E.x E.b d_Cmd_perform_187 ?_
      refine lv_aload_n E.x E.b d_Cmd_perform_188 rfl (lv_at hl 0 rfl) ?_
      refine gM_Cmd_argument E w k1466 d_Cmd_perform_189 ?_
      refine lv_iconst (v := 2) E.x E.b d_Cmd_perform_192 (by decide) ?_
      refine lv_iload_n E.x E.b d_Cmd_perform_193 rfl (lv_at hl 1 rfl) ?_
      refine lv_iadd E.x E.b d_Cmd_perform_194 ?_
      obtain ⟨c31, h⟩ := ck_some h
      refine ialM E w (k := 3) (by decide) c31 d_Cmd_perform_195 ?_
      obtain ⟨c32, h⟩ := ck_some h
      obtain ⟨σ33, e_σ33, h⟩ := lt_some h
      refine iasM E w (k := 0) (by decide) c32 e_σ33 d_Cmd_perform_196 (fun H locs w => ?_)
      obtain ⟨y34, e_y34, h⟩ := lt_some h
      refine lv_iinc (v := y34) (lv' := [(2, .int y34), (0, .ref (ad 60))]) E.x E.b d_Cmd_perform_197 hl (k := 1) rfl (e_y34) (by decide) rfl (fun ls hl => ?_)
      refine lv_goto (tgt := 166) E.x E.b d_Cmd_perform_200 (by decide) ?_
      exact hr_166 σ33 y34 _ _ _ h w (lv_sub hl [1, 0] rfl)
def F_Cmd_perform_158 (σ : Sg) (s1 : Int32) : Option (Sg) := lt (sI σ 18 s1) (fun σ35 => F_Cmd_perform_272 σ35)
set_option maxRecDepth 10000 in
set_option maxHeartbeats 4000000 in
theorem bt_Cmd_perform_158 {p : Program} {l : Launch} {e : Env} {R : Room} {s : State} {m : MethodId} {args : Array Value} {below : List Frame} {meth : Method} {c : Code} {D : va_G} {τ : ClassId × ClassId × ClassId} {B : Nat} {A : Nat → Prop} {ad : Nat → Nat} (E : Cx p R s m args meth c prog_15_method_27_code 3 "DrawingMachineModel$DrawCommandsModel" 3 D τ B A) (hret : meth.sig.returnType = none) (o : Sg) (σ : Sg) (s1 : Int32) (h : F_Cmd_perform_158 σ s1 = some o) {H : Heap} {locs : List Loc} {ls : Array Slot} (w : Wd s D A (wdM τ σ ad) H locs) (hl : lv_has ls 3 []) : W p l e R s m args below meth c H locs 0 0 (QV below args s A D τ (wdM τ o ad)) (F0 m 158 ls [.int s1, .ref (ad 60)]) := by
  obtain ⟨σ35, e_σ35, h⟩ := lt_some h
  refine pM_Cmd_query E w k1462 e_σ35 d_Cmd_perform_158 (fun H locs w => ?_)
  refine lv_goto (tgt := 272) E.x E.b d_Cmd_perform_161 (by decide) ?_
  exact bt_Cmd_perform_272 E hret o σ35 h w (lv_sub hl [] rfl)
def F_Cmd_perform_65 (σ : Sg) (s1 : Int32) : Option (Sg) := ck (s1 = 0 ∨ s1 = 1) (lt (sI σ 13 s1) (fun σ37 => if (σ37.1 12) ≤ (0 : Int32) then (F_Cmd_perform_272 σ37) else (lt (sI σ37 12 ((σ37.1 12) - 1)) (fun σ38 => ck (inb (σ38.1 12) 4) (lt (sI σ38 11 (σ38.2.2.1 2 (σ38.1 12).toNatClampNeg)) (fun σ40 => F_Cmd_perform_272 σ40))))))
set_option maxRecDepth 10000 in
set_option maxHeartbeats 4000000 in
theorem bt_Cmd_perform_65 {p : Program} {l : Launch} {e : Env} {R : Room} {s : State} {m : MethodId} {args : Array Value} {below : List Frame} {meth : Method} {c : Code} {D : va_G} {τ : ClassId × ClassId × ClassId} {B : Nat} {A : Nat → Prop} {ad : Nat → Nat} (E : Cx p R s m args meth c prog_15_method_27_code 3 "DrawingMachineModel$DrawCommandsModel" 3 D τ B A) (hret : meth.sig.returnType = none) (o : Sg) (σ : Sg) (s1 : Int32) (h : F_Cmd_perform_65 σ s1 = some o) {H : Heap} {locs : List Loc} {ls : Array Slot} (w : Wd s D A (wdM τ σ ad) H locs) (hl : lv_has ls 3 [(0, .ref (ad 60))]) : W p l e R s m args below meth c H locs 0 0 (QV below args s A D τ (wdM τ o ad)) (F0 m 65 ls [.int s1, .ref (ad 60)]) := by
  obtain ⟨c36, h⟩ := ck_some h
  obtain ⟨σ37, e_σ37, h⟩ := lt_some h
  refine pM_Cmd_over E w k1455 c36 e_σ37 d_Cmd_perform_65 (fun H locs w => ?_)
  refine lv_aload_n E.x E.b d_Cmd_perform_68 rfl (lv_at hl 0 rfl) ?_
  refine gM_Cmd_depth E w k1452 d_Cmd_perform_69 ?_
  refine lv_if_le (tgt := 272) E.x E.b d_Cmd_perform_72 (by decide) (fun c => ?_) (fun c => ?_)
  ·
    replace h := ifT c h
    exact bt_Cmd_perform_272 E hret o σ37 h w (lv_sub hl [] rfl)
  ·
    replace h := ifF c h
    refine lv_aload_n E.x E.b d_Cmd_perform_75 rfl (lv_at hl 0 rfl) ?_
    refine lv_dup E.x E.b d_Cmd_perform_76 rfl ?_
    refine gM_Cmd_depth E w k1452 d_Cmd_perform_77 ?_
    refine lv_iconst (v := 1) E.x E.b d_Cmd_perform_80 (by decide) ?_
    refine lv_isub E.x E.b d_Cmd_perform_81 ?_
    obtain ⟨σ38, e_σ38, h⟩ := lt_some h
    refine pM_Cmd_depth E w k1452 e_σ38 d_Cmd_perform_82 (fun H locs w => ?_)
    refine lv_aload_n E.x E.b d_Cmd_perform_85 rfl (lv_at hl 0 rfl) ?_
    refine lv_aload_n E.x E.b d_Cmd_perform_86 rfl (lv_at hl 0 rfl) ?_
    refine gM_Cmd_back E w k1453 d_Cmd_perform_87 ?_
    refine lv_aload_n E.x E.b d_Cmd_perform_90 rfl (lv_at hl 0 rfl) ?_
    refine gM_Cmd_depth E w k1452 d_Cmd_perform_91 ?_
    obtain ⟨c39, h⟩ := ck_some h
    refine ialM E w (k := 2) (by decide) c39 d_Cmd_perform_94 ?_
    obtain ⟨σ40, e_σ40, h⟩ := lt_some h
    refine pM_Cmd_at E w k1451 e_σ40 d_Cmd_perform_95 (fun H locs w => ?_)
    refine lv_goto (tgt := 272) E.x E.b d_Cmd_perform_98 (by decide) ?_
    exact bt_Cmd_perform_272 E hret o σ40 h w (lv_sub hl [] rfl)
def F_Cmd_perform (σ : Sg) (x0 : Int32) : Option (Sg) := if x0 = 0 then (if (σ.1 12) = (0 : Int32) then (F_Cmd_perform_65 σ 1) else (F_Cmd_perform_65 σ 0)) else (if x0 = 6 then (L_Cmd_perform_208 100000 σ 0) else (if x0 = 19 then (if (σ.2.2.1 3 1) = (1 : Int32) then (F_Cmd_perform_158 σ (σ.2.2.1 3 0)) else (F_Cmd_perform_158 σ (-1))) else (if x0 = 21 then (L_Cmd_perform_166 100000 σ 0) else (if x0 = 23 then (ck (inb (σ.1 12) 4) (lt (sA σ 2 (upd (σ.2.2.1 2) (σ.1 12).toNatClampNeg (σ.1 11))) (fun σ47 => lt (sI σ47 12 ((σ47.1 12) + 1)) (fun σ48 => lt (sI σ48 11 (σ48.2.2.1 3 0)) (fun σ49 => F_Cmd_perform_272 σ49))))) else (bd (F_Cmd_keep σ x0) (fun o50 => F_Cmd_perform_272 o50))))))
set_option maxRecDepth 10000 in
set_option maxHeartbeats 4000000 in
theorem c_Cmd_perform (l : Launch) (D : va_G) (τ : ClassId × ClassId × ClassId) (B : Nat) (σ : Sg) (ad : Nat → Nat) (x0 : Int32) (o : Sg) (h : F_Cmd_perform σ x0 = some o) : MV l y_Cmd_perform (Cond.code y_Cmd_perform prog_15_method_27_code 3 none) 3 D τ B [.ref (ad 60), .int x0] (wdM τ σ ad) (wdM τ o ad) := by
  refine en_v (by decide) (Nat.le_of_ble_eq_true rfl) ?_
  intro p e R s m args below meth c H locs ls A E hret w hl
  have E : Cx p R s m args meth c prog_15_method_27_code 3 "DrawingMachineModel$DrawCommandsModel" 3 D τ B A := E
  have hl : lv_has ls 3 [(0, .ref (ad 60)), (1, .int x0)] := hl
  refine lv_iload_n E.x E.b d_Cmd_perform_0 rfl (lv_at hl 1 rfl) ?_
  by_cases q41 : x0 = 0
  ·
    replace h := ifT q41 h
    refine wi_e (v := 0) q41 ?_
    refine lv_lookup (off := 51) (tgt := 52) E.x E.b d_Cmd_perform_1 (by decide) (by decide) (by decide) ?_
    refine lv_aload_n E.x E.b d_Cmd_perform_52 rfl (lv_at hl 0 rfl) ?_
    refine lv_aload_n E.x E.b d_Cmd_perform_53 rfl (lv_at hl 0 rfl) ?_
    refine gM_Cmd_depth E w k1452 d_Cmd_perform_54 ?_
    refine lv_if_ne (tgt := 64) E.x E.b d_Cmd_perform_57 (by decide) (fun c => ?_) (fun c => ?_)
    ·
      replace h := ifF c h
      refine lv_iconst (v := 0) E.x E.b d_Cmd_perform_64 (by decide) ?_
      exact bt_Cmd_perform_65 E hret o σ 0 h w (lv_sub hl [0] rfl)
    ·
      replace h := ifT c h
      refine lv_iconst (v := 1) E.x E.b d_Cmd_perform_60 (by decide) ?_
      refine lv_goto (tgt := 65) E.x E.b d_Cmd_perform_61 (by decide) ?_
      exact bt_Cmd_perform_65 E hret o σ 1 h w (lv_sub hl [0] rfl)
  replace h := ifF q41 h
  replace q41 := ne_ti (k := 0) (by decide) q41
  by_cases q42 : x0 = 6
  ·
    replace h := ifT q42 h
    refine wi_e (v := 6) q42 ?_
    refine lv_lookup (off := 205) (tgt := 206) E.x E.b d_Cmd_perform_1 (by decide) (by decide) (by decide) ?_
    refine lv_iconst (v := 0) E.x E.b d_Cmd_perform_206 (by decide) ?_
    refine lv_istore_n (lv' := [(2, .int 0), (0, .ref (ad 60)), (1, .int x0)]) E.x E.b d_Cmd_perform_207 rfl hl (by decide) rfl (fun ls hl => ?_)
    exact lt_Cmd_perform_208 E hret o 100000 σ 0 _ _ _ h w (lv_sub hl [1, 0] rfl)
  replace h := ifF q42 h
  replace q42 := ne_ti (k := 6) (by decide) q42
  by_cases q43 : x0 = 19
  ·
    replace h := ifT q43 h
    refine wi_e (v := 19) q43 ?_
    refine lv_lookup (off := 136) (tgt := 137) E.x E.b d_Cmd_perform_1 (by decide) (by decide) (by decide) ?_
    refine lv_aload_n E.x E.b d_Cmd_perform_137 rfl (lv_at hl 0 rfl) ?_
    refine lv_aload_n E.x E.b d_Cmd_perform_138 rfl (lv_at hl 0 rfl) ?_
    refine gM_Cmd_argument E w k1466 d_Cmd_perform_139 ?_
    refine lv_iconst (v := 1) E.x E.b d_Cmd_perform_142 (by decide) ?_
    refine ialM E w (k := 3) (by decide) (show inb 1 300 by decide) d_Cmd_perform_143 ?_
    refine wi_e (v := σ.2.2.1 3 1) rfl ?_
    refine lv_iconst (v := 1) E.x E.b d_Cmd_perform_144 (by decide) ?_
    refine lv_icmp_ne (tgt := 157) E.x E.b d_Cmd_perform_145 (by decide) (fun c => ?_) (fun c => ?_)
    ·
      replace h := ifF c h
      refine lv_iconst (v := (-1)) E.x E.b d_Cmd_perform_157 (by decide) ?_
      exact bt_Cmd_perform_158 E hret o σ (-1) h w (lv_sub hl [] rfl)
    ·
      replace h := ifT c h
      refine lv_aload_n E.x E.b d_Cmd_perform_148 rfl (lv_at hl 0 rfl) ?_
      refine gM_Cmd_argument E w k1466 d_Cmd_perform_149 ?_
      refine lv_iconst (v := 0) E.x E.b d_Cmd_perform_152 (by decide) ?_
      refine ialM E w (k := 3) (by decide) (show inb 0 300 by decide) d_Cmd_perform_153 ?_
      refine wi_e (v := σ.2.2.1 3 0) rfl ?_
      refine lv_goto (tgt := 158) E.x E.b d_Cmd_perform_154 (by decide) ?_
      exact bt_Cmd_perform_158 E hret o σ (σ.2.2.1 3 0) h w (lv_sub hl [] rfl)
  replace h := ifF q43 h
  replace q43 := ne_ti (k := 19) (by decide) q43
  by_cases q44 : x0 = 21
  ·
    replace h := ifT q44 h
    refine wi_e (v := 21) q44 ?_
    refine lv_lookup (off := 163) (tgt := 164) E.x E.b d_Cmd_perform_1 (by decide) (by decide) (by decide) ?_
    refine lv_iconst (v := 0) E.x E.b d_Cmd_perform_164 (by decide) ?_
    refine lv_istore_n (lv' := [(2, .int 0), (0, .ref (ad 60)), (1, .int x0)]) E.x E.b d_Cmd_perform_165 rfl hl (by decide) rfl (fun ls hl => ?_)
    exact lt_Cmd_perform_166 E hret o 100000 σ 0 _ _ _ h w (lv_sub hl [1, 0] rfl)
  replace h := ifF q44 h
  replace q44 := ne_ti (k := 21) (by decide) q44
  by_cases q45 : x0 = 23
  ·
    replace h := ifT q45 h
    refine wi_e (v := 23) q45 ?_
    refine lv_lookup (off := 100) (tgt := 101) E.x E.b d_Cmd_perform_1 (by decide) (by decide) (by decide) ?_
    refine lv_aload_n E.x E.b d_Cmd_perform_101 rfl (lv_at hl 0 rfl) ?_
    refine gM_Cmd_back E w k1453 d_Cmd_perform_102 ?_
    refine lv_aload_n E.x E.b d_Cmd_perform_105 rfl (lv_at hl 0 rfl) ?_
    refine gM_Cmd_depth E w k1452 d_Cmd_perform_106 ?_
    refine lv_aload_n E.x E.b d_Cmd_perform_109 rfl (lv_at hl 0 rfl) ?_
    refine gM_Cmd_at E w k1451 d_Cmd_perform_110 ?_
    obtain ⟨c46, h⟩ := ck_some h
    obtain ⟨σ47, e_σ47, h⟩ := lt_some h
    refine iasM E w (k := 2) (by decide) c46 e_σ47 d_Cmd_perform_113 (fun H locs w => ?_)
    refine lv_aload_n E.x E.b d_Cmd_perform_114 rfl (lv_at hl 0 rfl) ?_
    refine lv_dup E.x E.b d_Cmd_perform_115 rfl ?_
    refine gM_Cmd_depth E w k1452 d_Cmd_perform_116 ?_
    refine lv_iconst (v := 1) E.x E.b d_Cmd_perform_119 (by decide) ?_
    refine lv_iadd E.x E.b d_Cmd_perform_120 ?_
    obtain ⟨σ48, e_σ48, h⟩ := lt_some h
    refine pM_Cmd_depth E w k1452 e_σ48 d_Cmd_perform_121 (fun H locs w => ?_)
    refine lv_aload_n E.x E.b d_Cmd_perform_124 rfl (lv_at hl 0 rfl) ?_
    refine lv_aload_n E.x E.b d_Cmd_perform_125 rfl (lv_at hl 0 rfl) ?_
    refine gM_Cmd_argument E w k1466 d_Cmd_perform_126 ?_
    refine lv_iconst (v := 0) E.x E.b d_Cmd_perform_129 (by decide) ?_
    refine ialM E w (k := 3) (by decide) (show inb 0 300 by decide) d_Cmd_perform_130 ?_
    refine wi_e (v := σ48.2.2.1 3 0) rfl ?_
    obtain ⟨σ49, e_σ49, h⟩ := lt_some h
    refine pM_Cmd_at E w k1451 e_σ49 d_Cmd_perform_131 (fun H locs w => ?_)
    refine lv_goto (tgt := 272) E.x E.b d_Cmd_perform_134 (by decide) ?_
    exact bt_Cmd_perform_272 E hret o σ49 h w (lv_sub hl [] rfl)
  replace h := ifF q45 h
  replace q45 := ne_ti (k := 23) (by decide) q45
  refine lv_lookup (off := 266) (tgt := 267) E.x E.b d_Cmd_perform_1 (by decide) (by simp [Op.lookupswitch.offset, Ne.symm q41, Ne.symm q42, Ne.symm q43, Ne.symm q44, Ne.symm q45]) (by decide) ?_
  refine lv_aload_n E.x E.b d_Cmd_perform_267 rfl (lv_at hl 0 rfl) ?_
  refine lv_iload_n E.x E.b d_Cmd_perform_268 rfl (lv_at hl 1 rfl) ?_
  obtain ⟨o50, h_o50, h⟩ := bd_some h
  refine clV_Cmd_keep E w (x0 := x0) h_o50 k1985 (by decide) hl.1 (Nat.le_of_ble_eq_true rfl) d_Cmd_perform_269 (fun H locs w => ?_)
  exact bt_Cmd_perform_272 E hret o o50 h w (lv_sub hl [] rfl)
theorem clV_Cmd_perform {p : Program} {l : Launch} {e : Env} {R : Room} {s : State} {m : MethodId} {args : Array Value} {below : List Frame} {meth : Method} {c : Code} {H : Heap} {locs : List Loc} {Q : State → Prop} {cc : ByteArray} {nL pc lev : Nat} {own : String} {D : va_G} {τ : ClassId × ClassId × ClassId} {B : Nat} {A : Nat → Prop} {σ : Sg} {ad : Nat → Nat} {ls : Array Slot} {rest : List Value} (E : Cx p R s m args meth c cc nL own lev D τ B A) (w : Wd s D A (wdM τ σ ad) H locs) {x0 : Int32} {o : Sg} (h : F_Cmd_perform σ x0 = some o) {index : Nat} (hlk : Cond.methodLink own index y_Cmd_perform ∈ tw) (hlev : 3 < lev) (hsz : ls.size = nL) (hr : (rest.map fun v => v.category).sum ≤ 8) (hd : decode cc pc = .ok (.invokevirtual index, 3)) (kk : ∀ (H1 : Heap) (locs1 : List Loc), Wd s D A (wdM τ o ad) H1 locs1 → W p l e R s m args below meth c H1 locs1 0 0 Q (F0 m (pc + 3) ls (rest))) : W p l e R s m args below meth c H locs 0 0 Q (F0 m pc ls (.int x0 :: .ref (ad 60) :: rest)) :=
  cr_v w E.C (va_runV (As := [.int x0]) (rest := rest) E.fix (c_Cmd_perform l D τ B σ ad x0 o h H.size) (cwV 1 E.w (tw_pre (tw_good k1984) (l := [_, _, _, _]) (List.forall_mem_cons.mpr ⟨hlk, List.forall_mem_cons.mpr ⟨k1983, List.forall_mem_cons.mpr ⟨ks57, List.forall_mem_cons.mpr ⟨k15, fun _ h => absurd h List.not_mem_nil⟩⟩⟩⟩)) rfl rfl rfl (by decide +kernel) (E.rm hlev (by decide))) (wd_preV w E.C [.int x0] rcM_Cmd rfl) rfl rfl hsz rfl (lv_room hr) hd ⟨Nat.zero_le _, Nat.zero_le _⟩) kk

theorem d_Cmd_next_0 : decode prog_15_method_26_code 0 = .ok (.aload_n 0, 1) := by decide +kernel
theorem d_Cmd_next_1 : decode prog_15_method_26_code 1 = .ok (.aload_n 0, 1) := by decide +kernel
theorem d_Cmd_next_2 : decode prog_15_method_26_code 2 = .ok (.getfield 133, 3) := by decide +kernel
theorem d_Cmd_next_5 : decode prog_15_method_26_code 5 = .ok (.invokevirtual 120, 3) := by decide +kernel
theorem d_Cmd_next_8 : decode prog_15_method_26_code 8 = .ok (.ifCond .eq 5, 3) := by decide +kernel
theorem d_Cmd_next_11 : decode prog_15_method_26_code 11 = .ok (.iconst 0, 1) := by decide +kernel
theorem d_Cmd_next_12 : decode prog_15_method_26_code 12 = .ok (.ireturn, 1) := by decide +kernel
theorem d_Cmd_next_13 : decode prog_15_method_26_code 13 = .ok (.aload_n 0, 1) := by decide +kernel
theorem d_Cmd_next_14 : decode prog_15_method_26_code 14 = .ok (.aload_n 0, 1) := by decide +kernel
theorem d_Cmd_next_15 : decode prog_15_method_26_code 15 = .ok (.getfield 127, 3) := by decide +kernel
theorem d_Cmd_next_18 : decode prog_15_method_26_code 18 = .ok (.putfield 26, 3) := by decide +kernel
theorem d_Cmd_next_21 : decode prog_15_method_26_code 21 = .ok (.aload_n 0, 1) := by decide +kernel
theorem d_Cmd_next_22 : decode prog_15_method_26_code 22 = .ok (.aload_n 0, 1) := by decide +kernel
theorem d_Cmd_next_23 : decode prog_15_method_26_code 23 = .ok (.getfield 130, 3) := by decide +kernel
theorem d_Cmd_next_26 : decode prog_15_method_26_code 26 = .ok (.putfield 29, 3) := by decide +kernel
theorem d_Cmd_next_29 : decode prog_15_method_26_code 29 = .ok (.aload_n 0, 1) := by decide +kernel
theorem d_Cmd_next_30 : decode prog_15_method_26_code 30 = .ok (.invokevirtual 175, 3) := by decide +kernel
theorem d_Cmd_next_33 : decode prog_15_method_26_code 33 = .ok (.istore_n 1, 1) := by decide +kernel
theorem d_Cmd_next_34 : decode prog_15_method_26_code 34 = .ok (.iload_n 1, 1) := by decide +kernel
theorem d_Cmd_next_35 : decode prog_15_method_26_code 35 = .ok (.ifCond .le 20, 3) := by decide +kernel
theorem d_Cmd_next_38 : decode prog_15_method_26_code 38 = .ok (.aload_n 0, 1) := by decide +kernel
theorem d_Cmd_next_39 : decode prog_15_method_26_code 39 = .ok (.iload_n 1, 1) := by decide +kernel
theorem d_Cmd_next_40 : decode prog_15_method_26_code 40 = .ok (.putfield 137, 3) := by decide +kernel
theorem d_Cmd_next_43 : decode prog_15_method_26_code 43 = .ok (.aload_n 0, 1) := by decide +kernel
theorem d_Cmd_next_44 : decode prog_15_method_26_code 44 = .ok (.iconst 1, 1) := by decide +kernel
theorem d_Cmd_next_45 : decode prog_15_method_26_code 45 = .ok (.putfield 133, 3) := by decide +kernel
theorem d_Cmd_next_48 : decode prog_15_method_26_code 48 = .ok (.aload_n 0, 1) := by decide +kernel
theorem d_Cmd_next_49 : decode prog_15_method_26_code 49 = .ok (.iconst 0, 1) := by decide +kernel
theorem d_Cmd_next_50 : decode prog_15_method_26_code 50 = .ok (.putfield 143, 3) := by decide +kernel
theorem d_Cmd_next_53 : decode prog_15_method_26_code 53 = .ok (.iconst (-1), 1) := by decide +kernel
theorem d_Cmd_next_54 : decode prog_15_method_26_code 54 = .ok (.ireturn, 1) := by decide +kernel
theorem d_Cmd_next_55 : decode prog_15_method_26_code 55 = .ok (.aload_n 0, 1) := by decide +kernel
theorem d_Cmd_next_56 : decode prog_15_method_26_code 56 = .ok (.dup, 1) := by decide +kernel
theorem d_Cmd_next_57 : decode prog_15_method_26_code 57 = .ok (.getfield 140, 3) := by decide +kernel
theorem d_Cmd_next_60 : decode prog_15_method_26_code 60 = .ok (.iconst 1, 1) := by decide +kernel
theorem d_Cmd_next_61 : decode prog_15_method_26_code 61 = .ok (.iadd, 1) := by decide +kernel
theorem d_Cmd_next_62 : decode prog_15_method_26_code 62 = .ok (.putfield 140, 3) := by decide +kernel
theorem d_Cmd_next_65 : decode prog_15_method_26_code 65 = .ok (.aload_n 0, 1) := by decide +kernel
theorem d_Cmd_next_66 : decode prog_15_method_26_code 66 = .ok (.getfield 130, 3) := by decide +kernel
theorem d_Cmd_next_69 : decode prog_15_method_26_code 69 = .ok (.ifCond .ne 18, 3) := by decide +kernel
theorem d_Cmd_next_72 : decode prog_15_method_26_code 72 = .ok (.aload_n 0, 1) := by decide +kernel
theorem d_Cmd_next_73 : decode prog_15_method_26_code 73 = .ok (.getfield 127, 3) := by decide +kernel
theorem d_Cmd_next_76 : decode prog_15_method_26_code 76 = .ok (.aload_n 0, 1) := by decide +kernel
theorem d_Cmd_next_77 : decode prog_15_method_26_code 77 = .ok (.getfield 124, 3) := by decide +kernel
theorem d_Cmd_next_80 : decode prog_15_method_26_code 80 = .ok (.if_icmp .ne 7, 3) := by decide +kernel
theorem d_Cmd_next_83 : decode prog_15_method_26_code 83 = .ok (.iconst 1, 1) := by decide +kernel
theorem d_Cmd_next_84 : decode prog_15_method_26_code 84 = .ok (.goto 4, 3) := by decide +kernel
theorem d_Cmd_next_87 : decode prog_15_method_26_code 87 = .ok (.iconst 0, 1) := by decide +kernel
theorem d_Cmd_next_88 : decode prog_15_method_26_code 88 = .ok (.istore_n 2, 1) := by decide +kernel
theorem d_Cmd_next_89 : decode prog_15_method_26_code 89 = .ok (.iload_n 2, 1) := by decide +kernel
theorem d_Cmd_next_90 : decode prog_15_method_26_code 90 = .ok (.ifCond .eq 7, 3) := by decide +kernel
theorem d_Cmd_next_93 : decode prog_15_method_26_code 93 = .ok (.iconst 0, 1) := by decide +kernel
theorem d_Cmd_next_94 : decode prog_15_method_26_code 94 = .ok (.goto 11, 3) := by decide +kernel
theorem d_Cmd_next_97 : decode prog_15_method_26_code 97 = .ok (.aload_n 0, 1) := by decide +kernel
theorem d_Cmd_next_98 : decode prog_15_method_26_code 98 = .ok (.aload_n 0, 1) := by decide +kernel
theorem d_Cmd_next_99 : decode prog_15_method_26_code 99 = .ok (.getfield 127, 3) := by decide +kernel
theorem d_Cmd_next_102 : decode prog_15_method_26_code 102 = .ok (.invokevirtual 153, 3) := by decide +kernel
theorem d_Cmd_next_105 : decode prog_15_method_26_code 105 = .ok (.istore_n 3, 1) := by decide +kernel
theorem d_Cmd_next_106 : decode prog_15_method_26_code 106 = .ok (.aload_n 0, 1) := by decide +kernel
theorem d_Cmd_next_107 : decode prog_15_method_26_code 107 = .ok (.iload_n 2, 1) := by decide +kernel
theorem d_Cmd_next_108 : decode prog_15_method_26_code 108 = .ok (.ifCond .eq 10, 3) := by decide +kernel
theorem d_Cmd_next_111 : decode prog_15_method_26_code 111 = .ok (.aload_n 0, 1) := by decide +kernel
theorem d_Cmd_next_112 : decode prog_15_method_26_code 112 = .ok (.getfield 127, 3) := by decide +kernel
theorem d_Cmd_next_115 : decode prog_15_method_26_code 115 = .ok (.goto 14, 3) := by decide +kernel
theorem d_Cmd_next_118 : decode prog_15_method_26_code 118 = .ok (.aload_n 0, 1) := by decide +kernel
theorem d_Cmd_next_119 : decode prog_15_method_26_code 119 = .ok (.getfield 127, 3) := by decide +kernel
theorem d_Cmd_next_122 : decode prog_15_method_26_code 122 = .ok (.iconst 1, 1) := by decide +kernel
theorem d_Cmd_next_123 : decode prog_15_method_26_code 123 = .ok (.iadd, 1) := by decide +kernel
theorem d_Cmd_next_124 : decode prog_15_method_26_code 124 = .ok (.aload_n 0, 1) := by decide +kernel
theorem d_Cmd_next_125 : decode prog_15_method_26_code 125 = .ok (.getfield 143, 3) := by decide +kernel
theorem d_Cmd_next_128 : decode prog_15_method_26_code 128 = .ok (.iadd, 1) := by decide +kernel
theorem d_Cmd_next_129 : decode prog_15_method_26_code 129 = .ok (.putfield 127, 3) := by decide +kernel
theorem d_Cmd_next_132 : decode prog_15_method_26_code 132 = .ok (.aload_n 0, 1) := by decide +kernel
theorem d_Cmd_next_133 : decode prog_15_method_26_code 133 = .ok (.iload_n 3, 1) := by decide +kernel
theorem d_Cmd_next_134 : decode prog_15_method_26_code 134 = .ok (.invokevirtual 179, 3) := by decide +kernel
theorem d_Cmd_next_137 : decode prog_15_method_26_code 137 = .ok (.iload_n 3, 1) := by decide +kernel
theorem d_Cmd_next_138 : decode prog_15_method_26_code 138 = .ok (.ireturn, 1) := by decide +kernel
def F_Cmd_next_129 (σ : Sg) (v3 : Int32) (s1 : Int32) : Option (Sg × Int32) := lt (sI σ 11 s1) (fun σ12 => bd (F_Cmd_perform σ12 v3) (fun o13 => some (o13, v3)))
set_option maxRecDepth 10000 in
set_option maxHeartbeats 4000000 in
theorem bt_Cmd_next_129 {p : Program} {l : Launch} {e : Env} {R : Room} {s : State} {m : MethodId} {args : Array Value} {below : List Frame} {meth : Method} {c : Code} {D : va_G} {τ : ClassId × ClassId × ClassId} {B : Nat} {A : Nat → Prop} {ad : Nat → Nat} (E : Cx p R s m args meth c prog_15_method_26_code 4 "DrawingMachineModel$DrawCommandsModel" 4 D τ B A) (hret : meth.sig.returnType = (some .int)) (o : Sg × Int32) (σ : Sg) (v3 : Int32) (s1 : Int32) (h : F_Cmd_next_129 σ v3 s1 = some o) {H : Heap} {locs : List Loc} {ls : Array Slot} (w : Wd s D A (wdM τ σ ad) H locs) (hl : lv_has ls 4 [(0, .ref (ad 60)), (3, .int v3)]) : W p l e R s m args below meth c H locs 0 0 (QI below args s A D τ (wdM τ o.1 ad) o.2) (F0 m 129 ls [.int s1, .ref (ad 60)]) := by
  obtain ⟨σ12, e_σ12, h⟩ := lt_some h
  refine pM_Cmd_at E w k1451 e_σ12 d_Cmd_next_129 (fun H locs w => ?_)
  refine lv_aload_n E.x E.b d_Cmd_next_132 rfl (lv_at hl 0 rfl) ?_
  refine lv_iload_n E.x E.b d_Cmd_next_133 rfl (lv_at hl 1 rfl) ?_
  obtain ⟨o13, h_o13, h⟩ := bd_some h
  refine clV_Cmd_perform E w (x0 := v3) h_o13 k1981 (by decide) hl.1 (Nat.le_of_ble_eq_true rfl) d_Cmd_next_134 (fun H locs w => ?_)
  refine lv_iload_n E.x E.b d_Cmd_next_137 rfl (lv_at hl 1 rfl) ?_
  obtain rfl := Option.some.inj h
  exact rt_i E w hret d_Cmd_next_138
def F_Cmd_next_105 (σ : Sg) (v2 : Int32) (s0 : Int32) : Option (Sg × Int32) := if v2 = (0 : Int32) then (F_Cmd_next_129 σ s0 (((σ.1 11) + 1) + (σ.1 19))) else (F_Cmd_next_129 σ s0 (σ.1 11))
set_option maxRecDepth 10000 in
set_option maxHeartbeats 4000000 in
theorem bt_Cmd_next_105 {p : Program} {l : Launch} {e : Env} {R : Room} {s : State} {m : MethodId} {args : Array Value} {below : List Frame} {meth : Method} {c : Code} {D : va_G} {τ : ClassId × ClassId × ClassId} {B : Nat} {A : Nat → Prop} {ad : Nat → Nat} (E : Cx p R s m args meth c prog_15_method_26_code 4 "DrawingMachineModel$DrawCommandsModel" 4 D τ B A) (hret : meth.sig.returnType = (some .int)) (o : Sg × Int32) (σ : Sg) (v2 : Int32) (s0 : Int32) (h : F_Cmd_next_105 σ v2 s0 = some o) {H : Heap} {locs : List Loc} {ls : Array Slot} (w : Wd s D A (wdM τ σ ad) H locs) (hl : lv_has ls 4 [(0, .ref (ad 60)), (2, .int v2)]) : W p l e R s m args below meth c H locs 0 0 (QI below args s A D τ (wdM τ o.1 ad) o.2) (F0 m 105 ls [.int s0]) := by
  refine lv_istore_n (lv' := [(3, .int s0), (0, .ref (ad 60)), (2, .int v2)]) E.x E.b d_Cmd_next_105 rfl hl (by decide) rfl (fun ls hl => ?_)
  refine lv_aload_n E.x E.b d_Cmd_next_106 rfl (lv_at hl 1 rfl) ?_
  refine lv_iload_n E.x E.b d_Cmd_next_107 rfl (lv_at hl 2 rfl) ?_
  refine lv_if_eq (tgt := 118) E.x E.b d_Cmd_next_108 (by decide) (fun c => ?_) (fun c => ?_)
  ·
    replace h := ifT c h
    refine lv_aload_n E.x E.b d_Cmd_next_118 rfl (lv_at hl 1 rfl) ?_
    refine gM_Cmd_at E w k1451 d_Cmd_next_119 ?_
    refine lv_iconst (v := 1) E.x E.b d_Cmd_next_122 (by decide) ?_
    refine lv_iadd E.x E.b d_Cmd_next_123 ?_
    refine lv_aload_n E.x E.b d_Cmd_next_124 rfl (lv_at hl 1 rfl) ?_
    refine gM_Cmd_arguments E w k1465 d_Cmd_next_125 ?_
    refine lv_iadd E.x E.b d_Cmd_next_128 ?_
    exact bt_Cmd_next_129 E hret o σ s0 (((σ.1 11) + 1) + (σ.1 19)) h w (lv_sub hl [1, 0] rfl)
  ·
    replace h := ifF c h
    refine lv_aload_n E.x E.b d_Cmd_next_111 rfl (lv_at hl 1 rfl) ?_
    refine gM_Cmd_at E w k1451 d_Cmd_next_112 ?_
    refine lv_goto (tgt := 129) E.x E.b d_Cmd_next_115 (by decide) ?_
    exact bt_Cmd_next_129 E hret o σ s0 (σ.1 11) h w (lv_sub hl [1, 0] rfl)
def F_Cmd_next_88 (σ : Sg) (s0 : Int32) : Option (Sg × Int32) := if s0 = (0 : Int32) then (bd (F_Cmd_read σ (σ.1 11)) (fun o14 => F_Cmd_next_105 σ s0 o14)) else (F_Cmd_next_105 σ s0 0)
set_option maxRecDepth 10000 in
set_option maxHeartbeats 4000000 in
theorem bt_Cmd_next_88 {p : Program} {l : Launch} {e : Env} {R : Room} {s : State} {m : MethodId} {args : Array Value} {below : List Frame} {meth : Method} {c : Code} {D : va_G} {τ : ClassId × ClassId × ClassId} {B : Nat} {A : Nat → Prop} {ad : Nat → Nat} (E : Cx p R s m args meth c prog_15_method_26_code 4 "DrawingMachineModel$DrawCommandsModel" 4 D τ B A) (hret : meth.sig.returnType = (some .int)) (o : Sg × Int32) (σ : Sg) (s0 : Int32) (h : F_Cmd_next_88 σ s0 = some o) {H : Heap} {locs : List Loc} {ls : Array Slot} (w : Wd s D A (wdM τ σ ad) H locs) (hl : lv_has ls 4 [(0, .ref (ad 60))]) : W p l e R s m args below meth c H locs 0 0 (QI below args s A D τ (wdM τ o.1 ad) o.2) (F0 m 88 ls [.int s0]) := by
  refine lv_istore_n (lv' := [(2, .int s0), (0, .ref (ad 60))]) E.x E.b d_Cmd_next_88 rfl hl (by decide) rfl (fun ls hl => ?_)
  refine lv_iload_n E.x E.b d_Cmd_next_89 rfl (lv_at hl 0 rfl) ?_
  refine lv_if_eq (tgt := 97) E.x E.b d_Cmd_next_90 (by decide) (fun c => ?_) (fun c => ?_)
  ·
    replace h := ifT c h
    refine lv_aload_n E.x E.b d_Cmd_next_97 rfl (lv_at hl 1 rfl) ?_
    refine lv_aload_n E.x E.b d_Cmd_next_98 rfl (lv_at hl 1 rfl) ?_
    refine gM_Cmd_at E w k1451 d_Cmd_next_99 ?_
    obtain ⟨o14, h_o14, h⟩ := bd_some h
    refine clV_Cmd_read E w (x0 := (σ.1 11)) h_o14 k1925 (by decide) hl.1 (Nat.le_of_ble_eq_true rfl) d_Cmd_next_102 (fun H locs w => ?_)
    exact bt_Cmd_next_105 E hret o σ s0 o14 h w (lv_sub hl [1, 0] rfl)
  ·
    replace h := ifF c h
    refine lv_iconst (v := 0) E.x E.b d_Cmd_next_93 (by decide) ?_
    refine lv_goto (tgt := 105) E.x E.b d_Cmd_next_94 (by decide) ?_
    exact bt_Cmd_next_105 E hret o σ s0 0 h w (lv_sub hl [1, 0] rfl)
def F_Cmd_next_87 (σ : Sg) : Option (Sg × Int32) := F_Cmd_next_88 σ 0
set_option maxRecDepth 10000 in
set_option maxHeartbeats 4000000 in
theorem bt_Cmd_next_87 {p : Program} {l : Launch} {e : Env} {R : Room} {s : State} {m : MethodId} {args : Array Value} {below : List Frame} {meth : Method} {c : Code} {D : va_G} {τ : ClassId × ClassId × ClassId} {B : Nat} {A : Nat → Prop} {ad : Nat → Nat} (E : Cx p R s m args meth c prog_15_method_26_code 4 "DrawingMachineModel$DrawCommandsModel" 4 D τ B A) (hret : meth.sig.returnType = (some .int)) (o : Sg × Int32) (σ : Sg) (h : F_Cmd_next_87 σ = some o) {H : Heap} {locs : List Loc} {ls : Array Slot} (w : Wd s D A (wdM τ σ ad) H locs) (hl : lv_has ls 4 [(0, .ref (ad 60))]) : W p l e R s m args below meth c H locs 0 0 (QI below args s A D τ (wdM τ o.1 ad) o.2) (F0 m 87 ls []) := by
  refine lv_iconst (v := 0) E.x E.b d_Cmd_next_87 (by decide) ?_
  exact bt_Cmd_next_88 E hret o σ 0 h w (lv_sub hl [0] rfl)
def F_Cmd_next (σ : Sg) : Option (Sg × Int32) := bd (F_Cmd_refuse σ (σ.1 13)) (fun o15 => if o15.2 = (0 : Int32) then (lt (sI o15.1 15 (o15.1.1 11)) (fun σ16 => lt (sI σ16 16 (σ16.1 12)) (fun σ17 => bd (F_Cmd_look σ17) (fun o18 => if o18.2 ≤ (0 : Int32) then (lt (sI o18.1 17 ((o18.1.1 17) + 1)) (fun σ19 => if (σ19.1 12) = (0 : Int32) then (if (σ19.1 11) = (σ19.1 10) then (F_Cmd_next_88 σ19 1) else (F_Cmd_next_87 σ19)) else (F_Cmd_next_87 σ19))) else (lt (sI o18.1 14 o18.2) (fun σ20 => lt (sI σ20 13 1) (fun σ21 => lt (sI σ21 19 0) (fun σ22 => some (σ22, (-1)))))))))) else (some (o15.1, 0)))
set_option maxRecDepth 10000 in
set_option maxHeartbeats 4000000 in
theorem c_Cmd_next (l : Launch) (D : va_G) (τ : ClassId × ClassId × ClassId) (B : Nat) (σ : Sg) (ad : Nat → Nat) (o : Sg × Int32) (h : F_Cmd_next σ = some o) : MI l y_Cmd_next (Cond.code y_Cmd_next prog_15_method_26_code 4 (some .int)) 4 D τ B [.ref (ad 60)] (wdM τ σ ad) (wdM τ o.1 ad) o.2 := by
  refine en_i (by decide) (Nat.le_of_ble_eq_true rfl) ?_
  intro p e R s m args below meth c H locs ls A E hret w hl
  have E : Cx p R s m args meth c prog_15_method_26_code 4 "DrawingMachineModel$DrawCommandsModel" 4 D τ B A := E
  have hl : lv_has ls 4 [(0, .ref (ad 60))] := hl
  refine lv_aload_n E.x E.b d_Cmd_next_0 rfl (lv_at hl 0 rfl) ?_
  refine lv_aload_n E.x E.b d_Cmd_next_1 rfl (lv_at hl 0 rfl) ?_
  refine gM_Cmd_over E w k1455 d_Cmd_next_2 ?_
  obtain ⟨o15, h_o15, h⟩ := bd_some h
  refine clV_Cmd_refuse E w (x0 := (σ.1 13)) h_o15 k1847 (by decide) hl.1 (Nat.le_of_ble_eq_true rfl) d_Cmd_next_5 (fun H locs w => ?_)
  refine lv_if_eq (tgt := 13) E.x E.b d_Cmd_next_8 (by decide) (fun c => ?_) (fun c => ?_)
  ·
    replace h := ifT c h
    refine lv_aload_n E.x E.b d_Cmd_next_13 rfl (lv_at hl 0 rfl) ?_
    refine lv_aload_n E.x E.b d_Cmd_next_14 rfl (lv_at hl 0 rfl) ?_
    refine gM_Cmd_at E w k1451 d_Cmd_next_15 ?_
    obtain ⟨σ16, e_σ16, h⟩ := lt_some h
    refine pM_Cmd_place E w k1458 e_σ16 d_Cmd_next_18 (fun H locs w => ?_)
    refine lv_aload_n E.x E.b d_Cmd_next_21 rfl (lv_at hl 0 rfl) ?_
    refine lv_aload_n E.x E.b d_Cmd_next_22 rfl (lv_at hl 0 rfl) ?_
    refine gM_Cmd_depth E w k1452 d_Cmd_next_23 ?_
    obtain ⟨σ17, e_σ17, h⟩ := lt_some h
    refine pM_Cmd_deep E w k1459 e_σ17 d_Cmd_next_26 (fun H locs w => ?_)
    refine lv_aload_n E.x E.b d_Cmd_next_29 rfl (lv_at hl 0 rfl) ?_
    obtain ⟨o18, h_o18, h⟩ := bd_some h
    refine clV_Cmd_look E w h_o18 k1917 (by decide) hl.1 (Nat.le_of_ble_eq_true rfl) d_Cmd_next_30 (fun H locs w => ?_)
    refine lv_istore_n (lv' := [(1, .int o18.2), (0, .ref (ad 60))]) E.x E.b d_Cmd_next_33 rfl hl (by decide) rfl (fun ls hl => ?_)
    refine lv_iload_n E.x E.b d_Cmd_next_34 rfl (lv_at hl 0 rfl) ?_
    refine lv_if_le (tgt := 55) E.x E.b d_Cmd_next_35 (by decide) (fun c => ?_) (fun c => ?_)
    ·
      replace h := ifT c h
      refine lv_aload_n E.x E.b d_Cmd_next_55 rfl (lv_at hl 1 rfl) ?_
      refine lv_dup E.x E.b d_Cmd_next_56 rfl ?_
      refine gM_Cmd_done E w k1461 d_Cmd_next_57 ?_
      refine lv_iconst (v := 1) E.x E.b d_Cmd_next_60 (by decide) ?_
      refine lv_iadd E.x E.b d_Cmd_next_61 ?_
      obtain ⟨σ19, e_σ19, h⟩ := lt_some h
      refine pM_Cmd_done E w k1461 e_σ19 d_Cmd_next_62 (fun H locs w => ?_)
      refine lv_aload_n E.x E.b d_Cmd_next_65 rfl (lv_at hl 1 rfl) ?_
      refine gM_Cmd_depth E w k1452 d_Cmd_next_66 ?_
      refine lv_if_ne (tgt := 87) E.x E.b d_Cmd_next_69 (by decide) (fun c => ?_) (fun c => ?_)
      ·
        replace h := ifF c h
        exact bt_Cmd_next_87 E hret o σ19 h w (lv_sub hl [1] rfl)
      ·
        replace h := ifT c h
        refine lv_aload_n E.x E.b d_Cmd_next_72 rfl (lv_at hl 1 rfl) ?_
        refine gM_Cmd_at E w k1451 d_Cmd_next_73 ?_
        refine lv_aload_n E.x E.b d_Cmd_next_76 rfl (lv_at hl 1 rfl) ?_
        refine gM_Cmd_size E w k1450 d_Cmd_next_77 ?_
        refine lv_icmp_ne (tgt := 87) E.x E.b d_Cmd_next_80 (by decide) (fun c => ?_) (fun c => ?_)
        ·
          replace h := ifF c h
          exact bt_Cmd_next_87 E hret o σ19 h w (lv_sub hl [1] rfl)
        ·
          replace h := ifT c h
          refine lv_iconst (v := 1) E.x E.b d_Cmd_next_83 (by decide) ?_
          refine lv_goto (tgt := 88) E.x E.b d_Cmd_next_84 (by decide) ?_
          exact bt_Cmd_next_88 E hret o σ19 1 h w (lv_sub hl [1] rfl)
    ·
      replace h := ifF c h
      refine lv_aload_n E.x E.b d_Cmd_next_38 rfl (lv_at hl 1 rfl) ?_
      refine lv_iload_n E.x E.b d_Cmd_next_39 rfl (lv_at hl 0 rfl) ?_
      obtain ⟨σ20, e_σ20, h⟩ := lt_some h
      refine pM_Cmd_refusal E w k1457 e_σ20 d_Cmd_next_40 (fun H locs w => ?_)
      refine lv_aload_n E.x E.b d_Cmd_next_43 rfl (lv_at hl 1 rfl) ?_
      refine lv_iconst (v := 1) E.x E.b d_Cmd_next_44 (by decide) ?_
      obtain ⟨σ21, e_σ21, h⟩ := lt_some h
      refine pM_Cmd_over E w k1455 (by decide) e_σ21 d_Cmd_next_45 (fun H locs w => ?_)
      refine lv_aload_n E.x E.b d_Cmd_next_48 rfl (lv_at hl 1 rfl) ?_
      refine lv_iconst (v := 0) E.x E.b d_Cmd_next_49 (by decide) ?_
      obtain ⟨σ22, e_σ22, h⟩ := lt_some h
      refine pM_Cmd_arguments E w k1465 e_σ22 d_Cmd_next_50 (fun H locs w => ?_)
      refine lv_iconst (v := (-1)) E.x E.b d_Cmd_next_53 (by decide) ?_
      obtain rfl := Option.some.inj h
      exact rt_i E w hret d_Cmd_next_54
  ·
    replace h := ifF c h
    refine lv_iconst (v := 0) E.x E.b d_Cmd_next_11 (by decide) ?_
    obtain rfl := Option.some.inj h
    exact rt_i E w hret d_Cmd_next_12
theorem clV_Cmd_next {p : Program} {l : Launch} {e : Env} {R : Room} {s : State} {m : MethodId} {args : Array Value} {below : List Frame} {meth : Method} {c : Code} {H : Heap} {locs : List Loc} {Q : State → Prop} {cc : ByteArray} {nL pc lev : Nat} {own : String} {D : va_G} {τ : ClassId × ClassId × ClassId} {B : Nat} {A : Nat → Prop} {σ : Sg} {ad : Nat → Nat} {ls : Array Slot} {rest : List Value} (E : Cx p R s m args meth c cc nL own lev D τ B A) (w : Wd s D A (wdM τ σ ad) H locs) {o : Sg × Int32} (h : F_Cmd_next σ = some o) {index : Nat} (hlk : Cond.methodLink own index y_Cmd_next ∈ tw) (hlev : 4 < lev) (hsz : ls.size = nL) (hr : (rest.map fun v => v.category).sum ≤ 8) (hd : decode cc pc = .ok (.invokevirtual index, 3)) (kk : ∀ (H1 : Heap) (locs1 : List Loc), Wd s D A (wdM τ o.1 ad) H1 locs1 → W p l e R s m args below meth c H1 locs1 0 0 Q (F0 m (pc + 3) ls (.int o.2 :: rest))) : W p l e R s m args below meth c H locs 0 0 Q (F0 m pc ls (.ref (ad 60) :: rest)) :=
  cr_i w E.C (va_runV (As := []) (rest := rest) E.fix (c_Cmd_next l D τ B σ ad o h H.size) (cwV 0 E.w (tw_pre (tw_good k1916) (l := [_, _, _, _]) (List.forall_mem_cons.mpr ⟨hlk, List.forall_mem_cons.mpr ⟨k1914, List.forall_mem_cons.mpr ⟨k1915, List.forall_mem_cons.mpr ⟨k15, fun _ h => absurd h List.not_mem_nil⟩⟩⟩⟩)) rfl rfl rfl (by decide +kernel) (E.rm hlev (by decide))) (wd_preV w E.C [] rcM_Cmd rfl) rfl rfl hsz rfl (lv_room hr) hd ⟨Nat.zero_le _, Nat.zero_le _⟩) kk

theorem d_Ptm_clear_0 : decode prog_17_method_16_code 0 = .ok (.aload_n 0, 1) := by decide +kernel
theorem d_Ptm_clear_1 : decode prog_17_method_16_code 1 = .ok (.iload_n 1, 1) := by decide +kernel
theorem d_Ptm_clear_2 : decode prog_17_method_16_code 2 = .ok (.iconst 0, 1) := by decide +kernel
theorem d_Ptm_clear_3 : decode prog_17_method_16_code 3 = .ok (.bipush 7, 2) := by decide +kernel
theorem d_Ptm_clear_5 : decode prog_17_method_16_code 5 = .ok (.invokestatic 63, 3) := by decide +kernel
theorem d_Ptm_clear_8 : decode prog_17_method_16_code 8 = .ok (.ifCond .eq 25, 3) := by decide +kernel
theorem d_Ptm_clear_11 : decode prog_17_method_16_code 11 = .ok (.iload_n 3, 1) := by decide +kernel
theorem d_Ptm_clear_12 : decode prog_17_method_16_code 12 = .ok (.iconst 0, 1) := by decide +kernel
theorem d_Ptm_clear_13 : decode prog_17_method_16_code 13 = .ok (.ldc 91, 2) := by decide +kernel
theorem d_Ptm_clear_15 : decode prog_17_method_16_code 15 = .ok (.invokestatic 63, 3) := by decide +kernel
theorem d_Ptm_clear_18 : decode prog_17_method_16_code 18 = .ok (.ifCond .eq 15, 3) := by decide +kernel
theorem d_Ptm_clear_21 : decode prog_17_method_16_code 21 = .ok (.iload 4, 2) := by decide +kernel
theorem d_Ptm_clear_23 : decode prog_17_method_16_code 23 = .ok (.iconst 0, 1) := by decide +kernel
theorem d_Ptm_clear_24 : decode prog_17_method_16_code 24 = .ok (.sipush 255, 3) := by decide +kernel
theorem d_Ptm_clear_27 : decode prog_17_method_16_code 27 = .ok (.invokestatic 63, 3) := by decide +kernel
theorem d_Ptm_clear_30 : decode prog_17_method_16_code 30 = .ok (.ifCond .ne 7, 3) := by decide +kernel
theorem d_Ptm_clear_33 : decode prog_17_method_16_code 33 = .ok (.iconst 1, 1) := by decide +kernel
theorem d_Ptm_clear_34 : decode prog_17_method_16_code 34 = .ok (.goto 4, 3) := by decide +kernel
theorem d_Ptm_clear_37 : decode prog_17_method_16_code 37 = .ok (.iconst 0, 1) := by decide +kernel
theorem d_Ptm_clear_38 : decode prog_17_method_16_code 38 = .ok (.iconst 0, 1) := by decide +kernel
theorem d_Ptm_clear_39 : decode prog_17_method_16_code 39 = .ok (.invokevirtual 67, 3) := by decide +kernel
theorem d_Ptm_clear_42 : decode prog_17_method_16_code 42 = .ok (.ifCond .eq 5, 3) := by decide +kernel
theorem d_Ptm_clear_45 : decode prog_17_method_16_code 45 = .ok (.iconst 0, 1) := by decide +kernel
theorem d_Ptm_clear_46 : decode prog_17_method_16_code 46 = .ok (.ireturn, 1) := by decide +kernel
theorem d_Ptm_clear_47 : decode prog_17_method_16_code 47 = .ok (.iconst 0, 1) := by decide +kernel
theorem d_Ptm_clear_48 : decode prog_17_method_16_code 48 = .ok (.istore 5, 2) := by decide +kernel
theorem d_Ptm_clear_50 : decode prog_17_method_16_code 50 = .ok (.aload_n 0, 1) := by decide +kernel
theorem d_Ptm_clear_51 : decode prog_17_method_16_code 51 = .ok (.getfield 74, 3) := by decide +kernel
theorem d_Ptm_clear_54 : decode prog_17_method_16_code 54 = .ok (.istore 6, 2) := by decide +kernel
theorem d_Ptm_clear_56 : decode prog_17_method_16_code 56 = .ok (.iload 6, 2) := by decide +kernel
theorem d_Ptm_clear_58 : decode prog_17_method_16_code 58 = .ok (.aload_n 0, 1) := by decide +kernel
theorem d_Ptm_clear_59 : decode prog_17_method_16_code 59 = .ok (.getfield 74, 3) := by decide +kernel
theorem d_Ptm_clear_62 : decode prog_17_method_16_code 62 = .ok (.aload_n 0, 1) := by decide +kernel
theorem d_Ptm_clear_63 : decode prog_17_method_16_code 63 = .ok (.getfield 13, 3) := by decide +kernel
theorem d_Ptm_clear_66 : decode prog_17_method_16_code 66 = .ok (.iadd, 1) := by decide +kernel
theorem d_Ptm_clear_67 : decode prog_17_method_16_code 67 = .ok (.if_icmp .ge 224, 3) := by decide +kernel
theorem d_Ptm_clear_70 : decode prog_17_method_16_code 70 = .ok (.aload_n 0, 1) := by decide +kernel
theorem d_Ptm_clear_71 : decode prog_17_method_16_code 71 = .ok (.getfield 71, 3) := by decide +kernel
theorem d_Ptm_clear_74 : decode prog_17_method_16_code 74 = .ok (.istore 7, 2) := by decide +kernel
theorem d_Ptm_clear_76 : decode prog_17_method_16_code 76 = .ok (.iload 7, 2) := by decide +kernel
theorem d_Ptm_clear_78 : decode prog_17_method_16_code 78 = .ok (.aload_n 0, 1) := by decide +kernel
theorem d_Ptm_clear_79 : decode prog_17_method_16_code 79 = .ok (.getfield 71, 3) := by decide +kernel
theorem d_Ptm_clear_82 : decode prog_17_method_16_code 82 = .ok (.aload_n 0, 1) := by decide +kernel
theorem d_Ptm_clear_83 : decode prog_17_method_16_code 83 = .ok (.getfield 7, 3) := by decide +kernel
theorem d_Ptm_clear_86 : decode prog_17_method_16_code 86 = .ok (.iadd, 1) := by decide +kernel
theorem d_Ptm_clear_87 : decode prog_17_method_16_code 87 = .ok (.if_icmp .ge 198, 3) := by decide +kernel
theorem d_Ptm_clear_90 : decode prog_17_method_16_code 90 = .ok (.aload_n 0, 1) := by decide +kernel
theorem d_Ptm_clear_91 : decode prog_17_method_16_code 91 = .ok (.iload 7, 2) := by decide +kernel
theorem d_Ptm_clear_93 : decode prog_17_method_16_code 93 = .ok (.iload 6, 2) := by decide +kernel
theorem d_Ptm_clear_95 : decode prog_17_method_16_code 95 = .ok (.invokevirtual 92, 3) := by decide +kernel
theorem d_Ptm_clear_98 : decode prog_17_method_16_code 98 = .ok (.ifCond .ne 6, 3) := by decide +kernel
theorem d_Ptm_clear_101 : decode prog_17_method_16_code 101 = .ok (.goto 178, 3) := by decide +kernel
theorem d_Ptm_clear_104 : decode prog_17_method_16_code 104 = .ok (.iinc 5 1, 3) := by decide +kernel
theorem d_Ptm_clear_107 : decode prog_17_method_16_code 107 = .ok (.aload_n 0, 1) := by decide +kernel
theorem d_Ptm_clear_108 : decode prog_17_method_16_code 108 = .ok (.iload 7, 2) := by decide +kernel
theorem d_Ptm_clear_110 : decode prog_17_method_16_code 110 = .ok (.iload 6, 2) := by decide +kernel
theorem d_Ptm_clear_112 : decode prog_17_method_16_code 112 = .ok (.invokevirtual 95, 3) := by decide +kernel
theorem d_Ptm_clear_115 : decode prog_17_method_16_code 115 = .ok (.istore 8, 2) := by decide +kernel
theorem d_Ptm_clear_117 : decode prog_17_method_16_code 117 = .ok (.iconst 0, 1) := by decide +kernel
theorem d_Ptm_clear_118 : decode prog_17_method_16_code 118 = .ok (.istore 9, 2) := by decide +kernel
theorem d_Ptm_clear_120 : decode prog_17_method_16_code 120 = .ok (.iload 9, 2) := by decide +kernel
theorem d_Ptm_clear_122 : decode prog_17_method_16_code 122 = .ok (.iconst 4, 1) := by decide +kernel
theorem d_Ptm_clear_123 : decode prog_17_method_16_code 123 = .ok (.if_icmp .ge 79, 3) := by decide +kernel
theorem d_Ptm_clear_126 : decode prog_17_method_16_code 126 = .ok (.iload_n 1, 1) := by decide +kernel
theorem d_Ptm_clear_127 : decode prog_17_method_16_code 127 = .ok (.iconst 1, 1) := by decide +kernel
theorem d_Ptm_clear_128 : decode prog_17_method_16_code 128 = .ok (.iand, 1) := by decide +kernel
theorem d_Ptm_clear_129 : decode prog_17_method_16_code 129 = .ok (.iconst 1, 1) := by decide +kernel
theorem d_Ptm_clear_130 : decode prog_17_method_16_code 130 = .ok (.if_icmp .ne 20, 3) := by decide +kernel
theorem d_Ptm_clear_133 : decode prog_17_method_16_code 133 = .ok (.aload_n 0, 1) := by decide +kernel
theorem d_Ptm_clear_134 : decode prog_17_method_16_code 134 = .ok (.getfield 48, 3) := by decide +kernel
theorem d_Ptm_clear_137 : decode prog_17_method_16_code 137 = .ok (.iload 9, 2) := by decide +kernel
theorem d_Ptm_clear_139 : decode prog_17_method_16_code 139 = .ok (.ishr, 1) := by decide +kernel
theorem d_Ptm_clear_140 : decode prog_17_method_16_code 140 = .ok (.iconst 1, 1) := by decide +kernel
theorem d_Ptm_clear_141 : decode prog_17_method_16_code 141 = .ok (.iand, 1) := by decide +kernel
theorem d_Ptm_clear_142 : decode prog_17_method_16_code 142 = .ok (.iconst 1, 1) := by decide +kernel
theorem d_Ptm_clear_143 : decode prog_17_method_16_code 143 = .ok (.if_icmp .ne 7, 3) := by decide +kernel
theorem d_Ptm_clear_146 : decode prog_17_method_16_code 146 = .ok (.iconst 1, 1) := by decide +kernel
theorem d_Ptm_clear_147 : decode prog_17_method_16_code 147 = .ok (.goto 4, 3) := by decide +kernel
theorem d_Ptm_clear_150 : decode prog_17_method_16_code 150 = .ok (.iconst 0, 1) := by decide +kernel
theorem d_Ptm_clear_151 : decode prog_17_method_16_code 151 = .ok (.istore 10, 2) := by decide +kernel
theorem d_Ptm_clear_153 : decode prog_17_method_16_code 153 = .ok (.aload_n 0, 1) := by decide +kernel
theorem d_Ptm_clear_154 : decode prog_17_method_16_code 154 = .ok (.getfield 17, 3) := by decide +kernel
theorem d_Ptm_clear_157 : decode prog_17_method_16_code 157 = .ok (.iconst 4, 1) := by decide +kernel
theorem d_Ptm_clear_158 : decode prog_17_method_16_code 158 = .ok (.iload 8, 2) := by decide +kernel
theorem d_Ptm_clear_160 : decode prog_17_method_16_code 160 = .ok (.imul, 1) := by decide +kernel
theorem d_Ptm_clear_161 : decode prog_17_method_16_code 161 = .ok (.iload 9, 2) := by decide +kernel
theorem d_Ptm_clear_163 : decode prog_17_method_16_code 163 = .ok (.iadd, 1) := by decide +kernel
theorem d_Ptm_clear_164 : decode prog_17_method_16_code 164 = .ok (.iload 10, 2) := by decide +kernel
theorem d_Ptm_clear_166 : decode prog_17_method_16_code 166 = .ok (.ifCond .eq 17, 3) := by decide +kernel
theorem d_Ptm_clear_169 : decode prog_17_method_16_code 169 = .ok (.iload_n 2, 1) := by decide +kernel
theorem d_Ptm_clear_170 : decode prog_17_method_16_code 170 = .ok (.bipush 8, 2) := by decide +kernel
theorem d_Ptm_clear_172 : decode prog_17_method_16_code 172 = .ok (.iload 9, 2) := by decide +kernel
theorem d_Ptm_clear_174 : decode prog_17_method_16_code 174 = .ok (.imul, 1) := by decide +kernel
theorem d_Ptm_clear_175 : decode prog_17_method_16_code 175 = .ok (.ishr, 1) := by decide +kernel
theorem d_Ptm_clear_176 : decode prog_17_method_16_code 176 = .ok (.sipush 255, 3) := by decide +kernel
theorem d_Ptm_clear_179 : decode prog_17_method_16_code 179 = .ok (.iand, 1) := by decide +kernel
theorem d_Ptm_clear_180 : decode prog_17_method_16_code 180 = .ok (.goto 15, 3) := by decide +kernel
theorem d_Ptm_clear_183 : decode prog_17_method_16_code 183 = .ok (.aload_n 0, 1) := by decide +kernel
theorem d_Ptm_clear_184 : decode prog_17_method_16_code 184 = .ok (.getfield 17, 3) := by decide +kernel
theorem d_Ptm_clear_187 : decode prog_17_method_16_code 187 = .ok (.iconst 4, 1) := by decide +kernel
theorem d_Ptm_clear_188 : decode prog_17_method_16_code 188 = .ok (.iload 8, 2) := by decide +kernel
theorem d_Ptm_clear_190 : decode prog_17_method_16_code 190 = .ok (.imul, 1) := by decide +kernel
theorem d_Ptm_clear_191 : decode prog_17_method_16_code 191 = .ok (.iload 9, 2) := by decide +kernel
theorem d_Ptm_clear_193 : decode prog_17_method_16_code 193 = .ok (.iadd, 1) := by decide +kernel
theorem d_Ptm_clear_194 : decode prog_17_method_16_code 194 = .ok (.iaload, 1) := by decide +kernel
theorem d_Ptm_clear_195 : decode prog_17_method_16_code 195 = .ok (.iastore, 1) := by decide +kernel
theorem d_Ptm_clear_196 : decode prog_17_method_16_code 196 = .ok (.iinc 9 1, 3) := by decide +kernel
theorem d_Ptm_clear_199 : decode prog_17_method_16_code 199 = .ok (.goto (-79), 3) := by decide +kernel
theorem d_Ptm_clear_202 : decode prog_17_method_16_code 202 = .ok (.aload_n 0, 1) := by decide +kernel
theorem d_Ptm_clear_203 : decode prog_17_method_16_code 203 = .ok (.getfield 21, 3) := by decide +kernel
theorem d_Ptm_clear_206 : decode prog_17_method_16_code 206 = .ok (.iload 8, 2) := by decide +kernel
theorem d_Ptm_clear_208 : decode prog_17_method_16_code 208 = .ok (.iload_n 1, 1) := by decide +kernel
theorem d_Ptm_clear_209 : decode prog_17_method_16_code 209 = .ok (.iconst 2, 1) := by decide +kernel
theorem d_Ptm_clear_210 : decode prog_17_method_16_code 210 = .ok (.iand, 1) := by decide +kernel
theorem d_Ptm_clear_211 : decode prog_17_method_16_code 211 = .ok (.iconst 2, 1) := by decide +kernel
theorem d_Ptm_clear_212 : decode prog_17_method_16_code 212 = .ok (.if_icmp .ne 22, 3) := by decide +kernel
theorem d_Ptm_clear_215 : decode prog_17_method_16_code 215 = .ok (.aload_n 0, 1) := by decide +kernel
theorem d_Ptm_clear_216 : decode prog_17_method_16_code 216 = .ok (.getfield 30, 3) := by decide +kernel
theorem d_Ptm_clear_219 : decode prog_17_method_16_code 219 = .ok (.iconst (-1), 1) := by decide +kernel
theorem d_Ptm_clear_220 : decode prog_17_method_16_code 220 = .ok (.if_icmp .eq 10, 3) := by decide +kernel
theorem d_Ptm_clear_223 : decode prog_17_method_16_code 223 = .ok (.aload_n 0, 1) := by decide +kernel
theorem d_Ptm_clear_224 : decode prog_17_method_16_code 224 = .ok (.getfield 81, 3) := by decide +kernel
theorem d_Ptm_clear_227 : decode prog_17_method_16_code 227 = .ok (.ifCond .eq 7, 3) := by decide +kernel
theorem d_Ptm_clear_230 : decode prog_17_method_16_code 230 = .ok (.iload_n 3, 1) := by decide +kernel
theorem d_Ptm_clear_231 : decode prog_17_method_16_code 231 = .ok (.goto 10, 3) := by decide +kernel
theorem d_Ptm_clear_234 : decode prog_17_method_16_code 234 = .ok (.aload_n 0, 1) := by decide +kernel
theorem d_Ptm_clear_235 : decode prog_17_method_16_code 235 = .ok (.getfield 21, 3) := by decide +kernel
theorem d_Ptm_clear_238 : decode prog_17_method_16_code 238 = .ok (.iload 8, 2) := by decide +kernel
theorem d_Ptm_clear_240 : decode prog_17_method_16_code 240 = .ok (.iaload, 1) := by decide +kernel
theorem d_Ptm_clear_241 : decode prog_17_method_16_code 241 = .ok (.iastore, 1) := by decide +kernel
theorem d_Ptm_clear_242 : decode prog_17_method_16_code 242 = .ok (.iload_n 1, 1) := by decide +kernel
theorem d_Ptm_clear_243 : decode prog_17_method_16_code 243 = .ok (.iconst 4, 1) := by decide +kernel
theorem d_Ptm_clear_244 : decode prog_17_method_16_code 244 = .ok (.iand, 1) := by decide +kernel
theorem d_Ptm_clear_245 : decode prog_17_method_16_code 245 = .ok (.iconst 4, 1) := by decide +kernel
theorem d_Ptm_clear_246 : decode prog_17_method_16_code 246 = .ok (.if_icmp .ne 33, 3) := by decide +kernel
theorem d_Ptm_clear_249 : decode prog_17_method_16_code 249 = .ok (.aload_n 0, 1) := by decide +kernel
theorem d_Ptm_clear_250 : decode prog_17_method_16_code 250 = .ok (.iload 8, 2) := by decide +kernel
theorem d_Ptm_clear_252 : decode prog_17_method_16_code 252 = .ok (.iload 4, 2) := by decide +kernel
theorem d_Ptm_clear_254 : decode prog_17_method_16_code 254 = .ok (.aload_n 0, 1) := by decide +kernel
theorem d_Ptm_clear_255 : decode prog_17_method_16_code 255 = .ok (.getfield 33, 3) := by decide +kernel
theorem d_Ptm_clear_258 : decode prog_17_method_16_code 258 = .ok (.iconst 0, 1) := by decide +kernel
theorem d_Ptm_clear_259 : decode prog_17_method_16_code 259 = .ok (.iaload, 1) := by decide +kernel
theorem d_Ptm_clear_260 : decode prog_17_method_16_code 260 = .ok (.iconst (-1), 1) := by decide +kernel
theorem d_Ptm_clear_261 : decode prog_17_method_16_code 261 = .ok (.if_icmp .ne 9, 3) := by decide +kernel
theorem d_Ptm_clear_264 : decode prog_17_method_16_code 264 = .ok (.sipush 255, 3) := by decide +kernel
theorem d_Ptm_clear_267 : decode prog_17_method_16_code 267 = .ok (.goto 9, 3) := by decide +kernel
theorem d_Ptm_clear_270 : decode prog_17_method_16_code 270 = .ok (.aload_n 0, 1) := by decide +kernel
theorem d_Ptm_clear_271 : decode prog_17_method_16_code 271 = .ok (.getfield 33, 3) := by decide +kernel
theorem d_Ptm_clear_274 : decode prog_17_method_16_code 274 = .ok (.iconst 3, 1) := by decide +kernel
theorem d_Ptm_clear_275 : decode prog_17_method_16_code 275 = .ok (.iaload, 1) := by decide +kernel
theorem d_Ptm_clear_276 : decode prog_17_method_16_code 276 = .ok (.invokevirtual 99, 3) := by decide +kernel
theorem d_Ptm_clear_279 : decode prog_17_method_16_code 279 = .ok (.iinc 7 1, 3) := by decide +kernel
theorem d_Ptm_clear_282 : decode prog_17_method_16_code 282 = .ok (.goto (-206), 3) := by decide +kernel
theorem d_Ptm_clear_285 : decode prog_17_method_16_code 285 = .ok (.iinc 6 1, 3) := by decide +kernel
theorem d_Ptm_clear_288 : decode prog_17_method_16_code 288 = .ok (.goto (-232), 3) := by decide +kernel
theorem d_Ptm_clear_291 : decode prog_17_method_16_code 291 = .ok (.iload 5, 2) := by decide +kernel
theorem d_Ptm_clear_293 : decode prog_17_method_16_code 293 = .ok (.ireturn, 1) := by decide +kernel
def F_Ptm_clear_279 (rc_56 : Sg → Int32 → Int32 → Int32 → Int32 → Int32 → Int32 → Option (Sg × Int32)) (rc_76 : Sg → Int32 → Int32 → Int32 → Int32 → Int32 → Int32 → Int32 → Option (Sg × Int32)) (σ : Sg) (v1 : Int32) (v2 : Int32) (v3 : Int32) (v4 : Int32) (v5 : Int32) (v6 : Int32) (v7 : Int32) : Option (Sg × Int32) := lt (v7 + 1) (fun y20 => rc_76 σ v1 v2 v3 v4 v5 v6 y20)
set_option maxRecDepth 10000 in
set_option maxHeartbeats 4000000 in
theorem bt_Ptm_clear_279 {p : Program} {l : Launch} {e : Env} {R : Room} {s : State} {m : MethodId} {args : Array Value} {below : List Frame} {meth : Method} {c : Code} {D : va_G} {τ : ClassId × ClassId × ClassId} {B : Nat} {A : Nat → Prop} {ad : Nat → Nat} (E : Cx p R s m args meth c prog_17_method_16_code 11 "DrawingMachineModel$PlaceTestsModel" 2 D τ B A) (hret : meth.sig.returnType = (some .int)) (o : Sg × Int32) (rc_56 : Sg → Int32 → Int32 → Int32 → Int32 → Int32 → Int32 → Option (Sg × Int32)) (rc_76 : Sg → Int32 → Int32 → Int32 → Int32 → Int32 → Int32 → Int32 → Option (Sg × Int32)) (hr_56 : ∀ (σ : Sg) (v1 : Int32) (v2 : Int32) (v3 : Int32) (v4 : Int32) (v5 : Int32) (v6 : Int32) (H : Heap) (locs : List Loc) (ls : Array Slot), rc_56 σ v1 v2 v3 v4 v5 v6 = some o → Wd s D A (wdM τ σ ad) H locs → lv_has ls 11 [(0, .ref (ad 64)), (1, .int v1), (2, .int v2), (3, .int v3), (4, .int v4), (5, .int v5), (6, .int v6)] → W p l e R s m args below meth c H locs 0 0 (QI below args s A D τ (wdM τ o.1 ad) o.2) (F0 m 56 ls [])) (hr_76 : ∀ (σ : Sg) (v1 : Int32) (v2 : Int32) (v3 : Int32) (v4 : Int32) (v5 : Int32) (v6 : Int32) (v7 : Int32) (H : Heap) (locs : List Loc) (ls : Array Slot), rc_76 σ v1 v2 v3 v4 v5 v6 v7 = some o → Wd s D A (wdM τ σ ad) H locs → lv_has ls 11 [(0, .ref (ad 64)), (1, .int v1), (2, .int v2), (3, .int v3), (4, .int v4), (5, .int v5), (6, .int v6), (7, .int v7)] → W p l e R s m args below meth c H locs 0 0 (QI below args s A D τ (wdM τ o.1 ad) o.2) (F0 m 76 ls [])) (σ : Sg) (v1 : Int32) (v2 : Int32) (v3 : Int32) (v4 : Int32) (v5 : Int32) (v6 : Int32) (v7 : Int32) (h : F_Ptm_clear_279 rc_56 rc_76 σ v1 v2 v3 v4 v5 v6 v7 = some o) {H : Heap} {locs : List Loc} {ls : Array Slot} (w : Wd s D A (wdM τ σ ad) H locs) (hl : lv_has ls 11 [(0, .ref (ad 64)), (1, .int v1), (2, .int v2), (3, .int v3), (4, .int v4), (5, .int v5), (6, .int v6), (7, .int v7)]) : W p l e R s m args below meth c H locs 0 0 (QI below args s A D τ (wdM τ o.1 ad) o.2) (F0 m 279 ls []) := by
  obtain ⟨y20, e_y20, h⟩ := lt_some h
  refine lv_iinc (v := y20) (lv' := [(7, .int y20), (0, .ref (ad 64)), (1, .int v1), (2, .int v2), (3, .int v3), (4, .int v4), (5, .int v5), (6, .int v6)]) E.x E.b d_Ptm_clear_279 hl (k := 7) rfl (e_y20) (by decide) rfl (fun ls hl => ?_)
  refine lv_goto (tgt := 76) E.x E.b d_Ptm_clear_282 (by decide) ?_
  exact hr_76 σ v1 v2 v3 v4 v5 v6 y20 _ _ _ h w (lv_sub hl [1, 2, 3, 4, 5, 6, 7, 0] rfl)
def F_Ptm_clear_276 (rc_56 : Sg → Int32 → Int32 → Int32 → Int32 → Int32 → Int32 → Option (Sg × Int32)) (rc_76 : Sg → Int32 → Int32 → Int32 → Int32 → Int32 → Int32 → Int32 → Option (Sg × Int32)) (σ : Sg) (v1 : Int32) (v2 : Int32) (v3 : Int32) (v4 : Int32) (v5 : Int32) (v6 : Int32) (v7 : Int32) (s1 : Int32) (s2 : Int32) (s3 : Int32) : Option (Sg × Int32) := bd (F_Ptm_writeStencil σ s1 s2 s3) (fun o21 => F_Ptm_clear_279 rc_56 rc_76 o21 v1 v2 v3 v4 v5 v6 v7)
set_option maxRecDepth 10000 in
set_option maxHeartbeats 4000000 in
theorem bt_Ptm_clear_276 {p : Program} {l : Launch} {e : Env} {R : Room} {s : State} {m : MethodId} {args : Array Value} {below : List Frame} {meth : Method} {c : Code} {D : va_G} {τ : ClassId × ClassId × ClassId} {B : Nat} {A : Nat → Prop} {ad : Nat → Nat} (E : Cx p R s m args meth c prog_17_method_16_code 11 "DrawingMachineModel$PlaceTestsModel" 2 D τ B A) (hret : meth.sig.returnType = (some .int)) (o : Sg × Int32) (rc_56 : Sg → Int32 → Int32 → Int32 → Int32 → Int32 → Int32 → Option (Sg × Int32)) (rc_76 : Sg → Int32 → Int32 → Int32 → Int32 → Int32 → Int32 → Int32 → Option (Sg × Int32)) (hr_56 : ∀ (σ : Sg) (v1 : Int32) (v2 : Int32) (v3 : Int32) (v4 : Int32) (v5 : Int32) (v6 : Int32) (H : Heap) (locs : List Loc) (ls : Array Slot), rc_56 σ v1 v2 v3 v4 v5 v6 = some o → Wd s D A (wdM τ σ ad) H locs → lv_has ls 11 [(0, .ref (ad 64)), (1, .int v1), (2, .int v2), (3, .int v3), (4, .int v4), (5, .int v5), (6, .int v6)] → W p l e R s m args below meth c H locs 0 0 (QI below args s A D τ (wdM τ o.1 ad) o.2) (F0 m 56 ls [])) (hr_76 : ∀ (σ : Sg) (v1 : Int32) (v2 : Int32) (v3 : Int32) (v4 : Int32) (v5 : Int32) (v6 : Int32) (v7 : Int32) (H : Heap) (locs : List Loc) (ls : Array Slot), rc_76 σ v1 v2 v3 v4 v5 v6 v7 = some o → Wd s D A (wdM τ σ ad) H locs → lv_has ls 11 [(0, .ref (ad 64)), (1, .int v1), (2, .int v2), (3, .int v3), (4, .int v4), (5, .int v5), (6, .int v6), (7, .int v7)] → W p l e R s m args below meth c H locs 0 0 (QI below args s A D τ (wdM τ o.1 ad) o.2) (F0 m 76 ls [])) (σ : Sg) (v1 : Int32) (v2 : Int32) (v3 : Int32) (v4 : Int32) (v5 : Int32) (v6 : Int32) (v7 : Int32) (s1 : Int32) (s2 : Int32) (s3 : Int32) (h : F_Ptm_clear_276 rc_56 rc_76 σ v1 v2 v3 v4 v5 v6 v7 s1 s2 s3 = some o) {H : Heap} {locs : List Loc} {ls : Array Slot} (w : Wd s D A (wdM τ σ ad) H locs) (hl : lv_has ls 11 [(0, .ref (ad 64)), (1, .int v1), (2, .int v2), (3, .int v3), (4, .int v4), (5, .int v5), (6, .int v6), (7, .int v7)]) : W p l e R s m args below meth c H locs 0 0 (QI below args s A D τ (wdM τ o.1 ad) o.2) (F0 m 276 ls [.int s3, .int s2, .int s1, .ref (ad 64)]) := by
  obtain ⟨o21, h_o21, h⟩ := bd_some h
  refine clV_Ptm_writeStencil E w (x0 := s1) (x1 := s2) (x2 := s3) h_o21 k2076 (by decide) hl.1 (Nat.le_of_ble_eq_true rfl) d_Ptm_clear_276 (fun H locs w => ?_)
  exact bt_Ptm_clear_279 E hret o rc_56 rc_76 hr_56 hr_76 o21 v1 v2 v3 v4 v5 v6 v7 h w (lv_sub hl [0, 1, 2, 3, 4, 5, 6, 7] rfl)
def F_Ptm_clear_241 (rc_56 : Sg → Int32 → Int32 → Int32 → Int32 → Int32 → Int32 → Option (Sg × Int32)) (rc_76 : Sg → Int32 → Int32 → Int32 → Int32 → Int32 → Int32 → Int32 → Option (Sg × Int32)) (σ : Sg) (v1 : Int32) (v2 : Int32) (v3 : Int32) (v4 : Int32) (v5 : Int32) (v6 : Int32) (v7 : Int32) (v8 : Int32) (s1 : Int32) (s2 : Int32) : Option (Sg × Int32) := ck (inb s1 16384) (lt (sA σ 46 (upd (σ.2.2.1 46) s1.toNatClampNeg s2)) (fun σ23 => if (v1 &&& 4) = (4 : Int32) then (if (σ23.2.2.1 49 0) = (-1) then (F_Ptm_clear_276 rc_56 rc_76 σ23 v1 v2 v3 v4 v5 v6 v7 v8 v4 255) else (F_Ptm_clear_276 rc_56 rc_76 σ23 v1 v2 v3 v4 v5 v6 v7 v8 v4 (σ23.2.2.1 49 3))) else (F_Ptm_clear_279 rc_56 rc_76 σ23 v1 v2 v3 v4 v5 v6 v7)))
set_option maxRecDepth 10000 in
set_option maxHeartbeats 4000000 in
theorem bt_Ptm_clear_241 {p : Program} {l : Launch} {e : Env} {R : Room} {s : State} {m : MethodId} {args : Array Value} {below : List Frame} {meth : Method} {c : Code} {D : va_G} {τ : ClassId × ClassId × ClassId} {B : Nat} {A : Nat → Prop} {ad : Nat → Nat} (E : Cx p R s m args meth c prog_17_method_16_code 11 "DrawingMachineModel$PlaceTestsModel" 2 D τ B A) (hret : meth.sig.returnType = (some .int)) (o : Sg × Int32) (rc_56 : Sg → Int32 → Int32 → Int32 → Int32 → Int32 → Int32 → Option (Sg × Int32)) (rc_76 : Sg → Int32 → Int32 → Int32 → Int32 → Int32 → Int32 → Int32 → Option (Sg × Int32)) (hr_56 : ∀ (σ : Sg) (v1 : Int32) (v2 : Int32) (v3 : Int32) (v4 : Int32) (v5 : Int32) (v6 : Int32) (H : Heap) (locs : List Loc) (ls : Array Slot), rc_56 σ v1 v2 v3 v4 v5 v6 = some o → Wd s D A (wdM τ σ ad) H locs → lv_has ls 11 [(0, .ref (ad 64)), (1, .int v1), (2, .int v2), (3, .int v3), (4, .int v4), (5, .int v5), (6, .int v6)] → W p l e R s m args below meth c H locs 0 0 (QI below args s A D τ (wdM τ o.1 ad) o.2) (F0 m 56 ls [])) (hr_76 : ∀ (σ : Sg) (v1 : Int32) (v2 : Int32) (v3 : Int32) (v4 : Int32) (v5 : Int32) (v6 : Int32) (v7 : Int32) (H : Heap) (locs : List Loc) (ls : Array Slot), rc_76 σ v1 v2 v3 v4 v5 v6 v7 = some o → Wd s D A (wdM τ σ ad) H locs → lv_has ls 11 [(0, .ref (ad 64)), (1, .int v1), (2, .int v2), (3, .int v3), (4, .int v4), (5, .int v5), (6, .int v6), (7, .int v7)] → W p l e R s m args below meth c H locs 0 0 (QI below args s A D τ (wdM τ o.1 ad) o.2) (F0 m 76 ls [])) (σ : Sg) (v1 : Int32) (v2 : Int32) (v3 : Int32) (v4 : Int32) (v5 : Int32) (v6 : Int32) (v7 : Int32) (v8 : Int32) (s1 : Int32) (s2 : Int32) (h : F_Ptm_clear_241 rc_56 rc_76 σ v1 v2 v3 v4 v5 v6 v7 v8 s1 s2 = some o) {H : Heap} {locs : List Loc} {ls : Array Slot} (w : Wd s D A (wdM τ σ ad) H locs) (hl : lv_has ls 11 [(0, .ref (ad 64)), (1, .int v1), (2, .int v2), (3, .int v3), (4, .int v4), (5, .int v5), (6, .int v6), (7, .int v7), (8, .int v8)]) : W p l e R s m args below meth c H locs 0 0 (QI below args s A D τ (wdM τ o.1 ad) o.2) (F0 m 241 ls [.int s2, .int s1, .ref (ad 46)]) := by
  obtain ⟨c22, h⟩ := ck_some h
  obtain ⟨σ23, e_σ23, h⟩ := lt_some h
  refine iasM E w (k := 46) (by decide) c22 e_σ23 d_Ptm_clear_241 (fun H locs w => ?_)
  refine lv_iload_n E.x E.b d_Ptm_clear_242 rfl (lv_at hl 1 rfl) ?_
  refine lv_iconst (v := 4) E.x E.b d_Ptm_clear_243 (by decide) ?_
  refine lv_iand E.x E.b d_Ptm_clear_244 ?_
  refine lv_iconst (v := 4) E.x E.b d_Ptm_clear_245 (by decide) ?_
  refine lv_icmp_ne (tgt := 279) E.x E.b d_Ptm_clear_246 (by decide) (fun c => ?_) (fun c => ?_)
  ·
    replace h := ifF c h
    exact bt_Ptm_clear_279 E hret o rc_56 rc_76 hr_56 hr_76 σ23 v1 v2 v3 v4 v5 v6 v7 h w (lv_sub hl [0, 1, 2, 3, 4, 5, 6, 7] rfl)
  ·
    replace h := ifT c h
    refine lv_aload_n E.x E.b d_Ptm_clear_249 rfl (lv_at hl 0 rfl) ?_
    refine lv_iload E.x E.b d_Ptm_clear_250 (lv_at hl 8 rfl) ?_
    refine lv_iload E.x E.b d_Ptm_clear_252 (lv_at hl 4 rfl) ?_
    refine lv_aload_n E.x E.b d_Ptm_clear_254 rfl (lv_at hl 0 rfl) ?_
    refine gM_Ptm_stencil E w k1710 d_Ptm_clear_255 ?_
    refine lv_iconst (v := 0) E.x E.b d_Ptm_clear_258 (by decide) ?_
    refine ialM E w (k := 49) (by decide) (show inb 0 14 by decide) d_Ptm_clear_259 ?_
    refine wi_e (v := σ23.2.2.1 49 0) rfl ?_
    refine lv_iconst (v := (-1)) E.x E.b d_Ptm_clear_260 (by decide) ?_
    refine lv_icmp_ne (tgt := 270) E.x E.b d_Ptm_clear_261 (by decide) (fun c => ?_) (fun c => ?_)
    ·
      replace h := ifF c h
      refine lv_aload_n E.x E.b d_Ptm_clear_270 rfl (lv_at hl 0 rfl) ?_
      refine gM_Ptm_stencil E w k1710 d_Ptm_clear_271 ?_
      refine lv_iconst (v := 3) E.x E.b d_Ptm_clear_274 (by decide) ?_
      refine ialM E w (k := 49) (by decide) (show inb 3 14 by decide) d_Ptm_clear_275 ?_
      refine wi_e (v := σ23.2.2.1 49 3) rfl ?_
      exact bt_Ptm_clear_276 E hret o rc_56 rc_76 hr_56 hr_76 σ23 v1 v2 v3 v4 v5 v6 v7 v8 v4 (σ23.2.2.1 49 3) h w (lv_sub hl [0, 1, 2, 3, 4, 5, 6, 7] rfl)
    ·
      replace h := ifT c h
      refine lv_sipush (v := 255) E.x E.b d_Ptm_clear_264 (by decide) ?_
      refine lv_goto (tgt := 276) E.x E.b d_Ptm_clear_267 (by decide) ?_
      exact bt_Ptm_clear_276 E hret o rc_56 rc_76 hr_56 hr_76 σ23 v1 v2 v3 v4 v5 v6 v7 v8 v4 255 h w (lv_sub hl [0, 1, 2, 3, 4, 5, 6, 7] rfl)
def F_Ptm_clear_234 (rc_56 : Sg → Int32 → Int32 → Int32 → Int32 → Int32 → Int32 → Option (Sg × Int32)) (rc_76 : Sg → Int32 → Int32 → Int32 → Int32 → Int32 → Int32 → Int32 → Option (Sg × Int32)) (σ : Sg) (v1 : Int32) (v2 : Int32) (v3 : Int32) (v4 : Int32) (v5 : Int32) (v6 : Int32) (v7 : Int32) (v8 : Int32) (s1 : Int32) : Option (Sg × Int32) := ck (inb v8 16384) (F_Ptm_clear_241 rc_56 rc_76 σ v1 v2 v3 v4 v5 v6 v7 v8 s1 (σ.2.2.1 46 v8.toNatClampNeg))
set_option maxRecDepth 10000 in
set_option maxHeartbeats 4000000 in
theorem bt_Ptm_clear_234 {p : Program} {l : Launch} {e : Env} {R : Room} {s : State} {m : MethodId} {args : Array Value} {below : List Frame} {meth : Method} {c : Code} {D : va_G} {τ : ClassId × ClassId × ClassId} {B : Nat} {A : Nat → Prop} {ad : Nat → Nat} (E : Cx p R s m args meth c prog_17_method_16_code 11 "DrawingMachineModel$PlaceTestsModel" 2 D τ B A) (hret : meth.sig.returnType = (some .int)) (o : Sg × Int32) (rc_56 : Sg → Int32 → Int32 → Int32 → Int32 → Int32 → Int32 → Option (Sg × Int32)) (rc_76 : Sg → Int32 → Int32 → Int32 → Int32 → Int32 → Int32 → Int32 → Option (Sg × Int32)) (hr_56 : ∀ (σ : Sg) (v1 : Int32) (v2 : Int32) (v3 : Int32) (v4 : Int32) (v5 : Int32) (v6 : Int32) (H : Heap) (locs : List Loc) (ls : Array Slot), rc_56 σ v1 v2 v3 v4 v5 v6 = some o → Wd s D A (wdM τ σ ad) H locs → lv_has ls 11 [(0, .ref (ad 64)), (1, .int v1), (2, .int v2), (3, .int v3), (4, .int v4), (5, .int v5), (6, .int v6)] → W p l e R s m args below meth c H locs 0 0 (QI below args s A D τ (wdM τ o.1 ad) o.2) (F0 m 56 ls [])) (hr_76 : ∀ (σ : Sg) (v1 : Int32) (v2 : Int32) (v3 : Int32) (v4 : Int32) (v5 : Int32) (v6 : Int32) (v7 : Int32) (H : Heap) (locs : List Loc) (ls : Array Slot), rc_76 σ v1 v2 v3 v4 v5 v6 v7 = some o → Wd s D A (wdM τ σ ad) H locs → lv_has ls 11 [(0, .ref (ad 64)), (1, .int v1), (2, .int v2), (3, .int v3), (4, .int v4), (5, .int v5), (6, .int v6), (7, .int v7)] → W p l e R s m args below meth c H locs 0 0 (QI below args s A D τ (wdM τ o.1 ad) o.2) (F0 m 76 ls [])) (σ : Sg) (v1 : Int32) (v2 : Int32) (v3 : Int32) (v4 : Int32) (v5 : Int32) (v6 : Int32) (v7 : Int32) (v8 : Int32) (s1 : Int32) (h : F_Ptm_clear_234 rc_56 rc_76 σ v1 v2 v3 v4 v5 v6 v7 v8 s1 = some o) {H : Heap} {locs : List Loc} {ls : Array Slot} (w : Wd s D A (wdM τ σ ad) H locs) (hl : lv_has ls 11 [(0, .ref (ad 64)), (1, .int v1), (2, .int v2), (3, .int v3), (4, .int v4), (5, .int v5), (6, .int v6), (7, .int v7), (8, .int v8)]) : W p l e R s m args below meth c H locs 0 0 (QI below args s A D τ (wdM τ o.1 ad) o.2) (F0 m 234 ls [.int s1, .ref (ad 46)]) := by
  refine lv_aload_n E.x E.b d_Ptm_clear_234 rfl (lv_at hl 0 rfl) ?_
  refine gM_Ptm_depths E w k1704 d_Ptm_clear_235 ?_
  refine lv_iload E.x E.b d_Ptm_clear_238 (lv_at hl 8 rfl) ?_
  obtain ⟨c24, h⟩ := ck_some h
  refine ialM E w (k := 46) (by decide) c24 d_Ptm_clear_240 ?_
  exact bt_Ptm_clear_241 E hret o rc_56 rc_76 hr_56 hr_76 σ v1 v2 v3 v4 v5 v6 v7 v8 s1 (σ.2.2.1 46 v8.toNatClampNeg) h w (lv_sub hl [0, 1, 2, 3, 4, 5, 6, 7, 8] rfl)
def F_Ptm_clear_230 (rc_56 : Sg → Int32 → Int32 → Int32 → Int32 → Int32 → Int32 → Option (Sg × Int32)) (rc_76 : Sg → Int32 → Int32 → Int32 → Int32 → Int32 → Int32 → Int32 → Option (Sg × Int32)) (σ : Sg) (v1 : Int32) (v2 : Int32) (v3 : Int32) (v4 : Int32) (v5 : Int32) (v6 : Int32) (v7 : Int32) (v8 : Int32) (s1 : Int32) : Option (Sg × Int32) := F_Ptm_clear_241 rc_56 rc_76 σ v1 v2 v3 v4 v5 v6 v7 v8 s1 v3
set_option maxRecDepth 10000 in
set_option maxHeartbeats 4000000 in
theorem bt_Ptm_clear_230 {p : Program} {l : Launch} {e : Env} {R : Room} {s : State} {m : MethodId} {args : Array Value} {below : List Frame} {meth : Method} {c : Code} {D : va_G} {τ : ClassId × ClassId × ClassId} {B : Nat} {A : Nat → Prop} {ad : Nat → Nat} (E : Cx p R s m args meth c prog_17_method_16_code 11 "DrawingMachineModel$PlaceTestsModel" 2 D τ B A) (hret : meth.sig.returnType = (some .int)) (o : Sg × Int32) (rc_56 : Sg → Int32 → Int32 → Int32 → Int32 → Int32 → Int32 → Option (Sg × Int32)) (rc_76 : Sg → Int32 → Int32 → Int32 → Int32 → Int32 → Int32 → Int32 → Option (Sg × Int32)) (hr_56 : ∀ (σ : Sg) (v1 : Int32) (v2 : Int32) (v3 : Int32) (v4 : Int32) (v5 : Int32) (v6 : Int32) (H : Heap) (locs : List Loc) (ls : Array Slot), rc_56 σ v1 v2 v3 v4 v5 v6 = some o → Wd s D A (wdM τ σ ad) H locs → lv_has ls 11 [(0, .ref (ad 64)), (1, .int v1), (2, .int v2), (3, .int v3), (4, .int v4), (5, .int v5), (6, .int v6)] → W p l e R s m args below meth c H locs 0 0 (QI below args s A D τ (wdM τ o.1 ad) o.2) (F0 m 56 ls [])) (hr_76 : ∀ (σ : Sg) (v1 : Int32) (v2 : Int32) (v3 : Int32) (v4 : Int32) (v5 : Int32) (v6 : Int32) (v7 : Int32) (H : Heap) (locs : List Loc) (ls : Array Slot), rc_76 σ v1 v2 v3 v4 v5 v6 v7 = some o → Wd s D A (wdM τ σ ad) H locs → lv_has ls 11 [(0, .ref (ad 64)), (1, .int v1), (2, .int v2), (3, .int v3), (4, .int v4), (5, .int v5), (6, .int v6), (7, .int v7)] → W p l e R s m args below meth c H locs 0 0 (QI below args s A D τ (wdM τ o.1 ad) o.2) (F0 m 76 ls [])) (σ : Sg) (v1 : Int32) (v2 : Int32) (v3 : Int32) (v4 : Int32) (v5 : Int32) (v6 : Int32) (v7 : Int32) (v8 : Int32) (s1 : Int32) (h : F_Ptm_clear_230 rc_56 rc_76 σ v1 v2 v3 v4 v5 v6 v7 v8 s1 = some o) {H : Heap} {locs : List Loc} {ls : Array Slot} (w : Wd s D A (wdM τ σ ad) H locs) (hl : lv_has ls 11 [(0, .ref (ad 64)), (1, .int v1), (2, .int v2), (3, .int v3), (4, .int v4), (5, .int v5), (6, .int v6), (7, .int v7), (8, .int v8)]) : W p l e R s m args below meth c H locs 0 0 (QI below args s A D τ (wdM τ o.1 ad) o.2) (F0 m 230 ls [.int s1, .ref (ad 46)]) := by
  refine lv_iload_n E.x E.b d_Ptm_clear_230 rfl (lv_at hl 3 rfl) ?_
  refine lv_goto (tgt := 241) E.x E.b d_Ptm_clear_231 (by decide) ?_
  exact bt_Ptm_clear_241 E hret o rc_56 rc_76 hr_56 hr_76 σ v1 v2 v3 v4 v5 v6 v7 v8 s1 v3 h w (lv_sub hl [0, 1, 2, 3, 4, 5, 6, 7, 8] rfl)
def F_Ptm_clear_195 (rc_56 : Sg → Int32 → Int32 → Int32 → Int32 → Int32 → Int32 → Option (Sg × Int32)) (rc_76 : Sg → Int32 → Int32 → Int32 → Int32 → Int32 → Int32 → Int32 → Option (Sg × Int32)) (rc_120 : Sg → Int32 → Int32 → Int32 → Int32 → Int32 → Int32 → Int32 → Int32 → Int32 → Option (Sg × Int32)) (σ : Sg) (v1 : Int32) (v2 : Int32) (v3 : Int32) (v4 : Int32) (v5 : Int32) (v6 : Int32) (v7 : Int32) (v8 : Int32) (v9 : Int32) (s1 : Int32) (s2 : Int32) : Option (Sg × Int32) := ck (inb s1 65536) (lt (sA σ 45 (upd (σ.2.2.1 45) s1.toNatClampNeg s2)) (fun σ26 => lt (v9 + 1) (fun y27 => rc_120 σ26 v1 v2 v3 v4 v5 v6 v7 v8 y27)))
set_option maxRecDepth 10000 in
set_option maxHeartbeats 4000000 in
theorem bt_Ptm_clear_195 {p : Program} {l : Launch} {e : Env} {R : Room} {s : State} {m : MethodId} {args : Array Value} {below : List Frame} {meth : Method} {c : Code} {D : va_G} {τ : ClassId × ClassId × ClassId} {B : Nat} {A : Nat → Prop} {ad : Nat → Nat} (E : Cx p R s m args meth c prog_17_method_16_code 11 "DrawingMachineModel$PlaceTestsModel" 2 D τ B A) (hret : meth.sig.returnType = (some .int)) (o : Sg × Int32) (rc_56 : Sg → Int32 → Int32 → Int32 → Int32 → Int32 → Int32 → Option (Sg × Int32)) (rc_76 : Sg → Int32 → Int32 → Int32 → Int32 → Int32 → Int32 → Int32 → Option (Sg × Int32)) (rc_120 : Sg → Int32 → Int32 → Int32 → Int32 → Int32 → Int32 → Int32 → Int32 → Int32 → Option (Sg × Int32)) (hr_56 : ∀ (σ : Sg) (v1 : Int32) (v2 : Int32) (v3 : Int32) (v4 : Int32) (v5 : Int32) (v6 : Int32) (H : Heap) (locs : List Loc) (ls : Array Slot), rc_56 σ v1 v2 v3 v4 v5 v6 = some o → Wd s D A (wdM τ σ ad) H locs → lv_has ls 11 [(0, .ref (ad 64)), (1, .int v1), (2, .int v2), (3, .int v3), (4, .int v4), (5, .int v5), (6, .int v6)] → W p l e R s m args below meth c H locs 0 0 (QI below args s A D τ (wdM τ o.1 ad) o.2) (F0 m 56 ls [])) (hr_76 : ∀ (σ : Sg) (v1 : Int32) (v2 : Int32) (v3 : Int32) (v4 : Int32) (v5 : Int32) (v6 : Int32) (v7 : Int32) (H : Heap) (locs : List Loc) (ls : Array Slot), rc_76 σ v1 v2 v3 v4 v5 v6 v7 = some o → Wd s D A (wdM τ σ ad) H locs → lv_has ls 11 [(0, .ref (ad 64)), (1, .int v1), (2, .int v2), (3, .int v3), (4, .int v4), (5, .int v5), (6, .int v6), (7, .int v7)] → W p l e R s m args below meth c H locs 0 0 (QI below args s A D τ (wdM τ o.1 ad) o.2) (F0 m 76 ls [])) (hr_120 : ∀ (σ : Sg) (v1 : Int32) (v2 : Int32) (v3 : Int32) (v4 : Int32) (v5 : Int32) (v6 : Int32) (v7 : Int32) (v8 : Int32) (v9 : Int32) (H : Heap) (locs : List Loc) (ls : Array Slot), rc_120 σ v1 v2 v3 v4 v5 v6 v7 v8 v9 = some o → Wd s D A (wdM τ σ ad) H locs → lv_has ls 11 [(0, .ref (ad 64)), (1, .int v1), (2, .int v2), (3, .int v3), (4, .int v4), (5, .int v5), (6, .int v6), (7, .int v7), (8, .int v8), (9, .int v9)] → W p l e R s m args below meth c H locs 0 0 (QI below args s A D τ (wdM τ o.1 ad) o.2) (F0 m 120 ls [])) (σ : Sg) (v1 : Int32) (v2 : Int32) (v3 : Int32) (v4 : Int32) (v5 : Int32) (v6 : Int32) (v7 : Int32) (v8 : Int32) (v9 : Int32) (s1 : Int32) (s2 : Int32) (h : F_Ptm_clear_195 rc_56 rc_76 rc_120 σ v1 v2 v3 v4 v5 v6 v7 v8 v9 s1 s2 = some o) {H : Heap} {locs : List Loc} {ls : Array Slot} (w : Wd s D A (wdM τ σ ad) H locs) (hl : lv_has ls 11 [(0, .ref (ad 64)), (1, .int v1), (2, .int v2), (3, .int v3), (4, .int v4), (5, .int v5), (6, .int v6), (7, .int v7), (8, .int v8), (9, .int v9)]) : W p l e R s m args below meth c H locs 0 0 (QI below args s A D τ (wdM τ o.1 ad) o.2) (F0 m 195 ls [.int s2, .int s1, .ref (ad 45)]) := by
  obtain ⟨c25, h⟩ := ck_some h
  obtain ⟨σ26, e_σ26, h⟩ := lt_some h
  refine iasM E w (k := 45) (by decide) c25 e_σ26 d_Ptm_clear_195 (fun H locs w => ?_)
  obtain ⟨y27, e_y27, h⟩ := lt_some h
  refine lv_iinc (v := y27) (lv' := [(9, .int y27), (0, .ref (ad 64)), (1, .int v1), (2, .int v2), (3, .int v3), (4, .int v4), (5, .int v5), (6, .int v6), (7, .int v7), (8, .int v8)]) E.x E.b d_Ptm_clear_196 hl (k := 9) rfl (e_y27) (by decide) rfl (fun ls hl => ?_)
  refine lv_goto (tgt := 120) E.x E.b d_Ptm_clear_199 (by decide) ?_
  exact hr_120 σ26 v1 v2 v3 v4 v5 v6 v7 v8 y27 _ _ _ h w (lv_sub hl [1, 2, 3, 4, 5, 6, 7, 8, 9, 0] rfl)
def F_Ptm_clear_151 (rc_56 : Sg → Int32 → Int32 → Int32 → Int32 → Int32 → Int32 → Option (Sg × Int32)) (rc_76 : Sg → Int32 → Int32 → Int32 → Int32 → Int32 → Int32 → Int32 → Option (Sg × Int32)) (rc_120 : Sg → Int32 → Int32 → Int32 → Int32 → Int32 → Int32 → Int32 → Int32 → Int32 → Option (Sg × Int32)) (σ : Sg) (v1 : Int32) (v2 : Int32) (v3 : Int32) (v4 : Int32) (v5 : Int32) (v6 : Int32) (v7 : Int32) (v8 : Int32) (v9 : Int32) (s0 : Int32) : Option (Sg × Int32) := if s0 = (0 : Int32) then (ck (inb ((4 * v8) + v9) 65536) (F_Ptm_clear_195 rc_56 rc_76 rc_120 σ v1 v2 v3 v4 v5 v6 v7 v8 v9 ((4 * v8) + v9) (σ.2.2.1 45 ((4 * v8) + v9).toNatClampNeg))) else (F_Ptm_clear_195 rc_56 rc_76 rc_120 σ v1 v2 v3 v4 v5 v6 v7 v8 v9 ((4 * v8) + v9) ((v2 >>> ((8 * v9) &&& 31) : Int32) &&& 255))
set_option maxRecDepth 10000 in
set_option maxHeartbeats 4000000 in
theorem bt_Ptm_clear_151 {p : Program} {l : Launch} {e : Env} {R : Room} {s : State} {m : MethodId} {args : Array Value} {below : List Frame} {meth : Method} {c : Code} {D : va_G} {τ : ClassId × ClassId × ClassId} {B : Nat} {A : Nat → Prop} {ad : Nat → Nat} (E : Cx p R s m args meth c prog_17_method_16_code 11 "DrawingMachineModel$PlaceTestsModel" 2 D τ B A) (hret : meth.sig.returnType = (some .int)) (o : Sg × Int32) (rc_56 : Sg → Int32 → Int32 → Int32 → Int32 → Int32 → Int32 → Option (Sg × Int32)) (rc_76 : Sg → Int32 → Int32 → Int32 → Int32 → Int32 → Int32 → Int32 → Option (Sg × Int32)) (rc_120 : Sg → Int32 → Int32 → Int32 → Int32 → Int32 → Int32 → Int32 → Int32 → Int32 → Option (Sg × Int32)) (hr_56 : ∀ (σ : Sg) (v1 : Int32) (v2 : Int32) (v3 : Int32) (v4 : Int32) (v5 : Int32) (v6 : Int32) (H : Heap) (locs : List Loc) (ls : Array Slot), rc_56 σ v1 v2 v3 v4 v5 v6 = some o → Wd s D A (wdM τ σ ad) H locs → lv_has ls 11 [(0, .ref (ad 64)), (1, .int v1), (2, .int v2), (3, .int v3), (4, .int v4), (5, .int v5), (6, .int v6)] → W p l e R s m args below meth c H locs 0 0 (QI below args s A D τ (wdM τ o.1 ad) o.2) (F0 m 56 ls [])) (hr_76 : ∀ (σ : Sg) (v1 : Int32) (v2 : Int32) (v3 : Int32) (v4 : Int32) (v5 : Int32) (v6 : Int32) (v7 : Int32) (H : Heap) (locs : List Loc) (ls : Array Slot), rc_76 σ v1 v2 v3 v4 v5 v6 v7 = some o → Wd s D A (wdM τ σ ad) H locs → lv_has ls 11 [(0, .ref (ad 64)), (1, .int v1), (2, .int v2), (3, .int v3), (4, .int v4), (5, .int v5), (6, .int v6), (7, .int v7)] → W p l e R s m args below meth c H locs 0 0 (QI below args s A D τ (wdM τ o.1 ad) o.2) (F0 m 76 ls [])) (hr_120 : ∀ (σ : Sg) (v1 : Int32) (v2 : Int32) (v3 : Int32) (v4 : Int32) (v5 : Int32) (v6 : Int32) (v7 : Int32) (v8 : Int32) (v9 : Int32) (H : Heap) (locs : List Loc) (ls : Array Slot), rc_120 σ v1 v2 v3 v4 v5 v6 v7 v8 v9 = some o → Wd s D A (wdM τ σ ad) H locs → lv_has ls 11 [(0, .ref (ad 64)), (1, .int v1), (2, .int v2), (3, .int v3), (4, .int v4), (5, .int v5), (6, .int v6), (7, .int v7), (8, .int v8), (9, .int v9)] → W p l e R s m args below meth c H locs 0 0 (QI below args s A D τ (wdM τ o.1 ad) o.2) (F0 m 120 ls [])) (σ : Sg) (v1 : Int32) (v2 : Int32) (v3 : Int32) (v4 : Int32) (v5 : Int32) (v6 : Int32) (v7 : Int32) (v8 : Int32) (v9 : Int32) (s0 : Int32) (h : F_Ptm_clear_151 rc_56 rc_76 rc_120 σ v1 v2 v3 v4 v5 v6 v7 v8 v9 s0 = some o) {H : Heap} {locs : List Loc} {ls : Array Slot} (w : Wd s D A (wdM τ σ ad) H locs) (hl : lv_has ls 11 [(0, .ref (ad 64)), (1, .int v1), (2, .int v2), (3, .int v3), (4, .int v4), (5, .int v5), (6, .int v6), (7, .int v7), (8, .int v8), (9, .int v9)]) : W p l e R s m args below meth c H locs 0 0 (QI below args s A D τ (wdM τ o.1 ad) o.2) (F0 m 151 ls [.int s0]) := by
  refine lv_istore (lv' := [(10, .int s0), (0, .ref (ad 64)), (1, .int v1), (2, .int v2), (3, .int v3), (4, .int v4), (5, .int v5), (6, .int v6), (7, .int v7), (8, .int v8), (9, .int v9)]) E.x E.b d_Ptm_clear_151 hl (by decide) rfl (fun ls hl => ?_)
  refine lv_aload_n E.x E.b d_Ptm_clear_153 rfl (lv_at hl 1 rfl) ?_
  refine gM_Ptm_channels E w k1703 d_Ptm_clear_154 ?_
  refine lv_iconst (v := 4) E.x E.b d_Ptm_clear_157 (by decide) ?_
  refine lv_iload E.x E.b d_Ptm_clear_158 (lv_at hl 9 rfl) ?_
  refine lv_imul E.x E.b d_Ptm_clear_160 ?_
  refine lv_iload E.x E.b d_Ptm_clear_161 (lv_at hl 10 rfl) ?_
  refine lv_iadd E.x E.b d_Ptm_clear_163 ?_
  refine lv_iload E.x E.b d_Ptm_clear_164 (lv_at hl 0 rfl) ?_
  refine lv_if_eq (tgt := 183) E.x E.b d_Ptm_clear_166 (by decide) (fun c => ?_) (fun c => ?_)
  ·
    replace h := ifT c h
    refine lv_aload_n E.x E.b d_Ptm_clear_183 rfl (lv_at hl 1 rfl) ?_
    refine gM_Ptm_channels E w k1703 d_Ptm_clear_184 ?_
    refine lv_iconst (v := 4) E.x E.b d_Ptm_clear_187 (by decide) ?_
    refine lv_iload E.x E.b d_Ptm_clear_188 (lv_at hl 9 rfl) ?_
    refine lv_imul E.x E.b d_Ptm_clear_190 ?_
    refine lv_iload E.x E.b d_Ptm_clear_191 (lv_at hl 10 rfl) ?_
    refine lv_iadd E.x E.b d_Ptm_clear_193 ?_
    obtain ⟨c28, h⟩ := ck_some h
    refine ialM E w (k := 45) (by decide) c28 d_Ptm_clear_194 ?_
    exact bt_Ptm_clear_195 E hret o rc_56 rc_76 rc_120 hr_56 hr_76 hr_120 σ v1 v2 v3 v4 v5 v6 v7 v8 v9 ((4 * v8) + v9) (σ.2.2.1 45 ((4 * v8) + v9).toNatClampNeg) h w (lv_sub hl [1, 2, 3, 4, 5, 6, 7, 8, 9, 10] rfl)
  ·
    replace h := ifF c h
    refine lv_iload_n E.x E.b d_Ptm_clear_169 rfl (lv_at hl 3 rfl) ?_
    refine lv_bipush (v := 8) E.x E.b d_Ptm_clear_170 (by decide) ?_
    refine lv_iload E.x E.b d_Ptm_clear_172 (lv_at hl 10 rfl) ?_
    refine lv_imul E.x E.b d_Ptm_clear_174 ?_
    refine lv_ishr E.x E.b d_Ptm_clear_175 ?_
    refine lv_sipush (v := 255) E.x E.b d_Ptm_clear_176 (by decide) ?_
    refine lv_iand E.x E.b d_Ptm_clear_179 ?_
    refine lv_goto (tgt := 195) E.x E.b d_Ptm_clear_180 (by decide) ?_
    exact bt_Ptm_clear_195 E hret o rc_56 rc_76 rc_120 hr_56 hr_76 hr_120 σ v1 v2 v3 v4 v5 v6 v7 v8 v9 ((4 * v8) + v9) ((v2 >>> ((8 * v9) &&& 31) : Int32) &&& 255) h w (lv_sub hl [1, 2, 3, 4, 5, 6, 7, 8, 9, 10] rfl)
def F_Ptm_clear_150 (rc_56 : Sg → Int32 → Int32 → Int32 → Int32 → Int32 → Int32 → Option (Sg × Int32)) (rc_76 : Sg → Int32 → Int32 → Int32 → Int32 → Int32 → Int32 → Int32 → Option (Sg × Int32)) (rc_120 : Sg → Int32 → Int32 → Int32 → Int32 → Int32 → Int32 → Int32 → Int32 → Int32 → Option (Sg × Int32)) (σ : Sg) (v1 : Int32) (v2 : Int32) (v3 : Int32) (v4 : Int32) (v5 : Int32) (v6 : Int32) (v7 : Int32) (v8 : Int32) (v9 : Int32) : Option (Sg × Int32) := F_Ptm_clear_151 rc_56 rc_76 rc_120 σ v1 v2 v3 v4 v5 v6 v7 v8 v9 0
set_option maxRecDepth 10000 in
set_option maxHeartbeats 4000000 in
theorem bt_Ptm_clear_150 {p : Program} {l : Launch} {e : Env} {R : Room} {s : State} {m : MethodId} {args : Array Value} {below : List Frame} {meth : Method} {c : Code} {D : va_G} {τ : ClassId × ClassId × ClassId} {B : Nat} {A : Nat → Prop} {ad : Nat → Nat} (E : Cx p R s m args meth c prog_17_method_16_code 11 "DrawingMachineModel$PlaceTestsModel" 2 D τ B A) (hret : meth.sig.returnType = (some .int)) (o : Sg × Int32) (rc_56 : Sg → Int32 → Int32 → Int32 → Int32 → Int32 → Int32 → Option (Sg × Int32)) (rc_76 : Sg → Int32 → Int32 → Int32 → Int32 → Int32 → Int32 → Int32 → Option (Sg × Int32)) (rc_120 : Sg → Int32 → Int32 → Int32 → Int32 → Int32 → Int32 → Int32 → Int32 → Int32 → Option (Sg × Int32)) (hr_56 : ∀ (σ : Sg) (v1 : Int32) (v2 : Int32) (v3 : Int32) (v4 : Int32) (v5 : Int32) (v6 : Int32) (H : Heap) (locs : List Loc) (ls : Array Slot), rc_56 σ v1 v2 v3 v4 v5 v6 = some o → Wd s D A (wdM τ σ ad) H locs → lv_has ls 11 [(0, .ref (ad 64)), (1, .int v1), (2, .int v2), (3, .int v3), (4, .int v4), (5, .int v5), (6, .int v6)] → W p l e R s m args below meth c H locs 0 0 (QI below args s A D τ (wdM τ o.1 ad) o.2) (F0 m 56 ls [])) (hr_76 : ∀ (σ : Sg) (v1 : Int32) (v2 : Int32) (v3 : Int32) (v4 : Int32) (v5 : Int32) (v6 : Int32) (v7 : Int32) (H : Heap) (locs : List Loc) (ls : Array Slot), rc_76 σ v1 v2 v3 v4 v5 v6 v7 = some o → Wd s D A (wdM τ σ ad) H locs → lv_has ls 11 [(0, .ref (ad 64)), (1, .int v1), (2, .int v2), (3, .int v3), (4, .int v4), (5, .int v5), (6, .int v6), (7, .int v7)] → W p l e R s m args below meth c H locs 0 0 (QI below args s A D τ (wdM τ o.1 ad) o.2) (F0 m 76 ls [])) (hr_120 : ∀ (σ : Sg) (v1 : Int32) (v2 : Int32) (v3 : Int32) (v4 : Int32) (v5 : Int32) (v6 : Int32) (v7 : Int32) (v8 : Int32) (v9 : Int32) (H : Heap) (locs : List Loc) (ls : Array Slot), rc_120 σ v1 v2 v3 v4 v5 v6 v7 v8 v9 = some o → Wd s D A (wdM τ σ ad) H locs → lv_has ls 11 [(0, .ref (ad 64)), (1, .int v1), (2, .int v2), (3, .int v3), (4, .int v4), (5, .int v5), (6, .int v6), (7, .int v7), (8, .int v8), (9, .int v9)] → W p l e R s m args below meth c H locs 0 0 (QI below args s A D τ (wdM τ o.1 ad) o.2) (F0 m 120 ls [])) (σ : Sg) (v1 : Int32) (v2 : Int32) (v3 : Int32) (v4 : Int32) (v5 : Int32) (v6 : Int32) (v7 : Int32) (v8 : Int32) (v9 : Int32) (h : F_Ptm_clear_150 rc_56 rc_76 rc_120 σ v1 v2 v3 v4 v5 v6 v7 v8 v9 = some o) {H : Heap} {locs : List Loc} {ls : Array Slot} (w : Wd s D A (wdM τ σ ad) H locs) (hl : lv_has ls 11 [(0, .ref (ad 64)), (1, .int v1), (2, .int v2), (3, .int v3), (4, .int v4), (5, .int v5), (6, .int v6), (7, .int v7), (8, .int v8), (9, .int v9)]) : W p l e R s m args below meth c H locs 0 0 (QI below args s A D τ (wdM τ o.1 ad) o.2) (F0 m 150 ls []) := by
  refine lv_iconst (v := 0) E.x E.b d_Ptm_clear_150 (by decide) ?_
  exact bt_Ptm_clear_151 E hret o rc_56 rc_76 rc_120 hr_56 hr_76 hr_120 σ v1 v2 v3 v4 v5 v6 v7 v8 v9 0 h w (lv_sub hl [0, 1, 2, 3, 4, 5, 6, 7, 8, 9] rfl)
def L_Ptm_clear_120 (rc_56 : Sg → Int32 → Int32 → Int32 → Int32 → Int32 → Int32 → Option (Sg × Int32)) (rc_76 : Sg → Int32 → Int32 → Int32 → Int32 → Int32 → Int32 → Int32 → Option (Sg × Int32)) : Nat → Sg → Int32 → Int32 → Int32 → Int32 → Int32 → Int32 → Int32 → Int32 → Int32 → Option (Sg × Int32)
  | 0, _, _, _, _, _, _, _, _, _, _ => none
  | n + 1, σ, v1, v2, v3, v4, v5, v6, v7, v8, v9 => if (4 : Int32) ≤ v9 then (if (v1 &&& 2) = (2 : Int32) then (if (σ.1 34) = (-1) then (F_Ptm_clear_230 rc_56 rc_76 σ v1 v2 v3 v4 v5 v6 v7 v8 v8) else (if (σ.1 35) = (0 : Int32) then (F_Ptm_clear_234 rc_56 rc_76 σ v1 v2 v3 v4 v5 v6 v7 v8 v8) else (F_Ptm_clear_230 rc_56 rc_76 σ v1 v2 v3 v4 v5 v6 v7 v8 v8))) else (F_Ptm_clear_234 rc_56 rc_76 σ v1 v2 v3 v4 v5 v6 v7 v8 v8)) else (if (v1 &&& 1) = (1 : Int32) then (if (((σ.1 39) >>> (v9 &&& 31) : Int32) &&& 1) = (1 : Int32) then (F_Ptm_clear_151 rc_56 rc_76 (L_Ptm_clear_120 rc_56 rc_76 n) σ v1 v2 v3 v4 v5 v6 v7 v8 v9 1) else (F_Ptm_clear_150 rc_56 rc_76 (L_Ptm_clear_120 rc_56 rc_76 n) σ v1 v2 v3 v4 v5 v6 v7 v8 v9)) else (F_Ptm_clear_150 rc_56 rc_76 (L_Ptm_clear_120 rc_56 rc_76 n) σ v1 v2 v3 v4 v5 v6 v7 v8 v9))
set_option maxRecDepth 10000 in
set_option maxHeartbeats 4000000 in
theorem lt_Ptm_clear_120 {p : Program} {l : Launch} {e : Env} {R : Room} {s : State} {m : MethodId} {args : Array Value} {below : List Frame} {meth : Method} {c : Code} {D : va_G} {τ : ClassId × ClassId × ClassId} {B : Nat} {A : Nat → Prop} {ad : Nat → Nat} (E : Cx p R s m args meth c prog_17_method_16_code 11 "DrawingMachineModel$PlaceTestsModel" 2 D τ B A) (hret : meth.sig.returnType = (some .int)) (o : Sg × Int32) (rc_56 : Sg → Int32 → Int32 → Int32 → Int32 → Int32 → Int32 → Option (Sg × Int32)) (rc_76 : Sg → Int32 → Int32 → Int32 → Int32 → Int32 → Int32 → Int32 → Option (Sg × Int32)) (hr_56 : ∀ (σ : Sg) (v1 : Int32) (v2 : Int32) (v3 : Int32) (v4 : Int32) (v5 : Int32) (v6 : Int32) (H : Heap) (locs : List Loc) (ls : Array Slot), rc_56 σ v1 v2 v3 v4 v5 v6 = some o → Wd s D A (wdM τ σ ad) H locs → lv_has ls 11 [(0, .ref (ad 64)), (1, .int v1), (2, .int v2), (3, .int v3), (4, .int v4), (5, .int v5), (6, .int v6)] → W p l e R s m args below meth c H locs 0 0 (QI below args s A D τ (wdM τ o.1 ad) o.2) (F0 m 56 ls [])) (hr_76 : ∀ (σ : Sg) (v1 : Int32) (v2 : Int32) (v3 : Int32) (v4 : Int32) (v5 : Int32) (v6 : Int32) (v7 : Int32) (H : Heap) (locs : List Loc) (ls : Array Slot), rc_76 σ v1 v2 v3 v4 v5 v6 v7 = some o → Wd s D A (wdM τ σ ad) H locs → lv_has ls 11 [(0, .ref (ad 64)), (1, .int v1), (2, .int v2), (3, .int v3), (4, .int v4), (5, .int v5), (6, .int v6), (7, .int v7)] → W p l e R s m args below meth c H locs 0 0 (QI below args s A D τ (wdM τ o.1 ad) o.2) (F0 m 76 ls [])) : ∀ (n : Nat) (σ : Sg) (v1 : Int32) (v2 : Int32) (v3 : Int32) (v4 : Int32) (v5 : Int32) (v6 : Int32) (v7 : Int32) (v8 : Int32) (v9 : Int32) (H : Heap) (locs : List Loc) (ls : Array Slot), L_Ptm_clear_120 rc_56 rc_76 n σ v1 v2 v3 v4 v5 v6 v7 v8 v9 = some o → Wd s D A (wdM τ σ ad) H locs → lv_has ls 11 [(0, .ref (ad 64)), (1, .int v1), (2, .int v2), (3, .int v3), (4, .int v4), (5, .int v5), (6, .int v6), (7, .int v7), (8, .int v8), (9, .int v9)] → W p l e R s m args below meth c H locs 0 0 (QI below args s A D τ (wdM τ o.1 ad) o.2) (F0 m 120 ls []) := by
  intro n
  induction n with
  | zero =>
    intro σ v1 v2 v3 v4 v5 v6 v7 v8 v9 H locs ls h w hl
    cases h
  | succ n hr_120 =>
    intro σ v1 v2 v3 v4 v5 v6 v7 v8 v9 H locs ls h w hl
    refine lv_iload E.x E.b d_Ptm_clear_120 (lv_at hl 9 rfl) ?_
    refine lv_iconst (v := 4) E.x E.b d_Ptm_clear_122 (by decide) ?_
    refine lv_icmp_ge (tgt := 202) E.x E.b d_Ptm_clear_123 (by decide) (fun c => ?_) (fun c => ?_)
    ·
      replace h := ifT c h
      refine lv_aload_n E.x E.b d_Ptm_clear_202 rfl (lv_at hl 0 rfl) ?_
      refine gM_Ptm_depths E w k1704 d_Ptm_clear_203 ?_
      refine lv_iload E.x E.b d_Ptm_clear_206 (lv_at hl 8 rfl) ?_
      refine lv_iload_n E.x E.b d_Ptm_clear_208 rfl (lv_at hl 1 rfl) ?_
      refine lv_iconst (v := 2) E.x E.b d_Ptm_clear_209 (by decide) ?_
      refine lv_iand E.x E.b d_Ptm_clear_210 ?_
      refine lv_iconst (v := 2) E.x E.b d_Ptm_clear_211 (by decide) ?_
      refine lv_icmp_ne (tgt := 234) E.x E.b d_Ptm_clear_212 (by decide) (fun c => ?_) (fun c => ?_)
      ·
        replace h := ifF c h
        exact bt_Ptm_clear_234 E hret o rc_56 rc_76 hr_56 hr_76 σ v1 v2 v3 v4 v5 v6 v7 v8 v8 h w (lv_sub hl [0, 1, 2, 3, 4, 5, 6, 7, 8] rfl)
      ·
        replace h := ifT c h
        refine lv_aload_n E.x E.b d_Ptm_clear_215 rfl (lv_at hl 0 rfl) ?_
        refine gM_Ptm_depthTest E w k1708 d_Ptm_clear_216 ?_
        refine lv_iconst (v := (-1)) E.x E.b d_Ptm_clear_219 (by decide) ?_
        refine lv_icmp_eq (tgt := 230) E.x E.b d_Ptm_clear_220 (by decide) (fun c => ?_) (fun c => ?_)
        ·
          replace h := ifT c h
          exact bt_Ptm_clear_230 E hret o rc_56 rc_76 hr_56 hr_76 σ v1 v2 v3 v4 v5 v6 v7 v8 v8 h w (lv_sub hl [0, 1, 2, 3, 4, 5, 6, 7, 8] rfl)
        ·
          replace h := ifF c h
          refine lv_aload_n E.x E.b d_Ptm_clear_223 rfl (lv_at hl 0 rfl) ?_
          refine gM_Ptm_depthWritten E w k1709 d_Ptm_clear_224 ?_
          refine lv_if_eq (tgt := 234) E.x E.b d_Ptm_clear_227 (by decide) (fun c => ?_) (fun c => ?_)
          ·
            replace h := ifT c h
            exact bt_Ptm_clear_234 E hret o rc_56 rc_76 hr_56 hr_76 σ v1 v2 v3 v4 v5 v6 v7 v8 v8 h w (lv_sub hl [0, 1, 2, 3, 4, 5, 6, 7, 8] rfl)
          ·
            replace h := ifF c h
            exact bt_Ptm_clear_230 E hret o rc_56 rc_76 hr_56 hr_76 σ v1 v2 v3 v4 v5 v6 v7 v8 v8 h w (lv_sub hl [0, 1, 2, 3, 4, 5, 6, 7, 8] rfl)
    ·
      replace h := ifF c h
      refine lv_iload_n E.x E.b d_Ptm_clear_126 rfl (lv_at hl 1 rfl) ?_
      refine lv_iconst (v := 1) E.x E.b d_Ptm_clear_127 (by decide) ?_
      refine lv_iand E.x E.b d_Ptm_clear_128 ?_
      refine lv_iconst (v := 1) E.x E.b d_Ptm_clear_129 (by decide) ?_
      refine lv_icmp_ne (tgt := 150) E.x E.b d_Ptm_clear_130 (by decide) (fun c => ?_) (fun c => ?_)
      ·
        replace h := ifF c h
        exact bt_Ptm_clear_150 E hret o rc_56 rc_76 (L_Ptm_clear_120 rc_56 rc_76 n) hr_56 hr_76 hr_120 σ v1 v2 v3 v4 v5 v6 v7 v8 v9 h w (lv_sub hl [0, 1, 2, 3, 4, 5, 6, 7, 8, 9] rfl)
      ·
        replace h := ifT c h
        refine lv_aload_n E.x E.b d_Ptm_clear_133 rfl (lv_at hl 0 rfl) ?_
        refine gM_Ptm_mask E w k1716 d_Ptm_clear_134 ?_
        refine lv_iload E.x E.b d_Ptm_clear_137 (lv_at hl 9 rfl) ?_
        refine lv_ishr E.x E.b d_Ptm_clear_139 ?_
        refine lv_iconst (v := 1) E.x E.b d_Ptm_clear_140 (by decide) ?_
        refine lv_iand E.x E.b d_Ptm_clear_141 ?_
        refine lv_iconst (v := 1) E.x E.b d_Ptm_clear_142 (by decide) ?_
        refine lv_icmp_ne (tgt := 150) E.x E.b d_Ptm_clear_143 (by decide) (fun c => ?_) (fun c => ?_)
        ·
          replace h := ifF c h
          exact bt_Ptm_clear_150 E hret o rc_56 rc_76 (L_Ptm_clear_120 rc_56 rc_76 n) hr_56 hr_76 hr_120 σ v1 v2 v3 v4 v5 v6 v7 v8 v9 h w (lv_sub hl [0, 1, 2, 3, 4, 5, 6, 7, 8, 9] rfl)
        ·
          replace h := ifT c h
          refine lv_iconst (v := 1) E.x E.b d_Ptm_clear_146 (by decide) ?_
          refine lv_goto (tgt := 151) E.x E.b d_Ptm_clear_147 (by decide) ?_
          exact bt_Ptm_clear_151 E hret o rc_56 rc_76 (L_Ptm_clear_120 rc_56 rc_76 n) hr_56 hr_76 hr_120 σ v1 v2 v3 v4 v5 v6 v7 v8 v9 1 h w (lv_sub hl [0, 1, 2, 3, 4, 5, 6, 7, 8, 9] rfl)
def L_Ptm_clear_76 (rc_56 : Sg → Int32 → Int32 → Int32 → Int32 → Int32 → Int32 → Option (Sg × Int32)) : Nat → Sg → Int32 → Int32 → Int32 → Int32 → Int32 → Int32 → Int32 → Option (Sg × Int32)
  | 0, _, _, _, _, _, _, _, _ => none
  | n + 1, σ, v1, v2, v3, v4, v5, v6, v7 => if ((σ.1 29) + (σ.1 31)) ≤ v7 then (lt (v6 + 1) (fun y29 => rc_56 σ v1 v2 v3 v4 v5 y29)) else (bd (F_Ptm_isOpen σ v7 v6) (fun o30 => if o30 = (0 : Int32) then (F_Ptm_clear_279 rc_56 (L_Ptm_clear_76 rc_56 n) σ v1 v2 v3 v4 v5 v6 v7) else (lt (v5 + 1) (fun y31 => bd (F_Ptm_placeOf σ v7 v6) (fun o32 => L_Ptm_clear_120 rc_56 (L_Ptm_clear_76 rc_56 n) 100000 σ v1 v2 v3 v4 y31 v6 v7 o32 0)))))
set_option maxRecDepth 10000 in
set_option maxHeartbeats 4000000 in
theorem lt_Ptm_clear_76 {p : Program} {l : Launch} {e : Env} {R : Room} {s : State} {m : MethodId} {args : Array Value} {below : List Frame} {meth : Method} {c : Code} {D : va_G} {τ : ClassId × ClassId × ClassId} {B : Nat} {A : Nat → Prop} {ad : Nat → Nat} (E : Cx p R s m args meth c prog_17_method_16_code 11 "DrawingMachineModel$PlaceTestsModel" 2 D τ B A) (hret : meth.sig.returnType = (some .int)) (o : Sg × Int32) (rc_56 : Sg → Int32 → Int32 → Int32 → Int32 → Int32 → Int32 → Option (Sg × Int32)) (hr_56 : ∀ (σ : Sg) (v1 : Int32) (v2 : Int32) (v3 : Int32) (v4 : Int32) (v5 : Int32) (v6 : Int32) (H : Heap) (locs : List Loc) (ls : Array Slot), rc_56 σ v1 v2 v3 v4 v5 v6 = some o → Wd s D A (wdM τ σ ad) H locs → lv_has ls 11 [(0, .ref (ad 64)), (1, .int v1), (2, .int v2), (3, .int v3), (4, .int v4), (5, .int v5), (6, .int v6)] → W p l e R s m args below meth c H locs 0 0 (QI below args s A D τ (wdM τ o.1 ad) o.2) (F0 m 56 ls [])) : ∀ (n : Nat) (σ : Sg) (v1 : Int32) (v2 : Int32) (v3 : Int32) (v4 : Int32) (v5 : Int32) (v6 : Int32) (v7 : Int32) (H : Heap) (locs : List Loc) (ls : Array Slot), L_Ptm_clear_76 rc_56 n σ v1 v2 v3 v4 v5 v6 v7 = some o → Wd s D A (wdM τ σ ad) H locs → lv_has ls 11 [(0, .ref (ad 64)), (1, .int v1), (2, .int v2), (3, .int v3), (4, .int v4), (5, .int v5), (6, .int v6), (7, .int v7)] → W p l e R s m args below meth c H locs 0 0 (QI below args s A D τ (wdM τ o.1 ad) o.2) (F0 m 76 ls []) := by
  intro n
  induction n with
  | zero =>
    intro σ v1 v2 v3 v4 v5 v6 v7 H locs ls h w hl
    cases h
  | succ n hr_76 =>
    intro σ v1 v2 v3 v4 v5 v6 v7 H locs ls h w hl
    refine lv_iload E.x E.b d_Ptm_clear_76 (lv_at hl 7 rfl) ?_
    refine lv_aload_n E.x E.b d_Ptm_clear_78 rfl (lv_at hl 0 rfl) ?_
    refine gM_Ptm_x0 E w k1699 d_Ptm_clear_79 ?_
    refine lv_aload_n E.x E.b d_Ptm_clear_82 rfl (lv_at hl 0 rfl) ?_
    refine gM_Ptm_wide E w k1701 d_Ptm_clear_83 ?_
    refine lv_iadd E.x E.b d_Ptm_clear_86 ?_
    refine lv_icmp_ge (tgt := 285) E.x E.b d_Ptm_clear_87 (by decide) (fun c => ?_) (fun c => ?_)
    ·
      replace h := ifT c h
      obtain ⟨y29, e_y29, h⟩ := lt_some h
      refine lv_iinc (v := y29) (lv' := [(6, .int y29), (0, .ref (ad 64)), (1, .int v1), (2, .int v2), (3, .int v3), (4, .int v4), (5, .int v5), (7, .int v7)]) E.x E.b d_Ptm_clear_285 hl (k := 6) rfl (e_y29) (by decide) rfl (fun ls hl => ?_)
      refine lv_goto (tgt := 56) E.x E.b d_Ptm_clear_288 (by decide) ?_
      exact hr_56 σ v1 v2 v3 v4 v5 y29 _ _ _ h w (lv_sub hl [1, 2, 3, 4, 5, 6, 0] rfl)
    ·
      replace h := ifF c h
      refine lv_aload_n E.x E.b d_Ptm_clear_90 rfl (lv_at hl 0 rfl) ?_
      refine lv_iload E.x E.b d_Ptm_clear_91 (lv_at hl 7 rfl) ?_
      refine lv_iload E.x E.b d_Ptm_clear_93 (lv_at hl 6 rfl) ?_
      obtain ⟨o30, h_o30, h⟩ := bd_some h
      refine clV_Ptm_isOpen E w (x0 := v7) (x1 := v6) h_o30 k2064 (by decide) hl.1 (Nat.le_of_ble_eq_true rfl) d_Ptm_clear_95 (fun H locs w => ?_)
      refine lv_if_ne (tgt := 104) E.x E.b d_Ptm_clear_98 (by decide) (fun c => ?_) (fun c => ?_)
      ·
        replace h := ifF c h
        obtain ⟨y31, e_y31, h⟩ := lt_some h
        refine lv_iinc (v := y31) (lv' := [(5, .int y31), (0, .ref (ad 64)), (1, .int v1), (2, .int v2), (3, .int v3), (4, .int v4), (6, .int v6), (7, .int v7)]) E.x E.b d_Ptm_clear_104 hl (k := 5) rfl (e_y31) (by decide) rfl (fun ls hl => ?_)
        refine lv_aload_n E.x E.b d_Ptm_clear_107 rfl (lv_at hl 1 rfl) ?_
        refine lv_iload E.x E.b d_Ptm_clear_108 (lv_at hl 7 rfl) ?_
        refine lv_iload E.x E.b d_Ptm_clear_110 (lv_at hl 6 rfl) ?_
        obtain ⟨o32, h_o32, h⟩ := bd_some h
        refine clV_Ptm_placeOf E w (x0 := v7) (x1 := v6) h_o32 k2072 (by decide) hl.1 (Nat.le_of_ble_eq_true rfl) d_Ptm_clear_112 (fun H locs w => ?_)
        refine lv_istore (lv' := [(8, .int o32), (5, .int y31), (0, .ref (ad 64)), (1, .int v1), (2, .int v2), (3, .int v3), (4, .int v4), (6, .int v6), (7, .int v7)]) E.x E.b d_Ptm_clear_115 hl (by decide) rfl (fun ls hl => ?_)
        refine lv_iconst (v := 0) E.x E.b d_Ptm_clear_117 (by decide) ?_
        refine lv_istore (lv' := [(9, .int 0), (8, .int o32), (5, .int y31), (0, .ref (ad 64)), (1, .int v1), (2, .int v2), (3, .int v3), (4, .int v4), (6, .int v6), (7, .int v7)]) E.x E.b d_Ptm_clear_118 hl (by decide) rfl (fun ls hl => ?_)
        exact lt_Ptm_clear_120 E hret o rc_56 (L_Ptm_clear_76 rc_56 n) hr_56 hr_76 100000 σ v1 v2 v3 v4 y31 v6 v7 o32 0 _ _ _ h w (lv_sub hl [3, 4, 5, 6, 7, 2, 8, 9, 1, 0] rfl)
      ·
        replace h := ifT c h
        refine lv_goto (tgt := 279) E.x E.b d_Ptm_clear_101 (by decide) ?_
        exact bt_Ptm_clear_279 E hret o rc_56 (L_Ptm_clear_76 rc_56 n) hr_56 hr_76 σ v1 v2 v3 v4 v5 v6 v7 h w (lv_sub hl [0, 1, 2, 3, 4, 5, 6, 7] rfl)
def L_Ptm_clear_56 : Nat → Sg → Int32 → Int32 → Int32 → Int32 → Int32 → Int32 → Option (Sg × Int32)
  | 0, _, _, _, _, _, _, _ => none
  | n + 1, σ, v1, v2, v3, v4, v5, v6 => if ((σ.1 30) + (σ.1 32)) ≤ v6 then (some (σ, v5)) else (lt (σ.1 29 : Int32) (fun y33 => L_Ptm_clear_76 (L_Ptm_clear_56 n) 100000 σ v1 v2 v3 v4 v5 v6 y33))
set_option maxRecDepth 10000 in
set_option maxHeartbeats 4000000 in
theorem lt_Ptm_clear_56 {p : Program} {l : Launch} {e : Env} {R : Room} {s : State} {m : MethodId} {args : Array Value} {below : List Frame} {meth : Method} {c : Code} {D : va_G} {τ : ClassId × ClassId × ClassId} {B : Nat} {A : Nat → Prop} {ad : Nat → Nat} (E : Cx p R s m args meth c prog_17_method_16_code 11 "DrawingMachineModel$PlaceTestsModel" 2 D τ B A) (hret : meth.sig.returnType = (some .int)) (o : Sg × Int32) : ∀ (n : Nat) (σ : Sg) (v1 : Int32) (v2 : Int32) (v3 : Int32) (v4 : Int32) (v5 : Int32) (v6 : Int32) (H : Heap) (locs : List Loc) (ls : Array Slot), L_Ptm_clear_56 n σ v1 v2 v3 v4 v5 v6 = some o → Wd s D A (wdM τ σ ad) H locs → lv_has ls 11 [(0, .ref (ad 64)), (1, .int v1), (2, .int v2), (3, .int v3), (4, .int v4), (5, .int v5), (6, .int v6)] → W p l e R s m args below meth c H locs 0 0 (QI below args s A D τ (wdM τ o.1 ad) o.2) (F0 m 56 ls []) := by
  intro n
  induction n with
  | zero =>
    intro σ v1 v2 v3 v4 v5 v6 H locs ls h w hl
    cases h
  | succ n hr_56 =>
    intro σ v1 v2 v3 v4 v5 v6 H locs ls h w hl
    refine lv_iload E.x E.b d_Ptm_clear_56 (lv_at hl 6 rfl) ?_
    refine lv_aload_n E.x E.b d_Ptm_clear_58 rfl (lv_at hl 0 rfl) ?_
    refine gM_Ptm_y0 E w k1700 d_Ptm_clear_59 ?_
    refine lv_aload_n E.x E.b d_Ptm_clear_62 rfl (lv_at hl 0 rfl) ?_
    refine gM_Ptm_high E w k1702 d_Ptm_clear_63 ?_
    refine lv_iadd E.x E.b d_Ptm_clear_66 ?_
    refine lv_icmp_ge (tgt := 291) E.x E.b d_Ptm_clear_67 (by decide) (fun c => ?_) (fun c => ?_)
    ·
      replace h := ifT c h
      refine lv_iload E.x E.b d_Ptm_clear_291 (lv_at hl 5 rfl) ?_
      obtain rfl := Option.some.inj h
      exact rt_i E w hret d_Ptm_clear_293
    ·
      replace h := ifF c h
      refine lv_aload_n E.x E.b d_Ptm_clear_70 rfl (lv_at hl 0 rfl) ?_
      refine gM_Ptm_x0 E w k1699 d_Ptm_clear_71 ?_
      obtain ⟨y33, e_y33, h⟩ := lt_some h
      refine wi_e (v := y33) e_y33 ?_
      refine lv_istore (lv' := [(7, .int y33), (0, .ref (ad 64)), (1, .int v1), (2, .int v2), (3, .int v3), (4, .int v4), (5, .int v5), (6, .int v6)]) E.x E.b d_Ptm_clear_74 hl (by decide) rfl (fun ls hl => ?_)
      exact lt_Ptm_clear_76 E hret o (L_Ptm_clear_56 n) hr_56 100000 σ v1 v2 v3 v4 v5 v6 y33 _ _ _ h w (lv_sub hl [1, 2, 3, 4, 5, 6, 7, 0] rfl)
def F_Ptm_clear_38 (σ : Sg) (v1 : Int32) (v2 : Int32) (v3 : Int32) (v4 : Int32) (s1 : Int32) : Option (Sg × Int32) := bd (F_Ptm_refuse σ s1 0) (fun o34 => if o34.2 = (0 : Int32) then (lt (o34.1.1 30 : Int32) (fun y35 => L_Ptm_clear_56 100000 o34.1 v1 v2 v3 v4 0 y35)) else (some (o34.1, 0)))
set_option maxRecDepth 10000 in
set_option maxHeartbeats 4000000 in
theorem bt_Ptm_clear_38 {p : Program} {l : Launch} {e : Env} {R : Room} {s : State} {m : MethodId} {args : Array Value} {below : List Frame} {meth : Method} {c : Code} {D : va_G} {τ : ClassId × ClassId × ClassId} {B : Nat} {A : Nat → Prop} {ad : Nat → Nat} (E : Cx p R s m args meth c prog_17_method_16_code 11 "DrawingMachineModel$PlaceTestsModel" 2 D τ B A) (hret : meth.sig.returnType = (some .int)) (o : Sg × Int32) (σ : Sg) (v1 : Int32) (v2 : Int32) (v3 : Int32) (v4 : Int32) (s1 : Int32) (h : F_Ptm_clear_38 σ v1 v2 v3 v4 s1 = some o) {H : Heap} {locs : List Loc} {ls : Array Slot} (w : Wd s D A (wdM τ σ ad) H locs) (hl : lv_has ls 11 [(0, .ref (ad 64)), (1, .int v1), (2, .int v2), (3, .int v3), (4, .int v4)]) : W p l e R s m args below meth c H locs 0 0 (QI below args s A D τ (wdM τ o.1 ad) o.2) (F0 m 38 ls [.int s1, .ref (ad 64)]) := by
  refine lv_iconst (v := 0) E.x E.b d_Ptm_clear_38 (by decide) ?_
  obtain ⟨o34, h_o34, h⟩ := bd_some h
  refine clV_Ptm_refuse E w (x0 := s1) (x1 := 0) h_o34 k1858 (by decide) hl.1 (Nat.le_of_ble_eq_true rfl) d_Ptm_clear_39 (fun H locs w => ?_)
  refine lv_if_eq (tgt := 47) E.x E.b d_Ptm_clear_42 (by decide) (fun c => ?_) (fun c => ?_)
  ·
    replace h := ifT c h
    refine lv_iconst (v := 0) E.x E.b d_Ptm_clear_47 (by decide) ?_
    refine lv_istore (lv' := [(5, .int 0), (0, .ref (ad 64)), (1, .int v1), (2, .int v2), (3, .int v3), (4, .int v4)]) E.x E.b d_Ptm_clear_48 hl (by decide) rfl (fun ls hl => ?_)
    refine lv_aload_n E.x E.b d_Ptm_clear_50 rfl (lv_at hl 1 rfl) ?_
    refine gM_Ptm_y0 E w k1700 d_Ptm_clear_51 ?_
    obtain ⟨y35, e_y35, h⟩ := lt_some h
    refine wi_e (v := y35) e_y35 ?_
    refine lv_istore (lv' := [(6, .int y35), (5, .int 0), (0, .ref (ad 64)), (1, .int v1), (2, .int v2), (3, .int v3), (4, .int v4)]) E.x E.b d_Ptm_clear_54 hl (by decide) rfl (fun ls hl => ?_)
    exact lt_Ptm_clear_56 E hret o 100000 o34.1 v1 v2 v3 v4 0 y35 _ _ _ h w (lv_sub hl [2, 3, 4, 5, 6, 1, 0] rfl)
  ·
    replace h := ifF c h
    refine lv_iconst (v := 0) E.x E.b d_Ptm_clear_45 (by decide) ?_
    obtain rfl := Option.some.inj h
    exact rt_i E w hret d_Ptm_clear_46
def F_Ptm_clear_33 (σ : Sg) (v1 : Int32) (v2 : Int32) (v3 : Int32) (v4 : Int32) : Option (Sg × Int32) := F_Ptm_clear_38 σ v1 v2 v3 v4 1
set_option maxRecDepth 10000 in
set_option maxHeartbeats 4000000 in
theorem bt_Ptm_clear_33 {p : Program} {l : Launch} {e : Env} {R : Room} {s : State} {m : MethodId} {args : Array Value} {below : List Frame} {meth : Method} {c : Code} {D : va_G} {τ : ClassId × ClassId × ClassId} {B : Nat} {A : Nat → Prop} {ad : Nat → Nat} (E : Cx p R s m args meth c prog_17_method_16_code 11 "DrawingMachineModel$PlaceTestsModel" 2 D τ B A) (hret : meth.sig.returnType = (some .int)) (o : Sg × Int32) (σ : Sg) (v1 : Int32) (v2 : Int32) (v3 : Int32) (v4 : Int32) (h : F_Ptm_clear_33 σ v1 v2 v3 v4 = some o) {H : Heap} {locs : List Loc} {ls : Array Slot} (w : Wd s D A (wdM τ σ ad) H locs) (hl : lv_has ls 11 [(0, .ref (ad 64)), (1, .int v1), (2, .int v2), (3, .int v3), (4, .int v4)]) : W p l e R s m args below meth c H locs 0 0 (QI below args s A D τ (wdM τ o.1 ad) o.2) (F0 m 33 ls [.ref (ad 64)]) := by
  refine lv_iconst (v := 1) E.x E.b d_Ptm_clear_33 (by decide) ?_
  refine lv_goto (tgt := 38) E.x E.b d_Ptm_clear_34 (by decide) ?_
  exact bt_Ptm_clear_38 E hret o σ v1 v2 v3 v4 1 h w (lv_sub hl [0, 1, 2, 3, 4] rfl)
def F_Ptm_clear (σ : Sg) (x0 : Int32) (x1 : Int32) (x2 : Int32) (x3 : Int32) : Option (Sg × Int32) := bd (F_Ptm_in x0 0 7) (fun o36 => if o36 = (0 : Int32) then (F_Ptm_clear_33 σ x0 x1 x2 x3) else (bd (F_Ptm_in x2 0 16777215) (fun o37 => if o37 = (0 : Int32) then (F_Ptm_clear_33 σ x0 x1 x2 x3) else (bd (F_Ptm_in x3 0 255) (fun o38 => if o38 = (0 : Int32) then (F_Ptm_clear_33 σ x0 x1 x2 x3) else (F_Ptm_clear_38 σ x0 x1 x2 x3 0))))))
set_option maxRecDepth 10000 in
set_option maxHeartbeats 4000000 in
theorem c_Ptm_clear (l : Launch) (D : va_G) (τ : ClassId × ClassId × ClassId) (B : Nat) (σ : Sg) (ad : Nat → Nat) (x0 : Int32) (x1 : Int32) (x2 : Int32) (x3 : Int32) (o : Sg × Int32) (h : F_Ptm_clear σ x0 x1 x2 x3 = some o) : MI l y_Ptm_clear (Cond.code y_Ptm_clear prog_17_method_16_code 11 (some .int)) 2 D τ B [.ref (ad 64), .int x0, .int x1, .int x2, .int x3] (wdM τ σ ad) (wdM τ o.1 ad) o.2 := by
  refine en_i (by decide) (Nat.le_of_ble_eq_true rfl) ?_
  intro p e R s m args below meth c H locs ls A E hret w hl
  have E : Cx p R s m args meth c prog_17_method_16_code 11 "DrawingMachineModel$PlaceTestsModel" 2 D τ B A := E
  have hl : lv_has ls 11 [(0, .ref (ad 64)), (1, .int x0), (2, .int x1), (3, .int x2), (4, .int x3)] := hl
  refine lv_aload_n E.x E.b d_Ptm_clear_0 rfl (lv_at hl 0 rfl) ?_
  refine lv_iload_n E.x E.b d_Ptm_clear_1 rfl (lv_at hl 1 rfl) ?_
  refine lv_iconst (v := 0) E.x E.b d_Ptm_clear_2 (by decide) ?_
  refine lv_bipush (v := 7) E.x E.b d_Ptm_clear_3 (by decide) ?_
  obtain ⟨o36, h_o36, h⟩ := bd_some h
  refine clS_Ptm_in E w (x0 := x0) (x1 := 0) (x2 := 7) h_o36 k1855 (by decide) hl.1 (Nat.le_of_ble_eq_true rfl) d_Ptm_clear_5 (fun H locs w => ?_)
  refine lv_if_eq (tgt := 33) E.x E.b d_Ptm_clear_8 (by decide) (fun c => ?_) (fun c => ?_)
  ·
    replace h := ifT c h
    exact bt_Ptm_clear_33 E hret o σ x0 x1 x2 x3 h w (lv_sub hl [0, 1, 2, 3, 4] rfl)
  ·
    replace h := ifF c h
    refine lv_iload_n E.x E.b d_Ptm_clear_11 rfl (lv_at hl 3 rfl) ?_
    refine lv_iconst (v := 0) E.x E.b d_Ptm_clear_12 (by decide) ?_
    refine lv_ldc (v := 16777215) E.x E.b E.o (E.w _ k2063) d_Ptm_clear_13 ?_
    obtain ⟨o37, h_o37, h⟩ := bd_some h
    refine clS_Ptm_in E w (x0 := x2) (x1 := 0) (x2 := 16777215) h_o37 k1855 (by decide) hl.1 (Nat.le_of_ble_eq_true rfl) d_Ptm_clear_15 (fun H locs w => ?_)
    refine lv_if_eq (tgt := 33) E.x E.b d_Ptm_clear_18 (by decide) (fun c => ?_) (fun c => ?_)
    ·
      replace h := ifT c h
      exact bt_Ptm_clear_33 E hret o σ x0 x1 x2 x3 h w (lv_sub hl [0, 1, 2, 3, 4] rfl)
    ·
      replace h := ifF c h
      refine lv_iload E.x E.b d_Ptm_clear_21 (lv_at hl 4 rfl) ?_
      refine lv_iconst (v := 0) E.x E.b d_Ptm_clear_23 (by decide) ?_
      refine lv_sipush (v := 255) E.x E.b d_Ptm_clear_24 (by decide) ?_
      obtain ⟨o38, h_o38, h⟩ := bd_some h
      refine clS_Ptm_in E w (x0 := x3) (x1 := 0) (x2 := 255) h_o38 k1855 (by decide) hl.1 (Nat.le_of_ble_eq_true rfl) d_Ptm_clear_27 (fun H locs w => ?_)
      refine lv_if_ne (tgt := 37) E.x E.b d_Ptm_clear_30 (by decide) (fun c => ?_) (fun c => ?_)
      ·
        replace h := ifF c h
        refine lv_iconst (v := 0) E.x E.b d_Ptm_clear_37 (by decide) ?_
        exact bt_Ptm_clear_38 E hret o σ x0 x1 x2 x3 0 h w (lv_sub hl [0, 1, 2, 3, 4] rfl)
      ·
        replace h := ifT c h
        exact bt_Ptm_clear_33 E hret o σ x0 x1 x2 x3 h w (lv_sub hl [0, 1, 2, 3, 4] rfl)
theorem clV_Ptm_clear {p : Program} {l : Launch} {e : Env} {R : Room} {s : State} {m : MethodId} {args : Array Value} {below : List Frame} {meth : Method} {c : Code} {H : Heap} {locs : List Loc} {Q : State → Prop} {cc : ByteArray} {nL pc lev : Nat} {own : String} {D : va_G} {τ : ClassId × ClassId × ClassId} {B : Nat} {A : Nat → Prop} {σ : Sg} {ad : Nat → Nat} {ls : Array Slot} {rest : List Value} (E : Cx p R s m args meth c cc nL own lev D τ B A) (w : Wd s D A (wdM τ σ ad) H locs) {x0 : Int32} {x1 : Int32} {x2 : Int32} {x3 : Int32} {o : Sg × Int32} (h : F_Ptm_clear σ x0 x1 x2 x3 = some o) {index : Nat} (hlk : Cond.methodLink own index y_Ptm_clear ∈ tw) (hlev : 2 < lev) (hsz : ls.size = nL) (hr : (rest.map fun v => v.category).sum ≤ 8) (hd : decode cc pc = .ok (.invokevirtual index, 3)) (kk : ∀ (H1 : Heap) (locs1 : List Loc), Wd s D A (wdM τ o.1 ad) H1 locs1 → W p l e R s m args below meth c H1 locs1 0 0 Q (F0 m (pc + 3) ls (.int o.2 :: rest))) : W p l e R s m args below meth c H locs 0 0 Q (F0 m pc ls (.int x3 :: .int x2 :: .int x1 :: .int x0 :: .ref (ad 64) :: rest)) :=
  cr_i w E.C (va_runV (As := [.int x0, .int x1, .int x2, .int x3]) (rest := rest) E.fix (c_Ptm_clear l D τ B σ ad x0 x1 x2 x3 o h H.size) (cwV 4 E.w (tw_pre (tw_good k2062) (l := [_, _, _, _]) (List.forall_mem_cons.mpr ⟨hlk, List.forall_mem_cons.mpr ⟨k2060, List.forall_mem_cons.mpr ⟨k2061, List.forall_mem_cons.mpr ⟨k20, fun _ h => absurd h List.not_mem_nil⟩⟩⟩⟩)) rfl rfl rfl (by decide +kernel) (E.rm hlev (by decide))) (wd_preV w E.C [.int x0, .int x1, .int x2, .int x3] rcM_Ptm rfl) rfl rfl hsz rfl (lv_room hr) hd ⟨Nat.zero_le _, Nat.zero_le _⟩) kk
