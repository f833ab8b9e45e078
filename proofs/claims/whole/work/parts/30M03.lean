theorem d_Txm_readLevel_0 : decode prog_19_method_19_code 0 = .ok (.iload_n 3, 1) := by decide +kernel
theorem d_Txm_readLevel_1 : decode prog_19_method_19_code 1 = .ok (.i2l, 1) := by decide +kernel
theorem d_Txm_readLevel_2 : decode prog_19_method_19_code 2 = .ok (.aload_n 0, 1) := by decide +kernel
theorem d_Txm_readLevel_3 : decode prog_19_method_19_code 3 = .ok (.iload_n 1, 1) := by decide +kernel
theorem d_Txm_readLevel_4 : decode prog_19_method_19_code 4 = .ok (.iload_n 2, 1) := by decide +kernel
theorem d_Txm_readLevel_5 : decode prog_19_method_19_code 5 = .ok (.iconst 0, 1) := by decide +kernel
theorem d_Txm_readLevel_6 : decode prog_19_method_19_code 6 = .ok (.invokevirtual 52, 3) := by decide +kernel
theorem d_Txm_readLevel_9 : decode prog_19_method_19_code 9 = .ok (.lshl, 1) := by decide +kernel
theorem d_Txm_readLevel_10 : decode prog_19_method_19_code 10 = .ok (.lstore 6, 2) := by decide +kernel
theorem d_Txm_readLevel_12 : decode prog_19_method_19_code 12 = .ok (.iload 4, 2) := by decide +kernel
theorem d_Txm_readLevel_14 : decode prog_19_method_19_code 14 = .ok (.i2l, 1) := by decide +kernel
theorem d_Txm_readLevel_15 : decode prog_19_method_19_code 15 = .ok (.aload_n 0, 1) := by decide +kernel
theorem d_Txm_readLevel_16 : decode prog_19_method_19_code 16 = .ok (.iload_n 1, 1) := by decide +kernel
theorem d_Txm_readLevel_17 : decode prog_19_method_19_code 17 = .ok (.iload_n 2, 1) := by decide +kernel
theorem d_Txm_readLevel_18 : decode prog_19_method_19_code 18 = .ok (.iconst 1, 1) := by decide +kernel
theorem d_Txm_readLevel_19 : decode prog_19_method_19_code 19 = .ok (.invokevirtual 52, 3) := by decide +kernel
theorem d_Txm_readLevel_22 : decode prog_19_method_19_code 22 = .ok (.lshl, 1) := by decide +kernel
theorem d_Txm_readLevel_23 : decode prog_19_method_19_code 23 = .ok (.lstore 8, 2) := by decide +kernel
theorem d_Txm_readLevel_25 : decode prog_19_method_19_code 25 = .ok (.iload 5, 2) := by decide +kernel
theorem d_Txm_readLevel_27 : decode prog_19_method_19_code 27 = .ok (.ifCond .ne 22, 3) := by decide +kernel
theorem d_Txm_readLevel_30 : decode prog_19_method_19_code 30 = .ok (.aload_n 0, 1) := by decide +kernel
theorem d_Txm_readLevel_31 : decode prog_19_method_19_code 31 = .ok (.iload_n 1, 1) := by decide +kernel
theorem d_Txm_readLevel_32 : decode prog_19_method_19_code 32 = .ok (.iload_n 2, 1) := by decide +kernel
theorem d_Txm_readLevel_33 : decode prog_19_method_19_code 33 = .ok (.lload 6, 2) := by decide +kernel
theorem d_Txm_readLevel_35 : decode prog_19_method_19_code 35 = .ok (.bipush 16, 2) := by decide +kernel
theorem d_Txm_readLevel_37 : decode prog_19_method_19_code 37 = .ok (.lshr, 1) := by decide +kernel
theorem d_Txm_readLevel_38 : decode prog_19_method_19_code 38 = .ok (.l2i, 1) := by decide +kernel
theorem d_Txm_readLevel_39 : decode prog_19_method_19_code 39 = .ok (.lload 8, 2) := by decide +kernel
theorem d_Txm_readLevel_41 : decode prog_19_method_19_code 41 = .ok (.bipush 16, 2) := by decide +kernel
theorem d_Txm_readLevel_43 : decode prog_19_method_19_code 43 = .ok (.lshr, 1) := by decide +kernel
theorem d_Txm_readLevel_44 : decode prog_19_method_19_code 44 = .ok (.l2i, 1) := by decide +kernel
theorem d_Txm_readLevel_45 : decode prog_19_method_19_code 45 = .ok (.invokevirtual 91, 3) := by decide +kernel
theorem d_Txm_readLevel_48 : decode prog_19_method_19_code 48 = .ok (.return_, 1) := by decide +kernel
theorem d_Txm_readLevel_49 : decode prog_19_method_19_code 49 = .ok (.lload 6, 2) := by decide +kernel
theorem d_Txm_readLevel_51 : decode prog_19_method_19_code 51 = .ok (.ldc2_w 97, 3) := by decide +kernel
theorem d_Txm_readLevel_54 : decode prog_19_method_19_code 54 = .ok (.lsub, 1) := by decide +kernel
theorem d_Txm_readLevel_55 : decode prog_19_method_19_code 55 = .ok (.lstore 6, 2) := by decide +kernel
theorem d_Txm_readLevel_57 : decode prog_19_method_19_code 57 = .ok (.lload 8, 2) := by decide +kernel
theorem d_Txm_readLevel_59 : decode prog_19_method_19_code 59 = .ok (.ldc2_w 97, 3) := by decide +kernel
theorem d_Txm_readLevel_62 : decode prog_19_method_19_code 62 = .ok (.lsub, 1) := by decide +kernel
theorem d_Txm_readLevel_63 : decode prog_19_method_19_code 63 = .ok (.lstore 8, 2) := by decide +kernel
theorem d_Txm_readLevel_65 : decode prog_19_method_19_code 65 = .ok (.lload 6, 2) := by decide +kernel
theorem d_Txm_readLevel_67 : decode prog_19_method_19_code 67 = .ok (.bipush 16, 2) := by decide +kernel
theorem d_Txm_readLevel_69 : decode prog_19_method_19_code 69 = .ok (.lshr, 1) := by decide +kernel
theorem d_Txm_readLevel_70 : decode prog_19_method_19_code 70 = .ok (.l2i, 1) := by decide +kernel
theorem d_Txm_readLevel_71 : decode prog_19_method_19_code 71 = .ok (.istore 10, 2) := by decide +kernel
theorem d_Txm_readLevel_73 : decode prog_19_method_19_code 73 = .ok (.lload 8, 2) := by decide +kernel
theorem d_Txm_readLevel_75 : decode prog_19_method_19_code 75 = .ok (.bipush 16, 2) := by decide +kernel
theorem d_Txm_readLevel_77 : decode prog_19_method_19_code 77 = .ok (.lshr, 1) := by decide +kernel
theorem d_Txm_readLevel_78 : decode prog_19_method_19_code 78 = .ok (.l2i, 1) := by decide +kernel
theorem d_Txm_readLevel_79 : decode prog_19_method_19_code 79 = .ok (.istore 11, 2) := by decide +kernel
theorem d_Txm_readLevel_81 : decode prog_19_method_19_code 81 = .ok (.aload_n 0, 1) := by decide +kernel
theorem d_Txm_readLevel_82 : decode prog_19_method_19_code 82 = .ok (.iload_n 1, 1) := by decide +kernel
theorem d_Txm_readLevel_83 : decode prog_19_method_19_code 83 = .ok (.iload_n 2, 1) := by decide +kernel
theorem d_Txm_readLevel_84 : decode prog_19_method_19_code 84 = .ok (.iload 10, 2) := by decide +kernel
theorem d_Txm_readLevel_86 : decode prog_19_method_19_code 86 = .ok (.iload 11, 2) := by decide +kernel
theorem d_Txm_readLevel_88 : decode prog_19_method_19_code 88 = .ok (.lload 6, 2) := by decide +kernel
theorem d_Txm_readLevel_90 : decode prog_19_method_19_code 90 = .ok (.ldc2_w 99, 3) := by decide +kernel
theorem d_Txm_readLevel_93 : decode prog_19_method_19_code 93 = .ok (.land, 1) := by decide +kernel
theorem d_Txm_readLevel_94 : decode prog_19_method_19_code 94 = .ok (.l2i, 1) := by decide +kernel
theorem d_Txm_readLevel_95 : decode prog_19_method_19_code 95 = .ok (.invokevirtual 101, 3) := by decide +kernel
theorem d_Txm_readLevel_98 : decode prog_19_method_19_code 98 = .ok (.iconst 0, 1) := by decide +kernel
theorem d_Txm_readLevel_99 : decode prog_19_method_19_code 99 = .ok (.istore 12, 2) := by decide +kernel
theorem d_Txm_readLevel_101 : decode prog_19_method_19_code 101 = .ok (.iload 12, 2) := by decide +kernel
theorem d_Txm_readLevel_103 : decode prog_19_method_19_code 103 = .ok (.iconst 4, 1) := by decide +kernel
theorem d_Txm_readLevel_104 : decode prog_19_method_19_code 104 = .ok (.if_icmp .ge 23, 3) := by decide +kernel
theorem d_Txm_readLevel_107 : decode prog_19_method_19_code 107 = .ok (.aload_n 0, 1) := by decide +kernel
theorem d_Txm_readLevel_108 : decode prog_19_method_19_code 108 = .ok (.getfield 25, 3) := by decide +kernel
theorem d_Txm_readLevel_111 : decode prog_19_method_19_code 111 = .ok (.iload 12, 2) := by decide +kernel
theorem d_Txm_readLevel_113 : decode prog_19_method_19_code 113 = .ok (.aload_n 0, 1) := by decide +kernel
theorem d_Txm_readLevel_114 : decode prog_19_method_19_code 114 = .ok (.getfield 22, 3) := by decide +kernel
theorem d_Txm_readLevel_117 : decode prog_19_method_19_code 117 = .ok (.iload 12, 2) := by decide +kernel
theorem d_Txm_readLevel_119 : decode prog_19_method_19_code 119 = .ok (.iaload, 1) := by decide +kernel
theorem d_Txm_readLevel_120 : decode prog_19_method_19_code 120 = .ok (.iastore, 1) := by decide +kernel
theorem d_Txm_readLevel_121 : decode prog_19_method_19_code 121 = .ok (.iinc 12 1, 3) := by decide +kernel
theorem d_Txm_readLevel_124 : decode prog_19_method_19_code 124 = .ok (.goto (-23), 3) := by decide +kernel
theorem d_Txm_readLevel_127 : decode prog_19_method_19_code 127 = .ok (.aload_n 0, 1) := by decide +kernel
theorem d_Txm_readLevel_128 : decode prog_19_method_19_code 128 = .ok (.iload_n 1, 1) := by decide +kernel
theorem d_Txm_readLevel_129 : decode prog_19_method_19_code 129 = .ok (.iload_n 2, 1) := by decide +kernel
theorem d_Txm_readLevel_130 : decode prog_19_method_19_code 130 = .ok (.iload 10, 2) := by decide +kernel
theorem d_Txm_readLevel_132 : decode prog_19_method_19_code 132 = .ok (.iload 11, 2) := by decide +kernel
theorem d_Txm_readLevel_134 : decode prog_19_method_19_code 134 = .ok (.iconst 1, 1) := by decide +kernel
theorem d_Txm_readLevel_135 : decode prog_19_method_19_code 135 = .ok (.iadd, 1) := by decide +kernel
theorem d_Txm_readLevel_136 : decode prog_19_method_19_code 136 = .ok (.lload 6, 2) := by decide +kernel
theorem d_Txm_readLevel_138 : decode prog_19_method_19_code 138 = .ok (.ldc2_w 99, 3) := by decide +kernel
theorem d_Txm_readLevel_141 : decode prog_19_method_19_code 141 = .ok (.land, 1) := by decide +kernel
theorem d_Txm_readLevel_142 : decode prog_19_method_19_code 142 = .ok (.l2i, 1) := by decide +kernel
theorem d_Txm_readLevel_143 : decode prog_19_method_19_code 143 = .ok (.invokevirtual 101, 3) := by decide +kernel
theorem d_Txm_readLevel_146 : decode prog_19_method_19_code 146 = .ok (.iconst 0, 1) := by decide +kernel
theorem d_Txm_readLevel_147 : decode prog_19_method_19_code 147 = .ok (.istore 12, 2) := by decide +kernel
theorem d_Txm_readLevel_149 : decode prog_19_method_19_code 149 = .ok (.iload 12, 2) := by decide +kernel
theorem d_Txm_readLevel_151 : decode prog_19_method_19_code 151 = .ok (.iconst 4, 1) := by decide +kernel
theorem d_Txm_readLevel_152 : decode prog_19_method_19_code 152 = .ok (.if_icmp .ge 40, 3) := by decide +kernel
theorem d_Txm_readLevel_155 : decode prog_19_method_19_code 155 = .ok (.aload_n 0, 1) := by decide +kernel
theorem d_Txm_readLevel_156 : decode prog_19_method_19_code 156 = .ok (.getfield 19, 3) := by decide +kernel
theorem d_Txm_readLevel_159 : decode prog_19_method_19_code 159 = .ok (.iload 12, 2) := by decide +kernel
theorem d_Txm_readLevel_161 : decode prog_19_method_19_code 161 = .ok (.aload_n 0, 1) := by decide +kernel
theorem d_Txm_readLevel_162 : decode prog_19_method_19_code 162 = .ok (.getfield 25, 3) := by decide +kernel
theorem d_Txm_readLevel_165 : decode prog_19_method_19_code 165 = .ok (.iload 12, 2) := by decide +kernel
theorem d_Txm_readLevel_167 : decode prog_19_method_19_code 167 = .ok (.iaload, 1) := by decide +kernel
theorem d_Txm_readLevel_168 : decode prog_19_method_19_code 168 = .ok (.aload_n 0, 1) := by decide +kernel
theorem d_Txm_readLevel_169 : decode prog_19_method_19_code 169 = .ok (.getfield 22, 3) := by decide +kernel
theorem d_Txm_readLevel_172 : decode prog_19_method_19_code 172 = .ok (.iload 12, 2) := by decide +kernel
theorem d_Txm_readLevel_174 : decode prog_19_method_19_code 174 = .ok (.iaload, 1) := by decide +kernel
theorem d_Txm_readLevel_175 : decode prog_19_method_19_code 175 = .ok (.lload 8, 2) := by decide +kernel
theorem d_Txm_readLevel_177 : decode prog_19_method_19_code 177 = .ok (.ldc2_w 99, 3) := by decide +kernel
theorem d_Txm_readLevel_180 : decode prog_19_method_19_code 180 = .ok (.land, 1) := by decide +kernel
theorem d_Txm_readLevel_181 : decode prog_19_method_19_code 181 = .ok (.l2i, 1) := by decide +kernel
theorem d_Txm_readLevel_182 : decode prog_19_method_19_code 182 = .ok (.invokestatic 94, 3) := by decide +kernel
theorem d_Txm_readLevel_185 : decode prog_19_method_19_code 185 = .ok (.iastore, 1) := by decide +kernel
theorem d_Txm_readLevel_186 : decode prog_19_method_19_code 186 = .ok (.iinc 12 1, 3) := by decide +kernel
theorem d_Txm_readLevel_189 : decode prog_19_method_19_code 189 = .ok (.goto (-40), 3) := by decide +kernel
theorem d_Txm_readLevel_192 : decode prog_19_method_19_code 192 = .ok (.return_, 1) := by decide +kernel
def L_Txm_readLevel_149 : Nat → Sg → Int64 → Int32 → Option (Sg)
  | 0, _, _, _ => none
  | n + 1, σ, v8, v12 => if 4 ≤ v12 then (some σ) else (ck (inb v12 4) (ck (inb v12 4) (bd (F_Txm_mix (σ.2.2.1 10 v12.toNatClampNeg) (σ.2.2.1 9 v12.toNatClampNeg) ((v8 &&& 65535).toInt32)) (fun o24 => ck (inb v12 4) (lt (sA σ 8 (upd (σ.2.2.1 8) v12.toNatClampNeg o24)) (fun σ26 => lt (v12 + 1) (fun y27 => L_Txm_readLevel_149 n σ26 v8 y27)))))))
set_option maxRecDepth 10000 in
set_option maxHeartbeats 4000000 in
theorem lt_Txm_readLevel_149 {p : Program} {l : Launch} {e : Env} {R : Room} {s : State} {m : MethodId} {args : Array Value} {below : List Frame} {meth : Method} {c : Code} {D : va_G} {τ : ClassId × ClassId × ClassId} {B : Nat} {A : Nat → Prop} {ad : Nat → Nat} (E : Cx p R s m args meth c prog_19_method_19_code 13 "DrawingMachineModel$TextureUnitsModel" 6 D τ B A) (hret : meth.sig.returnType = none) (o : Sg) : ∀ (n : Nat) (σ : Sg) (v8 : Int64) (v12 : Int32) (H : Heap) (locs : List Loc) (ls : Array Slot), L_Txm_readLevel_149 n σ v8 v12 = some o → Wd s D A (wdM τ σ ad) H locs → lv_has ls 13 [(0, .ref (ad 61)), (8, .long v8), (12, .int v12)] → W p l e R s m args below meth c H locs 0 0 (QV below args s A D τ (wdM τ o ad)) (F0 m 149 ls []) := by
  intro n
  induction n with
  | zero =>
    intro σ v8 v12 H locs ls h w hl
    cases h
  | succ n hr_149 =>
    intro σ v8 v12 H locs ls h w hl
    refine lv_iload E.x E.b d_Txm_readLevel_149 (lv_at hl 2 rfl) ?_
    refine lv_iconst (v := 4) E.x E.b d_Txm_readLevel_151 (by decide) ?_
    refine lv_icmp_ge (tgt := 192) E.x E.b d_Txm_readLevel_152 (by decide) (fun c => ?_) (fun c => ?_)
    ·
      replace h := ifT c h
      obtain rfl := Option.some.inj h
      exact rt_v E w hret d_Txm_readLevel_192
    ·
      replace h := ifF c h
      refine lv_aload_n E.x E.b d_Txm_readLevel_155 rfl (lv_at hl 0 rfl) ?_
      refine gM_Txm_found E w k1518 d_Txm_readLevel_156 ?_
      refine lv_iload E.x E.b d_Txm_readLevel_159 (lv_at hl 2 rfl) ?_
      refine lv_aload_n E.x E.b d_Txm_readLevel_161 rfl (lv_at hl 0 rfl) ?_
      refine gM_Txm_upper E w k1520 d_Txm_readLevel_162 ?_
      refine lv_iload E.x E.b d_Txm_readLevel_165 (lv_at hl 2 rfl) ?_
      obtain ⟨c22, h⟩ := ck_some h
      refine ialM E w (k := 10) (by decide) c22 d_Txm_readLevel_167 ?_
      refine lv_aload_n E.x E.b d_Txm_readLevel_168 rfl (lv_at hl 0 rfl) ?_
      refine gM_Txm_row E w k1519 d_Txm_readLevel_169 ?_
      refine lv_iload E.x E.b d_Txm_readLevel_172 (lv_at hl 2 rfl) ?_
      obtain ⟨c23, h⟩ := ck_some h
      refine ialM E w (k := 9) (by decide) c23 d_Txm_readLevel_174 ?_
      refine lv_lload E.x E.b d_Txm_readLevel_175 (lv_at hl 1 rfl) ?_
      refine lv_ldc2 (v := 65535) E.x E.b E.o (E.w _ k2292) d_Txm_readLevel_177 ?_
      refine lv_land E.x E.b d_Txm_readLevel_180 ?_
      refine lv_l2i (v := (v8 &&& 65535).toInt32) E.x E.b d_Txm_readLevel_181 rfl ?_
      obtain ⟨o24, h_o24, h⟩ := bd_some h
      refine clS_Txm_mix E w (x0 := (σ.2.2.1 10 v12.toNatClampNeg)) (x1 := (σ.2.2.1 9 v12.toNatClampNeg)) (x2 := ((v8 &&& 65535).toInt32)) h_o24 k2297 (by decide) hl.1 (Nat.le_of_ble_eq_true rfl) d_Txm_readLevel_182 (fun H locs w => ?_)
      obtain ⟨c25, h⟩ := ck_some h
      obtain ⟨σ26, e_σ26, h⟩ := lt_some h
      refine iasM E w (k := 8) (by decide) c25 e_σ26 d_Txm_readLevel_185 (fun H locs w => ?_)
      obtain ⟨y27, e_y27, h⟩ := lt_some h
      refine lv_iinc (v := y27) (lv' := [(12, .int y27), (0, .ref (ad 61)), (8, .long v8)]) E.x E.b d_Txm_readLevel_186 hl (k := 2) rfl (e_y27) (by decide) rfl (fun ls hl => ?_)
      refine lv_goto (tgt := 149) E.x E.b d_Txm_readLevel_189 (by decide) ?_
      exact hr_149 σ26 v8 y27 _ _ _ h w (lv_sub hl [1, 2, 0] rfl)
def L_Txm_readLevel_101 : Nat → Sg → Int32 → Int32 → Int64 → Int64 → Int32 → Int32 → Int32 → Option (Sg)
  | 0, _, _, _, _, _, _, _, _ => none
  | n + 1, σ, v1, v2, v6, v8, v10, v11, v12 => if 4 ≤ v12 then (bd (F_Txm_mixRow σ v1 v2 v10 (v11 + 1) ((v6 &&& 65535).toInt32)) (fun o28 => L_Txm_readLevel_149 100000 o28 v8 0)) else (ck (inb v12 4) (ck (inb v12 4) (lt (sA σ 10 (upd (σ.2.2.1 10) v12.toNatClampNeg (σ.2.2.1 9 v12.toNatClampNeg))) (fun σ31 => lt (v12 + 1) (fun y32 => L_Txm_readLevel_101 n σ31 v1 v2 v6 v8 v10 v11 y32)))))
set_option maxRecDepth 10000 in
set_option maxHeartbeats 4000000 in
theorem lt_Txm_readLevel_101 {p : Program} {l : Launch} {e : Env} {R : Room} {s : State} {m : MethodId} {args : Array Value} {below : List Frame} {meth : Method} {c : Code} {D : va_G} {τ : ClassId × ClassId × ClassId} {B : Nat} {A : Nat → Prop} {ad : Nat → Nat} (E : Cx p R s m args meth c prog_19_method_19_code 13 "DrawingMachineModel$TextureUnitsModel" 6 D τ B A) (hret : meth.sig.returnType = none) (o : Sg) : ∀ (n : Nat) (σ : Sg) (v1 : Int32) (v2 : Int32) (v6 : Int64) (v8 : Int64) (v10 : Int32) (v11 : Int32) (v12 : Int32) (H : Heap) (locs : List Loc) (ls : Array Slot), L_Txm_readLevel_101 n σ v1 v2 v6 v8 v10 v11 v12 = some o → Wd s D A (wdM τ σ ad) H locs → lv_has ls 13 [(0, .ref (ad 61)), (1, .int v1), (2, .int v2), (6, .long v6), (8, .long v8), (10, .int v10), (11, .int v11), (12, .int v12)] → W p l e R s m args below meth c H locs 0 0 (QV below args s A D τ (wdM τ o ad)) (F0 m 101 ls []) := by
  intro n
  induction n with
  | zero =>
    intro σ v1 v2 v6 v8 v10 v11 v12 H locs ls h w hl
    cases h
  | succ n hr_101 =>
    intro σ v1 v2 v6 v8 v10 v11 v12 H locs ls h w hl
    refine lv_iload E.x E.b d_Txm_readLevel_101 (lv_at hl 7 rfl) ?_
    refine lv_iconst (v := 4) E.x E.b d_Txm_readLevel_103 (by decide) ?_
    refine lv_icmp_ge (tgt := 127) E.x E.b d_Txm_readLevel_104 (by decide) (fun c => ?_) (fun c => ?_)
    ·
      replace h := ifT c h
      refine lv_aload_n E.x E.b d_Txm_readLevel_127 rfl (lv_at hl 0 rfl) ?_
      refine lv_iload_n E.x E.b d_Txm_readLevel_128 rfl (lv_at hl 1 rfl) ?_
      refine lv_iload_n E.x E.b d_Txm_readLevel_129 rfl (lv_at hl 2 rfl) ?_
      refine lv_iload E.x E.b d_Txm_readLevel_130 (lv_at hl 5 rfl) ?_
      refine lv_iload E.x E.b d_Txm_readLevel_132 (lv_at hl 6 rfl) ?_
      refine lv_iconst (v := 1) E.x E.b d_Txm_readLevel_134 (by decide) ?_
      refine lv_iadd E.x E.b d_Txm_readLevel_135 ?_
      refine lv_lload E.x E.b d_Txm_readLevel_136 (lv_at hl 3 rfl) ?_
      refine lv_ldc2 (v := 65535) E.x E.b E.o (E.w _ k2292) d_Txm_readLevel_138 ?_
      refine lv_land E.x E.b d_Txm_readLevel_141 ?_
      refine lv_l2i (v := (v6 &&& 65535).toInt32) E.x E.b d_Txm_readLevel_142 rfl ?_
      obtain ⟨o28, h_o28, h⟩ := bd_some h
      refine clV_Txm_mixRow E w (x0 := v1) (x1 := v2) (x2 := v10) (x3 := (v11 + 1)) (x4 := ((v6 &&& 65535).toInt32)) h_o28 k2293 (by decide) hl.1 (Nat.le_of_ble_eq_true rfl) d_Txm_readLevel_143 (fun H locs w => ?_)
      refine lv_iconst (v := 0) E.x E.b d_Txm_readLevel_146 (by decide) ?_
      refine lv_istore (lv' := [(12, .int 0), (0, .ref (ad 61)), (1, .int v1), (2, .int v2), (6, .long v6), (8, .long v8), (10, .int v10), (11, .int v11)]) E.x E.b d_Txm_readLevel_147 hl (by decide) rfl (fun ls hl => ?_)
      exact lt_Txm_readLevel_149 E hret o 100000 o28 v8 0 _ _ _ h w (lv_sub hl [1, 5, 0] rfl)
    ·
      replace h := ifF c h
      refine lv_aload_n E.x E.b d_Txm_readLevel_107 rfl (lv_at hl 0 rfl) ?_
      refine gM_Txm_upper E w k1520 d_Txm_readLevel_108 ?_
      refine lv_iload E.x E.b d_Txm_readLevel_111 (lv_at hl 7 rfl) ?_
      refine lv_aload_n E.x E.b d_Txm_readLevel_113 rfl (lv_at hl 0 rfl) ?_
      refine gM_Txm_row E w k1519 d_Txm_readLevel_114 ?_
      refine lv_iload E.x E.b d_Txm_readLevel_117 (lv_at hl 7 rfl) ?_
      obtain ⟨c29, h⟩ := ck_some h
      refine ialM E w (k := 9) (by decide) c29 d_Txm_readLevel_119 ?_
      obtain ⟨c30, h⟩ := ck_some h
      obtain ⟨σ31, e_σ31, h⟩ := lt_some h
      refine iasM E w (k := 10) (by decide) c30 e_σ31 d_Txm_readLevel_120 (fun H locs w => ?_)
      obtain ⟨y32, e_y32, h⟩ := lt_some h
      refine lv_iinc (v := y32) (lv' := [(12, .int y32), (0, .ref (ad 61)), (1, .int v1), (2, .int v2), (6, .long v6), (8, .long v8), (10, .int v10), (11, .int v11)]) E.x E.b d_Txm_readLevel_121 hl (k := 7) rfl (e_y32) (by decide) rfl (fun ls hl => ?_)
      refine lv_goto (tgt := 101) E.x E.b d_Txm_readLevel_124 (by decide) ?_
      exact hr_101 σ31 v1 v2 v6 v8 v10 v11 y32 _ _ _ h w (lv_sub hl [1, 2, 3, 4, 5, 6, 7, 0] rfl)
def F_Txm_readLevel (σ : Sg) (x0 : Int32) (x1 : Int32) (x2 : Int32) (x3 : Int32) (x4 : Int32) : Option (Sg) := bd (F_Txm_exponent σ x0 x1 0) (fun o33 => lt (lshl x2.toInt64 o33) (fun y34 => bd (F_Txm_exponent σ x0 x1 1) (fun o35 => lt (lshl x3.toInt64 o35) (fun y36 => if x4 = 0 then (bd (F_Txm_wrapped σ x0 x1 ((lshr y34 16).toInt32) ((lshr y36 16).toInt32)) (fun o42 => some o42)) else (lt (y34 - 32768) (fun y37 => lt (y36 - 32768) (fun y38 => lt ((lshr y37 16).toInt32) (fun y39 => lt ((lshr y38 16).toInt32) (fun y40 => bd (F_Txm_mixRow σ x0 x1 y39 y40 ((y37 &&& 65535).toInt32)) (fun o41 => L_Txm_readLevel_101 100000 o41 x0 x1 y37 y38 y39 y40 0))))))))))
set_option maxRecDepth 10000 in
set_option maxHeartbeats 4000000 in
theorem c_Txm_readLevel (l : Launch) (D : va_G) (τ : ClassId × ClassId × ClassId) (B : Nat) (σ : Sg) (ad : Nat → Nat) (x0 : Int32) (x1 : Int32) (x2 : Int32) (x3 : Int32) (x4 : Int32) (o : Sg) (h : F_Txm_readLevel σ x0 x1 x2 x3 x4 = some o) : MV l y_Txm_readLevel (Cond.code y_Txm_readLevel prog_19_method_19_code 13 none) 6 D τ B [.ref (ad 61), .int x0, .int x1, .int x2, .int x3, .int x4] (wdM τ σ ad) (wdM τ o ad) := by
  refine en_v (by decide) (Nat.le_of_ble_eq_true rfl) ?_
  intro p e R s m args below meth c H locs ls A E hret w hl
  have E : Cx p R s m args meth c prog_19_method_19_code 13 "DrawingMachineModel$TextureUnitsModel" 6 D τ B A := E
  have hl : lv_has ls 13 [(0, .ref (ad 61)), (1, .int x0), (2, .int x1), (3, .int x2), (4, .int x3), (5, .int x4)] := hl
  refine lv_iload_n E.x E.b d_Txm_readLevel_0 rfl (lv_at hl 3 rfl) ?_
  refine lv_i2l (v := x2.toInt64) E.x E.b d_Txm_readLevel_1 rfl ?_
  refine lv_aload_n E.x E.b d_Txm_readLevel_2 rfl (lv_at hl 0 rfl) ?_
  refine lv_iload_n E.x E.b d_Txm_readLevel_3 rfl (lv_at hl 1 rfl) ?_
  refine lv_iload_n E.x E.b d_Txm_readLevel_4 rfl (lv_at hl 2 rfl) ?_
  refine lv_iconst (v := 0) E.x E.b d_Txm_readLevel_5 (by decide) ?_
  obtain ⟨o33, h_o33, h⟩ := bd_some h
  refine clV_Txm_exponent E w (x0 := x0) (x1 := x1) (x2 := 0) h_o33 k2249 (by decide) hl.1 (Nat.le_of_ble_eq_true rfl) d_Txm_readLevel_6 (fun H locs w => ?_)
  refine lv_lshl (v := lshl x2.toInt64 o33) E.x E.b d_Txm_readLevel_9 rfl ?_
  obtain ⟨y34, e_y34, h⟩ := lt_some h
  refine wl_e (v := y34) e_y34 ?_
  refine lv_lstore (lv' := [(6, .long y34), (0, .ref (ad 61)), (1, .int x0), (2, .int x1), (3, .int x2), (4, .int x3), (5, .int x4)]) E.x E.b d_Txm_readLevel_10 hl (by decide) rfl (fun ls hl => ?_)
  refine lv_iload E.x E.b d_Txm_readLevel_12 (lv_at hl 5 rfl) ?_
  refine lv_i2l (v := x3.toInt64) E.x E.b d_Txm_readLevel_14 rfl ?_
  refine lv_aload_n E.x E.b d_Txm_readLevel_15 rfl (lv_at hl 1 rfl) ?_
  refine lv_iload_n E.x E.b d_Txm_readLevel_16 rfl (lv_at hl 2 rfl) ?_
  refine lv_iload_n E.x E.b d_Txm_readLevel_17 rfl (lv_at hl 3 rfl) ?_
  refine lv_iconst (v := 1) E.x E.b d_Txm_readLevel_18 (by decide) ?_
  obtain ⟨o35, h_o35, h⟩ := bd_some h
  refine clV_Txm_exponent E w (x0 := x0) (x1 := x1) (x2 := 1) h_o35 k2249 (by decide) hl.1 (Nat.le_of_ble_eq_true rfl) d_Txm_readLevel_19 (fun H locs w => ?_)
  refine lv_lshl (v := lshl x3.toInt64 o35) E.x E.b d_Txm_readLevel_22 rfl ?_
  obtain ⟨y36, e_y36, h⟩ := lt_some h
  refine wl_e (v := y36) e_y36 ?_
  refine lv_lstore (lv' := [(8, .long y36), (6, .long y34), (0, .ref (ad 61)), (1, .int x0), (2, .int x1), (3, .int x2), (4, .int x3), (5, .int x4)]) E.x E.b d_Txm_readLevel_23 hl (by decide) rfl (fun ls hl => ?_)
  refine lv_iload E.x E.b d_Txm_readLevel_25 (lv_at hl 7 rfl) ?_
  refine lv_if_ne (tgt := 49) E.x E.b d_Txm_readLevel_27 (by decide) (fun c => ?_) (fun c => ?_)
  ·
    replace h := ifF c h
    refine lv_lload E.x E.b d_Txm_readLevel_49 (lv_at hl 1 rfl) ?_
    refine lv_ldc2 (v := 32768) E.x E.b E.o (E.w _ k2291) d_Txm_readLevel_51 ?_
    refine lv_lsub E.x E.b d_Txm_readLevel_54 ?_
    obtain ⟨y37, e_y37, h⟩ := lt_some h
    refine wl_e (v := y37) e_y37 ?_
    refine lv_lstore (lv' := [(6, .long y37), (8, .long y36), (0, .ref (ad 61)), (1, .int x0), (2, .int x1), (3, .int x2), (4, .int x3), (5, .int x4)]) E.x E.b d_Txm_readLevel_55 hl (by decide) rfl (fun ls hl => ?_)
    refine lv_lload E.x E.b d_Txm_readLevel_57 (lv_at hl 1 rfl) ?_
    refine lv_ldc2 (v := 32768) E.x E.b E.o (E.w _ k2291) d_Txm_readLevel_59 ?_
    refine lv_lsub E.x E.b d_Txm_readLevel_62 ?_
    obtain ⟨y38, e_y38, h⟩ := lt_some h
    refine wl_e (v := y38) e_y38 ?_
    refine lv_lstore (lv' := [(8, .long y38), (6, .long y37), (0, .ref (ad 61)), (1, .int x0), (2, .int x1), (3, .int x2), (4, .int x3), (5, .int x4)]) E.x E.b d_Txm_readLevel_63 hl (by decide) rfl (fun ls hl => ?_)
    refine lv_lload E.x E.b d_Txm_readLevel_65 (lv_at hl 1 rfl) ?_
    refine lv_bipush (v := 16) E.x E.b d_Txm_readLevel_67 (by decide) ?_
    refine lv_lshr (v := lshr y37 16) E.x E.b d_Txm_readLevel_69 rfl ?_
    refine lv_l2i (v := (lshr y37 16).toInt32) E.x E.b d_Txm_readLevel_70 rfl ?_
    obtain ⟨y39, e_y39, h⟩ := lt_some h
    refine wi_e (v := y39) e_y39 ?_
    refine lv_istore (lv' := [(10, .int y39), (8, .long y38), (6, .long y37), (0, .ref (ad 61)), (1, .int x0), (2, .int x1), (3, .int x2), (4, .int x3), (5, .int x4)]) E.x E.b d_Txm_readLevel_71 hl (by decide) rfl (fun ls hl => ?_)
    refine lv_lload E.x E.b d_Txm_readLevel_73 (lv_at hl 1 rfl) ?_
    refine lv_bipush (v := 16) E.x E.b d_Txm_readLevel_75 (by decide) ?_
    refine lv_lshr (v := lshr y38 16) E.x E.b d_Txm_readLevel_77 rfl ?_
    refine lv_l2i (v := (lshr y38 16).toInt32) E.x E.b d_Txm_readLevel_78 rfl ?_
    obtain ⟨y40, e_y40, h⟩ := lt_some h
    refine wi_e (v := y40) e_y40 ?_
    refine lv_istore (lv' := [(11, .int y40), (10, .int y39), (8, .long y38), (6, .long y37), (0, .ref (ad 61)), (1, .int x0), (2, .int x1), (3, .int x2), (4, .int x3), (5, .int x4)]) E.x E.b d_Txm_readLevel_79 hl (by decide) rfl (fun ls hl => ?_)
    refine lv_aload_n E.x E.b d_Txm_readLevel_81 rfl (lv_at hl 4 rfl) ?_
    refine lv_iload_n E.x E.b d_Txm_readLevel_82 rfl (lv_at hl 5 rfl) ?_
    refine lv_iload_n E.x E.b d_Txm_readLevel_83 rfl (lv_at hl 6 rfl) ?_
    refine lv_iload E.x E.b d_Txm_readLevel_84 (lv_at hl 1 rfl) ?_
    refine lv_iload E.x E.b d_Txm_readLevel_86 (lv_at hl 0 rfl) ?_
    refine lv_lload E.x E.b d_Txm_readLevel_88 (lv_at hl 3 rfl) ?_
    refine lv_ldc2 (v := 65535) E.x E.b E.o (E.w _ k2292) d_Txm_readLevel_90 ?_
    refine lv_land E.x E.b d_Txm_readLevel_93 ?_
    refine lv_l2i (v := (y37 &&& 65535).toInt32) E.x E.b d_Txm_readLevel_94 rfl ?_
    obtain ⟨o41, h_o41, h⟩ := bd_some h
    refine clV_Txm_mixRow E w (x0 := x0) (x1 := x1) (x2 := y39) (x3 := y40) (x4 := ((y37 &&& 65535).toInt32)) h_o41 k2293 (by decide) hl.1 (Nat.le_of_ble_eq_true rfl) d_Txm_readLevel_95 (fun H locs w => ?_)
    refine lv_iconst (v := 0) E.x E.b d_Txm_readLevel_98 (by decide) ?_
    refine lv_istore (lv' := [(12, .int 0), (11, .int y40), (10, .int y39), (8, .long y38), (6, .long y37), (0, .ref (ad 61)), (1, .int x0), (2, .int x1), (3, .int x2), (4, .int x3), (5, .int x4)]) E.x E.b d_Txm_readLevel_99 hl (by decide) rfl (fun ls hl => ?_)
    exact lt_Txm_readLevel_101 E hret o 100000 o41 x0 x1 y37 y38 y39 y40 0 _ _ _ h w (lv_sub hl [5, 6, 7, 4, 3, 2, 1, 0] rfl)
  ·
    replace h := ifT c h
    refine lv_aload_n E.x E.b d_Txm_readLevel_30 rfl (lv_at hl 2 rfl) ?_
    refine lv_iload_n E.x E.b d_Txm_readLevel_31 rfl (lv_at hl 3 rfl) ?_
    refine lv_iload_n E.x E.b d_Txm_readLevel_32 rfl (lv_at hl 4 rfl) ?_
    refine lv_lload E.x E.b d_Txm_readLevel_33 (lv_at hl 1 rfl) ?_
    refine lv_bipush (v := 16) E.x E.b d_Txm_readLevel_35 (by decide) ?_
    refine lv_lshr (v := lshr y34 16) E.x E.b d_Txm_readLevel_37 rfl ?_
    refine lv_l2i (v := (lshr y34 16).toInt32) E.x E.b d_Txm_readLevel_38 rfl ?_
    refine lv_lload E.x E.b d_Txm_readLevel_39 (lv_at hl 0 rfl) ?_
    refine lv_bipush (v := 16) E.x E.b d_Txm_readLevel_41 (by decide) ?_
    refine lv_lshr (v := lshr y36 16) E.x E.b d_Txm_readLevel_43 rfl ?_
    refine lv_l2i (v := (lshr y36 16).toInt32) E.x E.b d_Txm_readLevel_44 rfl ?_
    obtain ⟨o42, h_o42, h⟩ := bd_some h
    refine clV_Txm_wrapped E w (x0 := x0) (x1 := x1) (x2 := ((lshr y34 16).toInt32)) (x3 := ((lshr y36 16).toInt32)) h_o42 k2253 (by decide) hl.1 (Nat.le_of_ble_eq_true rfl) d_Txm_readLevel_45 (fun H locs w => ?_)
    obtain rfl := Option.some.inj h
    exact rt_v E w hret d_Txm_readLevel_48
theorem clV_Txm_readLevel {p : Program} {l : Launch} {e : Env} {R : Room} {s : State} {m : MethodId} {args : Array Value} {below : List Frame} {meth : Method} {c : Code} {H : Heap} {locs : List Loc} {Q : State → Prop} {cc : ByteArray} {nL pc lev : Nat} {own : String} {D : va_G} {τ : ClassId × ClassId × ClassId} {B : Nat} {A : Nat → Prop} {σ : Sg} {ad : Nat → Nat} {ls : Array Slot} {rest : List Value} (E : Cx p R s m args meth c cc nL own lev D τ B A) (w : Wd s D A (wdM τ σ ad) H locs) {x0 : Int32} {x1 : Int32} {x2 : Int32} {x3 : Int32} {x4 : Int32} {o : Sg} (h : F_Txm_readLevel σ x0 x1 x2 x3 x4 = some o) {index : Nat} (hlk : Cond.methodLink own index y_Txm_readLevel ∈ tw) (hlev : 6 < lev) (hsz : ls.size = nL) (hr : (rest.map fun v => v.category).sum ≤ 8) (hd : decode cc pc = .ok (.invokevirtual index, 3)) (kk : ∀ (H1 : Heap) (locs1 : List Loc), Wd s D A (wdM τ o ad) H1 locs1 → W p l e R s m args below meth c H1 locs1 0 0 Q (F0 m (pc + 3) ls (rest))) : W p l e R s m args below meth c H locs 0 0 Q (F0 m pc ls (.int x4 :: .int x3 :: .int x2 :: .int x1 :: .int x0 :: .ref (ad 61) :: rest)) :=
  cr_v w E.C (va_runV (As := [.int x0, .int x1, .int x2, .int x3, .int x4]) (rest := rest) E.fix (c_Txm_readLevel l D τ B σ ad x0 x1 x2 x3 x4 o h H.size) (cwV 5 E.w (tw_pre (tw_good k2248) (l := [_, _, _, _]) (List.forall_mem_cons.mpr ⟨hlk, List.forall_mem_cons.mpr ⟨k2247, List.forall_mem_cons.mpr ⟨ks83, List.forall_mem_cons.mpr ⟨k16, fun _ h => absurd h List.not_mem_nil⟩⟩⟩⟩)) rfl rfl rfl (by decide +kernel) (E.rm hlev (by decide))) (wd_preV w E.C [.int x0, .int x1, .int x2, .int x3, .int x4] rcM_Txm rfl) rfl rfl hsz rfl (lv_room hr) hd ⟨Nat.zero_le _, Nat.zero_le _⟩) kk

theorem d_Txm_read_0 : decode prog_19_method_20_code 0 = .ok (.aload_n 0, 1) := by decide +kernel
theorem d_Txm_read_1 : decode prog_19_method_20_code 1 = .ok (.iload_n 1, 1) := by decide +kernel
theorem d_Txm_read_2 : decode prog_19_method_20_code 2 = .ok (.iconst 0, 1) := by decide +kernel
theorem d_Txm_read_3 : decode prog_19_method_20_code 3 = .ok (.iconst 3, 1) := by decide +kernel
theorem d_Txm_read_4 : decode prog_19_method_20_code 4 = .ok (.invokestatic 44, 3) := by decide +kernel
theorem d_Txm_read_7 : decode prog_19_method_20_code 7 = .ok (.ifCond .ne 7, 3) := by decide +kernel
theorem d_Txm_read_10 : decode prog_19_method_20_code 10 = .ok (.iconst 1, 1) := by decide +kernel
theorem d_Txm_read_11 : decode prog_19_method_20_code 11 = .ok (.goto 4, 3) := by decide +kernel
theorem d_Txm_read_14 : decode prog_19_method_20_code 14 = .ok (.iconst 0, 1) := by decide +kernel
theorem d_Txm_read_15 : decode prog_19_method_20_code 15 = .ok (.iconst 0, 1) := by decide +kernel
theorem d_Txm_read_16 : decode prog_19_method_20_code 16 = .ok (.invokevirtual 48, 3) := by decide +kernel
theorem d_Txm_read_19 : decode prog_19_method_20_code 19 = .ok (.ifCond .eq 5, 3) := by decide +kernel
theorem d_Txm_read_22 : decode prog_19_method_20_code 22 = .ok (.iconst 0, 1) := by decide +kernel
theorem d_Txm_read_23 : decode prog_19_method_20_code 23 = .ok (.ireturn, 1) := by decide +kernel
theorem d_Txm_read_24 : decode prog_19_method_20_code 24 = .ok (.ldc 82, 2) := by decide +kernel
theorem d_Txm_read_26 : decode prog_19_method_20_code 26 = .ok (.aload_n 0, 1) := by decide +kernel
theorem d_Txm_read_27 : decode prog_19_method_20_code 27 = .ok (.getfield 7, 3) := by decide +kernel
theorem d_Txm_read_30 : decode prog_19_method_20_code 30 = .ok (.bipush 8, 2) := by decide +kernel
theorem d_Txm_read_32 : decode prog_19_method_20_code 32 = .ok (.iload_n 1, 1) := by decide +kernel
theorem d_Txm_read_33 : decode prog_19_method_20_code 33 = .ok (.imul, 1) := by decide +kernel
theorem d_Txm_read_34 : decode prog_19_method_20_code 34 = .ok (.iconst 3, 1) := by decide +kernel
theorem d_Txm_read_35 : decode prog_19_method_20_code 35 = .ok (.iadd, 1) := by decide +kernel
theorem d_Txm_read_36 : decode prog_19_method_20_code 36 = .ok (.iaload, 1) := by decide +kernel
theorem d_Txm_read_37 : decode prog_19_method_20_code 37 = .ok (.iconst 1, 1) := by decide +kernel
theorem d_Txm_read_38 : decode prog_19_method_20_code 38 = .ok (.isub, 1) := by decide +kernel
theorem d_Txm_read_39 : decode prog_19_method_20_code 39 = .ok (.imul, 1) := by decide +kernel
theorem d_Txm_read_40 : decode prog_19_method_20_code 40 = .ok (.istore 5, 2) := by decide +kernel
theorem d_Txm_read_42 : decode prog_19_method_20_code 42 = .ok (.iload 4, 2) := by decide +kernel
theorem d_Txm_read_44 : decode prog_19_method_20_code 44 = .ok (.ifCond .ge 7, 3) := by decide +kernel
theorem d_Txm_read_47 : decode prog_19_method_20_code 47 = .ok (.iconst 0, 1) := by decide +kernel
theorem d_Txm_read_48 : decode prog_19_method_20_code 48 = .ok (.goto 17, 3) := by decide +kernel
theorem d_Txm_read_51 : decode prog_19_method_20_code 51 = .ok (.iload 4, 2) := by decide +kernel
theorem d_Txm_read_53 : decode prog_19_method_20_code 53 = .ok (.iload 5, 2) := by decide +kernel
theorem d_Txm_read_55 : decode prog_19_method_20_code 55 = .ok (.if_icmp .le 8, 3) := by decide +kernel
theorem d_Txm_read_58 : decode prog_19_method_20_code 58 = .ok (.iload 5, 2) := by decide +kernel
theorem d_Txm_read_60 : decode prog_19_method_20_code 60 = .ok (.goto 5, 3) := by decide +kernel
theorem d_Txm_read_63 : decode prog_19_method_20_code 63 = .ok (.iload 4, 2) := by decide +kernel
theorem d_Txm_read_65 : decode prog_19_method_20_code 65 = .ok (.istore 6, 2) := by decide +kernel
theorem d_Txm_read_67 : decode prog_19_method_20_code 67 = .ok (.aload_n 0, 1) := by decide +kernel
theorem d_Txm_read_68 : decode prog_19_method_20_code 68 = .ok (.getfield 7, 3) := by decide +kernel
theorem d_Txm_read_71 : decode prog_19_method_20_code 71 = .ok (.bipush 8, 2) := by decide +kernel
theorem d_Txm_read_73 : decode prog_19_method_20_code 73 = .ok (.iload_n 1, 1) := by decide +kernel
theorem d_Txm_read_74 : decode prog_19_method_20_code 74 = .ok (.imul, 1) := by decide +kernel
theorem d_Txm_read_75 : decode prog_19_method_20_code 75 = .ok (.bipush 7, 2) := by decide +kernel
theorem d_Txm_read_77 : decode prog_19_method_20_code 77 = .ok (.iadd, 1) := by decide +kernel
theorem d_Txm_read_78 : decode prog_19_method_20_code 78 = .ok (.iaload, 1) := by decide +kernel
theorem d_Txm_read_79 : decode prog_19_method_20_code 79 = .ok (.istore 7, 2) := by decide +kernel
theorem d_Txm_read_81 : decode prog_19_method_20_code 81 = .ok (.iload 7, 2) := by decide +kernel
theorem d_Txm_read_83 : decode prog_19_method_20_code 83 = .ok (.iconst 2, 1) := by decide +kernel
theorem d_Txm_read_84 : decode prog_19_method_20_code 84 = .ok (.irem, 1) := by decide +kernel
theorem d_Txm_read_85 : decode prog_19_method_20_code 85 = .ok (.iconst 1, 1) := by decide +kernel
theorem d_Txm_read_86 : decode prog_19_method_20_code 86 = .ok (.if_icmp .ne 7, 3) := by decide +kernel
theorem d_Txm_read_89 : decode prog_19_method_20_code 89 = .ok (.iconst 1, 1) := by decide +kernel
theorem d_Txm_read_90 : decode prog_19_method_20_code 90 = .ok (.goto 4, 3) := by decide +kernel
theorem d_Txm_read_93 : decode prog_19_method_20_code 93 = .ok (.iconst 0, 1) := by decide +kernel
theorem d_Txm_read_94 : decode prog_19_method_20_code 94 = .ok (.istore 8, 2) := by decide +kernel
theorem d_Txm_read_96 : decode prog_19_method_20_code 96 = .ok (.iload 6, 2) := by decide +kernel
theorem d_Txm_read_98 : decode prog_19_method_20_code 98 = .ok (.bipush 16, 2) := by decide +kernel
theorem d_Txm_read_100 : decode prog_19_method_20_code 100 = .ok (.ishr, 1) := by decide +kernel
theorem d_Txm_read_101 : decode prog_19_method_20_code 101 = .ok (.istore 9, 2) := by decide +kernel
theorem d_Txm_read_103 : decode prog_19_method_20_code 103 = .ok (.aload_n 0, 1) := by decide +kernel
theorem d_Txm_read_104 : decode prog_19_method_20_code 104 = .ok (.iload_n 1, 1) := by decide +kernel
theorem d_Txm_read_105 : decode prog_19_method_20_code 105 = .ok (.iload 9, 2) := by decide +kernel
theorem d_Txm_read_107 : decode prog_19_method_20_code 107 = .ok (.iload_n 2, 1) := by decide +kernel
theorem d_Txm_read_108 : decode prog_19_method_20_code 108 = .ok (.iload_n 3, 1) := by decide +kernel
theorem d_Txm_read_109 : decode prog_19_method_20_code 109 = .ok (.iload 8, 2) := by decide +kernel
theorem d_Txm_read_111 : decode prog_19_method_20_code 111 = .ok (.invokevirtual 105, 3) := by decide +kernel
theorem d_Txm_read_114 : decode prog_19_method_20_code 114 = .ok (.iload 7, 2) := by decide +kernel
theorem d_Txm_read_116 : decode prog_19_method_20_code 116 = .ok (.iconst 1, 1) := by decide +kernel
theorem d_Txm_read_117 : decode prog_19_method_20_code 117 = .ok (.if_icmp .le 107, 3) := by decide +kernel
theorem d_Txm_read_120 : decode prog_19_method_20_code 120 = .ok (.iload 9, 2) := by decide +kernel
theorem d_Txm_read_122 : decode prog_19_method_20_code 122 = .ok (.iconst 1, 1) := by decide +kernel
theorem d_Txm_read_123 : decode prog_19_method_20_code 123 = .ok (.iadd, 1) := by decide +kernel
theorem d_Txm_read_124 : decode prog_19_method_20_code 124 = .ok (.aload_n 0, 1) := by decide +kernel
theorem d_Txm_read_125 : decode prog_19_method_20_code 125 = .ok (.getfield 7, 3) := by decide +kernel
theorem d_Txm_read_128 : decode prog_19_method_20_code 128 = .ok (.bipush 8, 2) := by decide +kernel
theorem d_Txm_read_130 : decode prog_19_method_20_code 130 = .ok (.iload_n 1, 1) := by decide +kernel
theorem d_Txm_read_131 : decode prog_19_method_20_code 131 = .ok (.imul, 1) := by decide +kernel
theorem d_Txm_read_132 : decode prog_19_method_20_code 132 = .ok (.iconst 3, 1) := by decide +kernel
theorem d_Txm_read_133 : decode prog_19_method_20_code 133 = .ok (.iadd, 1) := by decide +kernel
theorem d_Txm_read_134 : decode prog_19_method_20_code 134 = .ok (.iaload, 1) := by decide +kernel
theorem d_Txm_read_135 : decode prog_19_method_20_code 135 = .ok (.if_icmp .ge 89, 3) := by decide +kernel
theorem d_Txm_read_138 : decode prog_19_method_20_code 138 = .ok (.iconst 0, 1) := by decide +kernel
theorem d_Txm_read_139 : decode prog_19_method_20_code 139 = .ok (.istore 10, 2) := by decide +kernel
theorem d_Txm_read_141 : decode prog_19_method_20_code 141 = .ok (.iload 10, 2) := by decide +kernel
theorem d_Txm_read_143 : decode prog_19_method_20_code 143 = .ok (.iconst 4, 1) := by decide +kernel
theorem d_Txm_read_144 : decode prog_19_method_20_code 144 = .ok (.if_icmp .ge 23, 3) := by decide +kernel
theorem d_Txm_read_147 : decode prog_19_method_20_code 147 = .ok (.aload_n 0, 1) := by decide +kernel
theorem d_Txm_read_148 : decode prog_19_method_20_code 148 = .ok (.getfield 28, 3) := by decide +kernel
theorem d_Txm_read_151 : decode prog_19_method_20_code 151 = .ok (.iload 10, 2) := by decide +kernel
theorem d_Txm_read_153 : decode prog_19_method_20_code 153 = .ok (.aload_n 0, 1) := by decide +kernel
theorem d_Txm_read_154 : decode prog_19_method_20_code 154 = .ok (.getfield 19, 3) := by decide +kernel
theorem d_Txm_read_157 : decode prog_19_method_20_code 157 = .ok (.iload 10, 2) := by decide +kernel
theorem d_Txm_read_159 : decode prog_19_method_20_code 159 = .ok (.iaload, 1) := by decide +kernel
theorem d_Txm_read_160 : decode prog_19_method_20_code 160 = .ok (.iastore, 1) := by decide +kernel
theorem d_Txm_read_161 : decode prog_19_method_20_code 161 = .ok (.iinc 10 1, 3) := by decide +kernel
theorem d_Txm_read_164 : decode prog_19_method_20_code 164 = .ok (.goto (-23), 3) := by decide +kernel
theorem d_Txm_read_167 : decode prog_19_method_20_code 167 = .ok (.aload_n 0, 1) := by decide +kernel
theorem d_Txm_read_168 : decode prog_19_method_20_code 168 = .ok (.iload_n 1, 1) := by decide +kernel
theorem d_Txm_read_169 : decode prog_19_method_20_code 169 = .ok (.iload 9, 2) := by decide +kernel
theorem d_Txm_read_171 : decode prog_19_method_20_code 171 = .ok (.iconst 1, 1) := by decide +kernel
theorem d_Txm_read_172 : decode prog_19_method_20_code 172 = .ok (.iadd, 1) := by decide +kernel
theorem d_Txm_read_173 : decode prog_19_method_20_code 173 = .ok (.iload_n 2, 1) := by decide +kernel
theorem d_Txm_read_174 : decode prog_19_method_20_code 174 = .ok (.iload_n 3, 1) := by decide +kernel
theorem d_Txm_read_175 : decode prog_19_method_20_code 175 = .ok (.iload 8, 2) := by decide +kernel
theorem d_Txm_read_177 : decode prog_19_method_20_code 177 = .ok (.invokevirtual 105, 3) := by decide +kernel
theorem d_Txm_read_180 : decode prog_19_method_20_code 180 = .ok (.iconst 0, 1) := by decide +kernel
theorem d_Txm_read_181 : decode prog_19_method_20_code 181 = .ok (.istore 10, 2) := by decide +kernel
theorem d_Txm_read_183 : decode prog_19_method_20_code 183 = .ok (.iload 10, 2) := by decide +kernel
theorem d_Txm_read_185 : decode prog_19_method_20_code 185 = .ok (.iconst 4, 1) := by decide +kernel
theorem d_Txm_read_186 : decode prog_19_method_20_code 186 = .ok (.if_icmp .ge 38, 3) := by decide +kernel
theorem d_Txm_read_189 : decode prog_19_method_20_code 189 = .ok (.aload_n 0, 1) := by decide +kernel
theorem d_Txm_read_190 : decode prog_19_method_20_code 190 = .ok (.getfield 19, 3) := by decide +kernel
theorem d_Txm_read_193 : decode prog_19_method_20_code 193 = .ok (.iload 10, 2) := by decide +kernel
theorem d_Txm_read_195 : decode prog_19_method_20_code 195 = .ok (.aload_n 0, 1) := by decide +kernel
theorem d_Txm_read_196 : decode prog_19_method_20_code 196 = .ok (.getfield 28, 3) := by decide +kernel
theorem d_Txm_read_199 : decode prog_19_method_20_code 199 = .ok (.iload 10, 2) := by decide +kernel
theorem d_Txm_read_201 : decode prog_19_method_20_code 201 = .ok (.iaload, 1) := by decide +kernel
theorem d_Txm_read_202 : decode prog_19_method_20_code 202 = .ok (.aload_n 0, 1) := by decide +kernel
theorem d_Txm_read_203 : decode prog_19_method_20_code 203 = .ok (.getfield 19, 3) := by decide +kernel
theorem d_Txm_read_206 : decode prog_19_method_20_code 206 = .ok (.iload 10, 2) := by decide +kernel
theorem d_Txm_read_208 : decode prog_19_method_20_code 208 = .ok (.iaload, 1) := by decide +kernel
theorem d_Txm_read_209 : decode prog_19_method_20_code 209 = .ok (.iload 6, 2) := by decide +kernel
theorem d_Txm_read_211 : decode prog_19_method_20_code 211 = .ok (.ldc 109, 2) := by decide +kernel
theorem d_Txm_read_213 : decode prog_19_method_20_code 213 = .ok (.iand, 1) := by decide +kernel
theorem d_Txm_read_214 : decode prog_19_method_20_code 214 = .ok (.invokestatic 94, 3) := by decide +kernel
theorem d_Txm_read_217 : decode prog_19_method_20_code 217 = .ok (.iastore, 1) := by decide +kernel
theorem d_Txm_read_218 : decode prog_19_method_20_code 218 = .ok (.iinc 10 1, 3) := by decide +kernel
theorem d_Txm_read_221 : decode prog_19_method_20_code 221 = .ok (.goto (-38), 3) := by decide +kernel
theorem d_Txm_read_224 : decode prog_19_method_20_code 224 = .ok (.iconst 0, 1) := by decide +kernel
theorem d_Txm_read_225 : decode prog_19_method_20_code 225 = .ok (.istore 10, 2) := by decide +kernel
theorem d_Txm_read_227 : decode prog_19_method_20_code 227 = .ok (.iload 10, 2) := by decide +kernel
theorem d_Txm_read_229 : decode prog_19_method_20_code 229 = .ok (.iconst 4, 1) := by decide +kernel
theorem d_Txm_read_230 : decode prog_19_method_20_code 230 = .ok (.if_icmp .ge 23, 3) := by decide +kernel
theorem d_Txm_read_233 : decode prog_19_method_20_code 233 = .ok (.aload_n 0, 1) := by decide +kernel
theorem d_Txm_read_234 : decode prog_19_method_20_code 234 = .ok (.getfield 16, 3) := by decide +kernel
theorem d_Txm_read_237 : decode prog_19_method_20_code 237 = .ok (.iload 10, 2) := by decide +kernel
theorem d_Txm_read_239 : decode prog_19_method_20_code 239 = .ok (.aload_n 0, 1) := by decide +kernel
theorem d_Txm_read_240 : decode prog_19_method_20_code 240 = .ok (.getfield 19, 3) := by decide +kernel
theorem d_Txm_read_243 : decode prog_19_method_20_code 243 = .ok (.iload 10, 2) := by decide +kernel
theorem d_Txm_read_245 : decode prog_19_method_20_code 245 = .ok (.iaload, 1) := by decide +kernel
theorem d_Txm_read_246 : decode prog_19_method_20_code 246 = .ok (.iastore, 1) := by decide +kernel
theorem d_Txm_read_247 : decode prog_19_method_20_code 247 = .ok (.iinc 10 1, 3) := by decide +kernel
theorem d_Txm_read_250 : decode prog_19_method_20_code 250 = .ok (.goto (-23), 3) := by decide +kernel
theorem d_Txm_read_253 : decode prog_19_method_20_code 253 = .ok (.aload_n 0, 1) := by decide +kernel
theorem d_Txm_read_254 : decode prog_19_method_20_code 254 = .ok (.getfield 16, 3) := by decide +kernel
theorem d_Txm_read_257 : decode prog_19_method_20_code 257 = .ok (.iconst 0, 1) := by decide +kernel
theorem d_Txm_read_258 : decode prog_19_method_20_code 258 = .ok (.iaload, 1) := by decide +kernel
theorem d_Txm_read_259 : decode prog_19_method_20_code 259 = .ok (.ireturn, 1) := by decide +kernel
def L_Txm_read_227 : Nat → Sg → Int32 → Option (Sg × Int32)
  | 0, _, _ => none
  | n + 1, σ, v10 => if 4 ≤ v10 then (some (σ, σ.2.2.1 7 0)) else (ck (inb v10 4) (ck (inb v10 4) (lt (sA σ 7 (upd (σ.2.2.1 7) v10.toNatClampNeg (σ.2.2.1 8 v10.toNatClampNeg))) (fun σ27 => lt (v10 + 1) (fun y28 => L_Txm_read_227 n σ27 y28)))))
set_option maxRecDepth 10000 in
set_option maxHeartbeats 4000000 in
theorem lt_Txm_read_227 {p : Program} {l : Launch} {e : Env} {R : Room} {s : State} {m : MethodId} {args : Array Value} {below : List Frame} {meth : Method} {c : Code} {D : va_G} {τ : ClassId × ClassId × ClassId} {B : Nat} {A : Nat → Prop} {ad : Nat → Nat} (E : Cx p R s m args meth c prog_19_method_20_code 11 "DrawingMachineModel$TextureUnitsModel" 7 D τ B A) (hret : meth.sig.returnType = (some .int)) (o : Sg × Int32) : ∀ (n : Nat) (σ : Sg) (v10 : Int32) (H : Heap) (locs : List Loc) (ls : Array Slot), L_Txm_read_227 n σ v10 = some o → Wd s D A (wdM τ σ ad) H locs → lv_has ls 11 [(0, .ref (ad 61)), (10, .int v10)] → W p l e R s m args below meth c H locs 0 0 (QI below args s A D τ (wdM τ o.1 ad) o.2) (F0 m 227 ls []) := by
  intro n
  induction n with
  | zero =>
    intro σ v10 H locs ls h w hl
    cases h
  | succ n hr_227 =>
    intro σ v10 H locs ls h w hl
    refine lv_iload E.x E.b d_Txm_read_227 (lv_at hl 1 rfl) ?_
    refine lv_iconst (v := 4) E.x E.b d_Txm_read_229 (by decide) ?_
    refine lv_icmp_ge (tgt := 253) E.x E.b d_Txm_read_230 (by decide) (fun c => ?_) (fun c => ?_)
    ·
      replace h := ifT c h
      refine lv_aload_n E.x E.b d_Txm_read_253 rfl (lv_at hl 0 rfl) ?_
      refine gM_Txm_latest E w k1517 d_Txm_read_254 ?_
      refine lv_iconst (v := 0) E.x E.b d_Txm_read_257 (by decide) ?_
      refine ialM E w (k := 7) (by decide) (show inb 0 4 by decide) d_Txm_read_258 ?_
      refine wi_e (v := σ.2.2.1 7 0) rfl ?_
      obtain rfl := Option.some.inj h
      exact rt_i E w hret d_Txm_read_259
    ·
      replace h := ifF c h
      refine lv_aload_n E.x E.b d_Txm_read_233 rfl (lv_at hl 0 rfl) ?_
      refine gM_Txm_latest E w k1517 d_Txm_read_234 ?_
      refine lv_iload E.x E.b d_Txm_read_237 (lv_at hl 1 rfl) ?_
      refine lv_aload_n E.x E.b d_Txm_read_239 rfl (lv_at hl 0 rfl) ?_
      refine gM_Txm_found E w k1518 d_Txm_read_240 ?_
      refine lv_iload E.x E.b d_Txm_read_243 (lv_at hl 1 rfl) ?_
      obtain ⟨c25, h⟩ := ck_some h
      refine ialM E w (k := 8) (by decide) c25 d_Txm_read_245 ?_
      obtain ⟨c26, h⟩ := ck_some h
      obtain ⟨σ27, e_σ27, h⟩ := lt_some h
      refine iasM E w (k := 7) (by decide) c26 e_σ27 d_Txm_read_246 (fun H locs w => ?_)
      obtain ⟨y28, e_y28, h⟩ := lt_some h
      refine lv_iinc (v := y28) (lv' := [(10, .int y28), (0, .ref (ad 61))]) E.x E.b d_Txm_read_247 hl (k := 1) rfl (e_y28) (by decide) rfl (fun ls hl => ?_)
      refine lv_goto (tgt := 227) E.x E.b d_Txm_read_250 (by decide) ?_
      exact hr_227 σ27 y28 _ _ _ h w (lv_sub hl [1, 0] rfl)
def F_Txm_read_224 (σ : Sg) : Option (Sg × Int32) := L_Txm_read_227 100000 σ 0
set_option maxRecDepth 10000 in
set_option maxHeartbeats 4000000 in
theorem bt_Txm_read_224 {p : Program} {l : Launch} {e : Env} {R : Room} {s : State} {m : MethodId} {args : Array Value} {below : List Frame} {meth : Method} {c : Code} {D : va_G} {τ : ClassId × ClassId × ClassId} {B : Nat} {A : Nat → Prop} {ad : Nat → Nat} (E : Cx p R s m args meth c prog_19_method_20_code 11 "DrawingMachineModel$TextureUnitsModel" 7 D τ B A) (hret : meth.sig.returnType = (some .int)) (o : Sg × Int32) (σ : Sg) (h : F_Txm_read_224 σ = some o) {H : Heap} {locs : List Loc} {ls : Array Slot} (w : Wd s D A (wdM τ σ ad) H locs) (hl : lv_has ls 11 [(0, .ref (ad 61))]) : W p l e R s m args below meth c H locs 0 0 (QI below args s A D τ (wdM τ o.1 ad) o.2) (F0 m 224 ls []) := by
  refine lv_iconst (v := 0) E.x E.b d_Txm_read_224 (by decide) ?_
  refine lv_istore (lv' := [(10, .int 0), (0, .ref (ad 61))]) E.x E.b d_Txm_read_225 hl (by decide) rfl (fun ls hl => ?_)
  exact lt_Txm_read_227 E hret o 100000 σ 0 _ _ _ h w (lv_sub hl [1, 0] rfl)
def L_Txm_read_183 : Nat → Sg → Int32 → Int32 → Option (Sg × Int32)
  | 0, _, _, _ => none
  | n + 1, σ, v6, v10 => if 4 ≤ v10 then (F_Txm_read_224 σ) else (ck (inb v10 4) (ck (inb v10 4) (bd (F_Txm_mix (σ.2.2.1 11 v10.toNatClampNeg) (σ.2.2.1 8 v10.toNatClampNeg) (v6 &&& 65535)) (fun o31 => ck (inb v10 4) (lt (sA σ 8 (upd (σ.2.2.1 8) v10.toNatClampNeg o31)) (fun σ33 => lt (v10 + 1) (fun y34 => L_Txm_read_183 n σ33 v6 y34)))))))
set_option maxRecDepth 10000 in
set_option maxHeartbeats 4000000 in
theorem lt_Txm_read_183 {p : Program} {l : Launch} {e : Env} {R : Room} {s : State} {m : MethodId} {args : Array Value} {below : List Frame} {meth : Method} {c : Code} {D : va_G} {τ : ClassId × ClassId × ClassId} {B : Nat} {A : Nat → Prop} {ad : Nat → Nat} (E : Cx p R s m args meth c prog_19_method_20_code 11 "DrawingMachineModel$TextureUnitsModel" 7 D τ B A) (hret : meth.sig.returnType = (some .int)) (o : Sg × Int32) : ∀ (n : Nat) (σ : Sg) (v6 : Int32) (v10 : Int32) (H : Heap) (locs : List Loc) (ls : Array Slot), L_Txm_read_183 n σ v6 v10 = some o → Wd s D A (wdM τ σ ad) H locs → lv_has ls 11 [(0, .ref (ad 61)), (6, .int v6), (10, .int v10)] → W p l e R s m args below meth c H locs 0 0 (QI below args s A D τ (wdM τ o.1 ad) o.2) (F0 m 183 ls []) := by
  intro n
  induction n with
  | zero =>
    intro σ v6 v10 H locs ls h w hl
    cases h
  | succ n hr_183 =>
    intro σ v6 v10 H locs ls h w hl
    refine lv_iload E.x E.b d_Txm_read_183 (lv_at hl 2 rfl) ?_
    refine lv_iconst (v := 4) E.x E.b d_Txm_read_185 (by decide) ?_
    refine lv_icmp_ge (tgt := 224) E.x E.b d_Txm_read_186 (by decide) (fun c => ?_) (fun c => ?_)
    ·
      replace h := ifT c h
      exact bt_Txm_read_224 E hret o σ h w (lv_sub hl [0] rfl)
    ·
      replace h := ifF c h
      refine lv_aload_n E.x E.b d_Txm_read_189 rfl (lv_at hl 0 rfl) ?_
      refine gM_Txm_found E w k1518 d_Txm_read_190 ?_
      refine lv_iload E.x E.b d_Txm_read_193 (lv_at hl 2 rfl) ?_
      refine lv_aload_n E.x E.b d_Txm_read_195 rfl (lv_at hl 0 rfl) ?_
      refine gM_Txm_near E w k1521 d_Txm_read_196 ?_
      refine lv_iload E.x E.b d_Txm_read_199 (lv_at hl 2 rfl) ?_
      obtain ⟨c29, h⟩ := ck_some h
      refine ialM E w (k := 11) (by decide) c29 d_Txm_read_201 ?_
      refine lv_aload_n E.x E.b d_Txm_read_202 rfl (lv_at hl 0 rfl) ?_
      refine gM_Txm_found E w k1518 d_Txm_read_203 ?_
      refine lv_iload E.x E.b d_Txm_read_206 (lv_at hl 2 rfl) ?_
      obtain ⟨c30, h⟩ := ck_some h
      refine ialM E w (k := 8) (by decide) c30 d_Txm_read_208 ?_
      refine lv_iload E.x E.b d_Txm_read_209 (lv_at hl 1 rfl) ?_
      refine lv_ldc (v := 65535) E.x E.b E.o (E.w _ k2300) d_Txm_read_211 ?_
      refine lv_iand E.x E.b d_Txm_read_213 ?_
      obtain ⟨o31, h_o31, h⟩ := bd_some h
      refine clS_Txm_mix E w (x0 := (σ.2.2.1 11 v10.toNatClampNeg)) (x1 := (σ.2.2.1 8 v10.toNatClampNeg)) (x2 := (v6 &&& 65535)) h_o31 k2297 (by decide) hl.1 (Nat.le_of_ble_eq_true rfl) d_Txm_read_214 (fun H locs w => ?_)
      obtain ⟨c32, h⟩ := ck_some h
      obtain ⟨σ33, e_σ33, h⟩ := lt_some h
      refine iasM E w (k := 8) (by decide) c32 e_σ33 d_Txm_read_217 (fun H locs w => ?_)
      obtain ⟨y34, e_y34, h⟩ := lt_some h
      refine lv_iinc (v := y34) (lv' := [(10, .int y34), (0, .ref (ad 61)), (6, .int v6)]) E.x E.b d_Txm_read_218 hl (k := 2) rfl (e_y34) (by decide) rfl (fun ls hl => ?_)
      refine lv_goto (tgt := 183) E.x E.b d_Txm_read_221 (by decide) ?_
      exact hr_183 σ33 v6 y34 _ _ _ h w (lv_sub hl [1, 2, 0] rfl)
def L_Txm_read_141 : Nat → Sg → Int32 → Int32 → Int32 → Int32 → Int32 → Int32 → Int32 → Option (Sg × Int32)
  | 0, _, _, _, _, _, _, _, _ => none
  | n + 1, σ, v1, v2, v3, v6, v8, v9, v10 => if 4 ≤ v10 then (bd (F_Txm_readLevel σ v1 (v9 + 1) v2 v3 v8) (fun o35 => L_Txm_read_183 100000 o35 v6 0)) else (ck (inb v10 4) (ck (inb v10 4) (lt (sA σ 11 (upd (σ.2.2.1 11) v10.toNatClampNeg (σ.2.2.1 8 v10.toNatClampNeg))) (fun σ38 => lt (v10 + 1) (fun y39 => L_Txm_read_141 n σ38 v1 v2 v3 v6 v8 v9 y39)))))
set_option maxRecDepth 10000 in
set_option maxHeartbeats 4000000 in
theorem lt_Txm_read_141 {p : Program} {l : Launch} {e : Env} {R : Room} {s : State} {m : MethodId} {args : Array Value} {below : List Frame} {meth : Method} {c : Code} {D : va_G} {τ : ClassId × ClassId × ClassId} {B : Nat} {A : Nat → Prop} {ad : Nat → Nat} (E : Cx p R s m args meth c prog_19_method_20_code 11 "DrawingMachineModel$TextureUnitsModel" 7 D τ B A) (hret : meth.sig.returnType = (some .int)) (o : Sg × Int32) : ∀ (n : Nat) (σ : Sg) (v1 : Int32) (v2 : Int32) (v3 : Int32) (v6 : Int32) (v8 : Int32) (v9 : Int32) (v10 : Int32) (H : Heap) (locs : List Loc) (ls : Array Slot), L_Txm_read_141 n σ v1 v2 v3 v6 v8 v9 v10 = some o → Wd s D A (wdM τ σ ad) H locs → lv_has ls 11 [(0, .ref (ad 61)), (1, .int v1), (2, .int v2), (3, .int v3), (6, .int v6), (8, .int v8), (9, .int v9), (10, .int v10)] → W p l e R s m args below meth c H locs 0 0 (QI below args s A D τ (wdM τ o.1 ad) o.2) (F0 m 141 ls []) := by
  intro n
  induction n with
  | zero =>
    intro σ v1 v2 v3 v6 v8 v9 v10 H locs ls h w hl
    cases h
  | succ n hr_141 =>
    intro σ v1 v2 v3 v6 v8 v9 v10 H locs ls h w hl
    refine lv_iload E.x E.b d_Txm_read_141 (lv_at hl 7 rfl) ?_
    refine lv_iconst (v := 4) E.x E.b d_Txm_read_143 (by decide) ?_
    refine lv_icmp_ge (tgt := 167) E.x E.b d_Txm_read_144 (by decide) (fun c => ?_) (fun c => ?_)
    ·
      replace h := ifT c h
      refine lv_aload_n E.x E.b d_Txm_read_167 rfl (lv_at hl 0 rfl) ?_
      refine lv_iload_n E.x E.b d_Txm_read_168 rfl (lv_at hl 1 rfl) ?_
      refine lv_iload E.x E.b d_Txm_read_169 (lv_at hl 6 rfl) ?_
      refine lv_iconst (v := 1) E.x E.b d_Txm_read_171 (by decide) ?_
      refine lv_iadd E.x E.b d_Txm_read_172 ?_
      refine lv_iload_n E.x E.b d_Txm_read_173 rfl (lv_at hl 2 rfl) ?_
      refine lv_iload_n E.x E.b d_Txm_read_174 rfl (lv_at hl 3 rfl) ?_
      refine lv_iload E.x E.b d_Txm_read_175 (lv_at hl 5 rfl) ?_
      obtain ⟨o35, h_o35, h⟩ := bd_some h
      refine clV_Txm_readLevel E w (x0 := v1) (x1 := (v9 + 1)) (x2 := v2) (x3 := v3) (x4 := v8) h_o35 k2245 (by decide) hl.1 (Nat.le_of_ble_eq_true rfl) d_Txm_read_177 (fun H locs w => ?_)
      refine lv_iconst (v := 0) E.x E.b d_Txm_read_180 (by decide) ?_
      refine lv_istore (lv' := [(10, .int 0), (0, .ref (ad 61)), (1, .int v1), (2, .int v2), (3, .int v3), (6, .int v6), (8, .int v8), (9, .int v9)]) E.x E.b d_Txm_read_181 hl (by decide) rfl (fun ls hl => ?_)
      exact lt_Txm_read_183 E hret o 100000 o35 v6 0 _ _ _ h w (lv_sub hl [1, 5, 0] rfl)
    ·
      replace h := ifF c h
      refine lv_aload_n E.x E.b d_Txm_read_147 rfl (lv_at hl 0 rfl) ?_
      refine gM_Txm_near E w k1521 d_Txm_read_148 ?_
      refine lv_iload E.x E.b d_Txm_read_151 (lv_at hl 7 rfl) ?_
      refine lv_aload_n E.x E.b d_Txm_read_153 rfl (lv_at hl 0 rfl) ?_
      refine gM_Txm_found E w k1518 d_Txm_read_154 ?_
      refine lv_iload E.x E.b d_Txm_read_157 (lv_at hl 7 rfl) ?_
      obtain ⟨c36, h⟩ := ck_some h
      refine ialM E w (k := 8) (by decide) c36 d_Txm_read_159 ?_
      obtain ⟨c37, h⟩ := ck_some h
      obtain ⟨σ38, e_σ38, h⟩ := lt_some h
      refine iasM E w (k := 11) (by decide) c37 e_σ38 d_Txm_read_160 (fun H locs w => ?_)
      obtain ⟨y39, e_y39, h⟩ := lt_some h
      refine lv_iinc (v := y39) (lv' := [(10, .int y39), (0, .ref (ad 61)), (1, .int v1), (2, .int v2), (3, .int v3), (6, .int v6), (8, .int v8), (9, .int v9)]) E.x E.b d_Txm_read_161 hl (k := 7) rfl (e_y39) (by decide) rfl (fun ls hl => ?_)
      refine lv_goto (tgt := 141) E.x E.b d_Txm_read_164 (by decide) ?_
      exact hr_141 σ38 v1 v2 v3 v6 v8 v9 y39 _ _ _ h w (lv_sub hl [1, 2, 3, 4, 5, 6, 7, 0] rfl)
def F_Txm_read_94 (σ : Sg) (v1 : Int32) (v2 : Int32) (v3 : Int32) (v6 : Int32) (v7 : Int32) (s0 : Int32) : Option (Sg × Int32) := lt (v6 >>> 16) (fun y40 => bd (F_Txm_readLevel σ v1 y40 v2 v3 s0) (fun o41 => if v7 ≤ 1 then (F_Txm_read_224 o41) else (ck (inb ((8 * v1) + 3) 32) (if (o41.2.2.1 5 ((8 * v1) + 3).toNatClampNeg) ≤ (y40 + 1) then (F_Txm_read_224 o41) else (L_Txm_read_141 100000 o41 v1 v2 v3 v6 s0 y40 0)))))
set_option maxRecDepth 10000 in
set_option maxHeartbeats 4000000 in
theorem bt_Txm_read_94 {p : Program} {l : Launch} {e : Env} {R : Room} {s : State} {m : MethodId} {args : Array Value} {below : List Frame} {meth : Method} {c : Code} {D : va_G} {τ : ClassId × ClassId × ClassId} {B : Nat} {A : Nat → Prop} {ad : Nat → Nat} (E : Cx p R s m args meth c prog_19_method_20_code 11 "DrawingMachineModel$TextureUnitsModel" 7 D τ B A) (hret : meth.sig.returnType = (some .int)) (o : Sg × Int32) (σ : Sg) (v1 : Int32) (v2 : Int32) (v3 : Int32) (v6 : Int32) (v7 : Int32) (s0 : Int32) (h : F_Txm_read_94 σ v1 v2 v3 v6 v7 s0 = some o) {H : Heap} {locs : List Loc} {ls : Array Slot} (w : Wd s D A (wdM τ σ ad) H locs) (hl : lv_has ls 11 [(0, .ref (ad 61)), (1, .int v1), (2, .int v2), (3, .int v3), (6, .int v6), (7, .int v7)]) : W p l e R s m args below meth c H locs 0 0 (QI below args s A D τ (wdM τ o.1 ad) o.2) (F0 m 94 ls [.int s0]) := by
  refine lv_istore (lv' := [(8, .int s0), (0, .ref (ad 61)), (1, .int v1), (2, .int v2), (3, .int v3), (6, .int v6), (7, .int v7)]) E.x E.b d_Txm_read_94 hl (by decide) rfl (fun ls hl => ?_)
  refine lv_iload E.x E.b d_Txm_read_96 (lv_at hl 5 rfl) ?_
  refine lv_bipush (v := 16) E.x E.b d_Txm_read_98 (by decide) ?_
  refine lv_ishr E.x E.b d_Txm_read_100 ?_
  refine wi_e (v := v6 >>> 16) rfl ?_
  obtain ⟨y40, e_y40, h⟩ := lt_some h
  refine wi_e (v := y40) e_y40 ?_
  refine lv_istore (lv' := [(9, .int y40), (8, .int s0), (0, .ref (ad 61)), (1, .int v1), (2, .int v2), (3, .int v3), (6, .int v6), (7, .int v7)]) E.x E.b d_Txm_read_101 hl (by decide) rfl (fun ls hl => ?_)
  refine lv_aload_n E.x E.b d_Txm_read_103 rfl (lv_at hl 2 rfl) ?_
  refine lv_iload_n E.x E.b d_Txm_read_104 rfl (lv_at hl 3 rfl) ?_
  refine lv_iload E.x E.b d_Txm_read_105 (lv_at hl 0 rfl) ?_
  refine lv_iload_n E.x E.b d_Txm_read_107 rfl (lv_at hl 4 rfl) ?_
  refine lv_iload_n E.x E.b d_Txm_read_108 rfl (lv_at hl 5 rfl) ?_
  refine lv_iload E.x E.b d_Txm_read_109 (lv_at hl 1 rfl) ?_
  obtain ⟨o41, h_o41, h⟩ := bd_some h
  refine clV_Txm_readLevel E w (x0 := v1) (x1 := y40) (x2 := v2) (x3 := v3) (x4 := s0) h_o41 k2245 (by decide) hl.1 (Nat.le_of_ble_eq_true rfl) d_Txm_read_111 (fun H locs w => ?_)
  refine lv_iload E.x E.b d_Txm_read_114 (lv_at hl 7 rfl) ?_
  refine lv_iconst (v := 1) E.x E.b d_Txm_read_116 (by decide) ?_
  refine lv_icmp_le (tgt := 224) E.x E.b d_Txm_read_117 (by decide) (fun c => ?_) (fun c => ?_)
  ·
    replace h := ifT c h
    exact bt_Txm_read_224 E hret o o41 h w (lv_sub hl [2] rfl)
  ·
    replace h := ifF c h
    refine lv_iload E.x E.b d_Txm_read_120 (lv_at hl 0 rfl) ?_
    refine lv_iconst (v := 1) E.x E.b d_Txm_read_122 (by decide) ?_
    refine lv_iadd E.x E.b d_Txm_read_123 ?_
    refine lv_aload_n E.x E.b d_Txm_read_124 rfl (lv_at hl 2 rfl) ?_
    refine gM_Txm_units E w k1515 d_Txm_read_125 ?_
    refine lv_bipush (v := 8) E.x E.b d_Txm_read_128 (by decide) ?_
    refine lv_iload_n E.x E.b d_Txm_read_130 rfl (lv_at hl 3 rfl) ?_
    refine lv_imul E.x E.b d_Txm_read_131 ?_
    refine lv_iconst (v := 3) E.x E.b d_Txm_read_132 (by decide) ?_
    refine lv_iadd E.x E.b d_Txm_read_133 ?_
    obtain ⟨c42, h⟩ := ck_some h
    refine ialM E w (k := 5) (by decide) c42 d_Txm_read_134 ?_
    refine lv_icmp_ge (tgt := 224) E.x E.b d_Txm_read_135 (by decide) (fun c => ?_) (fun c => ?_)
    ·
      replace h := ifT c h
      exact bt_Txm_read_224 E hret o o41 h w (lv_sub hl [2] rfl)
    ·
      replace h := ifF c h
      refine lv_iconst (v := 0) E.x E.b d_Txm_read_138 (by decide) ?_
      refine lv_istore (lv' := [(10, .int 0), (9, .int y40), (8, .int s0), (0, .ref (ad 61)), (1, .int v1), (2, .int v2), (3, .int v3), (6, .int v6), (7, .int v7)]) E.x E.b d_Txm_read_139 hl (by decide) rfl (fun ls hl => ?_)
      exact lt_Txm_read_141 E hret o 100000 o41 v1 v2 v3 v6 s0 y40 0 _ _ _ h w (lv_sub hl [3, 4, 5, 6, 7, 2, 1, 0] rfl)
def F_Txm_read_65 (σ : Sg) (v1 : Int32) (v2 : Int32) (v3 : Int32) (s0 : Int32) : Option (Sg × Int32) := ck (inb ((8 * v1) + 7) 32) (lt (σ.2.2.1 5 ((8 * v1) + 7).toNatClampNeg) (fun y44 => if (irem y44 2) = 1 then (F_Txm_read_94 σ v1 v2 v3 s0 y44 1) else (F_Txm_read_94 σ v1 v2 v3 s0 y44 0)))
set_option maxRecDepth 10000 in
set_option maxHeartbeats 4000000 in
theorem bt_Txm_read_65 {p : Program} {l : Launch} {e : Env} {R : Room} {s : State} {m : MethodId} {args : Array Value} {below : List Frame} {meth : Method} {c : Code} {D : va_G} {τ : ClassId × ClassId × ClassId} {B : Nat} {A : Nat → Prop} {ad : Nat → Nat} (E : Cx p R s m args meth c prog_19_method_20_code 11 "DrawingMachineModel$TextureUnitsModel" 7 D τ B A) (hret : meth.sig.returnType = (some .int)) (o : Sg × Int32) (σ : Sg) (v1 : Int32) (v2 : Int32) (v3 : Int32) (s0 : Int32) (h : F_Txm_read_65 σ v1 v2 v3 s0 = some o) {H : Heap} {locs : List Loc} {ls : Array Slot} (w : Wd s D A (wdM τ σ ad) H locs) (hl : lv_has ls 11 [(0, .ref (ad 61)), (1, .int v1), (2, .int v2), (3, .int v3)]) : W p l e R s m args below meth c H locs 0 0 (QI below args s A D τ (wdM τ o.1 ad) o.2) (F0 m 65 ls [.int s0]) := by
  refine lv_istore (lv' := [(6, .int s0), (0, .ref (ad 61)), (1, .int v1), (2, .int v2), (3, .int v3)]) E.x E.b d_Txm_read_65 hl (by decide) rfl (fun ls hl => ?_)
  refine lv_aload_n E.x E.b d_Txm_read_67 rfl (lv_at hl 1 rfl) ?_
  refine gM_Txm_units E w k1515 d_Txm_read_68 ?_
  refine lv_bipush (v := 8) E.x E.b d_Txm_read_71 (by decide) ?_
  refine lv_iload_n E.x E.b d_Txm_read_73 rfl (lv_at hl 2 rfl) ?_
  refine lv_imul E.x E.b d_Txm_read_74 ?_
  refine lv_bipush (v := 7) E.x E.b d_Txm_read_75 (by decide) ?_
  refine lv_iadd E.x E.b d_Txm_read_77 ?_
  obtain ⟨c43, h⟩ := ck_some h
  refine ialM E w (k := 5) (by decide) c43 d_Txm_read_78 ?_
  obtain ⟨y44, e_y44, h⟩ := lt_some h
  refine wi_e (v := y44) e_y44 ?_
  refine lv_istore (lv' := [(7, .int y44), (6, .int s0), (0, .ref (ad 61)), (1, .int v1), (2, .int v2), (3, .int v3)]) E.x E.b d_Txm_read_79 hl (by decide) rfl (fun ls hl => ?_)
  refine lv_iload E.x E.b d_Txm_read_81 (lv_at hl 0 rfl) ?_
  refine lv_iconst (v := 2) E.x E.b d_Txm_read_83 (by decide) ?_
  refine lv_irem E.x E.b d_Txm_read_84 (by decide) ?_
  refine wi_e (v := irem y44 2) rfl ?_
  refine lv_iconst (v := 1) E.x E.b d_Txm_read_85 (by decide) ?_
  refine lv_icmp_ne (tgt := 93) E.x E.b d_Txm_read_86 (by decide) (fun c => ?_) (fun c => ?_)
  ·
    replace h := ifF c h
    refine lv_iconst (v := 0) E.x E.b d_Txm_read_93 (by decide) ?_
    exact bt_Txm_read_94 E hret o σ v1 v2 v3 s0 y44 0 h w (lv_sub hl [2, 3, 4, 5, 1, 0] rfl)
  ·
    replace h := ifT c h
    refine lv_iconst (v := 1) E.x E.b d_Txm_read_89 (by decide) ?_
    refine lv_goto (tgt := 94) E.x E.b d_Txm_read_90 (by decide) ?_
    exact bt_Txm_read_94 E hret o σ v1 v2 v3 s0 y44 1 h w (lv_sub hl [2, 3, 4, 5, 1, 0] rfl)
def F_Txm_read_15 (σ : Sg) (v1 : Int32) (v2 : Int32) (v3 : Int32) (v4 : Int32) (s1 : Int32) : Option (Sg × Int32) := bd (F_Txm_refuse σ s1 0) (fun o45 => if o45.2 = 0 then (ck (inb ((8 * v1) + 3) 32) (lt (65536 * ((o45.1.2.2.1 5 ((8 * v1) + 3).toNatClampNeg) - 1)) (fun y47 => if 0 ≤ v4 then (if v4 ≤ y47 then (F_Txm_read_65 o45.1 v1 v2 v3 v4) else (F_Txm_read_65 o45.1 v1 v2 v3 y47)) else (F_Txm_read_65 o45.1 v1 v2 v3 0)))) else (some (o45.1, 0)))
set_option maxRecDepth 10000 in
set_option maxHeartbeats 4000000 in
theorem bt_Txm_read_15 {p : Program} {l : Launch} {e : Env} {R : Room} {s : State} {m : MethodId} {args : Array Value} {below : List Frame} {meth : Method} {c : Code} {D : va_G} {τ : ClassId × ClassId × ClassId} {B : Nat} {A : Nat → Prop} {ad : Nat → Nat} (E : Cx p R s m args meth c prog_19_method_20_code 11 "DrawingMachineModel$TextureUnitsModel" 7 D τ B A) (hret : meth.sig.returnType = (some .int)) (o : Sg × Int32) (σ : Sg) (v1 : Int32) (v2 : Int32) (v3 : Int32) (v4 : Int32) (s1 : Int32) (h : F_Txm_read_15 σ v1 v2 v3 v4 s1 = some o) {H : Heap} {locs : List Loc} {ls : Array Slot} (w : Wd s D A (wdM τ σ ad) H locs) (hl : lv_has ls 11 [(0, .ref (ad 61)), (1, .int v1), (2, .int v2), (3, .int v3), (4, .int v4)]) : W p l e R s m args below meth c H locs 0 0 (QI below args s A D τ (wdM τ o.1 ad) o.2) (F0 m 15 ls [.int s1, .ref (ad 61)]) := by
  refine lv_iconst (v := 0) E.x E.b d_Txm_read_15 (by decide) ?_
  obtain ⟨o45, h_o45, h⟩ := bd_some h
  refine clV_Txm_refuse E w (x0 := s1) (x1 := 0) h_o45 k2047 (by decide) hl.1 (Nat.le_of_ble_eq_true rfl) d_Txm_read_16 (fun H locs w => ?_)
  refine lv_if_eq (tgt := 24) E.x E.b d_Txm_read_19 (by decide) (fun c => ?_) (fun c => ?_)
  ·
    replace h := ifT c h
    refine lv_ldc (v := 65536) E.x E.b E.o (E.w _ k2244) d_Txm_read_24 ?_
    refine lv_aload_n E.x E.b d_Txm_read_26 rfl (lv_at hl 0 rfl) ?_
    refine gM_Txm_units E w k1515 d_Txm_read_27 ?_
    refine lv_bipush (v := 8) E.x E.b d_Txm_read_30 (by decide) ?_
    refine lv_iload_n E.x E.b d_Txm_read_32 rfl (lv_at hl 1 rfl) ?_
    refine lv_imul E.x E.b d_Txm_read_33 ?_
    refine lv_iconst (v := 3) E.x E.b d_Txm_read_34 (by decide) ?_
    refine lv_iadd E.x E.b d_Txm_read_35 ?_
    obtain ⟨c46, h⟩ := ck_some h
    refine ialM E w (k := 5) (by decide) c46 d_Txm_read_36 ?_
    refine lv_iconst (v := 1) E.x E.b d_Txm_read_37 (by decide) ?_
    refine lv_isub E.x E.b d_Txm_read_38 ?_
    refine lv_imul E.x E.b d_Txm_read_39 ?_
    obtain ⟨y47, e_y47, h⟩ := lt_some h
    refine wi_e (v := y47) e_y47 ?_
    refine lv_istore (lv' := [(5, .int y47), (0, .ref (ad 61)), (1, .int v1), (2, .int v2), (3, .int v3), (4, .int v4)]) E.x E.b d_Txm_read_40 hl (by decide) rfl (fun ls hl => ?_)
    refine lv_iload E.x E.b d_Txm_read_42 (lv_at hl 5 rfl) ?_
    refine lv_if_ge (tgt := 51) E.x E.b d_Txm_read_44 (by decide) (fun c => ?_) (fun c => ?_)
    ·
      replace h := ifT c h
      refine lv_iload E.x E.b d_Txm_read_51 (lv_at hl 5 rfl) ?_
      refine lv_iload E.x E.b d_Txm_read_53 (lv_at hl 0 rfl) ?_
      refine lv_icmp_le (tgt := 63) E.x E.b d_Txm_read_55 (by decide) (fun c => ?_) (fun c => ?_)
      ·
        replace h := ifT c h
        refine lv_iload E.x E.b d_Txm_read_63 (lv_at hl 5 rfl) ?_
        exact bt_Txm_read_65 E hret o o45.1 v1 v2 v3 v4 h w (lv_sub hl [1, 2, 3, 4] rfl)
      ·
        replace h := ifF c h
        refine lv_iload E.x E.b d_Txm_read_58 (lv_at hl 0 rfl) ?_
        refine lv_goto (tgt := 65) E.x E.b d_Txm_read_60 (by decide) ?_
        exact bt_Txm_read_65 E hret o o45.1 v1 v2 v3 y47 h w (lv_sub hl [1, 2, 3, 4] rfl)
    ·
      replace h := ifF c h
      refine lv_iconst (v := 0) E.x E.b d_Txm_read_47 (by decide) ?_
      refine lv_goto (tgt := 65) E.x E.b d_Txm_read_48 (by decide) ?_
      exact bt_Txm_read_65 E hret o o45.1 v1 v2 v3 0 h w (lv_sub hl [1, 2, 3, 4] rfl)
  ·
    replace h := ifF c h
    refine lv_iconst (v := 0) E.x E.b d_Txm_read_22 (by decide) ?_
    obtain rfl := Option.some.inj h
    exact rt_i E w hret d_Txm_read_23
def F_Txm_read (σ : Sg) (x0 : Int32) (x1 : Int32) (x2 : Int32) (x3 : Int32) : Option (Sg × Int32) := bd (F_Txm_in x0 0 3) (fun o48 => if o48 = 0 then (F_Txm_read_15 σ x0 x1 x2 x3 1) else (F_Txm_read_15 σ x0 x1 x2 x3 0))
set_option maxRecDepth 10000 in
set_option maxHeartbeats 4000000 in
theorem c_Txm_read (l : Launch) (D : va_G) (τ : ClassId × ClassId × ClassId) (B : Nat) (σ : Sg) (ad : Nat → Nat) (x0 : Int32) (x1 : Int32) (x2 : Int32) (x3 : Int32) (o : Sg × Int32) (h : F_Txm_read σ x0 x1 x2 x3 = some o) : MI l y_Txm_read (Cond.code y_Txm_read prog_19_method_20_code 11 (some .int)) 7 D τ B [.ref (ad 61), .int x0, .int x1, .int x2, .int x3] (wdM τ σ ad) (wdM τ o.1 ad) o.2 := by
  refine en_i (by decide) (Nat.le_of_ble_eq_true rfl) ?_
  intro p e R s m args below meth c H locs ls A E hret w hl
  have E : Cx p R s m args meth c prog_19_method_20_code 11 "DrawingMachineModel$TextureUnitsModel" 7 D τ B A := E
  have hl : lv_has ls 11 [(0, .ref (ad 61)), (1, .int x0), (2, .int x1), (3, .int x2), (4, .int x3)] := hl
  refine lv_aload_n E.x E.b d_Txm_read_0 rfl (lv_at hl 0 rfl) ?_
  refine lv_iload_n E.x E.b d_Txm_read_1 rfl (lv_at hl 1 rfl) ?_
  refine lv_iconst (v := 0) E.x E.b d_Txm_read_2 (by decide) ?_
  refine lv_iconst (v := 3) E.x E.b d_Txm_read_3 (by decide) ?_
  obtain ⟨o48, h_o48, h⟩ := bd_some h
  refine clS_Txm_in E w (x0 := x0) (x1 := 0) (x2 := 3) h_o48 k2044 (by decide) hl.1 (Nat.le_of_ble_eq_true rfl) d_Txm_read_4 (fun H locs w => ?_)
  refine lv_if_ne (tgt := 14) E.x E.b d_Txm_read_7 (by decide) (fun c => ?_) (fun c => ?_)
  ·
    replace h := ifF c h
    refine lv_iconst (v := 0) E.x E.b d_Txm_read_14 (by decide) ?_
    exact bt_Txm_read_15 E hret o σ x0 x1 x2 x3 0 h w (lv_sub hl [0, 1, 2, 3, 4] rfl)
  ·
    replace h := ifT c h
    refine lv_iconst (v := 1) E.x E.b d_Txm_read_10 (by decide) ?_
    refine lv_goto (tgt := 15) E.x E.b d_Txm_read_11 (by decide) ?_
    exact bt_Txm_read_15 E hret o σ x0 x1 x2 x3 1 h w (lv_sub hl [0, 1, 2, 3, 4] rfl)
theorem clV_Txm_read {p : Program} {l : Launch} {e : Env} {R : Room} {s : State} {m : MethodId} {args : Array Value} {below : List Frame} {meth : Method} {c : Code} {H : Heap} {locs : List Loc} {Q : State → Prop} {cc : ByteArray} {nL pc lev : Nat} {own : String} {D : va_G} {τ : ClassId × ClassId × ClassId} {B : Nat} {A : Nat → Prop} {σ : Sg} {ad : Nat → Nat} {ls : Array Slot} {rest : List Value} (E : Cx p R s m args meth c cc nL own lev D τ B A) (w : Wd s D A (wdM τ σ ad) H locs) {x0 : Int32} {x1 : Int32} {x2 : Int32} {x3 : Int32} {o : Sg × Int32} (h : F_Txm_read σ x0 x1 x2 x3 = some o) {index : Nat} (hlk : Cond.methodLink own index y_Txm_read ∈ tw) (hlev : 7 < lev) (hsz : ls.size = nL) (hr : (rest.map fun v => v.category).sum ≤ 8) (hd : decode cc pc = .ok (.invokevirtual index, 3)) (kk : ∀ (H1 : Heap) (locs1 : List Loc), Wd s D A (wdM τ o.1 ad) H1 locs1 → W p l e R s m args below meth c H1 locs1 0 0 Q (F0 m (pc + 3) ls (.int o.2 :: rest))) : W p l e R s m args below meth c H locs 0 0 Q (F0 m pc ls (.int x3 :: .int x2 :: .int x1 :: .int x0 :: .ref (ad 61) :: rest)) :=
  cr_i w E.C (va_runV (As := [.int x0, .int x1, .int x2, .int x3]) (rest := rest) E.fix (c_Txm_read l D τ B σ ad x0 x1 x2 x3 o h H.size) (cwV 4 E.w (tw_pre (tw_good k2243) (l := [_, _, _, _]) (List.forall_mem_cons.mpr ⟨hlk, List.forall_mem_cons.mpr ⟨k2241, List.forall_mem_cons.mpr ⟨k2242, List.forall_mem_cons.mpr ⟨k16, fun _ h => absurd h List.not_mem_nil⟩⟩⟩⟩)) rfl rfl rfl (by decide +kernel) (E.rm hlev (by decide))) (wd_preV w E.C [.int x0, .int x1, .int x2, .int x3] rcM_Txm rfl) rfl rfl hsz rfl (lv_room hr) hd ⟨Nat.zero_le _, Nat.zero_le _⟩) kk

theorem d_Shm_sampled_0 : decode prog_18_method_27_code 0 = .ok (.iload_n 2, 1) := by decide +kernel
theorem d_Shm_sampled_1 : decode prog_18_method_27_code 1 = .ok (.ifCond .ne 43, 3) := by decide +kernel
theorem d_Shm_sampled_4 : decode prog_18_method_27_code 4 = .ok (.aload_n 0, 1) := by decide +kernel
theorem d_Shm_sampled_5 : decode prog_18_method_27_code 5 = .ok (.getfield 47, 3) := by decide +kernel
theorem d_Shm_sampled_8 : decode prog_18_method_27_code 8 = .ok (.aload_n 0, 1) := by decide +kernel
theorem d_Shm_sampled_9 : decode prog_18_method_27_code 9 = .ok (.getfield 160, 3) := by decide +kernel
theorem d_Shm_sampled_12 : decode prog_18_method_27_code 12 = .ok (.aload_n 0, 1) := by decide +kernel
theorem d_Shm_sampled_13 : decode prog_18_method_27_code 13 = .ok (.getfield 32, 3) := by decide +kernel
theorem d_Shm_sampled_16 : decode prog_18_method_27_code 16 = .ok (.iconst 0, 1) := by decide +kernel
theorem d_Shm_sampled_17 : decode prog_18_method_27_code 17 = .ok (.iaload, 1) := by decide +kernel
theorem d_Shm_sampled_18 : decode prog_18_method_27_code 18 = .ok (.aload_n 0, 1) := by decide +kernel
theorem d_Shm_sampled_19 : decode prog_18_method_27_code 19 = .ok (.getfield 32, 3) := by decide +kernel
theorem d_Shm_sampled_22 : decode prog_18_method_27_code 22 = .ok (.iconst 1, 1) := by decide +kernel
theorem d_Shm_sampled_23 : decode prog_18_method_27_code 23 = .ok (.iaload, 1) := by decide +kernel
theorem d_Shm_sampled_24 : decode prog_18_method_27_code 24 = .ok (.iload_n 1, 1) := by decide +kernel
theorem d_Shm_sampled_25 : decode prog_18_method_27_code 25 = .ok (.bipush 33, 2) := by decide +kernel
theorem d_Shm_sampled_27 : decode prog_18_method_27_code 27 = .ok (.if_icmp .ne 12, 3) := by decide +kernel
theorem d_Shm_sampled_30 : decode prog_18_method_27_code 30 = .ok (.aload_n 0, 1) := by decide +kernel
theorem d_Shm_sampled_31 : decode prog_18_method_27_code 31 = .ok (.getfield 32, 3) := by decide +kernel
theorem d_Shm_sampled_34 : decode prog_18_method_27_code 34 = .ok (.iconst 2, 1) := by decide +kernel
theorem d_Shm_sampled_35 : decode prog_18_method_27_code 35 = .ok (.iaload, 1) := by decide +kernel
theorem d_Shm_sampled_36 : decode prog_18_method_27_code 36 = .ok (.goto 4, 3) := by decide +kernel
theorem d_Shm_sampled_39 : decode prog_18_method_27_code 39 = .ok (.iconst 0, 1) := by decide +kernel
theorem d_Shm_sampled_40 : decode prog_18_method_27_code 40 = .ok (.invokevirtual 163, 3) := by decide +kernel
theorem d_Shm_sampled_43 : decode prog_18_method_27_code 43 = .ok (.pop, 1) := by decide +kernel
theorem d_Shm_sampled_44 : decode prog_18_method_27_code 44 = .ok (.aload_n 0, 1) := by decide +kernel
theorem d_Shm_sampled_45 : decode prog_18_method_27_code 45 = .ok (.getfield 47, 3) := by decide +kernel
theorem d_Shm_sampled_48 : decode prog_18_method_27_code 48 = .ok (.iload_n 2, 1) := by decide +kernel
theorem d_Shm_sampled_49 : decode prog_18_method_27_code 49 = .ok (.invokevirtual 168, 3) := by decide +kernel
theorem d_Shm_sampled_52 : decode prog_18_method_27_code 52 = .ok (.ireturn, 1) := by decide +kernel
def F_Shm_sampled_44 (σ : Sg) (v0 : Nat) (v2 : Int32) : Option (Sg × Int32) := ck (v0 < 2) (bd (F_Txm_also σ v2) (fun o7 => some (o7.1, o7.2)))
set_option maxRecDepth 10000 in
set_option maxHeartbeats 4000000 in
theorem bt_Shm_sampled_44 {p : Program} {l : Launch} {e : Env} {R : Room} {s : State} {m : MethodId} {args : Array Value} {below : List Frame} {meth : Method} {c : Code} {D : va_G} {τ : ClassId × ClassId × ClassId} {B : Nat} {A : Nat → Prop} {ad : Nat → Nat} (E : Cx p R s m args meth c prog_18_method_27_code 3 "DrawingMachineModel$ShaderMachineModel" 8 D τ B A) (hret : meth.sig.returnType = (some .int)) (o : Sg × Int32) (σ : Sg) (v0 : Nat) (v2 : Int32) (h : F_Shm_sampled_44 σ v0 v2 = some o) {H : Heap} {locs : List Loc} {ls : Array Slot} (w : Wd s D A (wdM τ σ ad) H locs) (hl : lv_has ls 3 [(0, .ref (ad (65 + v0))), (2, .int v2)]) : W p l e R s m args below meth c H locs 0 0 (QI below args s A D τ (wdM τ o.1 ad) o.2) (F0 m 44 ls []) := by
  obtain ⟨c6, h⟩ := ck_some h
  refine lv_aload_n E.x E.b d_Shm_sampled_44 rfl (lv_at hl 0 rfl) ?_
  refine gM_Shm_units E w (pid := v0) c6 k1555 d_Shm_sampled_45 ?_
  refine lv_iload_n E.x E.b d_Shm_sampled_48 rfl (lv_at hl 1 rfl) ?_
  obtain ⟨o7, h_o7, h⟩ := bd_some h
  refine clV_Txm_also E w (x0 := v2) h_o7 k2301 (by decide) hl.1 (Nat.le_of_ble_eq_true rfl) d_Shm_sampled_49 (fun H locs w => ?_)
  obtain rfl := Option.some.inj h
  exact rt_i E w hret d_Shm_sampled_52
def F_Shm_sampled_40 (σ : Sg) (v0 : Nat) (v2 : Int32) (s1 : Int32) (s2 : Int32) (s3 : Int32) (s4 : Int32) : Option (Sg × Int32) := ck (v0 < 2) (bd (F_Txm_read σ s1 s2 s3 s4) (fun o9 => F_Shm_sampled_44 o9.1 v0 v2))
set_option maxRecDepth 10000 in
set_option maxHeartbeats 4000000 in
theorem bt_Shm_sampled_40 {p : Program} {l : Launch} {e : Env} {R : Room} {s : State} {m : MethodId} {args : Array Value} {below : List Frame} {meth : Method} {c : Code} {D : va_G} {τ : ClassId × ClassId × ClassId} {B : Nat} {A : Nat → Prop} {ad : Nat → Nat} (E : Cx p R s m args meth c prog_18_method_27_code 3 "DrawingMachineModel$ShaderMachineModel" 8 D τ B A) (hret : meth.sig.returnType = (some .int)) (o : Sg × Int32) (σ : Sg) (v0 : Nat) (v2 : Int32) (s1 : Int32) (s2 : Int32) (s3 : Int32) (s4 : Int32) (h : F_Shm_sampled_40 σ v0 v2 s1 s2 s3 s4 = some o) {H : Heap} {locs : List Loc} {ls : Array Slot} (w : Wd s D A (wdM τ σ ad) H locs) (hl : lv_has ls 3 [(0, .ref (ad (65 + v0))), (2, .int v2)]) : W p l e R s m args below meth c H locs 0 0 (QI below args s A D τ (wdM τ o.1 ad) o.2) (F0 m 40 ls [.int s4, .int s3, .int s2, .int s1, .ref (ad 61)]) := by
  obtain ⟨c8, h⟩ := ck_some h
  obtain ⟨o9, h_o9, h⟩ := bd_some h
  refine clV_Txm_read E w (x0 := s1) (x1 := s2) (x2 := s3) (x3 := s4) h_o9 k2240 (by decide) hl.1 (Nat.le_of_ble_eq_true rfl) d_Shm_sampled_40 (fun H locs w => ?_)
  refine lv_pop E.x E.b d_Shm_sampled_43 rfl ?_
  exact bt_Shm_sampled_44 E hret o o9.1 v0 v2 h w (lv_sub hl [0, 1] rfl)
def F_Shm_sampled (σ : Sg) (p0 : Nat) (x0 : Int32) (x1 : Int32) : Option (Sg × Int32) := ck (p0 < 2) (if x1 = 0 then (ck (inb 0 (lenM σ (20 + 10 * p0))) (ck (inb 1 (lenM σ (20 + 10 * p0))) (if x0 = 33 then (ck (inb 2 (lenM σ (20 + 10 * p0))) (F_Shm_sampled_40 σ p0 x1 (σ.1 (44 + 6 * p0)) (σ.2.2.1 (20 + 10 * p0) 0) (σ.2.2.1 (20 + 10 * p0) 1) (σ.2.2.1 (20 + 10 * p0) 2))) else (F_Shm_sampled_40 σ p0 x1 (σ.1 (44 + 6 * p0)) (σ.2.2.1 (20 + 10 * p0) 0) (σ.2.2.1 (20 + 10 * p0) 1) 0)))) else (F_Shm_sampled_44 σ p0 x1))
set_option maxRecDepth 10000 in
set_option maxHeartbeats 4000000 in
theorem c_Shm_sampled (l : Launch) (D : va_G) (τ : ClassId × ClassId × ClassId) (B : Nat) (σ : Sg) (ad : Nat → Nat) (p0 : Nat) (x0 : Int32) (x1 : Int32) (o : Sg × Int32) (h : F_Shm_sampled σ p0 x0 x1 = some o) : MI l y_Shm_sampled (Cond.code y_Shm_sampled prog_18_method_27_code 3 (some .int)) 8 D τ B [.ref (ad (65 + p0)), .int x0, .int x1] (wdM τ σ ad) (wdM τ o.1 ad) o.2 := by
  refine en_i (by decide) (Nat.le_of_ble_eq_true rfl) ?_
  intro p e R s m args below meth c H locs ls A E hret w hl
  have E : Cx p R s m args meth c prog_18_method_27_code 3 "DrawingMachineModel$ShaderMachineModel" 8 D τ B A := E
  have hl : lv_has ls 3 [(0, .ref (ad (65 + p0))), (1, .int x0), (2, .int x1)] := hl
  obtain ⟨c10, h⟩ := ck_some h
  refine lv_iload_n E.x E.b d_Shm_sampled_0 rfl (lv_at hl 2 rfl) ?_
  refine lv_if_ne (tgt := 44) E.x E.b d_Shm_sampled_1 (by decide) (fun c => ?_) (fun c => ?_)
  ·
    replace h := ifF c h
    exact bt_Shm_sampled_44 E hret o σ p0 x1 h w (lv_sub hl [0, 2] rfl)
  ·
    replace h := ifT c h
    refine lv_aload_n E.x E.b d_Shm_sampled_4 rfl (lv_at hl 0 rfl) ?_
    refine gM_Shm_units E w (pid := p0) c10 k1555 d_Shm_sampled_5 ?_
    refine lv_aload_n E.x E.b d_Shm_sampled_8 rfl (lv_at hl 0 rfl) ?_
    refine gM_Shm_told E w (pid := p0) c10 k1563 d_Shm_sampled_9 ?_
    refine lv_aload_n E.x E.b d_Shm_sampled_12 rfl (lv_at hl 0 rfl) ?_
    refine gM_Shm_read E w (pid := p0) c10 k1571 d_Shm_sampled_13 ?_
    refine lv_iconst (v := 0) E.x E.b d_Shm_sampled_16 (by decide) ?_
    obtain ⟨c11, h⟩ := ck_some h
    refine ialM E w (k := (20 + 10 * p0)) (by omega) c11 d_Shm_sampled_17 ?_
    refine wi_e (v := σ.2.2.1 (20 + 10 * p0) 0) rfl ?_
    refine lv_aload_n E.x E.b d_Shm_sampled_18 rfl (lv_at hl 0 rfl) ?_
    refine gM_Shm_read E w (pid := p0) c10 k1571 d_Shm_sampled_19 ?_
    refine lv_iconst (v := 1) E.x E.b d_Shm_sampled_22 (by decide) ?_
    obtain ⟨c12, h⟩ := ck_some h
    refine ialM E w (k := (20 + 10 * p0)) (by omega) c12 d_Shm_sampled_23 ?_
    refine wi_e (v := σ.2.2.1 (20 + 10 * p0) 1) rfl ?_
    refine lv_iload_n E.x E.b d_Shm_sampled_24 rfl (lv_at hl 1 rfl) ?_
    refine lv_bipush (v := 33) E.x E.b d_Shm_sampled_25 (by decide) ?_
    refine lv_icmp_ne (tgt := 39) E.x E.b d_Shm_sampled_27 (by decide) (fun c => ?_) (fun c => ?_)
    ·
      replace h := ifF c h
      refine lv_iconst (v := 0) E.x E.b d_Shm_sampled_39 (by decide) ?_
      exact bt_Shm_sampled_40 E hret o σ p0 x1 (σ.1 (44 + 6 * p0)) (σ.2.2.1 (20 + 10 * p0) 0) (σ.2.2.1 (20 + 10 * p0) 1) 0 h w (lv_sub hl [0, 2] rfl)
    ·
      replace h := ifT c h
      refine lv_aload_n E.x E.b d_Shm_sampled_30 rfl (lv_at hl 0 rfl) ?_
      refine gM_Shm_read E w (pid := p0) c10 k1571 d_Shm_sampled_31 ?_
      refine lv_iconst (v := 2) E.x E.b d_Shm_sampled_34 (by decide) ?_
      obtain ⟨c13, h⟩ := ck_some h
      refine ialM E w (k := (20 + 10 * p0)) (by omega) c13 d_Shm_sampled_35 ?_
      refine wi_e (v := σ.2.2.1 (20 + 10 * p0) 2) rfl ?_
      refine lv_goto (tgt := 40) E.x E.b d_Shm_sampled_36 (by decide) ?_
      exact bt_Shm_sampled_40 E hret o σ p0 x1 (σ.1 (44 + 6 * p0)) (σ.2.2.1 (20 + 10 * p0) 0) (σ.2.2.1 (20 + 10 * p0) 1) (σ.2.2.1 (20 + 10 * p0) 2) h w (lv_sub hl [0, 2] rfl)
theorem clV_Shm_sampled {p : Program} {l : Launch} {e : Env} {R : Room} {s : State} {m : MethodId} {args : Array Value} {below : List Frame} {meth : Method} {c : Code} {H : Heap} {locs : List Loc} {Q : State → Prop} {cc : ByteArray} {nL pc lev : Nat} {own : String} {D : va_G} {τ : ClassId × ClassId × ClassId} {B : Nat} {A : Nat → Prop} {σ : Sg} {ad : Nat → Nat} {ls : Array Slot} {rest : List Value} (E : Cx p R s m args meth c cc nL own lev D τ B A) (w : Wd s D A (wdM τ σ ad) H locs) {p0 : Nat} {x0 : Int32} {x1 : Int32} {o : Sg × Int32} (h : F_Shm_sampled σ p0 x0 x1 = some o) {index : Nat} (hlk : Cond.methodLink own index y_Shm_sampled ∈ tw) (hlev : 8 < lev) (hsz : ls.size = nL) (hr : (rest.map fun v => v.category).sum ≤ 8) (hd : decode cc pc = .ok (.invokevirtual index, 3)) (kk : ∀ (H1 : Heap) (locs1 : List Loc), Wd s D A (wdM τ o.1 ad) H1 locs1 → W p l e R s m args below meth c H1 locs1 0 0 Q (F0 m (pc + 3) ls (.int o.2 :: rest))) : W p l e R s m args below meth c H locs 0 0 Q (F0 m pc ls (.int x1 :: .int x0 :: .ref (ad (65 + p0)) :: rest)) :=
  cr_i w E.C (va_runV (As := [.int x0, .int x1]) (rest := rest) E.fix (c_Shm_sampled l D τ B σ ad p0 x0 x1 o h H.size) (cwV 2 E.w (tw_pre (tw_good k2239) (l := [_, _, _, _]) (List.forall_mem_cons.mpr ⟨hlk, List.forall_mem_cons.mpr ⟨k2238, List.forall_mem_cons.mpr ⟨ks82, List.forall_mem_cons.mpr ⟨k17, fun _ h => absurd h List.not_mem_nil⟩⟩⟩⟩)) rfl rfl rfl (by decide +kernel) (E.rm hlev (by decide))) (wd_preV w E.C [.int x0, .int x1] (rcM_Shm (ck_some h).1) rfl) rfl rfl hsz rfl (lv_room hr) hd ⟨Nat.zero_le _, Nat.zero_le _⟩) kk

theorem d_Shm_word_0 : decode prog_18_method_24_code 0 = .ok (.iload_n 1, 1) := by decide +kernel
theorem d_Shm_word_1 : decode prog_18_method_24_code 1 = .ok (.ifCond .lt 19, 3) := by decide +kernel
theorem d_Shm_word_4 : decode prog_18_method_24_code 4 = .ok (.iload_n 1, 1) := by decide +kernel
theorem d_Shm_word_5 : decode prog_18_method_24_code 5 = .ok (.sipush 4096, 3) := by decide +kernel
theorem d_Shm_word_8 : decode prog_18_method_24_code 8 = .ok (.if_icmp .ge 12, 3) := by decide +kernel
theorem d_Shm_word_11 : decode prog_18_method_24_code 11 = .ok (.aload_n 0, 1) := by decide +kernel
theorem d_Shm_word_12 : decode prog_18_method_24_code 12 = .ok (.getfield 44, 3) := by decide +kernel
theorem d_Shm_word_15 : decode prog_18_method_24_code 15 = .ok (.iload_n 1, 1) := by decide +kernel
theorem d_Shm_word_16 : decode prog_18_method_24_code 16 = .ok (.iaload, 1) := by decide +kernel
theorem d_Shm_word_17 : decode prog_18_method_24_code 17 = .ok (.goto 4, 3) := by decide +kernel
theorem d_Shm_word_20 : decode prog_18_method_24_code 20 = .ok (.iconst 0, 1) := by decide +kernel
theorem d_Shm_word_21 : decode prog_18_method_24_code 21 = .ok (.ireturn, 1) := by decide +kernel
def F_Shm_word_21 (σ : Sg) (s0 : Int32) : Option (Int32) := some s0
set_option maxRecDepth 10000 in
set_option maxHeartbeats 4000000 in
theorem bt_Shm_word_21 {p : Program} {l : Launch} {e : Env} {R : Room} {s : State} {m : MethodId} {args : Array Value} {below : List Frame} {meth : Method} {c : Code} {D : va_G} {τ : ClassId × ClassId × ClassId} {B : Nat} {A : Nat → Prop} {ad : Nat → Nat} (E : Cx p R s m args meth c prog_18_method_24_code 2 "DrawingMachineModel$ShaderMachineModel" 0 D τ B A) (hret : meth.sig.returnType = (some .int)) (o : Int32) (σ : Sg) (s0 : Int32) (h : F_Shm_word_21 σ s0 = some o) {H : Heap} {locs : List Loc} {ls : Array Slot} (w : Wd s D A (wdM τ σ ad) H locs) (hl : lv_has ls 2 []) : W p l e R s m args below meth c H locs 0 0 (QI below args s A D τ (wdM τ σ ad) o) (F0 m 21 ls [.int s0]) := by
  obtain rfl := Option.some.inj h
  exact rt_i E w hret d_Shm_word_21
def F_Shm_word_20 (σ : Sg) : Option (Int32) := F_Shm_word_21 σ 0
set_option maxRecDepth 10000 in
set_option maxHeartbeats 4000000 in
theorem bt_Shm_word_20 {p : Program} {l : Launch} {e : Env} {R : Room} {s : State} {m : MethodId} {args : Array Value} {below : List Frame} {meth : Method} {c : Code} {D : va_G} {τ : ClassId × ClassId × ClassId} {B : Nat} {A : Nat → Prop} {ad : Nat → Nat} (E : Cx p R s m args meth c prog_18_method_24_code 2 "DrawingMachineModel$ShaderMachineModel" 0 D τ B A) (hret : meth.sig.returnType = (some .int)) (o : Int32) (σ : Sg) (h : F_Shm_word_20 σ = some o) {H : Heap} {locs : List Loc} {ls : Array Slot} (w : Wd s D A (wdM τ σ ad) H locs) (hl : lv_has ls 2 []) : W p l e R s m args below meth c H locs 0 0 (QI below args s A D τ (wdM τ σ ad) o) (F0 m 20 ls []) := by
  refine lv_iconst (v := 0) E.x E.b d_Shm_word_20 (by decide) ?_
  exact bt_Shm_word_21 E hret o σ 0 h w (lv_sub hl [] rfl)
def F_Shm_word (σ : Sg) (p0 : Nat) (x0 : Int32) : Option (Int32) := ck (p0 < 2) (if x0 < 0 then (F_Shm_word_20 σ) else (if 4096 ≤ x0 then (F_Shm_word_20 σ) else (ck (inb x0 4096) (F_Shm_word_21 σ (σ.2.2.1 0 x0.toNatClampNeg)))))
set_option maxRecDepth 10000 in
set_option maxHeartbeats 4000000 in
theorem c_Shm_word (l : Launch) (D : va_G) (τ : ClassId × ClassId × ClassId) (B : Nat) (σ : Sg) (ad : Nat → Nat) (p0 : Nat) (x0 : Int32) (o : Int32) (h : F_Shm_word σ p0 x0 = some o) : MI l y_Shm_word (Cond.code y_Shm_word prog_18_method_24_code 2 (some .int)) 0 D τ B [.ref (ad (65 + p0)), .int x0] (wdM τ σ ad) (wdM τ σ ad) o := by
  refine en_i (by decide) (Nat.le_of_ble_eq_true rfl) ?_
  intro p e R s m args below meth c H locs ls A E hret w hl
  have E : Cx p R s m args meth c prog_18_method_24_code 2 "DrawingMachineModel$ShaderMachineModel" 0 D τ B A := E
  have hl : lv_has ls 2 [(0, .ref (ad (65 + p0))), (1, .int x0)] := hl
  obtain ⟨c2, h⟩ := ck_some h
  refine lv_iload_n E.x E.b d_Shm_word_0 rfl (lv_at hl 1 rfl) ?_
  refine lv_if_lt (tgt := 20) E.x E.b d_Shm_word_1 (by decide) (fun c => ?_) (fun c => ?_)
  ·
    replace h := ifT c h
    exact bt_Shm_word_20 E hret o σ h w (lv_sub hl [] rfl)
  ·
    replace h := ifF c h
    refine lv_iload_n E.x E.b d_Shm_word_4 rfl (lv_at hl 1 rfl) ?_
    refine lv_sipush (v := 4096) E.x E.b d_Shm_word_5 (by decide) ?_
    refine lv_icmp_ge (tgt := 20) E.x E.b d_Shm_word_8 (by decide) (fun c => ?_) (fun c => ?_)
    ·
      replace h := ifT c h
      exact bt_Shm_word_20 E hret o σ h w (lv_sub hl [] rfl)
    ·
      replace h := ifF c h
      refine lv_aload_n E.x E.b d_Shm_word_11 rfl (lv_at hl 0 rfl) ?_
      refine gM_Shm_memory E w (pid := p0) c2 k1554 d_Shm_word_12 ?_
      refine lv_iload_n E.x E.b d_Shm_word_15 rfl (lv_at hl 1 rfl) ?_
      obtain ⟨c3, h⟩ := ck_some h
      refine ialM E w (k := 0) (by decide) c3 d_Shm_word_16 ?_
      refine lv_goto (tgt := 21) E.x E.b d_Shm_word_17 (by decide) ?_
      exact bt_Shm_word_21 E hret o σ (σ.2.2.1 0 x0.toNatClampNeg) h w (lv_sub hl [] rfl)
theorem clV_Shm_word {p : Program} {l : Launch} {e : Env} {R : Room} {s : State} {m : MethodId} {args : Array Value} {below : List Frame} {meth : Method} {c : Code} {H : Heap} {locs : List Loc} {Q : State → Prop} {cc : ByteArray} {nL pc lev : Nat} {own : String} {D : va_G} {τ : ClassId × ClassId × ClassId} {B : Nat} {A : Nat → Prop} {σ : Sg} {ad : Nat → Nat} {ls : Array Slot} {rest : List Value} (E : Cx p R s m args meth c cc nL own lev D τ B A) (w : Wd s D A (wdM τ σ ad) H locs) {p0 : Nat} {x0 : Int32} {o : Int32} (h : F_Shm_word σ p0 x0 = some o) {index : Nat} (hlk : Cond.methodLink own index y_Shm_word ∈ tw) (hlev : 0 < lev) (hsz : ls.size = nL) (hr : (rest.map fun v => v.category).sum ≤ 8) (hd : decode cc pc = .ok (.invokevirtual index, 3)) (kk : ∀ (H1 : Heap) (locs1 : List Loc), Wd s D A (wdM τ σ ad) H1 locs1 → W p l e R s m args below meth c H1 locs1 0 0 Q (F0 m (pc + 3) ls (.int o :: rest))) : W p l e R s m args below meth c H locs 0 0 Q (F0 m pc ls (.int x0 :: .ref (ad (65 + p0)) :: rest)) :=
  cr_i w E.C (va_runV (As := [.int x0]) (rest := rest) E.fix (c_Shm_word l D τ B σ ad p0 x0 o h H.size) (cwV 1 E.w (tw_pre (tw_good k2235) (l := [_, _, _, _]) (List.forall_mem_cons.mpr ⟨hlk, List.forall_mem_cons.mpr ⟨k2234, List.forall_mem_cons.mpr ⟨ks81, List.forall_mem_cons.mpr ⟨k17, fun _ h => absurd h List.not_mem_nil⟩⟩⟩⟩)) rfl rfl rfl (by decide +kernel) (E.rm hlev (by decide))) (wd_preV w E.C [.int x0] (rcM_Shm (ck_some h).1) rfl) rfl rfl hsz rfl (lv_room hr) hd ⟨Nat.zero_le _, Nat.zero_le _⟩) kk

theorem d_Shm_more_0 : decode prog_18_method_26_code 0 = .ok (.aload_n 0, 1) := by decide +kernel
theorem d_Shm_more_1 : decode prog_18_method_26_code 1 = .ok (.getfield 32, 3) := by decide +kernel
theorem d_Shm_more_4 : decode prog_18_method_26_code 4 = .ok (.iload_n 2, 1) := by decide +kernel
theorem d_Shm_more_5 : decode prog_18_method_26_code 5 = .ok (.iaload, 1) := by decide +kernel
theorem d_Shm_more_6 : decode prog_18_method_26_code 6 = .ok (.istore_n 3, 1) := by decide +kernel
theorem d_Shm_more_7 : decode prog_18_method_26_code 7 = .ok (.aload_n 0, 1) := by decide +kernel
theorem d_Shm_more_8 : decode prog_18_method_26_code 8 = .ok (.getfield 32, 3) := by decide +kernel
theorem d_Shm_more_11 : decode prog_18_method_26_code 11 = .ok (.iconst 4, 1) := by decide +kernel
theorem d_Shm_more_12 : decode prog_18_method_26_code 12 = .ok (.iload_n 2, 1) := by decide +kernel
theorem d_Shm_more_13 : decode prog_18_method_26_code 13 = .ok (.iadd, 1) := by decide +kernel
theorem d_Shm_more_14 : decode prog_18_method_26_code 14 = .ok (.iaload, 1) := by decide +kernel
theorem d_Shm_more_15 : decode prog_18_method_26_code 15 = .ok (.istore 4, 2) := by decide +kernel
theorem d_Shm_more_17 : decode prog_18_method_26_code 17 = .ok (.aload_n 0, 1) := by decide +kernel
theorem d_Shm_more_18 : decode prog_18_method_26_code 18 = .ok (.getfield 32, 3) := by decide +kernel
theorem d_Shm_more_21 : decode prog_18_method_26_code 21 = .ok (.iconst 0, 1) := by decide +kernel
theorem d_Shm_more_22 : decode prog_18_method_26_code 22 = .ok (.iaload, 1) := by decide +kernel
theorem d_Shm_more_23 : decode prog_18_method_26_code 23 = .ok (.bipush 16, 2) := by decide +kernel
theorem d_Shm_more_25 : decode prog_18_method_26_code 25 = .ok (.ishr, 1) := by decide +kernel
theorem d_Shm_more_26 : decode prog_18_method_26_code 26 = .ok (.istore 5, 2) := by decide +kernel
theorem d_Shm_more_28 : decode prog_18_method_26_code 28 = .ok (.iload_n 1, 1) := by decide +kernel
theorem d_Shm_more_29 : decode prog_18_method_26_code 29 = .ok (.tableswitch 244 22 40 #[91, 154, 159, 164, 169, 173, 181, 189, 197, 225, 244, 244, 244, 244, 244, 244, 244, 234, 239], 91) := by decide +kernel
theorem d_Shm_more_120 : decode prog_18_method_26_code 120 = .ok (.iload_n 2, 1) := by decide +kernel
theorem d_Shm_more_121 : decode prog_18_method_26_code 121 = .ok (.iconst 1, 1) := by decide +kernel
theorem d_Shm_more_122 : decode prog_18_method_26_code 122 = .ok (.iadd, 1) := by decide +kernel
theorem d_Shm_more_123 : decode prog_18_method_26_code 123 = .ok (.iconst 3, 1) := by decide +kernel
theorem d_Shm_more_124 : decode prog_18_method_26_code 124 = .ok (.irem, 1) := by decide +kernel
theorem d_Shm_more_125 : decode prog_18_method_26_code 125 = .ok (.istore 6, 2) := by decide +kernel
theorem d_Shm_more_127 : decode prog_18_method_26_code 127 = .ok (.iload_n 2, 1) := by decide +kernel
theorem d_Shm_more_128 : decode prog_18_method_26_code 128 = .ok (.iconst 2, 1) := by decide +kernel
theorem d_Shm_more_129 : decode prog_18_method_26_code 129 = .ok (.iadd, 1) := by decide +kernel
theorem d_Shm_more_130 : decode prog_18_method_26_code 130 = .ok (.iconst 3, 1) := by decide +kernel
theorem d_Shm_more_131 : decode prog_18_method_26_code 131 = .ok (.irem, 1) := by decide +kernel
theorem d_Shm_more_132 : decode prog_18_method_26_code 132 = .ok (.istore 7, 2) := by decide +kernel
theorem d_Shm_more_134 : decode prog_18_method_26_code 134 = .ok (.iload_n 2, 1) := by decide +kernel
theorem d_Shm_more_135 : decode prog_18_method_26_code 135 = .ok (.iconst 3, 1) := by decide +kernel
theorem d_Shm_more_136 : decode prog_18_method_26_code 136 = .ok (.if_icmp .ne 7, 3) := by decide +kernel
theorem d_Shm_more_139 : decode prog_18_method_26_code 139 = .ok (.iconst 0, 1) := by decide +kernel
theorem d_Shm_more_140 : decode prog_18_method_26_code 140 = .ok (.goto 42, 3) := by decide +kernel
theorem d_Shm_more_143 : decode prog_18_method_26_code 143 = .ok (.aload_n 0, 1) := by decide +kernel
theorem d_Shm_more_144 : decode prog_18_method_26_code 144 = .ok (.getfield 32, 3) := by decide +kernel
theorem d_Shm_more_147 : decode prog_18_method_26_code 147 = .ok (.iload 6, 2) := by decide +kernel
theorem d_Shm_more_149 : decode prog_18_method_26_code 149 = .ok (.iaload, 1) := by decide +kernel
theorem d_Shm_more_150 : decode prog_18_method_26_code 150 = .ok (.aload_n 0, 1) := by decide +kernel
theorem d_Shm_more_151 : decode prog_18_method_26_code 151 = .ok (.getfield 32, 3) := by decide +kernel
theorem d_Shm_more_154 : decode prog_18_method_26_code 154 = .ok (.iconst 4, 1) := by decide +kernel
theorem d_Shm_more_155 : decode prog_18_method_26_code 155 = .ok (.iload 7, 2) := by decide +kernel
theorem d_Shm_more_157 : decode prog_18_method_26_code 157 = .ok (.iadd, 1) := by decide +kernel
theorem d_Shm_more_158 : decode prog_18_method_26_code 158 = .ok (.iaload, 1) := by decide +kernel
theorem d_Shm_more_159 : decode prog_18_method_26_code 159 = .ok (.invokestatic 137, 3) := by decide +kernel
theorem d_Shm_more_162 : decode prog_18_method_26_code 162 = .ok (.aload_n 0, 1) := by decide +kernel
theorem d_Shm_more_163 : decode prog_18_method_26_code 163 = .ok (.getfield 32, 3) := by decide +kernel
theorem d_Shm_more_166 : decode prog_18_method_26_code 166 = .ok (.iload 7, 2) := by decide +kernel
theorem d_Shm_more_168 : decode prog_18_method_26_code 168 = .ok (.iaload, 1) := by decide +kernel
theorem d_Shm_more_169 : decode prog_18_method_26_code 169 = .ok (.aload_n 0, 1) := by decide +kernel
theorem d_Shm_more_170 : decode prog_18_method_26_code 170 = .ok (.getfield 32, 3) := by decide +kernel
theorem d_Shm_more_173 : decode prog_18_method_26_code 173 = .ok (.iconst 4, 1) := by decide +kernel
theorem d_Shm_more_174 : decode prog_18_method_26_code 174 = .ok (.iload 6, 2) := by decide +kernel
theorem d_Shm_more_176 : decode prog_18_method_26_code 176 = .ok (.iadd, 1) := by decide +kernel
theorem d_Shm_more_177 : decode prog_18_method_26_code 177 = .ok (.iaload, 1) := by decide +kernel
theorem d_Shm_more_178 : decode prog_18_method_26_code 178 = .ok (.invokestatic 137, 3) := by decide +kernel
theorem d_Shm_more_181 : decode prog_18_method_26_code 181 = .ok (.isub, 1) := by decide +kernel
theorem d_Shm_more_182 : decode prog_18_method_26_code 182 = .ok (.ireturn, 1) := by decide +kernel
theorem d_Shm_more_183 : decode prog_18_method_26_code 183 = .ok (.iload_n 3, 1) := by decide +kernel
theorem d_Shm_more_184 : decode prog_18_method_26_code 184 = .ok (.iload 4, 2) := by decide +kernel
theorem d_Shm_more_186 : decode prog_18_method_26_code 186 = .ok (.iand, 1) := by decide +kernel
theorem d_Shm_more_187 : decode prog_18_method_26_code 187 = .ok (.ireturn, 1) := by decide +kernel
theorem d_Shm_more_188 : decode prog_18_method_26_code 188 = .ok (.iload_n 3, 1) := by decide +kernel
theorem d_Shm_more_189 : decode prog_18_method_26_code 189 = .ok (.iload 4, 2) := by decide +kernel
theorem d_Shm_more_191 : decode prog_18_method_26_code 191 = .ok (.ior, 1) := by decide +kernel
theorem d_Shm_more_192 : decode prog_18_method_26_code 192 = .ok (.ireturn, 1) := by decide +kernel
theorem d_Shm_more_193 : decode prog_18_method_26_code 193 = .ok (.iload_n 3, 1) := by decide +kernel
theorem d_Shm_more_194 : decode prog_18_method_26_code 194 = .ok (.iload 4, 2) := by decide +kernel
theorem d_Shm_more_196 : decode prog_18_method_26_code 196 = .ok (.ixor, 1) := by decide +kernel
theorem d_Shm_more_197 : decode prog_18_method_26_code 197 = .ok (.ireturn, 1) := by decide +kernel
theorem d_Shm_more_198 : decode prog_18_method_26_code 198 = .ok (.iload_n 3, 1) := by decide +kernel
theorem d_Shm_more_199 : decode prog_18_method_26_code 199 = .ok (.iconst (-1), 1) := by decide +kernel
theorem d_Shm_more_200 : decode prog_18_method_26_code 200 = .ok (.ixor, 1) := by decide +kernel
theorem d_Shm_more_201 : decode prog_18_method_26_code 201 = .ok (.ireturn, 1) := by decide +kernel
theorem d_Shm_more_202 : decode prog_18_method_26_code 202 = .ok (.iload_n 3, 1) := by decide +kernel
theorem d_Shm_more_203 : decode prog_18_method_26_code 203 = .ok (.iload 4, 2) := by decide +kernel
theorem d_Shm_more_205 : decode prog_18_method_26_code 205 = .ok (.bipush 31, 2) := by decide +kernel
theorem d_Shm_more_207 : decode prog_18_method_26_code 207 = .ok (.iand, 1) := by decide +kernel
theorem d_Shm_more_208 : decode prog_18_method_26_code 208 = .ok (.ishl, 1) := by decide +kernel
theorem d_Shm_more_209 : decode prog_18_method_26_code 209 = .ok (.ireturn, 1) := by decide +kernel
theorem d_Shm_more_210 : decode prog_18_method_26_code 210 = .ok (.iload_n 3, 1) := by decide +kernel
theorem d_Shm_more_211 : decode prog_18_method_26_code 211 = .ok (.iload 4, 2) := by decide +kernel
theorem d_Shm_more_213 : decode prog_18_method_26_code 213 = .ok (.bipush 31, 2) := by decide +kernel
theorem d_Shm_more_215 : decode prog_18_method_26_code 215 = .ok (.iand, 1) := by decide +kernel
theorem d_Shm_more_216 : decode prog_18_method_26_code 216 = .ok (.ishr, 1) := by decide +kernel
theorem d_Shm_more_217 : decode prog_18_method_26_code 217 = .ok (.ireturn, 1) := by decide +kernel
theorem d_Shm_more_218 : decode prog_18_method_26_code 218 = .ok (.iload_n 3, 1) := by decide +kernel
theorem d_Shm_more_219 : decode prog_18_method_26_code 219 = .ok (.iload 4, 2) := by decide +kernel
theorem d_Shm_more_221 : decode prog_18_method_26_code 221 = .ok (.bipush 31, 2) := by decide +kernel
theorem d_Shm_more_223 : decode prog_18_method_26_code 223 = .ok (.iand, 1) := by decide +kernel
theorem d_Shm_more_224 : decode prog_18_method_26_code 224 = .ok (.iushr, 1) := by decide +kernel
theorem d_Shm_more_225 : decode prog_18_method_26_code 225 = .ok (.ireturn, 1) := by decide +kernel
theorem d_Shm_more_226 : decode prog_18_method_26_code 226 = .ok (.iload 5, 2) := by decide +kernel
theorem d_Shm_more_228 : decode prog_18_method_26_code 228 = .ok (.ifCond .lt 24, 3) := by decide +kernel
theorem d_Shm_more_231 : decode prog_18_method_26_code 231 = .ok (.iload 5, 2) := by decide +kernel
theorem d_Shm_more_233 : decode prog_18_method_26_code 233 = .ok (.bipush 32, 2) := by decide +kernel
theorem d_Shm_more_235 : decode prog_18_method_26_code 235 = .ok (.if_icmp .ge 17, 3) := by decide +kernel
theorem d_Shm_more_238 : decode prog_18_method_26_code 238 = .ok (.aload_n 0, 1) := by decide +kernel
theorem d_Shm_more_239 : decode prog_18_method_26_code 239 = .ok (.getfield 29, 3) := by decide +kernel
theorem d_Shm_more_242 : decode prog_18_method_26_code 242 = .ok (.iconst 4, 1) := by decide +kernel
theorem d_Shm_more_243 : decode prog_18_method_26_code 243 = .ok (.iload 5, 2) := by decide +kernel
theorem d_Shm_more_245 : decode prog_18_method_26_code 245 = .ok (.imul, 1) := by decide +kernel
theorem d_Shm_more_246 : decode prog_18_method_26_code 246 = .ok (.iload_n 2, 1) := by decide +kernel
theorem d_Shm_more_247 : decode prog_18_method_26_code 247 = .ok (.iadd, 1) := by decide +kernel
theorem d_Shm_more_248 : decode prog_18_method_26_code 248 = .ok (.iaload, 1) := by decide +kernel
theorem d_Shm_more_249 : decode prog_18_method_26_code 249 = .ok (.goto 4, 3) := by decide +kernel
theorem d_Shm_more_252 : decode prog_18_method_26_code 252 = .ok (.iconst 0, 1) := by decide +kernel
theorem d_Shm_more_253 : decode prog_18_method_26_code 253 = .ok (.ireturn, 1) := by decide +kernel
theorem d_Shm_more_254 : decode prog_18_method_26_code 254 = .ok (.aload_n 0, 1) := by decide +kernel
theorem d_Shm_more_255 : decode prog_18_method_26_code 255 = .ok (.iload 5, 2) := by decide +kernel
theorem d_Shm_more_257 : decode prog_18_method_26_code 257 = .ok (.iload_n 2, 1) := by decide +kernel
theorem d_Shm_more_258 : decode prog_18_method_26_code 258 = .ok (.iadd, 1) := by decide +kernel
theorem d_Shm_more_259 : decode prog_18_method_26_code 259 = .ok (.invokevirtual 154, 3) := by decide +kernel
theorem d_Shm_more_262 : decode prog_18_method_26_code 262 = .ok (.ireturn, 1) := by decide +kernel
theorem d_Shm_more_263 : decode prog_18_method_26_code 263 = .ok (.iload_n 3, 1) := by decide +kernel
theorem d_Shm_more_264 : decode prog_18_method_26_code 264 = .ok (.bipush 16, 2) := by decide +kernel
theorem d_Shm_more_266 : decode prog_18_method_26_code 266 = .ok (.ishr, 1) := by decide +kernel
theorem d_Shm_more_267 : decode prog_18_method_26_code 267 = .ok (.ireturn, 1) := by decide +kernel
theorem d_Shm_more_268 : decode prog_18_method_26_code 268 = .ok (.iload_n 3, 1) := by decide +kernel
theorem d_Shm_more_269 : decode prog_18_method_26_code 269 = .ok (.bipush 16, 2) := by decide +kernel
theorem d_Shm_more_271 : decode prog_18_method_26_code 271 = .ok (.ishl, 1) := by decide +kernel
theorem d_Shm_more_272 : decode prog_18_method_26_code 272 = .ok (.ireturn, 1) := by decide +kernel
theorem d_Shm_more_273 : decode prog_18_method_26_code 273 = .ok (.aload_n 0, 1) := by decide +kernel
theorem d_Shm_more_274 : decode prog_18_method_26_code 274 = .ok (.iload_n 1, 1) := by decide +kernel
theorem d_Shm_more_275 : decode prog_18_method_26_code 275 = .ok (.iload_n 2, 1) := by decide +kernel
theorem d_Shm_more_276 : decode prog_18_method_26_code 276 = .ok (.invokevirtual 157, 3) := by decide +kernel
theorem d_Shm_more_279 : decode prog_18_method_26_code 279 = .ok (.ireturn, 1) := by decide +kernel
def F_Shm_more_273 (σ : Sg) (v0 : Nat) (v1 : Int32) (v2 : Int32) : Option (Sg × Int32) := ck (v0 < 2) (bd (F_Shm_sampled σ v0 v1 v2) (fun o38 => some (o38.1, o38.2)))
set_option maxRecDepth 10000 in
set_option maxHeartbeats 4000000 in
theorem bt_Shm_more_273 {p : Program} {l : Launch} {e : Env} {R : Room} {s : State} {m : MethodId} {args : Array Value} {below : List Frame} {meth : Method} {c : Code} {D : va_G} {τ : ClassId × ClassId × ClassId} {B : Nat} {A : Nat → Prop} {ad : Nat → Nat} (E : Cx p R s m args meth c prog_18_method_26_code 8 "DrawingMachineModel$ShaderMachineModel" 9 D τ B A) (hret : meth.sig.returnType = (some .int)) (o : Sg × Int32) (σ : Sg) (v0 : Nat) (v1 : Int32) (v2 : Int32) (h : F_Shm_more_273 σ v0 v1 v2 = some o) {H : Heap} {locs : List Loc} {ls : Array Slot} (w : Wd s D A (wdM τ σ ad) H locs) (hl : lv_has ls 8 [(0, .ref (ad (65 + v0))), (1, .int v1), (2, .int v2)]) : W p l e R s m args below meth c H locs 0 0 (QI below args s A D τ (wdM τ o.1 ad) o.2) (F0 m 273 ls []) := by
  obtain ⟨c37, h⟩ := ck_some h
  refine lv_aload_n E.x E.b d_Shm_more_273 rfl (lv_at hl 0 rfl) ?_
  refine lv_iload_n E.x E.b d_Shm_more_274 rfl (lv_at hl 1 rfl) ?_
  refine lv_iload_n E.x E.b d_Shm_more_275 rfl (lv_at hl 2 rfl) ?_
  obtain ⟨o38, h_o38, h⟩ := bd_some h
  refine clV_Shm_sampled E w (p0 := v0) (x0 := v1) (x1 := v2) h_o38 k2236 (by decide) hl.1 (Nat.le_of_ble_eq_true rfl) d_Shm_more_276 (fun H locs w => ?_)
  obtain rfl := Option.some.inj h
  exact rt_i E w hret d_Shm_more_279
def F_Shm_more_253 (σ : Sg) (s0 : Int32) : Option (Sg × Int32) := some (σ, s0)
set_option maxRecDepth 10000 in
set_option maxHeartbeats 4000000 in
theorem bt_Shm_more_253 {p : Program} {l : Launch} {e : Env} {R : Room} {s : State} {m : MethodId} {args : Array Value} {below : List Frame} {meth : Method} {c : Code} {D : va_G} {τ : ClassId × ClassId × ClassId} {B : Nat} {A : Nat → Prop} {ad : Nat → Nat} (E : Cx p R s m args meth c prog_18_method_26_code 8 "DrawingMachineModel$ShaderMachineModel" 9 D τ B A) (hret : meth.sig.returnType = (some .int)) (o : Sg × Int32) (σ : Sg) (s0 : Int32) (h : F_Shm_more_253 σ s0 = some o) {H : Heap} {locs : List Loc} {ls : Array Slot} (w : Wd s D A (wdM τ σ ad) H locs) (hl : lv_has ls 8 []) : W p l e R s m args below meth c H locs 0 0 (QI below args s A D τ (wdM τ o.1 ad) o.2) (F0 m 253 ls [.int s0]) := by
  obtain rfl := Option.some.inj h
  exact rt_i E w hret d_Shm_more_253
def F_Shm_more_252 (σ : Sg) : Option (Sg × Int32) := F_Shm_more_253 σ 0
set_option maxRecDepth 10000 in
set_option maxHeartbeats 4000000 in
theorem bt_Shm_more_252 {p : Program} {l : Launch} {e : Env} {R : Room} {s : State} {m : MethodId} {args : Array Value} {below : List Frame} {meth : Method} {c : Code} {D : va_G} {τ : ClassId × ClassId × ClassId} {B : Nat} {A : Nat → Prop} {ad : Nat → Nat} (E : Cx p R s m args meth c prog_18_method_26_code 8 "DrawingMachineModel$ShaderMachineModel" 9 D τ B A) (hret : meth.sig.returnType = (some .int)) (o : Sg × Int32) (σ : Sg) (h : F_Shm_more_252 σ = some o) {H : Heap} {locs : List Loc} {ls : Array Slot} (w : Wd s D A (wdM τ σ ad) H locs) (hl : lv_has ls 8 []) : W p l e R s m args below meth c H locs 0 0 (QI below args s A D τ (wdM τ o.1 ad) o.2) (F0 m 252 ls []) := by
  refine lv_iconst (v := 0) E.x E.b d_Shm_more_252 (by decide) ?_
  exact bt_Shm_more_253 E hret o σ 0 h w (lv_sub hl [] rfl)
def F_Shm_more_182 (σ : Sg) (s0 : Int32) : Option (Sg × Int32) := some (σ, s0)
set_option maxRecDepth 10000 in
set_option maxHeartbeats 4000000 in
theorem bt_Shm_more_182 {p : Program} {l : Launch} {e : Env} {R : Room} {s : State} {m : MethodId} {args : Array Value} {below : List Frame} {meth : Method} {c : Code} {D : va_G} {τ : ClassId × ClassId × ClassId} {B : Nat} {A : Nat → Prop} {ad : Nat → Nat} (E : Cx p R s m args meth c prog_18_method_26_code 8 "DrawingMachineModel$ShaderMachineModel" 9 D τ B A) (hret : meth.sig.returnType = (some .int)) (o : Sg × Int32) (σ : Sg) (s0 : Int32) (h : F_Shm_more_182 σ s0 = some o) {H : Heap} {locs : List Loc} {ls : Array Slot} (w : Wd s D A (wdM τ σ ad) H locs) (hl : lv_has ls 8 []) : W p l e R s m args below meth c H locs 0 0 (QI below args s A D τ (wdM τ o.1 ad) o.2) (F0 m 182 ls [.int s0]) := by
  obtain rfl := Option.some.inj h
  exact rt_i E w hret d_Shm_more_182
def F_Shm_more (σ : Sg) (p0 : Nat) (x0 : Int32) (x1 : Int32) : Option (Sg × Int32) := ck (p0 < 2) (ck (inb x1 (lenM σ (20 + 10 * p0))) (lt (σ.2.2.1 (20 + 10 * p0) x1.toNatClampNeg) (fun y41 => ck (inb (4 + x1) (lenM σ (20 + 10 * p0))) (lt (σ.2.2.1 (20 + 10 * p0) (4 + x1).toNatClampNeg) (fun y43 => ck (inb 0 (lenM σ (20 + 10 * p0))) (lt ((σ.2.2.1 (20 + 10 * p0) 0) >>> 16) (fun y45 => if x0 = 22 then (lt (irem (x1 + 1) 3) (fun y47 => lt (irem (x1 + 2) 3) (fun y48 => if x1 = 3 then (F_Shm_more_182 σ 0) else (ck (inb y47 (lenM σ (20 + 10 * p0))) (ck (inb (4 + y48) (lenM σ (20 + 10 * p0))) (bd (F_Shm_product (σ.2.2.1 (20 + 10 * p0) y47.toNatClampNeg) (σ.2.2.1 (20 + 10 * p0) (4 + y48).toNatClampNeg)) (fun o51 => ck (inb y48 (lenM σ (20 + 10 * p0))) (ck (inb (4 + y47) (lenM σ (20 + 10 * p0))) (bd (F_Shm_product (σ.2.2.1 (20 + 10 * p0) y48.toNatClampNeg) (σ.2.2.1 (20 + 10 * p0) (4 + y47).toNatClampNeg)) (fun o54 => F_Shm_more_182 σ (o51 - o54))))))))))) else (if x0 = 23 then (some (σ, y41 &&& y43)) else (if x0 = 24 then (some (σ, y41 ||| y43)) else (if x0 = 25 then (some (σ, y41 ^^^ y43)) else (if x0 = 26 then (some (σ, y41 ^^^ (-1))) else (if x0 = 27 then (some (σ, y41 <<< ((y43 &&& 31) &&& 31))) else (if x0 = 28 then (some (σ, y41 >>> ((y43 &&& 31) &&& 31))) else (if x0 = 29 then (some (σ, ushr y41 (y43 &&& 31))) else (if x0 = 30 then (if y45 < 0 then (F_Shm_more_252 σ) else (if 32 ≤ y45 then (F_Shm_more_252 σ) else (ck (inb ((4 * y45) + x1) (lenM σ (19 + 10 * p0))) (F_Shm_more_253 σ (σ.2.2.1 (19 + 10 * p0) ((4 * y45) + x1).toNatClampNeg))))) else (if x0 = 31 then (bd (F_Shm_word σ p0 (y45 + x1)) (fun o65 => some (σ, o65))) else (if x0 = 32 then (F_Shm_more_273 σ p0 x0 x1) else (if x0 = 33 then (F_Shm_more_273 σ p0 x0 x1) else (if x0 = 34 then (F_Shm_more_273 σ p0 x0 x1) else (if x0 = 35 then (F_Shm_more_273 σ p0 x0 x1) else (if x0 = 36 then (F_Shm_more_273 σ p0 x0 x1) else (if x0 = 37 then (F_Shm_more_273 σ p0 x0 x1) else (if x0 = 38 then (F_Shm_more_273 σ p0 x0 x1) else (if x0 = 39 then (some (σ, y41 >>> 16)) else (if x0 = 40 then (some (σ, y41 <<< 16)) else (F_Shm_more_273 σ p0 x0 x1))))))))))))))))))))))))))
set_option maxRecDepth 10000 in
set_option maxHeartbeats 4000000 in
theorem c_Shm_more (l : Launch) (D : va_G) (τ : ClassId × ClassId × ClassId) (B : Nat) (σ : Sg) (ad : Nat → Nat) (p0 : Nat) (x0 : Int32) (x1 : Int32) (o : Sg × Int32) (h : F_Shm_more σ p0 x0 x1 = some o) : MI l y_Shm_more (Cond.code y_Shm_more prog_18_method_26_code 8 (some .int)) 9 D τ B [.ref (ad (65 + p0)), .int x0, .int x1] (wdM τ σ ad) (wdM τ o.1 ad) o.2 := by
  refine en_i (by decide) (Nat.le_of_ble_eq_true rfl) ?_
  intro p e R s m args below meth c H locs ls A E hret w hl
  have E : Cx p R s m args meth c prog_18_method_26_code 8 "DrawingMachineModel$ShaderMachineModel" 9 D τ B A := E
  have hl : lv_has ls 8 [(0, .ref (ad (65 + p0))), (1, .int x0), (2, .int x1)] := hl
  obtain ⟨c39, h⟩ := ck_some h
  refine lv_aload_n E.x E.b d_Shm_more_0 rfl (lv_at hl 0 rfl) ?_
  refine gM_Shm_read E w (pid := p0) c39 k1571 d_Shm_more_1 ?_
  refine lv_iload_n E.x E.b d_Shm_more_4 rfl (lv_at hl 2 rfl) ?_
  obtain ⟨c40, h⟩ := ck_some h
  refine ialM E w (k := (20 + 10 * p0)) (by omega) c40 d_Shm_more_5 ?_
  obtain ⟨y41, e_y41, h⟩ := lt_some h
  refine wi_e (v := y41) e_y41 ?_
  refine lv_istore_n (lv' := [(3, .int y41), (0, .ref (ad (65 + p0))), (1, .int x0), (2, .int x1)]) E.x E.b d_Shm_more_6 rfl hl (by decide) rfl (fun ls hl => ?_)
  refine lv_aload_n E.x E.b d_Shm_more_7 rfl (lv_at hl 1 rfl) ?_
  refine gM_Shm_read E w (pid := p0) c39 k1571 d_Shm_more_8 ?_
  refine lv_iconst (v := 4) E.x E.b d_Shm_more_11 (by decide) ?_
  refine lv_iload_n E.x E.b d_Shm_more_12 rfl (lv_at hl 3 rfl) ?_
  refine lv_iadd E.x E.b d_Shm_more_13 ?_
  obtain ⟨c42, h⟩ := ck_some h
  refine ialM E w (k := (20 + 10 * p0)) (by omega) c42 d_Shm_more_14 ?_
  obtain ⟨y43, e_y43, h⟩ := lt_some h
  refine wi_e (v := y43) e_y43 ?_
  refine lv_istore (lv' := [(4, .int y43), (3, .int y41), (0, .ref (ad (65 + p0))), (1, .int x0), (2, .int x1)]) E.x E.b d_Shm_more_15 hl (by decide) rfl (fun ls hl => ?_)
  refine lv_aload_n E.x E.b d_Shm_more_17 rfl (lv_at hl 2 rfl) ?_
  refine gM_Shm_read E w (pid := p0) c39 k1571 d_Shm_more_18 ?_
  refine lv_iconst (v := 0) E.x E.b d_Shm_more_21 (by decide) ?_
  obtain ⟨c44, h⟩ := ck_some h
  refine ialM E w (k := (20 + 10 * p0)) (by omega) c44 d_Shm_more_22 ?_
  refine wi_e (v := σ.2.2.1 (20 + 10 * p0) 0) rfl ?_
  refine lv_bipush (v := 16) E.x E.b d_Shm_more_23 (by decide) ?_
  refine lv_ishr E.x E.b d_Shm_more_25 ?_
  refine wi_e (v := (σ.2.2.1 (20 + 10 * p0) 0) >>> 16) rfl ?_
  obtain ⟨y45, e_y45, h⟩ := lt_some h
  refine wi_e (v := y45) e_y45 ?_
  refine lv_istore (lv' := [(5, .int y45), (4, .int y43), (3, .int y41), (0, .ref (ad (65 + p0))), (1, .int x0), (2, .int x1)]) E.x E.b d_Shm_more_26 hl (by decide) rfl (fun ls hl => ?_)
  refine lv_iload_n E.x E.b d_Shm_more_28 rfl (lv_at hl 4 rfl) ?_
  by_cases q46 : x0 = 22
  ·
    replace h := ifT q46 h
    refine wi_e (v := 22) q46 ?_
    refine lv_tableIn (off := 91) (tgt := 120) E.x E.b d_Shm_more_29 (by decide) (by decide) (by decide) (by decide) ?_
    refine lv_iload_n E.x E.b d_Shm_more_120 rfl (lv_at hl 5 rfl) ?_
    refine lv_iconst (v := 1) E.x E.b d_Shm_more_121 (by decide) ?_
    refine lv_iadd E.x E.b d_Shm_more_122 ?_
    refine lv_iconst (v := 3) E.x E.b d_Shm_more_123 (by decide) ?_
    refine lv_irem E.x E.b d_Shm_more_124 (by decide) ?_
    refine wi_e (v := irem (x1 + 1) 3) rfl ?_
    obtain ⟨y47, e_y47, h⟩ := lt_some h
    refine wi_e (v := y47) e_y47 ?_
    refine lv_istore (lv' := [(6, .int y47), (5, .int y45), (4, .int y43), (3, .int y41), (0, .ref (ad (65 + p0))), (1, .int x0), (2, .int x1)]) E.x E.b d_Shm_more_125 hl (by decide) rfl (fun ls hl => ?_)
    refine lv_iload_n E.x E.b d_Shm_more_127 rfl (lv_at hl 6 rfl) ?_
    refine lv_iconst (v := 2) E.x E.b d_Shm_more_128 (by decide) ?_
    refine lv_iadd E.x E.b d_Shm_more_129 ?_
    refine lv_iconst (v := 3) E.x E.b d_Shm_more_130 (by decide) ?_
    refine lv_irem E.x E.b d_Shm_more_131 (by decide) ?_
    refine wi_e (v := irem (x1 + 2) 3) rfl ?_
    obtain ⟨y48, e_y48, h⟩ := lt_some h
    refine wi_e (v := y48) e_y48 ?_
    refine lv_istore (lv' := [(7, .int y48), (6, .int y47), (5, .int y45), (4, .int y43), (3, .int y41), (0, .ref (ad (65 + p0))), (1, .int x0), (2, .int x1)]) E.x E.b d_Shm_more_132 hl (by decide) rfl (fun ls hl => ?_)
    refine lv_iload_n E.x E.b d_Shm_more_134 rfl (lv_at hl 7 rfl) ?_
    refine lv_iconst (v := 3) E.x E.b d_Shm_more_135 (by decide) ?_
    refine lv_icmp_ne (tgt := 143) E.x E.b d_Shm_more_136 (by decide) (fun c => ?_) (fun c => ?_)
    ·
      replace h := ifF c h
      refine lv_aload_n E.x E.b d_Shm_more_143 rfl (lv_at hl 5 rfl) ?_
      refine gM_Shm_read E w (pid := p0) c39 k1571 d_Shm_more_144 ?_
      refine lv_iload E.x E.b d_Shm_more_147 (lv_at hl 1 rfl) ?_
      obtain ⟨c49, h⟩ := ck_some h
      refine ialM E w (k := (20 + 10 * p0)) (by omega) c49 d_Shm_more_149 ?_
      refine lv_aload_n E.x E.b d_Shm_more_150 rfl (lv_at hl 5 rfl) ?_
      refine gM_Shm_read E w (pid := p0) c39 k1571 d_Shm_more_151 ?_
      refine lv_iconst (v := 4) E.x E.b d_Shm_more_154 (by decide) ?_
      refine lv_iload E.x E.b d_Shm_more_155 (lv_at hl 0 rfl) ?_
      refine lv_iadd E.x E.b d_Shm_more_157 ?_
      obtain ⟨c50, h⟩ := ck_some h
      refine ialM E w (k := (20 + 10 * p0)) (by omega) c50 d_Shm_more_158 ?_
      obtain ⟨o51, h_o51, h⟩ := bd_some h
      refine clS_Shm_product E w (x0 := (σ.2.2.1 (20 + 10 * p0) y47.toNatClampNeg)) (x1 := (σ.2.2.1 (20 + 10 * p0) (4 + y48).toNatClampNeg)) h_o51 k2210 (by decide) hl.1 (Nat.le_of_ble_eq_true rfl) d_Shm_more_159 (fun H locs w => ?_)
      refine lv_aload_n E.x E.b d_Shm_more_162 rfl (lv_at hl 5 rfl) ?_
      refine gM_Shm_read E w (pid := p0) c39 k1571 d_Shm_more_163 ?_
      refine lv_iload E.x E.b d_Shm_more_166 (lv_at hl 0 rfl) ?_
      obtain ⟨c52, h⟩ := ck_some h
      refine ialM E w (k := (20 + 10 * p0)) (by omega) c52 d_Shm_more_168 ?_
      refine lv_aload_n E.x E.b d_Shm_more_169 rfl (lv_at hl 5 rfl) ?_
      refine gM_Shm_read E w (pid := p0) c39 k1571 d_Shm_more_170 ?_
      refine lv_iconst (v := 4) E.x E.b d_Shm_more_173 (by decide) ?_
      refine lv_iload E.x E.b d_Shm_more_174 (lv_at hl 1 rfl) ?_
      refine lv_iadd E.x E.b d_Shm_more_176 ?_
      obtain ⟨c53, h⟩ := ck_some h
      refine ialM E w (k := (20 + 10 * p0)) (by omega) c53 d_Shm_more_177 ?_
      obtain ⟨o54, h_o54, h⟩ := bd_some h
      refine clS_Shm_product E w (x0 := (σ.2.2.1 (20 + 10 * p0) y48.toNatClampNeg)) (x1 := (σ.2.2.1 (20 + 10 * p0) (4 + y47).toNatClampNeg)) h_o54 k2210 (by decide) hl.1 (Nat.le_of_ble_eq_true rfl) d_Shm_more_178 (fun H locs w => ?_)
      refine lv_isub E.x E.b d_Shm_more_181 ?_
      exact bt_Shm_more_182 E hret o σ (o51 - o54) h w (lv_sub hl [] rfl)
    ·
      replace h := ifT c h
      refine lv_iconst (v := 0) E.x E.b d_Shm_more_139 (by decide) ?_
      refine lv_goto (tgt := 182) E.x E.b d_Shm_more_140 (by decide) ?_
      exact bt_Shm_more_182 E hret o σ 0 h w (lv_sub hl [] rfl)
  replace h := ifF q46 h
  replace q46 := ne_ti (k := 22) (by decide) q46
  by_cases q55 : x0 = 23
  ·
    replace h := ifT q55 h
    refine wi_e (v := 23) q55 ?_
    refine lv_tableIn (off := 154) (tgt := 183) E.x E.b d_Shm_more_29 (by decide) (by decide) (by decide) (by decide) ?_
    refine lv_iload_n E.x E.b d_Shm_more_183 rfl (lv_at hl 2 rfl) ?_
    refine lv_iload E.x E.b d_Shm_more_184 (lv_at hl 1 rfl) ?_
    refine lv_iand E.x E.b d_Shm_more_186 ?_
    obtain rfl := Option.some.inj h
    exact rt_i E w hret d_Shm_more_187
  replace h := ifF q55 h
  replace q55 := ne_ti (k := 23) (by decide) q55
  by_cases q56 : x0 = 24
  ·
    replace h := ifT q56 h
    refine wi_e (v := 24) q56 ?_
    refine lv_tableIn (off := 159) (tgt := 188) E.x E.b d_Shm_more_29 (by decide) (by decide) (by decide) (by decide) ?_
    refine lv_iload_n E.x E.b d_Shm_more_188 rfl (lv_at hl 2 rfl) ?_
    refine lv_iload E.x E.b d_Shm_more_189 (lv_at hl 1 rfl) ?_
    refine lv_ior E.x E.b d_Shm_more_191 ?_
    obtain rfl := Option.some.inj h
    exact rt_i E w hret d_Shm_more_192
  replace h := ifF q56 h
  replace q56 := ne_ti (k := 24) (by decide) q56
  by_cases q57 : x0 = 25
  ·
    replace h := ifT q57 h
    refine wi_e (v := 25) q57 ?_
    refine lv_tableIn (off := 164) (tgt := 193) E.x E.b d_Shm_more_29 (by decide) (by decide) (by decide) (by decide) ?_
    refine lv_iload_n E.x E.b d_Shm_more_193 rfl (lv_at hl 2 rfl) ?_
    refine lv_iload E.x E.b d_Shm_more_194 (lv_at hl 1 rfl) ?_
    refine lv_ixor E.x E.b d_Shm_more_196 ?_
    obtain rfl := Option.some.inj h
    exact rt_i E w hret d_Shm_more_197
  replace h := ifF q57 h
  replace q57 := ne_ti (k := 25) (by decide) q57
  by_cases q58 : x0 = 26
  ·
    replace h := ifT q58 h
    refine wi_e (v := 26) q58 ?_
    refine lv_tableIn (off := 169) (tgt := 198) E.x E.b d_Shm_more_29 (by decide) (by decide) (by decide) (by decide) ?_
    refine lv_iload_n E.x E.b d_Shm_more_198 rfl (lv_at hl 2 rfl) ?_
    refine lv_iconst (v := (-1)) E.x E.b d_Shm_more_199 (by decide) ?_
    refine lv_ixor E.x E.b d_Shm_more_200 ?_
    obtain rfl := Option.some.inj h
    exact rt_i E w hret d_Shm_more_201
  replace h := ifF q58 h
  replace q58 := ne_ti (k := 26) (by decide) q58
  by_cases q59 : x0 = 27
  ·
    replace h := ifT q59 h
    refine wi_e (v := 27) q59 ?_
    refine lv_tableIn (off := 173) (tgt := 202) E.x E.b d_Shm_more_29 (by decide) (by decide) (by decide) (by decide) ?_
    refine lv_iload_n E.x E.b d_Shm_more_202 rfl (lv_at hl 2 rfl) ?_
    refine lv_iload E.x E.b d_Shm_more_203 (lv_at hl 1 rfl) ?_
    refine lv_bipush (v := 31) E.x E.b d_Shm_more_205 (by decide) ?_
    refine lv_iand E.x E.b d_Shm_more_207 ?_
    refine lv_ishl E.x E.b d_Shm_more_208 ?_
    obtain rfl := Option.some.inj h
    exact rt_i E w hret d_Shm_more_209
  replace h := ifF q59 h
  replace q59 := ne_ti (k := 27) (by decide) q59
  by_cases q60 : x0 = 28
  ·
    replace h := ifT q60 h
    refine wi_e (v := 28) q60 ?_
    refine lv_tableIn (off := 181) (tgt := 210) E.x E.b d_Shm_more_29 (by decide) (by decide) (by decide) (by decide) ?_
    refine lv_iload_n E.x E.b d_Shm_more_210 rfl (lv_at hl 2 rfl) ?_
    refine lv_iload E.x E.b d_Shm_more_211 (lv_at hl 1 rfl) ?_
    refine lv_bipush (v := 31) E.x E.b d_Shm_more_213 (by decide) ?_
    refine lv_iand E.x E.b d_Shm_more_215 ?_
    refine lv_ishr E.x E.b d_Shm_more_216 ?_
    obtain rfl := Option.some.inj h
    exact rt_i E w hret d_Shm_more_217
  replace h := ifF q60 h
  replace q60 := ne_ti (k := 28) (by decide) q60
  by_cases q61 : x0 = 29
  ·
    replace h := ifT q61 h
    refine wi_e (v := 29) q61 ?_
    refine lv_tableIn (off := 189) (tgt := 218) E.x E.b d_Shm_more_29 (by decide) (by decide) (by decide) (by decide) ?_
    refine lv_iload_n E.x E.b d_Shm_more_218 rfl (lv_at hl 2 rfl) ?_
    refine lv_iload E.x E.b d_Shm_more_219 (lv_at hl 1 rfl) ?_
    refine lv_bipush (v := 31) E.x E.b d_Shm_more_221 (by decide) ?_
    refine lv_iand E.x E.b d_Shm_more_223 ?_
    refine lv_iushr (v := ushr y41 (y43 &&& 31)) E.x E.b d_Shm_more_224 rfl ?_
    obtain rfl := Option.some.inj h
    exact rt_i E w hret d_Shm_more_225
  replace h := ifF q61 h
  replace q61 := ne_ti (k := 29) (by decide) q61
  by_cases q62 : x0 = 30
  ·
    replace h := ifT q62 h
    refine wi_e (v := 30) q62 ?_
    refine lv_tableIn (off := 197) (tgt := 226) E.x E.b d_Shm_more_29 (by decide) (by decide) (by decide) (by decide) ?_
    refine lv_iload E.x E.b d_Shm_more_226 (lv_at hl 0 rfl) ?_
    refine lv_if_lt (tgt := 252) E.x E.b d_Shm_more_228 (by decide) (fun c => ?_) (fun c => ?_)
    ·
      replace h := ifT c h
      exact bt_Shm_more_252 E hret o σ h w (lv_sub hl [] rfl)
    ·
      replace h := ifF c h
      refine lv_iload E.x E.b d_Shm_more_231 (lv_at hl 0 rfl) ?_
      refine lv_bipush (v := 32) E.x E.b d_Shm_more_233 (by decide) ?_
      refine lv_icmp_ge (tgt := 252) E.x E.b d_Shm_more_235 (by decide) (fun c => ?_) (fun c => ?_)
      ·
        replace h := ifT c h
        exact bt_Shm_more_252 E hret o σ h w (lv_sub hl [] rfl)
      ·
        replace h := ifF c h
        refine lv_aload_n E.x E.b d_Shm_more_238 rfl (lv_at hl 3 rfl) ?_
        refine gM_Shm_uniforms E w (pid := p0) c39 k1569 d_Shm_more_239 ?_
        refine lv_iconst (v := 4) E.x E.b d_Shm_more_242 (by decide) ?_
        refine lv_iload E.x E.b d_Shm_more_243 (lv_at hl 0 rfl) ?_
        refine lv_imul E.x E.b d_Shm_more_245 ?_
        refine lv_iload_n E.x E.b d_Shm_more_246 rfl (lv_at hl 5 rfl) ?_
        refine lv_iadd E.x E.b d_Shm_more_247 ?_
        obtain ⟨c63, h⟩ := ck_some h
        refine ialM E w (k := (19 + 10 * p0)) (by omega) c63 d_Shm_more_248 ?_
        refine lv_goto (tgt := 253) E.x E.b d_Shm_more_249 (by decide) ?_
        exact bt_Shm_more_253 E hret o σ (σ.2.2.1 (19 + 10 * p0) ((4 * y45) + x1).toNatClampNeg) h w (lv_sub hl [] rfl)
  replace h := ifF q62 h
  replace q62 := ne_ti (k := 30) (by decide) q62
  by_cases q64 : x0 = 31
  ·
    replace h := ifT q64 h
    refine wi_e (v := 31) q64 ?_
    refine lv_tableIn (off := 225) (tgt := 254) E.x E.b d_Shm_more_29 (by decide) (by decide) (by decide) (by decide) ?_
    refine lv_aload_n E.x E.b d_Shm_more_254 rfl (lv_at hl 3 rfl) ?_
    refine lv_iload E.x E.b d_Shm_more_255 (lv_at hl 0 rfl) ?_
    refine lv_iload_n E.x E.b d_Shm_more_257 rfl (lv_at hl 5 rfl) ?_
    refine lv_iadd E.x E.b d_Shm_more_258 ?_
    obtain ⟨o65, h_o65, h⟩ := bd_some h
    refine clV_Shm_word E w (p0 := p0) (x0 := (y45 + x1)) h_o65 k2232 (by decide) hl.1 (Nat.le_of_ble_eq_true rfl) d_Shm_more_259 (fun H locs w => ?_)
    obtain rfl := Option.some.inj h
    exact rt_i E w hret d_Shm_more_262
  replace h := ifF q64 h
  replace q64 := ne_ti (k := 31) (by decide) q64
  by_cases q66 : x0 = 32
  ·
    replace h := ifT q66 h
    refine wi_e (v := 32) q66 ?_
    refine lv_tableIn (off := 244) (tgt := 273) E.x E.b d_Shm_more_29 (by decide) (by decide) (by decide) (by decide) ?_
    exact bt_Shm_more_273 E hret o σ p0 x0 x1 h w (lv_sub hl [3, 4, 5] rfl)
  replace h := ifF q66 h
  replace q66 := ne_ti (k := 32) (by decide) q66
  by_cases q67 : x0 = 33
  ·
    replace h := ifT q67 h
    refine wi_e (v := 33) q67 ?_
    refine lv_tableIn (off := 244) (tgt := 273) E.x E.b d_Shm_more_29 (by decide) (by decide) (by decide) (by decide) ?_
    exact bt_Shm_more_273 E hret o σ p0 x0 x1 h w (lv_sub hl [3, 4, 5] rfl)
  replace h := ifF q67 h
  replace q67 := ne_ti (k := 33) (by decide) q67
  by_cases q68 : x0 = 34
  ·
    replace h := ifT q68 h
    refine wi_e (v := 34) q68 ?_
    refine lv_tableIn (off := 244) (tgt := 273) E.x E.b d_Shm_more_29 (by decide) (by decide) (by decide) (by decide) ?_
    exact bt_Shm_more_273 E hret o σ p0 x0 x1 h w (lv_sub hl [3, 4, 5] rfl)
  replace h := ifF q68 h
  replace q68 := ne_ti (k := 34) (by decide) q68
  by_cases q69 : x0 = 35
  ·
    replace h := ifT q69 h
    refine wi_e (v := 35) q69 ?_
    refine lv_tableIn (off := 244) (tgt := 273) E.x E.b d_Shm_more_29 (by decide) (by decide) (by decide) (by decide) ?_
    exact bt_Shm_more_273 E hret o σ p0 x0 x1 h w (lv_sub hl [3, 4, 5] rfl)
  replace h := ifF q69 h
  replace q69 := ne_ti (k := 35) (by decide) q69
  by_cases q70 : x0 = 36
  ·
    replace h := ifT q70 h
    refine wi_e (v := 36) q70 ?_
    refine lv_tableIn (off := 244) (tgt := 273) E.x E.b d_Shm_more_29 (by decide) (by decide) (by decide) (by decide) ?_
    exact bt_Shm_more_273 E hret o σ p0 x0 x1 h w (lv_sub hl [3, 4, 5] rfl)
  replace h := ifF q70 h
  replace q70 := ne_ti (k := 36) (by decide) q70
  by_cases q71 : x0 = 37
  ·
    replace h := ifT q71 h
    refine wi_e (v := 37) q71 ?_
    refine lv_tableIn (off := 244) (tgt := 273) E.x E.b d_Shm_more_29 (by decide) (by decide) (by decide) (by decide) ?_
    exact bt_Shm_more_273 E hret o σ p0 x0 x1 h w (lv_sub hl [3, 4, 5] rfl)
  replace h := ifF q71 h
  replace q71 := ne_ti (k := 37) (by decide) q71
  by_cases q72 : x0 = 38
  ·
    replace h := ifT q72 h
    refine wi_e (v := 38) q72 ?_
    refine lv_tableIn (off := 244) (tgt := 273) E.x E.b d_Shm_more_29 (by decide) (by decide) (by decide) (by decide) ?_
    exact bt_Shm_more_273 E hret o σ p0 x0 x1 h w (lv_sub hl [3, 4, 5] rfl)
  replace h := ifF q72 h
  replace q72 := ne_ti (k := 38) (by decide) q72
  by_cases q73 : x0 = 39
  ·
    replace h := ifT q73 h
    refine wi_e (v := 39) q73 ?_
    refine lv_tableIn (off := 234) (tgt := 263) E.x E.b d_Shm_more_29 (by decide) (by decide) (by decide) (by decide) ?_
    refine lv_iload_n E.x E.b d_Shm_more_263 rfl (lv_at hl 2 rfl) ?_
    refine lv_bipush (v := 16) E.x E.b d_Shm_more_264 (by decide) ?_
    refine lv_ishr E.x E.b d_Shm_more_266 ?_
    refine wi_e (v := y41 >>> 16) rfl ?_
    obtain rfl := Option.some.inj h
    exact rt_i E w hret d_Shm_more_267
  replace h := ifF q73 h
  replace q73 := ne_ti (k := 39) (by decide) q73
  by_cases q74 : x0 = 40
  ·
    replace h := ifT q74 h
    refine wi_e (v := 40) q74 ?_
    refine lv_tableIn (off := 239) (tgt := 268) E.x E.b d_Shm_more_29 (by decide) (by decide) (by decide) (by decide) ?_
    refine lv_iload_n E.x E.b d_Shm_more_268 rfl (lv_at hl 2 rfl) ?_
    refine lv_bipush (v := 16) E.x E.b d_Shm_more_269 (by decide) ?_
    refine lv_ishl E.x E.b d_Shm_more_271 ?_
    refine wi_e (v := y41 <<< 16) rfl ?_
    obtain rfl := Option.some.inj h
    exact rt_i E w hret d_Shm_more_272
  replace h := ifF q74 h
  replace q74 := ne_ti (k := 40) (by decide) q74
  refine lv_tableOut (tgt := 273) E.x E.b d_Shm_more_29 (by omega) (by decide) ?_
  exact bt_Shm_more_273 E hret o σ p0 x0 x1 h w (lv_sub hl [3, 4, 5] rfl)
theorem clV_Shm_more {p : Program} {l : Launch} {e : Env} {R : Room} {s : State} {m : MethodId} {args : Array Value} {below : List Frame} {meth : Method} {c : Code} {H : Heap} {locs : List Loc} {Q : State → Prop} {cc : ByteArray} {nL pc lev : Nat} {own : String} {D : va_G} {τ : ClassId × ClassId × ClassId} {B : Nat} {A : Nat → Prop} {σ : Sg} {ad : Nat → Nat} {ls : Array Slot} {rest : List Value} (E : Cx p R s m args meth c cc nL own lev D τ B A) (w : Wd s D A (wdM τ σ ad) H locs) {p0 : Nat} {x0 : Int32} {x1 : Int32} {o : Sg × Int32} (h : F_Shm_more σ p0 x0 x1 = some o) {index : Nat} (hlk : Cond.methodLink own index y_Shm_more ∈ tw) (hlev : 9 < lev) (hsz : ls.size = nL) (hr : (rest.map fun v => v.category).sum ≤ 8) (hd : decode cc pc = .ok (.invokevirtual index, 3)) (kk : ∀ (H1 : Heap) (locs1 : List Loc), Wd s D A (wdM τ o.1 ad) H1 locs1 → W p l e R s m args below meth c H1 locs1 0 0 Q (F0 m (pc + 3) ls (.int o.2 :: rest))) : W p l e R s m args below meth c H locs 0 0 Q (F0 m pc ls (.int x1 :: .int x0 :: .ref (ad (65 + p0)) :: rest)) :=
  cr_i w E.C (va_runV (As := [.int x0, .int x1]) (rest := rest) E.fix (c_Shm_more l D τ B σ ad p0 x0 x1 o h H.size) (cwV 2 E.w (tw_pre (tw_good k2231) (l := [_, _, _, _]) (List.forall_mem_cons.mpr ⟨hlk, List.forall_mem_cons.mpr ⟨k2230, List.forall_mem_cons.mpr ⟨ks80, List.forall_mem_cons.mpr ⟨k17, fun _ h => absurd h List.not_mem_nil⟩⟩⟩⟩)) rfl rfl rfl (by decide +kernel) (E.rm hlev (by decide))) (wd_preV w E.C [.int x0, .int x1] (rcM_Shm (ck_some h).1) rfl) rfl rfl hsz rfl (lv_room hr) hd ⟨Nat.zero_le _, Nat.zero_le _⟩) kk

theorem d_Shm_oneBy_0 : decode prog_18_method_21_code 0 = .ok (.iload_n 0, 1) := by decide +kernel
theorem d_Shm_oneBy_1 : decode prog_18_method_21_code 1 = .ok (.ifCond .ne 6, 3) := by decide +kernel
theorem d_Shm_oneBy_4 : decode prog_18_method_21_code 4 = .ok (.ldc 127, 2) := by decide +kernel
theorem d_Shm_oneBy_6 : decode prog_18_method_21_code 6 = .ok (.ireturn, 1) := by decide +kernel
theorem d_Shm_oneBy_7 : decode prog_18_method_21_code 7 = .ok (.ldc2_w 128, 3) := by decide +kernel
theorem d_Shm_oneBy_10 : decode prog_18_method_21_code 10 = .ok (.iload_n 0, 1) := by decide +kernel
theorem d_Shm_oneBy_11 : decode prog_18_method_21_code 11 = .ok (.i2l, 1) := by decide +kernel
theorem d_Shm_oneBy_12 : decode prog_18_method_21_code 12 = .ok (.ldiv, 1) := by decide +kernel
theorem d_Shm_oneBy_13 : decode prog_18_method_21_code 13 = .ok (.lstore_n 1, 1) := by decide +kernel
theorem d_Shm_oneBy_14 : decode prog_18_method_21_code 14 = .ok (.ldc2_w 128, 3) := by decide +kernel
theorem d_Shm_oneBy_17 : decode prog_18_method_21_code 17 = .ok (.iload_n 0, 1) := by decide +kernel
theorem d_Shm_oneBy_18 : decode prog_18_method_21_code 18 = .ok (.i2l, 1) := by decide +kernel
theorem d_Shm_oneBy_19 : decode prog_18_method_21_code 19 = .ok (.lrem, 1) := by decide +kernel
theorem d_Shm_oneBy_20 : decode prog_18_method_21_code 20 = .ok (.lconst 0, 1) := by decide +kernel
theorem d_Shm_oneBy_21 : decode prog_18_method_21_code 21 = .ok (.lcmp, 1) := by decide +kernel
theorem d_Shm_oneBy_22 : decode prog_18_method_21_code 22 = .ok (.ifCond .eq 13, 3) := by decide +kernel
theorem d_Shm_oneBy_25 : decode prog_18_method_21_code 25 = .ok (.iload_n 0, 1) := by decide +kernel
theorem d_Shm_oneBy_26 : decode prog_18_method_21_code 26 = .ok (.ifCond .ge 9, 3) := by decide +kernel
theorem d_Shm_oneBy_29 : decode prog_18_method_21_code 29 = .ok (.lload_n 1, 1) := by decide +kernel
theorem d_Shm_oneBy_30 : decode prog_18_method_21_code 30 = .ok (.lconst 1, 1) := by decide +kernel
theorem d_Shm_oneBy_31 : decode prog_18_method_21_code 31 = .ok (.lsub, 1) := by decide +kernel
theorem d_Shm_oneBy_32 : decode prog_18_method_21_code 32 = .ok (.goto 4, 3) := by decide +kernel
theorem d_Shm_oneBy_35 : decode prog_18_method_21_code 35 = .ok (.lload_n 1, 1) := by decide +kernel
theorem d_Shm_oneBy_36 : decode prog_18_method_21_code 36 = .ok (.lstore_n 1, 1) := by decide +kernel
theorem d_Shm_oneBy_37 : decode prog_18_method_21_code 37 = .ok (.lload_n 1, 1) := by decide +kernel
theorem d_Shm_oneBy_38 : decode prog_18_method_21_code 38 = .ok (.ldc2_w 130, 3) := by decide +kernel
theorem d_Shm_oneBy_41 : decode prog_18_method_21_code 41 = .ok (.lcmp, 1) := by decide +kernel
theorem d_Shm_oneBy_42 : decode prog_18_method_21_code 42 = .ok (.ifCond .le 8, 3) := by decide +kernel
theorem d_Shm_oneBy_45 : decode prog_18_method_21_code 45 = .ok (.ldc 127, 2) := by decide +kernel
theorem d_Shm_oneBy_47 : decode prog_18_method_21_code 47 = .ok (.goto 18, 3) := by decide +kernel
theorem d_Shm_oneBy_50 : decode prog_18_method_21_code 50 = .ok (.lload_n 1, 1) := by decide +kernel
theorem d_Shm_oneBy_51 : decode prog_18_method_21_code 51 = .ok (.ldc2_w 132, 3) := by decide +kernel
theorem d_Shm_oneBy_54 : decode prog_18_method_21_code 54 = .ok (.lcmp, 1) := by decide +kernel
theorem d_Shm_oneBy_55 : decode prog_18_method_21_code 55 = .ok (.ifCond .ge 8, 3) := by decide +kernel
theorem d_Shm_oneBy_58 : decode prog_18_method_21_code 58 = .ok (.ldc 134, 2) := by decide +kernel
theorem d_Shm_oneBy_60 : decode prog_18_method_21_code 60 = .ok (.goto 5, 3) := by decide +kernel
theorem d_Shm_oneBy_63 : decode prog_18_method_21_code 63 = .ok (.lload_n 1, 1) := by decide +kernel
theorem d_Shm_oneBy_64 : decode prog_18_method_21_code 64 = .ok (.l2i, 1) := by decide +kernel
theorem d_Shm_oneBy_65 : decode prog_18_method_21_code 65 = .ok (.ireturn, 1) := by decide +kernel
def F_Shm_oneBy_65  (s0 : Int32) : Option (Int32) := some s0
set_option maxRecDepth 10000 in
set_option maxHeartbeats 4000000 in
theorem bt_Shm_oneBy_65 {p : Program} {l : Launch} {e : Env} {R : Room} {s : State} {m : MethodId} {args : Array Value} {below : List Frame} {meth : Method} {c : Code} {D : va_G} {τ : ClassId × ClassId × ClassId} {B : Nat} {A : Nat → Prop} {ad : Nat → Nat} {σ0 : Sg} (E : Cx p R s m args meth c prog_18_method_21_code 3 "DrawingMachineModel$ShaderMachineModel" 0 D τ B A) (hret : meth.sig.returnType = (some .int)) (o : Int32) (s0 : Int32) (h : F_Shm_oneBy_65 s0 = some o) {H : Heap} {locs : List Loc} {ls : Array Slot} (w : Wd s D A (wdM τ σ0 ad) H locs) (hl : lv_has ls 3 []) : W p l e R s m args below meth c H locs 0 0 (QI below args s A D τ (wdM τ σ0 ad) o) (F0 m 65 ls [.int s0]) := by
  obtain rfl := Option.some.inj h
  exact rt_i E w hret d_Shm_oneBy_65
def F_Shm_oneBy_36  (s0 : Int64) : Option (Int32) := if s0 ≤ 2147483647 then (if (-2147483648) ≤ s0 then (F_Shm_oneBy_65 s0.toInt32) else (F_Shm_oneBy_65 (-2147483648))) else (F_Shm_oneBy_65 2147483647)
set_option maxRecDepth 10000 in
set_option maxHeartbeats 4000000 in
theorem bt_Shm_oneBy_36 {p : Program} {l : Launch} {e : Env} {R : Room} {s : State} {m : MethodId} {args : Array Value} {below : List Frame} {meth : Method} {c : Code} {D : va_G} {τ : ClassId × ClassId × ClassId} {B : Nat} {A : Nat → Prop} {ad : Nat → Nat} {σ0 : Sg} (E : Cx p R s m args meth c prog_18_method_21_code 3 "DrawingMachineModel$ShaderMachineModel" 0 D τ B A) (hret : meth.sig.returnType = (some .int)) (o : Int32) (s0 : Int64) (h : F_Shm_oneBy_36 s0 = some o) {H : Heap} {locs : List Loc} {ls : Array Slot} (w : Wd s D A (wdM τ σ0 ad) H locs) (hl : lv_has ls 3 []) : W p l e R s m args below meth c H locs 0 0 (QI below args s A D τ (wdM τ σ0 ad) o) (F0 m 36 ls [.long s0]) := by
  refine lv_lstore_n (lv' := [(1, .long s0)]) E.x E.b d_Shm_oneBy_36 rfl hl (by decide) rfl (fun ls hl => ?_)
  refine lv_lload_n E.x E.b d_Shm_oneBy_37 rfl (lv_at hl 0 rfl) ?_
  refine lv_ldc2 (v := 2147483647) E.x E.b E.o (E.w _ k2220) d_Shm_oneBy_38 ?_
  refine W.lcmp E.x E.b d_Shm_oneBy_41 ?_
  refine lv_if_le (tgt := 50) E.x E.b d_Shm_oneBy_42 (by decide) (fun c => ?_) (fun c => ?_)
  ·
    replace h := ifT (lgc_le.mp c) h
    refine lv_lload_n E.x E.b d_Shm_oneBy_50 rfl (lv_at hl 0 rfl) ?_
    refine lv_ldc2 (v := (-2147483648)) E.x E.b E.o (E.w _ k2221) d_Shm_oneBy_51 ?_
    refine W.lcmp E.x E.b d_Shm_oneBy_54 ?_
    refine lv_if_ge (tgt := 63) E.x E.b d_Shm_oneBy_55 (by decide) (fun c => ?_) (fun c => ?_)
    ·
      replace h := ifT (lgc_ge.mp c) h
      refine lv_lload_n E.x E.b d_Shm_oneBy_63 rfl (lv_at hl 0 rfl) ?_
      refine lv_l2i (v := s0.toInt32) E.x E.b d_Shm_oneBy_64 rfl ?_
      exact bt_Shm_oneBy_65 E hret o s0.toInt32 h w (lv_sub hl [] rfl)
    ·
      replace h := ifF (fun h9 => c (lgc_ge.mpr h9)) h
      refine lv_ldc (v := (-2147483648)) E.x E.b E.o (E.w _ k2213) d_Shm_oneBy_58 ?_
      refine lv_goto (tgt := 65) E.x E.b d_Shm_oneBy_60 (by decide) ?_
      exact bt_Shm_oneBy_65 E hret o (-2147483648) h w (lv_sub hl [] rfl)
  ·
    replace h := ifF (fun h9 => c (lgc_le.mpr h9)) h
    refine lv_ldc (v := 2147483647) E.x E.b E.o (E.w _ k2214) d_Shm_oneBy_45 ?_
    refine lv_goto (tgt := 65) E.x E.b d_Shm_oneBy_47 (by decide) ?_
    exact bt_Shm_oneBy_65 E hret o 2147483647 h w (lv_sub hl [] rfl)
def F_Shm_oneBy_35  (v1 : Int64) : Option (Int32) := F_Shm_oneBy_36 v1
set_option maxRecDepth 10000 in
set_option maxHeartbeats 4000000 in
theorem bt_Shm_oneBy_35 {p : Program} {l : Launch} {e : Env} {R : Room} {s : State} {m : MethodId} {args : Array Value} {below : List Frame} {meth : Method} {c : Code} {D : va_G} {τ : ClassId × ClassId × ClassId} {B : Nat} {A : Nat → Prop} {ad : Nat → Nat} {σ0 : Sg} (E : Cx p R s m args meth c prog_18_method_21_code 3 "DrawingMachineModel$ShaderMachineModel" 0 D τ B A) (hret : meth.sig.returnType = (some .int)) (o : Int32) (v1 : Int64) (h : F_Shm_oneBy_35 v1 = some o) {H : Heap} {locs : List Loc} {ls : Array Slot} (w : Wd s D A (wdM τ σ0 ad) H locs) (hl : lv_has ls 3 [(1, .long v1)]) : W p l e R s m args below meth c H locs 0 0 (QI below args s A D τ (wdM τ σ0 ad) o) (F0 m 35 ls []) := by
  refine lv_lload_n E.x E.b d_Shm_oneBy_35 rfl (lv_at hl 0 rfl) ?_
  exact bt_Shm_oneBy_36 E hret o v1 h w (lv_sub hl [] rfl)
def F_Shm_oneBy  (x0 : Int32) : Option (Int32) := if x0 = 0 then (some 2147483647) else (ck (¬ x0.toInt64 = 0) (lt (4294967296 / x0.toInt64) (fun y5 => ck (¬ x0.toInt64 = 0) (if (lrem 4294967296 x0.toInt64) = 0 then (F_Shm_oneBy_35 y5) else (if 0 ≤ x0 then (F_Shm_oneBy_35 y5) else (F_Shm_oneBy_36 (y5 - 1)))))))
set_option maxRecDepth 10000 in
set_option maxHeartbeats 4000000 in
theorem c_Shm_oneBy (l : Launch) (D : va_G) (τ : ClassId × ClassId × ClassId) (B : Nat) (σ0 : Sg) (ad : Nat → Nat) (x0 : Int32) (o : Int32) (h : F_Shm_oneBy x0 = some o) : MI l y_Shm_oneBy (Cond.code y_Shm_oneBy prog_18_method_21_code 3 (some .int)) 0 D τ B [.int x0] (wdM τ σ0 ad) (wdM τ σ0 ad) o := by
  refine en_i (by decide) (Nat.le_of_ble_eq_true rfl) ?_
  intro p e R s m args below meth c H locs ls A E hret w hl
  have E : Cx p R s m args meth c prog_18_method_21_code 3 "DrawingMachineModel$ShaderMachineModel" 0 D τ B A := E
  have hl : lv_has ls 3 [(0, .int x0)] := hl
  refine lv_iload_n E.x E.b d_Shm_oneBy_0 rfl (lv_at hl 0 rfl) ?_
  refine lv_if_ne (tgt := 7) E.x E.b d_Shm_oneBy_1 (by decide) (fun c => ?_) (fun c => ?_)
  ·
    replace h := ifF c h
    refine lv_ldc2 (v := 4294967296) E.x E.b E.o (E.w _ k2219) d_Shm_oneBy_7 ?_
    refine lv_iload_n E.x E.b d_Shm_oneBy_10 rfl (lv_at hl 0 rfl) ?_
    refine lv_i2l (v := x0.toInt64) E.x E.b d_Shm_oneBy_11 rfl ?_
    obtain ⟨c4, h⟩ := ck_some h
    refine lv_ldiv E.x E.b d_Shm_oneBy_12 c4 ?_
    obtain ⟨y5, e_y5, h⟩ := lt_some h
    refine wl_e (v := y5) e_y5 ?_
    refine lv_lstore_n (lv' := [(1, .long y5), (0, .int x0)]) E.x E.b d_Shm_oneBy_13 rfl hl (by decide) rfl (fun ls hl => ?_)
    refine lv_ldc2 (v := 4294967296) E.x E.b E.o (E.w _ k2219) d_Shm_oneBy_14 ?_
    refine lv_iload_n E.x E.b d_Shm_oneBy_17 rfl (lv_at hl 1 rfl) ?_
    refine lv_i2l (v := x0.toInt64) E.x E.b d_Shm_oneBy_18 rfl ?_
    obtain ⟨c6, h⟩ := ck_some h
    refine lv_lrem E.x E.b d_Shm_oneBy_19 c6 ?_
    refine wl_e (v := lrem 4294967296 x0.toInt64) rfl ?_
    refine lv_lconst (v := 0) E.x E.b d_Shm_oneBy_20 (by decide) ?_
    refine W.lcmp E.x E.b d_Shm_oneBy_21 ?_
    refine lv_if_eq (tgt := 35) E.x E.b d_Shm_oneBy_22 (by decide) (fun c => ?_) (fun c => ?_)
    ·
      replace h := ifT (lgc_eq.mp c) h
      exact bt_Shm_oneBy_35 E hret o y5 h w (lv_sub hl [0] rfl)
    ·
      replace h := ifF (fun h9 => c (lgc_eq.mpr h9)) h
      refine lv_iload_n E.x E.b d_Shm_oneBy_25 rfl (lv_at hl 1 rfl) ?_
      refine lv_if_ge (tgt := 35) E.x E.b d_Shm_oneBy_26 (by decide) (fun c => ?_) (fun c => ?_)
      ·
        replace h := ifT c h
        exact bt_Shm_oneBy_35 E hret o y5 h w (lv_sub hl [0] rfl)
      ·
        replace h := ifF c h
        refine lv_lload_n E.x E.b d_Shm_oneBy_29 rfl (lv_at hl 0 rfl) ?_
        refine lv_lconst (v := 1) E.x E.b d_Shm_oneBy_30 (by decide) ?_
        refine lv_lsub E.x E.b d_Shm_oneBy_31 ?_
        refine lv_goto (tgt := 36) E.x E.b d_Shm_oneBy_32 (by decide) ?_
        exact bt_Shm_oneBy_36 E hret o (y5 - 1) h w (lv_sub hl [] rfl)
  ·
    replace h := ifT c h
    refine lv_ldc (v := 2147483647) E.x E.b E.o (E.w _ k2214) d_Shm_oneBy_4 ?_
    obtain rfl := Option.some.inj h
    exact rt_i E w hret d_Shm_oneBy_6
theorem clS_Shm_oneBy {p : Program} {l : Launch} {e : Env} {R : Room} {s : State} {m : MethodId} {args : Array Value} {below : List Frame} {meth : Method} {c : Code} {H : Heap} {locs : List Loc} {Q : State → Prop} {cc : ByteArray} {nL pc lev : Nat} {own : String} {D : va_G} {τ : ClassId × ClassId × ClassId} {B : Nat} {A : Nat → Prop} {σ : Sg} {ad : Nat → Nat} {ls : Array Slot} {rest : List Value} (E : Cx p R s m args meth c cc nL own lev D τ B A) (w : Wd s D A (wdM τ σ ad) H locs) {x0 : Int32} {o : Int32} (h : F_Shm_oneBy x0 = some o) {index : Nat} (hlk : Cond.methodLink own index y_Shm_oneBy ∈ tw) (hlev : 0 < lev) (hsz : ls.size = nL) (hr : (rest.map fun v => v.category).sum ≤ 8) (hd : decode cc pc = .ok (.invokestatic index, 3)) (kk : ∀ (H1 : Heap) (locs1 : List Loc), Wd s D A (wdM τ σ ad) H1 locs1 → W p l e R s m args below meth c H1 locs1 0 0 Q (F0 m (pc + 3) ls (.int o :: rest))) : W p l e R s m args below meth c H locs 0 0 Q (F0 m pc ls (.int x0 :: rest)) :=
  cr_i w E.C (va_runS (As := [.int x0]) (rest := rest) E.fix (c_Shm_oneBy l D τ B σ ad x0 o h H.size) (va_cwS 1 E.w (tw_pre (tw_good k2218) (l := [_, _, _]) (List.forall_mem_cons.mpr ⟨hlk, List.forall_mem_cons.mpr ⟨k2217, List.forall_mem_cons.mpr ⟨k17, fun _ h => absurd h List.not_mem_nil⟩⟩⟩)) rfl rfl rfl (by decide +kernel) (E.rm hlev (by decide))) (wd_pre w E.C [.int x0]) rfl rfl hsz rfl (lv_room hr) hd ⟨Nat.zero_le _, Nat.zero_le _⟩) kk

theorem d_Shm_part_0 : decode prog_18_method_25_code 0 = .ok (.aload_n 0, 1) := by decide +kernel
theorem d_Shm_part_1 : decode prog_18_method_25_code 1 = .ok (.getfield 32, 3) := by decide +kernel
theorem d_Shm_part_4 : decode prog_18_method_25_code 4 = .ok (.iload_n 2, 1) := by decide +kernel
theorem d_Shm_part_5 : decode prog_18_method_25_code 5 = .ok (.iaload, 1) := by decide +kernel
theorem d_Shm_part_6 : decode prog_18_method_25_code 6 = .ok (.istore_n 3, 1) := by decide +kernel
theorem d_Shm_part_7 : decode prog_18_method_25_code 7 = .ok (.aload_n 0, 1) := by decide +kernel
theorem d_Shm_part_8 : decode prog_18_method_25_code 8 = .ok (.getfield 32, 3) := by decide +kernel
theorem d_Shm_part_11 : decode prog_18_method_25_code 11 = .ok (.iconst 4, 1) := by decide +kernel
theorem d_Shm_part_12 : decode prog_18_method_25_code 12 = .ok (.iload_n 2, 1) := by decide +kernel
theorem d_Shm_part_13 : decode prog_18_method_25_code 13 = .ok (.iadd, 1) := by decide +kernel
theorem d_Shm_part_14 : decode prog_18_method_25_code 14 = .ok (.iaload, 1) := by decide +kernel
theorem d_Shm_part_15 : decode prog_18_method_25_code 15 = .ok (.istore 4, 2) := by decide +kernel
theorem d_Shm_part_17 : decode prog_18_method_25_code 17 = .ok (.aload_n 0, 1) := by decide +kernel
theorem d_Shm_part_18 : decode prog_18_method_25_code 18 = .ok (.getfield 32, 3) := by decide +kernel
theorem d_Shm_part_21 : decode prog_18_method_25_code 21 = .ok (.bipush 8, 2) := by decide +kernel
theorem d_Shm_part_23 : decode prog_18_method_25_code 23 = .ok (.iload_n 2, 1) := by decide +kernel
theorem d_Shm_part_24 : decode prog_18_method_25_code 24 = .ok (.iadd, 1) := by decide +kernel
theorem d_Shm_part_25 : decode prog_18_method_25_code 25 = .ok (.iaload, 1) := by decide +kernel
theorem d_Shm_part_26 : decode prog_18_method_25_code 26 = .ok (.istore 5, 2) := by decide +kernel
theorem d_Shm_part_28 : decode prog_18_method_25_code 28 = .ok (.aload_n 0, 1) := by decide +kernel
theorem d_Shm_part_29 : decode prog_18_method_25_code 29 = .ok (.getfield 32, 3) := by decide +kernel
theorem d_Shm_part_32 : decode prog_18_method_25_code 32 = .ok (.iconst 0, 1) := by decide +kernel
theorem d_Shm_part_33 : decode prog_18_method_25_code 33 = .ok (.iaload, 1) := by decide +kernel
theorem d_Shm_part_34 : decode prog_18_method_25_code 34 = .ok (.istore 6, 2) := by decide +kernel
theorem d_Shm_part_36 : decode prog_18_method_25_code 36 = .ok (.iload_n 1, 1) := by decide +kernel
theorem d_Shm_part_37 : decode prog_18_method_25_code 37 = .ok (.tableswitch 425 1 21 #[99, 101, 106, 111, 118, 128, 177, 243, 256, 269, 291, 296, 301, 307, 328, 348, 361, 374, 387, 400, 412], 99) := by decide +kernel
theorem d_Shm_part_136 : decode prog_18_method_25_code 136 = .ok (.iload_n 3, 1) := by decide +kernel
theorem d_Shm_part_137 : decode prog_18_method_25_code 137 = .ok (.ireturn, 1) := by decide +kernel
theorem d_Shm_part_138 : decode prog_18_method_25_code 138 = .ok (.iload_n 3, 1) := by decide +kernel
theorem d_Shm_part_139 : decode prog_18_method_25_code 139 = .ok (.iload 4, 2) := by decide +kernel
theorem d_Shm_part_141 : decode prog_18_method_25_code 141 = .ok (.iadd, 1) := by decide +kernel
theorem d_Shm_part_142 : decode prog_18_method_25_code 142 = .ok (.ireturn, 1) := by decide +kernel
theorem d_Shm_part_143 : decode prog_18_method_25_code 143 = .ok (.iload_n 3, 1) := by decide +kernel
theorem d_Shm_part_144 : decode prog_18_method_25_code 144 = .ok (.iload 4, 2) := by decide +kernel
theorem d_Shm_part_146 : decode prog_18_method_25_code 146 = .ok (.isub, 1) := by decide +kernel
theorem d_Shm_part_147 : decode prog_18_method_25_code 147 = .ok (.ireturn, 1) := by decide +kernel
theorem d_Shm_part_148 : decode prog_18_method_25_code 148 = .ok (.iload_n 3, 1) := by decide +kernel
theorem d_Shm_part_149 : decode prog_18_method_25_code 149 = .ok (.iload 4, 2) := by decide +kernel
theorem d_Shm_part_151 : decode prog_18_method_25_code 151 = .ok (.invokestatic 137, 3) := by decide +kernel
theorem d_Shm_part_154 : decode prog_18_method_25_code 154 = .ok (.ireturn, 1) := by decide +kernel
theorem d_Shm_part_155 : decode prog_18_method_25_code 155 = .ok (.iload_n 3, 1) := by decide +kernel
theorem d_Shm_part_156 : decode prog_18_method_25_code 156 = .ok (.iload 4, 2) := by decide +kernel
theorem d_Shm_part_158 : decode prog_18_method_25_code 158 = .ok (.invokestatic 137, 3) := by decide +kernel
theorem d_Shm_part_161 : decode prog_18_method_25_code 161 = .ok (.iload 5, 2) := by decide +kernel
theorem d_Shm_part_163 : decode prog_18_method_25_code 163 = .ok (.iadd, 1) := by decide +kernel
theorem d_Shm_part_164 : decode prog_18_method_25_code 164 = .ok (.ireturn, 1) := by decide +kernel
theorem d_Shm_part_165 : decode prog_18_method_25_code 165 = .ok (.aload_n 0, 1) := by decide +kernel
theorem d_Shm_part_166 : decode prog_18_method_25_code 166 = .ok (.getfield 32, 3) := by decide +kernel
theorem d_Shm_part_169 : decode prog_18_method_25_code 169 = .ok (.iconst 0, 1) := by decide +kernel
theorem d_Shm_part_170 : decode prog_18_method_25_code 170 = .ok (.iaload, 1) := by decide +kernel
theorem d_Shm_part_171 : decode prog_18_method_25_code 171 = .ok (.aload_n 0, 1) := by decide +kernel
theorem d_Shm_part_172 : decode prog_18_method_25_code 172 = .ok (.getfield 32, 3) := by decide +kernel
theorem d_Shm_part_175 : decode prog_18_method_25_code 175 = .ok (.iconst 4, 1) := by decide +kernel
theorem d_Shm_part_176 : decode prog_18_method_25_code 176 = .ok (.iaload, 1) := by decide +kernel
theorem d_Shm_part_177 : decode prog_18_method_25_code 177 = .ok (.invokestatic 137, 3) := by decide +kernel
theorem d_Shm_part_180 : decode prog_18_method_25_code 180 = .ok (.aload_n 0, 1) := by decide +kernel
theorem d_Shm_part_181 : decode prog_18_method_25_code 181 = .ok (.getfield 32, 3) := by decide +kernel
theorem d_Shm_part_184 : decode prog_18_method_25_code 184 = .ok (.iconst 1, 1) := by decide +kernel
theorem d_Shm_part_185 : decode prog_18_method_25_code 185 = .ok (.iaload, 1) := by decide +kernel
theorem d_Shm_part_186 : decode prog_18_method_25_code 186 = .ok (.aload_n 0, 1) := by decide +kernel
theorem d_Shm_part_187 : decode prog_18_method_25_code 187 = .ok (.getfield 32, 3) := by decide +kernel
theorem d_Shm_part_190 : decode prog_18_method_25_code 190 = .ok (.iconst 5, 1) := by decide +kernel
theorem d_Shm_part_191 : decode prog_18_method_25_code 191 = .ok (.iaload, 1) := by decide +kernel
theorem d_Shm_part_192 : decode prog_18_method_25_code 192 = .ok (.invokestatic 137, 3) := by decide +kernel
theorem d_Shm_part_195 : decode prog_18_method_25_code 195 = .ok (.iadd, 1) := by decide +kernel
theorem d_Shm_part_196 : decode prog_18_method_25_code 196 = .ok (.aload_n 0, 1) := by decide +kernel
theorem d_Shm_part_197 : decode prog_18_method_25_code 197 = .ok (.getfield 32, 3) := by decide +kernel
theorem d_Shm_part_200 : decode prog_18_method_25_code 200 = .ok (.iconst 2, 1) := by decide +kernel
theorem d_Shm_part_201 : decode prog_18_method_25_code 201 = .ok (.iaload, 1) := by decide +kernel
theorem d_Shm_part_202 : decode prog_18_method_25_code 202 = .ok (.aload_n 0, 1) := by decide +kernel
theorem d_Shm_part_203 : decode prog_18_method_25_code 203 = .ok (.getfield 32, 3) := by decide +kernel
theorem d_Shm_part_206 : decode prog_18_method_25_code 206 = .ok (.bipush 6, 2) := by decide +kernel
theorem d_Shm_part_208 : decode prog_18_method_25_code 208 = .ok (.iaload, 1) := by decide +kernel
theorem d_Shm_part_209 : decode prog_18_method_25_code 209 = .ok (.invokestatic 137, 3) := by decide +kernel
theorem d_Shm_part_212 : decode prog_18_method_25_code 212 = .ok (.iadd, 1) := by decide +kernel
theorem d_Shm_part_213 : decode prog_18_method_25_code 213 = .ok (.ireturn, 1) := by decide +kernel
theorem d_Shm_part_214 : decode prog_18_method_25_code 214 = .ok (.aload_n 0, 1) := by decide +kernel
theorem d_Shm_part_215 : decode prog_18_method_25_code 215 = .ok (.getfield 32, 3) := by decide +kernel
theorem d_Shm_part_218 : decode prog_18_method_25_code 218 = .ok (.iconst 0, 1) := by decide +kernel
theorem d_Shm_part_219 : decode prog_18_method_25_code 219 = .ok (.iaload, 1) := by decide +kernel
theorem d_Shm_part_220 : decode prog_18_method_25_code 220 = .ok (.aload_n 0, 1) := by decide +kernel
theorem d_Shm_part_221 : decode prog_18_method_25_code 221 = .ok (.getfield 32, 3) := by decide +kernel
theorem d_Shm_part_224 : decode prog_18_method_25_code 224 = .ok (.iconst 4, 1) := by decide +kernel
theorem d_Shm_part_225 : decode prog_18_method_25_code 225 = .ok (.iaload, 1) := by decide +kernel
theorem d_Shm_part_226 : decode prog_18_method_25_code 226 = .ok (.invokestatic 137, 3) := by decide +kernel
theorem d_Shm_part_229 : decode prog_18_method_25_code 229 = .ok (.aload_n 0, 1) := by decide +kernel
theorem d_Shm_part_230 : decode prog_18_method_25_code 230 = .ok (.getfield 32, 3) := by decide +kernel
theorem d_Shm_part_233 : decode prog_18_method_25_code 233 = .ok (.iconst 1, 1) := by decide +kernel
theorem d_Shm_part_234 : decode prog_18_method_25_code 234 = .ok (.iaload, 1) := by decide +kernel
theorem d_Shm_part_235 : decode prog_18_method_25_code 235 = .ok (.aload_n 0, 1) := by decide +kernel
theorem d_Shm_part_236 : decode prog_18_method_25_code 236 = .ok (.getfield 32, 3) := by decide +kernel
theorem d_Shm_part_239 : decode prog_18_method_25_code 239 = .ok (.iconst 5, 1) := by decide +kernel
theorem d_Shm_part_240 : decode prog_18_method_25_code 240 = .ok (.iaload, 1) := by decide +kernel
theorem d_Shm_part_241 : decode prog_18_method_25_code 241 = .ok (.invokestatic 137, 3) := by decide +kernel
theorem d_Shm_part_244 : decode prog_18_method_25_code 244 = .ok (.iadd, 1) := by decide +kernel
theorem d_Shm_part_245 : decode prog_18_method_25_code 245 = .ok (.aload_n 0, 1) := by decide +kernel
theorem d_Shm_part_246 : decode prog_18_method_25_code 246 = .ok (.getfield 32, 3) := by decide +kernel
theorem d_Shm_part_249 : decode prog_18_method_25_code 249 = .ok (.iconst 2, 1) := by decide +kernel
theorem d_Shm_part_250 : decode prog_18_method_25_code 250 = .ok (.iaload, 1) := by decide +kernel
theorem d_Shm_part_251 : decode prog_18_method_25_code 251 = .ok (.aload_n 0, 1) := by decide +kernel
theorem d_Shm_part_252 : decode prog_18_method_25_code 252 = .ok (.getfield 32, 3) := by decide +kernel
theorem d_Shm_part_255 : decode prog_18_method_25_code 255 = .ok (.bipush 6, 2) := by decide +kernel
theorem d_Shm_part_257 : decode prog_18_method_25_code 257 = .ok (.iaload, 1) := by decide +kernel
theorem d_Shm_part_258 : decode prog_18_method_25_code 258 = .ok (.invokestatic 137, 3) := by decide +kernel
theorem d_Shm_part_261 : decode prog_18_method_25_code 261 = .ok (.iadd, 1) := by decide +kernel
theorem d_Shm_part_262 : decode prog_18_method_25_code 262 = .ok (.aload_n 0, 1) := by decide +kernel
theorem d_Shm_part_263 : decode prog_18_method_25_code 263 = .ok (.getfield 32, 3) := by decide +kernel
theorem d_Shm_part_266 : decode prog_18_method_25_code 266 = .ok (.iconst 3, 1) := by decide +kernel
theorem d_Shm_part_267 : decode prog_18_method_25_code 267 = .ok (.iaload, 1) := by decide +kernel
theorem d_Shm_part_268 : decode prog_18_method_25_code 268 = .ok (.aload_n 0, 1) := by decide +kernel
theorem d_Shm_part_269 : decode prog_18_method_25_code 269 = .ok (.getfield 32, 3) := by decide +kernel
theorem d_Shm_part_272 : decode prog_18_method_25_code 272 = .ok (.bipush 7, 2) := by decide +kernel
theorem d_Shm_part_274 : decode prog_18_method_25_code 274 = .ok (.iaload, 1) := by decide +kernel
theorem d_Shm_part_275 : decode prog_18_method_25_code 275 = .ok (.invokestatic 137, 3) := by decide +kernel
theorem d_Shm_part_278 : decode prog_18_method_25_code 278 = .ok (.iadd, 1) := by decide +kernel
theorem d_Shm_part_279 : decode prog_18_method_25_code 279 = .ok (.ireturn, 1) := by decide +kernel
theorem d_Shm_part_280 : decode prog_18_method_25_code 280 = .ok (.iload_n 3, 1) := by decide +kernel
theorem d_Shm_part_281 : decode prog_18_method_25_code 281 = .ok (.iload 4, 2) := by decide +kernel
theorem d_Shm_part_283 : decode prog_18_method_25_code 283 = .ok (.if_icmp .ge 7, 3) := by decide +kernel
theorem d_Shm_part_286 : decode prog_18_method_25_code 286 = .ok (.iload_n 3, 1) := by decide +kernel
theorem d_Shm_part_287 : decode prog_18_method_25_code 287 = .ok (.goto 5, 3) := by decide +kernel
theorem d_Shm_part_290 : decode prog_18_method_25_code 290 = .ok (.iload 4, 2) := by decide +kernel
theorem d_Shm_part_292 : decode prog_18_method_25_code 292 = .ok (.ireturn, 1) := by decide +kernel
theorem d_Shm_part_293 : decode prog_18_method_25_code 293 = .ok (.iload_n 3, 1) := by decide +kernel
theorem d_Shm_part_294 : decode prog_18_method_25_code 294 = .ok (.iload 4, 2) := by decide +kernel
theorem d_Shm_part_296 : decode prog_18_method_25_code 296 = .ok (.if_icmp .le 7, 3) := by decide +kernel
theorem d_Shm_part_299 : decode prog_18_method_25_code 299 = .ok (.iload_n 3, 1) := by decide +kernel
theorem d_Shm_part_300 : decode prog_18_method_25_code 300 = .ok (.goto 5, 3) := by decide +kernel
theorem d_Shm_part_303 : decode prog_18_method_25_code 303 = .ok (.iload 4, 2) := by decide +kernel
theorem d_Shm_part_305 : decode prog_18_method_25_code 305 = .ok (.ireturn, 1) := by decide +kernel
theorem d_Shm_part_306 : decode prog_18_method_25_code 306 = .ok (.iload_n 3, 1) := by decide +kernel
theorem d_Shm_part_307 : decode prog_18_method_25_code 307 = .ok (.ldc 134, 2) := by decide +kernel
theorem d_Shm_part_309 : decode prog_18_method_25_code 309 = .ok (.if_icmp .ne 8, 3) := by decide +kernel
theorem d_Shm_part_312 : decode prog_18_method_25_code 312 = .ok (.ldc 127, 2) := by decide +kernel
theorem d_Shm_part_314 : decode prog_18_method_25_code 314 = .ok (.goto 13, 3) := by decide +kernel
theorem d_Shm_part_317 : decode prog_18_method_25_code 317 = .ok (.iload_n 3, 1) := by decide +kernel
theorem d_Shm_part_318 : decode prog_18_method_25_code 318 = .ok (.ifCond .ge 8, 3) := by decide +kernel
theorem d_Shm_part_321 : decode prog_18_method_25_code 321 = .ok (.iload_n 3, 1) := by decide +kernel
theorem d_Shm_part_322 : decode prog_18_method_25_code 322 = .ok (.ineg, 1) := by decide +kernel
theorem d_Shm_part_323 : decode prog_18_method_25_code 323 = .ok (.goto 4, 3) := by decide +kernel
theorem d_Shm_part_326 : decode prog_18_method_25_code 326 = .ok (.iload_n 3, 1) := by decide +kernel
theorem d_Shm_part_327 : decode prog_18_method_25_code 327 = .ok (.ireturn, 1) := by decide +kernel
theorem d_Shm_part_328 : decode prog_18_method_25_code 328 = .ok (.iload_n 3, 1) := by decide +kernel
theorem d_Shm_part_329 : decode prog_18_method_25_code 329 = .ok (.ldc 140, 2) := by decide +kernel
theorem d_Shm_part_331 : decode prog_18_method_25_code 331 = .ok (.iand, 1) := by decide +kernel
theorem d_Shm_part_332 : decode prog_18_method_25_code 332 = .ok (.ireturn, 1) := by decide +kernel
theorem d_Shm_part_333 : decode prog_18_method_25_code 333 = .ok (.iload_n 3, 1) := by decide +kernel
theorem d_Shm_part_334 : decode prog_18_method_25_code 334 = .ok (.ldc 51, 2) := by decide +kernel
theorem d_Shm_part_336 : decode prog_18_method_25_code 336 = .ok (.iand, 1) := by decide +kernel
theorem d_Shm_part_337 : decode prog_18_method_25_code 337 = .ok (.ireturn, 1) := by decide +kernel
theorem d_Shm_part_338 : decode prog_18_method_25_code 338 = .ok (.iload 6, 2) := by decide +kernel
theorem d_Shm_part_340 : decode prog_18_method_25_code 340 = .ok (.invokestatic 141, 3) := by decide +kernel
theorem d_Shm_part_343 : decode prog_18_method_25_code 343 = .ok (.ireturn, 1) := by decide +kernel
theorem d_Shm_part_344 : decode prog_18_method_25_code 344 = .ok (.iload 6, 2) := by decide +kernel
theorem d_Shm_part_346 : decode prog_18_method_25_code 346 = .ok (.ifCond .gt 8, 3) := by decide +kernel
theorem d_Shm_part_349 : decode prog_18_method_25_code 349 = .ok (.ldc 127, 2) := by decide +kernel
theorem d_Shm_part_351 : decode prog_18_method_25_code 351 = .ok (.goto 13, 3) := by decide +kernel
theorem d_Shm_part_354 : decode prog_18_method_25_code 354 = .ok (.ldc2_w 144, 3) := by decide +kernel
theorem d_Shm_part_357 : decode prog_18_method_25_code 357 = .ok (.iload 6, 2) := by decide +kernel
theorem d_Shm_part_359 : decode prog_18_method_25_code 359 = .ok (.i2l, 1) := by decide +kernel
theorem d_Shm_part_360 : decode prog_18_method_25_code 360 = .ok (.ldiv, 1) := by decide +kernel
theorem d_Shm_part_361 : decode prog_18_method_25_code 361 = .ok (.invokestatic 146, 3) := by decide +kernel
theorem d_Shm_part_364 : decode prog_18_method_25_code 364 = .ok (.ireturn, 1) := by decide +kernel
theorem d_Shm_part_365 : decode prog_18_method_25_code 365 = .ok (.iload 6, 2) := by decide +kernel
theorem d_Shm_part_367 : decode prog_18_method_25_code 367 = .ok (.ifCond .ge 7, 3) := by decide +kernel
theorem d_Shm_part_370 : decode prog_18_method_25_code 370 = .ok (.iconst 0, 1) := by decide +kernel
theorem d_Shm_part_371 : decode prog_18_method_25_code 371 = .ok (.goto 13, 3) := by decide +kernel
theorem d_Shm_part_374 : decode prog_18_method_25_code 374 = .ok (.ldc2_w 110, 3) := by decide +kernel
theorem d_Shm_part_377 : decode prog_18_method_25_code 377 = .ok (.iload 6, 2) := by decide +kernel
theorem d_Shm_part_379 : decode prog_18_method_25_code 379 = .ok (.i2l, 1) := by decide +kernel
theorem d_Shm_part_380 : decode prog_18_method_25_code 380 = .ok (.lmul, 1) := by decide +kernel
theorem d_Shm_part_381 : decode prog_18_method_25_code 381 = .ok (.invokestatic 146, 3) := by decide +kernel
theorem d_Shm_part_384 : decode prog_18_method_25_code 384 = .ok (.ireturn, 1) := by decide +kernel
theorem d_Shm_part_385 : decode prog_18_method_25_code 385 = .ok (.iload_n 3, 1) := by decide +kernel
theorem d_Shm_part_386 : decode prog_18_method_25_code 386 = .ok (.iload 4, 2) := by decide +kernel
theorem d_Shm_part_388 : decode prog_18_method_25_code 388 = .ok (.if_icmp .ge 8, 3) := by decide +kernel
theorem d_Shm_part_391 : decode prog_18_method_25_code 391 = .ok (.ldc 150, 2) := by decide +kernel
theorem d_Shm_part_393 : decode prog_18_method_25_code 393 = .ok (.goto 4, 3) := by decide +kernel
theorem d_Shm_part_396 : decode prog_18_method_25_code 396 = .ok (.iconst 0, 1) := by decide +kernel
theorem d_Shm_part_397 : decode prog_18_method_25_code 397 = .ok (.ireturn, 1) := by decide +kernel
theorem d_Shm_part_398 : decode prog_18_method_25_code 398 = .ok (.iload_n 3, 1) := by decide +kernel
theorem d_Shm_part_399 : decode prog_18_method_25_code 399 = .ok (.iload 4, 2) := by decide +kernel
theorem d_Shm_part_401 : decode prog_18_method_25_code 401 = .ok (.if_icmp .ge 7, 3) := by decide +kernel
theorem d_Shm_part_404 : decode prog_18_method_25_code 404 = .ok (.iconst 0, 1) := by decide +kernel
theorem d_Shm_part_405 : decode prog_18_method_25_code 405 = .ok (.goto 5, 3) := by decide +kernel
theorem d_Shm_part_408 : decode prog_18_method_25_code 408 = .ok (.ldc 150, 2) := by decide +kernel
theorem d_Shm_part_410 : decode prog_18_method_25_code 410 = .ok (.ireturn, 1) := by decide +kernel
theorem d_Shm_part_411 : decode prog_18_method_25_code 411 = .ok (.iload_n 3, 1) := by decide +kernel
theorem d_Shm_part_412 : decode prog_18_method_25_code 412 = .ok (.iload 4, 2) := by decide +kernel
theorem d_Shm_part_414 : decode prog_18_method_25_code 414 = .ok (.if_icmp .ne 8, 3) := by decide +kernel
theorem d_Shm_part_417 : decode prog_18_method_25_code 417 = .ok (.ldc 150, 2) := by decide +kernel
theorem d_Shm_part_419 : decode prog_18_method_25_code 419 = .ok (.goto 4, 3) := by decide +kernel
theorem d_Shm_part_422 : decode prog_18_method_25_code 422 = .ok (.iconst 0, 1) := by decide +kernel
theorem d_Shm_part_423 : decode prog_18_method_25_code 423 = .ok (.ireturn, 1) := by decide +kernel
theorem d_Shm_part_424 : decode prog_18_method_25_code 424 = .ok (.iload_n 3, 1) := by decide +kernel
theorem d_Shm_part_425 : decode prog_18_method_25_code 425 = .ok (.iload 4, 2) := by decide +kernel
theorem d_Shm_part_427 : decode prog_18_method_25_code 427 = .ok (.if_icmp .ne 7, 3) := by decide +kernel
theorem d_Shm_part_430 : decode prog_18_method_25_code 430 = .ok (.iconst 0, 1) := by decide +kernel
theorem d_Shm_part_431 : decode prog_18_method_25_code 431 = .ok (.goto 5, 3) := by decide +kernel
theorem d_Shm_part_434 : decode prog_18_method_25_code 434 = .ok (.ldc 150, 2) := by decide +kernel
theorem d_Shm_part_436 : decode prog_18_method_25_code 436 = .ok (.ireturn, 1) := by decide +kernel
theorem d_Shm_part_437 : decode prog_18_method_25_code 437 = .ok (.iload_n 3, 1) := by decide +kernel
theorem d_Shm_part_438 : decode prog_18_method_25_code 438 = .ok (.ifCond .lt 8, 3) := by decide +kernel
theorem d_Shm_part_441 : decode prog_18_method_25_code 441 = .ok (.iload 4, 2) := by decide +kernel
theorem d_Shm_part_443 : decode prog_18_method_25_code 443 = .ok (.goto 5, 3) := by decide +kernel
theorem d_Shm_part_446 : decode prog_18_method_25_code 446 = .ok (.iload 5, 2) := by decide +kernel
theorem d_Shm_part_448 : decode prog_18_method_25_code 448 = .ok (.ireturn, 1) := by decide +kernel
theorem d_Shm_part_449 : decode prog_18_method_25_code 449 = .ok (.iload_n 3, 1) := by decide +kernel
theorem d_Shm_part_450 : decode prog_18_method_25_code 450 = .ok (.iload 4, 2) := by decide +kernel
theorem d_Shm_part_452 : decode prog_18_method_25_code 452 = .ok (.iload 5, 2) := by decide +kernel
theorem d_Shm_part_454 : decode prog_18_method_25_code 454 = .ok (.isub, 1) := by decide +kernel
theorem d_Shm_part_455 : decode prog_18_method_25_code 455 = .ok (.invokestatic 137, 3) := by decide +kernel
theorem d_Shm_part_458 : decode prog_18_method_25_code 458 = .ok (.iload 5, 2) := by decide +kernel
theorem d_Shm_part_460 : decode prog_18_method_25_code 460 = .ok (.iadd, 1) := by decide +kernel
theorem d_Shm_part_461 : decode prog_18_method_25_code 461 = .ok (.ireturn, 1) := by decide +kernel
theorem d_Shm_part_462 : decode prog_18_method_25_code 462 = .ok (.aload_n 0, 1) := by decide +kernel
theorem d_Shm_part_463 : decode prog_18_method_25_code 463 = .ok (.iload_n 1, 1) := by decide +kernel
theorem d_Shm_part_464 : decode prog_18_method_25_code 464 = .ok (.iload_n 2, 1) := by decide +kernel
theorem d_Shm_part_465 : decode prog_18_method_25_code 465 = .ok (.invokevirtual 151, 3) := by decide +kernel
theorem d_Shm_part_468 : decode prog_18_method_25_code 468 = .ok (.ireturn, 1) := by decide +kernel
def F_Shm_part_448 (σ : Sg) (s0 : Int32) : Option (Sg × Int32) := some (σ, s0)
set_option maxRecDepth 10000 in
set_option maxHeartbeats 4000000 in
theorem bt_Shm_part_448 {p : Program} {l : Launch} {e : Env} {R : Room} {s : State} {m : MethodId} {args : Array Value} {below : List Frame} {meth : Method} {c : Code} {D : va_G} {τ : ClassId × ClassId × ClassId} {B : Nat} {A : Nat → Prop} {ad : Nat → Nat} (E : Cx p R s m args meth c prog_18_method_25_code 7 "DrawingMachineModel$ShaderMachineModel" 10 D τ B A) (hret : meth.sig.returnType = (some .int)) (o : Sg × Int32) (σ : Sg) (s0 : Int32) (h : F_Shm_part_448 σ s0 = some o) {H : Heap} {locs : List Loc} {ls : Array Slot} (w : Wd s D A (wdM τ σ ad) H locs) (hl : lv_has ls 7 []) : W p l e R s m args below meth c H locs 0 0 (QI below args s A D τ (wdM τ o.1 ad) o.2) (F0 m 448 ls [.int s0]) := by
  obtain rfl := Option.some.inj h
  exact rt_i E w hret d_Shm_part_448
def F_Shm_part_436 (σ : Sg) (s0 : Int32) : Option (Sg × Int32) := some (σ, s0)
set_option maxRecDepth 10000 in
set_option maxHeartbeats 4000000 in
theorem bt_Shm_part_436 {p : Program} {l : Launch} {e : Env} {R : Room} {s : State} {m : MethodId} {args : Array Value} {below : List Frame} {meth : Method} {c : Code} {D : va_G} {τ : ClassId × ClassId × ClassId} {B : Nat} {A : Nat → Prop} {ad : Nat → Nat} (E : Cx p R s m args meth c prog_18_method_25_code 7 "DrawingMachineModel$ShaderMachineModel" 10 D τ B A) (hret : meth.sig.returnType = (some .int)) (o : Sg × Int32) (σ : Sg) (s0 : Int32) (h : F_Shm_part_436 σ s0 = some o) {H : Heap} {locs : List Loc} {ls : Array Slot} (w : Wd s D A (wdM τ σ ad) H locs) (hl : lv_has ls 7 []) : W p l e R s m args below meth c H locs 0 0 (QI below args s A D τ (wdM τ o.1 ad) o.2) (F0 m 436 ls [.int s0]) := by
  obtain rfl := Option.some.inj h
  exact rt_i E w hret d_Shm_part_436
def F_Shm_part_423 (σ : Sg) (s0 : Int32) : Option (Sg × Int32) := some (σ, s0)
set_option maxRecDepth 10000 in
set_option maxHeartbeats 4000000 in
theorem bt_Shm_part_423 {p : Program} {l : Launch} {e : Env} {R : Room} {s : State} {m : MethodId} {args : Array Value} {below : List Frame} {meth : Method} {c : Code} {D : va_G} {τ : ClassId × ClassId × ClassId} {B : Nat} {A : Nat → Prop} {ad : Nat → Nat} (E : Cx p R s m args meth c prog_18_method_25_code 7 "DrawingMachineModel$ShaderMachineModel" 10 D τ B A) (hret : meth.sig.returnType = (some .int)) (o : Sg × Int32) (σ : Sg) (s0 : Int32) (h : F_Shm_part_423 σ s0 = some o) {H : Heap} {locs : List Loc} {ls : Array Slot} (w : Wd s D A (wdM τ σ ad) H locs) (hl : lv_has ls 7 []) : W p l e R s m args below meth c H locs 0 0 (QI below args s A D τ (wdM τ o.1 ad) o.2) (F0 m 423 ls [.int s0]) := by
  obtain rfl := Option.some.inj h
  exact rt_i E w hret d_Shm_part_423
def F_Shm_part_410 (σ : Sg) (s0 : Int32) : Option (Sg × Int32) := some (σ, s0)
set_option maxRecDepth 10000 in
set_option maxHeartbeats 4000000 in
theorem bt_Shm_part_410 {p : Program} {l : Launch} {e : Env} {R : Room} {s : State} {m : MethodId} {args : Array Value} {below : List Frame} {meth : Method} {c : Code} {D : va_G} {τ : ClassId × ClassId × ClassId} {B : Nat} {A : Nat → Prop} {ad : Nat → Nat} (E : Cx p R s m args meth c prog_18_method_25_code 7 "DrawingMachineModel$ShaderMachineModel" 10 D τ B A) (hret : meth.sig.returnType = (some .int)) (o : Sg × Int32) (σ : Sg) (s0 : Int32) (h : F_Shm_part_410 σ s0 = some o) {H : Heap} {locs : List Loc} {ls : Array Slot} (w : Wd s D A (wdM τ σ ad) H locs) (hl : lv_has ls 7 []) : W p l e R s m args below meth c H locs 0 0 (QI below args s A D τ (wdM τ o.1 ad) o.2) (F0 m 410 ls [.int s0]) := by
  obtain rfl := Option.some.inj h
  exact rt_i E w hret d_Shm_part_410
def F_Shm_part_397 (σ : Sg) (s0 : Int32) : Option (Sg × Int32) := some (σ, s0)
set_option maxRecDepth 10000 in
set_option maxHeartbeats 4000000 in
theorem bt_Shm_part_397 {p : Program} {l : Launch} {e : Env} {R : Room} {s : State} {m : MethodId} {args : Array Value} {below : List Frame} {meth : Method} {c : Code} {D : va_G} {τ : ClassId × ClassId × ClassId} {B : Nat} {A : Nat → Prop} {ad : Nat → Nat} (E : Cx p R s m args meth c prog_18_method_25_code 7 "DrawingMachineModel$ShaderMachineModel" 10 D τ B A) (hret : meth.sig.returnType = (some .int)) (o : Sg × Int32) (σ : Sg) (s0 : Int32) (h : F_Shm_part_397 σ s0 = some o) {H : Heap} {locs : List Loc} {ls : Array Slot} (w : Wd s D A (wdM τ σ ad) H locs) (hl : lv_has ls 7 []) : W p l e R s m args below meth c H locs 0 0 (QI below args s A D τ (wdM τ o.1 ad) o.2) (F0 m 397 ls [.int s0]) := by
  obtain rfl := Option.some.inj h
  exact rt_i E w hret d_Shm_part_397
def F_Shm_part_384 (σ : Sg) (s0 : Int32) : Option (Sg × Int32) := some (σ, s0)
set_option maxRecDepth 10000 in
set_option maxHeartbeats 4000000 in
theorem bt_Shm_part_384 {p : Program} {l : Launch} {e : Env} {R : Room} {s : State} {m : MethodId} {args : Array Value} {below : List Frame} {meth : Method} {c : Code} {D : va_G} {τ : ClassId × ClassId × ClassId} {B : Nat} {A : Nat → Prop} {ad : Nat → Nat} (E : Cx p R s m args meth c prog_18_method_25_code 7 "DrawingMachineModel$ShaderMachineModel" 10 D τ B A) (hret : meth.sig.returnType = (some .int)) (o : Sg × Int32) (σ : Sg) (s0 : Int32) (h : F_Shm_part_384 σ s0 = some o) {H : Heap} {locs : List Loc} {ls : Array Slot} (w : Wd s D A (wdM τ σ ad) H locs) (hl : lv_has ls 7 []) : W p l e R s m args below meth c H locs 0 0 (QI below args s A D τ (wdM τ o.1 ad) o.2) (F0 m 384 ls [.int s0]) := by
  obtain rfl := Option.some.inj h
  exact rt_i E w hret d_Shm_part_384
def F_Shm_part_364 (σ : Sg) (s0 : Int32) : Option (Sg × Int32) := some (σ, s0)
set_option maxRecDepth 10000 in
set_option maxHeartbeats 4000000 in
theorem bt_Shm_part_364 {p : Program} {l : Launch} {e : Env} {R : Room} {s : State} {m : MethodId} {args : Array Value} {below : List Frame} {meth : Method} {c : Code} {D : va_G} {τ : ClassId × ClassId × ClassId} {B : Nat} {A : Nat → Prop} {ad : Nat → Nat} (E : Cx p R s m args meth c prog_18_method_25_code 7 "DrawingMachineModel$ShaderMachineModel" 10 D τ B A) (hret : meth.sig.returnType = (some .int)) (o : Sg × Int32) (σ : Sg) (s0 : Int32) (h : F_Shm_part_364 σ s0 = some o) {H : Heap} {locs : List Loc} {ls : Array Slot} (w : Wd s D A (wdM τ σ ad) H locs) (hl : lv_has ls 7 []) : W p l e R s m args below meth c H locs 0 0 (QI below args s A D τ (wdM τ o.1 ad) o.2) (F0 m 364 ls [.int s0]) := by
  obtain rfl := Option.some.inj h
  exact rt_i E w hret d_Shm_part_364
def F_Shm_part_327 (σ : Sg) (s0 : Int32) : Option (Sg × Int32) := some (σ, s0)
set_option maxRecDepth 10000 in
set_option maxHeartbeats 4000000 in
theorem bt_Shm_part_327 {p : Program} {l : Launch} {e : Env} {R : Room} {s : State} {m : MethodId} {args : Array Value} {below : List Frame} {meth : Method} {c : Code} {D : va_G} {τ : ClassId × ClassId × ClassId} {B : Nat} {A : Nat → Prop} {ad : Nat → Nat} (E : Cx p R s m args meth c prog_18_method_25_code 7 "DrawingMachineModel$ShaderMachineModel" 10 D τ B A) (hret : meth.sig.returnType = (some .int)) (o : Sg × Int32) (σ : Sg) (s0 : Int32) (h : F_Shm_part_327 σ s0 = some o) {H : Heap} {locs : List Loc} {ls : Array Slot} (w : Wd s D A (wdM τ σ ad) H locs) (hl : lv_has ls 7 []) : W p l e R s m args below meth c H locs 0 0 (QI below args s A D τ (wdM τ o.1 ad) o.2) (F0 m 327 ls [.int s0]) := by
  obtain rfl := Option.some.inj h
  exact rt_i E w hret d_Shm_part_327
def F_Shm_part_305 (σ : Sg) (s0 : Int32) : Option (Sg × Int32) := some (σ, s0)
set_option maxRecDepth 10000 in
set_option maxHeartbeats 4000000 in
theorem bt_Shm_part_305 {p : Program} {l : Launch} {e : Env} {R : Room} {s : State} {m : MethodId} {args : Array Value} {below : List Frame} {meth : Method} {c : Code} {D : va_G} {τ : ClassId × ClassId × ClassId} {B : Nat} {A : Nat → Prop} {ad : Nat → Nat} (E : Cx p R s m args meth c prog_18_method_25_code 7 "DrawingMachineModel$ShaderMachineModel" 10 D τ B A) (hret : meth.sig.returnType = (some .int)) (o : Sg × Int32) (σ : Sg) (s0 : Int32) (h : F_Shm_part_305 σ s0 = some o) {H : Heap} {locs : List Loc} {ls : Array Slot} (w : Wd s D A (wdM τ σ ad) H locs) (hl : lv_has ls 7 []) : W p l e R s m args below meth c H locs 0 0 (QI below args s A D τ (wdM τ o.1 ad) o.2) (F0 m 305 ls [.int s0]) := by
  obtain rfl := Option.some.inj h
  exact rt_i E w hret d_Shm_part_305
def F_Shm_part_292 (σ : Sg) (s0 : Int32) : Option (Sg × Int32) := some (σ, s0)
set_option maxRecDepth 10000 in
set_option maxHeartbeats 4000000 in
theorem bt_Shm_part_292 {p : Program} {l : Launch} {e : Env} {R : Room} {s : State} {m : MethodId} {args : Array Value} {below : List Frame} {meth : Method} {c : Code} {D : va_G} {τ : ClassId × ClassId × ClassId} {B : Nat} {A : Nat → Prop} {ad : Nat → Nat} (E : Cx p R s m args meth c prog_18_method_25_code 7 "DrawingMachineModel$ShaderMachineModel" 10 D τ B A) (hret : meth.sig.returnType = (some .int)) (o : Sg × Int32) (σ : Sg) (s0 : Int32) (h : F_Shm_part_292 σ s0 = some o) {H : Heap} {locs : List Loc} {ls : Array Slot} (w : Wd s D A (wdM τ σ ad) H locs) (hl : lv_has ls 7 []) : W p l e R s m args below meth c H locs 0 0 (QI below args s A D τ (wdM τ o.1 ad) o.2) (F0 m 292 ls [.int s0]) := by
  obtain rfl := Option.some.inj h
  exact rt_i E w hret d_Shm_part_292
def F_Shm_part (σ : Sg) (p0 : Nat) (x0 : Int32) (x1 : Int32) : Option (Sg × Int32) := ck (p0 < 2) (ck (inb x1 (lenM σ (20 + 10 * p0))) (lt (σ.2.2.1 (20 + 10 * p0) x1.toNatClampNeg) (fun y61 => ck (inb (4 + x1) (lenM σ (20 + 10 * p0))) (lt (σ.2.2.1 (20 + 10 * p0) (4 + x1).toNatClampNeg) (fun y63 => ck (inb (8 + x1) (lenM σ (20 + 10 * p0))) (lt (σ.2.2.1 (20 + 10 * p0) (8 + x1).toNatClampNeg) (fun y65 => ck (inb 0 (lenM σ (20 + 10 * p0))) (lt (σ.2.2.1 (20 + 10 * p0) 0) (fun y67 => if x0 = 1 then (some (σ, y61)) else (if x0 = 2 then (some (σ, y61 + y63)) else (if x0 = 3 then (some (σ, y61 - y63)) else (if x0 = 4 then (bd (F_Shm_product y61 y63) (fun o72 => some (σ, o72))) else (if x0 = 5 then (bd (F_Shm_product y61 y63) (fun o74 => some (σ, o74 + y65))) else (if x0 = 6 then (ck (inb 0 (lenM σ (20 + 10 * p0))) (ck (inb 4 (lenM σ (20 + 10 * p0))) (bd (F_Shm_product (σ.2.2.1 (20 + 10 * p0) 0) (σ.2.2.1 (20 + 10 * p0) 4)) (fun o78 => ck (inb 1 (lenM σ (20 + 10 * p0))) (ck (inb 5 (lenM σ (20 + 10 * p0))) (bd (F_Shm_product (σ.2.2.1 (20 + 10 * p0) 1) (σ.2.2.1 (20 + 10 * p0) 5)) (fun o81 => ck (inb 2 (lenM σ (20 + 10 * p0))) (ck (inb 6 (lenM σ (20 + 10 * p0))) (bd (F_Shm_product (σ.2.2.1 (20 + 10 * p0) 2) (σ.2.2.1 (20 + 10 * p0) 6)) (fun o84 => some (σ, (o78 + o81) + o84))))))))))) else (if x0 = 7 then (ck (inb 0 (lenM σ (20 + 10 * p0))) (ck (inb 4 (lenM σ (20 + 10 * p0))) (bd (F_Shm_product (σ.2.2.1 (20 + 10 * p0) 0) (σ.2.2.1 (20 + 10 * p0) 4)) (fun o88 => ck (inb 1 (lenM σ (20 + 10 * p0))) (ck (inb 5 (lenM σ (20 + 10 * p0))) (bd (F_Shm_product (σ.2.2.1 (20 + 10 * p0) 1) (σ.2.2.1 (20 + 10 * p0) 5)) (fun o91 => ck (inb 2 (lenM σ (20 + 10 * p0))) (ck (inb 6 (lenM σ (20 + 10 * p0))) (bd (F_Shm_product (σ.2.2.1 (20 + 10 * p0) 2) (σ.2.2.1 (20 + 10 * p0) 6)) (fun o94 => ck (inb 3 (lenM σ (20 + 10 * p0))) (ck (inb 7 (lenM σ (20 + 10 * p0))) (bd (F_Shm_product (σ.2.2.1 (20 + 10 * p0) 3) (σ.2.2.1 (20 + 10 * p0) 7)) (fun o97 => some (σ, ((o88 + o91) + o94) + o97)))))))))))))) else (if x0 = 8 then (if y63 ≤ y61 then (F_Shm_part_292 σ y63) else (F_Shm_part_292 σ y61)) else (if x0 = 9 then (if y61 ≤ y63 then (F_Shm_part_305 σ y63) else (F_Shm_part_305 σ y61)) else (if x0 = 10 then (if y61 = (-2147483648) then (F_Shm_part_327 σ 2147483647) else (if 0 ≤ y61 then (F_Shm_part_327 σ y61) else (F_Shm_part_327 σ (-y61)))) else (if x0 = 11 then (some (σ, y61 &&& (-65536))) else (if x0 = 12 then (some (σ, y61 &&& 65535)) else (if x0 = 13 then (bd (F_Shm_oneBy y67) (fun o104 => some (σ, o104))) else (if x0 = 14 then (if 0 < y67 then (ck (¬ y67.toInt64 = 0) (bd (F_Shm_greatest (281474976710656 / y67.toInt64)) (fun o107 => F_Shm_part_364 σ o107))) else (F_Shm_part_364 σ 2147483647)) else (if x0 = 15 then (if 0 ≤ y67 then (bd (F_Shm_greatest (65536 * y67.toInt64)) (fun o109 => F_Shm_part_384 σ o109)) else (F_Shm_part_384 σ 0)) else (if x0 = 16 then (if y63 ≤ y61 then (F_Shm_part_397 σ 0) else (F_Shm_part_397 σ 65536)) else (if x0 = 17 then (if y63 ≤ y61 then (F_Shm_part_410 σ 65536) else (F_Shm_part_410 σ 0)) else (if x0 = 18 then (if y61 = y63 then (F_Shm_part_423 σ 65536) else (F_Shm_part_423 σ 0)) else (if x0 = 19 then (if y61 = y63 then (F_Shm_part_436 σ 0) else (F_Shm_part_436 σ 65536)) else (if x0 = 20 then (if y61 < 0 then (F_Shm_part_448 σ y65) else (F_Shm_part_448 σ y63)) else (if x0 = 21 then (bd (F_Shm_product y61 (y63 - y65)) (fun o116 => some (σ, o116 + y65))) else (bd (F_Shm_more σ p0 x0 x1) (fun o117 => some (o117.1, o117.2))))))))))))))))))))))))))))))))
set_option maxRecDepth 10000 in
set_option maxHeartbeats 4000000 in
theorem c_Shm_part (l : Launch) (D : va_G) (τ : ClassId × ClassId × ClassId) (B : Nat) (σ : Sg) (ad : Nat → Nat) (p0 : Nat) (x0 : Int32) (x1 : Int32) (o : Sg × Int32) (h : F_Shm_part σ p0 x0 x1 = some o) : MI l y_Shm_part (Cond.code y_Shm_part prog_18_method_25_code 7 (some .int)) 10 D τ B [.ref (ad (65 + p0)), .int x0, .int x1] (wdM τ σ ad) (wdM τ o.1 ad) o.2 := by
  refine en_i (by decide) (Nat.le_of_ble_eq_true rfl) ?_
  intro p e R s m args below meth c H locs ls A E hret w hl
  have E : Cx p R s m args meth c prog_18_method_25_code 7 "DrawingMachineModel$ShaderMachineModel" 10 D τ B A := E
  have hl : lv_has ls 7 [(0, .ref (ad (65 + p0))), (1, .int x0), (2, .int x1)] := hl
  obtain ⟨c59, h⟩ := ck_some h
  refine lv_aload_n E.x E.b d_Shm_part_0 rfl (lv_at hl 0 rfl) ?_
  refine gM_Shm_read E w (pid := p0) c59 k1571 d_Shm_part_1 ?_
  refine lv_iload_n E.x E.b d_Shm_part_4 rfl (lv_at hl 2 rfl) ?_
  obtain ⟨c60, h⟩ := ck_some h
  refine ialM E w (k := (20 + 10 * p0)) (by omega) c60 d_Shm_part_5 ?_
  obtain ⟨y61, e_y61, h⟩ := lt_some h
  refine wi_e (v := y61) e_y61 ?_
  refine lv_istore_n (lv' := [(3, .int y61), (0, .ref (ad (65 + p0))), (1, .int x0), (2, .int x1)]) E.x E.b d_Shm_part_6 rfl hl (by decide) rfl (fun ls hl => ?_)
  refine lv_aload_n E.x E.b d_Shm_part_7 rfl (lv_at hl 1 rfl) ?_
  refine gM_Shm_read E w (pid := p0) c59 k1571 d_Shm_part_8 ?_
  refine lv_iconst (v := 4) E.x E.b d_Shm_part_11 (by decide) ?_
  refine lv_iload_n E.x E.b d_Shm_part_12 rfl (lv_at hl 3 rfl) ?_
  refine lv_iadd E.x E.b d_Shm_part_13 ?_
  obtain ⟨c62, h⟩ := ck_some h
  refine ialM E w (k := (20 + 10 * p0)) (by omega) c62 d_Shm_part_14 ?_
  obtain ⟨y63, e_y63, h⟩ := lt_some h
  refine wi_e (v := y63) e_y63 ?_
  refine lv_istore (lv' := [(4, .int y63), (3, .int y61), (0, .ref (ad (65 + p0))), (1, .int x0), (2, .int x1)]) E.x E.b d_Shm_part_15 hl (by decide) rfl (fun ls hl => ?_)
  refine lv_aload_n E.x E.b d_Shm_part_17 rfl (lv_at hl 2 rfl) ?_
  refine gM_Shm_read E w (pid := p0) c59 k1571 d_Shm_part_18 ?_
  refine lv_bipush (v := 8) E.x E.b d_Shm_part_21 (by decide) ?_
  refine lv_iload_n E.x E.b d_Shm_part_23 rfl (lv_at hl 4 rfl) ?_
  refine lv_iadd E.x E.b d_Shm_part_24 ?_
  obtain ⟨c64, h⟩ := ck_some h
  refine ialM E w (k := (20 + 10 * p0)) (by omega) c64 d_Shm_part_25 ?_
  obtain ⟨y65, e_y65, h⟩ := lt_some h
  refine wi_e (v := y65) e_y65 ?_
  refine lv_istore (lv' := [(5, .int y65), (4, .int y63), (3, .int y61), (0, .ref (ad (65 + p0))), (1, .int x0), (2, .int x1)]) E.x E.b d_Shm_part_26 hl (by decide) rfl (fun ls hl => ?_)
  refine lv_aload_n E.x E.b d_Shm_part_28 rfl (lv_at hl 3 rfl) ?_
  refine gM_Shm_read E w (pid := p0) c59 k1571 d_Shm_part_29 ?_
  refine lv_iconst (v := 0) E.x E.b d_Shm_part_32 (by decide) ?_
  obtain ⟨c66, h⟩ := ck_some h
  refine ialM E w (k := (20 + 10 * p0)) (by omega) c66 d_Shm_part_33 ?_
  refine wi_e (v := σ.2.2.1 (20 + 10 * p0) 0) rfl ?_
  obtain ⟨y67, e_y67, h⟩ := lt_some h
  refine wi_e (v := y67) e_y67 ?_
  refine lv_istore (lv' := [(6, .int y67), (5, .int y65), (4, .int y63), (3, .int y61), (0, .ref (ad (65 + p0))), (1, .int x0), (2, .int x1)]) E.x E.b d_Shm_part_34 hl (by decide) rfl (fun ls hl => ?_)
  refine lv_iload_n E.x E.b d_Shm_part_36 rfl (lv_at hl 5 rfl) ?_
  by_cases q68 : x0 = 1
  ·
    replace h := ifT q68 h
    refine wi_e (v := 1) q68 ?_
    refine lv_tableIn (off := 99) (tgt := 136) E.x E.b d_Shm_part_37 (by decide) (by decide) (by decide) (by decide) ?_
    refine lv_iload_n E.x E.b d_Shm_part_136 rfl (lv_at hl 3 rfl) ?_
    obtain rfl := Option.some.inj h
    exact rt_i E w hret d_Shm_part_137
  replace h := ifF q68 h
  replace q68 := ne_ti (k := 1) (by decide) q68
  by_cases q69 : x0 = 2
  ·
    replace h := ifT q69 h
    refine wi_e (v := 2) q69 ?_
    refine lv_tableIn (off := 101) (tgt := 138) E.x E.b d_Shm_part_37 (by decide) (by decide) (by decide) (by decide) ?_
    refine lv_iload_n E.x E.b d_Shm_part_138 rfl (lv_at hl 3 rfl) ?_
    refine lv_iload E.x E.b d_Shm_part_139 (lv_at hl 2 rfl) ?_
    refine lv_iadd E.x E.b d_Shm_part_141 ?_
    obtain rfl := Option.some.inj h
    exact rt_i E w hret d_Shm_part_142
  replace h := ifF q69 h
  replace q69 := ne_ti (k := 2) (by decide) q69
  by_cases q70 : x0 = 3
  ·
    replace h := ifT q70 h
    refine wi_e (v := 3) q70 ?_
    refine lv_tableIn (off := 106) (tgt := 143) E.x E.b d_Shm_part_37 (by decide) (by decide) (by decide) (by decide) ?_
    refine lv_iload_n E.x E.b d_Shm_part_143 rfl (lv_at hl 3 rfl) ?_
    refine lv_iload E.x E.b d_Shm_part_144 (lv_at hl 2 rfl) ?_
    refine lv_isub E.x E.b d_Shm_part_146 ?_
    obtain rfl := Option.some.inj h
    exact rt_i E w hret d_Shm_part_147
  replace h := ifF q70 h
  replace q70 := ne_ti (k := 3) (by decide) q70
  by_cases q71 : x0 = 4
  ·
    replace h := ifT q71 h
    refine wi_e (v := 4) q71 ?_
    refine lv_tableIn (off := 111) (tgt := 148) E.x E.b d_Shm_part_37 (by decide) (by decide) (by decide) (by decide) ?_
    refine lv_iload_n E.x E.b d_Shm_part_148 rfl (lv_at hl 3 rfl) ?_
    refine lv_iload E.x E.b d_Shm_part_149 (lv_at hl 2 rfl) ?_
    obtain ⟨o72, h_o72, h⟩ := bd_some h
    refine clS_Shm_product E w (x0 := y61) (x1 := y63) h_o72 k2210 (by decide) hl.1 (Nat.le_of_ble_eq_true rfl) d_Shm_part_151 (fun H locs w => ?_)
    obtain rfl := Option.some.inj h
    exact rt_i E w hret d_Shm_part_154
  replace h := ifF q71 h
  replace q71 := ne_ti (k := 4) (by decide) q71
  by_cases q73 : x0 = 5
  ·
    replace h := ifT q73 h
    refine wi_e (v := 5) q73 ?_
    refine lv_tableIn (off := 118) (tgt := 155) E.x E.b d_Shm_part_37 (by decide) (by decide) (by decide) (by decide) ?_
    refine lv_iload_n E.x E.b d_Shm_part_155 rfl (lv_at hl 3 rfl) ?_
    refine lv_iload E.x E.b d_Shm_part_156 (lv_at hl 2 rfl) ?_
    obtain ⟨o74, h_o74, h⟩ := bd_some h
    refine clS_Shm_product E w (x0 := y61) (x1 := y63) h_o74 k2210 (by decide) hl.1 (Nat.le_of_ble_eq_true rfl) d_Shm_part_158 (fun H locs w => ?_)
    refine lv_iload E.x E.b d_Shm_part_161 (lv_at hl 1 rfl) ?_
    refine lv_iadd E.x E.b d_Shm_part_163 ?_
    obtain rfl := Option.some.inj h
    exact rt_i E w hret d_Shm_part_164
  replace h := ifF q73 h
  replace q73 := ne_ti (k := 5) (by decide) q73
  by_cases q75 : x0 = 6
  ·
    replace h := ifT q75 h
    refine wi_e (v := 6) q75 ?_
    refine lv_tableIn (off := 128) (tgt := 165) E.x E.b d_Shm_part_37 (by decide) (by decide) (by decide) (by decide) ?_
    refine lv_aload_n E.x E.b d_Shm_part_165 rfl (lv_at hl 4 rfl) ?_
    refine gM_Shm_read E w (pid := p0) c59 k1571 d_Shm_part_166 ?_
    refine lv_iconst (v := 0) E.x E.b d_Shm_part_169 (by decide) ?_
    obtain ⟨c76, h⟩ := ck_some h
    refine ialM E w (k := (20 + 10 * p0)) (by omega) c76 d_Shm_part_170 ?_
    refine wi_e (v := σ.2.2.1 (20 + 10 * p0) 0) rfl ?_
    refine lv_aload_n E.x E.b d_Shm_part_171 rfl (lv_at hl 4 rfl) ?_
    refine gM_Shm_read E w (pid := p0) c59 k1571 d_Shm_part_172 ?_
    refine lv_iconst (v := 4) E.x E.b d_Shm_part_175 (by decide) ?_
    obtain ⟨c77, h⟩ := ck_some h
    refine ialM E w (k := (20 + 10 * p0)) (by omega) c77 d_Shm_part_176 ?_
    refine wi_e (v := σ.2.2.1 (20 + 10 * p0) 4) rfl ?_
    obtain ⟨o78, h_o78, h⟩ := bd_some h
    refine clS_Shm_product E w (x0 := (σ.2.2.1 (20 + 10 * p0) 0)) (x1 := (σ.2.2.1 (20 + 10 * p0) 4)) h_o78 k2210 (by decide) hl.1 (Nat.le_of_ble_eq_true rfl) d_Shm_part_177 (fun H locs w => ?_)
    refine lv_aload_n E.x E.b d_Shm_part_180 rfl (lv_at hl 4 rfl) ?_
    refine gM_Shm_read E w (pid := p0) c59 k1571 d_Shm_part_181 ?_
    refine lv_iconst (v := 1) E.x E.b d_Shm_part_184 (by decide) ?_
    obtain ⟨c79, h⟩ := ck_some h
    refine ialM E w (k := (20 + 10 * p0)) (by omega) c79 d_Shm_part_185 ?_
    refine wi_e (v := σ.2.2.1 (20 + 10 * p0) 1) rfl ?_
    refine lv_aload_n E.x E.b d_Shm_part_186 rfl (lv_at hl 4 rfl) ?_
    refine gM_Shm_read E w (pid := p0) c59 k1571 d_Shm_part_187 ?_
    refine lv_iconst (v := 5) E.x E.b d_Shm_part_190 (by decide) ?_
    obtain ⟨c80, h⟩ := ck_some h
    refine ialM E w (k := (20 + 10 * p0)) (by omega) c80 d_Shm_part_191 ?_
    refine wi_e (v := σ.2.2.1 (20 + 10 * p0) 5) rfl ?_
    obtain ⟨o81, h_o81, h⟩ := bd_some h
    refine clS_Shm_product E w (x0 := (σ.2.2.1 (20 + 10 * p0) 1)) (x1 := (σ.2.2.1 (20 + 10 * p0) 5)) h_o81 k2210 (by decide) hl.1 (Nat.le_of_ble_eq_true rfl) d_Shm_part_192 (fun H locs w => ?_)
    refine lv_iadd E.x E.b d_Shm_part_195 ?_
    refine lv_aload_n E.x E.b d_Shm_part_196 rfl (lv_at hl 4 rfl) ?_
    refine gM_Shm_read E w (pid := p0) c59 k1571 d_Shm_part_197 ?_
    refine lv_iconst (v := 2) E.x E.b d_Shm_part_200 (by decide) ?_
    obtain ⟨c82, h⟩ := ck_some h
    refine ialM E w (k := (20 + 10 * p0)) (by omega) c82 d_Shm_part_201 ?_
    refine wi_e (v := σ.2.2.1 (20 + 10 * p0) 2) rfl ?_
    refine lv_aload_n E.x E.b d_Shm_part_202 rfl (lv_at hl 4 rfl) ?_
    refine gM_Shm_read E w (pid := p0) c59 k1571 d_Shm_part_203 ?_
    refine lv_bipush (v := 6) E.x E.b d_Shm_part_206 (by decide) ?_
    obtain ⟨c83, h⟩ := ck_some h
    refine ialM E w (k := (20 + 10 * p0)) (by omega) c83 d_Shm_part_208 ?_
    refine wi_e (v := σ.2.2.1 (20 + 10 * p0) 6) rfl ?_
    obtain ⟨o84, h_o84, h⟩ := bd_some h
    refine clS_Shm_product E w (x0 := (σ.2.2.1 (20 + 10 * p0) 2)) (x1 := (σ.2.2.1 (20 + 10 * p0) 6)) h_o84 k2210 (by decide) hl.1 (Nat.le_of_ble_eq_true rfl) d_Shm_part_209 (fun H locs w => ?_)
    refine lv_iadd E.x E.b d_Shm_part_212 ?_
    obtain rfl := Option.some.inj h
    exact rt_i E w hret d_Shm_part_213
  replace h := ifF q75 h
  replace q75 := ne_ti (k := 6) (by decide) q75
  by_cases q85 : x0 = 7
  ·
    replace h := ifT q85 h
    refine wi_e (v := 7) q85 ?_
    refine lv_tableIn (off := 177) (tgt := 214) E.x E.b d_Shm_part_37 (by decide) (by decide) (by decide) (by decide) ?_
    refine lv_aload_n E.x E.b d_Shm_part_214 rfl (lv_at hl 4 rfl) ?_
    refine gM_Shm_read E w (pid := p0) c59 k1571 d_Shm_part_215 ?_
    refine lv_iconst (v := 0) E.x E.b d_Shm_part_218 (by decide) ?_
    obtain ⟨c86, h⟩ := ck_some h
    refine ialM E w (k := (20 + 10 * p0)) (by omega) c86 d_Shm_part_219 ?_
    refine wi_e (v := σ.2.2.1 (20 + 10 * p0) 0) rfl ?_
    refine lv_aload_n E.x E.b d_Shm_part_220 rfl (lv_at hl 4 rfl) ?_
    refine gM_Shm_read E w (pid := p0) c59 k1571 d_Shm_part_221 ?_
    refine lv_iconst (v := 4) E.x E.b d_Shm_part_224 (by decide) ?_
    obtain ⟨c87, h⟩ := ck_some h
    refine ialM E w (k := (20 + 10 * p0)) (by omega) c87 d_Shm_part_225 ?_
    refine wi_e (v := σ.2.2.1 (20 + 10 * p0) 4) rfl ?_
    obtain ⟨o88, h_o88, h⟩ := bd_some h
    refine clS_Shm_product E w (x0 := (σ.2.2.1 (20 + 10 * p0) 0)) (x1 := (σ.2.2.1 (20 + 10 * p0) 4)) h_o88 k2210 (by decide) hl.1 (Nat.le_of_ble_eq_true rfl) d_Shm_part_226 (fun H locs w => ?_)
    refine lv_aload_n E.x E.b d_Shm_part_229 rfl (lv_at hl 4 rfl) ?_
    refine gM_Shm_read E w (pid := p0) c59 k1571 d_Shm_part_230 ?_
    refine lv_iconst (v := 1) E.x E.b d_Shm_part_233 (by decide) ?_
    obtain ⟨c89, h⟩ := ck_some h
    refine ialM E w (k := (20 + 10 * p0)) (by omega) c89 d_Shm_part_234 ?_
    refine wi_e (v := σ.2.2.1 (20 + 10 * p0) 1) rfl ?_
    refine lv_aload_n E.x E.b d_Shm_part_235 rfl (lv_at hl 4 rfl) ?_
    refine gM_Shm_read E w (pid := p0) c59 k1571 d_Shm_part_236 ?_
    refine lv_iconst (v := 5) E.x E.b d_Shm_part_239 (by decide) ?_
    obtain ⟨c90, h⟩ := ck_some h
    refine ialM E w (k := (20 + 10 * p0)) (by omega) c90 d_Shm_part_240 ?_
    refine wi_e (v := σ.2.2.1 (20 + 10 * p0) 5) rfl ?_
    obtain ⟨o91, h_o91, h⟩ := bd_some h
    refine clS_Shm_product E w (x0 := (σ.2.2.1 (20 + 10 * p0) 1)) (x1 := (σ.2.2.1 (20 + 10 * p0) 5)) h_o91 k2210 (by decide) hl.1 (Nat.le_of_ble_eq_true rfl) d_Shm_part_241 (fun H locs w => ?_)
    refine lv_iadd E.x E.b d_Shm_part_244 ?_
    refine lv_aload_n E.x E.b d_Shm_part_245 rfl (lv_at hl 4 rfl) ?_
    refine gM_Shm_read E w (pid := p0) c59 k1571 d_Shm_part_246 ?_
    refine lv_iconst (v := 2) E.x E.b d_Shm_part_249 (by decide) ?_
    obtain ⟨c92, h⟩ := ck_some h
    refine ialM E w (k := (20 + 10 * p0)) (by omega) c92 d_Shm_part_250 ?_
    refine wi_e (v := σ.2.2.1 (20 + 10 * p0) 2) rfl ?_
    refine lv_aload_n E.x E.b d_Shm_part_251 rfl (lv_at hl 4 rfl) ?_
    refine gM_Shm_read E w (pid := p0) c59 k1571 d_Shm_part_252 ?_
    refine lv_bipush (v := 6) E.x E.b d_Shm_part_255 (by decide) ?_
    obtain ⟨c93, h⟩ := ck_some h
    refine ialM E w (k := (20 + 10 * p0)) (by omega) c93 d_Shm_part_257 ?_
    refine wi_e (v := σ.2.2.1 (20 + 10 * p0) 6) rfl ?_
    obtain ⟨o94, h_o94, h⟩ := bd_some h
    refine clS_Shm_product E w (x0 := (σ.2.2.1 (20 + 10 * p0) 2)) (x1 := (σ.2.2.1 (20 + 10 * p0) 6)) h_o94 k2210 (by decide) hl.1 (Nat.le_of_ble_eq_true rfl) d_Shm_part_258 (fun H locs w => ?_)
    refine lv_iadd E.x E.b d_Shm_part_261 ?_
    refine lv_aload_n E.x E.b d_Shm_part_262 rfl (lv_at hl 4 rfl) ?_
    refine gM_Shm_read E w (pid := p0) c59 k1571 d_Shm_part_263 ?_
    refine lv_iconst (v := 3) E.x E.b d_Shm_part_266 (by decide) ?_
    obtain ⟨c95, h⟩ := ck_some h
    refine ialM E w (k := (20 + 10 * p0)) (by omega) c95 d_Shm_part_267 ?_
    refine wi_e (v := σ.2.2.1 (20 + 10 * p0) 3) rfl ?_
    refine lv_aload_n E.x E.b d_Shm_part_268 rfl (lv_at hl 4 rfl) ?_
    refine gM_Shm_read E w (pid := p0) c59 k1571 d_Shm_part_269 ?_
    refine lv_bipush (v := 7) E.x E.b d_Shm_part_272 (by decide) ?_
    obtain ⟨c96, h⟩ := ck_some h
    refine ialM E w (k := (20 + 10 * p0)) (by omega) c96 d_Shm_part_274 ?_
    refine wi_e (v := σ.2.2.1 (20 + 10 * p0) 7) rfl ?_
    obtain ⟨o97, h_o97, h⟩ := bd_some h
    refine clS_Shm_product E w (x0 := (σ.2.2.1 (20 + 10 * p0) 3)) (x1 := (σ.2.2.1 (20 + 10 * p0) 7)) h_o97 k2210 (by decide) hl.1 (Nat.le_of_ble_eq_true rfl) d_Shm_part_275 (fun H locs w => ?_)
    refine lv_iadd E.x E.b d_Shm_part_278 ?_
    obtain rfl := Option.some.inj h
    exact rt_i E w hret d_Shm_part_279
  replace h := ifF q85 h
  replace q85 := ne_ti (k := 7) (by decide) q85
  by_cases q98 : x0 = 8
  ·
    replace h := ifT q98 h
    refine wi_e (v := 8) q98 ?_
    refine lv_tableIn (off := 243) (tgt := 280) E.x E.b d_Shm_part_37 (by decide) (by decide) (by decide) (by decide) ?_
    refine lv_iload_n E.x E.b d_Shm_part_280 rfl (lv_at hl 3 rfl) ?_
    refine lv_iload E.x E.b d_Shm_part_281 (lv_at hl 2 rfl) ?_
    refine lv_icmp_ge (tgt := 290) E.x E.b d_Shm_part_283 (by decide) (fun c => ?_) (fun c => ?_)
    ·
      replace h := ifT c h
      refine lv_iload E.x E.b d_Shm_part_290 (lv_at hl 2 rfl) ?_
      exact bt_Shm_part_292 E hret o σ y63 h w (lv_sub hl [] rfl)
    ·
      replace h := ifF c h
      refine lv_iload_n E.x E.b d_Shm_part_286 rfl (lv_at hl 3 rfl) ?_
      refine lv_goto (tgt := 292) E.x E.b d_Shm_part_287 (by decide) ?_
      exact bt_Shm_part_292 E hret o σ y61 h w (lv_sub hl [] rfl)
  replace h := ifF q98 h
  replace q98 := ne_ti (k := 8) (by decide) q98
  by_cases q99 : x0 = 9
  ·
    replace h := ifT q99 h
    refine wi_e (v := 9) q99 ?_
    refine lv_tableIn (off := 256) (tgt := 293) E.x E.b d_Shm_part_37 (by decide) (by decide) (by decide) (by decide) ?_
    refine lv_iload_n E.x E.b d_Shm_part_293 rfl (lv_at hl 3 rfl) ?_
    refine lv_iload E.x E.b d_Shm_part_294 (lv_at hl 2 rfl) ?_
    refine lv_icmp_le (tgt := 303) E.x E.b d_Shm_part_296 (by decide) (fun c => ?_) (fun c => ?_)
    ·
      replace h := ifT c h
      refine lv_iload E.x E.b d_Shm_part_303 (lv_at hl 2 rfl) ?_
      exact bt_Shm_part_305 E hret o σ y63 h w (lv_sub hl [] rfl)
    ·
      replace h := ifF c h
      refine lv_iload_n E.x E.b d_Shm_part_299 rfl (lv_at hl 3 rfl) ?_
      refine lv_goto (tgt := 305) E.x E.b d_Shm_part_300 (by decide) ?_
      exact bt_Shm_part_305 E hret o σ y61 h w (lv_sub hl [] rfl)
  replace h := ifF q99 h
  replace q99 := ne_ti (k := 9) (by decide) q99
  by_cases q100 : x0 = 10
  ·
    replace h := ifT q100 h
    refine wi_e (v := 10) q100 ?_
    refine lv_tableIn (off := 269) (tgt := 306) E.x E.b d_Shm_part_37 (by decide) (by decide) (by decide) (by decide) ?_
    refine lv_iload_n E.x E.b d_Shm_part_306 rfl (lv_at hl 3 rfl) ?_
    refine lv_ldc (v := (-2147483648)) E.x E.b E.o (E.w _ k2213) d_Shm_part_307 ?_
    refine lv_icmp_ne (tgt := 317) E.x E.b d_Shm_part_309 (by decide) (fun c => ?_) (fun c => ?_)
    ·
      replace h := ifF c h
      refine lv_iload_n E.x E.b d_Shm_part_317 rfl (lv_at hl 3 rfl) ?_
      refine lv_if_ge (tgt := 326) E.x E.b d_Shm_part_318 (by decide) (fun c => ?_) (fun c => ?_)
      ·
        replace h := ifT c h
        refine lv_iload_n E.x E.b d_Shm_part_326 rfl (lv_at hl 3 rfl) ?_
        exact bt_Shm_part_327 E hret o σ y61 h w (lv_sub hl [] rfl)
      ·
        replace h := ifF c h
        refine lv_iload_n E.x E.b d_Shm_part_321 rfl (lv_at hl 3 rfl) ?_
        refine lv_ineg E.x E.b d_Shm_part_322 ?_
        refine lv_goto (tgt := 327) E.x E.b d_Shm_part_323 (by decide) ?_
        exact bt_Shm_part_327 E hret o σ (-y61) h w (lv_sub hl [] rfl)
    ·
      replace h := ifT c h
      refine lv_ldc (v := 2147483647) E.x E.b E.o (E.w _ k2214) d_Shm_part_312 ?_
      refine lv_goto (tgt := 327) E.x E.b d_Shm_part_314 (by decide) ?_
      exact bt_Shm_part_327 E hret o σ 2147483647 h w (lv_sub hl [] rfl)
  replace h := ifF q100 h
  replace q100 := ne_ti (k := 10) (by decide) q100
  by_cases q101 : x0 = 11
  ·
    replace h := ifT q101 h
    refine wi_e (v := 11) q101 ?_
    refine lv_tableIn (off := 291) (tgt := 328) E.x E.b d_Shm_part_37 (by decide) (by decide) (by decide) (by decide) ?_
    refine lv_iload_n E.x E.b d_Shm_part_328 rfl (lv_at hl 3 rfl) ?_
    refine lv_ldc (v := (-65536)) E.x E.b E.o (E.w _ k2215) d_Shm_part_329 ?_
    refine lv_iand E.x E.b d_Shm_part_331 ?_
    obtain rfl := Option.some.inj h
    exact rt_i E w hret d_Shm_part_332
  replace h := ifF q101 h
  replace q101 := ne_ti (k := 11) (by decide) q101
  by_cases q102 : x0 = 12
  ·
    replace h := ifT q102 h
    refine wi_e (v := 12) q102 ?_
    refine lv_tableIn (off := 296) (tgt := 333) E.x E.b d_Shm_part_37 (by decide) (by decide) (by decide) (by decide) ?_
    refine lv_iload_n E.x E.b d_Shm_part_333 rfl (lv_at hl 3 rfl) ?_
    refine lv_ldc (v := 65535) E.x E.b E.o (E.w _ k2117) d_Shm_part_334 ?_
    refine lv_iand E.x E.b d_Shm_part_336 ?_
    obtain rfl := Option.some.inj h
    exact rt_i E w hret d_Shm_part_337
  replace h := ifF q102 h
  replace q102 := ne_ti (k := 12) (by decide) q102
  by_cases q103 : x0 = 13
  ·
    replace h := ifT q103 h
    refine wi_e (v := 13) q103 ?_
    refine lv_tableIn (off := 301) (tgt := 338) E.x E.b d_Shm_part_37 (by decide) (by decide) (by decide) (by decide) ?_
    refine lv_iload E.x E.b d_Shm_part_338 (lv_at hl 0 rfl) ?_
    obtain ⟨o104, h_o104, h⟩ := bd_some h
    refine clS_Shm_oneBy E w (x0 := y67) h_o104 k2216 (by decide) hl.1 (Nat.le_of_ble_eq_true rfl) d_Shm_part_340 (fun H locs w => ?_)
    obtain rfl := Option.some.inj h
    exact rt_i E w hret d_Shm_part_343
  replace h := ifF q103 h
  replace q103 := ne_ti (k := 13) (by decide) q103
  by_cases q105 : x0 = 14
  ·
    replace h := ifT q105 h
    refine wi_e (v := 14) q105 ?_
    refine lv_tableIn (off := 307) (tgt := 344) E.x E.b d_Shm_part_37 (by decide) (by decide) (by decide) (by decide) ?_
    refine lv_iload E.x E.b d_Shm_part_344 (lv_at hl 0 rfl) ?_
    refine lv_if_gt (tgt := 354) E.x E.b d_Shm_part_346 (by decide) (fun c => ?_) (fun c => ?_)
    ·
      replace h := ifT c h
      refine lv_ldc2 (v := 281474976710656) E.x E.b E.o (E.w _ k2222) d_Shm_part_354 ?_
      refine lv_iload E.x E.b d_Shm_part_357 (lv_at hl 0 rfl) ?_
      refine lv_i2l (v := y67.toInt64) E.x E.b d_Shm_part_359 rfl ?_
      obtain ⟨c106, h⟩ := ck_some h
      refine lv_ldiv E.x E.b d_Shm_part_360 c106 ?_
      obtain ⟨o107, h_o107, h⟩ := bd_some h
      refine clS_Shm_greatest E w (x0 := (281474976710656 / y67.toInt64)) h_o107 k2223 (by decide) hl.1 (Nat.le_of_ble_eq_true rfl) d_Shm_part_361 (fun H locs w => ?_)
      exact bt_Shm_part_364 E hret o σ o107 h w (lv_sub hl [] rfl)
    ·
      replace h := ifF c h
      refine lv_ldc (v := 2147483647) E.x E.b E.o (E.w _ k2214) d_Shm_part_349 ?_
      refine lv_goto (tgt := 364) E.x E.b d_Shm_part_351 (by decide) ?_
      exact bt_Shm_part_364 E hret o σ 2147483647 h w (lv_sub hl [] rfl)
  replace h := ifF q105 h
  replace q105 := ne_ti (k := 14) (by decide) q105
  by_cases q108 : x0 = 15
  ·
    replace h := ifT q108 h
    refine wi_e (v := 15) q108 ?_
    refine lv_tableIn (off := 328) (tgt := 365) E.x E.b d_Shm_part_37 (by decide) (by decide) (by decide) (by decide) ?_
    refine lv_iload E.x E.b d_Shm_part_365 (lv_at hl 0 rfl) ?_
    refine lv_if_ge (tgt := 374) E.x E.b d_Shm_part_367 (by decide) (fun c => ?_) (fun c => ?_)
    ·
      replace h := ifT c h
      refine lv_ldc2 (v := 65536) E.x E.b E.o (E.w _ k2143) d_Shm_part_374 ?_
      refine lv_iload E.x E.b d_Shm_part_377 (lv_at hl 0 rfl) ?_
      refine lv_i2l (v := y67.toInt64) E.x E.b d_Shm_part_379 rfl ?_
      refine lv_lmul E.x E.b d_Shm_part_380 ?_
      obtain ⟨o109, h_o109, h⟩ := bd_some h
      refine clS_Shm_greatest E w (x0 := (65536 * y67.toInt64)) h_o109 k2223 (by decide) hl.1 (Nat.le_of_ble_eq_true rfl) d_Shm_part_381 (fun H locs w => ?_)
      exact bt_Shm_part_384 E hret o σ o109 h w (lv_sub hl [] rfl)
    ·
      replace h := ifF c h
      refine lv_iconst (v := 0) E.x E.b d_Shm_part_370 (by decide) ?_
      refine lv_goto (tgt := 384) E.x E.b d_Shm_part_371 (by decide) ?_
      exact bt_Shm_part_384 E hret o σ 0 h w (lv_sub hl [] rfl)
  replace h := ifF q108 h
  replace q108 := ne_ti (k := 15) (by decide) q108
  by_cases q110 : x0 = 16
  ·
    replace h := ifT q110 h
    refine wi_e (v := 16) q110 ?_
    refine lv_tableIn (off := 348) (tgt := 385) E.x E.b d_Shm_part_37 (by decide) (by decide) (by decide) (by decide) ?_
    refine lv_iload_n E.x E.b d_Shm_part_385 rfl (lv_at hl 3 rfl) ?_
    refine lv_iload E.x E.b d_Shm_part_386 (lv_at hl 2 rfl) ?_
    refine lv_icmp_ge (tgt := 396) E.x E.b d_Shm_part_388 (by decide) (fun c => ?_) (fun c => ?_)
    ·
      replace h := ifT c h
      refine lv_iconst (v := 0) E.x E.b d_Shm_part_396 (by decide) ?_
      exact bt_Shm_part_397 E hret o σ 0 h w (lv_sub hl [] rfl)
    ·
      replace h := ifF c h
      refine lv_ldc (v := 65536) E.x E.b E.o (E.w _ k2227) d_Shm_part_391 ?_
      refine lv_goto (tgt := 397) E.x E.b d_Shm_part_393 (by decide) ?_
      exact bt_Shm_part_397 E hret o σ 65536 h w (lv_sub hl [] rfl)
  replace h := ifF q110 h
  replace q110 := ne_ti (k := 16) (by decide) q110
  by_cases q111 : x0 = 17
  ·
    replace h := ifT q111 h
    refine wi_e (v := 17) q111 ?_
    refine lv_tableIn (off := 361) (tgt := 398) E.x E.b d_Shm_part_37 (by decide) (by decide) (by decide) (by decide) ?_
    refine lv_iload_n E.x E.b d_Shm_part_398 rfl (lv_at hl 3 rfl) ?_
    refine lv_iload E.x E.b d_Shm_part_399 (lv_at hl 2 rfl) ?_
    refine lv_icmp_ge (tgt := 408) E.x E.b d_Shm_part_401 (by decide) (fun c => ?_) (fun c => ?_)
    ·
      replace h := ifT c h
      refine lv_ldc (v := 65536) E.x E.b E.o (E.w _ k2227) d_Shm_part_408 ?_
      exact bt_Shm_part_410 E hret o σ 65536 h w (lv_sub hl [] rfl)
    ·
      replace h := ifF c h
      refine lv_iconst (v := 0) E.x E.b d_Shm_part_404 (by decide) ?_
      refine lv_goto (tgt := 410) E.x E.b d_Shm_part_405 (by decide) ?_
      exact bt_Shm_part_410 E hret o σ 0 h w (lv_sub hl [] rfl)
  replace h := ifF q111 h
  replace q111 := ne_ti (k := 17) (by decide) q111
  by_cases q112 : x0 = 18
  ·
    replace h := ifT q112 h
    refine wi_e (v := 18) q112 ?_
    refine lv_tableIn (off := 374) (tgt := 411) E.x E.b d_Shm_part_37 (by decide) (by decide) (by decide) (by decide) ?_
    refine lv_iload_n E.x E.b d_Shm_part_411 rfl (lv_at hl 3 rfl) ?_
    refine lv_iload E.x E.b d_Shm_part_412 (lv_at hl 2 rfl) ?_
    refine lv_icmp_ne (tgt := 422) E.x E.b d_Shm_part_414 (by decide) (fun c => ?_) (fun c => ?_)
    ·
      replace h := ifF c h
      refine lv_iconst (v := 0) E.x E.b d_Shm_part_422 (by decide) ?_
      exact bt_Shm_part_423 E hret o σ 0 h w (lv_sub hl [] rfl)
    ·
      replace h := ifT c h
      refine lv_ldc (v := 65536) E.x E.b E.o (E.w _ k2227) d_Shm_part_417 ?_
      refine lv_goto (tgt := 423) E.x E.b d_Shm_part_419 (by decide) ?_
      exact bt_Shm_part_423 E hret o σ 65536 h w (lv_sub hl [] rfl)
  replace h := ifF q112 h
  replace q112 := ne_ti (k := 18) (by decide) q112
  by_cases q113 : x0 = 19
  ·
    replace h := ifT q113 h
    refine wi_e (v := 19) q113 ?_
    refine lv_tableIn (off := 387) (tgt := 424) E.x E.b d_Shm_part_37 (by decide) (by decide) (by decide) (by decide) ?_
    refine lv_iload_n E.x E.b d_Shm_part_424 rfl (lv_at hl 3 rfl) ?_
    refine lv_iload E.x E.b d_Shm_part_425 (lv_at hl 2 rfl) ?_
    refine lv_icmp_ne (tgt := 434) E.x E.b d_Shm_part_427 (by decide) (fun c => ?_) (fun c => ?_)
    ·
      replace h := ifF c h
      refine lv_ldc (v := 65536) E.x E.b E.o (E.w _ k2227) d_Shm_part_434 ?_
      exact bt_Shm_part_436 E hret o σ 65536 h w (lv_sub hl [] rfl)
    ·
      replace h := ifT c h
      refine lv_iconst (v := 0) E.x E.b d_Shm_part_430 (by decide) ?_
      refine lv_goto (tgt := 436) E.x E.b d_Shm_part_431 (by decide) ?_
      exact bt_Shm_part_436 E hret o σ 0 h w (lv_sub hl [] rfl)
  replace h := ifF q113 h
  replace q113 := ne_ti (k := 19) (by decide) q113
  by_cases q114 : x0 = 20
  ·
    replace h := ifT q114 h
    refine wi_e (v := 20) q114 ?_
    refine lv_tableIn (off := 400) (tgt := 437) E.x E.b d_Shm_part_37 (by decide) (by decide) (by decide) (by decide) ?_
    refine lv_iload_n E.x E.b d_Shm_part_437 rfl (lv_at hl 3 rfl) ?_
    refine lv_if_lt (tgt := 446) E.x E.b d_Shm_part_438 (by decide) (fun c => ?_) (fun c => ?_)
    ·
      replace h := ifT c h
      refine lv_iload E.x E.b d_Shm_part_446 (lv_at hl 1 rfl) ?_
      exact bt_Shm_part_448 E hret o σ y65 h w (lv_sub hl [] rfl)
    ·
      replace h := ifF c h
      refine lv_iload E.x E.b d_Shm_part_441 (lv_at hl 2 rfl) ?_
      refine lv_goto (tgt := 448) E.x E.b d_Shm_part_443 (by decide) ?_
      exact bt_Shm_part_448 E hret o σ y63 h w (lv_sub hl [] rfl)
  replace h := ifF q114 h
  replace q114 := ne_ti (k := 20) (by decide) q114
  by_cases q115 : x0 = 21
  ·
    replace h := ifT q115 h
    refine wi_e (v := 21) q115 ?_
    refine lv_tableIn (off := 412) (tgt := 449) E.x E.b d_Shm_part_37 (by decide) (by decide) (by decide) (by decide) ?_
    refine lv_iload_n E.x E.b d_Shm_part_449 rfl (lv_at hl 3 rfl) ?_
    refine lv_iload E.x E.b d_Shm_part_450 (lv_at hl 2 rfl) ?_
    refine lv_iload E.x E.b d_Shm_part_452 (lv_at hl 1 rfl) ?_
    refine lv_isub E.x E.b d_Shm_part_454 ?_
    obtain ⟨o116, h_o116, h⟩ := bd_some h
    refine clS_Shm_product E w (x0 := y61) (x1 := (y63 - y65)) h_o116 k2210 (by decide) hl.1 (Nat.le_of_ble_eq_true rfl) d_Shm_part_455 (fun H locs w => ?_)
    refine lv_iload E.x E.b d_Shm_part_458 (lv_at hl 1 rfl) ?_
    refine lv_iadd E.x E.b d_Shm_part_460 ?_
    obtain rfl := Option.some.inj h
    exact rt_i E w hret d_Shm_part_461
  replace h := ifF q115 h
  replace q115 := ne_ti (k := 21) (by decide) q115
  refine lv_tableOut (tgt := 462) E.x E.b d_Shm_part_37 (by omega) (by decide) ?_
  refine lv_aload_n E.x E.b d_Shm_part_462 rfl (lv_at hl 4 rfl) ?_
  refine lv_iload_n E.x E.b d_Shm_part_463 rfl (lv_at hl 5 rfl) ?_
  refine lv_iload_n E.x E.b d_Shm_part_464 rfl (lv_at hl 6 rfl) ?_
  obtain ⟨o117, h_o117, h⟩ := bd_some h
  refine clV_Shm_more E w (p0 := p0) (x0 := x0) (x1 := x1) h_o117 k2228 (by decide) hl.1 (Nat.le_of_ble_eq_true rfl) d_Shm_part_465 (fun H locs w => ?_)
  obtain rfl := Option.some.inj h
  exact rt_i E w hret d_Shm_part_468
theorem clV_Shm_part {p : Program} {l : Launch} {e : Env} {R : Room} {s : State} {m : MethodId} {args : Array Value} {below : List Frame} {meth : Method} {c : Code} {H : Heap} {locs : List Loc} {Q : State → Prop} {cc : ByteArray} {nL pc lev : Nat} {own : String} {D : va_G} {τ : ClassId × ClassId × ClassId} {B : Nat} {A : Nat → Prop} {σ : Sg} {ad : Nat → Nat} {ls : Array Slot} {rest : List Value} (E : Cx p R s m args meth c cc nL own lev D τ B A) (w : Wd s D A (wdM τ σ ad) H locs) {p0 : Nat} {x0 : Int32} {x1 : Int32} {o : Sg × Int32} (h : F_Shm_part σ p0 x0 x1 = some o) {index : Nat} (hlk : Cond.methodLink own index y_Shm_part ∈ tw) (hlev : 10 < lev) (hsz : ls.size = nL) (hr : (rest.map fun v => v.category).sum ≤ 8) (hd : decode cc pc = .ok (.invokevirtual index, 3)) (kk : ∀ (H1 : Heap) (locs1 : List Loc), Wd s D A (wdM τ o.1 ad) H1 locs1 → W p l e R s m args below meth c H1 locs1 0 0 Q (F0 m (pc + 3) ls (.int o.2 :: rest))) : W p l e R s m args below meth c H locs 0 0 Q (F0 m pc ls (.int x1 :: .int x0 :: .ref (ad (65 + p0)) :: rest)) :=
  cr_i w E.C (va_runV (As := [.int x0, .int x1]) (rest := rest) E.fix (c_Shm_part l D τ B σ ad p0 x0 x1 o h H.size) (cwV 2 E.w (tw_pre (tw_good k2209) (l := [_, _, _, _]) (List.forall_mem_cons.mpr ⟨hlk, List.forall_mem_cons.mpr ⟨k2208, List.forall_mem_cons.mpr ⟨ks79, List.forall_mem_cons.mpr ⟨k17, fun _ h => absurd h List.not_mem_nil⟩⟩⟩⟩)) rfl rfl rfl (by decide +kernel) (E.rm hlev (by decide))) (wd_preV w E.C [.int x0, .int x1] (rcM_Shm (ck_some h).1) rfl) rfl rfl hsz rfl (lv_room hr) hd ⟨Nat.zero_le _, Nat.zero_le _⟩) kk
