theorem d_Vwm_cut_0 : decode prog_20_method_20_code 0 = .ok (.aload_n 0, 1) := by decide +kernel
theorem d_Vwm_cut_1 : decode prog_20_method_20_code 1 = .ok (.iconst 0, 1) := by decide +kernel
theorem d_Vwm_cut_2 : decode prog_20_method_20_code 2 = .ok (.putfield 86, 3) := by decide +kernel
theorem d_Vwm_cut_5 : decode prog_20_method_20_code 5 = .ok (.iconst 0, 1) := by decide +kernel
theorem d_Vwm_cut_6 : decode prog_20_method_20_code 6 = .ok (.istore_n 2, 1) := by decide +kernel
theorem d_Vwm_cut_7 : decode prog_20_method_20_code 7 = .ok (.iload_n 2, 1) := by decide +kernel
theorem d_Vwm_cut_8 : decode prog_20_method_20_code 8 = .ok (.aload_n 0, 1) := by decide +kernel
theorem d_Vwm_cut_9 : decode prog_20_method_20_code 9 = .ok (.getfield 89, 3) := by decide +kernel
theorem d_Vwm_cut_12 : decode prog_20_method_20_code 12 = .ok (.if_icmp .ge 155, 3) := by decide +kernel
theorem d_Vwm_cut_15 : decode prog_20_method_20_code 15 = .ok (.iload_n 2, 1) := by decide +kernel
theorem d_Vwm_cut_16 : decode prog_20_method_20_code 16 = .ok (.iconst 1, 1) := by decide +kernel
theorem d_Vwm_cut_17 : decode prog_20_method_20_code 17 = .ok (.iadd, 1) := by decide +kernel
theorem d_Vwm_cut_18 : decode prog_20_method_20_code 18 = .ok (.aload_n 0, 1) := by decide +kernel
theorem d_Vwm_cut_19 : decode prog_20_method_20_code 19 = .ok (.getfield 89, 3) := by decide +kernel
theorem d_Vwm_cut_22 : decode prog_20_method_20_code 22 = .ok (.if_icmp .ne 7, 3) := by decide +kernel
theorem d_Vwm_cut_25 : decode prog_20_method_20_code 25 = .ok (.iconst 0, 1) := by decide +kernel
theorem d_Vwm_cut_26 : decode prog_20_method_20_code 26 = .ok (.goto 6, 3) := by decide +kernel
theorem d_Vwm_cut_29 : decode prog_20_method_20_code 29 = .ok (.iload_n 2, 1) := by decide +kernel
theorem d_Vwm_cut_30 : decode prog_20_method_20_code 30 = .ok (.iconst 1, 1) := by decide +kernel
theorem d_Vwm_cut_31 : decode prog_20_method_20_code 31 = .ok (.iadd, 1) := by decide +kernel
theorem d_Vwm_cut_32 : decode prog_20_method_20_code 32 = .ok (.istore_n 3, 1) := by decide +kernel
theorem d_Vwm_cut_33 : decode prog_20_method_20_code 33 = .ok (.aload_n 0, 1) := by decide +kernel
theorem d_Vwm_cut_34 : decode prog_20_method_20_code 34 = .ok (.iload_n 2, 1) := by decide +kernel
theorem d_Vwm_cut_35 : decode prog_20_method_20_code 35 = .ok (.iload_n 1, 1) := by decide +kernel
theorem d_Vwm_cut_36 : decode prog_20_method_20_code 36 = .ok (.invokevirtual 76, 3) := by decide +kernel
theorem d_Vwm_cut_39 : decode prog_20_method_20_code 39 = .ok (.lconst 0, 1) := by decide +kernel
theorem d_Vwm_cut_40 : decode prog_20_method_20_code 40 = .ok (.lcmp, 1) := by decide +kernel
theorem d_Vwm_cut_41 : decode prog_20_method_20_code 41 = .ok (.ifCond .lt 7, 3) := by decide +kernel
theorem d_Vwm_cut_44 : decode prog_20_method_20_code 44 = .ok (.iconst 1, 1) := by decide +kernel
theorem d_Vwm_cut_45 : decode prog_20_method_20_code 45 = .ok (.goto 4, 3) := by decide +kernel
theorem d_Vwm_cut_48 : decode prog_20_method_20_code 48 = .ok (.iconst 0, 1) := by decide +kernel
theorem d_Vwm_cut_49 : decode prog_20_method_20_code 49 = .ok (.istore 4, 2) := by decide +kernel
theorem d_Vwm_cut_51 : decode prog_20_method_20_code 51 = .ok (.aload_n 0, 1) := by decide +kernel
theorem d_Vwm_cut_52 : decode prog_20_method_20_code 52 = .ok (.iload_n 3, 1) := by decide +kernel
theorem d_Vwm_cut_53 : decode prog_20_method_20_code 53 = .ok (.iload_n 1, 1) := by decide +kernel
theorem d_Vwm_cut_54 : decode prog_20_method_20_code 54 = .ok (.invokevirtual 76, 3) := by decide +kernel
theorem d_Vwm_cut_57 : decode prog_20_method_20_code 57 = .ok (.lconst 0, 1) := by decide +kernel
theorem d_Vwm_cut_58 : decode prog_20_method_20_code 58 = .ok (.lcmp, 1) := by decide +kernel
theorem d_Vwm_cut_59 : decode prog_20_method_20_code 59 = .ok (.ifCond .lt 7, 3) := by decide +kernel
theorem d_Vwm_cut_62 : decode prog_20_method_20_code 62 = .ok (.iconst 1, 1) := by decide +kernel
theorem d_Vwm_cut_63 : decode prog_20_method_20_code 63 = .ok (.goto 4, 3) := by decide +kernel
theorem d_Vwm_cut_66 : decode prog_20_method_20_code 66 = .ok (.iconst 0, 1) := by decide +kernel
theorem d_Vwm_cut_67 : decode prog_20_method_20_code 67 = .ok (.istore 5, 2) := by decide +kernel
theorem d_Vwm_cut_69 : decode prog_20_method_20_code 69 = .ok (.iload 4, 2) := by decide +kernel
theorem d_Vwm_cut_71 : decode prog_20_method_20_code 71 = .ok (.ifCond .eq 56, 3) := by decide +kernel
theorem d_Vwm_cut_74 : decode prog_20_method_20_code 74 = .ok (.iconst 0, 1) := by decide +kernel
theorem d_Vwm_cut_75 : decode prog_20_method_20_code 75 = .ok (.istore 6, 2) := by decide +kernel
theorem d_Vwm_cut_77 : decode prog_20_method_20_code 77 = .ok (.iload 6, 2) := by decide +kernel
theorem d_Vwm_cut_79 : decode prog_20_method_20_code 79 = .ok (.bipush 32, 2) := by decide +kernel
theorem d_Vwm_cut_81 : decode prog_20_method_20_code 81 = .ok (.if_icmp .ge 36, 3) := by decide +kernel
theorem d_Vwm_cut_84 : decode prog_20_method_20_code 84 = .ok (.aload_n 0, 1) := by decide +kernel
theorem d_Vwm_cut_85 : decode prog_20_method_20_code 85 = .ok (.getfield 22, 3) := by decide +kernel
theorem d_Vwm_cut_88 : decode prog_20_method_20_code 88 = .ok (.bipush 32, 2) := by decide +kernel
theorem d_Vwm_cut_90 : decode prog_20_method_20_code 90 = .ok (.aload_n 0, 1) := by decide +kernel
theorem d_Vwm_cut_91 : decode prog_20_method_20_code 91 = .ok (.getfield 86, 3) := by decide +kernel
theorem d_Vwm_cut_94 : decode prog_20_method_20_code 94 = .ok (.imul, 1) := by decide +kernel
theorem d_Vwm_cut_95 : decode prog_20_method_20_code 95 = .ok (.iload 6, 2) := by decide +kernel
theorem d_Vwm_cut_97 : decode prog_20_method_20_code 97 = .ok (.iadd, 1) := by decide +kernel
theorem d_Vwm_cut_98 : decode prog_20_method_20_code 98 = .ok (.aload_n 0, 1) := by decide +kernel
theorem d_Vwm_cut_99 : decode prog_20_method_20_code 99 = .ok (.getfield 19, 3) := by decide +kernel
theorem d_Vwm_cut_102 : decode prog_20_method_20_code 102 = .ok (.bipush 32, 2) := by decide +kernel
theorem d_Vwm_cut_104 : decode prog_20_method_20_code 104 = .ok (.iload_n 2, 1) := by decide +kernel
theorem d_Vwm_cut_105 : decode prog_20_method_20_code 105 = .ok (.imul, 1) := by decide +kernel
theorem d_Vwm_cut_106 : decode prog_20_method_20_code 106 = .ok (.iload 6, 2) := by decide +kernel
theorem d_Vwm_cut_108 : decode prog_20_method_20_code 108 = .ok (.iadd, 1) := by decide +kernel
theorem d_Vwm_cut_109 : decode prog_20_method_20_code 109 = .ok (.iaload, 1) := by decide +kernel
theorem d_Vwm_cut_110 : decode prog_20_method_20_code 110 = .ok (.iastore, 1) := by decide +kernel
theorem d_Vwm_cut_111 : decode prog_20_method_20_code 111 = .ok (.iinc 6 1, 3) := by decide +kernel
theorem d_Vwm_cut_114 : decode prog_20_method_20_code 114 = .ok (.goto (-37), 3) := by decide +kernel
theorem d_Vwm_cut_117 : decode prog_20_method_20_code 117 = .ok (.aload_n 0, 1) := by decide +kernel
theorem d_Vwm_cut_118 : decode prog_20_method_20_code 118 = .ok (.dup, 1) := by decide +kernel
theorem d_Vwm_cut_119 : decode prog_20_method_20_code 119 = .ok (.getfield 86, 3) := by decide +kernel
theorem d_Vwm_cut_122 : decode prog_20_method_20_code 122 = .ok (.iconst 1, 1) := by decide +kernel
theorem d_Vwm_cut_123 : decode prog_20_method_20_code 123 = .ok (.iadd, 1) := by decide +kernel
theorem d_Vwm_cut_124 : decode prog_20_method_20_code 124 = .ok (.putfield 86, 3) := by decide +kernel
theorem d_Vwm_cut_127 : decode prog_20_method_20_code 127 = .ok (.iload 4, 2) := by decide +kernel
theorem d_Vwm_cut_129 : decode prog_20_method_20_code 129 = .ok (.ifCond .eq 15, 3) := by decide +kernel
theorem d_Vwm_cut_132 : decode prog_20_method_20_code 132 = .ok (.iload 5, 2) := by decide +kernel
theorem d_Vwm_cut_134 : decode prog_20_method_20_code 134 = .ok (.ifCond .ne 10, 3) := by decide +kernel
theorem d_Vwm_cut_137 : decode prog_20_method_20_code 137 = .ok (.aload_n 0, 1) := by decide +kernel
theorem d_Vwm_cut_138 : decode prog_20_method_20_code 138 = .ok (.iload_n 2, 1) := by decide +kernel
theorem d_Vwm_cut_139 : decode prog_20_method_20_code 139 = .ok (.iload_n 3, 1) := by decide +kernel
theorem d_Vwm_cut_140 : decode prog_20_method_20_code 140 = .ok (.iload_n 1, 1) := by decide +kernel
theorem d_Vwm_cut_141 : decode prog_20_method_20_code 141 = .ok (.invokevirtual 92, 3) := by decide +kernel
theorem d_Vwm_cut_144 : decode prog_20_method_20_code 144 = .ok (.iload 4, 2) := by decide +kernel
theorem d_Vwm_cut_146 : decode prog_20_method_20_code 146 = .ok (.ifCond .ne 15, 3) := by decide +kernel
theorem d_Vwm_cut_149 : decode prog_20_method_20_code 149 = .ok (.iload 5, 2) := by decide +kernel
theorem d_Vwm_cut_151 : decode prog_20_method_20_code 151 = .ok (.ifCond .eq 10, 3) := by decide +kernel
theorem d_Vwm_cut_154 : decode prog_20_method_20_code 154 = .ok (.aload_n 0, 1) := by decide +kernel
theorem d_Vwm_cut_155 : decode prog_20_method_20_code 155 = .ok (.iload_n 3, 1) := by decide +kernel
theorem d_Vwm_cut_156 : decode prog_20_method_20_code 156 = .ok (.iload_n 2, 1) := by decide +kernel
theorem d_Vwm_cut_157 : decode prog_20_method_20_code 157 = .ok (.iload_n 1, 1) := by decide +kernel
theorem d_Vwm_cut_158 : decode prog_20_method_20_code 158 = .ok (.invokevirtual 92, 3) := by decide +kernel
theorem d_Vwm_cut_161 : decode prog_20_method_20_code 161 = .ok (.iinc 2 1, 3) := by decide +kernel
theorem d_Vwm_cut_164 : decode prog_20_method_20_code 164 = .ok (.goto (-157), 3) := by decide +kernel
theorem d_Vwm_cut_167 : decode prog_20_method_20_code 167 = .ok (.aload_n 0, 1) := by decide +kernel
theorem d_Vwm_cut_168 : decode prog_20_method_20_code 168 = .ok (.aload_n 0, 1) := by decide +kernel
theorem d_Vwm_cut_169 : decode prog_20_method_20_code 169 = .ok (.getfield 86, 3) := by decide +kernel
theorem d_Vwm_cut_172 : decode prog_20_method_20_code 172 = .ok (.iconst 3, 1) := by decide +kernel
theorem d_Vwm_cut_173 : decode prog_20_method_20_code 173 = .ok (.if_icmp .ge 7, 3) := by decide +kernel
theorem d_Vwm_cut_176 : decode prog_20_method_20_code 176 = .ok (.iconst 0, 1) := by decide +kernel
theorem d_Vwm_cut_177 : decode prog_20_method_20_code 177 = .ok (.goto 7, 3) := by decide +kernel
theorem d_Vwm_cut_180 : decode prog_20_method_20_code 180 = .ok (.aload_n 0, 1) := by decide +kernel
theorem d_Vwm_cut_181 : decode prog_20_method_20_code 181 = .ok (.getfield 86, 3) := by decide +kernel
theorem d_Vwm_cut_184 : decode prog_20_method_20_code 184 = .ok (.putfield 89, 3) := by decide +kernel
theorem d_Vwm_cut_187 : decode prog_20_method_20_code 187 = .ok (.iconst 0, 1) := by decide +kernel
theorem d_Vwm_cut_188 : decode prog_20_method_20_code 188 = .ok (.istore_n 2, 1) := by decide +kernel
theorem d_Vwm_cut_189 : decode prog_20_method_20_code 189 = .ok (.iload_n 2, 1) := by decide +kernel
theorem d_Vwm_cut_190 : decode prog_20_method_20_code 190 = .ok (.bipush 32, 2) := by decide +kernel
theorem d_Vwm_cut_192 : decode prog_20_method_20_code 192 = .ok (.aload_n 0, 1) := by decide +kernel
theorem d_Vwm_cut_193 : decode prog_20_method_20_code 193 = .ok (.getfield 89, 3) := by decide +kernel
theorem d_Vwm_cut_196 : decode prog_20_method_20_code 196 = .ok (.imul, 1) := by decide +kernel
theorem d_Vwm_cut_197 : decode prog_20_method_20_code 197 = .ok (.if_icmp .ge 21, 3) := by decide +kernel
theorem d_Vwm_cut_200 : decode prog_20_method_20_code 200 = .ok (.aload_n 0, 1) := by decide +kernel
theorem d_Vwm_cut_201 : decode prog_20_method_20_code 201 = .ok (.getfield 19, 3) := by decide +kernel
theorem d_Vwm_cut_204 : decode prog_20_method_20_code 204 = .ok (.iload_n 2, 1) := by decide +kernel
theorem d_Vwm_cut_205 : decode prog_20_method_20_code 205 = .ok (.aload_n 0, 1) := by decide +kernel
theorem d_Vwm_cut_206 : decode prog_20_method_20_code 206 = .ok (.getfield 22, 3) := by decide +kernel
theorem d_Vwm_cut_209 : decode prog_20_method_20_code 209 = .ok (.iload_n 2, 1) := by decide +kernel
theorem d_Vwm_cut_210 : decode prog_20_method_20_code 210 = .ok (.iaload, 1) := by decide +kernel
theorem d_Vwm_cut_211 : decode prog_20_method_20_code 211 = .ok (.iastore, 1) := by decide +kernel
theorem d_Vwm_cut_212 : decode prog_20_method_20_code 212 = .ok (.iinc 2 1, 3) := by decide +kernel
theorem d_Vwm_cut_215 : decode prog_20_method_20_code 215 = .ok (.goto (-26), 3) := by decide +kernel
theorem d_Vwm_cut_218 : decode prog_20_method_20_code 218 = .ok (.return_, 1) := by decide +kernel
def L_Vwm_cut_189 : Nat → Sg → Int32 → Option (Sg)
  | 0, _, _ => none
  | n + 1, σ, v2 => if (32 * (σ.1 24)) ≤ v2 then (some σ) else (ck (inb v2 256) (ck (inb v2 256) (lt (sA σ 37 (upd (σ.2.2.1 37) v2.toNatClampNeg (σ.2.2.1 38 v2.toNatClampNeg))) (fun σ19 => lt (v2 + 1) (fun y20 => L_Vwm_cut_189 n σ19 y20)))))
set_option maxRecDepth 10000 in
set_option maxHeartbeats 4000000 in
theorem lt_Vwm_cut_189 {p : Program} {l : Launch} {e : Env} {R : Room} {s : State} {m : MethodId} {args : Array Value} {below : List Frame} {meth : Method} {c : Code} {D : va_G} {τ : ClassId × ClassId × ClassId} {B : Nat} {A : Nat → Prop} {ad : Nat → Nat} (E : Cx p R s m args meth c prog_20_method_20_code 7 "DrawingMachineModel$VertexWorkModel" 2 D τ B A) (hret : meth.sig.returnType = none) (o : Sg) : ∀ (n : Nat) (σ : Sg) (v2 : Int32) (H : Heap) (locs : List Loc) (ls : Array Slot), L_Vwm_cut_189 n σ v2 = some o → Wd s D A (wdM τ σ ad) H locs → lv_has ls 7 [(0, .ref (ad 62)), (2, .int v2)] → W p l e R s m args below meth c H locs 0 0 (QV below args s A D τ (wdM τ o ad)) (F0 m 189 ls []) := by
  intro n
  induction n with
  | zero =>
    intro σ v2 H locs ls h w hl
    cases h
  | succ n hr_189 =>
    intro σ v2 H locs ls h w hl
    refine lv_iload_n E.x E.b d_Vwm_cut_189 rfl (lv_at hl 1 rfl) ?_
    refine lv_bipush (v := 32) E.x E.b d_Vwm_cut_190 (by decide) ?_
    refine lv_aload_n E.x E.b d_Vwm_cut_192 rfl (lv_at hl 0 rfl) ?_
    refine gM_Vwm_many E w k1628 d_Vwm_cut_193 ?_
    refine lv_imul E.x E.b d_Vwm_cut_196 ?_
    refine lv_icmp_ge (tgt := 218) E.x E.b d_Vwm_cut_197 (by decide) (fun c => ?_) (fun c => ?_)
    ·
      replace h := ifT c h
      obtain rfl := Option.some.inj h
      exact rt_v E w hret d_Vwm_cut_218
    ·
      replace h := ifF c h
      refine lv_aload_n E.x E.b d_Vwm_cut_200 rfl (lv_at hl 0 rfl) ?_
      refine gM_Vwm_ring E w k1629 d_Vwm_cut_201 ?_
      refine lv_iload_n E.x E.b d_Vwm_cut_204 rfl (lv_at hl 1 rfl) ?_
      refine lv_aload_n E.x E.b d_Vwm_cut_205 rfl (lv_at hl 0 rfl) ?_
      refine gM_Vwm_other E w k1631 d_Vwm_cut_206 ?_
      refine lv_iload_n E.x E.b d_Vwm_cut_209 rfl (lv_at hl 1 rfl) ?_
      obtain ⟨c17, h⟩ := ck_some h
      refine ialM E w (k := 38) (by decide) c17 d_Vwm_cut_210 ?_
      obtain ⟨c18, h⟩ := ck_some h
      obtain ⟨σ19, e_σ19, h⟩ := lt_some h
      refine iasM E w (k := 37) (by decide) c18 e_σ19 d_Vwm_cut_211 (fun H locs w => ?_)
      obtain ⟨y20, e_y20, h⟩ := lt_some h
      refine lv_iinc (v := y20) (lv' := [(2, .int y20), (0, .ref (ad 62))]) E.x E.b d_Vwm_cut_212 hl (k := 1) rfl (e_y20) (by decide) rfl (fun ls hl => ?_)
      refine lv_goto (tgt := 189) E.x E.b d_Vwm_cut_215 (by decide) ?_
      exact hr_189 σ19 y20 _ _ _ h w (lv_sub hl [1, 0] rfl)
def F_Vwm_cut_184 (σ : Sg) (s1 : Int32) : Option (Sg) := lt (sI σ 24 s1) (fun σ21 => L_Vwm_cut_189 100000 σ21 0)
set_option maxRecDepth 10000 in
set_option maxHeartbeats 4000000 in
theorem bt_Vwm_cut_184 {p : Program} {l : Launch} {e : Env} {R : Room} {s : State} {m : MethodId} {args : Array Value} {below : List Frame} {meth : Method} {c : Code} {D : va_G} {τ : ClassId × ClassId × ClassId} {B : Nat} {A : Nat → Prop} {ad : Nat → Nat} (E : Cx p R s m args meth c prog_20_method_20_code 7 "DrawingMachineModel$VertexWorkModel" 2 D τ B A) (hret : meth.sig.returnType = none) (o : Sg) (σ : Sg) (s1 : Int32) (h : F_Vwm_cut_184 σ s1 = some o) {H : Heap} {locs : List Loc} {ls : Array Slot} (w : Wd s D A (wdM τ σ ad) H locs) (hl : lv_has ls 7 [(0, .ref (ad 62))]) : W p l e R s m args below meth c H locs 0 0 (QV below args s A D τ (wdM τ o ad)) (F0 m 184 ls [.int s1, .ref (ad 62)]) := by
  obtain ⟨σ21, e_σ21, h⟩ := lt_some h
  refine pM_Vwm_many E w k1628 e_σ21 d_Vwm_cut_184 (fun H locs w => ?_)
  refine lv_iconst (v := 0) E.x E.b d_Vwm_cut_187 (by decide) ?_
  refine lv_istore_n (lv' := [(2, .int 0), (0, .ref (ad 62))]) E.x E.b d_Vwm_cut_188 rfl hl (by decide) rfl (fun ls hl => ?_)
  exact lt_Vwm_cut_189 E hret o 100000 σ21 0 _ _ _ h w (lv_sub hl [1, 0] rfl)
def F_Vwm_cut_161 (rc_7 : Sg → Int32 → Int32 → Option (Sg)) (σ : Sg) (v1 : Int32) (v2 : Int32) : Option (Sg) := lt (v2 + 1) (fun y22 => rc_7 σ v1 y22)
set_option maxRecDepth 10000 in
set_option maxHeartbeats 4000000 in
theorem bt_Vwm_cut_161 {p : Program} {l : Launch} {e : Env} {R : Room} {s : State} {m : MethodId} {args : Array Value} {below : List Frame} {meth : Method} {c : Code} {D : va_G} {τ : ClassId × ClassId × ClassId} {B : Nat} {A : Nat → Prop} {ad : Nat → Nat} (E : Cx p R s m args meth c prog_20_method_20_code 7 "DrawingMachineModel$VertexWorkModel" 2 D τ B A) (hret : meth.sig.returnType = none) (o : Sg) (rc_7 : Sg → Int32 → Int32 → Option (Sg)) (hr_7 : ∀ (σ : Sg) (v1 : Int32) (v2 : Int32) (H : Heap) (locs : List Loc) (ls : Array Slot), rc_7 σ v1 v2 = some o → Wd s D A (wdM τ σ ad) H locs → lv_has ls 7 [(0, .ref (ad 62)), (1, .int v1), (2, .int v2)] → W p l e R s m args below meth c H locs 0 0 (QV below args s A D τ (wdM τ o ad)) (F0 m 7 ls [])) (σ : Sg) (v1 : Int32) (v2 : Int32) (h : F_Vwm_cut_161 rc_7 σ v1 v2 = some o) {H : Heap} {locs : List Loc} {ls : Array Slot} (w : Wd s D A (wdM τ σ ad) H locs) (hl : lv_has ls 7 [(0, .ref (ad 62)), (1, .int v1), (2, .int v2)]) : W p l e R s m args below meth c H locs 0 0 (QV below args s A D τ (wdM τ o ad)) (F0 m 161 ls []) := by
  obtain ⟨y22, e_y22, h⟩ := lt_some h
  refine lv_iinc (v := y22) (lv' := [(2, .int y22), (0, .ref (ad 62)), (1, .int v1)]) E.x E.b d_Vwm_cut_161 hl (k := 2) rfl (e_y22) (by decide) rfl (fun ls hl => ?_)
  refine lv_goto (tgt := 7) E.x E.b d_Vwm_cut_164 (by decide) ?_
  exact hr_7 σ v1 y22 _ _ _ h w (lv_sub hl [1, 2, 0] rfl)
def F_Vwm_cut_144 (rc_7 : Sg → Int32 → Int32 → Option (Sg)) (σ : Sg) (v1 : Int32) (v2 : Int32) (v3 : Int32) (v4 : Int32) (v5 : Int32) : Option (Sg) := if v4 = 0 then (if v5 = 0 then (F_Vwm_cut_161 rc_7 σ v1 v2) else (bd (F_Vwm_between σ v3 v2 v1) (fun o23 => F_Vwm_cut_161 rc_7 o23 v1 v2))) else (F_Vwm_cut_161 rc_7 σ v1 v2)
set_option maxRecDepth 10000 in
set_option maxHeartbeats 4000000 in
theorem bt_Vwm_cut_144 {p : Program} {l : Launch} {e : Env} {R : Room} {s : State} {m : MethodId} {args : Array Value} {below : List Frame} {meth : Method} {c : Code} {D : va_G} {τ : ClassId × ClassId × ClassId} {B : Nat} {A : Nat → Prop} {ad : Nat → Nat} (E : Cx p R s m args meth c prog_20_method_20_code 7 "DrawingMachineModel$VertexWorkModel" 2 D τ B A) (hret : meth.sig.returnType = none) (o : Sg) (rc_7 : Sg → Int32 → Int32 → Option (Sg)) (hr_7 : ∀ (σ : Sg) (v1 : Int32) (v2 : Int32) (H : Heap) (locs : List Loc) (ls : Array Slot), rc_7 σ v1 v2 = some o → Wd s D A (wdM τ σ ad) H locs → lv_has ls 7 [(0, .ref (ad 62)), (1, .int v1), (2, .int v2)] → W p l e R s m args below meth c H locs 0 0 (QV below args s A D τ (wdM τ o ad)) (F0 m 7 ls [])) (σ : Sg) (v1 : Int32) (v2 : Int32) (v3 : Int32) (v4 : Int32) (v5 : Int32) (h : F_Vwm_cut_144 rc_7 σ v1 v2 v3 v4 v5 = some o) {H : Heap} {locs : List Loc} {ls : Array Slot} (w : Wd s D A (wdM τ σ ad) H locs) (hl : lv_has ls 7 [(0, .ref (ad 62)), (1, .int v1), (2, .int v2), (3, .int v3), (4, .int v4), (5, .int v5)]) : W p l e R s m args below meth c H locs 0 0 (QV below args s A D τ (wdM τ o ad)) (F0 m 144 ls []) := by
  refine lv_iload E.x E.b d_Vwm_cut_144 (lv_at hl 4 rfl) ?_
  refine lv_if_ne (tgt := 161) E.x E.b d_Vwm_cut_146 (by decide) (fun c => ?_) (fun c => ?_)
  ·
    replace h := ifF c h
    exact bt_Vwm_cut_161 E hret o rc_7 hr_7 σ v1 v2 h w (lv_sub hl [0, 1, 2] rfl)
  ·
    replace h := ifT c h
    refine lv_iload E.x E.b d_Vwm_cut_149 (lv_at hl 5 rfl) ?_
    refine lv_if_eq (tgt := 161) E.x E.b d_Vwm_cut_151 (by decide) (fun c => ?_) (fun c => ?_)
    ·
      replace h := ifT c h
      exact bt_Vwm_cut_161 E hret o rc_7 hr_7 σ v1 v2 h w (lv_sub hl [0, 1, 2] rfl)
    ·
      replace h := ifF c h
      refine lv_aload_n E.x E.b d_Vwm_cut_154 rfl (lv_at hl 0 rfl) ?_
      refine lv_iload_n E.x E.b d_Vwm_cut_155 rfl (lv_at hl 3 rfl) ?_
      refine lv_iload_n E.x E.b d_Vwm_cut_156 rfl (lv_at hl 2 rfl) ?_
      refine lv_iload_n E.x E.b d_Vwm_cut_157 rfl (lv_at hl 1 rfl) ?_
      obtain ⟨o23, h_o23, h⟩ := bd_some h
      refine clV_Vwm_between E w (x0 := v3) (x1 := v2) (x2 := v1) h_o23 k2330 (by decide) hl.1 (Nat.le_of_ble_eq_true rfl) d_Vwm_cut_158 (fun H locs w => ?_)
      exact bt_Vwm_cut_161 E hret o rc_7 hr_7 o23 v1 v2 h w (lv_sub hl [0, 1, 2] rfl)
def F_Vwm_cut_127 (rc_7 : Sg → Int32 → Int32 → Option (Sg)) (σ : Sg) (v1 : Int32) (v2 : Int32) (v3 : Int32) (v4 : Int32) (v5 : Int32) : Option (Sg) := if v4 = 0 then (F_Vwm_cut_144 rc_7 σ v1 v2 v3 v4 v5) else (if v5 = 0 then (bd (F_Vwm_between σ v2 v3 v1) (fun o24 => F_Vwm_cut_144 rc_7 o24 v1 v2 v3 v4 v5)) else (F_Vwm_cut_144 rc_7 σ v1 v2 v3 v4 v5))
set_option maxRecDepth 10000 in
set_option maxHeartbeats 4000000 in
theorem bt_Vwm_cut_127 {p : Program} {l : Launch} {e : Env} {R : Room} {s : State} {m : MethodId} {args : Array Value} {below : List Frame} {meth : Method} {c : Code} {D : va_G} {τ : ClassId × ClassId × ClassId} {B : Nat} {A : Nat → Prop} {ad : Nat → Nat} (E : Cx p R s m args meth c prog_20_method_20_code 7 "DrawingMachineModel$VertexWorkModel" 2 D τ B A) (hret : meth.sig.returnType = none) (o : Sg) (rc_7 : Sg → Int32 → Int32 → Option (Sg)) (hr_7 : ∀ (σ : Sg) (v1 : Int32) (v2 : Int32) (H : Heap) (locs : List Loc) (ls : Array Slot), rc_7 σ v1 v2 = some o → Wd s D A (wdM τ σ ad) H locs → lv_has ls 7 [(0, .ref (ad 62)), (1, .int v1), (2, .int v2)] → W p l e R s m args below meth c H locs 0 0 (QV below args s A D τ (wdM τ o ad)) (F0 m 7 ls [])) (σ : Sg) (v1 : Int32) (v2 : Int32) (v3 : Int32) (v4 : Int32) (v5 : Int32) (h : F_Vwm_cut_127 rc_7 σ v1 v2 v3 v4 v5 = some o) {H : Heap} {locs : List Loc} {ls : Array Slot} (w : Wd s D A (wdM τ σ ad) H locs) (hl : lv_has ls 7 [(0, .ref (ad 62)), (1, .int v1), (2, .int v2), (3, .int v3), (4, .int v4), (5, .int v5)]) : W p l e R s m args below meth c H locs 0 0 (QV below args s A D τ (wdM τ o ad)) (F0 m 127 ls []) := by
  refine lv_iload E.x E.b d_Vwm_cut_127 (lv_at hl 4 rfl) ?_
  refine lv_if_eq (tgt := 144) E.x E.b d_Vwm_cut_129 (by decide) (fun c => ?_) (fun c => ?_)
  ·
    replace h := ifT c h
    exact bt_Vwm_cut_144 E hret o rc_7 hr_7 σ v1 v2 v3 v4 v5 h w (lv_sub hl [0, 1, 2, 3, 4, 5] rfl)
  ·
    replace h := ifF c h
    refine lv_iload E.x E.b d_Vwm_cut_132 (lv_at hl 5 rfl) ?_
    refine lv_if_ne (tgt := 144) E.x E.b d_Vwm_cut_134 (by decide) (fun c => ?_) (fun c => ?_)
    ·
      replace h := ifF c h
      exact bt_Vwm_cut_144 E hret o rc_7 hr_7 σ v1 v2 v3 v4 v5 h w (lv_sub hl [0, 1, 2, 3, 4, 5] rfl)
    ·
      replace h := ifT c h
      refine lv_aload_n E.x E.b d_Vwm_cut_137 rfl (lv_at hl 0 rfl) ?_
      refine lv_iload_n E.x E.b d_Vwm_cut_138 rfl (lv_at hl 2 rfl) ?_
      refine lv_iload_n E.x E.b d_Vwm_cut_139 rfl (lv_at hl 3 rfl) ?_
      refine lv_iload_n E.x E.b d_Vwm_cut_140 rfl (lv_at hl 1 rfl) ?_
      obtain ⟨o24, h_o24, h⟩ := bd_some h
      refine clV_Vwm_between E w (x0 := v2) (x1 := v3) (x2 := v1) h_o24 k2330 (by decide) hl.1 (Nat.le_of_ble_eq_true rfl) d_Vwm_cut_141 (fun H locs w => ?_)
      exact bt_Vwm_cut_144 E hret o rc_7 hr_7 o24 v1 v2 v3 v4 v5 h w (lv_sub hl [0, 1, 2, 3, 4, 5] rfl)
def L_Vwm_cut_77 (rc_7 : Sg → Int32 → Int32 → Option (Sg)) : Nat → Sg → Int32 → Int32 → Int32 → Int32 → Int32 → Int32 → Option (Sg)
  | 0, _, _, _, _, _, _, _ => none
  | n + 1, σ, v1, v2, v3, v4, v5, v6 => if 32 ≤ v6 then (lt (sI σ 25 ((σ.1 25) + 1)) (fun σ25 => F_Vwm_cut_127 rc_7 σ25 v1 v2 v3 v4 v5)) else (ck (inb ((32 * v2) + v6) 256) (ck (inb ((32 * (σ.1 25)) + v6) 256) (lt (sA σ 38 (upd (σ.2.2.1 38) ((32 * (σ.1 25)) + v6).toNatClampNeg (σ.2.2.1 37 ((32 * v2) + v6).toNatClampNeg))) (fun σ28 => lt (v6 + 1) (fun y29 => L_Vwm_cut_77 rc_7 n σ28 v1 v2 v3 v4 v5 y29)))))
set_option maxRecDepth 10000 in
set_option maxHeartbeats 4000000 in
theorem lt_Vwm_cut_77 {p : Program} {l : Launch} {e : Env} {R : Room} {s : State} {m : MethodId} {args : Array Value} {below : List Frame} {meth : Method} {c : Code} {D : va_G} {τ : ClassId × ClassId × ClassId} {B : Nat} {A : Nat → Prop} {ad : Nat → Nat} (E : Cx p R s m args meth c prog_20_method_20_code 7 "DrawingMachineModel$VertexWorkModel" 2 D τ B A) (hret : meth.sig.returnType = none) (o : Sg) (rc_7 : Sg → Int32 → Int32 → Option (Sg)) (hr_7 : ∀ (σ : Sg) (v1 : Int32) (v2 : Int32) (H : Heap) (locs : List Loc) (ls : Array Slot), rc_7 σ v1 v2 = some o → Wd s D A (wdM τ σ ad) H locs → lv_has ls 7 [(0, .ref (ad 62)), (1, .int v1), (2, .int v2)] → W p l e R s m args below meth c H locs 0 0 (QV below args s A D τ (wdM τ o ad)) (F0 m 7 ls [])) : ∀ (n : Nat) (σ : Sg) (v1 : Int32) (v2 : Int32) (v3 : Int32) (v4 : Int32) (v5 : Int32) (v6 : Int32) (H : Heap) (locs : List Loc) (ls : Array Slot), L_Vwm_cut_77 rc_7 n σ v1 v2 v3 v4 v5 v6 = some o → Wd s D A (wdM τ σ ad) H locs → lv_has ls 7 [(0, .ref (ad 62)), (1, .int v1), (2, .int v2), (3, .int v3), (4, .int v4), (5, .int v5), (6, .int v6)] → W p l e R s m args below meth c H locs 0 0 (QV below args s A D τ (wdM τ o ad)) (F0 m 77 ls []) := by
  intro n
  induction n with
  | zero =>
    intro σ v1 v2 v3 v4 v5 v6 H locs ls h w hl
    cases h
  | succ n hr_77 =>
    intro σ v1 v2 v3 v4 v5 v6 H locs ls h w hl
    refine lv_iload E.x E.b d_Vwm_cut_77 (lv_at hl 6 rfl) ?_
    refine lv_bipush (v := 32) E.x E.b d_Vwm_cut_79 (by decide) ?_
    refine lv_icmp_ge (tgt := 117) E.x E.b d_Vwm_cut_81 (by decide) (fun c => ?_) (fun c => ?_)
    ·
      replace h := ifT c h
      refine lv_aload_n E.x E.b d_Vwm_cut_117 rfl (lv_at hl 0 rfl) ?_
      refine lv_dup E.x E.b d_Vwm_cut_118 rfl ?_
      refine gM_Vwm_fewer E w k1630 d_Vwm_cut_119 ?_
      refine lv_iconst (v := 1) E.x E.b d_Vwm_cut_122 (by decide) ?_
      refine lv_iadd E.x E.b d_Vwm_cut_123 ?_
      obtain ⟨σ25, e_σ25, h⟩ := lt_some h
      refine pM_Vwm_fewer E w k1630 e_σ25 d_Vwm_cut_124 (fun H locs w => ?_)
      exact bt_Vwm_cut_127 E hret o rc_7 hr_7 σ25 v1 v2 v3 v4 v5 h w (lv_sub hl [0, 1, 2, 3, 4, 5] rfl)
    ·
      replace h := ifF c h
      refine lv_aload_n E.x E.b d_Vwm_cut_84 rfl (lv_at hl 0 rfl) ?_
      refine gM_Vwm_other E w k1631 d_Vwm_cut_85 ?_
      refine lv_bipush (v := 32) E.x E.b d_Vwm_cut_88 (by decide) ?_
      refine lv_aload_n E.x E.b d_Vwm_cut_90 rfl (lv_at hl 0 rfl) ?_
      refine gM_Vwm_fewer E w k1630 d_Vwm_cut_91 ?_
      refine lv_imul E.x E.b d_Vwm_cut_94 ?_
      refine lv_iload E.x E.b d_Vwm_cut_95 (lv_at hl 6 rfl) ?_
      refine lv_iadd E.x E.b d_Vwm_cut_97 ?_
      refine lv_aload_n E.x E.b d_Vwm_cut_98 rfl (lv_at hl 0 rfl) ?_
      refine gM_Vwm_ring E w k1629 d_Vwm_cut_99 ?_
      refine lv_bipush (v := 32) E.x E.b d_Vwm_cut_102 (by decide) ?_
      refine lv_iload_n E.x E.b d_Vwm_cut_104 rfl (lv_at hl 2 rfl) ?_
      refine lv_imul E.x E.b d_Vwm_cut_105 ?_
      refine lv_iload E.x E.b d_Vwm_cut_106 (lv_at hl 6 rfl) ?_
      refine lv_iadd E.x E.b d_Vwm_cut_108 ?_
      obtain ⟨c26, h⟩ := ck_some h
      refine ialM E w (k := 37) (by decide) c26 d_Vwm_cut_109 ?_
      obtain ⟨c27, h⟩ := ck_some h
      obtain ⟨σ28, e_σ28, h⟩ := lt_some h
      refine iasM E w (k := 38) (by decide) c27 e_σ28 d_Vwm_cut_110 (fun H locs w => ?_)
      obtain ⟨y29, e_y29, h⟩ := lt_some h
      refine lv_iinc (v := y29) (lv' := [(6, .int y29), (0, .ref (ad 62)), (1, .int v1), (2, .int v2), (3, .int v3), (4, .int v4), (5, .int v5)]) E.x E.b d_Vwm_cut_111 hl (k := 6) rfl (e_y29) (by decide) rfl (fun ls hl => ?_)
      refine lv_goto (tgt := 77) E.x E.b d_Vwm_cut_114 (by decide) ?_
      exact hr_77 σ28 v1 v2 v3 v4 v5 y29 _ _ _ h w (lv_sub hl [1, 2, 3, 4, 5, 6, 0] rfl)
def F_Vwm_cut_67 (rc_7 : Sg → Int32 → Int32 → Option (Sg)) (σ : Sg) (v1 : Int32) (v2 : Int32) (v3 : Int32) (v4 : Int32) (s0 : Int32) : Option (Sg) := if v4 = 0 then (F_Vwm_cut_127 rc_7 σ v1 v2 v3 v4 s0) else (L_Vwm_cut_77 rc_7 100000 σ v1 v2 v3 v4 s0 0)
set_option maxRecDepth 10000 in
set_option maxHeartbeats 4000000 in
theorem bt_Vwm_cut_67 {p : Program} {l : Launch} {e : Env} {R : Room} {s : State} {m : MethodId} {args : Array Value} {below : List Frame} {meth : Method} {c : Code} {D : va_G} {τ : ClassId × ClassId × ClassId} {B : Nat} {A : Nat → Prop} {ad : Nat → Nat} (E : Cx p R s m args meth c prog_20_method_20_code 7 "DrawingMachineModel$VertexWorkModel" 2 D τ B A) (hret : meth.sig.returnType = none) (o : Sg) (rc_7 : Sg → Int32 → Int32 → Option (Sg)) (hr_7 : ∀ (σ : Sg) (v1 : Int32) (v2 : Int32) (H : Heap) (locs : List Loc) (ls : Array Slot), rc_7 σ v1 v2 = some o → Wd s D A (wdM τ σ ad) H locs → lv_has ls 7 [(0, .ref (ad 62)), (1, .int v1), (2, .int v2)] → W p l e R s m args below meth c H locs 0 0 (QV below args s A D τ (wdM τ o ad)) (F0 m 7 ls [])) (σ : Sg) (v1 : Int32) (v2 : Int32) (v3 : Int32) (v4 : Int32) (s0 : Int32) (h : F_Vwm_cut_67 rc_7 σ v1 v2 v3 v4 s0 = some o) {H : Heap} {locs : List Loc} {ls : Array Slot} (w : Wd s D A (wdM τ σ ad) H locs) (hl : lv_has ls 7 [(0, .ref (ad 62)), (1, .int v1), (2, .int v2), (3, .int v3), (4, .int v4)]) : W p l e R s m args below meth c H locs 0 0 (QV below args s A D τ (wdM τ o ad)) (F0 m 67 ls [.int s0]) := by
  refine lv_istore (lv' := [(5, .int s0), (0, .ref (ad 62)), (1, .int v1), (2, .int v2), (3, .int v3), (4, .int v4)]) E.x E.b d_Vwm_cut_67 hl (by decide) rfl (fun ls hl => ?_)
  refine lv_iload E.x E.b d_Vwm_cut_69 (lv_at hl 5 rfl) ?_
  refine lv_if_eq (tgt := 127) E.x E.b d_Vwm_cut_71 (by decide) (fun c => ?_) (fun c => ?_)
  ·
    replace h := ifT c h
    exact bt_Vwm_cut_127 E hret o rc_7 hr_7 σ v1 v2 v3 v4 s0 h w (lv_sub hl [1, 2, 3, 4, 5, 0] rfl)
  ·
    replace h := ifF c h
    refine lv_iconst (v := 0) E.x E.b d_Vwm_cut_74 (by decide) ?_
    refine lv_istore (lv' := [(6, .int 0), (5, .int s0), (0, .ref (ad 62)), (1, .int v1), (2, .int v2), (3, .int v3), (4, .int v4)]) E.x E.b d_Vwm_cut_75 hl (by decide) rfl (fun ls hl => ?_)
    exact lt_Vwm_cut_77 E hret o rc_7 hr_7 100000 σ v1 v2 v3 v4 s0 0 _ _ _ h w (lv_sub hl [2, 3, 4, 5, 6, 1, 0] rfl)
def F_Vwm_cut_49 (rc_7 : Sg → Int32 → Int32 → Option (Sg)) (σ : Sg) (v1 : Int32) (v2 : Int32) (v3 : Int32) (s0 : Int32) : Option (Sg) := bd (F_Vwm_inside σ v3 v1) (fun o30 => if o30 < 0 then (F_Vwm_cut_67 rc_7 σ v1 v2 v3 s0 0) else (F_Vwm_cut_67 rc_7 σ v1 v2 v3 s0 1))
set_option maxRecDepth 10000 in
set_option maxHeartbeats 4000000 in
theorem bt_Vwm_cut_49 {p : Program} {l : Launch} {e : Env} {R : Room} {s : State} {m : MethodId} {args : Array Value} {below : List Frame} {meth : Method} {c : Code} {D : va_G} {τ : ClassId × ClassId × ClassId} {B : Nat} {A : Nat → Prop} {ad : Nat → Nat} (E : Cx p R s m args meth c prog_20_method_20_code 7 "DrawingMachineModel$VertexWorkModel" 2 D τ B A) (hret : meth.sig.returnType = none) (o : Sg) (rc_7 : Sg → Int32 → Int32 → Option (Sg)) (hr_7 : ∀ (σ : Sg) (v1 : Int32) (v2 : Int32) (H : Heap) (locs : List Loc) (ls : Array Slot), rc_7 σ v1 v2 = some o → Wd s D A (wdM τ σ ad) H locs → lv_has ls 7 [(0, .ref (ad 62)), (1, .int v1), (2, .int v2)] → W p l e R s m args below meth c H locs 0 0 (QV below args s A D τ (wdM τ o ad)) (F0 m 7 ls [])) (σ : Sg) (v1 : Int32) (v2 : Int32) (v3 : Int32) (s0 : Int32) (h : F_Vwm_cut_49 rc_7 σ v1 v2 v3 s0 = some o) {H : Heap} {locs : List Loc} {ls : Array Slot} (w : Wd s D A (wdM τ σ ad) H locs) (hl : lv_has ls 7 [(0, .ref (ad 62)), (1, .int v1), (2, .int v2), (3, .int v3)]) : W p l e R s m args below meth c H locs 0 0 (QV below args s A D τ (wdM τ o ad)) (F0 m 49 ls [.int s0]) := by
  refine lv_istore (lv' := [(4, .int s0), (0, .ref (ad 62)), (1, .int v1), (2, .int v2), (3, .int v3)]) E.x E.b d_Vwm_cut_49 hl (by decide) rfl (fun ls hl => ?_)
  refine lv_aload_n E.x E.b d_Vwm_cut_51 rfl (lv_at hl 1 rfl) ?_
  refine lv_iload_n E.x E.b d_Vwm_cut_52 rfl (lv_at hl 4 rfl) ?_
  refine lv_iload_n E.x E.b d_Vwm_cut_53 rfl (lv_at hl 2 rfl) ?_
  obtain ⟨o30, h_o30, h⟩ := bd_some h
  refine clV_Vwm_inside E w (x0 := v3) (x1 := v1) h_o30 k2325 (by decide) hl.1 (Nat.le_of_ble_eq_true rfl) d_Vwm_cut_54 (fun H locs w => ?_)
  refine lv_lconst (v := 0) E.x E.b d_Vwm_cut_57 (by decide) ?_
  refine W.lcmp E.x E.b d_Vwm_cut_58 ?_
  refine lv_if_lt (tgt := 66) E.x E.b d_Vwm_cut_59 (by decide) (fun c => ?_) (fun c => ?_)
  ·
    replace h := ifT (lgc_lt.mp c) h
    refine lv_iconst (v := 0) E.x E.b d_Vwm_cut_66 (by decide) ?_
    exact bt_Vwm_cut_67 E hret o rc_7 hr_7 σ v1 v2 v3 s0 0 h w (lv_sub hl [1, 2, 3, 4, 0] rfl)
  ·
    replace h := ifF (fun h9 => c (lgc_lt.mpr h9)) h
    refine lv_iconst (v := 1) E.x E.b d_Vwm_cut_62 (by decide) ?_
    refine lv_goto (tgt := 67) E.x E.b d_Vwm_cut_63 (by decide) ?_
    exact bt_Vwm_cut_67 E hret o rc_7 hr_7 σ v1 v2 v3 s0 1 h w (lv_sub hl [1, 2, 3, 4, 0] rfl)
def F_Vwm_cut_32 (rc_7 : Sg → Int32 → Int32 → Option (Sg)) (σ : Sg) (v1 : Int32) (v2 : Int32) (s0 : Int32) : Option (Sg) := bd (F_Vwm_inside σ v2 v1) (fun o31 => if o31 < 0 then (F_Vwm_cut_49 rc_7 σ v1 v2 s0 0) else (F_Vwm_cut_49 rc_7 σ v1 v2 s0 1))
set_option maxRecDepth 10000 in
set_option maxHeartbeats 4000000 in
theorem bt_Vwm_cut_32 {p : Program} {l : Launch} {e : Env} {R : Room} {s : State} {m : MethodId} {args : Array Value} {below : List Frame} {meth : Method} {c : Code} {D : va_G} {τ : ClassId × ClassId × ClassId} {B : Nat} {A : Nat → Prop} {ad : Nat → Nat} (E : Cx p R s m args meth c prog_20_method_20_code 7 "DrawingMachineModel$VertexWorkModel" 2 D τ B A) (hret : meth.sig.returnType = none) (o : Sg) (rc_7 : Sg → Int32 → Int32 → Option (Sg)) (hr_7 : ∀ (σ : Sg) (v1 : Int32) (v2 : Int32) (H : Heap) (locs : List Loc) (ls : Array Slot), rc_7 σ v1 v2 = some o → Wd s D A (wdM τ σ ad) H locs → lv_has ls 7 [(0, .ref (ad 62)), (1, .int v1), (2, .int v2)] → W p l e R s m args below meth c H locs 0 0 (QV below args s A D τ (wdM τ o ad)) (F0 m 7 ls [])) (σ : Sg) (v1 : Int32) (v2 : Int32) (s0 : Int32) (h : F_Vwm_cut_32 rc_7 σ v1 v2 s0 = some o) {H : Heap} {locs : List Loc} {ls : Array Slot} (w : Wd s D A (wdM τ σ ad) H locs) (hl : lv_has ls 7 [(0, .ref (ad 62)), (1, .int v1), (2, .int v2)]) : W p l e R s m args below meth c H locs 0 0 (QV below args s A D τ (wdM τ o ad)) (F0 m 32 ls [.int s0]) := by
  refine lv_istore_n (lv' := [(3, .int s0), (0, .ref (ad 62)), (1, .int v1), (2, .int v2)]) E.x E.b d_Vwm_cut_32 rfl hl (by decide) rfl (fun ls hl => ?_)
  refine lv_aload_n E.x E.b d_Vwm_cut_33 rfl (lv_at hl 1 rfl) ?_
  refine lv_iload_n E.x E.b d_Vwm_cut_34 rfl (lv_at hl 3 rfl) ?_
  refine lv_iload_n E.x E.b d_Vwm_cut_35 rfl (lv_at hl 2 rfl) ?_
  obtain ⟨o31, h_o31, h⟩ := bd_some h
  refine clV_Vwm_inside E w (x0 := v2) (x1 := v1) h_o31 k2325 (by decide) hl.1 (Nat.le_of_ble_eq_true rfl) d_Vwm_cut_36 (fun H locs w => ?_)
  refine lv_lconst (v := 0) E.x E.b d_Vwm_cut_39 (by decide) ?_
  refine W.lcmp E.x E.b d_Vwm_cut_40 ?_
  refine lv_if_lt (tgt := 48) E.x E.b d_Vwm_cut_41 (by decide) (fun c => ?_) (fun c => ?_)
  ·
    replace h := ifT (lgc_lt.mp c) h
    refine lv_iconst (v := 0) E.x E.b d_Vwm_cut_48 (by decide) ?_
    exact bt_Vwm_cut_49 E hret o rc_7 hr_7 σ v1 v2 s0 0 h w (lv_sub hl [1, 2, 3, 0] rfl)
  ·
    replace h := ifF (fun h9 => c (lgc_lt.mpr h9)) h
    refine lv_iconst (v := 1) E.x E.b d_Vwm_cut_44 (by decide) ?_
    refine lv_goto (tgt := 49) E.x E.b d_Vwm_cut_45 (by decide) ?_
    exact bt_Vwm_cut_49 E hret o rc_7 hr_7 σ v1 v2 s0 1 h w (lv_sub hl [1, 2, 3, 0] rfl)
def L_Vwm_cut_7 : Nat → Sg → Int32 → Int32 → Option (Sg)
  | 0, _, _, _ => none
  | n + 1, σ, v1, v2 => if (σ.1 24) ≤ v2 then (if 3 ≤ (σ.1 25) then (F_Vwm_cut_184 σ (σ.1 25)) else (F_Vwm_cut_184 σ 0)) else (if (v2 + 1) = (σ.1 24) then (F_Vwm_cut_32 (L_Vwm_cut_7 n) σ v1 v2 0) else (F_Vwm_cut_32 (L_Vwm_cut_7 n) σ v1 v2 (v2 + 1)))
set_option maxRecDepth 10000 in
set_option maxHeartbeats 4000000 in
theorem lt_Vwm_cut_7 {p : Program} {l : Launch} {e : Env} {R : Room} {s : State} {m : MethodId} {args : Array Value} {below : List Frame} {meth : Method} {c : Code} {D : va_G} {τ : ClassId × ClassId × ClassId} {B : Nat} {A : Nat → Prop} {ad : Nat → Nat} (E : Cx p R s m args meth c prog_20_method_20_code 7 "DrawingMachineModel$VertexWorkModel" 2 D τ B A) (hret : meth.sig.returnType = none) (o : Sg) : ∀ (n : Nat) (σ : Sg) (v1 : Int32) (v2 : Int32) (H : Heap) (locs : List Loc) (ls : Array Slot), L_Vwm_cut_7 n σ v1 v2 = some o → Wd s D A (wdM τ σ ad) H locs → lv_has ls 7 [(0, .ref (ad 62)), (1, .int v1), (2, .int v2)] → W p l e R s m args below meth c H locs 0 0 (QV below args s A D τ (wdM τ o ad)) (F0 m 7 ls []) := by
  intro n
  induction n with
  | zero =>
    intro σ v1 v2 H locs ls h w hl
    cases h
  | succ n hr_7 =>
    intro σ v1 v2 H locs ls h w hl
    refine lv_iload_n E.x E.b d_Vwm_cut_7 rfl (lv_at hl 2 rfl) ?_
    refine lv_aload_n E.x E.b d_Vwm_cut_8 rfl (lv_at hl 0 rfl) ?_
    refine gM_Vwm_many E w k1628 d_Vwm_cut_9 ?_
    refine lv_icmp_ge (tgt := 167) E.x E.b d_Vwm_cut_12 (by decide) (fun c => ?_) (fun c => ?_)
    ·
      replace h := ifT c h
      refine lv_aload_n E.x E.b d_Vwm_cut_167 rfl (lv_at hl 0 rfl) ?_
      refine lv_aload_n E.x E.b d_Vwm_cut_168 rfl (lv_at hl 0 rfl) ?_
      refine gM_Vwm_fewer E w k1630 d_Vwm_cut_169 ?_
      refine lv_iconst (v := 3) E.x E.b d_Vwm_cut_172 (by decide) ?_
      refine lv_icmp_ge (tgt := 180) E.x E.b d_Vwm_cut_173 (by decide) (fun c => ?_) (fun c => ?_)
      ·
        replace h := ifT c h
        refine lv_aload_n E.x E.b d_Vwm_cut_180 rfl (lv_at hl 0 rfl) ?_
        refine gM_Vwm_fewer E w k1630 d_Vwm_cut_181 ?_
        exact bt_Vwm_cut_184 E hret o σ (σ.1 25) h w (lv_sub hl [0] rfl)
      ·
        replace h := ifF c h
        refine lv_iconst (v := 0) E.x E.b d_Vwm_cut_176 (by decide) ?_
        refine lv_goto (tgt := 184) E.x E.b d_Vwm_cut_177 (by decide) ?_
        exact bt_Vwm_cut_184 E hret o σ 0 h w (lv_sub hl [0] rfl)
    ·
      replace h := ifF c h
      refine lv_iload_n E.x E.b d_Vwm_cut_15 rfl (lv_at hl 2 rfl) ?_
      refine lv_iconst (v := 1) E.x E.b d_Vwm_cut_16 (by decide) ?_
      refine lv_iadd E.x E.b d_Vwm_cut_17 ?_
      refine lv_aload_n E.x E.b d_Vwm_cut_18 rfl (lv_at hl 0 rfl) ?_
      refine gM_Vwm_many E w k1628 d_Vwm_cut_19 ?_
      refine lv_icmp_ne (tgt := 29) E.x E.b d_Vwm_cut_22 (by decide) (fun c => ?_) (fun c => ?_)
      ·
        replace h := ifF c h
        refine lv_iload_n E.x E.b d_Vwm_cut_29 rfl (lv_at hl 2 rfl) ?_
        refine lv_iconst (v := 1) E.x E.b d_Vwm_cut_30 (by decide) ?_
        refine lv_iadd E.x E.b d_Vwm_cut_31 ?_
        exact bt_Vwm_cut_32 E hret o (L_Vwm_cut_7 n) hr_7 σ v1 v2 (v2 + 1) h w (lv_sub hl [0, 1, 2] rfl)
      ·
        replace h := ifT c h
        refine lv_iconst (v := 0) E.x E.b d_Vwm_cut_25 (by decide) ?_
        refine lv_goto (tgt := 32) E.x E.b d_Vwm_cut_26 (by decide) ?_
        exact bt_Vwm_cut_32 E hret o (L_Vwm_cut_7 n) hr_7 σ v1 v2 0 h w (lv_sub hl [0, 1, 2] rfl)
def F_Vwm_cut (σ : Sg) (x0 : Int32) : Option (Sg) := lt (sI σ 25 0) (fun σ32 => L_Vwm_cut_7 100000 σ32 x0 0)
set_option maxRecDepth 10000 in
set_option maxHeartbeats 4000000 in
theorem c_Vwm_cut (l : Launch) (D : va_G) (τ : ClassId × ClassId × ClassId) (B : Nat) (σ : Sg) (ad : Nat → Nat) (x0 : Int32) (o : Sg) (h : F_Vwm_cut σ x0 = some o) : MV l y_Vwm_cut (Cond.code y_Vwm_cut prog_20_method_20_code 7 none) 2 D τ B [.ref (ad 62), .int x0] (wdM τ σ ad) (wdM τ o ad) := by
  refine en_v (by decide) (Nat.le_of_ble_eq_true rfl) ?_
  intro p e R s m args below meth c H locs ls A E hret w hl
  have E : Cx p R s m args meth c prog_20_method_20_code 7 "DrawingMachineModel$VertexWorkModel" 2 D τ B A := E
  have hl : lv_has ls 7 [(0, .ref (ad 62)), (1, .int x0)] := hl
  refine lv_aload_n E.x E.b d_Vwm_cut_0 rfl (lv_at hl 0 rfl) ?_
  refine lv_iconst (v := 0) E.x E.b d_Vwm_cut_1 (by decide) ?_
  obtain ⟨σ32, e_σ32, h⟩ := lt_some h
  refine pM_Vwm_fewer E w k1630 e_σ32 d_Vwm_cut_2 (fun H locs w => ?_)
  refine lv_iconst (v := 0) E.x E.b d_Vwm_cut_5 (by decide) ?_
  refine lv_istore_n (lv' := [(2, .int 0), (0, .ref (ad 62)), (1, .int x0)]) E.x E.b d_Vwm_cut_6 rfl hl (by decide) rfl (fun ls hl => ?_)
  exact lt_Vwm_cut_7 E hret o 100000 σ32 x0 0 _ _ _ h w (lv_sub hl [1, 2, 0] rfl)
theorem clV_Vwm_cut {p : Program} {l : Launch} {e : Env} {R : Room} {s : State} {m : MethodId} {args : Array Value} {below : List Frame} {meth : Method} {c : Code} {H : Heap} {locs : List Loc} {Q : State → Prop} {cc : ByteArray} {nL pc lev : Nat} {own : String} {D : va_G} {τ : ClassId × ClassId × ClassId} {B : Nat} {A : Nat → Prop} {σ : Sg} {ad : Nat → Nat} {ls : Array Slot} {rest : List Value} (E : Cx p R s m args meth c cc nL own lev D τ B A) (w : Wd s D A (wdM τ σ ad) H locs) {x0 : Int32} {o : Sg} (h : F_Vwm_cut σ x0 = some o) {index : Nat} (hlk : Cond.methodLink own index y_Vwm_cut ∈ tw) (hlev : 2 < lev) (hsz : ls.size = nL) (hr : (rest.map fun v => v.category).sum ≤ 8) (hd : decode cc pc = .ok (.invokevirtual index, 3)) (kk : ∀ (H1 : Heap) (locs1 : List Loc), Wd s D A (wdM τ o ad) H1 locs1 → W p l e R s m args below meth c H1 locs1 0 0 Q (F0 m (pc + 3) ls (rest))) : W p l e R s m args below meth c H locs 0 0 Q (F0 m pc ls (.int x0 :: .ref (ad 62) :: rest)) :=
  cr_v w E.C (va_runV (As := [.int x0]) (rest := rest) E.fix (c_Vwm_cut l D τ B σ ad x0 o h H.size) (cwV 1 E.w (tw_pre (tw_good k2324) (l := [_, _, _, _]) (List.forall_mem_cons.mpr ⟨hlk, List.forall_mem_cons.mpr ⟨k2323, List.forall_mem_cons.mpr ⟨ks95, List.forall_mem_cons.mpr ⟨k18, fun _ h => absurd h List.not_mem_nil⟩⟩⟩⟩)) rfl rfl rfl (by decide +kernel) (E.rm hlev (by decide))) (wd_preV w E.C [.int x0] rcM_Vwm rfl) rfl rfl hsz rfl (lv_room hr) hd ⟨Nat.zero_le _, Nat.zero_le _⟩) kk

theorem d_Vwm_depthOf_0 : decode prog_20_method_22_code 0 = .ok (.iload_n 0, 1) := by decide +kernel
theorem d_Vwm_depthOf_1 : decode prog_20_method_22_code 1 = .ok (.i2l, 1) := by decide +kernel
theorem d_Vwm_depthOf_2 : decode prog_20_method_22_code 2 = .ok (.ldc2_w 80, 3) := by decide +kernel
theorem d_Vwm_depthOf_5 : decode prog_20_method_22_code 5 = .ok (.lmul, 1) := by decide +kernel
theorem d_Vwm_depthOf_6 : decode prog_20_method_22_code 6 = .ok (.iload_n 1, 1) := by decide +kernel
theorem d_Vwm_depthOf_7 : decode prog_20_method_22_code 7 = .ok (.i2l, 1) := by decide +kernel
theorem d_Vwm_depthOf_8 : decode prog_20_method_22_code 8 = .ok (.invokestatic 82, 3) := by decide +kernel
theorem d_Vwm_depthOf_11 : decode prog_20_method_22_code 11 = .ok (.ldc2_w 80, 3) := by decide +kernel
theorem d_Vwm_depthOf_14 : decode prog_20_method_22_code 14 = .ok (.ladd, 1) := by decide +kernel
theorem d_Vwm_depthOf_15 : decode prog_20_method_22_code 15 = .ok (.lstore 4, 2) := by decide +kernel
theorem d_Vwm_depthOf_17 : decode prog_20_method_22_code 17 = .ok (.lload 4, 2) := by decide +kernel
theorem d_Vwm_depthOf_19 : decode prog_20_method_22_code 19 = .ok (.ldc2_w 104, 3) := by decide +kernel
theorem d_Vwm_depthOf_22 : decode prog_20_method_22_code 22 = .ok (.invokestatic 82, 3) := by decide +kernel
theorem d_Vwm_depthOf_25 : decode prog_20_method_22_code 25 = .ok (.lstore 6, 2) := by decide +kernel
theorem d_Vwm_depthOf_27 : decode prog_20_method_22_code 27 = .ok (.lload 4, 2) := by decide +kernel
theorem d_Vwm_depthOf_29 : decode prog_20_method_22_code 29 = .ok (.lload 6, 2) := by decide +kernel
theorem d_Vwm_depthOf_31 : decode prog_20_method_22_code 31 = .ok (.ldc2_w 104, 3) := by decide +kernel
theorem d_Vwm_depthOf_34 : decode prog_20_method_22_code 34 = .ok (.lmul, 1) := by decide +kernel
theorem d_Vwm_depthOf_35 : decode prog_20_method_22_code 35 = .ok (.lsub, 1) := by decide +kernel
theorem d_Vwm_depthOf_36 : decode prog_20_method_22_code 36 = .ok (.lstore 8, 2) := by decide +kernel
theorem d_Vwm_depthOf_38 : decode prog_20_method_22_code 38 = .ok (.iload_n 2, 1) := by decide +kernel
theorem d_Vwm_depthOf_39 : decode prog_20_method_22_code 39 = .ok (.i2l, 1) := by decide +kernel
theorem d_Vwm_depthOf_40 : decode prog_20_method_22_code 40 = .ok (.lload 6, 2) := by decide +kernel
theorem d_Vwm_depthOf_42 : decode prog_20_method_22_code 42 = .ok (.iload_n 3, 1) := by decide +kernel
theorem d_Vwm_depthOf_43 : decode prog_20_method_22_code 43 = .ok (.iload_n 2, 1) := by decide +kernel
theorem d_Vwm_depthOf_44 : decode prog_20_method_22_code 44 = .ok (.isub, 1) := by decide +kernel
theorem d_Vwm_depthOf_45 : decode prog_20_method_22_code 45 = .ok (.i2l, 1) := by decide +kernel
theorem d_Vwm_depthOf_46 : decode prog_20_method_22_code 46 = .ok (.lmul, 1) := by decide +kernel
theorem d_Vwm_depthOf_47 : decode prog_20_method_22_code 47 = .ok (.ladd, 1) := by decide +kernel
theorem d_Vwm_depthOf_48 : decode prog_20_method_22_code 48 = .ok (.lload 8, 2) := by decide +kernel
theorem d_Vwm_depthOf_50 : decode prog_20_method_22_code 50 = .ok (.iload_n 3, 1) := by decide +kernel
theorem d_Vwm_depthOf_51 : decode prog_20_method_22_code 51 = .ok (.iload_n 2, 1) := by decide +kernel
theorem d_Vwm_depthOf_52 : decode prog_20_method_22_code 52 = .ok (.isub, 1) := by decide +kernel
theorem d_Vwm_depthOf_53 : decode prog_20_method_22_code 53 = .ok (.i2l, 1) := by decide +kernel
theorem d_Vwm_depthOf_54 : decode prog_20_method_22_code 54 = .ok (.lmul, 1) := by decide +kernel
theorem d_Vwm_depthOf_55 : decode prog_20_method_22_code 55 = .ok (.ldc2_w 104, 3) := by decide +kernel
theorem d_Vwm_depthOf_58 : decode prog_20_method_22_code 58 = .ok (.invokestatic 82, 3) := by decide +kernel
theorem d_Vwm_depthOf_61 : decode prog_20_method_22_code 61 = .ok (.ladd, 1) := by decide +kernel
theorem d_Vwm_depthOf_62 : decode prog_20_method_22_code 62 = .ok (.lstore 10, 2) := by decide +kernel
theorem d_Vwm_depthOf_64 : decode prog_20_method_22_code 64 = .ok (.lload 10, 2) := by decide +kernel
theorem d_Vwm_depthOf_66 : decode prog_20_method_22_code 66 = .ok (.lconst 0, 1) := by decide +kernel
theorem d_Vwm_depthOf_67 : decode prog_20_method_22_code 67 = .ok (.lcmp, 1) := by decide +kernel
theorem d_Vwm_depthOf_68 : decode prog_20_method_22_code 68 = .ok (.ifCond .ge 7, 3) := by decide +kernel
theorem d_Vwm_depthOf_71 : decode prog_20_method_22_code 71 = .ok (.lconst 0, 1) := by decide +kernel
theorem d_Vwm_depthOf_72 : decode prog_20_method_22_code 72 = .ok (.goto 20, 3) := by decide +kernel
theorem d_Vwm_depthOf_75 : decode prog_20_method_22_code 75 = .ok (.lload 10, 2) := by decide +kernel
theorem d_Vwm_depthOf_77 : decode prog_20_method_22_code 77 = .ok (.ldc2_w 106, 3) := by decide +kernel
theorem d_Vwm_depthOf_80 : decode prog_20_method_22_code 80 = .ok (.lcmp, 1) := by decide +kernel
theorem d_Vwm_depthOf_81 : decode prog_20_method_22_code 81 = .ok (.ifCond .le 9, 3) := by decide +kernel
theorem d_Vwm_depthOf_84 : decode prog_20_method_22_code 84 = .ok (.ldc2_w 106, 3) := by decide +kernel
theorem d_Vwm_depthOf_87 : decode prog_20_method_22_code 87 = .ok (.goto 5, 3) := by decide +kernel
theorem d_Vwm_depthOf_90 : decode prog_20_method_22_code 90 = .ok (.lload 10, 2) := by decide +kernel
theorem d_Vwm_depthOf_92 : decode prog_20_method_22_code 92 = .ok (.l2i, 1) := by decide +kernel
theorem d_Vwm_depthOf_93 : decode prog_20_method_22_code 93 = .ok (.ireturn, 1) := by decide +kernel
def F_Vwm_depthOf_92  (s0 : Int64) : Option (Int32) := some s0.toInt32
set_option maxRecDepth 10000 in
set_option maxHeartbeats 4000000 in
theorem bt_Vwm_depthOf_92 {p : Program} {l : Launch} {e : Env} {R : Room} {s : State} {m : MethodId} {args : Array Value} {below : List Frame} {meth : Method} {c : Code} {D : va_G} {τ : ClassId × ClassId × ClassId} {B : Nat} {A : Nat → Prop} {ad : Nat → Nat} {σ0 : Sg} (E : Cx p R s m args meth c prog_20_method_22_code 12 "DrawingMachineModel$VertexWorkModel" 1 D τ B A) (hret : meth.sig.returnType = (some .int)) (o : Int32) (s0 : Int64) (h : F_Vwm_depthOf_92 s0 = some o) {H : Heap} {locs : List Loc} {ls : Array Slot} (w : Wd s D A (wdM τ σ0 ad) H locs) (hl : lv_has ls 12 []) : W p l e R s m args below meth c H locs 0 0 (QI below args s A D τ (wdM τ σ0 ad) o) (F0 m 92 ls [.long s0]) := by
  refine lv_l2i (v := s0.toInt32) E.x E.b d_Vwm_depthOf_92 rfl ?_
  obtain rfl := Option.some.inj h
  exact rt_i E w hret d_Vwm_depthOf_93
def F_Vwm_depthOf  (x0 : Int32) (x1 : Int32) (x2 : Int32) (x3 : Int32) : Option (Int32) := bd (F_Vwm_down (x0.toInt64 * 65536) x1.toInt64) (fun o7 => lt (o7 + 65536) (fun y8 => bd (F_Vwm_down y8 131072) (fun o9 => lt (y8 - (o9 * 131072)) (fun y10 => bd (F_Vwm_down (y10 * ((x3 - x2).toInt64)) 131072) (fun o11 => lt ((x2.toInt64 + (o9 * ((x3 - x2).toInt64))) + o11) (fun y12 => if 0 ≤ y12 then (if y12 ≤ 16777215 then (F_Vwm_depthOf_92 y12) else (F_Vwm_depthOf_92 16777215)) else (F_Vwm_depthOf_92 0)))))))
set_option maxRecDepth 10000 in
set_option maxHeartbeats 4000000 in
theorem c_Vwm_depthOf (l : Launch) (D : va_G) (τ : ClassId × ClassId × ClassId) (B : Nat) (σ0 : Sg) (ad : Nat → Nat) (x0 : Int32) (x1 : Int32) (x2 : Int32) (x3 : Int32) (o : Int32) (h : F_Vwm_depthOf x0 x1 x2 x3 = some o) : MI l y_Vwm_depthOf (Cond.code y_Vwm_depthOf prog_20_method_22_code 12 (some .int)) 1 D τ B [.int x0, .int x1, .int x2, .int x3] (wdM τ σ0 ad) (wdM τ σ0 ad) o := by
  refine en_i (by decide) (Nat.le_of_ble_eq_true rfl) ?_
  intro p e R s m args below meth c H locs ls A E hret w hl
  have E : Cx p R s m args meth c prog_20_method_22_code 12 "DrawingMachineModel$VertexWorkModel" 1 D τ B A := E
  have hl : lv_has ls 12 [(0, .int x0), (1, .int x1), (2, .int x2), (3, .int x3)] := hl
  refine lv_iload_n E.x E.b d_Vwm_depthOf_0 rfl (lv_at hl 0 rfl) ?_
  refine lv_i2l (v := x0.toInt64) E.x E.b d_Vwm_depthOf_1 rfl ?_
  refine lv_ldc2 (v := 65536) E.x E.b E.o (E.w _ k2334) d_Vwm_depthOf_2 ?_
  refine lv_lmul E.x E.b d_Vwm_depthOf_5 ?_
  refine lv_iload_n E.x E.b d_Vwm_depthOf_6 rfl (lv_at hl 1 rfl) ?_
  refine lv_i2l (v := x1.toInt64) E.x E.b d_Vwm_depthOf_7 rfl ?_
  obtain ⟨o7, h_o7, h⟩ := bd_some h
  refine clS_Vwm_down E w (x0 := (x0.toInt64 * 65536)) (x1 := x1.toInt64) h_o7 k2335 (by decide) hl.1 (Nat.le_of_ble_eq_true rfl) d_Vwm_depthOf_8 (fun H locs w => ?_)
  refine lv_ldc2 (v := 65536) E.x E.b E.o (E.w _ k2334) d_Vwm_depthOf_11 ?_
  refine lv_ladd E.x E.b d_Vwm_depthOf_14 ?_
  obtain ⟨y8, e_y8, h⟩ := lt_some h
  refine wl_e (v := y8) e_y8 ?_
  refine lv_lstore (lv' := [(4, .long y8), (0, .int x0), (1, .int x1), (2, .int x2), (3, .int x3)]) E.x E.b d_Vwm_depthOf_15 hl (by decide) rfl (fun ls hl => ?_)
  refine lv_lload E.x E.b d_Vwm_depthOf_17 (lv_at hl 0 rfl) ?_
  refine lv_ldc2 (v := 131072) E.x E.b E.o (E.w _ k2348) d_Vwm_depthOf_19 ?_
  obtain ⟨o9, h_o9, h⟩ := bd_some h
  refine clS_Vwm_down E w (x0 := y8) (x1 := 131072) h_o9 k2335 (by decide) hl.1 (Nat.le_of_ble_eq_true rfl) d_Vwm_depthOf_22 (fun H locs w => ?_)
  refine lv_lstore (lv' := [(6, .long o9), (4, .long y8), (0, .int x0), (1, .int x1), (2, .int x2), (3, .int x3)]) E.x E.b d_Vwm_depthOf_25 hl (by decide) rfl (fun ls hl => ?_)
  refine lv_lload E.x E.b d_Vwm_depthOf_27 (lv_at hl 1 rfl) ?_
  refine lv_lload E.x E.b d_Vwm_depthOf_29 (lv_at hl 0 rfl) ?_
  refine lv_ldc2 (v := 131072) E.x E.b E.o (E.w _ k2348) d_Vwm_depthOf_31 ?_
  refine lv_lmul E.x E.b d_Vwm_depthOf_34 ?_
  refine lv_lsub E.x E.b d_Vwm_depthOf_35 ?_
  obtain ⟨y10, e_y10, h⟩ := lt_some h
  refine wl_e (v := y10) e_y10 ?_
  refine lv_lstore (lv' := [(8, .long y10), (6, .long o9), (4, .long y8), (0, .int x0), (1, .int x1), (2, .int x2), (3, .int x3)]) E.x E.b d_Vwm_depthOf_36 hl (by decide) rfl (fun ls hl => ?_)
  refine lv_iload_n E.x E.b d_Vwm_depthOf_38 rfl (lv_at hl 5 rfl) ?_
  refine lv_i2l (v := x2.toInt64) E.x E.b d_Vwm_depthOf_39 rfl ?_
  refine lv_lload E.x E.b d_Vwm_depthOf_40 (lv_at hl 1 rfl) ?_
  refine lv_iload_n E.x E.b d_Vwm_depthOf_42 rfl (lv_at hl 6 rfl) ?_
  refine lv_iload_n E.x E.b d_Vwm_depthOf_43 rfl (lv_at hl 5 rfl) ?_
  refine lv_isub E.x E.b d_Vwm_depthOf_44 ?_
  refine lv_i2l (v := (x3 - x2).toInt64) E.x E.b d_Vwm_depthOf_45 rfl ?_
  refine lv_lmul E.x E.b d_Vwm_depthOf_46 ?_
  refine lv_ladd E.x E.b d_Vwm_depthOf_47 ?_
  refine lv_lload E.x E.b d_Vwm_depthOf_48 (lv_at hl 0 rfl) ?_
  refine lv_iload_n E.x E.b d_Vwm_depthOf_50 rfl (lv_at hl 6 rfl) ?_
  refine lv_iload_n E.x E.b d_Vwm_depthOf_51 rfl (lv_at hl 5 rfl) ?_
  refine lv_isub E.x E.b d_Vwm_depthOf_52 ?_
  refine lv_i2l (v := (x3 - x2).toInt64) E.x E.b d_Vwm_depthOf_53 rfl ?_
  refine lv_lmul E.x E.b d_Vwm_depthOf_54 ?_
  refine lv_ldc2 (v := 131072) E.x E.b E.o (E.w _ k2348) d_Vwm_depthOf_55 ?_
  obtain ⟨o11, h_o11, h⟩ := bd_some h
  refine clS_Vwm_down E w (x0 := (y10 * ((x3 - x2).toInt64))) (x1 := 131072) h_o11 k2335 (by decide) hl.1 (Nat.le_of_ble_eq_true rfl) d_Vwm_depthOf_58 (fun H locs w => ?_)
  refine lv_ladd E.x E.b d_Vwm_depthOf_61 ?_
  obtain ⟨y12, e_y12, h⟩ := lt_some h
  refine wl_e (v := y12) e_y12 ?_
  refine lv_lstore (lv' := [(10, .long y12), (8, .long y10), (6, .long o9), (4, .long y8), (0, .int x0), (1, .int x1), (2, .int x2), (3, .int x3)]) E.x E.b d_Vwm_depthOf_62 hl (by decide) rfl (fun ls hl => ?_)
  refine lv_lload E.x E.b d_Vwm_depthOf_64 (lv_at hl 0 rfl) ?_
  refine lv_lconst (v := 0) E.x E.b d_Vwm_depthOf_66 (by decide) ?_
  refine W.lcmp E.x E.b d_Vwm_depthOf_67 ?_
  refine lv_if_ge (tgt := 75) E.x E.b d_Vwm_depthOf_68 (by decide) (fun c => ?_) (fun c => ?_)
  ·
    replace h := ifT (lgc_ge.mp c) h
    refine lv_lload E.x E.b d_Vwm_depthOf_75 (lv_at hl 0 rfl) ?_
    refine lv_ldc2 (v := 16777215) E.x E.b E.o (E.w _ k2349) d_Vwm_depthOf_77 ?_
    refine W.lcmp E.x E.b d_Vwm_depthOf_80 ?_
    refine lv_if_le (tgt := 90) E.x E.b d_Vwm_depthOf_81 (by decide) (fun c => ?_) (fun c => ?_)
    ·
      replace h := ifT (lgc_le.mp c) h
      refine lv_lload E.x E.b d_Vwm_depthOf_90 (lv_at hl 0 rfl) ?_
      exact bt_Vwm_depthOf_92 E hret o y12 h w (lv_sub hl [] rfl)
    ·
      replace h := ifF (fun h9 => c (lgc_le.mpr h9)) h
      refine lv_ldc2 (v := 16777215) E.x E.b E.o (E.w _ k2349) d_Vwm_depthOf_84 ?_
      refine lv_goto (tgt := 92) E.x E.b d_Vwm_depthOf_87 (by decide) ?_
      exact bt_Vwm_depthOf_92 E hret o 16777215 h w (lv_sub hl [] rfl)
  ·
    replace h := ifF (fun h9 => c (lgc_ge.mpr h9)) h
    refine lv_lconst (v := 0) E.x E.b d_Vwm_depthOf_71 (by decide) ?_
    refine lv_goto (tgt := 92) E.x E.b d_Vwm_depthOf_72 (by decide) ?_
    exact bt_Vwm_depthOf_92 E hret o 0 h w (lv_sub hl [] rfl)
theorem clS_Vwm_depthOf {p : Program} {l : Launch} {e : Env} {R : Room} {s : State} {m : MethodId} {args : Array Value} {below : List Frame} {meth : Method} {c : Code} {H : Heap} {locs : List Loc} {Q : State → Prop} {cc : ByteArray} {nL pc lev : Nat} {own : String} {D : va_G} {τ : ClassId × ClassId × ClassId} {B : Nat} {A : Nat → Prop} {σ : Sg} {ad : Nat → Nat} {ls : Array Slot} {rest : List Value} (E : Cx p R s m args meth c cc nL own lev D τ B A) (w : Wd s D A (wdM τ σ ad) H locs) {x0 : Int32} {x1 : Int32} {x2 : Int32} {x3 : Int32} {o : Int32} (h : F_Vwm_depthOf x0 x1 x2 x3 = some o) {index : Nat} (hlk : Cond.methodLink own index y_Vwm_depthOf ∈ tw) (hlev : 1 < lev) (hsz : ls.size = nL) (hr : (rest.map fun v => v.category).sum ≤ 8) (hd : decode cc pc = .ok (.invokestatic index, 3)) (kk : ∀ (H1 : Heap) (locs1 : List Loc), Wd s D A (wdM τ σ ad) H1 locs1 → W p l e R s m args below meth c H1 locs1 0 0 Q (F0 m (pc + 3) ls (.int o :: rest))) : W p l e R s m args below meth c H locs 0 0 Q (F0 m pc ls (.int x3 :: .int x2 :: .int x1 :: .int x0 :: rest)) :=
  cr_i w E.C (va_runS (As := [.int x0, .int x1, .int x2, .int x3]) (rest := rest) E.fix (c_Vwm_depthOf l D τ B σ ad x0 x1 x2 x3 o h H.size) (va_cwS 4 E.w (tw_pre (tw_good k2347) (l := [_, _, _]) (List.forall_mem_cons.mpr ⟨hlk, List.forall_mem_cons.mpr ⟨k2346, List.forall_mem_cons.mpr ⟨k18, fun _ h => absurd h List.not_mem_nil⟩⟩⟩)) rfl rfl rfl (by decide +kernel) (E.rm hlev (by decide))) (wd_pre w E.C [.int x0, .int x1, .int x2, .int x3]) rfl rfl hsz rfl (lv_room hr) hd ⟨Nat.zero_le _, Nat.zero_le _⟩) kk

theorem d_Vwm_lay_0 : decode prog_20_method_21_code 0 = .ok (.iload_n 0, 1) := by decide +kernel
theorem d_Vwm_lay_1 : decode prog_20_method_21_code 1 = .ok (.i2l, 1) := by decide +kernel
theorem d_Vwm_lay_2 : decode prog_20_method_21_code 2 = .ok (.ldc2_w 80, 3) := by decide +kernel
theorem d_Vwm_lay_5 : decode prog_20_method_21_code 5 = .ok (.lmul, 1) := by decide +kernel
theorem d_Vwm_lay_6 : decode prog_20_method_21_code 6 = .ok (.iload_n 1, 1) := by decide +kernel
theorem d_Vwm_lay_7 : decode prog_20_method_21_code 7 = .ok (.i2l, 1) := by decide +kernel
theorem d_Vwm_lay_8 : decode prog_20_method_21_code 8 = .ok (.invokestatic 82, 3) := by decide +kernel
theorem d_Vwm_lay_11 : decode prog_20_method_21_code 11 = .ok (.ldc2_w 80, 3) := by decide +kernel
theorem d_Vwm_lay_14 : decode prog_20_method_21_code 14 = .ok (.ladd, 1) := by decide +kernel
theorem d_Vwm_lay_15 : decode prog_20_method_21_code 15 = .ok (.lstore 4, 2) := by decide +kernel
theorem d_Vwm_lay_17 : decode prog_20_method_21_code 17 = .ok (.ldc2_w 96, 3) := by decide +kernel
theorem d_Vwm_lay_20 : decode prog_20_method_21_code 20 = .ok (.iload_n 2, 1) := by decide +kernel
theorem d_Vwm_lay_21 : decode prog_20_method_21_code 21 = .ok (.i2l, 1) := by decide +kernel
theorem d_Vwm_lay_22 : decode prog_20_method_21_code 22 = .ok (.lmul, 1) := by decide +kernel
theorem d_Vwm_lay_23 : decode prog_20_method_21_code 23 = .ok (.lload 4, 2) := by decide +kernel
theorem d_Vwm_lay_25 : decode prog_20_method_21_code 25 = .ok (.iload_n 3, 1) := by decide +kernel
theorem d_Vwm_lay_26 : decode prog_20_method_21_code 26 = .ok (.i2l, 1) := by decide +kernel
theorem d_Vwm_lay_27 : decode prog_20_method_21_code 27 = .ok (.lmul, 1) := by decide +kernel
theorem d_Vwm_lay_28 : decode prog_20_method_21_code 28 = .ok (.ldc2_w 98, 3) := by decide +kernel
theorem d_Vwm_lay_31 : decode prog_20_method_21_code 31 = .ok (.invokestatic 82, 3) := by decide +kernel
theorem d_Vwm_lay_34 : decode prog_20_method_21_code 34 = .ok (.ladd, 1) := by decide +kernel
theorem d_Vwm_lay_35 : decode prog_20_method_21_code 35 = .ok (.lstore 6, 2) := by decide +kernel
theorem d_Vwm_lay_37 : decode prog_20_method_21_code 37 = .ok (.lload 6, 2) := by decide +kernel
theorem d_Vwm_lay_39 : decode prog_20_method_21_code 39 = .ok (.ldc2_w 100, 3) := by decide +kernel
theorem d_Vwm_lay_42 : decode prog_20_method_21_code 42 = .ok (.lcmp, 1) := by decide +kernel
theorem d_Vwm_lay_43 : decode prog_20_method_21_code 43 = .ok (.ifCond .ge 9, 3) := by decide +kernel
theorem d_Vwm_lay_46 : decode prog_20_method_21_code 46 = .ok (.ldc2_w 100, 3) := by decide +kernel
theorem d_Vwm_lay_49 : decode prog_20_method_21_code 49 = .ok (.goto 20, 3) := by decide +kernel
theorem d_Vwm_lay_52 : decode prog_20_method_21_code 52 = .ok (.lload 6, 2) := by decide +kernel
theorem d_Vwm_lay_54 : decode prog_20_method_21_code 54 = .ok (.ldc2_w 102, 3) := by decide +kernel
theorem d_Vwm_lay_57 : decode prog_20_method_21_code 57 = .ok (.lcmp, 1) := by decide +kernel
theorem d_Vwm_lay_58 : decode prog_20_method_21_code 58 = .ok (.ifCond .le 9, 3) := by decide +kernel
theorem d_Vwm_lay_61 : decode prog_20_method_21_code 61 = .ok (.ldc2_w 102, 3) := by decide +kernel
theorem d_Vwm_lay_64 : decode prog_20_method_21_code 64 = .ok (.goto 5, 3) := by decide +kernel
theorem d_Vwm_lay_67 : decode prog_20_method_21_code 67 = .ok (.lload 6, 2) := by decide +kernel
theorem d_Vwm_lay_69 : decode prog_20_method_21_code 69 = .ok (.l2i, 1) := by decide +kernel
theorem d_Vwm_lay_70 : decode prog_20_method_21_code 70 = .ok (.ireturn, 1) := by decide +kernel
def F_Vwm_lay_69  (s0 : Int64) : Option (Int32) := some s0.toInt32
set_option maxRecDepth 10000 in
set_option maxHeartbeats 4000000 in
theorem bt_Vwm_lay_69 {p : Program} {l : Launch} {e : Env} {R : Room} {s : State} {m : MethodId} {args : Array Value} {below : List Frame} {meth : Method} {c : Code} {D : va_G} {τ : ClassId × ClassId × ClassId} {B : Nat} {A : Nat → Prop} {ad : Nat → Nat} {σ0 : Sg} (E : Cx p R s m args meth c prog_20_method_21_code 8 "DrawingMachineModel$VertexWorkModel" 1 D τ B A) (hret : meth.sig.returnType = (some .int)) (o : Int32) (s0 : Int64) (h : F_Vwm_lay_69 s0 = some o) {H : Heap} {locs : List Loc} {ls : Array Slot} (w : Wd s D A (wdM τ σ0 ad) H locs) (hl : lv_has ls 8 []) : W p l e R s m args below meth c H locs 0 0 (QI below args s A D τ (wdM τ σ0 ad) o) (F0 m 69 ls [.long s0]) := by
  refine lv_l2i (v := s0.toInt32) E.x E.b d_Vwm_lay_69 rfl ?_
  obtain rfl := Option.some.inj h
  exact rt_i E w hret d_Vwm_lay_70
def F_Vwm_lay  (x0 : Int32) (x1 : Int32) (x2 : Int32) (x3 : Int32) : Option (Int32) := bd (F_Vwm_down (x0.toInt64 * 65536) x1.toInt64) (fun o5 => lt (o5 + 65536) (fun y6 => bd (F_Vwm_down (y6 * x3.toInt64) 8192) (fun o7 => lt ((16 * x2.toInt64) + o7) (fun y8 => if (-16384) ≤ y8 then (if y8 ≤ 16383 then (F_Vwm_lay_69 y8) else (F_Vwm_lay_69 16383)) else (F_Vwm_lay_69 (-16384))))))
set_option maxRecDepth 10000 in
set_option maxHeartbeats 4000000 in
theorem c_Vwm_lay (l : Launch) (D : va_G) (τ : ClassId × ClassId × ClassId) (B : Nat) (σ0 : Sg) (ad : Nat → Nat) (x0 : Int32) (x1 : Int32) (x2 : Int32) (x3 : Int32) (o : Int32) (h : F_Vwm_lay x0 x1 x2 x3 = some o) : MI l y_Vwm_lay (Cond.code y_Vwm_lay prog_20_method_21_code 8 (some .int)) 1 D τ B [.int x0, .int x1, .int x2, .int x3] (wdM τ σ0 ad) (wdM τ σ0 ad) o := by
  refine en_i (by decide) (Nat.le_of_ble_eq_true rfl) ?_
  intro p e R s m args below meth c H locs ls A E hret w hl
  have E : Cx p R s m args meth c prog_20_method_21_code 8 "DrawingMachineModel$VertexWorkModel" 1 D τ B A := E
  have hl : lv_has ls 8 [(0, .int x0), (1, .int x1), (2, .int x2), (3, .int x3)] := hl
  refine lv_iload_n E.x E.b d_Vwm_lay_0 rfl (lv_at hl 0 rfl) ?_
  refine lv_i2l (v := x0.toInt64) E.x E.b d_Vwm_lay_1 rfl ?_
  refine lv_ldc2 (v := 65536) E.x E.b E.o (E.w _ k2334) d_Vwm_lay_2 ?_
  refine lv_lmul E.x E.b d_Vwm_lay_5 ?_
  refine lv_iload_n E.x E.b d_Vwm_lay_6 rfl (lv_at hl 1 rfl) ?_
  refine lv_i2l (v := x1.toInt64) E.x E.b d_Vwm_lay_7 rfl ?_
  obtain ⟨o5, h_o5, h⟩ := bd_some h
  refine clS_Vwm_down E w (x0 := (x0.toInt64 * 65536)) (x1 := x1.toInt64) h_o5 k2335 (by decide) hl.1 (Nat.le_of_ble_eq_true rfl) d_Vwm_lay_8 (fun H locs w => ?_)
  refine lv_ldc2 (v := 65536) E.x E.b E.o (E.w _ k2334) d_Vwm_lay_11 ?_
  refine lv_ladd E.x E.b d_Vwm_lay_14 ?_
  obtain ⟨y6, e_y6, h⟩ := lt_some h
  refine wl_e (v := y6) e_y6 ?_
  refine lv_lstore (lv' := [(4, .long y6), (0, .int x0), (1, .int x1), (2, .int x2), (3, .int x3)]) E.x E.b d_Vwm_lay_15 hl (by decide) rfl (fun ls hl => ?_)
  refine lv_ldc2 (v := 16) E.x E.b E.o (E.w _ k2341) d_Vwm_lay_17 ?_
  refine lv_iload_n E.x E.b d_Vwm_lay_20 rfl (lv_at hl 3 rfl) ?_
  refine lv_i2l (v := x2.toInt64) E.x E.b d_Vwm_lay_21 rfl ?_
  refine lv_lmul E.x E.b d_Vwm_lay_22 ?_
  refine lv_lload E.x E.b d_Vwm_lay_23 (lv_at hl 0 rfl) ?_
  refine lv_iload_n E.x E.b d_Vwm_lay_25 rfl (lv_at hl 4 rfl) ?_
  refine lv_i2l (v := x3.toInt64) E.x E.b d_Vwm_lay_26 rfl ?_
  refine lv_lmul E.x E.b d_Vwm_lay_27 ?_
  refine lv_ldc2 (v := 8192) E.x E.b E.o (E.w _ k2342) d_Vwm_lay_28 ?_
  obtain ⟨o7, h_o7, h⟩ := bd_some h
  refine clS_Vwm_down E w (x0 := (y6 * x3.toInt64)) (x1 := 8192) h_o7 k2335 (by decide) hl.1 (Nat.le_of_ble_eq_true rfl) d_Vwm_lay_31 (fun H locs w => ?_)
  refine lv_ladd E.x E.b d_Vwm_lay_34 ?_
  obtain ⟨y8, e_y8, h⟩ := lt_some h
  refine wl_e (v := y8) e_y8 ?_
  refine lv_lstore (lv' := [(6, .long y8), (4, .long y6), (0, .int x0), (1, .int x1), (2, .int x2), (3, .int x3)]) E.x E.b d_Vwm_lay_35 hl (by decide) rfl (fun ls hl => ?_)
  refine lv_lload E.x E.b d_Vwm_lay_37 (lv_at hl 0 rfl) ?_
  refine lv_ldc2 (v := (-16384)) E.x E.b E.o (E.w _ k2343) d_Vwm_lay_39 ?_
  refine W.lcmp E.x E.b d_Vwm_lay_42 ?_
  refine lv_if_ge (tgt := 52) E.x E.b d_Vwm_lay_43 (by decide) (fun c => ?_) (fun c => ?_)
  ·
    replace h := ifT (lgc_ge.mp c) h
    refine lv_lload E.x E.b d_Vwm_lay_52 (lv_at hl 0 rfl) ?_
    refine lv_ldc2 (v := 16383) E.x E.b E.o (E.w _ k2344) d_Vwm_lay_54 ?_
    refine W.lcmp E.x E.b d_Vwm_lay_57 ?_
    refine lv_if_le (tgt := 67) E.x E.b d_Vwm_lay_58 (by decide) (fun c => ?_) (fun c => ?_)
    ·
      replace h := ifT (lgc_le.mp c) h
      refine lv_lload E.x E.b d_Vwm_lay_67 (lv_at hl 0 rfl) ?_
      exact bt_Vwm_lay_69 E hret o y8 h w (lv_sub hl [] rfl)
    ·
      replace h := ifF (fun h9 => c (lgc_le.mpr h9)) h
      refine lv_ldc2 (v := 16383) E.x E.b E.o (E.w _ k2344) d_Vwm_lay_61 ?_
      refine lv_goto (tgt := 69) E.x E.b d_Vwm_lay_64 (by decide) ?_
      exact bt_Vwm_lay_69 E hret o 16383 h w (lv_sub hl [] rfl)
  ·
    replace h := ifF (fun h9 => c (lgc_ge.mpr h9)) h
    refine lv_ldc2 (v := (-16384)) E.x E.b E.o (E.w _ k2343) d_Vwm_lay_46 ?_
    refine lv_goto (tgt := 69) E.x E.b d_Vwm_lay_49 (by decide) ?_
    exact bt_Vwm_lay_69 E hret o (-16384) h w (lv_sub hl [] rfl)
theorem clS_Vwm_lay {p : Program} {l : Launch} {e : Env} {R : Room} {s : State} {m : MethodId} {args : Array Value} {below : List Frame} {meth : Method} {c : Code} {H : Heap} {locs : List Loc} {Q : State → Prop} {cc : ByteArray} {nL pc lev : Nat} {own : String} {D : va_G} {τ : ClassId × ClassId × ClassId} {B : Nat} {A : Nat → Prop} {σ : Sg} {ad : Nat → Nat} {ls : Array Slot} {rest : List Value} (E : Cx p R s m args meth c cc nL own lev D τ B A) (w : Wd s D A (wdM τ σ ad) H locs) {x0 : Int32} {x1 : Int32} {x2 : Int32} {x3 : Int32} {o : Int32} (h : F_Vwm_lay x0 x1 x2 x3 = some o) {index : Nat} (hlk : Cond.methodLink own index y_Vwm_lay ∈ tw) (hlev : 1 < lev) (hsz : ls.size = nL) (hr : (rest.map fun v => v.category).sum ≤ 8) (hd : decode cc pc = .ok (.invokestatic index, 3)) (kk : ∀ (H1 : Heap) (locs1 : List Loc), Wd s D A (wdM τ σ ad) H1 locs1 → W p l e R s m args below meth c H1 locs1 0 0 Q (F0 m (pc + 3) ls (.int o :: rest))) : W p l e R s m args below meth c H locs 0 0 Q (F0 m pc ls (.int x3 :: .int x2 :: .int x1 :: .int x0 :: rest)) :=
  cr_i w E.C (va_runS (As := [.int x0, .int x1, .int x2, .int x3]) (rest := rest) E.fix (c_Vwm_lay l D τ B σ ad x0 x1 x2 x3 o h H.size) (va_cwS 4 E.w (tw_pre (tw_good k2340) (l := [_, _, _]) (List.forall_mem_cons.mpr ⟨hlk, List.forall_mem_cons.mpr ⟨k2339, List.forall_mem_cons.mpr ⟨k18, fun _ h => absurd h List.not_mem_nil⟩⟩⟩)) rfl rfl rfl (by decide +kernel) (E.rm hlev (by decide))) (wd_pre w E.C [.int x0, .int x1, .int x2, .int x3]) rfl rfl hsz rfl (lv_room hr) hd ⟨Nat.zero_le _, Nat.zero_le _⟩) kk

theorem d_Vwm_make_0 : decode prog_20_method_23_code 0 = .ok (.aload_n 0, 1) := by decide +kernel
theorem d_Vwm_make_1 : decode prog_20_method_23_code 1 = .ok (.iconst 0, 1) := by decide +kernel
theorem d_Vwm_make_2 : decode prog_20_method_23_code 2 = .ok (.putfield 32, 3) := by decide +kernel
theorem d_Vwm_make_5 : decode prog_20_method_23_code 5 = .ok (.aload_n 0, 1) := by decide +kernel
theorem d_Vwm_make_6 : decode prog_20_method_23_code 6 = .ok (.iconst 3, 1) := by decide +kernel
theorem d_Vwm_make_7 : decode prog_20_method_23_code 7 = .ok (.putfield 89, 3) := by decide +kernel
theorem d_Vwm_make_10 : decode prog_20_method_23_code 10 = .ok (.iconst 0, 1) := by decide +kernel
theorem d_Vwm_make_11 : decode prog_20_method_23_code 11 = .ok (.istore_n 1, 1) := by decide +kernel
theorem d_Vwm_make_12 : decode prog_20_method_23_code 12 = .ok (.iload_n 1, 1) := by decide +kernel
theorem d_Vwm_make_13 : decode prog_20_method_23_code 13 = .ok (.bipush 96, 2) := by decide +kernel
theorem d_Vwm_make_15 : decode prog_20_method_23_code 15 = .ok (.if_icmp .ge 21, 3) := by decide +kernel
theorem d_Vwm_make_18 : decode prog_20_method_23_code 18 = .ok (.aload_n 0, 1) := by decide +kernel
theorem d_Vwm_make_19 : decode prog_20_method_23_code 19 = .ok (.getfield 19, 3) := by decide +kernel
theorem d_Vwm_make_22 : decode prog_20_method_23_code 22 = .ok (.iload_n 1, 1) := by decide +kernel
theorem d_Vwm_make_23 : decode prog_20_method_23_code 23 = .ok (.aload_n 0, 1) := by decide +kernel
theorem d_Vwm_make_24 : decode prog_20_method_23_code 24 = .ok (.getfield 13, 3) := by decide +kernel
theorem d_Vwm_make_27 : decode prog_20_method_23_code 27 = .ok (.iload_n 1, 1) := by decide +kernel
theorem d_Vwm_make_28 : decode prog_20_method_23_code 28 = .ok (.iaload, 1) := by decide +kernel
theorem d_Vwm_make_29 : decode prog_20_method_23_code 29 = .ok (.iastore, 1) := by decide +kernel
theorem d_Vwm_make_30 : decode prog_20_method_23_code 30 = .ok (.iinc 1 1, 3) := by decide +kernel
theorem d_Vwm_make_33 : decode prog_20_method_23_code 33 = .ok (.goto (-21), 3) := by decide +kernel
theorem d_Vwm_make_36 : decode prog_20_method_23_code 36 = .ok (.aload_n 0, 1) := by decide +kernel
theorem d_Vwm_make_37 : decode prog_20_method_23_code 37 = .ok (.iconst 0, 1) := by decide +kernel
theorem d_Vwm_make_38 : decode prog_20_method_23_code 38 = .ok (.invokevirtual 108, 3) := by decide +kernel
theorem d_Vwm_make_41 : decode prog_20_method_23_code 41 = .ok (.aload_n 0, 1) := by decide +kernel
theorem d_Vwm_make_42 : decode prog_20_method_23_code 42 = .ok (.iconst 1, 1) := by decide +kernel
theorem d_Vwm_make_43 : decode prog_20_method_23_code 43 = .ok (.invokevirtual 108, 3) := by decide +kernel
theorem d_Vwm_make_46 : decode prog_20_method_23_code 46 = .ok (.iconst 0, 1) := by decide +kernel
theorem d_Vwm_make_47 : decode prog_20_method_23_code 47 = .ok (.istore_n 1, 1) := by decide +kernel
theorem d_Vwm_make_48 : decode prog_20_method_23_code 48 = .ok (.iload_n 1, 1) := by decide +kernel
theorem d_Vwm_make_49 : decode prog_20_method_23_code 49 = .ok (.aload_n 0, 1) := by decide +kernel
theorem d_Vwm_make_50 : decode prog_20_method_23_code 50 = .ok (.getfield 89, 3) := by decide +kernel
theorem d_Vwm_make_53 : decode prog_20_method_23_code 53 = .ok (.if_icmp .ge 153, 3) := by decide +kernel
theorem d_Vwm_make_56 : decode prog_20_method_23_code 56 = .ok (.aload_n 0, 1) := by decide +kernel
theorem d_Vwm_make_57 : decode prog_20_method_23_code 57 = .ok (.getfield 19, 3) := by decide +kernel
theorem d_Vwm_make_60 : decode prog_20_method_23_code 60 = .ok (.bipush 32, 2) := by decide +kernel
theorem d_Vwm_make_62 : decode prog_20_method_23_code 62 = .ok (.iload_n 1, 1) := by decide +kernel
theorem d_Vwm_make_63 : decode prog_20_method_23_code 63 = .ok (.imul, 1) := by decide +kernel
theorem d_Vwm_make_64 : decode prog_20_method_23_code 64 = .ok (.iconst 3, 1) := by decide +kernel
theorem d_Vwm_make_65 : decode prog_20_method_23_code 65 = .ok (.iadd, 1) := by decide +kernel
theorem d_Vwm_make_66 : decode prog_20_method_23_code 66 = .ok (.iaload, 1) := by decide +kernel
theorem d_Vwm_make_67 : decode prog_20_method_23_code 67 = .ok (.istore_n 2, 1) := by decide +kernel
theorem d_Vwm_make_68 : decode prog_20_method_23_code 68 = .ok (.aload_n 0, 1) := by decide +kernel
theorem d_Vwm_make_69 : decode prog_20_method_23_code 69 = .ok (.getfield 25, 3) := by decide +kernel
theorem d_Vwm_make_72 : decode prog_20_method_23_code 72 = .ok (.iconst 4, 1) := by decide +kernel
theorem d_Vwm_make_73 : decode prog_20_method_23_code 73 = .ok (.iload_n 1, 1) := by decide +kernel
theorem d_Vwm_make_74 : decode prog_20_method_23_code 74 = .ok (.imul, 1) := by decide +kernel
theorem d_Vwm_make_75 : decode prog_20_method_23_code 75 = .ok (.aload_n 0, 1) := by decide +kernel
theorem d_Vwm_make_76 : decode prog_20_method_23_code 76 = .ok (.getfield 19, 3) := by decide +kernel
theorem d_Vwm_make_79 : decode prog_20_method_23_code 79 = .ok (.bipush 32, 2) := by decide +kernel
theorem d_Vwm_make_81 : decode prog_20_method_23_code 81 = .ok (.iload_n 1, 1) := by decide +kernel
theorem d_Vwm_make_82 : decode prog_20_method_23_code 82 = .ok (.imul, 1) := by decide +kernel
theorem d_Vwm_make_83 : decode prog_20_method_23_code 83 = .ok (.iaload, 1) := by decide +kernel
theorem d_Vwm_make_84 : decode prog_20_method_23_code 84 = .ok (.iload_n 2, 1) := by decide +kernel
theorem d_Vwm_make_85 : decode prog_20_method_23_code 85 = .ok (.aload_n 0, 1) := by decide +kernel
theorem d_Vwm_make_86 : decode prog_20_method_23_code 86 = .ok (.getfield 16, 3) := by decide +kernel
theorem d_Vwm_make_89 : decode prog_20_method_23_code 89 = .ok (.iconst 0, 1) := by decide +kernel
theorem d_Vwm_make_90 : decode prog_20_method_23_code 90 = .ok (.iaload, 1) := by decide +kernel
theorem d_Vwm_make_91 : decode prog_20_method_23_code 91 = .ok (.aload_n 0, 1) := by decide +kernel
theorem d_Vwm_make_92 : decode prog_20_method_23_code 92 = .ok (.getfield 16, 3) := by decide +kernel
theorem d_Vwm_make_95 : decode prog_20_method_23_code 95 = .ok (.iconst 2, 1) := by decide +kernel
theorem d_Vwm_make_96 : decode prog_20_method_23_code 96 = .ok (.iaload, 1) := by decide +kernel
theorem d_Vwm_make_97 : decode prog_20_method_23_code 97 = .ok (.invokestatic 112, 3) := by decide +kernel
theorem d_Vwm_make_100 : decode prog_20_method_23_code 100 = .ok (.iastore, 1) := by decide +kernel
theorem d_Vwm_make_101 : decode prog_20_method_23_code 101 = .ok (.aload_n 0, 1) := by decide +kernel
theorem d_Vwm_make_102 : decode prog_20_method_23_code 102 = .ok (.getfield 25, 3) := by decide +kernel
theorem d_Vwm_make_105 : decode prog_20_method_23_code 105 = .ok (.iconst 4, 1) := by decide +kernel
theorem d_Vwm_make_106 : decode prog_20_method_23_code 106 = .ok (.iload_n 1, 1) := by decide +kernel
theorem d_Vwm_make_107 : decode prog_20_method_23_code 107 = .ok (.imul, 1) := by decide +kernel
theorem d_Vwm_make_108 : decode prog_20_method_23_code 108 = .ok (.iconst 1, 1) := by decide +kernel
theorem d_Vwm_make_109 : decode prog_20_method_23_code 109 = .ok (.iadd, 1) := by decide +kernel
theorem d_Vwm_make_110 : decode prog_20_method_23_code 110 = .ok (.aload_n 0, 1) := by decide +kernel
theorem d_Vwm_make_111 : decode prog_20_method_23_code 111 = .ok (.getfield 19, 3) := by decide +kernel
theorem d_Vwm_make_114 : decode prog_20_method_23_code 114 = .ok (.bipush 32, 2) := by decide +kernel
theorem d_Vwm_make_116 : decode prog_20_method_23_code 116 = .ok (.iload_n 1, 1) := by decide +kernel
theorem d_Vwm_make_117 : decode prog_20_method_23_code 117 = .ok (.imul, 1) := by decide +kernel
theorem d_Vwm_make_118 : decode prog_20_method_23_code 118 = .ok (.iconst 1, 1) := by decide +kernel
theorem d_Vwm_make_119 : decode prog_20_method_23_code 119 = .ok (.iadd, 1) := by decide +kernel
theorem d_Vwm_make_120 : decode prog_20_method_23_code 120 = .ok (.iaload, 1) := by decide +kernel
theorem d_Vwm_make_121 : decode prog_20_method_23_code 121 = .ok (.iload_n 2, 1) := by decide +kernel
theorem d_Vwm_make_122 : decode prog_20_method_23_code 122 = .ok (.aload_n 0, 1) := by decide +kernel
theorem d_Vwm_make_123 : decode prog_20_method_23_code 123 = .ok (.getfield 16, 3) := by decide +kernel
theorem d_Vwm_make_126 : decode prog_20_method_23_code 126 = .ok (.iconst 1, 1) := by decide +kernel
theorem d_Vwm_make_127 : decode prog_20_method_23_code 127 = .ok (.iaload, 1) := by decide +kernel
theorem d_Vwm_make_128 : decode prog_20_method_23_code 128 = .ok (.aload_n 0, 1) := by decide +kernel
theorem d_Vwm_make_129 : decode prog_20_method_23_code 129 = .ok (.getfield 16, 3) := by decide +kernel
theorem d_Vwm_make_132 : decode prog_20_method_23_code 132 = .ok (.iconst 3, 1) := by decide +kernel
theorem d_Vwm_make_133 : decode prog_20_method_23_code 133 = .ok (.iaload, 1) := by decide +kernel
theorem d_Vwm_make_134 : decode prog_20_method_23_code 134 = .ok (.invokestatic 112, 3) := by decide +kernel
theorem d_Vwm_make_137 : decode prog_20_method_23_code 137 = .ok (.iastore, 1) := by decide +kernel
theorem d_Vwm_make_138 : decode prog_20_method_23_code 138 = .ok (.aload_n 0, 1) := by decide +kernel
theorem d_Vwm_make_139 : decode prog_20_method_23_code 139 = .ok (.getfield 25, 3) := by decide +kernel
theorem d_Vwm_make_142 : decode prog_20_method_23_code 142 = .ok (.iconst 4, 1) := by decide +kernel
theorem d_Vwm_make_143 : decode prog_20_method_23_code 143 = .ok (.iload_n 1, 1) := by decide +kernel
theorem d_Vwm_make_144 : decode prog_20_method_23_code 144 = .ok (.imul, 1) := by decide +kernel
theorem d_Vwm_make_145 : decode prog_20_method_23_code 145 = .ok (.iconst 2, 1) := by decide +kernel
theorem d_Vwm_make_146 : decode prog_20_method_23_code 146 = .ok (.iadd, 1) := by decide +kernel
theorem d_Vwm_make_147 : decode prog_20_method_23_code 147 = .ok (.aload_n 0, 1) := by decide +kernel
theorem d_Vwm_make_148 : decode prog_20_method_23_code 148 = .ok (.getfield 19, 3) := by decide +kernel
theorem d_Vwm_make_151 : decode prog_20_method_23_code 151 = .ok (.bipush 32, 2) := by decide +kernel
theorem d_Vwm_make_153 : decode prog_20_method_23_code 153 = .ok (.iload_n 1, 1) := by decide +kernel
theorem d_Vwm_make_154 : decode prog_20_method_23_code 154 = .ok (.imul, 1) := by decide +kernel
theorem d_Vwm_make_155 : decode prog_20_method_23_code 155 = .ok (.iconst 2, 1) := by decide +kernel
theorem d_Vwm_make_156 : decode prog_20_method_23_code 156 = .ok (.iadd, 1) := by decide +kernel
theorem d_Vwm_make_157 : decode prog_20_method_23_code 157 = .ok (.iaload, 1) := by decide +kernel
theorem d_Vwm_make_158 : decode prog_20_method_23_code 158 = .ok (.iload_n 2, 1) := by decide +kernel
theorem d_Vwm_make_159 : decode prog_20_method_23_code 159 = .ok (.aload_n 0, 1) := by decide +kernel
theorem d_Vwm_make_160 : decode prog_20_method_23_code 160 = .ok (.getfield 16, 3) := by decide +kernel
theorem d_Vwm_make_163 : decode prog_20_method_23_code 163 = .ok (.iconst 4, 1) := by decide +kernel
theorem d_Vwm_make_164 : decode prog_20_method_23_code 164 = .ok (.iaload, 1) := by decide +kernel
theorem d_Vwm_make_165 : decode prog_20_method_23_code 165 = .ok (.aload_n 0, 1) := by decide +kernel
theorem d_Vwm_make_166 : decode prog_20_method_23_code 166 = .ok (.getfield 16, 3) := by decide +kernel
theorem d_Vwm_make_169 : decode prog_20_method_23_code 169 = .ok (.iconst 5, 1) := by decide +kernel
theorem d_Vwm_make_170 : decode prog_20_method_23_code 170 = .ok (.iaload, 1) := by decide +kernel
theorem d_Vwm_make_171 : decode prog_20_method_23_code 171 = .ok (.invokestatic 116, 3) := by decide +kernel
theorem d_Vwm_make_174 : decode prog_20_method_23_code 174 = .ok (.iastore, 1) := by decide +kernel
theorem d_Vwm_make_175 : decode prog_20_method_23_code 175 = .ok (.ldc 119, 2) := by decide +kernel
theorem d_Vwm_make_177 : decode prog_20_method_23_code 177 = .ok (.iload_n 2, 1) := by decide +kernel
theorem d_Vwm_make_178 : decode prog_20_method_23_code 178 = .ok (.idiv, 1) := by decide +kernel
theorem d_Vwm_make_179 : decode prog_20_method_23_code 179 = .ok (.istore_n 3, 1) := by decide +kernel
theorem d_Vwm_make_180 : decode prog_20_method_23_code 180 = .ok (.aload_n 0, 1) := by decide +kernel
theorem d_Vwm_make_181 : decode prog_20_method_23_code 181 = .ok (.getfield 25, 3) := by decide +kernel
theorem d_Vwm_make_184 : decode prog_20_method_23_code 184 = .ok (.iconst 4, 1) := by decide +kernel
theorem d_Vwm_make_185 : decode prog_20_method_23_code 185 = .ok (.iload_n 1, 1) := by decide +kernel
theorem d_Vwm_make_186 : decode prog_20_method_23_code 186 = .ok (.imul, 1) := by decide +kernel
theorem d_Vwm_make_187 : decode prog_20_method_23_code 187 = .ok (.iconst 3, 1) := by decide +kernel
theorem d_Vwm_make_188 : decode prog_20_method_23_code 188 = .ok (.iadd, 1) := by decide +kernel
theorem d_Vwm_make_189 : decode prog_20_method_23_code 189 = .ok (.iload_n 3, 1) := by decide +kernel
theorem d_Vwm_make_190 : decode prog_20_method_23_code 190 = .ok (.iconst 1, 1) := by decide +kernel
theorem d_Vwm_make_191 : decode prog_20_method_23_code 191 = .ok (.if_icmp .ge 7, 3) := by decide +kernel
theorem d_Vwm_make_194 : decode prog_20_method_23_code 194 = .ok (.iconst 1, 1) := by decide +kernel
theorem d_Vwm_make_195 : decode prog_20_method_23_code 195 = .ok (.goto 4, 3) := by decide +kernel
theorem d_Vwm_make_198 : decode prog_20_method_23_code 198 = .ok (.iload_n 3, 1) := by decide +kernel
theorem d_Vwm_make_199 : decode prog_20_method_23_code 199 = .ok (.iastore, 1) := by decide +kernel
theorem d_Vwm_make_200 : decode prog_20_method_23_code 200 = .ok (.iinc 1 1, 3) := by decide +kernel
theorem d_Vwm_make_203 : decode prog_20_method_23_code 203 = .ok (.goto (-155), 3) := by decide +kernel
theorem d_Vwm_make_206 : decode prog_20_method_23_code 206 = .ok (.aload_n 0, 1) := by decide +kernel
theorem d_Vwm_make_207 : decode prog_20_method_23_code 207 = .ok (.aload_n 0, 1) := by decide +kernel
theorem d_Vwm_make_208 : decode prog_20_method_23_code 208 = .ok (.getfield 89, 3) := by decide +kernel
theorem d_Vwm_make_211 : decode prog_20_method_23_code 211 = .ok (.ifCond .ne 7, 3) := by decide +kernel
theorem d_Vwm_make_214 : decode prog_20_method_23_code 214 = .ok (.iconst 0, 1) := by decide +kernel
theorem d_Vwm_make_215 : decode prog_20_method_23_code 215 = .ok (.goto 9, 3) := by decide +kernel
theorem d_Vwm_make_218 : decode prog_20_method_23_code 218 = .ok (.aload_n 0, 1) := by decide +kernel
theorem d_Vwm_make_219 : decode prog_20_method_23_code 219 = .ok (.getfield 89, 3) := by decide +kernel
theorem d_Vwm_make_222 : decode prog_20_method_23_code 222 = .ok (.iconst 2, 1) := by decide +kernel
theorem d_Vwm_make_223 : decode prog_20_method_23_code 223 = .ok (.isub, 1) := by decide +kernel
theorem d_Vwm_make_224 : decode prog_20_method_23_code 224 = .ok (.putfield 64, 3) := by decide +kernel
theorem d_Vwm_make_227 : decode prog_20_method_23_code 227 = .ok (.aload_n 0, 1) := by decide +kernel
theorem d_Vwm_make_228 : decode prog_20_method_23_code 228 = .ok (.getfield 64, 3) := by decide +kernel
theorem d_Vwm_make_231 : decode prog_20_method_23_code 231 = .ok (.ireturn, 1) := by decide +kernel
def F_Vwm_make_224 (σ : Sg) (s1 : Int32) : Option (Sg × Int32) := lt (sI σ 26 s1) (fun σ29 => some (σ29, σ29.1 26))
set_option maxRecDepth 10000 in
set_option maxHeartbeats 4000000 in
theorem bt_Vwm_make_224 {p : Program} {l : Launch} {e : Env} {R : Room} {s : State} {m : MethodId} {args : Array Value} {below : List Frame} {meth : Method} {c : Code} {D : va_G} {τ : ClassId × ClassId × ClassId} {B : Nat} {A : Nat → Prop} {ad : Nat → Nat} (E : Cx p R s m args meth c prog_20_method_23_code 4 "DrawingMachineModel$VertexWorkModel" 3 D τ B A) (hret : meth.sig.returnType = (some .int)) (o : Sg × Int32) (σ : Sg) (s1 : Int32) (h : F_Vwm_make_224 σ s1 = some o) {H : Heap} {locs : List Loc} {ls : Array Slot} (w : Wd s D A (wdM τ σ ad) H locs) (hl : lv_has ls 4 [(0, .ref (ad 62))]) : W p l e R s m args below meth c H locs 0 0 (QI below args s A D τ (wdM τ o.1 ad) o.2) (F0 m 224 ls [.int s1, .ref (ad 62)]) := by
  obtain ⟨σ29, e_σ29, h⟩ := lt_some h
  refine pM_Vwm_made E w k1632 e_σ29 d_Vwm_make_224 (fun H locs w => ?_)
  refine lv_aload_n E.x E.b d_Vwm_make_227 rfl (lv_at hl 0 rfl) ?_
  refine gM_Vwm_made E w k1632 d_Vwm_make_228 ?_
  obtain rfl := Option.some.inj h
  exact rt_i E w hret d_Vwm_make_231
def F_Vwm_make_199 (rc_48 : Sg → Int32 → Option (Sg × Int32)) (σ : Sg) (v1 : Int32) (s1 : Int32) (s2 : Int32) : Option (Sg × Int32) := ck (inb s1 32) (lt (sA σ 39 (upd (σ.2.2.1 39) s1.toNatClampNeg s2)) (fun σ31 => lt (v1 + 1) (fun y32 => rc_48 σ31 y32)))
set_option maxRecDepth 10000 in
set_option maxHeartbeats 4000000 in
theorem bt_Vwm_make_199 {p : Program} {l : Launch} {e : Env} {R : Room} {s : State} {m : MethodId} {args : Array Value} {below : List Frame} {meth : Method} {c : Code} {D : va_G} {τ : ClassId × ClassId × ClassId} {B : Nat} {A : Nat → Prop} {ad : Nat → Nat} (E : Cx p R s m args meth c prog_20_method_23_code 4 "DrawingMachineModel$VertexWorkModel" 3 D τ B A) (hret : meth.sig.returnType = (some .int)) (o : Sg × Int32) (rc_48 : Sg → Int32 → Option (Sg × Int32)) (hr_48 : ∀ (σ : Sg) (v1 : Int32) (H : Heap) (locs : List Loc) (ls : Array Slot), rc_48 σ v1 = some o → Wd s D A (wdM τ σ ad) H locs → lv_has ls 4 [(0, .ref (ad 62)), (1, .int v1)] → W p l e R s m args below meth c H locs 0 0 (QI below args s A D τ (wdM τ o.1 ad) o.2) (F0 m 48 ls [])) (σ : Sg) (v1 : Int32) (s1 : Int32) (s2 : Int32) (h : F_Vwm_make_199 rc_48 σ v1 s1 s2 = some o) {H : Heap} {locs : List Loc} {ls : Array Slot} (w : Wd s D A (wdM τ σ ad) H locs) (hl : lv_has ls 4 [(0, .ref (ad 62)), (1, .int v1)]) : W p l e R s m args below meth c H locs 0 0 (QI below args s A D τ (wdM τ o.1 ad) o.2) (F0 m 199 ls [.int s2, .int s1, .ref (ad 39)]) := by
  obtain ⟨c30, h⟩ := ck_some h
  obtain ⟨σ31, e_σ31, h⟩ := lt_some h
  refine iasM E w (k := 39) (by decide) c30 e_σ31 d_Vwm_make_199 (fun H locs w => ?_)
  obtain ⟨y32, e_y32, h⟩ := lt_some h
  refine lv_iinc (v := y32) (lv' := [(1, .int y32), (0, .ref (ad 62))]) E.x E.b d_Vwm_make_200 hl (k := 1) rfl (e_y32) (by decide) rfl (fun ls hl => ?_)
  refine lv_goto (tgt := 48) E.x E.b d_Vwm_make_203 (by decide) ?_
  exact hr_48 σ31 y32 _ _ _ h w (lv_sub hl [1, 0] rfl)
def L_Vwm_make_48 : Nat → Sg → Int32 → Option (Sg × Int32)
  | 0, _, _ => none
  | n + 1, σ, v1 => if (σ.1 24) ≤ v1 then (if (σ.1 24) = 0 then (F_Vwm_make_224 σ 0) else (F_Vwm_make_224 σ ((σ.1 24) - 2))) else (ck (inb ((32 * v1) + 3) 256) (lt (σ.2.2.1 37 ((32 * v1) + 3).toNatClampNeg) (fun y34 => ck (inb (32 * v1) 256) (bd (F_Vwm_lay (σ.2.2.1 37 (32 * v1).toNatClampNeg) y34 (σ.2.2.1 36 0) (σ.2.2.1 36 2)) (fun o36 => ck (inb (4 * v1) 32) (lt (sA σ 39 (upd (σ.2.2.1 39) (4 * v1).toNatClampNeg o36)) (fun σ38 => ck (inb ((32 * v1) + 1) 256) (bd (F_Vwm_lay (σ38.2.2.1 37 ((32 * v1) + 1).toNatClampNeg) y34 (σ38.2.2.1 36 1) (σ38.2.2.1 36 3)) (fun o40 => ck (inb ((4 * v1) + 1) 32) (lt (sA σ38 39 (upd (σ38.2.2.1 39) ((4 * v1) + 1).toNatClampNeg o40)) (fun σ42 => ck (inb ((32 * v1) + 2) 256) (bd (F_Vwm_depthOf (σ42.2.2.1 37 ((32 * v1) + 2).toNatClampNeg) y34 (σ42.2.2.1 36 4) (σ42.2.2.1 36 5)) (fun o44 => ck (inb ((4 * v1) + 2) 32) (lt (sA σ42 39 (upd (σ42.2.2.1 39) ((4 * v1) + 2).toNatClampNeg o44)) (fun σ46 => ck (¬ y34 = 0) (lt (1073741824 / y34) (fun y48 => if 1 ≤ y48 then (F_Vwm_make_199 (L_Vwm_make_48 n) σ46 v1 ((4 * v1) + 3) y48) else (F_Vwm_make_199 (L_Vwm_make_48 n) σ46 v1 ((4 * v1) + 3) 1))))))))))))))))))
set_option maxRecDepth 10000 in
set_option maxHeartbeats 4000000 in
theorem lt_Vwm_make_48 {p : Program} {l : Launch} {e : Env} {R : Room} {s : State} {m : MethodId} {args : Array Value} {below : List Frame} {meth : Method} {c : Code} {D : va_G} {τ : ClassId × ClassId × ClassId} {B : Nat} {A : Nat → Prop} {ad : Nat → Nat} (E : Cx p R s m args meth c prog_20_method_23_code 4 "DrawingMachineModel$VertexWorkModel" 3 D τ B A) (hret : meth.sig.returnType = (some .int)) (o : Sg × Int32) : ∀ (n : Nat) (σ : Sg) (v1 : Int32) (H : Heap) (locs : List Loc) (ls : Array Slot), L_Vwm_make_48 n σ v1 = some o → Wd s D A (wdM τ σ ad) H locs → lv_has ls 4 [(0, .ref (ad 62)), (1, .int v1)] → W p l e R s m args below meth c H locs 0 0 (QI below args s A D τ (wdM τ o.1 ad) o.2) (F0 m 48 ls []) := by
  intro n
  induction n with
  | zero =>
    intro σ v1 H locs ls h w hl
    cases h
  | succ n hr_48 =>
    intro σ v1 H locs ls h w hl
    refine lv_iload_n E.x E.b d_Vwm_make_48 rfl (lv_at hl 1 rfl) ?_
    refine lv_aload_n E.x E.b d_Vwm_make_49 rfl (lv_at hl 0 rfl) ?_
    refine gM_Vwm_many E w k1628 d_Vwm_make_50 ?_
    refine lv_icmp_ge (tgt := 206) E.x E.b d_Vwm_make_53 (by decide) (fun c => ?_) (fun c => ?_)
    ·
      replace h := ifT c h
      refine lv_aload_n E.x E.b d_Vwm_make_206 rfl (lv_at hl 0 rfl) ?_
      refine lv_aload_n E.x E.b d_Vwm_make_207 rfl (lv_at hl 0 rfl) ?_
      refine gM_Vwm_many E w k1628 d_Vwm_make_208 ?_
      refine lv_if_ne (tgt := 218) E.x E.b d_Vwm_make_211 (by decide) (fun c => ?_) (fun c => ?_)
      ·
        replace h := ifF c h
        refine lv_aload_n E.x E.b d_Vwm_make_218 rfl (lv_at hl 0 rfl) ?_
        refine gM_Vwm_many E w k1628 d_Vwm_make_219 ?_
        refine lv_iconst (v := 2) E.x E.b d_Vwm_make_222 (by decide) ?_
        refine lv_isub E.x E.b d_Vwm_make_223 ?_
        exact bt_Vwm_make_224 E hret o σ ((σ.1 24) - 2) h w (lv_sub hl [0] rfl)
      ·
        replace h := ifT c h
        refine lv_iconst (v := 0) E.x E.b d_Vwm_make_214 (by decide) ?_
        refine lv_goto (tgt := 224) E.x E.b d_Vwm_make_215 (by decide) ?_
        exact bt_Vwm_make_224 E hret o σ 0 h w (lv_sub hl [0] rfl)
    ·
      replace h := ifF c h
      refine lv_aload_n E.x E.b d_Vwm_make_56 rfl (lv_at hl 0 rfl) ?_
      refine gM_Vwm_ring E w k1629 d_Vwm_make_57 ?_
      refine lv_bipush (v := 32) E.x E.b d_Vwm_make_60 (by decide) ?_
      refine lv_iload_n E.x E.b d_Vwm_make_62 rfl (lv_at hl 1 rfl) ?_
      refine lv_imul E.x E.b d_Vwm_make_63 ?_
      refine lv_iconst (v := 3) E.x E.b d_Vwm_make_64 (by decide) ?_
      refine lv_iadd E.x E.b d_Vwm_make_65 ?_
      obtain ⟨c33, h⟩ := ck_some h
      refine ialM E w (k := 37) (by decide) c33 d_Vwm_make_66 ?_
      obtain ⟨y34, e_y34, h⟩ := lt_some h
      refine wi_e (v := y34) e_y34 ?_
      refine lv_istore_n (lv' := [(2, .int y34), (0, .ref (ad 62)), (1, .int v1)]) E.x E.b d_Vwm_make_67 rfl hl (by decide) rfl (fun ls hl => ?_)
      refine lv_aload_n E.x E.b d_Vwm_make_68 rfl (lv_at hl 1 rfl) ?_
      refine gM_Vwm_laid E w k1633 d_Vwm_make_69 ?_
      refine lv_iconst (v := 4) E.x E.b d_Vwm_make_72 (by decide) ?_
      refine lv_iload_n E.x E.b d_Vwm_make_73 rfl (lv_at hl 2 rfl) ?_
      refine lv_imul E.x E.b d_Vwm_make_74 ?_
      refine lv_aload_n E.x E.b d_Vwm_make_75 rfl (lv_at hl 1 rfl) ?_
      refine gM_Vwm_ring E w k1629 d_Vwm_make_76 ?_
      refine lv_bipush (v := 32) E.x E.b d_Vwm_make_79 (by decide) ?_
      refine lv_iload_n E.x E.b d_Vwm_make_81 rfl (lv_at hl 2 rfl) ?_
      refine lv_imul E.x E.b d_Vwm_make_82 ?_
      obtain ⟨c35, h⟩ := ck_some h
      refine ialM E w (k := 37) (by decide) c35 d_Vwm_make_83 ?_
      refine lv_iload_n E.x E.b d_Vwm_make_84 rfl (lv_at hl 0 rfl) ?_
      refine lv_aload_n E.x E.b d_Vwm_make_85 rfl (lv_at hl 1 rfl) ?_
      refine gM_Vwm_view E w k1625 d_Vwm_make_86 ?_
      refine lv_iconst (v := 0) E.x E.b d_Vwm_make_89 (by decide) ?_
      refine ialM E w (k := 36) (by decide) (show inb 0 6 by decide) d_Vwm_make_90 ?_
      refine wi_e (v := σ.2.2.1 36 0) rfl ?_
      refine lv_aload_n E.x E.b d_Vwm_make_91 rfl (lv_at hl 1 rfl) ?_
      refine gM_Vwm_view E w k1625 d_Vwm_make_92 ?_
      refine lv_iconst (v := 2) E.x E.b d_Vwm_make_95 (by decide) ?_
      refine ialM E w (k := 36) (by decide) (show inb 2 6 by decide) d_Vwm_make_96 ?_
      refine wi_e (v := σ.2.2.1 36 2) rfl ?_
      obtain ⟨o36, h_o36, h⟩ := bd_some h
      refine clS_Vwm_lay E w (x0 := (σ.2.2.1 37 (32 * v1).toNatClampNeg)) (x1 := y34) (x2 := (σ.2.2.1 36 0)) (x3 := (σ.2.2.1 36 2)) h_o36 k2338 (by decide) hl.1 (Nat.le_of_ble_eq_true rfl) d_Vwm_make_97 (fun H locs w => ?_)
      obtain ⟨c37, h⟩ := ck_some h
      obtain ⟨σ38, e_σ38, h⟩ := lt_some h
      refine iasM E w (k := 39) (by decide) c37 e_σ38 d_Vwm_make_100 (fun H locs w => ?_)
      refine lv_aload_n E.x E.b d_Vwm_make_101 rfl (lv_at hl 1 rfl) ?_
      refine gM_Vwm_laid E w k1633 d_Vwm_make_102 ?_
      refine lv_iconst (v := 4) E.x E.b d_Vwm_make_105 (by decide) ?_
      refine lv_iload_n E.x E.b d_Vwm_make_106 rfl (lv_at hl 2 rfl) ?_
      refine lv_imul E.x E.b d_Vwm_make_107 ?_
      refine lv_iconst (v := 1) E.x E.b d_Vwm_make_108 (by decide) ?_
      refine lv_iadd E.x E.b d_Vwm_make_109 ?_
      refine lv_aload_n E.x E.b d_Vwm_make_110 rfl (lv_at hl 1 rfl) ?_
      refine gM_Vwm_ring E w k1629 d_Vwm_make_111 ?_
      refine lv_bipush (v := 32) E.x E.b d_Vwm_make_114 (by decide) ?_
      refine lv_iload_n E.x E.b d_Vwm_make_116 rfl (lv_at hl 2 rfl) ?_
      refine lv_imul E.x E.b d_Vwm_make_117 ?_
      refine lv_iconst (v := 1) E.x E.b d_Vwm_make_118 (by decide) ?_
      refine lv_iadd E.x E.b d_Vwm_make_119 ?_
      obtain ⟨c39, h⟩ := ck_some h
      refine ialM E w (k := 37) (by decide) c39 d_Vwm_make_120 ?_
      refine lv_iload_n E.x E.b d_Vwm_make_121 rfl (lv_at hl 0 rfl) ?_
      refine lv_aload_n E.x E.b d_Vwm_make_122 rfl (lv_at hl 1 rfl) ?_
      refine gM_Vwm_view E w k1625 d_Vwm_make_123 ?_
      refine lv_iconst (v := 1) E.x E.b d_Vwm_make_126 (by decide) ?_
      refine ialM E w (k := 36) (by decide) (show inb 1 6 by decide) d_Vwm_make_127 ?_
      refine wi_e (v := σ38.2.2.1 36 1) rfl ?_
      refine lv_aload_n E.x E.b d_Vwm_make_128 rfl (lv_at hl 1 rfl) ?_
      refine gM_Vwm_view E w k1625 d_Vwm_make_129 ?_
      refine lv_iconst (v := 3) E.x E.b d_Vwm_make_132 (by decide) ?_
      refine ialM E w (k := 36) (by decide) (show inb 3 6 by decide) d_Vwm_make_133 ?_
      refine wi_e (v := σ38.2.2.1 36 3) rfl ?_
      obtain ⟨o40, h_o40, h⟩ := bd_some h
      refine clS_Vwm_lay E w (x0 := (σ38.2.2.1 37 ((32 * v1) + 1).toNatClampNeg)) (x1 := y34) (x2 := (σ38.2.2.1 36 1)) (x3 := (σ38.2.2.1 36 3)) h_o40 k2338 (by decide) hl.1 (Nat.le_of_ble_eq_true rfl) d_Vwm_make_134 (fun H locs w => ?_)
      obtain ⟨c41, h⟩ := ck_some h
      obtain ⟨σ42, e_σ42, h⟩ := lt_some h
      refine iasM E w (k := 39) (by decide) c41 e_σ42 d_Vwm_make_137 (fun H locs w => ?_)
      refine lv_aload_n E.x E.b d_Vwm_make_138 rfl (lv_at hl 1 rfl) ?_
      refine gM_Vwm_laid E w k1633 d_Vwm_make_139 ?_
      refine lv_iconst (v := 4) E.x E.b d_Vwm_make_142 (by decide) ?_
      refine lv_iload_n E.x E.b d_Vwm_make_143 rfl (lv_at hl 2 rfl) ?_
      refine lv_imul E.x E.b d_Vwm_make_144 ?_
      refine lv_iconst (v := 2) E.x E.b d_Vwm_make_145 (by decide) ?_
      refine lv_iadd E.x E.b d_Vwm_make_146 ?_
      refine lv_aload_n E.x E.b d_Vwm_make_147 rfl (lv_at hl 1 rfl) ?_
      refine gM_Vwm_ring E w k1629 d_Vwm_make_148 ?_
      refine lv_bipush (v := 32) E.x E.b d_Vwm_make_151 (by decide) ?_
      refine lv_iload_n E.x E.b d_Vwm_make_153 rfl (lv_at hl 2 rfl) ?_
      refine lv_imul E.x E.b d_Vwm_make_154 ?_
      refine lv_iconst (v := 2) E.x E.b d_Vwm_make_155 (by decide) ?_
      refine lv_iadd E.x E.b d_Vwm_make_156 ?_
      obtain ⟨c43, h⟩ := ck_some h
      refine ialM E w (k := 37) (by decide) c43 d_Vwm_make_157 ?_
      refine lv_iload_n E.x E.b d_Vwm_make_158 rfl (lv_at hl 0 rfl) ?_
      refine lv_aload_n E.x E.b d_Vwm_make_159 rfl (lv_at hl 1 rfl) ?_
      refine gM_Vwm_view E w k1625 d_Vwm_make_160 ?_
      refine lv_iconst (v := 4) E.x E.b d_Vwm_make_163 (by decide) ?_
      refine ialM E w (k := 36) (by decide) (show inb 4 6 by decide) d_Vwm_make_164 ?_
      refine wi_e (v := σ42.2.2.1 36 4) rfl ?_
      refine lv_aload_n E.x E.b d_Vwm_make_165 rfl (lv_at hl 1 rfl) ?_
      refine gM_Vwm_view E w k1625 d_Vwm_make_166 ?_
      refine lv_iconst (v := 5) E.x E.b d_Vwm_make_169 (by decide) ?_
      refine ialM E w (k := 36) (by decide) (show inb 5 6 by decide) d_Vwm_make_170 ?_
      refine wi_e (v := σ42.2.2.1 36 5) rfl ?_
      obtain ⟨o44, h_o44, h⟩ := bd_some h
      refine clS_Vwm_depthOf E w (x0 := (σ42.2.2.1 37 ((32 * v1) + 2).toNatClampNeg)) (x1 := y34) (x2 := (σ42.2.2.1 36 4)) (x3 := (σ42.2.2.1 36 5)) h_o44 k2345 (by decide) hl.1 (Nat.le_of_ble_eq_true rfl) d_Vwm_make_171 (fun H locs w => ?_)
      obtain ⟨c45, h⟩ := ck_some h
      obtain ⟨σ46, e_σ46, h⟩ := lt_some h
      refine iasM E w (k := 39) (by decide) c45 e_σ46 d_Vwm_make_174 (fun H locs w => ?_)
      refine lv_ldc (v := 1073741824) E.x E.b E.o (E.w _ k2350) d_Vwm_make_175 ?_
      refine lv_iload_n E.x E.b d_Vwm_make_177 rfl (lv_at hl 0 rfl) ?_
      obtain ⟨c47, h⟩ := ck_some h
      refine lv_idiv E.x E.b d_Vwm_make_178 c47 ?_
      obtain ⟨y48, e_y48, h⟩ := lt_some h
      refine wi_e (v := y48) e_y48 ?_
      refine lv_istore_n (lv' := [(3, .int y48), (2, .int y34), (0, .ref (ad 62)), (1, .int v1)]) E.x E.b d_Vwm_make_179 rfl hl (by decide) rfl (fun ls hl => ?_)
      refine lv_aload_n E.x E.b d_Vwm_make_180 rfl (lv_at hl 2 rfl) ?_
      refine gM_Vwm_laid E w k1633 d_Vwm_make_181 ?_
      refine lv_iconst (v := 4) E.x E.b d_Vwm_make_184 (by decide) ?_
      refine lv_iload_n E.x E.b d_Vwm_make_185 rfl (lv_at hl 3 rfl) ?_
      refine lv_imul E.x E.b d_Vwm_make_186 ?_
      refine lv_iconst (v := 3) E.x E.b d_Vwm_make_187 (by decide) ?_
      refine lv_iadd E.x E.b d_Vwm_make_188 ?_
      refine lv_iload_n E.x E.b d_Vwm_make_189 rfl (lv_at hl 0 rfl) ?_
      refine lv_iconst (v := 1) E.x E.b d_Vwm_make_190 (by decide) ?_
      refine lv_icmp_ge (tgt := 198) E.x E.b d_Vwm_make_191 (by decide) (fun c => ?_) (fun c => ?_)
      ·
        replace h := ifT c h
        refine lv_iload_n E.x E.b d_Vwm_make_198 rfl (lv_at hl 0 rfl) ?_
        exact bt_Vwm_make_199 E hret o (L_Vwm_make_48 n) hr_48 σ46 v1 ((4 * v1) + 3) y48 h w (lv_sub hl [2, 3] rfl)
      ·
        replace h := ifF c h
        refine lv_iconst (v := 1) E.x E.b d_Vwm_make_194 (by decide) ?_
        refine lv_goto (tgt := 199) E.x E.b d_Vwm_make_195 (by decide) ?_
        exact bt_Vwm_make_199 E hret o (L_Vwm_make_48 n) hr_48 σ46 v1 ((4 * v1) + 3) 1 h w (lv_sub hl [2, 3] rfl)
def L_Vwm_make_12 : Nat → Sg → Int32 → Option (Sg × Int32)
  | 0, _, _ => none
  | n + 1, σ, v1 => if 96 ≤ v1 then (bd (F_Vwm_cut σ 0) (fun o49 => bd (F_Vwm_cut o49 1) (fun o50 => L_Vwm_make_48 100000 o50 0))) else (ck (inb v1 96) (ck (inb v1 256) (lt (sA σ 37 (upd (σ.2.2.1 37) v1.toNatClampNeg (σ.2.2.1 35 v1.toNatClampNeg))) (fun σ53 => lt (v1 + 1) (fun y54 => L_Vwm_make_12 n σ53 y54)))))
set_option maxRecDepth 10000 in
set_option maxHeartbeats 4000000 in
theorem lt_Vwm_make_12 {p : Program} {l : Launch} {e : Env} {R : Room} {s : State} {m : MethodId} {args : Array Value} {below : List Frame} {meth : Method} {c : Code} {D : va_G} {τ : ClassId × ClassId × ClassId} {B : Nat} {A : Nat → Prop} {ad : Nat → Nat} (E : Cx p R s m args meth c prog_20_method_23_code 4 "DrawingMachineModel$VertexWorkModel" 3 D τ B A) (hret : meth.sig.returnType = (some .int)) (o : Sg × Int32) : ∀ (n : Nat) (σ : Sg) (v1 : Int32) (H : Heap) (locs : List Loc) (ls : Array Slot), L_Vwm_make_12 n σ v1 = some o → Wd s D A (wdM τ σ ad) H locs → lv_has ls 4 [(0, .ref (ad 62)), (1, .int v1)] → W p l e R s m args below meth c H locs 0 0 (QI below args s A D τ (wdM τ o.1 ad) o.2) (F0 m 12 ls []) := by
  intro n
  induction n with
  | zero =>
    intro σ v1 H locs ls h w hl
    cases h
  | succ n hr_12 =>
    intro σ v1 H locs ls h w hl
    refine lv_iload_n E.x E.b d_Vwm_make_12 rfl (lv_at hl 1 rfl) ?_
    refine lv_bipush (v := 96) E.x E.b d_Vwm_make_13 (by decide) ?_
    refine lv_icmp_ge (tgt := 36) E.x E.b d_Vwm_make_15 (by decide) (fun c => ?_) (fun c => ?_)
    ·
      replace h := ifT c h
      refine lv_aload_n E.x E.b d_Vwm_make_36 rfl (lv_at hl 0 rfl) ?_
      refine lv_iconst (v := 0) E.x E.b d_Vwm_make_37 (by decide) ?_
      obtain ⟨o49, h_o49, h⟩ := bd_some h
      refine clV_Vwm_cut E w (x0 := 0) h_o49 k2321 (by decide) hl.1 (Nat.le_of_ble_eq_true rfl) d_Vwm_make_38 (fun H locs w => ?_)
      refine lv_aload_n E.x E.b d_Vwm_make_41 rfl (lv_at hl 0 rfl) ?_
      refine lv_iconst (v := 1) E.x E.b d_Vwm_make_42 (by decide) ?_
      obtain ⟨o50, h_o50, h⟩ := bd_some h
      refine clV_Vwm_cut E w (x0 := 1) h_o50 k2321 (by decide) hl.1 (Nat.le_of_ble_eq_true rfl) d_Vwm_make_43 (fun H locs w => ?_)
      refine lv_iconst (v := 0) E.x E.b d_Vwm_make_46 (by decide) ?_
      refine lv_istore_n (lv' := [(1, .int 0), (0, .ref (ad 62))]) E.x E.b d_Vwm_make_47 rfl hl (by decide) rfl (fun ls hl => ?_)
      exact lt_Vwm_make_48 E hret o 100000 o50 0 _ _ _ h w (lv_sub hl [1, 0] rfl)
    ·
      replace h := ifF c h
      refine lv_aload_n E.x E.b d_Vwm_make_18 rfl (lv_at hl 0 rfl) ?_
      refine gM_Vwm_ring E w k1629 d_Vwm_make_19 ?_
      refine lv_iload_n E.x E.b d_Vwm_make_22 rfl (lv_at hl 1 rfl) ?_
      refine lv_aload_n E.x E.b d_Vwm_make_23 rfl (lv_at hl 0 rfl) ?_
      refine gM_Vwm_corners E w k1624 d_Vwm_make_24 ?_
      refine lv_iload_n E.x E.b d_Vwm_make_27 rfl (lv_at hl 1 rfl) ?_
      obtain ⟨c51, h⟩ := ck_some h
      refine ialM E w (k := 35) (by decide) c51 d_Vwm_make_28 ?_
      obtain ⟨c52, h⟩ := ck_some h
      obtain ⟨σ53, e_σ53, h⟩ := lt_some h
      refine iasM E w (k := 37) (by decide) c52 e_σ53 d_Vwm_make_29 (fun H locs w => ?_)
      obtain ⟨y54, e_y54, h⟩ := lt_some h
      refine lv_iinc (v := y54) (lv' := [(1, .int y54), (0, .ref (ad 62))]) E.x E.b d_Vwm_make_30 hl (k := 1) rfl (e_y54) (by decide) rfl (fun ls hl => ?_)
      refine lv_goto (tgt := 12) E.x E.b d_Vwm_make_33 (by decide) ?_
      exact hr_12 σ53 y54 _ _ _ h w (lv_sub hl [1, 0] rfl)
def F_Vwm_make (σ : Sg) : Option (Sg × Int32) := lt (sI σ 21 0) (fun σ55 => lt (sI σ55 24 3) (fun σ56 => L_Vwm_make_12 100000 σ56 0))
set_option maxRecDepth 10000 in
set_option maxHeartbeats 4000000 in
theorem c_Vwm_make (l : Launch) (D : va_G) (τ : ClassId × ClassId × ClassId) (B : Nat) (σ : Sg) (ad : Nat → Nat) (o : Sg × Int32) (h : F_Vwm_make σ = some o) : MI l y_Vwm_make (Cond.code y_Vwm_make prog_20_method_23_code 4 (some .int)) 3 D τ B [.ref (ad 62)] (wdM τ σ ad) (wdM τ o.1 ad) o.2 := by
  refine en_i (by decide) (Nat.le_of_ble_eq_true rfl) ?_
  intro p e R s m args below meth c H locs ls A E hret w hl
  have E : Cx p R s m args meth c prog_20_method_23_code 4 "DrawingMachineModel$VertexWorkModel" 3 D τ B A := E
  have hl : lv_has ls 4 [(0, .ref (ad 62))] := hl
  refine lv_aload_n E.x E.b d_Vwm_make_0 rfl (lv_at hl 0 rfl) ?_
  refine lv_iconst (v := 0) E.x E.b d_Vwm_make_1 (by decide) ?_
  obtain ⟨σ55, e_σ55, h⟩ := lt_some h
  refine pM_Vwm_thrown E w k1621 e_σ55 d_Vwm_make_2 (fun H locs w => ?_)
  refine lv_aload_n E.x E.b d_Vwm_make_5 rfl (lv_at hl 0 rfl) ?_
  refine lv_iconst (v := 3) E.x E.b d_Vwm_make_6 (by decide) ?_
  obtain ⟨σ56, e_σ56, h⟩ := lt_some h
  refine pM_Vwm_many E w k1628 e_σ56 d_Vwm_make_7 (fun H locs w => ?_)
  refine lv_iconst (v := 0) E.x E.b d_Vwm_make_10 (by decide) ?_
  refine lv_istore_n (lv' := [(1, .int 0), (0, .ref (ad 62))]) E.x E.b d_Vwm_make_11 rfl hl (by decide) rfl (fun ls hl => ?_)
  exact lt_Vwm_make_12 E hret o 100000 σ56 0 _ _ _ h w (lv_sub hl [1, 0] rfl)
theorem clV_Vwm_make {p : Program} {l : Launch} {e : Env} {R : Room} {s : State} {m : MethodId} {args : Array Value} {below : List Frame} {meth : Method} {c : Code} {H : Heap} {locs : List Loc} {Q : State → Prop} {cc : ByteArray} {nL pc lev : Nat} {own : String} {D : va_G} {τ : ClassId × ClassId × ClassId} {B : Nat} {A : Nat → Prop} {σ : Sg} {ad : Nat → Nat} {ls : Array Slot} {rest : List Value} (E : Cx p R s m args meth c cc nL own lev D τ B A) (w : Wd s D A (wdM τ σ ad) H locs) {o : Sg × Int32} (h : F_Vwm_make σ = some o) {index : Nat} (hlk : Cond.methodLink own index y_Vwm_make ∈ tw) (hlev : 3 < lev) (hsz : ls.size = nL) (hr : (rest.map fun v => v.category).sum ≤ 8) (hd : decode cc pc = .ok (.invokevirtual index, 3)) (kk : ∀ (H1 : Heap) (locs1 : List Loc), Wd s D A (wdM τ o.1 ad) H1 locs1 → W p l e R s m args below meth c H1 locs1 0 0 Q (F0 m (pc + 3) ls (.int o.2 :: rest))) : W p l e R s m args below meth c H locs 0 0 Q (F0 m pc ls (.ref (ad 62) :: rest)) :=
  cr_i w E.C (va_runV (As := []) (rest := rest) E.fix (c_Vwm_make l D τ B σ ad o h H.size) (cwV 0 E.w (tw_pre (tw_good k2320) (l := [_, _, _, _]) (List.forall_mem_cons.mpr ⟨hlk, List.forall_mem_cons.mpr ⟨k2318, List.forall_mem_cons.mpr ⟨k2319, List.forall_mem_cons.mpr ⟨k18, fun _ h => absurd h List.not_mem_nil⟩⟩⟩⟩)) rfl rfl rfl (by decide +kernel) (E.rm hlev (by decide))) (wd_preV w E.C [] rcM_Vwm rfl) rfl rfl hsz rfl (lv_room hr) hd ⟨Nat.zero_le _, Nat.zero_le _⟩) kk

theorem d_Vwm_areaOf_0 : decode prog_20_method_25_code 0 = .ok (.aload_n 0, 1) := by decide +kernel
theorem d_Vwm_areaOf_1 : decode prog_20_method_25_code 1 = .ok (.getfield 25, 3) := by decide +kernel
theorem d_Vwm_areaOf_4 : decode prog_20_method_25_code 4 = .ok (.iconst 0, 1) := by decide +kernel
theorem d_Vwm_areaOf_5 : decode prog_20_method_25_code 5 = .ok (.iaload, 1) := by decide +kernel
theorem d_Vwm_areaOf_6 : decode prog_20_method_25_code 6 = .ok (.i2l, 1) := by decide +kernel
theorem d_Vwm_areaOf_7 : decode prog_20_method_25_code 7 = .ok (.lstore_n 2, 1) := by decide +kernel
theorem d_Vwm_areaOf_8 : decode prog_20_method_25_code 8 = .ok (.aload_n 0, 1) := by decide +kernel
theorem d_Vwm_areaOf_9 : decode prog_20_method_25_code 9 = .ok (.getfield 25, 3) := by decide +kernel
theorem d_Vwm_areaOf_12 : decode prog_20_method_25_code 12 = .ok (.iconst 1, 1) := by decide +kernel
theorem d_Vwm_areaOf_13 : decode prog_20_method_25_code 13 = .ok (.iaload, 1) := by decide +kernel
theorem d_Vwm_areaOf_14 : decode prog_20_method_25_code 14 = .ok (.i2l, 1) := by decide +kernel
theorem d_Vwm_areaOf_15 : decode prog_20_method_25_code 15 = .ok (.lstore 4, 2) := by decide +kernel
theorem d_Vwm_areaOf_17 : decode prog_20_method_25_code 17 = .ok (.iconst 4, 1) := by decide +kernel
theorem d_Vwm_areaOf_18 : decode prog_20_method_25_code 18 = .ok (.iload_n 1, 1) := by decide +kernel
theorem d_Vwm_areaOf_19 : decode prog_20_method_25_code 19 = .ok (.iconst 1, 1) := by decide +kernel
theorem d_Vwm_areaOf_20 : decode prog_20_method_25_code 20 = .ok (.invokestatic 120, 3) := by decide +kernel
theorem d_Vwm_areaOf_23 : decode prog_20_method_25_code 23 = .ok (.imul, 1) := by decide +kernel
theorem d_Vwm_areaOf_24 : decode prog_20_method_25_code 24 = .ok (.istore 6, 2) := by decide +kernel
theorem d_Vwm_areaOf_26 : decode prog_20_method_25_code 26 = .ok (.iconst 4, 1) := by decide +kernel
theorem d_Vwm_areaOf_27 : decode prog_20_method_25_code 27 = .ok (.iload_n 1, 1) := by decide +kernel
theorem d_Vwm_areaOf_28 : decode prog_20_method_25_code 28 = .ok (.iconst 2, 1) := by decide +kernel
theorem d_Vwm_areaOf_29 : decode prog_20_method_25_code 29 = .ok (.invokestatic 120, 3) := by decide +kernel
theorem d_Vwm_areaOf_32 : decode prog_20_method_25_code 32 = .ok (.imul, 1) := by decide +kernel
theorem d_Vwm_areaOf_33 : decode prog_20_method_25_code 33 = .ok (.istore 7, 2) := by decide +kernel
theorem d_Vwm_areaOf_35 : decode prog_20_method_25_code 35 = .ok (.aload_n 0, 1) := by decide +kernel
theorem d_Vwm_areaOf_36 : decode prog_20_method_25_code 36 = .ok (.getfield 25, 3) := by decide +kernel
theorem d_Vwm_areaOf_39 : decode prog_20_method_25_code 39 = .ok (.iload 6, 2) := by decide +kernel
theorem d_Vwm_areaOf_41 : decode prog_20_method_25_code 41 = .ok (.iaload, 1) := by decide +kernel
theorem d_Vwm_areaOf_42 : decode prog_20_method_25_code 42 = .ok (.i2l, 1) := by decide +kernel
theorem d_Vwm_areaOf_43 : decode prog_20_method_25_code 43 = .ok (.lload_n 2, 1) := by decide +kernel
theorem d_Vwm_areaOf_44 : decode prog_20_method_25_code 44 = .ok (.lsub, 1) := by decide +kernel
theorem d_Vwm_areaOf_45 : decode prog_20_method_25_code 45 = .ok (.aload_n 0, 1) := by decide +kernel
theorem d_Vwm_areaOf_46 : decode prog_20_method_25_code 46 = .ok (.getfield 25, 3) := by decide +kernel
theorem d_Vwm_areaOf_49 : decode prog_20_method_25_code 49 = .ok (.iload 7, 2) := by decide +kernel
theorem d_Vwm_areaOf_51 : decode prog_20_method_25_code 51 = .ok (.iconst 1, 1) := by decide +kernel
theorem d_Vwm_areaOf_52 : decode prog_20_method_25_code 52 = .ok (.iadd, 1) := by decide +kernel
theorem d_Vwm_areaOf_53 : decode prog_20_method_25_code 53 = .ok (.iaload, 1) := by decide +kernel
theorem d_Vwm_areaOf_54 : decode prog_20_method_25_code 54 = .ok (.i2l, 1) := by decide +kernel
theorem d_Vwm_areaOf_55 : decode prog_20_method_25_code 55 = .ok (.lload 4, 2) := by decide +kernel
theorem d_Vwm_areaOf_57 : decode prog_20_method_25_code 57 = .ok (.lsub, 1) := by decide +kernel
theorem d_Vwm_areaOf_58 : decode prog_20_method_25_code 58 = .ok (.lmul, 1) := by decide +kernel
theorem d_Vwm_areaOf_59 : decode prog_20_method_25_code 59 = .ok (.aload_n 0, 1) := by decide +kernel
theorem d_Vwm_areaOf_60 : decode prog_20_method_25_code 60 = .ok (.getfield 25, 3) := by decide +kernel
theorem d_Vwm_areaOf_63 : decode prog_20_method_25_code 63 = .ok (.iload 7, 2) := by decide +kernel
theorem d_Vwm_areaOf_65 : decode prog_20_method_25_code 65 = .ok (.iaload, 1) := by decide +kernel
theorem d_Vwm_areaOf_66 : decode prog_20_method_25_code 66 = .ok (.i2l, 1) := by decide +kernel
theorem d_Vwm_areaOf_67 : decode prog_20_method_25_code 67 = .ok (.lload_n 2, 1) := by decide +kernel
theorem d_Vwm_areaOf_68 : decode prog_20_method_25_code 68 = .ok (.lsub, 1) := by decide +kernel
theorem d_Vwm_areaOf_69 : decode prog_20_method_25_code 69 = .ok (.aload_n 0, 1) := by decide +kernel
theorem d_Vwm_areaOf_70 : decode prog_20_method_25_code 70 = .ok (.getfield 25, 3) := by decide +kernel
theorem d_Vwm_areaOf_73 : decode prog_20_method_25_code 73 = .ok (.iload 6, 2) := by decide +kernel
theorem d_Vwm_areaOf_75 : decode prog_20_method_25_code 75 = .ok (.iconst 1, 1) := by decide +kernel
theorem d_Vwm_areaOf_76 : decode prog_20_method_25_code 76 = .ok (.iadd, 1) := by decide +kernel
theorem d_Vwm_areaOf_77 : decode prog_20_method_25_code 77 = .ok (.iaload, 1) := by decide +kernel
theorem d_Vwm_areaOf_78 : decode prog_20_method_25_code 78 = .ok (.i2l, 1) := by decide +kernel
theorem d_Vwm_areaOf_79 : decode prog_20_method_25_code 79 = .ok (.lload 4, 2) := by decide +kernel
theorem d_Vwm_areaOf_81 : decode prog_20_method_25_code 81 = .ok (.lsub, 1) := by decide +kernel
theorem d_Vwm_areaOf_82 : decode prog_20_method_25_code 82 = .ok (.lmul, 1) := by decide +kernel
theorem d_Vwm_areaOf_83 : decode prog_20_method_25_code 83 = .ok (.lsub, 1) := by decide +kernel
theorem d_Vwm_areaOf_84 : decode prog_20_method_25_code 84 = .ok (.lreturn, 1) := by decide +kernel
def F_Vwm_areaOf (σ : Sg) (x0 : Int32) : Option (Int64) := lt ((σ.2.2.1 39 0).toInt64) (fun y11 => lt ((σ.2.2.1 39 1).toInt64) (fun y12 => bd (F_Vwm_cornerOf x0 1) (fun o13 => lt (4 * o13) (fun y14 => bd (F_Vwm_cornerOf x0 2) (fun o15 => lt (4 * o15) (fun y16 => ck (inb y14 32) (ck (inb (y16 + 1) 32) (ck (inb y16 32) (ck (inb (y14 + 1) 32) (some (((((σ.2.2.1 39 y14.toNatClampNeg).toInt64) - y11) * (((σ.2.2.1 39 (y16 + 1).toNatClampNeg).toInt64) - y12)) - ((((σ.2.2.1 39 y16.toNatClampNeg).toInt64) - y11) * (((σ.2.2.1 39 (y14 + 1).toNatClampNeg).toInt64) - y12)))))))))))))
set_option maxRecDepth 10000 in
set_option maxHeartbeats 4000000 in
theorem c_Vwm_areaOf (l : Launch) (D : va_G) (τ : ClassId × ClassId × ClassId) (B : Nat) (σ : Sg) (ad : Nat → Nat) (x0 : Int32) (o : Int64) (h : F_Vwm_areaOf σ x0 = some o) : ML l y_Vwm_areaOf (Cond.code y_Vwm_areaOf prog_20_method_25_code 8 (some .long)) 1 D τ B [.ref (ad 62), .int x0] (wdM τ σ ad) (wdM τ σ ad) o := by
  refine en_l (by decide) (Nat.le_of_ble_eq_true rfl) ?_
  intro p e R s m args below meth c H locs ls A E hret w hl
  have E : Cx p R s m args meth c prog_20_method_25_code 8 "DrawingMachineModel$VertexWorkModel" 1 D τ B A := E
  have hl : lv_has ls 8 [(0, .ref (ad 62)), (1, .int x0)] := hl
  refine lv_aload_n E.x E.b d_Vwm_areaOf_0 rfl (lv_at hl 0 rfl) ?_
  refine gM_Vwm_laid E w k1633 d_Vwm_areaOf_1 ?_
  refine lv_iconst (v := 0) E.x E.b d_Vwm_areaOf_4 (by decide) ?_
  refine ialM E w (k := 39) (by decide) (show inb 0 32 by decide) d_Vwm_areaOf_5 ?_
  refine wi_e (v := σ.2.2.1 39 0) rfl ?_
  refine lv_i2l (v := (σ.2.2.1 39 0).toInt64) E.x E.b d_Vwm_areaOf_6 rfl ?_
  obtain ⟨y11, e_y11, h⟩ := lt_some h
  refine wl_e (v := y11) e_y11 ?_
  refine lv_lstore_n (lv' := [(2, .long y11), (0, .ref (ad 62)), (1, .int x0)]) E.x E.b d_Vwm_areaOf_7 rfl hl (by decide) rfl (fun ls hl => ?_)
  refine lv_aload_n E.x E.b d_Vwm_areaOf_8 rfl (lv_at hl 1 rfl) ?_
  refine gM_Vwm_laid E w k1633 d_Vwm_areaOf_9 ?_
  refine lv_iconst (v := 1) E.x E.b d_Vwm_areaOf_12 (by decide) ?_
  refine ialM E w (k := 39) (by decide) (show inb 1 32 by decide) d_Vwm_areaOf_13 ?_
  refine wi_e (v := σ.2.2.1 39 1) rfl ?_
  refine lv_i2l (v := (σ.2.2.1 39 1).toInt64) E.x E.b d_Vwm_areaOf_14 rfl ?_
  obtain ⟨y12, e_y12, h⟩ := lt_some h
  refine wl_e (v := y12) e_y12 ?_
  refine lv_lstore (lv' := [(4, .long y12), (2, .long y11), (0, .ref (ad 62)), (1, .int x0)]) E.x E.b d_Vwm_areaOf_15 hl (by decide) rfl (fun ls hl => ?_)
  refine lv_iconst (v := 4) E.x E.b d_Vwm_areaOf_17 (by decide) ?_
  refine lv_iload_n E.x E.b d_Vwm_areaOf_18 rfl (lv_at hl 3 rfl) ?_
  refine lv_iconst (v := 1) E.x E.b d_Vwm_areaOf_19 (by decide) ?_
  obtain ⟨o13, h_o13, h⟩ := bd_some h
  refine clS_Vwm_cornerOf E w (x0 := x0) (x1 := 1) h_o13 k2359 (by decide) hl.1 (Nat.le_of_ble_eq_true rfl) d_Vwm_areaOf_20 (fun H locs w => ?_)
  refine lv_imul E.x E.b d_Vwm_areaOf_23 ?_
  obtain ⟨y14, e_y14, h⟩ := lt_some h
  refine wi_e (v := y14) e_y14 ?_
  refine lv_istore (lv' := [(6, .int y14), (4, .long y12), (2, .long y11), (0, .ref (ad 62)), (1, .int x0)]) E.x E.b d_Vwm_areaOf_24 hl (by decide) rfl (fun ls hl => ?_)
  refine lv_iconst (v := 4) E.x E.b d_Vwm_areaOf_26 (by decide) ?_
  refine lv_iload_n E.x E.b d_Vwm_areaOf_27 rfl (lv_at hl 4 rfl) ?_
  refine lv_iconst (v := 2) E.x E.b d_Vwm_areaOf_28 (by decide) ?_
  obtain ⟨o15, h_o15, h⟩ := bd_some h
  refine clS_Vwm_cornerOf E w (x0 := x0) (x1 := 2) h_o15 k2359 (by decide) hl.1 (Nat.le_of_ble_eq_true rfl) d_Vwm_areaOf_29 (fun H locs w => ?_)
  refine lv_imul E.x E.b d_Vwm_areaOf_32 ?_
  obtain ⟨y16, e_y16, h⟩ := lt_some h
  refine wi_e (v := y16) e_y16 ?_
  refine lv_istore (lv' := [(7, .int y16), (6, .int y14), (4, .long y12), (2, .long y11), (0, .ref (ad 62)), (1, .int x0)]) E.x E.b d_Vwm_areaOf_33 hl (by decide) rfl (fun ls hl => ?_)
  refine lv_aload_n E.x E.b d_Vwm_areaOf_35 rfl (lv_at hl 4 rfl) ?_
  refine gM_Vwm_laid E w k1633 d_Vwm_areaOf_36 ?_
  refine lv_iload E.x E.b d_Vwm_areaOf_39 (lv_at hl 1 rfl) ?_
  obtain ⟨c17, h⟩ := ck_some h
  refine ialM E w (k := 39) (by decide) c17 d_Vwm_areaOf_41 ?_
  refine lv_i2l (v := (σ.2.2.1 39 y14.toNatClampNeg).toInt64) E.x E.b d_Vwm_areaOf_42 rfl ?_
  refine lv_lload_n E.x E.b d_Vwm_areaOf_43 rfl (lv_at hl 3 rfl) ?_
  refine lv_lsub E.x E.b d_Vwm_areaOf_44 ?_
  refine lv_aload_n E.x E.b d_Vwm_areaOf_45 rfl (lv_at hl 4 rfl) ?_
  refine gM_Vwm_laid E w k1633 d_Vwm_areaOf_46 ?_
  refine lv_iload E.x E.b d_Vwm_areaOf_49 (lv_at hl 0 rfl) ?_
  refine lv_iconst (v := 1) E.x E.b d_Vwm_areaOf_51 (by decide) ?_
  refine lv_iadd E.x E.b d_Vwm_areaOf_52 ?_
  obtain ⟨c18, h⟩ := ck_some h
  refine ialM E w (k := 39) (by decide) c18 d_Vwm_areaOf_53 ?_
  refine lv_i2l (v := (σ.2.2.1 39 (y16 + 1).toNatClampNeg).toInt64) E.x E.b d_Vwm_areaOf_54 rfl ?_
  refine lv_lload E.x E.b d_Vwm_areaOf_55 (lv_at hl 2 rfl) ?_
  refine lv_lsub E.x E.b d_Vwm_areaOf_57 ?_
  refine lv_lmul E.x E.b d_Vwm_areaOf_58 ?_
  refine lv_aload_n E.x E.b d_Vwm_areaOf_59 rfl (lv_at hl 4 rfl) ?_
  refine gM_Vwm_laid E w k1633 d_Vwm_areaOf_60 ?_
  refine lv_iload E.x E.b d_Vwm_areaOf_63 (lv_at hl 0 rfl) ?_
  obtain ⟨c19, h⟩ := ck_some h
  refine ialM E w (k := 39) (by decide) c19 d_Vwm_areaOf_65 ?_
  refine lv_i2l (v := (σ.2.2.1 39 y16.toNatClampNeg).toInt64) E.x E.b d_Vwm_areaOf_66 rfl ?_
  refine lv_lload_n E.x E.b d_Vwm_areaOf_67 rfl (lv_at hl 3 rfl) ?_
  refine lv_lsub E.x E.b d_Vwm_areaOf_68 ?_
  refine lv_aload_n E.x E.b d_Vwm_areaOf_69 rfl (lv_at hl 4 rfl) ?_
  refine gM_Vwm_laid E w k1633 d_Vwm_areaOf_70 ?_
  refine lv_iload E.x E.b d_Vwm_areaOf_73 (lv_at hl 1 rfl) ?_
  refine lv_iconst (v := 1) E.x E.b d_Vwm_areaOf_75 (by decide) ?_
  refine lv_iadd E.x E.b d_Vwm_areaOf_76 ?_
  obtain ⟨c20, h⟩ := ck_some h
  refine ialM E w (k := 39) (by decide) c20 d_Vwm_areaOf_77 ?_
  refine lv_i2l (v := (σ.2.2.1 39 (y14 + 1).toNatClampNeg).toInt64) E.x E.b d_Vwm_areaOf_78 rfl ?_
  refine lv_lload E.x E.b d_Vwm_areaOf_79 (lv_at hl 2 rfl) ?_
  refine lv_lsub E.x E.b d_Vwm_areaOf_81 ?_
  refine lv_lmul E.x E.b d_Vwm_areaOf_82 ?_
  refine lv_lsub E.x E.b d_Vwm_areaOf_83 ?_
  obtain rfl := Option.some.inj h
  exact rt_l E w hret d_Vwm_areaOf_84
theorem clV_Vwm_areaOf {p : Program} {l : Launch} {e : Env} {R : Room} {s : State} {m : MethodId} {args : Array Value} {below : List Frame} {meth : Method} {c : Code} {H : Heap} {locs : List Loc} {Q : State → Prop} {cc : ByteArray} {nL pc lev : Nat} {own : String} {D : va_G} {τ : ClassId × ClassId × ClassId} {B : Nat} {A : Nat → Prop} {σ : Sg} {ad : Nat → Nat} {ls : Array Slot} {rest : List Value} (E : Cx p R s m args meth c cc nL own lev D τ B A) (w : Wd s D A (wdM τ σ ad) H locs) {x0 : Int32} {o : Int64} (h : F_Vwm_areaOf σ x0 = some o) {index : Nat} (hlk : Cond.methodLink own index y_Vwm_areaOf ∈ tw) (hlev : 1 < lev) (hsz : ls.size = nL) (hr : (rest.map fun v => v.category).sum ≤ 8) (hd : decode cc pc = .ok (.invokevirtual index, 3)) (kk : ∀ (H1 : Heap) (locs1 : List Loc), Wd s D A (wdM τ σ ad) H1 locs1 → W p l e R s m args below meth c H1 locs1 0 0 Q (F0 m (pc + 3) ls (.long o :: rest))) : W p l e R s m args below meth c H locs 0 0 Q (F0 m pc ls (.int x0 :: .ref (ad 62) :: rest)) :=
  cr_l w E.C (va_runV (As := [.int x0]) (rest := rest) E.fix (c_Vwm_areaOf l D τ B σ ad x0 o h H.size) (cwV 1 E.w (tw_pre (tw_good k2358) (l := [_, _, _, _]) (List.forall_mem_cons.mpr ⟨hlk, List.forall_mem_cons.mpr ⟨k2357, List.forall_mem_cons.mpr ⟨ks98, List.forall_mem_cons.mpr ⟨k18, fun _ h => absurd h List.not_mem_nil⟩⟩⟩⟩)) rfl rfl rfl (by decide +kernel) (E.rm hlev (by decide))) (wd_preV w E.C [.int x0] rcM_Vwm rfl) rfl rfl hsz rfl (lv_room hr) hd ⟨Nat.zero_le _, Nat.zero_le _⟩) kk

theorem d_Vwm_side_0 : decode prog_20_method_26_code 0 = .ok (.aload_n 0, 1) := by decide +kernel
theorem d_Vwm_side_1 : decode prog_20_method_26_code 1 = .ok (.iload_n 1, 1) := by decide +kernel
theorem d_Vwm_side_2 : decode prog_20_method_26_code 2 = .ok (.iconst 0, 1) := by decide +kernel
theorem d_Vwm_side_3 : decode prog_20_method_26_code 3 = .ok (.aload_n 0, 1) := by decide +kernel
theorem d_Vwm_side_4 : decode prog_20_method_26_code 4 = .ok (.getfield 64, 3) := by decide +kernel
theorem d_Vwm_side_7 : decode prog_20_method_26_code 7 = .ok (.iconst 1, 1) := by decide +kernel
theorem d_Vwm_side_8 : decode prog_20_method_26_code 8 = .ok (.isub, 1) := by decide +kernel
theorem d_Vwm_side_9 : decode prog_20_method_26_code 9 = .ok (.invokestatic 38, 3) := by decide +kernel
theorem d_Vwm_side_12 : decode prog_20_method_26_code 12 = .ok (.ifCond .ne 7, 3) := by decide +kernel
theorem d_Vwm_side_15 : decode prog_20_method_26_code 15 = .ok (.iconst 1, 1) := by decide +kernel
theorem d_Vwm_side_16 : decode prog_20_method_26_code 16 = .ok (.goto 4, 3) := by decide +kernel
theorem d_Vwm_side_19 : decode prog_20_method_26_code 19 = .ok (.iconst 0, 1) := by decide +kernel
theorem d_Vwm_side_20 : decode prog_20_method_26_code 20 = .ok (.iconst 0, 1) := by decide +kernel
theorem d_Vwm_side_21 : decode prog_20_method_26_code 21 = .ok (.invokevirtual 42, 3) := by decide +kernel
theorem d_Vwm_side_24 : decode prog_20_method_26_code 24 = .ok (.ifCond .eq 5, 3) := by decide +kernel
theorem d_Vwm_side_27 : decode prog_20_method_26_code 27 = .ok (.iconst 0, 1) := by decide +kernel
theorem d_Vwm_side_28 : decode prog_20_method_26_code 28 = .ok (.ireturn, 1) := by decide +kernel
theorem d_Vwm_side_29 : decode prog_20_method_26_code 29 = .ok (.aload_n 0, 1) := by decide +kernel
theorem d_Vwm_side_30 : decode prog_20_method_26_code 30 = .ok (.iload_n 1, 1) := by decide +kernel
theorem d_Vwm_side_31 : decode prog_20_method_26_code 31 = .ok (.invokevirtual 124, 3) := by decide +kernel
theorem d_Vwm_side_34 : decode prog_20_method_26_code 34 = .ok (.lstore_n 2, 1) := by decide +kernel
theorem d_Vwm_side_35 : decode prog_20_method_26_code 35 = .ok (.lload_n 2, 1) := by decide +kernel
theorem d_Vwm_side_36 : decode prog_20_method_26_code 36 = .ok (.lconst 0, 1) := by decide +kernel
theorem d_Vwm_side_37 : decode prog_20_method_26_code 37 = .ok (.lcmp, 1) := by decide +kernel
theorem d_Vwm_side_38 : decode prog_20_method_26_code 38 = .ok (.ifCond .le 7, 3) := by decide +kernel
theorem d_Vwm_side_41 : decode prog_20_method_26_code 41 = .ok (.iconst 1, 1) := by decide +kernel
theorem d_Vwm_side_42 : decode prog_20_method_26_code 42 = .ok (.goto 4, 3) := by decide +kernel
theorem d_Vwm_side_45 : decode prog_20_method_26_code 45 = .ok (.iconst 0, 1) := by decide +kernel
theorem d_Vwm_side_46 : decode prog_20_method_26_code 46 = .ok (.aload_n 0, 1) := by decide +kernel
theorem d_Vwm_side_47 : decode prog_20_method_26_code 47 = .ok (.getfield 70, 3) := by decide +kernel
theorem d_Vwm_side_50 : decode prog_20_method_26_code 50 = .ok (.if_icmp .eq 7, 3) := by decide +kernel
theorem d_Vwm_side_53 : decode prog_20_method_26_code 53 = .ok (.iconst 0, 1) := by decide +kernel
theorem d_Vwm_side_54 : decode prog_20_method_26_code 54 = .ok (.goto 4, 3) := by decide +kernel
theorem d_Vwm_side_57 : decode prog_20_method_26_code 57 = .ok (.iconst 1, 1) := by decide +kernel
theorem d_Vwm_side_58 : decode prog_20_method_26_code 58 = .ok (.istore 4, 2) := by decide +kernel
theorem d_Vwm_side_60 : decode prog_20_method_26_code 60 = .ok (.lload_n 2, 1) := by decide +kernel
theorem d_Vwm_side_61 : decode prog_20_method_26_code 61 = .ok (.lconst 0, 1) := by decide +kernel
theorem d_Vwm_side_62 : decode prog_20_method_26_code 62 = .ok (.lcmp, 1) := by decide +kernel
theorem d_Vwm_side_63 : decode prog_20_method_26_code 63 = .ok (.ifCond .eq 16, 3) := by decide +kernel
theorem d_Vwm_side_66 : decode prog_20_method_26_code 66 = .ok (.aload_n 0, 1) := by decide +kernel
theorem d_Vwm_side_67 : decode prog_20_method_26_code 67 = .ok (.getfield 67, 3) := by decide +kernel
theorem d_Vwm_side_70 : decode prog_20_method_26_code 70 = .ok (.iload 4, 2) := by decide +kernel
theorem d_Vwm_side_72 : decode prog_20_method_26_code 72 = .ok (.ishr, 1) := by decide +kernel
theorem d_Vwm_side_73 : decode prog_20_method_26_code 73 = .ok (.iconst 1, 1) := by decide +kernel
theorem d_Vwm_side_74 : decode prog_20_method_26_code 74 = .ok (.iand, 1) := by decide +kernel
theorem d_Vwm_side_75 : decode prog_20_method_26_code 75 = .ok (.iconst 1, 1) := by decide +kernel
theorem d_Vwm_side_76 : decode prog_20_method_26_code 76 = .ok (.if_icmp .ne 7, 3) := by decide +kernel
theorem d_Vwm_side_79 : decode prog_20_method_26_code 79 = .ok (.iconst 1, 1) := by decide +kernel
theorem d_Vwm_side_80 : decode prog_20_method_26_code 80 = .ok (.goto 4, 3) := by decide +kernel
theorem d_Vwm_side_83 : decode prog_20_method_26_code 83 = .ok (.iconst 0, 1) := by decide +kernel
theorem d_Vwm_side_84 : decode prog_20_method_26_code 84 = .ok (.istore 5, 2) := by decide +kernel
theorem d_Vwm_side_86 : decode prog_20_method_26_code 86 = .ok (.iload 5, 2) := by decide +kernel
theorem d_Vwm_side_88 : decode prog_20_method_26_code 88 = .ok (.ifCond .eq 7, 3) := by decide +kernel
theorem d_Vwm_side_91 : decode prog_20_method_26_code 91 = .ok (.iconst (-1), 1) := by decide +kernel
theorem d_Vwm_side_92 : decode prog_20_method_26_code 92 = .ok (.goto 5, 3) := by decide +kernel
theorem d_Vwm_side_95 : decode prog_20_method_26_code 95 = .ok (.iload 4, 2) := by decide +kernel
theorem d_Vwm_side_97 : decode prog_20_method_26_code 97 = .ok (.ireturn, 1) := by decide +kernel
def F_Vwm_side_97 (σ : Sg) (s0 : Int32) : Option (Sg × Int32) := some (σ, s0)
set_option maxRecDepth 10000 in
set_option maxHeartbeats 4000000 in
theorem bt_Vwm_side_97 {p : Program} {l : Launch} {e : Env} {R : Room} {s : State} {m : MethodId} {args : Array Value} {below : List Frame} {meth : Method} {c : Code} {D : va_G} {τ : ClassId × ClassId × ClassId} {B : Nat} {A : Nat → Prop} {ad : Nat → Nat} (E : Cx p R s m args meth c prog_20_method_26_code 6 "DrawingMachineModel$VertexWorkModel" 2 D τ B A) (hret : meth.sig.returnType = (some .int)) (o : Sg × Int32) (σ : Sg) (s0 : Int32) (h : F_Vwm_side_97 σ s0 = some o) {H : Heap} {locs : List Loc} {ls : Array Slot} (w : Wd s D A (wdM τ σ ad) H locs) (hl : lv_has ls 6 []) : W p l e R s m args below meth c H locs 0 0 (QI below args s A D τ (wdM τ o.1 ad) o.2) (F0 m 97 ls [.int s0]) := by
  obtain rfl := Option.some.inj h
  exact rt_i E w hret d_Vwm_side_97
def F_Vwm_side_84 (σ : Sg) (v4 : Int32) (s0 : Int32) : Option (Sg × Int32) := if s0 = 0 then (F_Vwm_side_97 σ v4) else (F_Vwm_side_97 σ (-1))
set_option maxRecDepth 10000 in
set_option maxHeartbeats 4000000 in
theorem bt_Vwm_side_84 {p : Program} {l : Launch} {e : Env} {R : Room} {s : State} {m : MethodId} {args : Array Value} {below : List Frame} {meth : Method} {c : Code} {D : va_G} {τ : ClassId × ClassId × ClassId} {B : Nat} {A : Nat → Prop} {ad : Nat → Nat} (E : Cx p R s m args meth c prog_20_method_26_code 6 "DrawingMachineModel$VertexWorkModel" 2 D τ B A) (hret : meth.sig.returnType = (some .int)) (o : Sg × Int32) (σ : Sg) (v4 : Int32) (s0 : Int32) (h : F_Vwm_side_84 σ v4 s0 = some o) {H : Heap} {locs : List Loc} {ls : Array Slot} (w : Wd s D A (wdM τ σ ad) H locs) (hl : lv_has ls 6 [(4, .int v4)]) : W p l e R s m args below meth c H locs 0 0 (QI below args s A D τ (wdM τ o.1 ad) o.2) (F0 m 84 ls [.int s0]) := by
  refine lv_istore (lv' := [(5, .int s0), (4, .int v4)]) E.x E.b d_Vwm_side_84 hl (by decide) rfl (fun ls hl => ?_)
  refine lv_iload E.x E.b d_Vwm_side_86 (lv_at hl 0 rfl) ?_
  refine lv_if_eq (tgt := 95) E.x E.b d_Vwm_side_88 (by decide) (fun c => ?_) (fun c => ?_)
  ·
    replace h := ifT c h
    refine lv_iload E.x E.b d_Vwm_side_95 (lv_at hl 1 rfl) ?_
    exact bt_Vwm_side_97 E hret o σ v4 h w (lv_sub hl [] rfl)
  ·
    replace h := ifF c h
    refine lv_iconst (v := (-1)) E.x E.b d_Vwm_side_91 (by decide) ?_
    refine lv_goto (tgt := 97) E.x E.b d_Vwm_side_92 (by decide) ?_
    exact bt_Vwm_side_97 E hret o σ (-1) h w (lv_sub hl [] rfl)
def F_Vwm_side_79 (σ : Sg) (v4 : Int32) : Option (Sg × Int32) := F_Vwm_side_84 σ v4 1
set_option maxRecDepth 10000 in
set_option maxHeartbeats 4000000 in
theorem bt_Vwm_side_79 {p : Program} {l : Launch} {e : Env} {R : Room} {s : State} {m : MethodId} {args : Array Value} {below : List Frame} {meth : Method} {c : Code} {D : va_G} {τ : ClassId × ClassId × ClassId} {B : Nat} {A : Nat → Prop} {ad : Nat → Nat} (E : Cx p R s m args meth c prog_20_method_26_code 6 "DrawingMachineModel$VertexWorkModel" 2 D τ B A) (hret : meth.sig.returnType = (some .int)) (o : Sg × Int32) (σ : Sg) (v4 : Int32) (h : F_Vwm_side_79 σ v4 = some o) {H : Heap} {locs : List Loc} {ls : Array Slot} (w : Wd s D A (wdM τ σ ad) H locs) (hl : lv_has ls 6 [(4, .int v4)]) : W p l e R s m args below meth c H locs 0 0 (QI below args s A D τ (wdM τ o.1 ad) o.2) (F0 m 79 ls []) := by
  refine lv_iconst (v := 1) E.x E.b d_Vwm_side_79 (by decide) ?_
  refine lv_goto (tgt := 84) E.x E.b d_Vwm_side_80 (by decide) ?_
  exact bt_Vwm_side_84 E hret o σ v4 1 h w (lv_sub hl [0] rfl)
def F_Vwm_side_58 (σ : Sg) (v2 : Int64) (s0 : Int32) : Option (Sg × Int32) := if v2 = 0 then (F_Vwm_side_79 σ s0) else (if (((σ.1 22) >>> (s0 &&& 31)) &&& 1) = 1 then (F_Vwm_side_79 σ s0) else (F_Vwm_side_84 σ s0 0))
set_option maxRecDepth 10000 in
set_option maxHeartbeats 4000000 in
theorem bt_Vwm_side_58 {p : Program} {l : Launch} {e : Env} {R : Room} {s : State} {m : MethodId} {args : Array Value} {below : List Frame} {meth : Method} {c : Code} {D : va_G} {τ : ClassId × ClassId × ClassId} {B : Nat} {A : Nat → Prop} {ad : Nat → Nat} (E : Cx p R s m args meth c prog_20_method_26_code 6 "DrawingMachineModel$VertexWorkModel" 2 D τ B A) (hret : meth.sig.returnType = (some .int)) (o : Sg × Int32) (σ : Sg) (v2 : Int64) (s0 : Int32) (h : F_Vwm_side_58 σ v2 s0 = some o) {H : Heap} {locs : List Loc} {ls : Array Slot} (w : Wd s D A (wdM τ σ ad) H locs) (hl : lv_has ls 6 [(0, .ref (ad 62)), (2, .long v2)]) : W p l e R s m args below meth c H locs 0 0 (QI below args s A D τ (wdM τ o.1 ad) o.2) (F0 m 58 ls [.int s0]) := by
  refine lv_istore (lv' := [(4, .int s0), (0, .ref (ad 62)), (2, .long v2)]) E.x E.b d_Vwm_side_58 hl (by decide) rfl (fun ls hl => ?_)
  refine lv_lload_n E.x E.b d_Vwm_side_60 rfl (lv_at hl 2 rfl) ?_
  refine lv_lconst (v := 0) E.x E.b d_Vwm_side_61 (by decide) ?_
  refine W.lcmp E.x E.b d_Vwm_side_62 ?_
  refine lv_if_eq (tgt := 79) E.x E.b d_Vwm_side_63 (by decide) (fun c => ?_) (fun c => ?_)
  ·
    replace h := ifT (lgc_eq.mp c) h
    exact bt_Vwm_side_79 E hret o σ s0 h w (lv_sub hl [0] rfl)
  ·
    replace h := ifF (fun h9 => c (lgc_eq.mpr h9)) h
    refine lv_aload_n E.x E.b d_Vwm_side_66 rfl (lv_at hl 1 rfl) ?_
    refine gM_Vwm_out E w k1626 d_Vwm_side_67 ?_
    refine lv_iload E.x E.b d_Vwm_side_70 (lv_at hl 0 rfl) ?_
    refine lv_ishr E.x E.b d_Vwm_side_72 ?_
    refine lv_iconst (v := 1) E.x E.b d_Vwm_side_73 (by decide) ?_
    refine lv_iand E.x E.b d_Vwm_side_74 ?_
    refine lv_iconst (v := 1) E.x E.b d_Vwm_side_75 (by decide) ?_
    refine lv_icmp_ne (tgt := 83) E.x E.b d_Vwm_side_76 (by decide) (fun c => ?_) (fun c => ?_)
    ·
      replace h := ifF c h
      refine lv_iconst (v := 0) E.x E.b d_Vwm_side_83 (by decide) ?_
      exact bt_Vwm_side_84 E hret o σ s0 0 h w (lv_sub hl [0] rfl)
    ·
      replace h := ifT c h
      exact bt_Vwm_side_79 E hret o σ s0 h w (lv_sub hl [0] rfl)
def F_Vwm_side_46 (σ : Sg) (v2 : Int64) (s0 : Int32) : Option (Sg × Int32) := if s0 = (σ.1 23) then (F_Vwm_side_58 σ v2 1) else (F_Vwm_side_58 σ v2 0)
set_option maxRecDepth 10000 in
set_option maxHeartbeats 4000000 in
theorem bt_Vwm_side_46 {p : Program} {l : Launch} {e : Env} {R : Room} {s : State} {m : MethodId} {args : Array Value} {below : List Frame} {meth : Method} {c : Code} {D : va_G} {τ : ClassId × ClassId × ClassId} {B : Nat} {A : Nat → Prop} {ad : Nat → Nat} (E : Cx p R s m args meth c prog_20_method_26_code 6 "DrawingMachineModel$VertexWorkModel" 2 D τ B A) (hret : meth.sig.returnType = (some .int)) (o : Sg × Int32) (σ : Sg) (v2 : Int64) (s0 : Int32) (h : F_Vwm_side_46 σ v2 s0 = some o) {H : Heap} {locs : List Loc} {ls : Array Slot} (w : Wd s D A (wdM τ σ ad) H locs) (hl : lv_has ls 6 [(0, .ref (ad 62)), (2, .long v2)]) : W p l e R s m args below meth c H locs 0 0 (QI below args s A D τ (wdM τ o.1 ad) o.2) (F0 m 46 ls [.int s0]) := by
  refine lv_aload_n E.x E.b d_Vwm_side_46 rfl (lv_at hl 0 rfl) ?_
  refine gM_Vwm_clock E w k1627 d_Vwm_side_47 ?_
  refine lv_icmp_eq (tgt := 57) E.x E.b d_Vwm_side_50 (by decide) (fun c => ?_) (fun c => ?_)
  ·
    replace h := ifT c h
    refine lv_iconst (v := 1) E.x E.b d_Vwm_side_57 (by decide) ?_
    exact bt_Vwm_side_58 E hret o σ v2 1 h w (lv_sub hl [0, 1] rfl)
  ·
    replace h := ifF c h
    refine lv_iconst (v := 0) E.x E.b d_Vwm_side_53 (by decide) ?_
    refine lv_goto (tgt := 58) E.x E.b d_Vwm_side_54 (by decide) ?_
    exact bt_Vwm_side_58 E hret o σ v2 0 h w (lv_sub hl [0, 1] rfl)
def F_Vwm_side_20 (σ : Sg) (v1 : Int32) (s1 : Int32) : Option (Sg × Int32) := bd (F_Vwm_refuse σ s1 0) (fun o4 => if o4.2 = 0 then (bd (F_Vwm_areaOf o4.1 v1) (fun o5 => if o5 ≤ 0 then (F_Vwm_side_46 o4.1 o5 0) else (F_Vwm_side_46 o4.1 o5 1))) else (some (o4.1, 0)))
set_option maxRecDepth 10000 in
set_option maxHeartbeats 4000000 in
theorem bt_Vwm_side_20 {p : Program} {l : Launch} {e : Env} {R : Room} {s : State} {m : MethodId} {args : Array Value} {below : List Frame} {meth : Method} {c : Code} {D : va_G} {τ : ClassId × ClassId × ClassId} {B : Nat} {A : Nat → Prop} {ad : Nat → Nat} (E : Cx p R s m args meth c prog_20_method_26_code 6 "DrawingMachineModel$VertexWorkModel" 2 D τ B A) (hret : meth.sig.returnType = (some .int)) (o : Sg × Int32) (σ : Sg) (v1 : Int32) (s1 : Int32) (h : F_Vwm_side_20 σ v1 s1 = some o) {H : Heap} {locs : List Loc} {ls : Array Slot} (w : Wd s D A (wdM τ σ ad) H locs) (hl : lv_has ls 6 [(0, .ref (ad 62)), (1, .int v1)]) : W p l e R s m args below meth c H locs 0 0 (QI below args s A D τ (wdM τ o.1 ad) o.2) (F0 m 20 ls [.int s1, .ref (ad 62)]) := by
  refine lv_iconst (v := 0) E.x E.b d_Vwm_side_20 (by decide) ?_
  obtain ⟨o4, h_o4, h⟩ := bd_some h
  refine clV_Vwm_refuse E w (x0 := s1) (x1 := 0) h_o4 k2028 (by decide) hl.1 (Nat.le_of_ble_eq_true rfl) d_Vwm_side_21 (fun H locs w => ?_)
  refine lv_if_eq (tgt := 29) E.x E.b d_Vwm_side_24 (by decide) (fun c => ?_) (fun c => ?_)
  ·
    replace h := ifT c h
    refine lv_aload_n E.x E.b d_Vwm_side_29 rfl (lv_at hl 0 rfl) ?_
    refine lv_iload_n E.x E.b d_Vwm_side_30 rfl (lv_at hl 1 rfl) ?_
    obtain ⟨o5, h_o5, h⟩ := bd_some h
    refine clV_Vwm_areaOf E w (x0 := v1) h_o5 k2355 (by decide) hl.1 (Nat.le_of_ble_eq_true rfl) d_Vwm_side_31 (fun H locs w => ?_)
    refine lv_lstore_n (lv' := [(2, .long o5), (0, .ref (ad 62)), (1, .int v1)]) E.x E.b d_Vwm_side_34 rfl hl (by decide) rfl (fun ls hl => ?_)
    refine lv_lload_n E.x E.b d_Vwm_side_35 rfl (lv_at hl 0 rfl) ?_
    refine lv_lconst (v := 0) E.x E.b d_Vwm_side_36 (by decide) ?_
    refine W.lcmp E.x E.b d_Vwm_side_37 ?_
    refine lv_if_le (tgt := 45) E.x E.b d_Vwm_side_38 (by decide) (fun c => ?_) (fun c => ?_)
    ·
      replace h := ifT (lgc_le.mp c) h
      refine lv_iconst (v := 0) E.x E.b d_Vwm_side_45 (by decide) ?_
      exact bt_Vwm_side_46 E hret o o4.1 o5 0 h w (lv_sub hl [1, 0] rfl)
    ·
      replace h := ifF (fun h9 => c (lgc_le.mpr h9)) h
      refine lv_iconst (v := 1) E.x E.b d_Vwm_side_41 (by decide) ?_
      refine lv_goto (tgt := 46) E.x E.b d_Vwm_side_42 (by decide) ?_
      exact bt_Vwm_side_46 E hret o o4.1 o5 1 h w (lv_sub hl [1, 0] rfl)
  ·
    replace h := ifF c h
    refine lv_iconst (v := 0) E.x E.b d_Vwm_side_27 (by decide) ?_
    obtain rfl := Option.some.inj h
    exact rt_i E w hret d_Vwm_side_28
def F_Vwm_side (σ : Sg) (x0 : Int32) : Option (Sg × Int32) := bd (F_Vwm_in x0 0 ((σ.1 26) - 1)) (fun o6 => if o6 = 0 then (F_Vwm_side_20 σ x0 1) else (F_Vwm_side_20 σ x0 0))
set_option maxRecDepth 10000 in
set_option maxHeartbeats 4000000 in
theorem c_Vwm_side (l : Launch) (D : va_G) (τ : ClassId × ClassId × ClassId) (B : Nat) (σ : Sg) (ad : Nat → Nat) (x0 : Int32) (o : Sg × Int32) (h : F_Vwm_side σ x0 = some o) : MI l y_Vwm_side (Cond.code y_Vwm_side prog_20_method_26_code 6 (some .int)) 2 D τ B [.ref (ad 62), .int x0] (wdM τ σ ad) (wdM τ o.1 ad) o.2 := by
  refine en_i (by decide) (Nat.le_of_ble_eq_true rfl) ?_
  intro p e R s m args below meth c H locs ls A E hret w hl
  have E : Cx p R s m args meth c prog_20_method_26_code 6 "DrawingMachineModel$VertexWorkModel" 2 D τ B A := E
  have hl : lv_has ls 6 [(0, .ref (ad 62)), (1, .int x0)] := hl
  refine lv_aload_n E.x E.b d_Vwm_side_0 rfl (lv_at hl 0 rfl) ?_
  refine lv_iload_n E.x E.b d_Vwm_side_1 rfl (lv_at hl 1 rfl) ?_
  refine lv_iconst (v := 0) E.x E.b d_Vwm_side_2 (by decide) ?_
  refine lv_aload_n E.x E.b d_Vwm_side_3 rfl (lv_at hl 0 rfl) ?_
  refine gM_Vwm_made E w k1632 d_Vwm_side_4 ?_
  refine lv_iconst (v := 1) E.x E.b d_Vwm_side_7 (by decide) ?_
  refine lv_isub E.x E.b d_Vwm_side_8 ?_
  obtain ⟨o6, h_o6, h⟩ := bd_some h
  refine clS_Vwm_in E w (x0 := x0) (x1 := 0) (x2 := ((σ.1 26) - 1)) h_o6 k2025 (by decide) hl.1 (Nat.le_of_ble_eq_true rfl) d_Vwm_side_9 (fun H locs w => ?_)
  refine lv_if_ne (tgt := 19) E.x E.b d_Vwm_side_12 (by decide) (fun c => ?_) (fun c => ?_)
  ·
    replace h := ifF c h
    refine lv_iconst (v := 0) E.x E.b d_Vwm_side_19 (by decide) ?_
    exact bt_Vwm_side_20 E hret o σ x0 0 h w (lv_sub hl [0, 1] rfl)
  ·
    replace h := ifT c h
    refine lv_iconst (v := 1) E.x E.b d_Vwm_side_15 (by decide) ?_
    refine lv_goto (tgt := 20) E.x E.b d_Vwm_side_16 (by decide) ?_
    exact bt_Vwm_side_20 E hret o σ x0 1 h w (lv_sub hl [0, 1] rfl)
theorem clV_Vwm_side {p : Program} {l : Launch} {e : Env} {R : Room} {s : State} {m : MethodId} {args : Array Value} {below : List Frame} {meth : Method} {c : Code} {H : Heap} {locs : List Loc} {Q : State → Prop} {cc : ByteArray} {nL pc lev : Nat} {own : String} {D : va_G} {τ : ClassId × ClassId × ClassId} {B : Nat} {A : Nat → Prop} {σ : Sg} {ad : Nat → Nat} {ls : Array Slot} {rest : List Value} (E : Cx p R s m args meth c cc nL own lev D τ B A) (w : Wd s D A (wdM τ σ ad) H locs) {x0 : Int32} {o : Sg × Int32} (h : F_Vwm_side σ x0 = some o) {index : Nat} (hlk : Cond.methodLink own index y_Vwm_side ∈ tw) (hlev : 2 < lev) (hsz : ls.size = nL) (hr : (rest.map fun v => v.category).sum ≤ 8) (hd : decode cc pc = .ok (.invokevirtual index, 3)) (kk : ∀ (H1 : Heap) (locs1 : List Loc), Wd s D A (wdM τ o.1 ad) H1 locs1 → W p l e R s m args below meth c H1 locs1 0 0 Q (F0 m (pc + 3) ls (.int o.2 :: rest))) : W p l e R s m args below meth c H locs 0 0 Q (F0 m pc ls (.int x0 :: .ref (ad 62) :: rest)) :=
  cr_i w E.C (va_runV (As := [.int x0]) (rest := rest) E.fix (c_Vwm_side l D τ B σ ad x0 o h H.size) (cwV 1 E.w (tw_pre (tw_good k2354) (l := [_, _, _, _]) (List.forall_mem_cons.mpr ⟨hlk, List.forall_mem_cons.mpr ⟨k2352, List.forall_mem_cons.mpr ⟨k2353, List.forall_mem_cons.mpr ⟨k18, fun _ h => absurd h List.not_mem_nil⟩⟩⟩⟩)) rfl rfl rfl (by decide +kernel) (E.rm hlev (by decide))) (wd_preV w E.C [.int x0] rcM_Vwm rfl) rfl rfl hsz rfl (lv_room hr) hd ⟨Nat.zero_le _, Nat.zero_le _⟩) kk

theorem d_Vwm_triangles_0 : decode prog_20_method_11_code 0 = .ok (.aload_n 0, 1) := by decide +kernel
theorem d_Vwm_triangles_1 : decode prog_20_method_11_code 1 = .ok (.iload_n 1, 1) := by decide +kernel
theorem d_Vwm_triangles_2 : decode prog_20_method_11_code 2 = .ok (.iconst 0, 1) := by decide +kernel
theorem d_Vwm_triangles_3 : decode prog_20_method_11_code 3 = .ok (.iconst 2, 1) := by decide +kernel
theorem d_Vwm_triangles_4 : decode prog_20_method_11_code 4 = .ok (.invokestatic 38, 3) := by decide +kernel
theorem d_Vwm_triangles_7 : decode prog_20_method_11_code 7 = .ok (.ifCond .eq 7, 3) := by decide +kernel
theorem d_Vwm_triangles_10 : decode prog_20_method_11_code 10 = .ok (.iload_n 2, 1) := by decide +kernel
theorem d_Vwm_triangles_11 : decode prog_20_method_11_code 11 = .ok (.ifCond .ge 7, 3) := by decide +kernel
theorem d_Vwm_triangles_14 : decode prog_20_method_11_code 14 = .ok (.iconst 1, 1) := by decide +kernel
theorem d_Vwm_triangles_15 : decode prog_20_method_11_code 15 = .ok (.goto 4, 3) := by decide +kernel
theorem d_Vwm_triangles_18 : decode prog_20_method_11_code 18 = .ok (.iconst 0, 1) := by decide +kernel
theorem d_Vwm_triangles_19 : decode prog_20_method_11_code 19 = .ok (.iconst 0, 1) := by decide +kernel
theorem d_Vwm_triangles_20 : decode prog_20_method_11_code 20 = .ok (.invokevirtual 42, 3) := by decide +kernel
theorem d_Vwm_triangles_23 : decode prog_20_method_11_code 23 = .ok (.ifCond .eq 5, 3) := by decide +kernel
theorem d_Vwm_triangles_26 : decode prog_20_method_11_code 26 = .ok (.iconst 0, 1) := by decide +kernel
theorem d_Vwm_triangles_27 : decode prog_20_method_11_code 27 = .ok (.ireturn, 1) := by decide +kernel
theorem d_Vwm_triangles_28 : decode prog_20_method_11_code 28 = .ok (.iload_n 1, 1) := by decide +kernel
theorem d_Vwm_triangles_29 : decode prog_20_method_11_code 29 = .ok (.ifCond .ne 9, 3) := by decide +kernel
theorem d_Vwm_triangles_32 : decode prog_20_method_11_code 32 = .ok (.iload_n 2, 1) := by decide +kernel
theorem d_Vwm_triangles_33 : decode prog_20_method_11_code 33 = .ok (.iconst 3, 1) := by decide +kernel
theorem d_Vwm_triangles_34 : decode prog_20_method_11_code 34 = .ok (.idiv, 1) := by decide +kernel
theorem d_Vwm_triangles_35 : decode prog_20_method_11_code 35 = .ok (.goto 15, 3) := by decide +kernel
theorem d_Vwm_triangles_38 : decode prog_20_method_11_code 38 = .ok (.iload_n 2, 1) := by decide +kernel
theorem d_Vwm_triangles_39 : decode prog_20_method_11_code 39 = .ok (.iconst 3, 1) := by decide +kernel
theorem d_Vwm_triangles_40 : decode prog_20_method_11_code 40 = .ok (.if_icmp .ge 7, 3) := by decide +kernel
theorem d_Vwm_triangles_43 : decode prog_20_method_11_code 43 = .ok (.iconst 0, 1) := by decide +kernel
theorem d_Vwm_triangles_44 : decode prog_20_method_11_code 44 = .ok (.goto 6, 3) := by decide +kernel
theorem d_Vwm_triangles_47 : decode prog_20_method_11_code 47 = .ok (.iload_n 2, 1) := by decide +kernel
theorem d_Vwm_triangles_48 : decode prog_20_method_11_code 48 = .ok (.iconst 2, 1) := by decide +kernel
theorem d_Vwm_triangles_49 : decode prog_20_method_11_code 49 = .ok (.isub, 1) := by decide +kernel
theorem d_Vwm_triangles_50 : decode prog_20_method_11_code 50 = .ok (.ireturn, 1) := by decide +kernel
def F_Vwm_triangles_50 (σ : Sg) (s0 : Int32) : Option (Sg × Int32) := some (σ, s0)
set_option maxRecDepth 10000 in
set_option maxHeartbeats 4000000 in
theorem bt_Vwm_triangles_50 {p : Program} {l : Launch} {e : Env} {R : Room} {s : State} {m : MethodId} {args : Array Value} {below : List Frame} {meth : Method} {c : Code} {D : va_G} {τ : ClassId × ClassId × ClassId} {B : Nat} {A : Nat → Prop} {ad : Nat → Nat} (E : Cx p R s m args meth c prog_20_method_11_code 3 "DrawingMachineModel$VertexWorkModel" 1 D τ B A) (hret : meth.sig.returnType = (some .int)) (o : Sg × Int32) (σ : Sg) (s0 : Int32) (h : F_Vwm_triangles_50 σ s0 = some o) {H : Heap} {locs : List Loc} {ls : Array Slot} (w : Wd s D A (wdM τ σ ad) H locs) (hl : lv_has ls 3 []) : W p l e R s m args below meth c H locs 0 0 (QI below args s A D τ (wdM τ o.1 ad) o.2) (F0 m 50 ls [.int s0]) := by
  obtain rfl := Option.some.inj h
  exact rt_i E w hret d_Vwm_triangles_50
def F_Vwm_triangles_19 (σ : Sg) (v1 : Int32) (v2 : Int32) (s1 : Int32) : Option (Sg × Int32) := bd (F_Vwm_refuse σ s1 0) (fun o3 => if o3.2 = 0 then (if v1 = 0 then (F_Vwm_triangles_50 o3.1 (v2 / 3)) else (if 3 ≤ v2 then (F_Vwm_triangles_50 o3.1 (v2 - 2)) else (F_Vwm_triangles_50 o3.1 0))) else (some (o3.1, 0)))
set_option maxRecDepth 10000 in
set_option maxHeartbeats 4000000 in
theorem bt_Vwm_triangles_19 {p : Program} {l : Launch} {e : Env} {R : Room} {s : State} {m : MethodId} {args : Array Value} {below : List Frame} {meth : Method} {c : Code} {D : va_G} {τ : ClassId × ClassId × ClassId} {B : Nat} {A : Nat → Prop} {ad : Nat → Nat} (E : Cx p R s m args meth c prog_20_method_11_code 3 "DrawingMachineModel$VertexWorkModel" 1 D τ B A) (hret : meth.sig.returnType = (some .int)) (o : Sg × Int32) (σ : Sg) (v1 : Int32) (v2 : Int32) (s1 : Int32) (h : F_Vwm_triangles_19 σ v1 v2 s1 = some o) {H : Heap} {locs : List Loc} {ls : Array Slot} (w : Wd s D A (wdM τ σ ad) H locs) (hl : lv_has ls 3 [(1, .int v1), (2, .int v2)]) : W p l e R s m args below meth c H locs 0 0 (QI below args s A D τ (wdM τ o.1 ad) o.2) (F0 m 19 ls [.int s1, .ref (ad 62)]) := by
  refine lv_iconst (v := 0) E.x E.b d_Vwm_triangles_19 (by decide) ?_
  obtain ⟨o3, h_o3, h⟩ := bd_some h
  refine clV_Vwm_refuse E w (x0 := s1) (x1 := 0) h_o3 k2028 (by decide) hl.1 (Nat.le_of_ble_eq_true rfl) d_Vwm_triangles_20 (fun H locs w => ?_)
  refine lv_if_eq (tgt := 28) E.x E.b d_Vwm_triangles_23 (by decide) (fun c => ?_) (fun c => ?_)
  ·
    replace h := ifT c h
    refine lv_iload_n E.x E.b d_Vwm_triangles_28 rfl (lv_at hl 0 rfl) ?_
    refine lv_if_ne (tgt := 38) E.x E.b d_Vwm_triangles_29 (by decide) (fun c => ?_) (fun c => ?_)
    ·
      replace h := ifF c h
      refine lv_iload_n E.x E.b d_Vwm_triangles_38 rfl (lv_at hl 1 rfl) ?_
      refine lv_iconst (v := 3) E.x E.b d_Vwm_triangles_39 (by decide) ?_
      refine lv_icmp_ge (tgt := 47) E.x E.b d_Vwm_triangles_40 (by decide) (fun c => ?_) (fun c => ?_)
      ·
        replace h := ifT c h
        refine lv_iload_n E.x E.b d_Vwm_triangles_47 rfl (lv_at hl 1 rfl) ?_
        refine lv_iconst (v := 2) E.x E.b d_Vwm_triangles_48 (by decide) ?_
        refine lv_isub E.x E.b d_Vwm_triangles_49 ?_
        exact bt_Vwm_triangles_50 E hret o o3.1 (v2 - 2) h w (lv_sub hl [] rfl)
      ·
        replace h := ifF c h
        refine lv_iconst (v := 0) E.x E.b d_Vwm_triangles_43 (by decide) ?_
        refine lv_goto (tgt := 50) E.x E.b d_Vwm_triangles_44 (by decide) ?_
        exact bt_Vwm_triangles_50 E hret o o3.1 0 h w (lv_sub hl [] rfl)
    ·
      replace h := ifT c h
      refine lv_iload_n E.x E.b d_Vwm_triangles_32 rfl (lv_at hl 1 rfl) ?_
      refine lv_iconst (v := 3) E.x E.b d_Vwm_triangles_33 (by decide) ?_
      refine lv_idiv E.x E.b d_Vwm_triangles_34 (by decide) ?_
      refine lv_goto (tgt := 50) E.x E.b d_Vwm_triangles_35 (by decide) ?_
      exact bt_Vwm_triangles_50 E hret o o3.1 (v2 / 3) h w (lv_sub hl [] rfl)
  ·
    replace h := ifF c h
    refine lv_iconst (v := 0) E.x E.b d_Vwm_triangles_26 (by decide) ?_
    obtain rfl := Option.some.inj h
    exact rt_i E w hret d_Vwm_triangles_27
def F_Vwm_triangles_14 (σ : Sg) (v1 : Int32) (v2 : Int32) : Option (Sg × Int32) := F_Vwm_triangles_19 σ v1 v2 1
set_option maxRecDepth 10000 in
set_option maxHeartbeats 4000000 in
theorem bt_Vwm_triangles_14 {p : Program} {l : Launch} {e : Env} {R : Room} {s : State} {m : MethodId} {args : Array Value} {below : List Frame} {meth : Method} {c : Code} {D : va_G} {τ : ClassId × ClassId × ClassId} {B : Nat} {A : Nat → Prop} {ad : Nat → Nat} (E : Cx p R s m args meth c prog_20_method_11_code 3 "DrawingMachineModel$VertexWorkModel" 1 D τ B A) (hret : meth.sig.returnType = (some .int)) (o : Sg × Int32) (σ : Sg) (v1 : Int32) (v2 : Int32) (h : F_Vwm_triangles_14 σ v1 v2 = some o) {H : Heap} {locs : List Loc} {ls : Array Slot} (w : Wd s D A (wdM τ σ ad) H locs) (hl : lv_has ls 3 [(1, .int v1), (2, .int v2)]) : W p l e R s m args below meth c H locs 0 0 (QI below args s A D τ (wdM τ o.1 ad) o.2) (F0 m 14 ls [.ref (ad 62)]) := by
  refine lv_iconst (v := 1) E.x E.b d_Vwm_triangles_14 (by decide) ?_
  refine lv_goto (tgt := 19) E.x E.b d_Vwm_triangles_15 (by decide) ?_
  exact bt_Vwm_triangles_19 E hret o σ v1 v2 1 h w (lv_sub hl [0, 1] rfl)
def F_Vwm_triangles (σ : Sg) (x0 : Int32) (x1 : Int32) : Option (Sg × Int32) := bd (F_Vwm_in x0 0 2) (fun o4 => if o4 = 0 then (F_Vwm_triangles_14 σ x0 x1) else (if 0 ≤ x1 then (F_Vwm_triangles_19 σ x0 x1 0) else (F_Vwm_triangles_14 σ x0 x1)))
set_option maxRecDepth 10000 in
set_option maxHeartbeats 4000000 in
theorem c_Vwm_triangles (l : Launch) (D : va_G) (τ : ClassId × ClassId × ClassId) (B : Nat) (σ : Sg) (ad : Nat → Nat) (x0 : Int32) (x1 : Int32) (o : Sg × Int32) (h : F_Vwm_triangles σ x0 x1 = some o) : MI l y_Vwm_triangles (Cond.code y_Vwm_triangles prog_20_method_11_code 3 (some .int)) 1 D τ B [.ref (ad 62), .int x0, .int x1] (wdM τ σ ad) (wdM τ o.1 ad) o.2 := by
  refine en_i (by decide) (Nat.le_of_ble_eq_true rfl) ?_
  intro p e R s m args below meth c H locs ls A E hret w hl
  have E : Cx p R s m args meth c prog_20_method_11_code 3 "DrawingMachineModel$VertexWorkModel" 1 D τ B A := E
  have hl : lv_has ls 3 [(0, .ref (ad 62)), (1, .int x0), (2, .int x1)] := hl
  refine lv_aload_n E.x E.b d_Vwm_triangles_0 rfl (lv_at hl 0 rfl) ?_
  refine lv_iload_n E.x E.b d_Vwm_triangles_1 rfl (lv_at hl 1 rfl) ?_
  refine lv_iconst (v := 0) E.x E.b d_Vwm_triangles_2 (by decide) ?_
  refine lv_iconst (v := 2) E.x E.b d_Vwm_triangles_3 (by decide) ?_
  obtain ⟨o4, h_o4, h⟩ := bd_some h
  refine clS_Vwm_in E w (x0 := x0) (x1 := 0) (x2 := 2) h_o4 k2025 (by decide) hl.1 (Nat.le_of_ble_eq_true rfl) d_Vwm_triangles_4 (fun H locs w => ?_)
  refine lv_if_eq (tgt := 14) E.x E.b d_Vwm_triangles_7 (by decide) (fun c => ?_) (fun c => ?_)
  ·
    replace h := ifT c h
    exact bt_Vwm_triangles_14 E hret o σ x0 x1 h w (lv_sub hl [1, 2] rfl)
  ·
    replace h := ifF c h
    refine lv_iload_n E.x E.b d_Vwm_triangles_10 rfl (lv_at hl 2 rfl) ?_
    refine lv_if_ge (tgt := 18) E.x E.b d_Vwm_triangles_11 (by decide) (fun c => ?_) (fun c => ?_)
    ·
      replace h := ifT c h
      refine lv_iconst (v := 0) E.x E.b d_Vwm_triangles_18 (by decide) ?_
      exact bt_Vwm_triangles_19 E hret o σ x0 x1 0 h w (lv_sub hl [1, 2] rfl)
    ·
      replace h := ifF c h
      exact bt_Vwm_triangles_14 E hret o σ x0 x1 h w (lv_sub hl [1, 2] rfl)
theorem clV_Vwm_triangles {p : Program} {l : Launch} {e : Env} {R : Room} {s : State} {m : MethodId} {args : Array Value} {below : List Frame} {meth : Method} {c : Code} {H : Heap} {locs : List Loc} {Q : State → Prop} {cc : ByteArray} {nL pc lev : Nat} {own : String} {D : va_G} {τ : ClassId × ClassId × ClassId} {B : Nat} {A : Nat → Prop} {σ : Sg} {ad : Nat → Nat} {ls : Array Slot} {rest : List Value} (E : Cx p R s m args meth c cc nL own lev D τ B A) (w : Wd s D A (wdM τ σ ad) H locs) {x0 : Int32} {x1 : Int32} {o : Sg × Int32} (h : F_Vwm_triangles σ x0 x1 = some o) {index : Nat} (hlk : Cond.methodLink own index y_Vwm_triangles ∈ tw) (hlev : 1 < lev) (hsz : ls.size = nL) (hr : (rest.map fun v => v.category).sum ≤ 8) (hd : decode cc pc = .ok (.invokevirtual index, 3)) (kk : ∀ (H1 : Heap) (locs1 : List Loc), Wd s D A (wdM τ o.1 ad) H1 locs1 → W p l e R s m args below meth c H1 locs1 0 0 Q (F0 m (pc + 3) ls (.int o.2 :: rest))) : W p l e R s m args below meth c H locs 0 0 Q (F0 m pc ls (.int x1 :: .int x0 :: .ref (ad 62) :: rest)) :=
  cr_i w E.C (va_runV (As := [.int x0, .int x1]) (rest := rest) E.fix (c_Vwm_triangles l D τ B σ ad x0 x1 o h H.size) (cwV 2 E.w (tw_pre (tw_good k2155) (l := [_, _, _, _]) (List.forall_mem_cons.mpr ⟨hlk, List.forall_mem_cons.mpr ⟨k2153, List.forall_mem_cons.mpr ⟨k2154, List.forall_mem_cons.mpr ⟨k18, fun _ h => absurd h List.not_mem_nil⟩⟩⟩⟩)) rfl rfl rfl (by decide +kernel) (E.rm hlev (by decide))) (wd_preV w E.C [.int x0, .int x1] rcM_Vwm rfl) rfl rfl hsz rfl (lv_room hr) hd ⟨Nat.zero_le _, Nat.zero_le _⟩) kk

theorem d_Mod_draw_0 : decode prog_14_method_19_code 0 = .ok (.aload_n 0, 1) := by decide +kernel
theorem d_Mod_draw_1 : decode prog_14_method_19_code 1 = .ok (.invokevirtual 147, 3) := by decide +kernel
theorem d_Mod_draw_4 : decode prog_14_method_19_code 4 = .ok (.aload_n 0, 1) := by decide +kernel
theorem d_Mod_draw_5 : decode prog_14_method_19_code 5 = .ok (.getfield 51, 3) := by decide +kernel
theorem d_Mod_draw_8 : decode prog_14_method_19_code 8 = .ok (.iload_n 1, 1) := by decide +kernel
theorem d_Mod_draw_9 : decode prog_14_method_19_code 9 = .ok (.iload_n 2, 1) := by decide +kernel
theorem d_Mod_draw_10 : decode prog_14_method_19_code 10 = .ok (.invokevirtual 201, 3) := by decide +kernel
theorem d_Mod_draw_13 : decode prog_14_method_19_code 13 = .ok (.istore 4, 2) := by decide +kernel
theorem d_Mod_draw_15 : decode prog_14_method_19_code 15 = .ok (.iconst 0, 1) := by decide +kernel
theorem d_Mod_draw_16 : decode prog_14_method_19_code 16 = .ok (.istore 5, 2) := by decide +kernel
theorem d_Mod_draw_18 : decode prog_14_method_19_code 18 = .ok (.iload 5, 2) := by decide +kernel
theorem d_Mod_draw_20 : decode prog_14_method_19_code 20 = .ok (.iload 4, 2) := by decide +kernel
theorem d_Mod_draw_22 : decode prog_14_method_19_code 22 = .ok (.if_icmp .ge 123, 3) := by decide +kernel
theorem d_Mod_draw_25 : decode prog_14_method_19_code 25 = .ok (.aload_n 0, 1) := by decide +kernel
theorem d_Mod_draw_26 : decode prog_14_method_19_code 26 = .ok (.getfield 75, 3) := by decide +kernel
theorem d_Mod_draw_29 : decode prog_14_method_19_code 29 = .ok (.iconst 0, 1) := by decide +kernel
theorem d_Mod_draw_30 : decode prog_14_method_19_code 30 = .ok (.dup2, 1) := by decide +kernel
theorem d_Mod_draw_31 : decode prog_14_method_19_code 31 = .ok (.iaload, 1) := by decide +kernel
theorem d_Mod_draw_32 : decode prog_14_method_19_code 32 = .ok (.iconst 1, 1) := by decide +kernel
theorem d_Mod_draw_33 : decode prog_14_method_19_code 33 = .ok (.iadd, 1) := by decide +kernel
theorem d_Mod_draw_34 : decode prog_14_method_19_code 34 = .ok (.iastore, 1) := by decide +kernel
theorem d_Mod_draw_35 : decode prog_14_method_19_code 35 = .ok (.iconst 0, 1) := by decide +kernel
theorem d_Mod_draw_36 : decode prog_14_method_19_code 36 = .ok (.istore 6, 2) := by decide +kernel
theorem d_Mod_draw_38 : decode prog_14_method_19_code 38 = .ok (.iload 6, 2) := by decide +kernel
theorem d_Mod_draw_40 : decode prog_14_method_19_code 40 = .ok (.iconst 3, 1) := by decide +kernel
theorem d_Mod_draw_41 : decode prog_14_method_19_code 41 = .ok (.if_icmp .ge 28, 3) := by decide +kernel
theorem d_Mod_draw_44 : decode prog_14_method_19_code 44 = .ok (.aload_n 0, 1) := by decide +kernel
theorem d_Mod_draw_45 : decode prog_14_method_19_code 45 = .ok (.iload 6, 2) := by decide +kernel
theorem d_Mod_draw_47 : decode prog_14_method_19_code 47 = .ok (.aload_n 0, 1) := by decide +kernel
theorem d_Mod_draw_48 : decode prog_14_method_19_code 48 = .ok (.getfield 51, 3) := by decide +kernel
theorem d_Mod_draw_51 : decode prog_14_method_19_code 51 = .ok (.iload_n 1, 1) := by decide +kernel
theorem d_Mod_draw_52 : decode prog_14_method_19_code 52 = .ok (.iload 5, 2) := by decide +kernel
theorem d_Mod_draw_54 : decode prog_14_method_19_code 54 = .ok (.iload 6, 2) := by decide +kernel
theorem d_Mod_draw_56 : decode prog_14_method_19_code 56 = .ok (.invokevirtual 258, 3) := by decide +kernel
theorem d_Mod_draw_59 : decode prog_14_method_19_code 59 = .ok (.iload_n 3, 1) := by decide +kernel
theorem d_Mod_draw_60 : decode prog_14_method_19_code 60 = .ok (.invokevirtual 261, 3) := by decide +kernel
theorem d_Mod_draw_63 : decode prog_14_method_19_code 63 = .ok (.iinc 6 1, 3) := by decide +kernel
theorem d_Mod_draw_66 : decode prog_14_method_19_code 66 = .ok (.goto (-28), 3) := by decide +kernel
theorem d_Mod_draw_69 : decode prog_14_method_19_code 69 = .ok (.aload_n 0, 1) := by decide +kernel
theorem d_Mod_draw_70 : decode prog_14_method_19_code 70 = .ok (.getfield 51, 3) := by decide +kernel
theorem d_Mod_draw_73 : decode prog_14_method_19_code 73 = .ok (.invokevirtual 263, 3) := by decide +kernel
theorem d_Mod_draw_76 : decode prog_14_method_19_code 76 = .ok (.istore 6, 2) := by decide +kernel
theorem d_Mod_draw_78 : decode prog_14_method_19_code 78 = .ok (.iconst 0, 1) := by decide +kernel
theorem d_Mod_draw_79 : decode prog_14_method_19_code 79 = .ok (.istore 7, 2) := by decide +kernel
theorem d_Mod_draw_81 : decode prog_14_method_19_code 81 = .ok (.iload 7, 2) := by decide +kernel
theorem d_Mod_draw_83 : decode prog_14_method_19_code 83 = .ok (.iload 6, 2) := by decide +kernel
theorem d_Mod_draw_85 : decode prog_14_method_19_code 85 = .ok (.if_icmp .ge 54, 3) := by decide +kernel
theorem d_Mod_draw_88 : decode prog_14_method_19_code 88 = .ok (.aload_n 0, 1) := by decide +kernel
theorem d_Mod_draw_89 : decode prog_14_method_19_code 89 = .ok (.getfield 75, 3) := by decide +kernel
theorem d_Mod_draw_92 : decode prog_14_method_19_code 92 = .ok (.iconst 1, 1) := by decide +kernel
theorem d_Mod_draw_93 : decode prog_14_method_19_code 93 = .ok (.dup2, 1) := by decide +kernel
theorem d_Mod_draw_94 : decode prog_14_method_19_code 94 = .ok (.iaload, 1) := by decide +kernel
theorem d_Mod_draw_95 : decode prog_14_method_19_code 95 = .ok (.iconst 1, 1) := by decide +kernel
theorem d_Mod_draw_96 : decode prog_14_method_19_code 96 = .ok (.iadd, 1) := by decide +kernel
theorem d_Mod_draw_97 : decode prog_14_method_19_code 97 = .ok (.iastore, 1) := by decide +kernel
theorem d_Mod_draw_98 : decode prog_14_method_19_code 98 = .ok (.aload_n 0, 1) := by decide +kernel
theorem d_Mod_draw_99 : decode prog_14_method_19_code 99 = .ok (.getfield 51, 3) := by decide +kernel
theorem d_Mod_draw_102 : decode prog_14_method_19_code 102 = .ok (.iload 7, 2) := by decide +kernel
theorem d_Mod_draw_104 : decode prog_14_method_19_code 104 = .ok (.invokevirtual 266, 3) := by decide +kernel
theorem d_Mod_draw_107 : decode prog_14_method_19_code 107 = .ok (.istore 8, 2) := by decide +kernel
theorem d_Mod_draw_109 : decode prog_14_method_19_code 109 = .ok (.iload 8, 2) := by decide +kernel
theorem d_Mod_draw_111 : decode prog_14_method_19_code 111 = .ok (.iconst (-1), 1) := by decide +kernel
theorem d_Mod_draw_112 : decode prog_14_method_19_code 112 = .ok (.if_icmp .eq 21, 3) := by decide +kernel
theorem d_Mod_draw_115 : decode prog_14_method_19_code 115 = .ok (.aload_n 0, 1) := by decide +kernel
theorem d_Mod_draw_116 : decode prog_14_method_19_code 116 = .ok (.getfield 75, 3) := by decide +kernel
theorem d_Mod_draw_119 : decode prog_14_method_19_code 119 = .ok (.iconst 2, 1) := by decide +kernel
theorem d_Mod_draw_120 : decode prog_14_method_19_code 120 = .ok (.dup2, 1) := by decide +kernel
theorem d_Mod_draw_121 : decode prog_14_method_19_code 121 = .ok (.iaload, 1) := by decide +kernel
theorem d_Mod_draw_122 : decode prog_14_method_19_code 122 = .ok (.iconst 1, 1) := by decide +kernel
theorem d_Mod_draw_123 : decode prog_14_method_19_code 123 = .ok (.iadd, 1) := by decide +kernel
theorem d_Mod_draw_124 : decode prog_14_method_19_code 124 = .ok (.iastore, 1) := by decide +kernel
theorem d_Mod_draw_125 : decode prog_14_method_19_code 125 = .ok (.aload_n 0, 1) := by decide +kernel
theorem d_Mod_draw_126 : decode prog_14_method_19_code 126 = .ok (.iload 7, 2) := by decide +kernel
theorem d_Mod_draw_128 : decode prog_14_method_19_code 128 = .ok (.iload 8, 2) := by decide +kernel
theorem d_Mod_draw_130 : decode prog_14_method_19_code 130 = .ok (.invokevirtual 269, 3) := by decide +kernel
theorem d_Mod_draw_133 : decode prog_14_method_19_code 133 = .ok (.iinc 7 1, 3) := by decide +kernel
theorem d_Mod_draw_136 : decode prog_14_method_19_code 136 = .ok (.goto (-55), 3) := by decide +kernel
theorem d_Mod_draw_139 : decode prog_14_method_19_code 139 = .ok (.iinc 5 1, 3) := by decide +kernel
theorem d_Mod_draw_142 : decode prog_14_method_19_code 142 = .ok (.goto (-124), 3) := by decide +kernel
theorem d_Mod_draw_145 : decode prog_14_method_19_code 145 = .ok (.return_, 1) := by decide +kernel
def F_Mod_draw_133 (rc_18 : Sg → Int32 → Int32 → Int32 → Int32 → Option (Sg)) (rc_81 : Sg → Int32 → Int32 → Int32 → Int32 → Int32 → Int32 → Option (Sg)) (σ : Sg) (v1 : Int32) (v3 : Int32) (v4 : Int32) (v5 : Int32) (v6 : Int32) (v7 : Int32) : Option (Sg) := lt (v7 + 1) (fun y14 => rc_81 σ v1 v3 v4 v5 v6 y14)
set_option maxRecDepth 10000 in
set_option maxHeartbeats 4000000 in
theorem bt_Mod_draw_133 {p : Program} {l : Launch} {e : Env} {R : Room} {s : State} {m : MethodId} {args : Array Value} {below : List Frame} {meth : Method} {c : Code} {D : va_G} {τ : ClassId × ClassId × ClassId} {B : Nat} {A : Nat → Prop} {ad : Nat → Nat} (E : Cx p R s m args meth c prog_14_method_19_code 9 "DrawingMachineModel" 15 D τ B A) (hret : meth.sig.returnType = none) (o : Sg) (rc_18 : Sg → Int32 → Int32 → Int32 → Int32 → Option (Sg)) (rc_81 : Sg → Int32 → Int32 → Int32 → Int32 → Int32 → Int32 → Option (Sg)) (hr_18 : ∀ (σ : Sg) (v1 : Int32) (v3 : Int32) (v4 : Int32) (v5 : Int32) (H : Heap) (locs : List Loc) (ls : Array Slot), rc_18 σ v1 v3 v4 v5 = some o → Wd s D A (wdM τ σ ad) H locs → lv_has ls 9 [(0, .ref (ad 59)), (1, .int v1), (3, .int v3), (4, .int v4), (5, .int v5)] → W p l e R s m args below meth c H locs 0 0 (QV below args s A D τ (wdM τ o ad)) (F0 m 18 ls [])) (hr_81 : ∀ (σ : Sg) (v1 : Int32) (v3 : Int32) (v4 : Int32) (v5 : Int32) (v6 : Int32) (v7 : Int32) (H : Heap) (locs : List Loc) (ls : Array Slot), rc_81 σ v1 v3 v4 v5 v6 v7 = some o → Wd s D A (wdM τ σ ad) H locs → lv_has ls 9 [(0, .ref (ad 59)), (1, .int v1), (3, .int v3), (4, .int v4), (5, .int v5), (6, .int v6), (7, .int v7)] → W p l e R s m args below meth c H locs 0 0 (QV below args s A D τ (wdM τ o ad)) (F0 m 81 ls [])) (σ : Sg) (v1 : Int32) (v3 : Int32) (v4 : Int32) (v5 : Int32) (v6 : Int32) (v7 : Int32) (h : F_Mod_draw_133 rc_18 rc_81 σ v1 v3 v4 v5 v6 v7 = some o) {H : Heap} {locs : List Loc} {ls : Array Slot} (w : Wd s D A (wdM τ σ ad) H locs) (hl : lv_has ls 9 [(0, .ref (ad 59)), (1, .int v1), (3, .int v3), (4, .int v4), (5, .int v5), (6, .int v6), (7, .int v7)]) : W p l e R s m args below meth c H locs 0 0 (QV below args s A D τ (wdM τ o ad)) (F0 m 133 ls []) := by
  obtain ⟨y14, e_y14, h⟩ := lt_some h
  refine lv_iinc (v := y14) (lv' := [(7, .int y14), (0, .ref (ad 59)), (1, .int v1), (3, .int v3), (4, .int v4), (5, .int v5), (6, .int v6)]) E.x E.b d_Mod_draw_133 hl (k := 6) rfl (e_y14) (by decide) rfl (fun ls hl => ?_)
  refine lv_goto (tgt := 81) E.x E.b d_Mod_draw_136 (by decide) ?_
  exact hr_81 σ v1 v3 v4 v5 v6 y14 _ _ _ h w (lv_sub hl [1, 2, 3, 4, 5, 6, 0] rfl)
def L_Mod_draw_81 (rc_18 : Sg → Int32 → Int32 → Int32 → Int32 → Option (Sg)) : Nat → Sg → Int32 → Int32 → Int32 → Int32 → Int32 → Int32 → Option (Sg)
  | 0, _, _, _, _, _, _, _ => none
  | n + 1, σ, v1, v3, v4, v5, v6, v7 => if v6 ≤ v7 then (lt (v5 + 1) (fun y15 => rc_18 σ v1 v3 v4 y15)) else (lt (sA σ 56 (upd (σ.2.2.1 56) 1 ((σ.2.2.1 56 1) + 1))) (fun σ16 => bd (F_Vwm_side σ16 v7) (fun o17 => if o17.2 = (-1) then (F_Mod_draw_133 rc_18 (L_Mod_draw_81 rc_18 n) o17.1 v1 v3 v4 v5 v6 v7) else (lt (sA o17.1 56 (upd (o17.1.2.2.1 56) 2 ((o17.1.2.2.1 56 2) + 1))) (fun σ18 => bd (F_Mod_triangle σ18 v7 o17.2) (fun o19 => F_Mod_draw_133 rc_18 (L_Mod_draw_81 rc_18 n) o19 v1 v3 v4 v5 v6 v7))))))
set_option maxRecDepth 10000 in
set_option maxHeartbeats 4000000 in
theorem lt_Mod_draw_81 {p : Program} {l : Launch} {e : Env} {R : Room} {s : State} {m : MethodId} {args : Array Value} {below : List Frame} {meth : Method} {c : Code} {D : va_G} {τ : ClassId × ClassId × ClassId} {B : Nat} {A : Nat → Prop} {ad : Nat → Nat} (E : Cx p R s m args meth c prog_14_method_19_code 9 "DrawingMachineModel" 15 D τ B A) (hret : meth.sig.returnType = none) (o : Sg) (rc_18 : Sg → Int32 → Int32 → Int32 → Int32 → Option (Sg)) (hr_18 : ∀ (σ : Sg) (v1 : Int32) (v3 : Int32) (v4 : Int32) (v5 : Int32) (H : Heap) (locs : List Loc) (ls : Array Slot), rc_18 σ v1 v3 v4 v5 = some o → Wd s D A (wdM τ σ ad) H locs → lv_has ls 9 [(0, .ref (ad 59)), (1, .int v1), (3, .int v3), (4, .int v4), (5, .int v5)] → W p l e R s m args below meth c H locs 0 0 (QV below args s A D τ (wdM τ o ad)) (F0 m 18 ls [])) : ∀ (n : Nat) (σ : Sg) (v1 : Int32) (v3 : Int32) (v4 : Int32) (v5 : Int32) (v6 : Int32) (v7 : Int32) (H : Heap) (locs : List Loc) (ls : Array Slot), L_Mod_draw_81 rc_18 n σ v1 v3 v4 v5 v6 v7 = some o → Wd s D A (wdM τ σ ad) H locs → lv_has ls 9 [(0, .ref (ad 59)), (1, .int v1), (3, .int v3), (4, .int v4), (5, .int v5), (6, .int v6), (7, .int v7)] → W p l e R s m args below meth c H locs 0 0 (QV below args s A D τ (wdM τ o ad)) (F0 m 81 ls []) := by
  intro n
  induction n with
  | zero =>
    intro σ v1 v3 v4 v5 v6 v7 H locs ls h w hl
    cases h
  | succ n hr_81 =>
    intro σ v1 v3 v4 v5 v6 v7 H locs ls h w hl
    refine lv_iload E.x E.b d_Mod_draw_81 (lv_at hl 6 rfl) ?_
    refine lv_iload E.x E.b d_Mod_draw_83 (lv_at hl 5 rfl) ?_
    refine lv_icmp_ge (tgt := 139) E.x E.b d_Mod_draw_85 (by decide) (fun c => ?_) (fun c => ?_)
    ·
      replace h := ifT c h
      obtain ⟨y15, e_y15, h⟩ := lt_some h
      refine lv_iinc (v := y15) (lv' := [(5, .int y15), (0, .ref (ad 59)), (1, .int v1), (3, .int v3), (4, .int v4), (6, .int v6), (7, .int v7)]) E.x E.b d_Mod_draw_139 hl (k := 4) rfl (e_y15) (by decide) rfl (fun ls hl => ?_)
      refine lv_goto (tgt := 18) E.x E.b d_Mod_draw_142 (by decide) ?_
      exact hr_18 σ v1 v3 v4 y15 _ _ _ h w (lv_sub hl [1, 2, 3, 4, 0] rfl)
    ·
      replace h := ifF c h
      refine lv_aload_n E.x E.b d_Mod_draw_88 rfl (lv_at hl 0 rfl) ?_
      refine gM_Mod_counts E w k1781 d_Mod_draw_89 ?_
      refine lv_iconst (v := 1) E.x E.b d_Mod_draw_92 (by decide) ?_
      refine lv_dup2_11 E.x E.b d_Mod_draw_93 rfl rfl ?_
      refine ialM E w (k := 56) (by decide) (show inb 1 9 by decide) d_Mod_draw_94 ?_
      refine wi_e (v := σ.2.2.1 56 1) rfl ?_
      refine lv_iconst (v := 1) E.x E.b d_Mod_draw_95 (by decide) ?_
      refine lv_iadd E.x E.b d_Mod_draw_96 ?_
      obtain ⟨σ16, e_σ16, h⟩ := lt_some h
      refine iasM E w (k := 56) (by decide) (show inb 1 9 by decide) e_σ16 d_Mod_draw_97 (fun H locs w => ?_)
      refine lv_aload_n E.x E.b d_Mod_draw_98 rfl (lv_at hl 0 rfl) ?_
      refine gM_Mod_vertices E w k1772 d_Mod_draw_99 ?_
      refine lv_iload E.x E.b d_Mod_draw_102 (lv_at hl 6 rfl) ?_
      obtain ⟨o17, h_o17, h⟩ := bd_some h
      refine clV_Vwm_side E w (x0 := v7) h_o17 k2351 (by decide) hl.1 (Nat.le_of_ble_eq_true rfl) d_Mod_draw_104 (fun H locs w => ?_)
      refine lv_istore (lv' := [(8, .int o17.2), (0, .ref (ad 59)), (1, .int v1), (3, .int v3), (4, .int v4), (5, .int v5), (6, .int v6), (7, .int v7)]) E.x E.b d_Mod_draw_107 hl (by decide) rfl (fun ls hl => ?_)
      refine lv_iload E.x E.b d_Mod_draw_109 (lv_at hl 0 rfl) ?_
      refine lv_iconst (v := (-1)) E.x E.b d_Mod_draw_111 (by decide) ?_
      refine lv_icmp_eq (tgt := 133) E.x E.b d_Mod_draw_112 (by decide) (fun c => ?_) (fun c => ?_)
      ·
        replace h := ifT c h
        exact bt_Mod_draw_133 E hret o rc_18 (L_Mod_draw_81 rc_18 n) hr_18 hr_81 o17.1 v1 v3 v4 v5 v6 v7 h w (lv_sub hl [1, 2, 3, 4, 5, 6, 7] rfl)
      ·
        replace h := ifF c h
        refine lv_aload_n E.x E.b d_Mod_draw_115 rfl (lv_at hl 1 rfl) ?_
        refine gM_Mod_counts E w k1781 d_Mod_draw_116 ?_
        refine lv_iconst (v := 2) E.x E.b d_Mod_draw_119 (by decide) ?_
        refine lv_dup2_11 E.x E.b d_Mod_draw_120 rfl rfl ?_
        refine ialM E w (k := 56) (by decide) (show inb 2 9 by decide) d_Mod_draw_121 ?_
        refine wi_e (v := o17.1.2.2.1 56 2) rfl ?_
        refine lv_iconst (v := 1) E.x E.b d_Mod_draw_122 (by decide) ?_
        refine lv_iadd E.x E.b d_Mod_draw_123 ?_
        obtain ⟨σ18, e_σ18, h⟩ := lt_some h
        refine iasM E w (k := 56) (by decide) (show inb 2 9 by decide) e_σ18 d_Mod_draw_124 (fun H locs w => ?_)
        refine lv_aload_n E.x E.b d_Mod_draw_125 rfl (lv_at hl 1 rfl) ?_
        refine lv_iload E.x E.b d_Mod_draw_126 (lv_at hl 7 rfl) ?_
        refine lv_iload E.x E.b d_Mod_draw_128 (lv_at hl 0 rfl) ?_
        obtain ⟨o19, h_o19, h⟩ := bd_some h
        refine clV_Mod_triangle E w (x0 := v7) (x1 := o17.2) h_o19 k2362 (by decide) hl.1 (Nat.le_of_ble_eq_true rfl) d_Mod_draw_130 (fun H locs w => ?_)
        exact bt_Mod_draw_133 E hret o rc_18 (L_Mod_draw_81 rc_18 n) hr_18 hr_81 o19 v1 v3 v4 v5 v6 v7 h w (lv_sub hl [1, 2, 3, 4, 5, 6, 7] rfl)
def L_Mod_draw_38 (rc_18 : Sg → Int32 → Int32 → Int32 → Int32 → Option (Sg)) : Nat → Sg → Int32 → Int32 → Int32 → Int32 → Int32 → Option (Sg)
  | 0, _, _, _, _, _, _ => none
  | n + 1, σ, v1, v3, v4, v5, v6 => if 3 ≤ v6 then (bd (F_Vwm_make σ) (fun o20 => L_Mod_draw_81 rc_18 100000 o20.1 v1 v3 v4 v5 o20.2 0)) else (bd (F_Vwm_corner σ v1 v5 v6) (fun o21 => bd (F_Mod_corner o21.1 v6 o21.2 v3) (fun o22 => lt (v6 + 1) (fun y23 => L_Mod_draw_38 rc_18 n o22 v1 v3 v4 v5 y23))))
set_option maxRecDepth 10000 in
set_option maxHeartbeats 4000000 in
theorem lt_Mod_draw_38 {p : Program} {l : Launch} {e : Env} {R : Room} {s : State} {m : MethodId} {args : Array Value} {below : List Frame} {meth : Method} {c : Code} {D : va_G} {τ : ClassId × ClassId × ClassId} {B : Nat} {A : Nat → Prop} {ad : Nat → Nat} (E : Cx p R s m args meth c prog_14_method_19_code 9 "DrawingMachineModel" 15 D τ B A) (hret : meth.sig.returnType = none) (o : Sg) (rc_18 : Sg → Int32 → Int32 → Int32 → Int32 → Option (Sg)) (hr_18 : ∀ (σ : Sg) (v1 : Int32) (v3 : Int32) (v4 : Int32) (v5 : Int32) (H : Heap) (locs : List Loc) (ls : Array Slot), rc_18 σ v1 v3 v4 v5 = some o → Wd s D A (wdM τ σ ad) H locs → lv_has ls 9 [(0, .ref (ad 59)), (1, .int v1), (3, .int v3), (4, .int v4), (5, .int v5)] → W p l e R s m args below meth c H locs 0 0 (QV below args s A D τ (wdM τ o ad)) (F0 m 18 ls [])) : ∀ (n : Nat) (σ : Sg) (v1 : Int32) (v3 : Int32) (v4 : Int32) (v5 : Int32) (v6 : Int32) (H : Heap) (locs : List Loc) (ls : Array Slot), L_Mod_draw_38 rc_18 n σ v1 v3 v4 v5 v6 = some o → Wd s D A (wdM τ σ ad) H locs → lv_has ls 9 [(0, .ref (ad 59)), (1, .int v1), (3, .int v3), (4, .int v4), (5, .int v5), (6, .int v6)] → W p l e R s m args below meth c H locs 0 0 (QV below args s A D τ (wdM τ o ad)) (F0 m 38 ls []) := by
  intro n
  induction n with
  | zero =>
    intro σ v1 v3 v4 v5 v6 H locs ls h w hl
    cases h
  | succ n hr_38 =>
    intro σ v1 v3 v4 v5 v6 H locs ls h w hl
    refine lv_iload E.x E.b d_Mod_draw_38 (lv_at hl 5 rfl) ?_
    refine lv_iconst (v := 3) E.x E.b d_Mod_draw_40 (by decide) ?_
    refine lv_icmp_ge (tgt := 69) E.x E.b d_Mod_draw_41 (by decide) (fun c => ?_) (fun c => ?_)
    ·
      replace h := ifT c h
      refine lv_aload_n E.x E.b d_Mod_draw_69 rfl (lv_at hl 0 rfl) ?_
      refine gM_Mod_vertices E w k1772 d_Mod_draw_70 ?_
      obtain ⟨o20, h_o20, h⟩ := bd_some h
      refine clV_Vwm_make E w h_o20 k2317 (by decide) hl.1 (Nat.le_of_ble_eq_true rfl) d_Mod_draw_73 (fun H locs w => ?_)
      refine lv_istore (lv' := [(6, .int o20.2), (0, .ref (ad 59)), (1, .int v1), (3, .int v3), (4, .int v4), (5, .int v5)]) E.x E.b d_Mod_draw_76 hl (by decide) rfl (fun ls hl => ?_)
      refine lv_iconst (v := 0) E.x E.b d_Mod_draw_78 (by decide) ?_
      refine lv_istore (lv' := [(7, .int 0), (6, .int o20.2), (0, .ref (ad 59)), (1, .int v1), (3, .int v3), (4, .int v4), (5, .int v5)]) E.x E.b d_Mod_draw_79 hl (by decide) rfl (fun ls hl => ?_)
      exact lt_Mod_draw_81 E hret o rc_18 hr_18 100000 o20.1 v1 v3 v4 v5 o20.2 0 _ _ _ h w (lv_sub hl [2, 3, 4, 5, 6, 1, 0] rfl)
    ·
      replace h := ifF c h
      refine lv_aload_n E.x E.b d_Mod_draw_44 rfl (lv_at hl 0 rfl) ?_
      refine lv_iload E.x E.b d_Mod_draw_45 (lv_at hl 5 rfl) ?_
      refine lv_aload_n E.x E.b d_Mod_draw_47 rfl (lv_at hl 0 rfl) ?_
      refine gM_Mod_vertices E w k1772 d_Mod_draw_48 ?_
      refine lv_iload_n E.x E.b d_Mod_draw_51 rfl (lv_at hl 1 rfl) ?_
      refine lv_iload E.x E.b d_Mod_draw_52 (lv_at hl 4 rfl) ?_
      refine lv_iload E.x E.b d_Mod_draw_54 (lv_at hl 5 rfl) ?_
      obtain ⟨o21, h_o21, h⟩ := bd_some h
      refine clV_Vwm_corner E w (x0 := v1) (x1 := v5) (x2 := v6) h_o21 k2162 (by decide) hl.1 (Nat.le_of_ble_eq_true rfl) d_Mod_draw_56 (fun H locs w => ?_)
      refine lv_iload_n E.x E.b d_Mod_draw_59 rfl (lv_at hl 2 rfl) ?_
      obtain ⟨o22, h_o22, h⟩ := bd_some h
      refine clV_Mod_corner E w (x0 := v6) (x1 := o21.2) (x2 := v3) h_o22 k2167 (by decide) hl.1 (Nat.le_of_ble_eq_true rfl) d_Mod_draw_60 (fun H locs w => ?_)
      obtain ⟨y23, e_y23, h⟩ := lt_some h
      refine lv_iinc (v := y23) (lv' := [(6, .int y23), (0, .ref (ad 59)), (1, .int v1), (3, .int v3), (4, .int v4), (5, .int v5)]) E.x E.b d_Mod_draw_63 hl (k := 5) rfl (e_y23) (by decide) rfl (fun ls hl => ?_)
      refine lv_goto (tgt := 38) E.x E.b d_Mod_draw_66 (by decide) ?_
      exact hr_38 o22 v1 v3 v4 v5 y23 _ _ _ h w (lv_sub hl [1, 2, 3, 4, 5, 0] rfl)
def L_Mod_draw_18 : Nat → Sg → Int32 → Int32 → Int32 → Int32 → Option (Sg)
  | 0, _, _, _, _, _ => none
  | n + 1, σ, v1, v3, v4, v5 => if v4 ≤ v5 then (some σ) else (lt (sA σ 56 (upd (σ.2.2.1 56) 0 ((σ.2.2.1 56 0) + 1))) (fun σ24 => L_Mod_draw_38 (L_Mod_draw_18 n) 100000 σ24 v1 v3 v4 v5 0))
set_option maxRecDepth 10000 in
set_option maxHeartbeats 4000000 in
theorem lt_Mod_draw_18 {p : Program} {l : Launch} {e : Env} {R : Room} {s : State} {m : MethodId} {args : Array Value} {below : List Frame} {meth : Method} {c : Code} {D : va_G} {τ : ClassId × ClassId × ClassId} {B : Nat} {A : Nat → Prop} {ad : Nat → Nat} (E : Cx p R s m args meth c prog_14_method_19_code 9 "DrawingMachineModel" 15 D τ B A) (hret : meth.sig.returnType = none) (o : Sg) : ∀ (n : Nat) (σ : Sg) (v1 : Int32) (v3 : Int32) (v4 : Int32) (v5 : Int32) (H : Heap) (locs : List Loc) (ls : Array Slot), L_Mod_draw_18 n σ v1 v3 v4 v5 = some o → Wd s D A (wdM τ σ ad) H locs → lv_has ls 9 [(0, .ref (ad 59)), (1, .int v1), (3, .int v3), (4, .int v4), (5, .int v5)] → W p l e R s m args below meth c H locs 0 0 (QV below args s A D τ (wdM τ o ad)) (F0 m 18 ls []) := by
  intro n
  induction n with
  | zero =>
    intro σ v1 v3 v4 v5 H locs ls h w hl
    cases h
  | succ n hr_18 =>
    intro σ v1 v3 v4 v5 H locs ls h w hl
    refine lv_iload E.x E.b d_Mod_draw_18 (lv_at hl 4 rfl) ?_
    refine lv_iload E.x E.b d_Mod_draw_20 (lv_at hl 3 rfl) ?_
    refine lv_icmp_ge (tgt := 145) E.x E.b d_Mod_draw_22 (by decide) (fun c => ?_) (fun c => ?_)
    ·
      replace h := ifT c h
      obtain rfl := Option.some.inj h
      exact rt_v E w hret d_Mod_draw_145
    ·
      replace h := ifF c h
      refine lv_aload_n E.x E.b d_Mod_draw_25 rfl (lv_at hl 0 rfl) ?_
      refine gM_Mod_counts E w k1781 d_Mod_draw_26 ?_
      refine lv_iconst (v := 0) E.x E.b d_Mod_draw_29 (by decide) ?_
      refine lv_dup2_11 E.x E.b d_Mod_draw_30 rfl rfl ?_
      refine ialM E w (k := 56) (by decide) (show inb 0 9 by decide) d_Mod_draw_31 ?_
      refine wi_e (v := σ.2.2.1 56 0) rfl ?_
      refine lv_iconst (v := 1) E.x E.b d_Mod_draw_32 (by decide) ?_
      refine lv_iadd E.x E.b d_Mod_draw_33 ?_
      obtain ⟨σ24, e_σ24, h⟩ := lt_some h
      refine iasM E w (k := 56) (by decide) (show inb 0 9 by decide) e_σ24 d_Mod_draw_34 (fun H locs w => ?_)
      refine lv_iconst (v := 0) E.x E.b d_Mod_draw_35 (by decide) ?_
      refine lv_istore (lv' := [(6, .int 0), (0, .ref (ad 59)), (1, .int v1), (3, .int v3), (4, .int v4), (5, .int v5)]) E.x E.b d_Mod_draw_36 hl (by decide) rfl (fun ls hl => ?_)
      exact lt_Mod_draw_38 E hret o (L_Mod_draw_18 n) hr_18 100000 σ24 v1 v3 v4 v5 0 _ _ _ h w (lv_sub hl [1, 2, 3, 4, 5, 0] rfl)
def F_Mod_draw (σ : Sg) (x0 : Int32) (x1 : Int32) (x2 : Int32) : Option (Sg) := bd (F_Mod_settle σ) (fun o25 => bd (F_Vwm_triangles o25 x0 x1) (fun o26 => L_Mod_draw_18 100000 o26.1 x0 x2 o26.2 0))
set_option maxRecDepth 10000 in
set_option maxHeartbeats 4000000 in
theorem c_Mod_draw (l : Launch) (D : va_G) (τ : ClassId × ClassId × ClassId) (B : Nat) (σ : Sg) (ad : Nat → Nat) (x0 : Int32) (x1 : Int32) (x2 : Int32) (o : Sg) (h : F_Mod_draw σ x0 x1 x2 = some o) : MV l y_Mod_draw (Cond.code y_Mod_draw prog_14_method_19_code 9 none) 15 D τ B [.ref (ad 59), .int x0, .int x1, .int x2] (wdM τ σ ad) (wdM τ o ad) := by
  refine en_v (by decide) (Nat.le_of_ble_eq_true rfl) ?_
  intro p e R s m args below meth c H locs ls A E hret w hl
  have E : Cx p R s m args meth c prog_14_method_19_code 9 "DrawingMachineModel" 15 D τ B A := E
  have hl : lv_has ls 9 [(0, .ref (ad 59)), (1, .int x0), (2, .int x1), (3, .int x2)] := hl
  refine lv_aload_n E.x E.b d_Mod_draw_0 rfl (lv_at hl 0 rfl) ?_
  obtain ⟨o25, h_o25, h⟩ := bd_some h
  refine clV_Mod_settle E w h_o25 k1989 (by decide) hl.1 (Nat.le_of_ble_eq_true rfl) d_Mod_draw_1 (fun H locs w => ?_)
  refine lv_aload_n E.x E.b d_Mod_draw_4 rfl (lv_at hl 0 rfl) ?_
  refine gM_Mod_vertices E w k1772 d_Mod_draw_5 ?_
  refine lv_iload_n E.x E.b d_Mod_draw_8 rfl (lv_at hl 1 rfl) ?_
  refine lv_iload_n E.x E.b d_Mod_draw_9 rfl (lv_at hl 2 rfl) ?_
  obtain ⟨o26, h_o26, h⟩ := bd_some h
  refine clV_Vwm_triangles E w (x0 := x0) (x1 := x1) h_o26 k2152 (by decide) hl.1 (Nat.le_of_ble_eq_true rfl) d_Mod_draw_10 (fun H locs w => ?_)
  refine lv_istore (lv' := [(4, .int o26.2), (0, .ref (ad 59)), (1, .int x0), (2, .int x1), (3, .int x2)]) E.x E.b d_Mod_draw_13 hl (by decide) rfl (fun ls hl => ?_)
  refine lv_iconst (v := 0) E.x E.b d_Mod_draw_15 (by decide) ?_
  refine lv_istore (lv' := [(5, .int 0), (4, .int o26.2), (0, .ref (ad 59)), (1, .int x0), (2, .int x1), (3, .int x2)]) E.x E.b d_Mod_draw_16 hl (by decide) rfl (fun ls hl => ?_)
  exact lt_Mod_draw_18 E hret o 100000 o26.1 x0 x2 o26.2 0 _ _ _ h w (lv_sub hl [2, 3, 5, 1, 0] rfl)
theorem clV_Mod_draw {p : Program} {l : Launch} {e : Env} {R : Room} {s : State} {m : MethodId} {args : Array Value} {below : List Frame} {meth : Method} {c : Code} {H : Heap} {locs : List Loc} {Q : State → Prop} {cc : ByteArray} {nL pc lev : Nat} {own : String} {D : va_G} {τ : ClassId × ClassId × ClassId} {B : Nat} {A : Nat → Prop} {σ : Sg} {ad : Nat → Nat} {ls : Array Slot} {rest : List Value} (E : Cx p R s m args meth c cc nL own lev D τ B A) (w : Wd s D A (wdM τ σ ad) H locs) {x0 : Int32} {x1 : Int32} {x2 : Int32} {o : Sg} (h : F_Mod_draw σ x0 x1 x2 = some o) {index : Nat} (hlk : Cond.methodLink own index y_Mod_draw ∈ tw) (hlev : 15 < lev) (hsz : ls.size = nL) (hr : (rest.map fun v => v.category).sum ≤ 8) (hd : decode cc pc = .ok (.invokevirtual index, 3)) (kk : ∀ (H1 : Heap) (locs1 : List Loc), Wd s D A (wdM τ o ad) H1 locs1 → W p l e R s m args below meth c H1 locs1 0 0 Q (F0 m (pc + 3) ls (rest))) : W p l e R s m args below meth c H locs 0 0 Q (F0 m pc ls (.int x2 :: .int x1 :: .int x0 :: .ref (ad 59) :: rest)) :=
  cr_v w E.C (va_runV (As := [.int x0, .int x1, .int x2]) (rest := rest) E.fix (c_Mod_draw l D τ B σ ad x0 x1 x2 o h H.size) (cwV 3 E.w (tw_pre (tw_good k2161) (l := [_, _, _, _]) (List.forall_mem_cons.mpr ⟨hlk, List.forall_mem_cons.mpr ⟨k2160, List.forall_mem_cons.mpr ⟨ks72, List.forall_mem_cons.mpr ⟨k14, fun _ h => absurd h List.not_mem_nil⟩⟩⟩⟩)) rfl rfl rfl (by decide +kernel) (E.rm hlev (by decide))) (wd_preV w E.C [.int x0, .int x1, .int x2] rcM_Mod rfl) rfl rfl hsz rfl (lv_room hr) hd ⟨Nat.zero_le _, Nat.zero_le _⟩) kk
