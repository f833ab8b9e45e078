theorem d_Vwm_fetch_0 : decode prog_20_method_9_code 0 = .ok (.aload_n 0, 1) := by decide +kernel
theorem d_Vwm_fetch_1 : decode prog_20_method_9_code 1 = .ok (.iload_n 1, 1) := by decide +kernel
theorem d_Vwm_fetch_2 : decode prog_20_method_9_code 2 = .ok (.iconst 0, 1) := by decide +kernel
theorem d_Vwm_fetch_3 : decode prog_20_method_9_code 3 = .ok (.bipush 7, 2) := by decide +kernel
theorem d_Vwm_fetch_5 : decode prog_20_method_9_code 5 = .ok (.invokestatic 38, 3) := by decide +kernel
theorem d_Vwm_fetch_8 : decode prog_20_method_9_code 8 = .ok (.ifCond .eq 12, 3) := by decide +kernel
theorem d_Vwm_fetch_11 : decode prog_20_method_9_code 11 = .ok (.iload_n 3, 1) := by decide +kernel
theorem d_Vwm_fetch_12 : decode prog_20_method_9_code 12 = .ok (.iconst 0, 1) := by decide +kernel
theorem d_Vwm_fetch_13 : decode prog_20_method_9_code 13 = .ok (.iconst 3, 1) := by decide +kernel
theorem d_Vwm_fetch_14 : decode prog_20_method_9_code 14 = .ok (.invokestatic 38, 3) := by decide +kernel
theorem d_Vwm_fetch_17 : decode prog_20_method_9_code 17 = .ok (.ifCond .ne 7, 3) := by decide +kernel
theorem d_Vwm_fetch_20 : decode prog_20_method_9_code 20 = .ok (.iconst 1, 1) := by decide +kernel
theorem d_Vwm_fetch_21 : decode prog_20_method_9_code 21 = .ok (.goto 4, 3) := by decide +kernel
theorem d_Vwm_fetch_24 : decode prog_20_method_9_code 24 = .ok (.iconst 0, 1) := by decide +kernel
theorem d_Vwm_fetch_25 : decode prog_20_method_9_code 25 = .ok (.iconst 0, 1) := by decide +kernel
theorem d_Vwm_fetch_26 : decode prog_20_method_9_code 26 = .ok (.invokevirtual 42, 3) := by decide +kernel
theorem d_Vwm_fetch_29 : decode prog_20_method_9_code 29 = .ok (.ifCond .eq 5, 3) := by decide +kernel
theorem d_Vwm_fetch_32 : decode prog_20_method_9_code 32 = .ok (.iconst 0, 1) := by decide +kernel
theorem d_Vwm_fetch_33 : decode prog_20_method_9_code 33 = .ok (.ireturn, 1) := by decide +kernel
theorem d_Vwm_fetch_34 : decode prog_20_method_9_code 34 = .ok (.iload_n 3, 1) := by decide +kernel
theorem d_Vwm_fetch_35 : decode prog_20_method_9_code 35 = .ok (.aload_n 0, 1) := by decide +kernel
theorem d_Vwm_fetch_36 : decode prog_20_method_9_code 36 = .ok (.getfield 7, 3) := by decide +kernel
theorem d_Vwm_fetch_39 : decode prog_20_method_9_code 39 = .ok (.iconst 4, 1) := by decide +kernel
theorem d_Vwm_fetch_40 : decode prog_20_method_9_code 40 = .ok (.iload_n 1, 1) := by decide +kernel
theorem d_Vwm_fetch_41 : decode prog_20_method_9_code 41 = .ok (.imul, 1) := by decide +kernel
theorem d_Vwm_fetch_42 : decode prog_20_method_9_code 42 = .ok (.iconst 2, 1) := by decide +kernel
theorem d_Vwm_fetch_43 : decode prog_20_method_9_code 43 = .ok (.iadd, 1) := by decide +kernel
theorem d_Vwm_fetch_44 : decode prog_20_method_9_code 44 = .ok (.iaload, 1) := by decide +kernel
theorem d_Vwm_fetch_45 : decode prog_20_method_9_code 45 = .ok (.if_icmp .lt 15, 3) := by decide +kernel
theorem d_Vwm_fetch_48 : decode prog_20_method_9_code 48 = .ok (.iload_n 3, 1) := by decide +kernel
theorem d_Vwm_fetch_49 : decode prog_20_method_9_code 49 = .ok (.iconst 3, 1) := by decide +kernel
theorem d_Vwm_fetch_50 : decode prog_20_method_9_code 50 = .ok (.if_icmp .ne 8, 3) := by decide +kernel
theorem d_Vwm_fetch_53 : decode prog_20_method_9_code 53 = .ok (.ldc 51, 2) := by decide +kernel
theorem d_Vwm_fetch_55 : decode prog_20_method_9_code 55 = .ok (.goto 4, 3) := by decide +kernel
theorem d_Vwm_fetch_58 : decode prog_20_method_9_code 58 = .ok (.iconst 0, 1) := by decide +kernel
theorem d_Vwm_fetch_59 : decode prog_20_method_9_code 59 = .ok (.ireturn, 1) := by decide +kernel
theorem d_Vwm_fetch_60 : decode prog_20_method_9_code 60 = .ok (.aload_n 0, 1) := by decide +kernel
theorem d_Vwm_fetch_61 : decode prog_20_method_9_code 61 = .ok (.getfield 7, 3) := by decide +kernel
theorem d_Vwm_fetch_64 : decode prog_20_method_9_code 64 = .ok (.iconst 4, 1) := by decide +kernel
theorem d_Vwm_fetch_65 : decode prog_20_method_9_code 65 = .ok (.iload_n 1, 1) := by decide +kernel
theorem d_Vwm_fetch_66 : decode prog_20_method_9_code 66 = .ok (.imul, 1) := by decide +kernel
theorem d_Vwm_fetch_67 : decode prog_20_method_9_code 67 = .ok (.iaload, 1) := by decide +kernel
theorem d_Vwm_fetch_68 : decode prog_20_method_9_code 68 = .ok (.i2l, 1) := by decide +kernel
theorem d_Vwm_fetch_69 : decode prog_20_method_9_code 69 = .ok (.iload_n 2, 1) := by decide +kernel
theorem d_Vwm_fetch_70 : decode prog_20_method_9_code 70 = .ok (.i2l, 1) := by decide +kernel
theorem d_Vwm_fetch_71 : decode prog_20_method_9_code 71 = .ok (.aload_n 0, 1) := by decide +kernel
theorem d_Vwm_fetch_72 : decode prog_20_method_9_code 72 = .ok (.getfield 7, 3) := by decide +kernel
theorem d_Vwm_fetch_75 : decode prog_20_method_9_code 75 = .ok (.iconst 4, 1) := by decide +kernel
theorem d_Vwm_fetch_76 : decode prog_20_method_9_code 76 = .ok (.iload_n 1, 1) := by decide +kernel
theorem d_Vwm_fetch_77 : decode prog_20_method_9_code 77 = .ok (.imul, 1) := by decide +kernel
theorem d_Vwm_fetch_78 : decode prog_20_method_9_code 78 = .ok (.iconst 1, 1) := by decide +kernel
theorem d_Vwm_fetch_79 : decode prog_20_method_9_code 79 = .ok (.iadd, 1) := by decide +kernel
theorem d_Vwm_fetch_80 : decode prog_20_method_9_code 80 = .ok (.iaload, 1) := by decide +kernel
theorem d_Vwm_fetch_81 : decode prog_20_method_9_code 81 = .ok (.i2l, 1) := by decide +kernel
theorem d_Vwm_fetch_82 : decode prog_20_method_9_code 82 = .ok (.lmul, 1) := by decide +kernel
theorem d_Vwm_fetch_83 : decode prog_20_method_9_code 83 = .ok (.ladd, 1) := by decide +kernel
theorem d_Vwm_fetch_84 : decode prog_20_method_9_code 84 = .ok (.lstore 4, 2) := by decide +kernel
theorem d_Vwm_fetch_86 : decode prog_20_method_9_code 86 = .ok (.aload_n 0, 1) := by decide +kernel
theorem d_Vwm_fetch_87 : decode prog_20_method_9_code 87 = .ok (.getfield 7, 3) := by decide +kernel
theorem d_Vwm_fetch_90 : decode prog_20_method_9_code 90 = .ok (.iconst 4, 1) := by decide +kernel
theorem d_Vwm_fetch_91 : decode prog_20_method_9_code 91 = .ok (.iload_n 1, 1) := by decide +kernel
theorem d_Vwm_fetch_92 : decode prog_20_method_9_code 92 = .ok (.imul, 1) := by decide +kernel
theorem d_Vwm_fetch_93 : decode prog_20_method_9_code 93 = .ok (.iconst 3, 1) := by decide +kernel
theorem d_Vwm_fetch_94 : decode prog_20_method_9_code 94 = .ok (.iadd, 1) := by decide +kernel
theorem d_Vwm_fetch_95 : decode prog_20_method_9_code 95 = .ok (.iaload, 1) := by decide +kernel
theorem d_Vwm_fetch_96 : decode prog_20_method_9_code 96 = .ok (.tableswitch 95 0 2 #[28, 38, 56], 28) := by decide +kernel
theorem d_Vwm_fetch_124 : decode prog_20_method_9_code 124 = .ok (.aload_n 0, 1) := by decide +kernel
theorem d_Vwm_fetch_125 : decode prog_20_method_9_code 125 = .ok (.lload 4, 2) := by decide +kernel
theorem d_Vwm_fetch_127 : decode prog_20_method_9_code 127 = .ok (.iload_n 3, 1) := by decide +kernel
theorem d_Vwm_fetch_128 : decode prog_20_method_9_code 128 = .ok (.i2l, 1) := by decide +kernel
theorem d_Vwm_fetch_129 : decode prog_20_method_9_code 129 = .ok (.ladd, 1) := by decide +kernel
theorem d_Vwm_fetch_130 : decode prog_20_method_9_code 130 = .ok (.invokevirtual 46, 3) := by decide +kernel
theorem d_Vwm_fetch_133 : decode prog_20_method_9_code 133 = .ok (.ireturn, 1) := by decide +kernel
theorem d_Vwm_fetch_134 : decode prog_20_method_9_code 134 = .ok (.ldc 51, 2) := by decide +kernel
theorem d_Vwm_fetch_136 : decode prog_20_method_9_code 136 = .ok (.aload_n 0, 1) := by decide +kernel
theorem d_Vwm_fetch_137 : decode prog_20_method_9_code 137 = .ok (.lload 4, 2) := by decide +kernel
theorem d_Vwm_fetch_139 : decode prog_20_method_9_code 139 = .ok (.iload_n 3, 1) := by decide +kernel
theorem d_Vwm_fetch_140 : decode prog_20_method_9_code 140 = .ok (.invokevirtual 52, 3) := by decide +kernel
theorem d_Vwm_fetch_143 : decode prog_20_method_9_code 143 = .ok (.imul, 1) := by decide +kernel
theorem d_Vwm_fetch_144 : decode prog_20_method_9_code 144 = .ok (.bipush 127, 2) := by decide +kernel
theorem d_Vwm_fetch_146 : decode prog_20_method_9_code 146 = .ok (.iadd, 1) := by decide +kernel
theorem d_Vwm_fetch_147 : decode prog_20_method_9_code 147 = .ok (.sipush 255, 3) := by decide +kernel
theorem d_Vwm_fetch_150 : decode prog_20_method_9_code 150 = .ok (.idiv, 1) := by decide +kernel
theorem d_Vwm_fetch_151 : decode prog_20_method_9_code 151 = .ok (.ireturn, 1) := by decide +kernel
theorem d_Vwm_fetch_152 : decode prog_20_method_9_code 152 = .ok (.aload_n 0, 1) := by decide +kernel
theorem d_Vwm_fetch_153 : decode prog_20_method_9_code 153 = .ok (.lload 4, 2) := by decide +kernel
theorem d_Vwm_fetch_155 : decode prog_20_method_9_code 155 = .ok (.iload_n 3, 1) := by decide +kernel
theorem d_Vwm_fetch_156 : decode prog_20_method_9_code 156 = .ok (.iconst 2, 1) := by decide +kernel
theorem d_Vwm_fetch_157 : decode prog_20_method_9_code 157 = .ok (.idiv, 1) := by decide +kernel
theorem d_Vwm_fetch_158 : decode prog_20_method_9_code 158 = .ok (.i2l, 1) := by decide +kernel
theorem d_Vwm_fetch_159 : decode prog_20_method_9_code 159 = .ok (.ladd, 1) := by decide +kernel
theorem d_Vwm_fetch_160 : decode prog_20_method_9_code 160 = .ok (.iload_n 3, 1) := by decide +kernel
theorem d_Vwm_fetch_161 : decode prog_20_method_9_code 161 = .ok (.iconst 2, 1) := by decide +kernel
theorem d_Vwm_fetch_162 : decode prog_20_method_9_code 162 = .ok (.irem, 1) := by decide +kernel
theorem d_Vwm_fetch_163 : decode prog_20_method_9_code 163 = .ok (.invokevirtual 56, 3) := by decide +kernel
theorem d_Vwm_fetch_166 : decode prog_20_method_9_code 166 = .ok (.istore 6, 2) := by decide +kernel
theorem d_Vwm_fetch_168 : decode prog_20_method_9_code 168 = .ok (.sipush 256, 3) := by decide +kernel
theorem d_Vwm_fetch_171 : decode prog_20_method_9_code 171 = .ok (.iload 6, 2) := by decide +kernel
theorem d_Vwm_fetch_173 : decode prog_20_method_9_code 173 = .ok (.sipush 32767, 3) := by decide +kernel
theorem d_Vwm_fetch_176 : decode prog_20_method_9_code 176 = .ok (.if_icmp .le 11, 3) := by decide +kernel
theorem d_Vwm_fetch_179 : decode prog_20_method_9_code 179 = .ok (.iload 6, 2) := by decide +kernel
theorem d_Vwm_fetch_181 : decode prog_20_method_9_code 181 = .ok (.ldc 51, 2) := by decide +kernel
theorem d_Vwm_fetch_183 : decode prog_20_method_9_code 183 = .ok (.isub, 1) := by decide +kernel
theorem d_Vwm_fetch_184 : decode prog_20_method_9_code 184 = .ok (.goto 5, 3) := by decide +kernel
theorem d_Vwm_fetch_187 : decode prog_20_method_9_code 187 = .ok (.iload 6, 2) := by decide +kernel
theorem d_Vwm_fetch_189 : decode prog_20_method_9_code 189 = .ok (.imul, 1) := by decide +kernel
theorem d_Vwm_fetch_190 : decode prog_20_method_9_code 190 = .ok (.ireturn, 1) := by decide +kernel
theorem d_Vwm_fetch_191 : decode prog_20_method_9_code 191 = .ok (.aload_n 0, 1) := by decide +kernel
theorem d_Vwm_fetch_192 : decode prog_20_method_9_code 192 = .ok (.lload 4, 2) := by decide +kernel
theorem d_Vwm_fetch_194 : decode prog_20_method_9_code 194 = .ok (.iload_n 3, 1) := by decide +kernel
theorem d_Vwm_fetch_195 : decode prog_20_method_9_code 195 = .ok (.invokevirtual 52, 3) := by decide +kernel
theorem d_Vwm_fetch_198 : decode prog_20_method_9_code 198 = .ok (.istore 7, 2) := by decide +kernel
theorem d_Vwm_fetch_200 : decode prog_20_method_9_code 200 = .ok (.ldc 51, 2) := by decide +kernel
theorem d_Vwm_fetch_202 : decode prog_20_method_9_code 202 = .ok (.iload 7, 2) := by decide +kernel
theorem d_Vwm_fetch_204 : decode prog_20_method_9_code 204 = .ok (.bipush 127, 2) := by decide +kernel
theorem d_Vwm_fetch_206 : decode prog_20_method_9_code 206 = .ok (.if_icmp .le 12, 3) := by decide +kernel
theorem d_Vwm_fetch_209 : decode prog_20_method_9_code 209 = .ok (.iload 7, 2) := by decide +kernel
theorem d_Vwm_fetch_211 : decode prog_20_method_9_code 211 = .ok (.sipush 256, 3) := by decide +kernel
theorem d_Vwm_fetch_214 : decode prog_20_method_9_code 214 = .ok (.isub, 1) := by decide +kernel
theorem d_Vwm_fetch_215 : decode prog_20_method_9_code 215 = .ok (.goto 5, 3) := by decide +kernel
theorem d_Vwm_fetch_218 : decode prog_20_method_9_code 218 = .ok (.iload 7, 2) := by decide +kernel
theorem d_Vwm_fetch_220 : decode prog_20_method_9_code 220 = .ok (.imul, 1) := by decide +kernel
theorem d_Vwm_fetch_221 : decode prog_20_method_9_code 221 = .ok (.ireturn, 1) := by decide +kernel
def F_Vwm_fetch_220 (σ : Sg) (s0 : Int32) (s1 : Int32) : Option (Sg × Int32) := some (σ, s0 * s1)
set_option maxRecDepth 10000 in
set_option maxHeartbeats 4000000 in
theorem bt_Vwm_fetch_220 {p : Program} {l : Launch} {e : Env} {R : Room} {s : State} {m : MethodId} {args : Array Value} {below : List Frame} {meth : Method} {c : Code} {D : va_G} {τ : ClassId × ClassId × ClassId} {B : Nat} {A : Nat → Prop} {ad : Nat → Nat} (E : Cx p R s m args meth c prog_20_method_9_code 8 "DrawingMachineModel$VertexWorkModel" 2 D τ B A) (hret : meth.sig.returnType = (some .int)) (o : Sg × Int32) (σ : Sg) (s0 : Int32) (s1 : Int32) (h : F_Vwm_fetch_220 σ s0 s1 = some o) {H : Heap} {locs : List Loc} {ls : Array Slot} (w : Wd s D A (wdM τ σ ad) H locs) (hl : lv_has ls 8 []) : W p l e R s m args below meth c H locs 0 0 (QI below args s A D τ (wdM τ o.1 ad) o.2) (F0 m 220 ls [.int s1, .int s0]) := by
  refine lv_imul E.x E.b d_Vwm_fetch_220 ?_
  obtain rfl := Option.some.inj h
  exact rt_i E w hret d_Vwm_fetch_221
def F_Vwm_fetch_189 (σ : Sg) (s0 : Int32) (s1 : Int32) : Option (Sg × Int32) := some (σ, s0 * s1)
set_option maxRecDepth 10000 in
set_option maxHeartbeats 4000000 in
theorem bt_Vwm_fetch_189 {p : Program} {l : Launch} {e : Env} {R : Room} {s : State} {m : MethodId} {args : Array Value} {below : List Frame} {meth : Method} {c : Code} {D : va_G} {τ : ClassId × ClassId × ClassId} {B : Nat} {A : Nat → Prop} {ad : Nat → Nat} (E : Cx p R s m args meth c prog_20_method_9_code 8 "DrawingMachineModel$VertexWorkModel" 2 D τ B A) (hret : meth.sig.returnType = (some .int)) (o : Sg × Int32) (σ : Sg) (s0 : Int32) (s1 : Int32) (h : F_Vwm_fetch_189 σ s0 s1 = some o) {H : Heap} {locs : List Loc} {ls : Array Slot} (w : Wd s D A (wdM τ σ ad) H locs) (hl : lv_has ls 8 []) : W p l e R s m args below meth c H locs 0 0 (QI below args s A D τ (wdM τ o.1 ad) o.2) (F0 m 189 ls [.int s1, .int s0]) := by
  refine lv_imul E.x E.b d_Vwm_fetch_189 ?_
  obtain rfl := Option.some.inj h
  exact rt_i E w hret d_Vwm_fetch_190
def F_Vwm_fetch_59 (σ : Sg) (s0 : Int32) : Option (Sg × Int32) := some (σ, s0)
set_option maxRecDepth 10000 in
set_option maxHeartbeats 4000000 in
theorem bt_Vwm_fetch_59 {p : Program} {l : Launch} {e : Env} {R : Room} {s : State} {m : MethodId} {args : Array Value} {below : List Frame} {meth : Method} {c : Code} {D : va_G} {τ : ClassId × ClassId × ClassId} {B : Nat} {A : Nat → Prop} {ad : Nat → Nat} (E : Cx p R s m args meth c prog_20_method_9_code 8 "DrawingMachineModel$VertexWorkModel" 2 D τ B A) (hret : meth.sig.returnType = (some .int)) (o : Sg × Int32) (σ : Sg) (s0 : Int32) (h : F_Vwm_fetch_59 σ s0 = some o) {H : Heap} {locs : List Loc} {ls : Array Slot} (w : Wd s D A (wdM τ σ ad) H locs) (hl : lv_has ls 8 []) : W p l e R s m args below meth c H locs 0 0 (QI below args s A D τ (wdM τ o.1 ad) o.2) (F0 m 59 ls [.int s0]) := by
  obtain rfl := Option.some.inj h
  exact rt_i E w hret d_Vwm_fetch_59
def F_Vwm_fetch_25 (σ : Sg) (v1 : Int32) (v2 : Int32) (v3 : Int32) (s1 : Int32) : Option (Sg × Int32) := bd (F_Vwm_refuse σ s1 0) (fun o17 => if o17.2 = 0 then (ck (inb ((4 * v1) + 2) 32) (if v3 < (o17.1.2.2.1 34 ((4 * v1) + 2).toNatClampNeg) then (ck (inb (4 * v1) 32) (ck (inb ((4 * v1) + 1) 32) (lt (((o17.1.2.2.1 34 (4 * v1).toNatClampNeg).toInt64) + (v2.toInt64 * ((o17.1.2.2.1 34 ((4 * v1) + 1).toNatClampNeg).toInt64))) (fun y21 => ck (inb ((4 * v1) + 3) 32) (lt (o17.1.2.2.1 34 ((4 * v1) + 3).toNatClampNeg) (fun y23 => if y23 = 0 then (bd (F_Vwm_wordAt o17.1 (y21 + v3.toInt64)) (fun o25 => some (o17.1, o25))) else (if y23 = 1 then (bd (F_Vwm_byteAt o17.1 y21 v3) (fun o27 => some (o17.1, ((65536 * o27) + 127) / 255))) else (if y23 = 2 then (bd (F_Vwm_halfAt o17.1 (y21 + ((v3 / 2).toInt64)) (irem v3 2)) (fun o29 => if o29 ≤ 32767 then (F_Vwm_fetch_189 o17.1 256 o29) else (F_Vwm_fetch_189 o17.1 256 (o29 - 65536)))) else (bd (F_Vwm_byteAt o17.1 y21 v3) (fun o30 => if o30 ≤ 127 then (F_Vwm_fetch_220 o17.1 65536 o30) else (F_Vwm_fetch_220 o17.1 65536 (o30 - 256)))))))))))) else (if v3 = 3 then (F_Vwm_fetch_59 o17.1 65536) else (F_Vwm_fetch_59 o17.1 0)))) else (some (o17.1, 0)))
set_option maxRecDepth 10000 in
set_option maxHeartbeats 4000000 in
theorem bt_Vwm_fetch_25 {p : Program} {l : Launch} {e : Env} {R : Room} {s : State} {m : MethodId} {args : Array Value} {below : List Frame} {meth : Method} {c : Code} {D : va_G} {τ : ClassId × ClassId × ClassId} {B : Nat} {A : Nat → Prop} {ad : Nat → Nat} (E : Cx p R s m args meth c prog_20_method_9_code 8 "DrawingMachineModel$VertexWorkModel" 2 D τ B A) (hret : meth.sig.returnType = (some .int)) (o : Sg × Int32) (σ : Sg) (v1 : Int32) (v2 : Int32) (v3 : Int32) (s1 : Int32) (h : F_Vwm_fetch_25 σ v1 v2 v3 s1 = some o) {H : Heap} {locs : List Loc} {ls : Array Slot} (w : Wd s D A (wdM τ σ ad) H locs) (hl : lv_has ls 8 [(0, .ref (ad 62)), (1, .int v1), (2, .int v2), (3, .int v3)]) : W p l e R s m args below meth c H locs 0 0 (QI below args s A D τ (wdM τ o.1 ad) o.2) (F0 m 25 ls [.int s1, .ref (ad 62)]) := by
  refine lv_iconst (v := 0) E.x E.b d_Vwm_fetch_25 (by decide) ?_
  obtain ⟨o17, h_o17, h⟩ := bd_some h
  refine clV_Vwm_refuse E w (x0 := s1) (x1 := 0) h_o17 k2028 (by decide) hl.1 (Nat.le_of_ble_eq_true rfl) d_Vwm_fetch_26 (fun H locs w => ?_)
  refine lv_if_eq (tgt := 34) E.x E.b d_Vwm_fetch_29 (by decide) (fun c => ?_) (fun c => ?_)
  ·
    replace h := ifT c h
    refine lv_iload_n E.x E.b d_Vwm_fetch_34 rfl (lv_at hl 3 rfl) ?_
    refine lv_aload_n E.x E.b d_Vwm_fetch_35 rfl (lv_at hl 0 rfl) ?_
    refine gM_Vwm_attributes E w k1623 d_Vwm_fetch_36 ?_
    refine lv_iconst (v := 4) E.x E.b d_Vwm_fetch_39 (by decide) ?_
    refine lv_iload_n E.x E.b d_Vwm_fetch_40 rfl (lv_at hl 1 rfl) ?_
    refine lv_imul E.x E.b d_Vwm_fetch_41 ?_
    refine lv_iconst (v := 2) E.x E.b d_Vwm_fetch_42 (by decide) ?_
    refine lv_iadd E.x E.b d_Vwm_fetch_43 ?_
    obtain ⟨c18, h⟩ := ck_some h
    refine ialM E w (k := 34) (by decide) c18 d_Vwm_fetch_44 ?_
    refine lv_icmp_lt (tgt := 60) E.x E.b d_Vwm_fetch_45 (by decide) (fun c => ?_) (fun c => ?_)
    ·
      replace h := ifT c h
      refine lv_aload_n E.x E.b d_Vwm_fetch_60 rfl (lv_at hl 0 rfl) ?_
      refine gM_Vwm_attributes E w k1623 d_Vwm_fetch_61 ?_
      refine lv_iconst (v := 4) E.x E.b d_Vwm_fetch_64 (by decide) ?_
      refine lv_iload_n E.x E.b d_Vwm_fetch_65 rfl (lv_at hl 1 rfl) ?_
      refine lv_imul E.x E.b d_Vwm_fetch_66 ?_
      obtain ⟨c19, h⟩ := ck_some h
      refine ialM E w (k := 34) (by decide) c19 d_Vwm_fetch_67 ?_
      refine lv_i2l (v := (o17.1.2.2.1 34 (4 * v1).toNatClampNeg).toInt64) E.x E.b d_Vwm_fetch_68 rfl ?_
      refine lv_iload_n E.x E.b d_Vwm_fetch_69 rfl (lv_at hl 2 rfl) ?_
      refine lv_i2l (v := v2.toInt64) E.x E.b d_Vwm_fetch_70 rfl ?_
      refine lv_aload_n E.x E.b d_Vwm_fetch_71 rfl (lv_at hl 0 rfl) ?_
      refine gM_Vwm_attributes E w k1623 d_Vwm_fetch_72 ?_
      refine lv_iconst (v := 4) E.x E.b d_Vwm_fetch_75 (by decide) ?_
      refine lv_iload_n E.x E.b d_Vwm_fetch_76 rfl (lv_at hl 1 rfl) ?_
      refine lv_imul E.x E.b d_Vwm_fetch_77 ?_
      refine lv_iconst (v := 1) E.x E.b d_Vwm_fetch_78 (by decide) ?_
      refine lv_iadd E.x E.b d_Vwm_fetch_79 ?_
      obtain ⟨c20, h⟩ := ck_some h
      refine ialM E w (k := 34) (by decide) c20 d_Vwm_fetch_80 ?_
      refine lv_i2l (v := (o17.1.2.2.1 34 ((4 * v1) + 1).toNatClampNeg).toInt64) E.x E.b d_Vwm_fetch_81 rfl ?_
      refine lv_lmul E.x E.b d_Vwm_fetch_82 ?_
      refine lv_ladd E.x E.b d_Vwm_fetch_83 ?_
      obtain ⟨y21, e_y21, h⟩ := lt_some h
      refine wl_e (v := y21) e_y21 ?_
      refine lv_lstore (lv' := [(4, .long y21), (0, .ref (ad 62)), (1, .int v1), (2, .int v2), (3, .int v3)]) E.x E.b d_Vwm_fetch_84 hl (by decide) rfl (fun ls hl => ?_)
      refine lv_aload_n E.x E.b d_Vwm_fetch_86 rfl (lv_at hl 1 rfl) ?_
      refine gM_Vwm_attributes E w k1623 d_Vwm_fetch_87 ?_
      refine lv_iconst (v := 4) E.x E.b d_Vwm_fetch_90 (by decide) ?_
      refine lv_iload_n E.x E.b d_Vwm_fetch_91 rfl (lv_at hl 2 rfl) ?_
      refine lv_imul E.x E.b d_Vwm_fetch_92 ?_
      refine lv_iconst (v := 3) E.x E.b d_Vwm_fetch_93 (by decide) ?_
      refine lv_iadd E.x E.b d_Vwm_fetch_94 ?_
      obtain ⟨c22, h⟩ := ck_some h
      refine ialM E w (k := 34) (by decide) c22 d_Vwm_fetch_95 ?_
      obtain ⟨y23, e_y23, h⟩ := lt_some h
      refine wi_e (v := y23) e_y23 ?_
      by_cases q24 : y23 = 0
      ·
        replace h := ifT q24 h
        refine wi_e (v := 0) q24 ?_
        refine lv_tableIn (off := 28) (tgt := 124) E.x E.b d_Vwm_fetch_96 (by decide) (by decide) (by decide) (by decide) ?_
        refine lv_aload_n E.x E.b d_Vwm_fetch_124 rfl (lv_at hl 1 rfl) ?_
        refine lv_lload E.x E.b d_Vwm_fetch_125 (lv_at hl 0 rfl) ?_
        refine lv_iload_n E.x E.b d_Vwm_fetch_127 rfl (lv_at hl 4 rfl) ?_
        refine lv_i2l (v := v3.toInt64) E.x E.b d_Vwm_fetch_128 rfl ?_
        refine lv_ladd E.x E.b d_Vwm_fetch_129 ?_
        obtain ⟨o25, h_o25, h⟩ := bd_some h
        refine clV_Vwm_wordAt E w (x0 := (y21 + v3.toInt64)) h_o25 k2175 (by decide) hl.1 (Nat.le_of_ble_eq_true rfl) d_Vwm_fetch_130 (fun H locs w => ?_)
        obtain rfl := Option.some.inj h
        exact rt_i E w hret d_Vwm_fetch_133
      replace h := ifF q24 h
      replace q24 := ne_ti (k := 0) (by decide) q24
      by_cases q26 : y23 = 1
      ·
        replace h := ifT q26 h
        refine wi_e (v := 1) q26 ?_
        refine lv_tableIn (off := 38) (tgt := 134) E.x E.b d_Vwm_fetch_96 (by decide) (by decide) (by decide) (by decide) ?_
        refine lv_ldc (v := 65536) E.x E.b E.o (E.w _ k2193) d_Vwm_fetch_134 ?_
        refine lv_aload_n E.x E.b d_Vwm_fetch_136 rfl (lv_at hl 1 rfl) ?_
        refine lv_lload E.x E.b d_Vwm_fetch_137 (lv_at hl 0 rfl) ?_
        refine lv_iload_n E.x E.b d_Vwm_fetch_139 rfl (lv_at hl 4 rfl) ?_
        obtain ⟨o27, h_o27, h⟩ := bd_some h
        refine clV_Vwm_byteAt E w (x0 := y21) (x1 := v3) h_o27 k2185 (by decide) hl.1 (Nat.le_of_ble_eq_true rfl) d_Vwm_fetch_140 (fun H locs w => ?_)
        refine lv_imul E.x E.b d_Vwm_fetch_143 ?_
        refine lv_bipush (v := 127) E.x E.b d_Vwm_fetch_144 (by decide) ?_
        refine lv_iadd E.x E.b d_Vwm_fetch_146 ?_
        refine lv_sipush (v := 255) E.x E.b d_Vwm_fetch_147 (by decide) ?_
        refine lv_idiv E.x E.b d_Vwm_fetch_150 (by decide) ?_
        obtain rfl := Option.some.inj h
        exact rt_i E w hret d_Vwm_fetch_151
      replace h := ifF q26 h
      replace q26 := ne_ti (k := 1) (by decide) q26
      by_cases q28 : y23 = 2
      ·
        replace h := ifT q28 h
        refine wi_e (v := 2) q28 ?_
        refine lv_tableIn (off := 56) (tgt := 152) E.x E.b d_Vwm_fetch_96 (by decide) (by decide) (by decide) (by decide) ?_
        refine lv_aload_n E.x E.b d_Vwm_fetch_152 rfl (lv_at hl 1 rfl) ?_
        refine lv_lload E.x E.b d_Vwm_fetch_153 (lv_at hl 0 rfl) ?_
        refine lv_iload_n E.x E.b d_Vwm_fetch_155 rfl (lv_at hl 4 rfl) ?_
        refine lv_iconst (v := 2) E.x E.b d_Vwm_fetch_156 (by decide) ?_
        refine lv_idiv E.x E.b d_Vwm_fetch_157 (by decide) ?_
        refine lv_i2l (v := (v3 / 2).toInt64) E.x E.b d_Vwm_fetch_158 rfl ?_
        refine lv_ladd E.x E.b d_Vwm_fetch_159 ?_
        refine lv_iload_n E.x E.b d_Vwm_fetch_160 rfl (lv_at hl 4 rfl) ?_
        refine lv_iconst (v := 2) E.x E.b d_Vwm_fetch_161 (by decide) ?_
        refine lv_irem E.x E.b d_Vwm_fetch_162 (by decide) ?_
        refine wi_e (v := irem v3 2) rfl ?_
        obtain ⟨o29, h_o29, h⟩ := bd_some h
        refine clV_Vwm_halfAt E w (x0 := (y21 + ((v3 / 2).toInt64))) (x1 := (irem v3 2)) h_o29 k2180 (by decide) hl.1 (Nat.le_of_ble_eq_true rfl) d_Vwm_fetch_163 (fun H locs w => ?_)
        refine lv_istore (lv' := [(6, .int o29), (4, .long y21), (0, .ref (ad 62)), (1, .int v1), (2, .int v2), (3, .int v3)]) E.x E.b d_Vwm_fetch_166 hl (by decide) rfl (fun ls hl => ?_)
        refine lv_sipush (v := 256) E.x E.b d_Vwm_fetch_168 (by decide) ?_
        refine lv_iload E.x E.b d_Vwm_fetch_171 (lv_at hl 0 rfl) ?_
        refine lv_sipush (v := 32767) E.x E.b d_Vwm_fetch_173 (by decide) ?_
        refine lv_icmp_le (tgt := 187) E.x E.b d_Vwm_fetch_176 (by decide) (fun c => ?_) (fun c => ?_)
        ·
          replace h := ifT c h
          refine lv_iload E.x E.b d_Vwm_fetch_187 (lv_at hl 0 rfl) ?_
          exact bt_Vwm_fetch_189 E hret o o17.1 256 o29 h w (lv_sub hl [] rfl)
        ·
          replace h := ifF c h
          refine lv_iload E.x E.b d_Vwm_fetch_179 (lv_at hl 0 rfl) ?_
          refine lv_ldc (v := 65536) E.x E.b E.o (E.w _ k2193) d_Vwm_fetch_181 ?_
          refine lv_isub E.x E.b d_Vwm_fetch_183 ?_
          refine lv_goto (tgt := 189) E.x E.b d_Vwm_fetch_184 (by decide) ?_
          exact bt_Vwm_fetch_189 E hret o o17.1 256 (o29 - 65536) h w (lv_sub hl [] rfl)
      replace h := ifF q28 h
      replace q28 := ne_ti (k := 2) (by decide) q28
      refine lv_tableOut (tgt := 191) E.x E.b d_Vwm_fetch_96 (by omega) (by decide) ?_
      refine lv_aload_n E.x E.b d_Vwm_fetch_191 rfl (lv_at hl 1 rfl) ?_
      refine lv_lload E.x E.b d_Vwm_fetch_192 (lv_at hl 0 rfl) ?_
      refine lv_iload_n E.x E.b d_Vwm_fetch_194 rfl (lv_at hl 4 rfl) ?_
      obtain ⟨o30, h_o30, h⟩ := bd_some h
      refine clV_Vwm_byteAt E w (x0 := y21) (x1 := v3) h_o30 k2185 (by decide) hl.1 (Nat.le_of_ble_eq_true rfl) d_Vwm_fetch_195 (fun H locs w => ?_)
      refine lv_istore (lv' := [(7, .int o30), (4, .long y21), (0, .ref (ad 62)), (1, .int v1), (2, .int v2), (3, .int v3)]) E.x E.b d_Vwm_fetch_198 hl (by decide) rfl (fun ls hl => ?_)
      refine lv_ldc (v := 65536) E.x E.b E.o (E.w _ k2193) d_Vwm_fetch_200 ?_
      refine lv_iload E.x E.b d_Vwm_fetch_202 (lv_at hl 0 rfl) ?_
      refine lv_bipush (v := 127) E.x E.b d_Vwm_fetch_204 (by decide) ?_
      refine lv_icmp_le (tgt := 218) E.x E.b d_Vwm_fetch_206 (by decide) (fun c => ?_) (fun c => ?_)
      ·
        replace h := ifT c h
        refine lv_iload E.x E.b d_Vwm_fetch_218 (lv_at hl 0 rfl) ?_
        exact bt_Vwm_fetch_220 E hret o o17.1 65536 o30 h w (lv_sub hl [] rfl)
      ·
        replace h := ifF c h
        refine lv_iload E.x E.b d_Vwm_fetch_209 (lv_at hl 0 rfl) ?_
        refine lv_sipush (v := 256) E.x E.b d_Vwm_fetch_211 (by decide) ?_
        refine lv_isub E.x E.b d_Vwm_fetch_214 ?_
        refine lv_goto (tgt := 220) E.x E.b d_Vwm_fetch_215 (by decide) ?_
        exact bt_Vwm_fetch_220 E hret o o17.1 65536 (o30 - 256) h w (lv_sub hl [] rfl)
    ·
      replace h := ifF c h
      refine lv_iload_n E.x E.b d_Vwm_fetch_48 rfl (lv_at hl 3 rfl) ?_
      refine lv_iconst (v := 3) E.x E.b d_Vwm_fetch_49 (by decide) ?_
      refine lv_icmp_ne (tgt := 58) E.x E.b d_Vwm_fetch_50 (by decide) (fun c => ?_) (fun c => ?_)
      ·
        replace h := ifF c h
        refine lv_iconst (v := 0) E.x E.b d_Vwm_fetch_58 (by decide) ?_
        exact bt_Vwm_fetch_59 E hret o o17.1 0 h w (lv_sub hl [] rfl)
      ·
        replace h := ifT c h
        refine lv_ldc (v := 65536) E.x E.b E.o (E.w _ k2193) d_Vwm_fetch_53 ?_
        refine lv_goto (tgt := 59) E.x E.b d_Vwm_fetch_55 (by decide) ?_
        exact bt_Vwm_fetch_59 E hret o o17.1 65536 h w (lv_sub hl [] rfl)
  ·
    replace h := ifF c h
    refine lv_iconst (v := 0) E.x E.b d_Vwm_fetch_32 (by decide) ?_
    obtain rfl := Option.some.inj h
    exact rt_i E w hret d_Vwm_fetch_33
def F_Vwm_fetch_20 (σ : Sg) (v1 : Int32) (v2 : Int32) (v3 : Int32) : Option (Sg × Int32) := F_Vwm_fetch_25 σ v1 v2 v3 1
set_option maxRecDepth 10000 in
set_option maxHeartbeats 4000000 in
theorem bt_Vwm_fetch_20 {p : Program} {l : Launch} {e : Env} {R : Room} {s : State} {m : MethodId} {args : Array Value} {below : List Frame} {meth : Method} {c : Code} {D : va_G} {τ : ClassId × ClassId × ClassId} {B : Nat} {A : Nat → Prop} {ad : Nat → Nat} (E : Cx p R s m args meth c prog_20_method_9_code 8 "DrawingMachineModel$VertexWorkModel" 2 D τ B A) (hret : meth.sig.returnType = (some .int)) (o : Sg × Int32) (σ : Sg) (v1 : Int32) (v2 : Int32) (v3 : Int32) (h : F_Vwm_fetch_20 σ v1 v2 v3 = some o) {H : Heap} {locs : List Loc} {ls : Array Slot} (w : Wd s D A (wdM τ σ ad) H locs) (hl : lv_has ls 8 [(0, .ref (ad 62)), (1, .int v1), (2, .int v2), (3, .int v3)]) : W p l e R s m args below meth c H locs 0 0 (QI below args s A D τ (wdM τ o.1 ad) o.2) (F0 m 20 ls [.ref (ad 62)]) := by
  refine lv_iconst (v := 1) E.x E.b d_Vwm_fetch_20 (by decide) ?_
  refine lv_goto (tgt := 25) E.x E.b d_Vwm_fetch_21 (by decide) ?_
  exact bt_Vwm_fetch_25 E hret o σ v1 v2 v3 1 h w (lv_sub hl [0, 1, 2, 3] rfl)
def F_Vwm_fetch (σ : Sg) (x0 : Int32) (x1 : Int32) (x2 : Int32) : Option (Sg × Int32) := bd (F_Vwm_in x0 0 7) (fun o31 => if o31 = 0 then (F_Vwm_fetch_20 σ x0 x1 x2) else (bd (F_Vwm_in x2 0 3) (fun o32 => if o32 = 0 then (F_Vwm_fetch_20 σ x0 x1 x2) else (F_Vwm_fetch_25 σ x0 x1 x2 0))))
set_option maxRecDepth 10000 in
set_option maxHeartbeats 4000000 in
theorem c_Vwm_fetch (l : Launch) (D : va_G) (τ : ClassId × ClassId × ClassId) (B : Nat) (σ : Sg) (ad : Nat → Nat) (x0 : Int32) (x1 : Int32) (x2 : Int32) (o : Sg × Int32) (h : F_Vwm_fetch σ x0 x1 x2 = some o) : MI l y_Vwm_fetch (Cond.code y_Vwm_fetch prog_20_method_9_code 8 (some .int)) 2 D τ B [.ref (ad 62), .int x0, .int x1, .int x2] (wdM τ σ ad) (wdM τ o.1 ad) o.2 := by
  refine en_i (by decide) (Nat.le_of_ble_eq_true rfl) ?_
  intro p e R s m args below meth c H locs ls A E hret w hl
  have E : Cx p R s m args meth c prog_20_method_9_code 8 "DrawingMachineModel$VertexWorkModel" 2 D τ B A := E
  have hl : lv_has ls 8 [(0, .ref (ad 62)), (1, .int x0), (2, .int x1), (3, .int x2)] := hl
  refine lv_aload_n E.x E.b d_Vwm_fetch_0 rfl (lv_at hl 0 rfl) ?_
  refine lv_iload_n E.x E.b d_Vwm_fetch_1 rfl (lv_at hl 1 rfl) ?_
  refine lv_iconst (v := 0) E.x E.b d_Vwm_fetch_2 (by decide) ?_
  refine lv_bipush (v := 7) E.x E.b d_Vwm_fetch_3 (by decide) ?_
  obtain ⟨o31, h_o31, h⟩ := bd_some h
  refine clS_Vwm_in E w (x0 := x0) (x1 := 0) (x2 := 7) h_o31 k2025 (by decide) hl.1 (Nat.le_of_ble_eq_true rfl) d_Vwm_fetch_5 (fun H locs w => ?_)
  refine lv_if_eq (tgt := 20) E.x E.b d_Vwm_fetch_8 (by decide) (fun c => ?_) (fun c => ?_)
  ·
    replace h := ifT c h
    exact bt_Vwm_fetch_20 E hret o σ x0 x1 x2 h w (lv_sub hl [0, 1, 2, 3] rfl)
  ·
    replace h := ifF c h
    refine lv_iload_n E.x E.b d_Vwm_fetch_11 rfl (lv_at hl 3 rfl) ?_
    refine lv_iconst (v := 0) E.x E.b d_Vwm_fetch_12 (by decide) ?_
    refine lv_iconst (v := 3) E.x E.b d_Vwm_fetch_13 (by decide) ?_
    obtain ⟨o32, h_o32, h⟩ := bd_some h
    refine clS_Vwm_in E w (x0 := x2) (x1 := 0) (x2 := 3) h_o32 k2025 (by decide) hl.1 (Nat.le_of_ble_eq_true rfl) d_Vwm_fetch_14 (fun H locs w => ?_)
    refine lv_if_ne (tgt := 24) E.x E.b d_Vwm_fetch_17 (by decide) (fun c => ?_) (fun c => ?_)
    ·
      replace h := ifF c h
      refine lv_iconst (v := 0) E.x E.b d_Vwm_fetch_24 (by decide) ?_
      exact bt_Vwm_fetch_25 E hret o σ x0 x1 x2 0 h w (lv_sub hl [0, 1, 2, 3] rfl)
    ·
      replace h := ifT c h
      exact bt_Vwm_fetch_20 E hret o σ x0 x1 x2 h w (lv_sub hl [0, 1, 2, 3] rfl)
theorem clV_Vwm_fetch {p : Program} {l : Launch} {e : Env} {R : Room} {s : State} {m : MethodId} {args : Array Value} {below : List Frame} {meth : Method} {c : Code} {H : Heap} {locs : List Loc} {Q : State → Prop} {cc : ByteArray} {nL pc lev : Nat} {own : String} {D : va_G} {τ : ClassId × ClassId × ClassId} {B : Nat} {A : Nat → Prop} {σ : Sg} {ad : Nat → Nat} {ls : Array Slot} {rest : List Value} (E : Cx p R s m args meth c cc nL own lev D τ B A) (w : Wd s D A (wdM τ σ ad) H locs) {x0 : Int32} {x1 : Int32} {x2 : Int32} {o : Sg × Int32} (h : F_Vwm_fetch σ x0 x1 x2 = some o) {index : Nat} (hlk : Cond.methodLink own index y_Vwm_fetch ∈ tw) (hlev : 2 < lev) (hsz : ls.size = nL) (hr : (rest.map fun v => v.category).sum ≤ 8) (hd : decode cc pc = .ok (.invokevirtual index, 3)) (kk : ∀ (H1 : Heap) (locs1 : List Loc), Wd s D A (wdM τ o.1 ad) H1 locs1 → W p l e R s m args below meth c H1 locs1 0 0 Q (F0 m (pc + 3) ls (.int o.2 :: rest))) : W p l e R s m args below meth c H locs 0 0 Q (F0 m pc ls (.int x2 :: .int x1 :: .int x0 :: .ref (ad 62) :: rest)) :=
  cr_i w E.C (va_runV (As := [.int x0, .int x1, .int x2]) (rest := rest) E.fix (c_Vwm_fetch l D τ B σ ad x0 x1 x2 o h H.size) (cwV 3 E.w (tw_pre (tw_good k2192) (l := [_, _, _, _]) (List.forall_mem_cons.mpr ⟨hlk, List.forall_mem_cons.mpr ⟨k2190, List.forall_mem_cons.mpr ⟨k2191, List.forall_mem_cons.mpr ⟨k18, fun _ h => absurd h List.not_mem_nil⟩⟩⟩⟩)) rfl rfl rfl (by decide +kernel) (E.rm hlev (by decide))) (wd_preV w E.C [.int x0, .int x1, .int x2] rcM_Vwm rfl) rfl rfl hsz rfl (lv_room hr) hd ⟨Nat.zero_le _, Nat.zero_le _⟩) kk

theorem d_Vwm_index_0 : decode prog_20_method_10_code 0 = .ok (.aload_n 0, 1) := by decide +kernel
theorem d_Vwm_index_1 : decode prog_20_method_10_code 1 = .ok (.iload_n 2, 1) := by decide +kernel
theorem d_Vwm_index_2 : decode prog_20_method_10_code 2 = .ok (.ifCond .lt 16, 3) := by decide +kernel
theorem d_Vwm_index_5 : decode prog_20_method_10_code 5 = .ok (.iload_n 3, 1) := by decide +kernel
theorem d_Vwm_index_6 : decode prog_20_method_10_code 6 = .ok (.ifCond .lt 12, 3) := by decide +kernel
theorem d_Vwm_index_9 : decode prog_20_method_10_code 9 = .ok (.iload_n 1, 1) := by decide +kernel
theorem d_Vwm_index_10 : decode prog_20_method_10_code 10 = .ok (.iconst 0, 1) := by decide +kernel
theorem d_Vwm_index_11 : decode prog_20_method_10_code 11 = .ok (.iconst 2, 1) := by decide +kernel
theorem d_Vwm_index_12 : decode prog_20_method_10_code 12 = .ok (.invokestatic 38, 3) := by decide +kernel
theorem d_Vwm_index_15 : decode prog_20_method_10_code 15 = .ok (.ifCond .ne 7, 3) := by decide +kernel
theorem d_Vwm_index_18 : decode prog_20_method_10_code 18 = .ok (.iconst 1, 1) := by decide +kernel
theorem d_Vwm_index_19 : decode prog_20_method_10_code 19 = .ok (.goto 4, 3) := by decide +kernel
theorem d_Vwm_index_22 : decode prog_20_method_10_code 22 = .ok (.iconst 0, 1) := by decide +kernel
theorem d_Vwm_index_23 : decode prog_20_method_10_code 23 = .ok (.iconst 0, 1) := by decide +kernel
theorem d_Vwm_index_24 : decode prog_20_method_10_code 24 = .ok (.invokevirtual 42, 3) := by decide +kernel
theorem d_Vwm_index_27 : decode prog_20_method_10_code 27 = .ok (.ifCond .eq 5, 3) := by decide +kernel
theorem d_Vwm_index_30 : decode prog_20_method_10_code 30 = .ok (.iconst 0, 1) := by decide +kernel
theorem d_Vwm_index_31 : decode prog_20_method_10_code 31 = .ok (.ireturn, 1) := by decide +kernel
theorem d_Vwm_index_32 : decode prog_20_method_10_code 32 = .ok (.iload_n 2, 1) := by decide +kernel
theorem d_Vwm_index_33 : decode prog_20_method_10_code 33 = .ok (.i2l, 1) := by decide +kernel
theorem d_Vwm_index_34 : decode prog_20_method_10_code 34 = .ok (.lstore 4, 2) := by decide +kernel
theorem d_Vwm_index_36 : decode prog_20_method_10_code 36 = .ok (.iload_n 1, 1) := by decide +kernel
theorem d_Vwm_index_37 : decode prog_20_method_10_code 37 = .ok (.ifCond .ne 15, 3) := by decide +kernel
theorem d_Vwm_index_40 : decode prog_20_method_10_code 40 = .ok (.aload_n 0, 1) := by decide +kernel
theorem d_Vwm_index_41 : decode prog_20_method_10_code 41 = .ok (.lload 4, 2) := by decide +kernel
theorem d_Vwm_index_43 : decode prog_20_method_10_code 43 = .ok (.iload_n 3, 1) := by decide +kernel
theorem d_Vwm_index_44 : decode prog_20_method_10_code 44 = .ok (.i2l, 1) := by decide +kernel
theorem d_Vwm_index_45 : decode prog_20_method_10_code 45 = .ok (.ladd, 1) := by decide +kernel
theorem d_Vwm_index_46 : decode prog_20_method_10_code 46 = .ok (.invokevirtual 46, 3) := by decide +kernel
theorem d_Vwm_index_49 : decode prog_20_method_10_code 49 = .ok (.goto 39, 3) := by decide +kernel
theorem d_Vwm_index_52 : decode prog_20_method_10_code 52 = .ok (.iload_n 1, 1) := by decide +kernel
theorem d_Vwm_index_53 : decode prog_20_method_10_code 53 = .ok (.iconst 1, 1) := by decide +kernel
theorem d_Vwm_index_54 : decode prog_20_method_10_code 54 = .ok (.if_icmp .ne 20, 3) := by decide +kernel
theorem d_Vwm_index_57 : decode prog_20_method_10_code 57 = .ok (.aload_n 0, 1) := by decide +kernel
theorem d_Vwm_index_58 : decode prog_20_method_10_code 58 = .ok (.lload 4, 2) := by decide +kernel
theorem d_Vwm_index_60 : decode prog_20_method_10_code 60 = .ok (.iload_n 3, 1) := by decide +kernel
theorem d_Vwm_index_61 : decode prog_20_method_10_code 61 = .ok (.iconst 2, 1) := by decide +kernel
theorem d_Vwm_index_62 : decode prog_20_method_10_code 62 = .ok (.idiv, 1) := by decide +kernel
theorem d_Vwm_index_63 : decode prog_20_method_10_code 63 = .ok (.i2l, 1) := by decide +kernel
theorem d_Vwm_index_64 : decode prog_20_method_10_code 64 = .ok (.ladd, 1) := by decide +kernel
theorem d_Vwm_index_65 : decode prog_20_method_10_code 65 = .ok (.iload_n 3, 1) := by decide +kernel
theorem d_Vwm_index_66 : decode prog_20_method_10_code 66 = .ok (.iconst 2, 1) := by decide +kernel
theorem d_Vwm_index_67 : decode prog_20_method_10_code 67 = .ok (.irem, 1) := by decide +kernel
theorem d_Vwm_index_68 : decode prog_20_method_10_code 68 = .ok (.invokevirtual 56, 3) := by decide +kernel
theorem d_Vwm_index_71 : decode prog_20_method_10_code 71 = .ok (.goto 17, 3) := by decide +kernel
theorem d_Vwm_index_74 : decode prog_20_method_10_code 74 = .ok (.aload_n 0, 1) := by decide +kernel
theorem d_Vwm_index_75 : decode prog_20_method_10_code 75 = .ok (.lload 4, 2) := by decide +kernel
theorem d_Vwm_index_77 : decode prog_20_method_10_code 77 = .ok (.iload_n 3, 1) := by decide +kernel
theorem d_Vwm_index_78 : decode prog_20_method_10_code 78 = .ok (.iconst 4, 1) := by decide +kernel
theorem d_Vwm_index_79 : decode prog_20_method_10_code 79 = .ok (.idiv, 1) := by decide +kernel
theorem d_Vwm_index_80 : decode prog_20_method_10_code 80 = .ok (.i2l, 1) := by decide +kernel
theorem d_Vwm_index_81 : decode prog_20_method_10_code 81 = .ok (.ladd, 1) := by decide +kernel
theorem d_Vwm_index_82 : decode prog_20_method_10_code 82 = .ok (.iload_n 3, 1) := by decide +kernel
theorem d_Vwm_index_83 : decode prog_20_method_10_code 83 = .ok (.iconst 4, 1) := by decide +kernel
theorem d_Vwm_index_84 : decode prog_20_method_10_code 84 = .ok (.irem, 1) := by decide +kernel
theorem d_Vwm_index_85 : decode prog_20_method_10_code 85 = .ok (.invokevirtual 52, 3) := by decide +kernel
theorem d_Vwm_index_88 : decode prog_20_method_10_code 88 = .ok (.ireturn, 1) := by decide +kernel
def F_Vwm_index_88 (σ : Sg) (s0 : Int32) : Option (Sg × Int32) := some (σ, s0)
set_option maxRecDepth 10000 in
set_option maxHeartbeats 4000000 in
theorem bt_Vwm_index_88 {p : Program} {l : Launch} {e : Env} {R : Room} {s : State} {m : MethodId} {args : Array Value} {below : List Frame} {meth : Method} {c : Code} {D : va_G} {τ : ClassId × ClassId × ClassId} {B : Nat} {A : Nat → Prop} {ad : Nat → Nat} (E : Cx p R s m args meth c prog_20_method_10_code 6 "DrawingMachineModel$VertexWorkModel" 2 D τ B A) (hret : meth.sig.returnType = (some .int)) (o : Sg × Int32) (σ : Sg) (s0 : Int32) (h : F_Vwm_index_88 σ s0 = some o) {H : Heap} {locs : List Loc} {ls : Array Slot} (w : Wd s D A (wdM τ σ ad) H locs) (hl : lv_has ls 6 []) : W p l e R s m args below meth c H locs 0 0 (QI below args s A D τ (wdM τ o.1 ad) o.2) (F0 m 88 ls [.int s0]) := by
  obtain rfl := Option.some.inj h
  exact rt_i E w hret d_Vwm_index_88
def F_Vwm_index_23 (σ : Sg) (v1 : Int32) (v2 : Int32) (v3 : Int32) (s1 : Int32) : Option (Sg × Int32) := bd (F_Vwm_refuse σ s1 0) (fun o6 => if o6.2 = 0 then (if v1 = 0 then (bd (F_Vwm_wordAt o6.1 (v2.toInt64 + v3.toInt64)) (fun o9 => F_Vwm_index_88 o6.1 o9)) else (if v1 = 1 then (bd (F_Vwm_halfAt o6.1 (v2.toInt64 + ((v3 / 2).toInt64)) (irem v3 2)) (fun o8 => F_Vwm_index_88 o6.1 o8)) else (bd (F_Vwm_byteAt o6.1 (v2.toInt64 + ((v3 / 4).toInt64)) (irem v3 4)) (fun o7 => F_Vwm_index_88 o6.1 o7)))) else (some (o6.1, 0)))
set_option maxRecDepth 10000 in
set_option maxHeartbeats 4000000 in
theorem bt_Vwm_index_23 {p : Program} {l : Launch} {e : Env} {R : Room} {s : State} {m : MethodId} {args : Array Value} {below : List Frame} {meth : Method} {c : Code} {D : va_G} {τ : ClassId × ClassId × ClassId} {B : Nat} {A : Nat → Prop} {ad : Nat → Nat} (E : Cx p R s m args meth c prog_20_method_10_code 6 "DrawingMachineModel$VertexWorkModel" 2 D τ B A) (hret : meth.sig.returnType = (some .int)) (o : Sg × Int32) (σ : Sg) (v1 : Int32) (v2 : Int32) (v3 : Int32) (s1 : Int32) (h : F_Vwm_index_23 σ v1 v2 v3 s1 = some o) {H : Heap} {locs : List Loc} {ls : Array Slot} (w : Wd s D A (wdM τ σ ad) H locs) (hl : lv_has ls 6 [(0, .ref (ad 62)), (1, .int v1), (2, .int v2), (3, .int v3)]) : W p l e R s m args below meth c H locs 0 0 (QI below args s A D τ (wdM τ o.1 ad) o.2) (F0 m 23 ls [.int s1, .ref (ad 62)]) := by
  refine lv_iconst (v := 0) E.x E.b d_Vwm_index_23 (by decide) ?_
  obtain ⟨o6, h_o6, h⟩ := bd_some h
  refine clV_Vwm_refuse E w (x0 := s1) (x1 := 0) h_o6 k2028 (by decide) hl.1 (Nat.le_of_ble_eq_true rfl) d_Vwm_index_24 (fun H locs w => ?_)
  refine lv_if_eq (tgt := 32) E.x E.b d_Vwm_index_27 (by decide) (fun c => ?_) (fun c => ?_)
  ·
    replace h := ifT c h
    refine lv_iload_n E.x E.b d_Vwm_index_32 rfl (lv_at hl 2 rfl) ?_
    refine lv_i2l (v := v2.toInt64) E.x E.b d_Vwm_index_33 rfl ?_
    refine lv_lstore (lv' := [(4, .long v2.toInt64), (0, .ref (ad 62)), (1, .int v1), (2, .int v2), (3, .int v3)]) E.x E.b d_Vwm_index_34 hl (by decide) rfl (fun ls hl => ?_)
    refine lv_iload_n E.x E.b d_Vwm_index_36 rfl (lv_at hl 2 rfl) ?_
    refine lv_if_ne (tgt := 52) E.x E.b d_Vwm_index_37 (by decide) (fun c => ?_) (fun c => ?_)
    ·
      replace h := ifF c h
      refine lv_iload_n E.x E.b d_Vwm_index_52 rfl (lv_at hl 2 rfl) ?_
      refine lv_iconst (v := 1) E.x E.b d_Vwm_index_53 (by decide) ?_
      refine lv_icmp_ne (tgt := 74) E.x E.b d_Vwm_index_54 (by decide) (fun c => ?_) (fun c => ?_)
      ·
        replace h := ifF c h
        refine lv_aload_n E.x E.b d_Vwm_index_74 rfl (lv_at hl 1 rfl) ?_
        refine lv_lload E.x E.b d_Vwm_index_75 (lv_at hl 0 rfl) ?_
        refine lv_iload_n E.x E.b d_Vwm_index_77 rfl (lv_at hl 4 rfl) ?_
        refine lv_iconst (v := 4) E.x E.b d_Vwm_index_78 (by decide) ?_
        refine lv_idiv E.x E.b d_Vwm_index_79 (by decide) ?_
        refine lv_i2l (v := (v3 / 4).toInt64) E.x E.b d_Vwm_index_80 rfl ?_
        refine lv_ladd E.x E.b d_Vwm_index_81 ?_
        refine lv_iload_n E.x E.b d_Vwm_index_82 rfl (lv_at hl 4 rfl) ?_
        refine lv_iconst (v := 4) E.x E.b d_Vwm_index_83 (by decide) ?_
        refine lv_irem E.x E.b d_Vwm_index_84 (by decide) ?_
        refine wi_e (v := irem v3 4) rfl ?_
        obtain ⟨o7, h_o7, h⟩ := bd_some h
        refine clV_Vwm_byteAt E w (x0 := (v2.toInt64 + ((v3 / 4).toInt64))) (x1 := (irem v3 4)) h_o7 k2185 (by decide) hl.1 (Nat.le_of_ble_eq_true rfl) d_Vwm_index_85 (fun H locs w => ?_)
        exact bt_Vwm_index_88 E hret o o6.1 o7 h w (lv_sub hl [] rfl)
      ·
        replace h := ifT c h
        refine lv_aload_n E.x E.b d_Vwm_index_57 rfl (lv_at hl 1 rfl) ?_
        refine lv_lload E.x E.b d_Vwm_index_58 (lv_at hl 0 rfl) ?_
        refine lv_iload_n E.x E.b d_Vwm_index_60 rfl (lv_at hl 4 rfl) ?_
        refine lv_iconst (v := 2) E.x E.b d_Vwm_index_61 (by decide) ?_
        refine lv_idiv E.x E.b d_Vwm_index_62 (by decide) ?_
        refine lv_i2l (v := (v3 / 2).toInt64) E.x E.b d_Vwm_index_63 rfl ?_
        refine lv_ladd E.x E.b d_Vwm_index_64 ?_
        refine lv_iload_n E.x E.b d_Vwm_index_65 rfl (lv_at hl 4 rfl) ?_
        refine lv_iconst (v := 2) E.x E.b d_Vwm_index_66 (by decide) ?_
        refine lv_irem E.x E.b d_Vwm_index_67 (by decide) ?_
        refine wi_e (v := irem v3 2) rfl ?_
        obtain ⟨o8, h_o8, h⟩ := bd_some h
        refine clV_Vwm_halfAt E w (x0 := (v2.toInt64 + ((v3 / 2).toInt64))) (x1 := (irem v3 2)) h_o8 k2180 (by decide) hl.1 (Nat.le_of_ble_eq_true rfl) d_Vwm_index_68 (fun H locs w => ?_)
        refine lv_goto (tgt := 88) E.x E.b d_Vwm_index_71 (by decide) ?_
        exact bt_Vwm_index_88 E hret o o6.1 o8 h w (lv_sub hl [] rfl)
    ·
      replace h := ifT c h
      refine lv_aload_n E.x E.b d_Vwm_index_40 rfl (lv_at hl 1 rfl) ?_
      refine lv_lload E.x E.b d_Vwm_index_41 (lv_at hl 0 rfl) ?_
      refine lv_iload_n E.x E.b d_Vwm_index_43 rfl (lv_at hl 4 rfl) ?_
      refine lv_i2l (v := v3.toInt64) E.x E.b d_Vwm_index_44 rfl ?_
      refine lv_ladd E.x E.b d_Vwm_index_45 ?_
      obtain ⟨o9, h_o9, h⟩ := bd_some h
      refine clV_Vwm_wordAt E w (x0 := (v2.toInt64 + v3.toInt64)) h_o9 k2175 (by decide) hl.1 (Nat.le_of_ble_eq_true rfl) d_Vwm_index_46 (fun H locs w => ?_)
      refine lv_goto (tgt := 88) E.x E.b d_Vwm_index_49 (by decide) ?_
      exact bt_Vwm_index_88 E hret o o6.1 o9 h w (lv_sub hl [] rfl)
  ·
    replace h := ifF c h
    refine lv_iconst (v := 0) E.x E.b d_Vwm_index_30 (by decide) ?_
    obtain rfl := Option.some.inj h
    exact rt_i E w hret d_Vwm_index_31
def F_Vwm_index_18 (σ : Sg) (v1 : Int32) (v2 : Int32) (v3 : Int32) : Option (Sg × Int32) := F_Vwm_index_23 σ v1 v2 v3 1
set_option maxRecDepth 10000 in
set_option maxHeartbeats 4000000 in
theorem bt_Vwm_index_18 {p : Program} {l : Launch} {e : Env} {R : Room} {s : State} {m : MethodId} {args : Array Value} {below : List Frame} {meth : Method} {c : Code} {D : va_G} {τ : ClassId × ClassId × ClassId} {B : Nat} {A : Nat → Prop} {ad : Nat → Nat} (E : Cx p R s m args meth c prog_20_method_10_code 6 "DrawingMachineModel$VertexWorkModel" 2 D τ B A) (hret : meth.sig.returnType = (some .int)) (o : Sg × Int32) (σ : Sg) (v1 : Int32) (v2 : Int32) (v3 : Int32) (h : F_Vwm_index_18 σ v1 v2 v3 = some o) {H : Heap} {locs : List Loc} {ls : Array Slot} (w : Wd s D A (wdM τ σ ad) H locs) (hl : lv_has ls 6 [(0, .ref (ad 62)), (1, .int v1), (2, .int v2), (3, .int v3)]) : W p l e R s m args below meth c H locs 0 0 (QI below args s A D τ (wdM τ o.1 ad) o.2) (F0 m 18 ls [.ref (ad 62)]) := by
  refine lv_iconst (v := 1) E.x E.b d_Vwm_index_18 (by decide) ?_
  refine lv_goto (tgt := 23) E.x E.b d_Vwm_index_19 (by decide) ?_
  exact bt_Vwm_index_23 E hret o σ v1 v2 v3 1 h w (lv_sub hl [0, 1, 2, 3] rfl)
def F_Vwm_index (σ : Sg) (x0 : Int32) (x1 : Int32) (x2 : Int32) : Option (Sg × Int32) := if x1 < 0 then (F_Vwm_index_18 σ x0 x1 x2) else (if x2 < 0 then (F_Vwm_index_18 σ x0 x1 x2) else (bd (F_Vwm_in x0 0 2) (fun o10 => if o10 = 0 then (F_Vwm_index_18 σ x0 x1 x2) else (F_Vwm_index_23 σ x0 x1 x2 0))))
set_option maxRecDepth 10000 in
set_option maxHeartbeats 4000000 in
theorem c_Vwm_index (l : Launch) (D : va_G) (τ : ClassId × ClassId × ClassId) (B : Nat) (σ : Sg) (ad : Nat → Nat) (x0 : Int32) (x1 : Int32) (x2 : Int32) (o : Sg × Int32) (h : F_Vwm_index σ x0 x1 x2 = some o) : MI l y_Vwm_index (Cond.code y_Vwm_index prog_20_method_10_code 6 (some .int)) 2 D τ B [.ref (ad 62), .int x0, .int x1, .int x2] (wdM τ σ ad) (wdM τ o.1 ad) o.2 := by
  refine en_i (by decide) (Nat.le_of_ble_eq_true rfl) ?_
  intro p e R s m args below meth c H locs ls A E hret w hl
  have E : Cx p R s m args meth c prog_20_method_10_code 6 "DrawingMachineModel$VertexWorkModel" 2 D τ B A := E
  have hl : lv_has ls 6 [(0, .ref (ad 62)), (1, .int x0), (2, .int x1), (3, .int x2)] := hl
  refine lv_aload_n E.x E.b d_Vwm_index_0 rfl (lv_at hl 0 rfl) ?_
  refine lv_iload_n E.x E.b d_Vwm_index_1 rfl (lv_at hl 2 rfl) ?_
  refine lv_if_lt (tgt := 18) E.x E.b d_Vwm_index_2 (by decide) (fun c => ?_) (fun c => ?_)
  ·
    replace h := ifT c h
    exact bt_Vwm_index_18 E hret o σ x0 x1 x2 h w (lv_sub hl [0, 1, 2, 3] rfl)
  ·
    replace h := ifF c h
    refine lv_iload_n E.x E.b d_Vwm_index_5 rfl (lv_at hl 3 rfl) ?_
    refine lv_if_lt (tgt := 18) E.x E.b d_Vwm_index_6 (by decide) (fun c => ?_) (fun c => ?_)
    ·
      replace h := ifT c h
      exact bt_Vwm_index_18 E hret o σ x0 x1 x2 h w (lv_sub hl [0, 1, 2, 3] rfl)
    ·
      replace h := ifF c h
      refine lv_iload_n E.x E.b d_Vwm_index_9 rfl (lv_at hl 1 rfl) ?_
      refine lv_iconst (v := 0) E.x E.b d_Vwm_index_10 (by decide) ?_
      refine lv_iconst (v := 2) E.x E.b d_Vwm_index_11 (by decide) ?_
      obtain ⟨o10, h_o10, h⟩ := bd_some h
      refine clS_Vwm_in E w (x0 := x0) (x1 := 0) (x2 := 2) h_o10 k2025 (by decide) hl.1 (Nat.le_of_ble_eq_true rfl) d_Vwm_index_12 (fun H locs w => ?_)
      refine lv_if_ne (tgt := 22) E.x E.b d_Vwm_index_15 (by decide) (fun c => ?_) (fun c => ?_)
      ·
        replace h := ifF c h
        refine lv_iconst (v := 0) E.x E.b d_Vwm_index_22 (by decide) ?_
        exact bt_Vwm_index_23 E hret o σ x0 x1 x2 0 h w (lv_sub hl [0, 1, 2, 3] rfl)
      ·
        replace h := ifT c h
        exact bt_Vwm_index_18 E hret o σ x0 x1 x2 h w (lv_sub hl [0, 1, 2, 3] rfl)
theorem clV_Vwm_index {p : Program} {l : Launch} {e : Env} {R : Room} {s : State} {m : MethodId} {args : Array Value} {below : List Frame} {meth : Method} {c : Code} {H : Heap} {locs : List Loc} {Q : State → Prop} {cc : ByteArray} {nL pc lev : Nat} {own : String} {D : va_G} {τ : ClassId × ClassId × ClassId} {B : Nat} {A : Nat → Prop} {σ : Sg} {ad : Nat → Nat} {ls : Array Slot} {rest : List Value} (E : Cx p R s m args meth c cc nL own lev D τ B A) (w : Wd s D A (wdM τ σ ad) H locs) {x0 : Int32} {x1 : Int32} {x2 : Int32} {o : Sg × Int32} (h : F_Vwm_index σ x0 x1 x2 = some o) {index : Nat} (hlk : Cond.methodLink own index y_Vwm_index ∈ tw) (hlev : 2 < lev) (hsz : ls.size = nL) (hr : (rest.map fun v => v.category).sum ≤ 8) (hd : decode cc pc = .ok (.invokevirtual index, 3)) (kk : ∀ (H1 : Heap) (locs1 : List Loc), Wd s D A (wdM τ o.1 ad) H1 locs1 → W p l e R s m args below meth c H1 locs1 0 0 Q (F0 m (pc + 3) ls (.int o.2 :: rest))) : W p l e R s m args below meth c H locs 0 0 Q (F0 m pc ls (.int x2 :: .int x1 :: .int x0 :: .ref (ad 62) :: rest)) :=
  cr_i w E.C (va_runV (As := [.int x0, .int x1, .int x2]) (rest := rest) E.fix (c_Vwm_index l D τ B σ ad x0 x1 x2 o h H.size) (cwV 3 E.w (tw_pre (tw_good k2174) (l := [_, _, _, _]) (List.forall_mem_cons.mpr ⟨hlk, List.forall_mem_cons.mpr ⟨k2172, List.forall_mem_cons.mpr ⟨k2173, List.forall_mem_cons.mpr ⟨k18, fun _ h => absurd h List.not_mem_nil⟩⟩⟩⟩)) rfl rfl rfl (by decide +kernel) (E.rm hlev (by decide))) (wd_preV w E.C [.int x0, .int x1, .int x2] rcM_Vwm rfl) rfl rfl hsz rfl (lv_room hr) hd ⟨Nat.zero_le _, Nat.zero_le _⟩) kk

theorem d_Vwm_tell_0 : decode prog_20_method_15_code 0 = .ok (.aload_n 0, 1) := by decide +kernel
theorem d_Vwm_tell_1 : decode prog_20_method_15_code 1 = .ok (.iload_n 1, 1) := by decide +kernel
theorem d_Vwm_tell_2 : decode prog_20_method_15_code 2 = .ok (.iconst 0, 1) := by decide +kernel
theorem d_Vwm_tell_3 : decode prog_20_method_15_code 3 = .ok (.iconst 2, 1) := by decide +kernel
theorem d_Vwm_tell_4 : decode prog_20_method_15_code 4 = .ok (.invokestatic 38, 3) := by decide +kernel
theorem d_Vwm_tell_7 : decode prog_20_method_15_code 7 = .ok (.ifCond .ne 7, 3) := by decide +kernel
theorem d_Vwm_tell_10 : decode prog_20_method_15_code 10 = .ok (.iconst 1, 1) := by decide +kernel
theorem d_Vwm_tell_11 : decode prog_20_method_15_code 11 = .ok (.goto 4, 3) := by decide +kernel
theorem d_Vwm_tell_14 : decode prog_20_method_15_code 14 = .ok (.iconst 0, 1) := by decide +kernel
theorem d_Vwm_tell_15 : decode prog_20_method_15_code 15 = .ok (.iconst 0, 1) := by decide +kernel
theorem d_Vwm_tell_16 : decode prog_20_method_15_code 16 = .ok (.invokevirtual 42, 3) := by decide +kernel
theorem d_Vwm_tell_19 : decode prog_20_method_15_code 19 = .ok (.ifCond .eq 4, 3) := by decide +kernel
theorem d_Vwm_tell_22 : decode prog_20_method_15_code 22 = .ok (.return_, 1) := by decide +kernel
theorem d_Vwm_tell_23 : decode prog_20_method_15_code 23 = .ok (.aload_n 0, 1) := by decide +kernel
theorem d_Vwm_tell_24 : decode prog_20_method_15_code 24 = .ok (.getfield 13, 3) := by decide +kernel
theorem d_Vwm_tell_27 : decode prog_20_method_15_code 27 = .ok (.bipush 32, 2) := by decide +kernel
theorem d_Vwm_tell_29 : decode prog_20_method_15_code 29 = .ok (.iload_n 1, 1) := by decide +kernel
theorem d_Vwm_tell_30 : decode prog_20_method_15_code 30 = .ok (.imul, 1) := by decide +kernel
theorem d_Vwm_tell_31 : decode prog_20_method_15_code 31 = .ok (.iload_n 2, 1) := by decide +kernel
theorem d_Vwm_tell_32 : decode prog_20_method_15_code 32 = .ok (.iadd, 1) := by decide +kernel
theorem d_Vwm_tell_33 : decode prog_20_method_15_code 33 = .ok (.iload_n 3, 1) := by decide +kernel
theorem d_Vwm_tell_34 : decode prog_20_method_15_code 34 = .ok (.iastore, 1) := by decide +kernel
theorem d_Vwm_tell_35 : decode prog_20_method_15_code 35 = .ok (.aload_n 0, 1) := by decide +kernel
theorem d_Vwm_tell_36 : decode prog_20_method_15_code 36 = .ok (.getfield 13, 3) := by decide +kernel
theorem d_Vwm_tell_39 : decode prog_20_method_15_code 39 = .ok (.bipush 32, 2) := by decide +kernel
theorem d_Vwm_tell_41 : decode prog_20_method_15_code 41 = .ok (.iload_n 1, 1) := by decide +kernel
theorem d_Vwm_tell_42 : decode prog_20_method_15_code 42 = .ok (.imul, 1) := by decide +kernel
theorem d_Vwm_tell_43 : decode prog_20_method_15_code 43 = .ok (.iload_n 2, 1) := by decide +kernel
theorem d_Vwm_tell_44 : decode prog_20_method_15_code 44 = .ok (.iadd, 1) := by decide +kernel
theorem d_Vwm_tell_45 : decode prog_20_method_15_code 45 = .ok (.iconst 1, 1) := by decide +kernel
theorem d_Vwm_tell_46 : decode prog_20_method_15_code 46 = .ok (.iadd, 1) := by decide +kernel
theorem d_Vwm_tell_47 : decode prog_20_method_15_code 47 = .ok (.iload 4, 2) := by decide +kernel
theorem d_Vwm_tell_49 : decode prog_20_method_15_code 49 = .ok (.iastore, 1) := by decide +kernel
theorem d_Vwm_tell_50 : decode prog_20_method_15_code 50 = .ok (.aload_n 0, 1) := by decide +kernel
theorem d_Vwm_tell_51 : decode prog_20_method_15_code 51 = .ok (.getfield 13, 3) := by decide +kernel
theorem d_Vwm_tell_54 : decode prog_20_method_15_code 54 = .ok (.bipush 32, 2) := by decide +kernel
theorem d_Vwm_tell_56 : decode prog_20_method_15_code 56 = .ok (.iload_n 1, 1) := by decide +kernel
theorem d_Vwm_tell_57 : decode prog_20_method_15_code 57 = .ok (.imul, 1) := by decide +kernel
theorem d_Vwm_tell_58 : decode prog_20_method_15_code 58 = .ok (.iload_n 2, 1) := by decide +kernel
theorem d_Vwm_tell_59 : decode prog_20_method_15_code 59 = .ok (.iadd, 1) := by decide +kernel
theorem d_Vwm_tell_60 : decode prog_20_method_15_code 60 = .ok (.iconst 2, 1) := by decide +kernel
theorem d_Vwm_tell_61 : decode prog_20_method_15_code 61 = .ok (.iadd, 1) := by decide +kernel
theorem d_Vwm_tell_62 : decode prog_20_method_15_code 62 = .ok (.iload 5, 2) := by decide +kernel
theorem d_Vwm_tell_64 : decode prog_20_method_15_code 64 = .ok (.iastore, 1) := by decide +kernel
theorem d_Vwm_tell_65 : decode prog_20_method_15_code 65 = .ok (.aload_n 0, 1) := by decide +kernel
theorem d_Vwm_tell_66 : decode prog_20_method_15_code 66 = .ok (.getfield 13, 3) := by decide +kernel
theorem d_Vwm_tell_69 : decode prog_20_method_15_code 69 = .ok (.bipush 32, 2) := by decide +kernel
theorem d_Vwm_tell_71 : decode prog_20_method_15_code 71 = .ok (.iload_n 1, 1) := by decide +kernel
theorem d_Vwm_tell_72 : decode prog_20_method_15_code 72 = .ok (.imul, 1) := by decide +kernel
theorem d_Vwm_tell_73 : decode prog_20_method_15_code 73 = .ok (.iload_n 2, 1) := by decide +kernel
theorem d_Vwm_tell_74 : decode prog_20_method_15_code 74 = .ok (.iadd, 1) := by decide +kernel
theorem d_Vwm_tell_75 : decode prog_20_method_15_code 75 = .ok (.iconst 3, 1) := by decide +kernel
theorem d_Vwm_tell_76 : decode prog_20_method_15_code 76 = .ok (.iadd, 1) := by decide +kernel
theorem d_Vwm_tell_77 : decode prog_20_method_15_code 77 = .ok (.iload 6, 2) := by decide +kernel
theorem d_Vwm_tell_79 : decode prog_20_method_15_code 79 = .ok (.iastore, 1) := by decide +kernel
theorem d_Vwm_tell_80 : decode prog_20_method_15_code 80 = .ok (.aload_n 0, 1) := by decide +kernel
theorem d_Vwm_tell_81 : decode prog_20_method_15_code 81 = .ok (.iconst 0, 1) := by decide +kernel
theorem d_Vwm_tell_82 : decode prog_20_method_15_code 82 = .ok (.putfield 64, 3) := by decide +kernel
theorem d_Vwm_tell_85 : decode prog_20_method_15_code 85 = .ok (.return_, 1) := by decide +kernel
def F_Vwm_tell_15 (σ : Sg) (v1 : Int32) (v2 : Int32) (v3 : Int32) (v4 : Int32) (v5 : Int32) (v6 : Int32) (s1 : Int32) : Option (Sg) := bd (F_Vwm_refuse σ s1 0) (fun o12 => if o12.2 = 0 then (ck (inb ((32 * v1) + v2) 96) (lt (sA o12.1 35 (upd (o12.1.2.2.1 35) ((32 * v1) + v2).toNatClampNeg v3)) (fun σ14 => ck (inb (((32 * v1) + v2) + 1) 96) (lt (sA σ14 35 (upd (σ14.2.2.1 35) (((32 * v1) + v2) + 1).toNatClampNeg v4)) (fun σ16 => ck (inb (((32 * v1) + v2) + 2) 96) (lt (sA σ16 35 (upd (σ16.2.2.1 35) (((32 * v1) + v2) + 2).toNatClampNeg v5)) (fun σ18 => ck (inb (((32 * v1) + v2) + 3) 96) (lt (sA σ18 35 (upd (σ18.2.2.1 35) (((32 * v1) + v2) + 3).toNatClampNeg v6)) (fun σ20 => lt (sI σ20 26 0) (fun σ21 => some σ21)))))))))) else (some o12.1))
set_option maxRecDepth 10000 in
set_option maxHeartbeats 4000000 in
theorem bt_Vwm_tell_15 {p : Program} {l : Launch} {e : Env} {R : Room} {s : State} {m : MethodId} {args : Array Value} {below : List Frame} {meth : Method} {c : Code} {D : va_G} {τ : ClassId × ClassId × ClassId} {B : Nat} {A : Nat → Prop} {ad : Nat → Nat} (E : Cx p R s m args meth c prog_20_method_15_code 7 "DrawingMachineModel$VertexWorkModel" 1 D τ B A) (hret : meth.sig.returnType = none) (o : Sg) (σ : Sg) (v1 : Int32) (v2 : Int32) (v3 : Int32) (v4 : Int32) (v5 : Int32) (v6 : Int32) (s1 : Int32) (h : F_Vwm_tell_15 σ v1 v2 v3 v4 v5 v6 s1 = some o) {H : Heap} {locs : List Loc} {ls : Array Slot} (w : Wd s D A (wdM τ σ ad) H locs) (hl : lv_has ls 7 [(0, .ref (ad 62)), (1, .int v1), (2, .int v2), (3, .int v3), (4, .int v4), (5, .int v5), (6, .int v6)]) : W p l e R s m args below meth c H locs 0 0 (QV below args s A D τ (wdM τ o ad)) (F0 m 15 ls [.int s1, .ref (ad 62)]) := by
  refine lv_iconst (v := 0) E.x E.b d_Vwm_tell_15 (by decide) ?_
  obtain ⟨o12, h_o12, h⟩ := bd_some h
  refine clV_Vwm_refuse E w (x0 := s1) (x1 := 0) h_o12 k2028 (by decide) hl.1 (Nat.le_of_ble_eq_true rfl) d_Vwm_tell_16 (fun H locs w => ?_)
  refine lv_if_eq (tgt := 23) E.x E.b d_Vwm_tell_19 (by decide) (fun c => ?_) (fun c => ?_)
  ·
    replace h := ifT c h
    refine lv_aload_n E.x E.b d_Vwm_tell_23 rfl (lv_at hl 0 rfl) ?_
    refine gM_Vwm_corners E w k1624 d_Vwm_tell_24 ?_
    refine lv_bipush (v := 32) E.x E.b d_Vwm_tell_27 (by decide) ?_
    refine lv_iload_n E.x E.b d_Vwm_tell_29 rfl (lv_at hl 1 rfl) ?_
    refine lv_imul E.x E.b d_Vwm_tell_30 ?_
    refine lv_iload_n E.x E.b d_Vwm_tell_31 rfl (lv_at hl 2 rfl) ?_
    refine lv_iadd E.x E.b d_Vwm_tell_32 ?_
    refine lv_iload_n E.x E.b d_Vwm_tell_33 rfl (lv_at hl 3 rfl) ?_
    obtain ⟨c13, h⟩ := ck_some h
    obtain ⟨σ14, e_σ14, h⟩ := lt_some h
    refine iasM E w (k := 35) (by decide) c13 e_σ14 d_Vwm_tell_34 (fun H locs w => ?_)
    refine lv_aload_n E.x E.b d_Vwm_tell_35 rfl (lv_at hl 0 rfl) ?_
    refine gM_Vwm_corners E w k1624 d_Vwm_tell_36 ?_
    refine lv_bipush (v := 32) E.x E.b d_Vwm_tell_39 (by decide) ?_
    refine lv_iload_n E.x E.b d_Vwm_tell_41 rfl (lv_at hl 1 rfl) ?_
    refine lv_imul E.x E.b d_Vwm_tell_42 ?_
    refine lv_iload_n E.x E.b d_Vwm_tell_43 rfl (lv_at hl 2 rfl) ?_
    refine lv_iadd E.x E.b d_Vwm_tell_44 ?_
    refine lv_iconst (v := 1) E.x E.b d_Vwm_tell_45 (by decide) ?_
    refine lv_iadd E.x E.b d_Vwm_tell_46 ?_
    refine lv_iload E.x E.b d_Vwm_tell_47 (lv_at hl 4 rfl) ?_
    obtain ⟨c15, h⟩ := ck_some h
    obtain ⟨σ16, e_σ16, h⟩ := lt_some h
    refine iasM E w (k := 35) (by decide) c15 e_σ16 d_Vwm_tell_49 (fun H locs w => ?_)
    refine lv_aload_n E.x E.b d_Vwm_tell_50 rfl (lv_at hl 0 rfl) ?_
    refine gM_Vwm_corners E w k1624 d_Vwm_tell_51 ?_
    refine lv_bipush (v := 32) E.x E.b d_Vwm_tell_54 (by decide) ?_
    refine lv_iload_n E.x E.b d_Vwm_tell_56 rfl (lv_at hl 1 rfl) ?_
    refine lv_imul E.x E.b d_Vwm_tell_57 ?_
    refine lv_iload_n E.x E.b d_Vwm_tell_58 rfl (lv_at hl 2 rfl) ?_
    refine lv_iadd E.x E.b d_Vwm_tell_59 ?_
    refine lv_iconst (v := 2) E.x E.b d_Vwm_tell_60 (by decide) ?_
    refine lv_iadd E.x E.b d_Vwm_tell_61 ?_
    refine lv_iload E.x E.b d_Vwm_tell_62 (lv_at hl 5 rfl) ?_
    obtain ⟨c17, h⟩ := ck_some h
    obtain ⟨σ18, e_σ18, h⟩ := lt_some h
    refine iasM E w (k := 35) (by decide) c17 e_σ18 d_Vwm_tell_64 (fun H locs w => ?_)
    refine lv_aload_n E.x E.b d_Vwm_tell_65 rfl (lv_at hl 0 rfl) ?_
    refine gM_Vwm_corners E w k1624 d_Vwm_tell_66 ?_
    refine lv_bipush (v := 32) E.x E.b d_Vwm_tell_69 (by decide) ?_
    refine lv_iload_n E.x E.b d_Vwm_tell_71 rfl (lv_at hl 1 rfl) ?_
    refine lv_imul E.x E.b d_Vwm_tell_72 ?_
    refine lv_iload_n E.x E.b d_Vwm_tell_73 rfl (lv_at hl 2 rfl) ?_
    refine lv_iadd E.x E.b d_Vwm_tell_74 ?_
    refine lv_iconst (v := 3) E.x E.b d_Vwm_tell_75 (by decide) ?_
    refine lv_iadd E.x E.b d_Vwm_tell_76 ?_
    refine lv_iload E.x E.b d_Vwm_tell_77 (lv_at hl 6 rfl) ?_
    obtain ⟨c19, h⟩ := ck_some h
    obtain ⟨σ20, e_σ20, h⟩ := lt_some h
    refine iasM E w (k := 35) (by decide) c19 e_σ20 d_Vwm_tell_79 (fun H locs w => ?_)
    refine lv_aload_n E.x E.b d_Vwm_tell_80 rfl (lv_at hl 0 rfl) ?_
    refine lv_iconst (v := 0) E.x E.b d_Vwm_tell_81 (by decide) ?_
    obtain ⟨σ21, e_σ21, h⟩ := lt_some h
    refine pM_Vwm_made E w k1632 e_σ21 d_Vwm_tell_82 (fun H locs w => ?_)
    obtain rfl := Option.some.inj h
    exact rt_v E w hret d_Vwm_tell_85
  ·
    replace h := ifF c h
    obtain rfl := Option.some.inj h
    exact rt_v E w hret d_Vwm_tell_22
def F_Vwm_tell (σ : Sg) (x0 : Int32) (x1 : Int32) (x2 : Int32) (x3 : Int32) (x4 : Int32) (x5 : Int32) : Option (Sg) := bd (F_Vwm_in x0 0 2) (fun o22 => if o22 = 0 then (F_Vwm_tell_15 σ x0 x1 x2 x3 x4 x5 1) else (F_Vwm_tell_15 σ x0 x1 x2 x3 x4 x5 0))
set_option maxRecDepth 10000 in
set_option maxHeartbeats 4000000 in
theorem c_Vwm_tell (l : Launch) (D : va_G) (τ : ClassId × ClassId × ClassId) (B : Nat) (σ : Sg) (ad : Nat → Nat) (x0 : Int32) (x1 : Int32) (x2 : Int32) (x3 : Int32) (x4 : Int32) (x5 : Int32) (o : Sg) (h : F_Vwm_tell σ x0 x1 x2 x3 x4 x5 = some o) : MV l y_Vwm_tell (Cond.code y_Vwm_tell prog_20_method_15_code 7 none) 1 D τ B [.ref (ad 62), .int x0, .int x1, .int x2, .int x3, .int x4, .int x5] (wdM τ σ ad) (wdM τ o ad) := by
  refine en_v (by decide) (Nat.le_of_ble_eq_true rfl) ?_
  intro p e R s m args below meth c H locs ls A E hret w hl
  have E : Cx p R s m args meth c prog_20_method_15_code 7 "DrawingMachineModel$VertexWorkModel" 1 D τ B A := E
  have hl : lv_has ls 7 [(0, .ref (ad 62)), (1, .int x0), (2, .int x1), (3, .int x2), (4, .int x3), (5, .int x4), (6, .int x5)] := hl
  refine lv_aload_n E.x E.b d_Vwm_tell_0 rfl (lv_at hl 0 rfl) ?_
  refine lv_iload_n E.x E.b d_Vwm_tell_1 rfl (lv_at hl 1 rfl) ?_
  refine lv_iconst (v := 0) E.x E.b d_Vwm_tell_2 (by decide) ?_
  refine lv_iconst (v := 2) E.x E.b d_Vwm_tell_3 (by decide) ?_
  obtain ⟨o22, h_o22, h⟩ := bd_some h
  refine clS_Vwm_in E w (x0 := x0) (x1 := 0) (x2 := 2) h_o22 k2025 (by decide) hl.1 (Nat.le_of_ble_eq_true rfl) d_Vwm_tell_4 (fun H locs w => ?_)
  refine lv_if_ne (tgt := 14) E.x E.b d_Vwm_tell_7 (by decide) (fun c => ?_) (fun c => ?_)
  ·
    replace h := ifF c h
    refine lv_iconst (v := 0) E.x E.b d_Vwm_tell_14 (by decide) ?_
    exact bt_Vwm_tell_15 E hret o σ x0 x1 x2 x3 x4 x5 0 h w (lv_sub hl [0, 1, 2, 3, 4, 5, 6] rfl)
  ·
    replace h := ifT c h
    refine lv_iconst (v := 1) E.x E.b d_Vwm_tell_10 (by decide) ?_
    refine lv_goto (tgt := 15) E.x E.b d_Vwm_tell_11 (by decide) ?_
    exact bt_Vwm_tell_15 E hret o σ x0 x1 x2 x3 x4 x5 1 h w (lv_sub hl [0, 1, 2, 3, 4, 5, 6] rfl)
theorem clV_Vwm_tell {p : Program} {l : Launch} {e : Env} {R : Room} {s : State} {m : MethodId} {args : Array Value} {below : List Frame} {meth : Method} {c : Code} {H : Heap} {locs : List Loc} {Q : State → Prop} {cc : ByteArray} {nL pc lev : Nat} {own : String} {D : va_G} {τ : ClassId × ClassId × ClassId} {B : Nat} {A : Nat → Prop} {σ : Sg} {ad : Nat → Nat} {ls : Array Slot} {rest : List Value} (E : Cx p R s m args meth c cc nL own lev D τ B A) (w : Wd s D A (wdM τ σ ad) H locs) {x0 : Int32} {x1 : Int32} {x2 : Int32} {x3 : Int32} {x4 : Int32} {x5 : Int32} {o : Sg} (h : F_Vwm_tell σ x0 x1 x2 x3 x4 x5 = some o) {index : Nat} (hlk : Cond.methodLink own index y_Vwm_tell ∈ tw) (hlev : 1 < lev) (hsz : ls.size = nL) (hr : (rest.map fun v => v.category).sum ≤ 8) (hd : decode cc pc = .ok (.invokevirtual index, 3)) (kk : ∀ (H1 : Heap) (locs1 : List Loc), Wd s D A (wdM τ o ad) H1 locs1 → W p l e R s m args below meth c H1 locs1 0 0 Q (F0 m (pc + 3) ls (rest))) : W p l e R s m args below meth c H locs 0 0 Q (F0 m pc ls (.int x5 :: .int x4 :: .int x3 :: .int x2 :: .int x1 :: .int x0 :: .ref (ad 62) :: rest)) :=
  cr_v w E.C (va_runV (As := [.int x0, .int x1, .int x2, .int x3, .int x4, .int x5]) (rest := rest) E.fix (c_Vwm_tell l D τ B σ ad x0 x1 x2 x3 x4 x5 o h H.size) (cwV 6 E.w (tw_pre (tw_good k2312) (l := [_, _, _, _]) (List.forall_mem_cons.mpr ⟨hlk, List.forall_mem_cons.mpr ⟨k2311, List.forall_mem_cons.mpr ⟨ks94, List.forall_mem_cons.mpr ⟨k18, fun _ h => absurd h List.not_mem_nil⟩⟩⟩⟩)) rfl rfl rfl (by decide +kernel) (E.rm hlev (by decide))) (wd_preV w E.C [.int x0, .int x1, .int x2, .int x3, .int x4, .int x5] rcM_Vwm rfl) rfl rfl hsz rfl (lv_room hr) hd ⟨Nat.zero_le _, Nat.zero_le _⟩) kk

theorem d_Vwm_place_0 : decode prog_20_method_13_code 0 = .ok (.aload_n 0, 1) := by decide +kernel
theorem d_Vwm_place_1 : decode prog_20_method_13_code 1 = .ok (.iload_n 1, 1) := by decide +kernel
theorem d_Vwm_place_2 : decode prog_20_method_13_code 2 = .ok (.iconst 0, 1) := by decide +kernel
theorem d_Vwm_place_3 : decode prog_20_method_13_code 3 = .ok (.iload_n 2, 1) := by decide +kernel
theorem d_Vwm_place_4 : decode prog_20_method_13_code 4 = .ok (.iload_n 3, 1) := by decide +kernel
theorem d_Vwm_place_5 : decode prog_20_method_13_code 5 = .ok (.iload 4, 2) := by decide +kernel
theorem d_Vwm_place_7 : decode prog_20_method_13_code 7 = .ok (.iload 5, 2) := by decide +kernel
theorem d_Vwm_place_9 : decode prog_20_method_13_code 9 = .ok (.invokevirtual 60, 3) := by decide +kernel
theorem d_Vwm_place_12 : decode prog_20_method_13_code 12 = .ok (.return_, 1) := by decide +kernel
def F_Vwm_place (σ : Sg) (x0 : Int32) (x1 : Int32) (x2 : Int32) (x3 : Int32) (x4 : Int32) : Option (Sg) := bd (F_Vwm_tell σ x0 0 x1 x2 x3 x4) (fun o2 => some o2)
set_option maxRecDepth 10000 in
set_option maxHeartbeats 4000000 in
theorem c_Vwm_place (l : Launch) (D : va_G) (τ : ClassId × ClassId × ClassId) (B : Nat) (σ : Sg) (ad : Nat → Nat) (x0 : Int32) (x1 : Int32) (x2 : Int32) (x3 : Int32) (x4 : Int32) (o : Sg) (h : F_Vwm_place σ x0 x1 x2 x3 x4 = some o) : MV l y_Vwm_place (Cond.code y_Vwm_place prog_20_method_13_code 6 none) 2 D τ B [.ref (ad 62), .int x0, .int x1, .int x2, .int x3, .int x4] (wdM τ σ ad) (wdM τ o ad) := by
  refine en_v (by decide) (Nat.le_of_ble_eq_true rfl) ?_
  intro p e R s m args below meth c H locs ls A E hret w hl
  have E : Cx p R s m args meth c prog_20_method_13_code 6 "DrawingMachineModel$VertexWorkModel" 2 D τ B A := E
  have hl : lv_has ls 6 [(0, .ref (ad 62)), (1, .int x0), (2, .int x1), (3, .int x2), (4, .int x3), (5, .int x4)] := hl
  refine lv_aload_n E.x E.b d_Vwm_place_0 rfl (lv_at hl 0 rfl) ?_
  refine lv_iload_n E.x E.b d_Vwm_place_1 rfl (lv_at hl 1 rfl) ?_
  refine lv_iconst (v := 0) E.x E.b d_Vwm_place_2 (by decide) ?_
  refine lv_iload_n E.x E.b d_Vwm_place_3 rfl (lv_at hl 2 rfl) ?_
  refine lv_iload_n E.x E.b d_Vwm_place_4 rfl (lv_at hl 3 rfl) ?_
  refine lv_iload E.x E.b d_Vwm_place_5 (lv_at hl 4 rfl) ?_
  refine lv_iload E.x E.b d_Vwm_place_7 (lv_at hl 5 rfl) ?_
  obtain ⟨o2, h_o2, h⟩ := bd_some h
  refine clV_Vwm_tell E w (x0 := x0) (x1 := 0) (x2 := x1) (x3 := x2) (x4 := x3) (x5 := x4) h_o2 k2309 (by decide) hl.1 (Nat.le_of_ble_eq_true rfl) d_Vwm_place_9 (fun H locs w => ?_)
  obtain rfl := Option.some.inj h
  exact rt_v E w hret d_Vwm_place_12
theorem clV_Vwm_place {p : Program} {l : Launch} {e : Env} {R : Room} {s : State} {m : MethodId} {args : Array Value} {below : List Frame} {meth : Method} {c : Code} {H : Heap} {locs : List Loc} {Q : State → Prop} {cc : ByteArray} {nL pc lev : Nat} {own : String} {D : va_G} {τ : ClassId × ClassId × ClassId} {B : Nat} {A : Nat → Prop} {σ : Sg} {ad : Nat → Nat} {ls : Array Slot} {rest : List Value} (E : Cx p R s m args meth c cc nL own lev D τ B A) (w : Wd s D A (wdM τ σ ad) H locs) {x0 : Int32} {x1 : Int32} {x2 : Int32} {x3 : Int32} {x4 : Int32} {o : Sg} (h : F_Vwm_place σ x0 x1 x2 x3 x4 = some o) {index : Nat} (hlk : Cond.methodLink own index y_Vwm_place ∈ tw) (hlev : 2 < lev) (hsz : ls.size = nL) (hr : (rest.map fun v => v.category).sum ≤ 8) (hd : decode cc pc = .ok (.invokevirtual index, 3)) (kk : ∀ (H1 : Heap) (locs1 : List Loc), Wd s D A (wdM τ o ad) H1 locs1 → W p l e R s m args below meth c H1 locs1 0 0 Q (F0 m (pc + 3) ls (rest))) : W p l e R s m args below meth c H locs 0 0 Q (F0 m pc ls (.int x4 :: .int x3 :: .int x2 :: .int x1 :: .int x0 :: .ref (ad 62) :: rest)) :=
  cr_v w E.C (va_runV (As := [.int x0, .int x1, .int x2, .int x3, .int x4]) (rest := rest) E.fix (c_Vwm_place l D τ B σ ad x0 x1 x2 x3 x4 o h H.size) (cwV 5 E.w (tw_pre (tw_good k2308) (l := [_, _, _, _]) (List.forall_mem_cons.mpr ⟨hlk, List.forall_mem_cons.mpr ⟨k2306, List.forall_mem_cons.mpr ⟨k2307, List.forall_mem_cons.mpr ⟨k18, fun _ h => absurd h List.not_mem_nil⟩⟩⟩⟩)) rfl rfl rfl (by decide +kernel) (E.rm hlev (by decide))) (wd_preV w E.C [.int x0, .int x1, .int x2, .int x3, .int x4] rcM_Vwm rfl) rfl rfl hsz rfl (lv_room hr) hd ⟨Nat.zero_le _, Nat.zero_le _⟩) kk

theorem d_Vwm_vary_0 : decode prog_20_method_14_code 0 = .ok (.aload_n 0, 1) := by decide +kernel
theorem d_Vwm_vary_1 : decode prog_20_method_14_code 1 = .ok (.iload_n 2, 1) := by decide +kernel
theorem d_Vwm_vary_2 : decode prog_20_method_14_code 2 = .ok (.iconst 0, 1) := by decide +kernel
theorem d_Vwm_vary_3 : decode prog_20_method_14_code 3 = .ok (.bipush 6, 2) := by decide +kernel
theorem d_Vwm_vary_5 : decode prog_20_method_14_code 5 = .ok (.invokestatic 38, 3) := by decide +kernel
theorem d_Vwm_vary_8 : decode prog_20_method_14_code 8 = .ok (.ifCond .ne 7, 3) := by decide +kernel
theorem d_Vwm_vary_11 : decode prog_20_method_14_code 11 = .ok (.iconst 1, 1) := by decide +kernel
theorem d_Vwm_vary_12 : decode prog_20_method_14_code 12 = .ok (.goto 4, 3) := by decide +kernel
theorem d_Vwm_vary_15 : decode prog_20_method_14_code 15 = .ok (.iconst 0, 1) := by decide +kernel
theorem d_Vwm_vary_16 : decode prog_20_method_14_code 16 = .ok (.iconst 0, 1) := by decide +kernel
theorem d_Vwm_vary_17 : decode prog_20_method_14_code 17 = .ok (.invokevirtual 42, 3) := by decide +kernel
theorem d_Vwm_vary_20 : decode prog_20_method_14_code 20 = .ok (.ifCond .ne 20, 3) := by decide +kernel
theorem d_Vwm_vary_23 : decode prog_20_method_14_code 23 = .ok (.aload_n 0, 1) := by decide +kernel
theorem d_Vwm_vary_24 : decode prog_20_method_14_code 24 = .ok (.iload_n 1, 1) := by decide +kernel
theorem d_Vwm_vary_25 : decode prog_20_method_14_code 25 = .ok (.iconst 4, 1) := by decide +kernel
theorem d_Vwm_vary_26 : decode prog_20_method_14_code 26 = .ok (.iconst 4, 1) := by decide +kernel
theorem d_Vwm_vary_27 : decode prog_20_method_14_code 27 = .ok (.iload_n 2, 1) := by decide +kernel
theorem d_Vwm_vary_28 : decode prog_20_method_14_code 28 = .ok (.imul, 1) := by decide +kernel
theorem d_Vwm_vary_29 : decode prog_20_method_14_code 29 = .ok (.iadd, 1) := by decide +kernel
theorem d_Vwm_vary_30 : decode prog_20_method_14_code 30 = .ok (.iload_n 3, 1) := by decide +kernel
theorem d_Vwm_vary_31 : decode prog_20_method_14_code 31 = .ok (.iload 4, 2) := by decide +kernel
theorem d_Vwm_vary_33 : decode prog_20_method_14_code 33 = .ok (.iload 5, 2) := by decide +kernel
theorem d_Vwm_vary_35 : decode prog_20_method_14_code 35 = .ok (.iload 6, 2) := by decide +kernel
theorem d_Vwm_vary_37 : decode prog_20_method_14_code 37 = .ok (.invokevirtual 60, 3) := by decide +kernel
theorem d_Vwm_vary_40 : decode prog_20_method_14_code 40 = .ok (.return_, 1) := by decide +kernel
def F_Vwm_vary_40 (σ : Sg) : Option (Sg) := some σ
set_option maxRecDepth 10000 in
set_option maxHeartbeats 4000000 in
theorem bt_Vwm_vary_40 {p : Program} {l : Launch} {e : Env} {R : Room} {s : State} {m : MethodId} {args : Array Value} {below : List Frame} {meth : Method} {c : Code} {D : va_G} {τ : ClassId × ClassId × ClassId} {B : Nat} {A : Nat → Prop} {ad : Nat → Nat} (E : Cx p R s m args meth c prog_20_method_14_code 7 "DrawingMachineModel$VertexWorkModel" 2 D τ B A) (hret : meth.sig.returnType = none) (o : Sg) (σ : Sg) (h : F_Vwm_vary_40 σ = some o) {H : Heap} {locs : List Loc} {ls : Array Slot} (w : Wd s D A (wdM τ σ ad) H locs) (hl : lv_has ls 7 []) : W p l e R s m args below meth c H locs 0 0 (QV below args s A D τ (wdM τ o ad)) (F0 m 40 ls []) := by
  obtain rfl := Option.some.inj h
  exact rt_v E w hret d_Vwm_vary_40
def F_Vwm_vary_16 (σ : Sg) (v1 : Int32) (v2 : Int32) (v3 : Int32) (v4 : Int32) (v5 : Int32) (v6 : Int32) (s1 : Int32) : Option (Sg) := bd (F_Vwm_refuse σ s1 0) (fun o4 => if o4.2 = 0 then (bd (F_Vwm_tell o4.1 v1 (4 + (4 * v2)) v3 v4 v5 v6) (fun o5 => F_Vwm_vary_40 o5)) else (F_Vwm_vary_40 o4.1))
set_option maxRecDepth 10000 in
set_option maxHeartbeats 4000000 in
theorem bt_Vwm_vary_16 {p : Program} {l : Launch} {e : Env} {R : Room} {s : State} {m : MethodId} {args : Array Value} {below : List Frame} {meth : Method} {c : Code} {D : va_G} {τ : ClassId × ClassId × ClassId} {B : Nat} {A : Nat → Prop} {ad : Nat → Nat} (E : Cx p R s m args meth c prog_20_method_14_code 7 "DrawingMachineModel$VertexWorkModel" 2 D τ B A) (hret : meth.sig.returnType = none) (o : Sg) (σ : Sg) (v1 : Int32) (v2 : Int32) (v3 : Int32) (v4 : Int32) (v5 : Int32) (v6 : Int32) (s1 : Int32) (h : F_Vwm_vary_16 σ v1 v2 v3 v4 v5 v6 s1 = some o) {H : Heap} {locs : List Loc} {ls : Array Slot} (w : Wd s D A (wdM τ σ ad) H locs) (hl : lv_has ls 7 [(0, .ref (ad 62)), (1, .int v1), (2, .int v2), (3, .int v3), (4, .int v4), (5, .int v5), (6, .int v6)]) : W p l e R s m args below meth c H locs 0 0 (QV below args s A D τ (wdM τ o ad)) (F0 m 16 ls [.int s1, .ref (ad 62)]) := by
  refine lv_iconst (v := 0) E.x E.b d_Vwm_vary_16 (by decide) ?_
  obtain ⟨o4, h_o4, h⟩ := bd_some h
  refine clV_Vwm_refuse E w (x0 := s1) (x1 := 0) h_o4 k2028 (by decide) hl.1 (Nat.le_of_ble_eq_true rfl) d_Vwm_vary_17 (fun H locs w => ?_)
  refine lv_if_ne (tgt := 40) E.x E.b d_Vwm_vary_20 (by decide) (fun c => ?_) (fun c => ?_)
  ·
    replace h := ifF c h
    exact bt_Vwm_vary_40 E hret o o4.1 h w (lv_sub hl [] rfl)
  ·
    replace h := ifT c h
    refine lv_aload_n E.x E.b d_Vwm_vary_23 rfl (lv_at hl 0 rfl) ?_
    refine lv_iload_n E.x E.b d_Vwm_vary_24 rfl (lv_at hl 1 rfl) ?_
    refine lv_iconst (v := 4) E.x E.b d_Vwm_vary_25 (by decide) ?_
    refine lv_iconst (v := 4) E.x E.b d_Vwm_vary_26 (by decide) ?_
    refine lv_iload_n E.x E.b d_Vwm_vary_27 rfl (lv_at hl 2 rfl) ?_
    refine lv_imul E.x E.b d_Vwm_vary_28 ?_
    refine lv_iadd E.x E.b d_Vwm_vary_29 ?_
    refine lv_iload_n E.x E.b d_Vwm_vary_30 rfl (lv_at hl 3 rfl) ?_
    refine lv_iload E.x E.b d_Vwm_vary_31 (lv_at hl 4 rfl) ?_
    refine lv_iload E.x E.b d_Vwm_vary_33 (lv_at hl 5 rfl) ?_
    refine lv_iload E.x E.b d_Vwm_vary_35 (lv_at hl 6 rfl) ?_
    obtain ⟨o5, h_o5, h⟩ := bd_some h
    refine clV_Vwm_tell E w (x0 := v1) (x1 := (4 + (4 * v2))) (x2 := v3) (x3 := v4) (x4 := v5) (x5 := v6) h_o5 k2309 (by decide) hl.1 (Nat.le_of_ble_eq_true rfl) d_Vwm_vary_37 (fun H locs w => ?_)
    exact bt_Vwm_vary_40 E hret o o5 h w (lv_sub hl [] rfl)
def F_Vwm_vary (σ : Sg) (x0 : Int32) (x1 : Int32) (x2 : Int32) (x3 : Int32) (x4 : Int32) (x5 : Int32) : Option (Sg) := bd (F_Vwm_in x1 0 6) (fun o6 => if o6 = 0 then (F_Vwm_vary_16 σ x0 x1 x2 x3 x4 x5 1) else (F_Vwm_vary_16 σ x0 x1 x2 x3 x4 x5 0))
set_option maxRecDepth 10000 in
set_option maxHeartbeats 4000000 in
theorem c_Vwm_vary (l : Launch) (D : va_G) (τ : ClassId × ClassId × ClassId) (B : Nat) (σ : Sg) (ad : Nat → Nat) (x0 : Int32) (x1 : Int32) (x2 : Int32) (x3 : Int32) (x4 : Int32) (x5 : Int32) (o : Sg) (h : F_Vwm_vary σ x0 x1 x2 x3 x4 x5 = some o) : MV l y_Vwm_vary (Cond.code y_Vwm_vary prog_20_method_14_code 7 none) 2 D τ B [.ref (ad 62), .int x0, .int x1, .int x2, .int x3, .int x4, .int x5] (wdM τ σ ad) (wdM τ o ad) := by
  refine en_v (by decide) (Nat.le_of_ble_eq_true rfl) ?_
  intro p e R s m args below meth c H locs ls A E hret w hl
  have E : Cx p R s m args meth c prog_20_method_14_code 7 "DrawingMachineModel$VertexWorkModel" 2 D τ B A := E
  have hl : lv_has ls 7 [(0, .ref (ad 62)), (1, .int x0), (2, .int x1), (3, .int x2), (4, .int x3), (5, .int x4), (6, .int x5)] := hl
  refine lv_aload_n E.x E.b d_Vwm_vary_0 rfl (lv_at hl 0 rfl) ?_
  refine lv_iload_n E.x E.b d_Vwm_vary_1 rfl (lv_at hl 2 rfl) ?_
  refine lv_iconst (v := 0) E.x E.b d_Vwm_vary_2 (by decide) ?_
  refine lv_bipush (v := 6) E.x E.b d_Vwm_vary_3 (by decide) ?_
  obtain ⟨o6, h_o6, h⟩ := bd_some h
  refine clS_Vwm_in E w (x0 := x1) (x1 := 0) (x2 := 6) h_o6 k2025 (by decide) hl.1 (Nat.le_of_ble_eq_true rfl) d_Vwm_vary_5 (fun H locs w => ?_)
  refine lv_if_ne (tgt := 15) E.x E.b d_Vwm_vary_8 (by decide) (fun c => ?_) (fun c => ?_)
  ·
    replace h := ifF c h
    refine lv_iconst (v := 0) E.x E.b d_Vwm_vary_15 (by decide) ?_
    exact bt_Vwm_vary_16 E hret o σ x0 x1 x2 x3 x4 x5 0 h w (lv_sub hl [0, 1, 2, 3, 4, 5, 6] rfl)
  ·
    replace h := ifT c h
    refine lv_iconst (v := 1) E.x E.b d_Vwm_vary_11 (by decide) ?_
    refine lv_goto (tgt := 16) E.x E.b d_Vwm_vary_12 (by decide) ?_
    exact bt_Vwm_vary_16 E hret o σ x0 x1 x2 x3 x4 x5 1 h w (lv_sub hl [0, 1, 2, 3, 4, 5, 6] rfl)
theorem clV_Vwm_vary {p : Program} {l : Launch} {e : Env} {R : Room} {s : State} {m : MethodId} {args : Array Value} {below : List Frame} {meth : Method} {c : Code} {H : Heap} {locs : List Loc} {Q : State → Prop} {cc : ByteArray} {nL pc lev : Nat} {own : String} {D : va_G} {τ : ClassId × ClassId × ClassId} {B : Nat} {A : Nat → Prop} {σ : Sg} {ad : Nat → Nat} {ls : Array Slot} {rest : List Value} (E : Cx p R s m args meth c cc nL own lev D τ B A) (w : Wd s D A (wdM τ σ ad) H locs) {x0 : Int32} {x1 : Int32} {x2 : Int32} {x3 : Int32} {x4 : Int32} {x5 : Int32} {o : Sg} (h : F_Vwm_vary σ x0 x1 x2 x3 x4 x5 = some o) {index : Nat} (hlk : Cond.methodLink own index y_Vwm_vary ∈ tw) (hlev : 2 < lev) (hsz : ls.size = nL) (hr : (rest.map fun v => v.category).sum ≤ 8) (hd : decode cc pc = .ok (.invokevirtual index, 3)) (kk : ∀ (H1 : Heap) (locs1 : List Loc), Wd s D A (wdM τ o ad) H1 locs1 → W p l e R s m args below meth c H1 locs1 0 0 Q (F0 m (pc + 3) ls (rest))) : W p l e R s m args below meth c H locs 0 0 Q (F0 m pc ls (.int x5 :: .int x4 :: .int x3 :: .int x2 :: .int x1 :: .int x0 :: .ref (ad 62) :: rest)) :=
  cr_v w E.C (va_runV (As := [.int x0, .int x1, .int x2, .int x3, .int x4, .int x5]) (rest := rest) E.fix (c_Vwm_vary l D τ B σ ad x0 x1 x2 x3 x4 x5 o h H.size) (cwV 6 E.w (tw_pre (tw_good k2316) (l := [_, _, _, _]) (List.forall_mem_cons.mpr ⟨hlk, List.forall_mem_cons.mpr ⟨k2314, List.forall_mem_cons.mpr ⟨k2315, List.forall_mem_cons.mpr ⟨k18, fun _ h => absurd h List.not_mem_nil⟩⟩⟩⟩)) rfl rfl rfl (by decide +kernel) (E.rm hlev (by decide))) (wd_preV w E.C [.int x0, .int x1, .int x2, .int x3, .int x4, .int x5] rcM_Vwm rfl) rfl rfl hsz rfl (lv_room hr) hd ⟨Nat.zero_le _, Nat.zero_le _⟩) kk

theorem d_Mod_corner_0 : decode prog_14_method_20_code 0 = .ok (.aload_n 0, 1) := by decide +kernel
theorem d_Mod_corner_1 : decode prog_14_method_20_code 1 = .ok (.getfield 19, 3) := by decide +kernel
theorem d_Mod_corner_4 : decode prog_14_method_20_code 4 = .ok (.getfield 150, 3) := by decide +kernel
theorem d_Mod_corner_7 : decode prog_14_method_20_code 7 = .ok (.astore 4, 2) := by decide +kernel
theorem d_Mod_corner_9 : decode prog_14_method_20_code 9 = .ok (.iload_n 3, 1) := by decide +kernel
theorem d_Mod_corner_10 : decode prog_14_method_20_code 10 = .ok (.ifCond .eq 27, 3) := by decide +kernel
theorem d_Mod_corner_13 : decode prog_14_method_20_code 13 = .ok (.aload 4, 2) := by decide +kernel
theorem d_Mod_corner_15 : decode prog_14_method_20_code 15 = .ok (.iconst 4, 1) := by decide +kernel
theorem d_Mod_corner_16 : decode prog_14_method_20_code 16 = .ok (.iaload, 1) := by decide +kernel
theorem d_Mod_corner_17 : decode prog_14_method_20_code 17 = .ok (.aload_n 0, 1) := by decide +kernel
theorem d_Mod_corner_18 : decode prog_14_method_20_code 18 = .ok (.getfield 51, 3) := by decide +kernel
theorem d_Mod_corner_21 : decode prog_14_method_20_code 21 = .ok (.aload 4, 2) := by decide +kernel
theorem d_Mod_corner_23 : decode prog_14_method_20_code 23 = .ok (.iconst 3, 1) := by decide +kernel
theorem d_Mod_corner_24 : decode prog_14_method_20_code 24 = .ok (.iaload, 1) := by decide +kernel
theorem d_Mod_corner_25 : decode prog_14_method_20_code 25 = .ok (.aload 4, 2) := by decide +kernel
theorem d_Mod_corner_27 : decode prog_14_method_20_code 27 = .ok (.iconst 1, 1) := by decide +kernel
theorem d_Mod_corner_28 : decode prog_14_method_20_code 28 = .ok (.iaload, 1) := by decide +kernel
theorem d_Mod_corner_29 : decode prog_14_method_20_code 29 = .ok (.iload_n 2, 1) := by decide +kernel
theorem d_Mod_corner_30 : decode prog_14_method_20_code 30 = .ok (.invokevirtual 272, 3) := by decide +kernel
theorem d_Mod_corner_33 : decode prog_14_method_20_code 33 = .ok (.iadd, 1) := by decide +kernel
theorem d_Mod_corner_34 : decode prog_14_method_20_code 34 = .ok (.goto 9, 3) := by decide +kernel
theorem d_Mod_corner_37 : decode prog_14_method_20_code 37 = .ok (.aload 4, 2) := by decide +kernel
theorem d_Mod_corner_39 : decode prog_14_method_20_code 39 = .ok (.iconst 1, 1) := by decide +kernel
theorem d_Mod_corner_40 : decode prog_14_method_20_code 40 = .ok (.iaload, 1) := by decide +kernel
theorem d_Mod_corner_41 : decode prog_14_method_20_code 41 = .ok (.iload_n 2, 1) := by decide +kernel
theorem d_Mod_corner_42 : decode prog_14_method_20_code 42 = .ok (.iadd, 1) := by decide +kernel
theorem d_Mod_corner_43 : decode prog_14_method_20_code 43 = .ok (.istore 5, 2) := by decide +kernel
theorem d_Mod_corner_45 : decode prog_14_method_20_code 45 = .ok (.iconst 0, 1) := by decide +kernel
theorem d_Mod_corner_46 : decode prog_14_method_20_code 46 = .ok (.istore 6, 2) := by decide +kernel
theorem d_Mod_corner_48 : decode prog_14_method_20_code 48 = .ok (.iload 6, 2) := by decide +kernel
theorem d_Mod_corner_50 : decode prog_14_method_20_code 50 = .ok (.bipush 32, 2) := by decide +kernel
theorem d_Mod_corner_52 : decode prog_14_method_20_code 52 = .ok (.if_icmp .ge 36, 3) := by decide +kernel
theorem d_Mod_corner_55 : decode prog_14_method_20_code 55 = .ok (.aload_n 0, 1) := by decide +kernel
theorem d_Mod_corner_56 : decode prog_14_method_20_code 56 = .ok (.getfield 41, 3) := by decide +kernel
theorem d_Mod_corner_59 : decode prog_14_method_20_code 59 = .ok (.getfield 275, 3) := by decide +kernel
theorem d_Mod_corner_62 : decode prog_14_method_20_code 62 = .ok (.iload 6, 2) := by decide +kernel
theorem d_Mod_corner_64 : decode prog_14_method_20_code 64 = .ok (.aload_n 0, 1) := by decide +kernel
theorem d_Mod_corner_65 : decode prog_14_method_20_code 65 = .ok (.getfield 51, 3) := by decide +kernel
theorem d_Mod_corner_68 : decode prog_14_method_20_code 68 = .ok (.iload 6, 2) := by decide +kernel
theorem d_Mod_corner_70 : decode prog_14_method_20_code 70 = .ok (.iconst 4, 1) := by decide +kernel
theorem d_Mod_corner_71 : decode prog_14_method_20_code 71 = .ok (.idiv, 1) := by decide +kernel
theorem d_Mod_corner_72 : decode prog_14_method_20_code 72 = .ok (.iload 5, 2) := by decide +kernel
theorem d_Mod_corner_74 : decode prog_14_method_20_code 74 = .ok (.iload 6, 2) := by decide +kernel
theorem d_Mod_corner_76 : decode prog_14_method_20_code 76 = .ok (.iconst 4, 1) := by decide +kernel
theorem d_Mod_corner_77 : decode prog_14_method_20_code 77 = .ok (.irem, 1) := by decide +kernel
theorem d_Mod_corner_78 : decode prog_14_method_20_code 78 = .ok (.invokevirtual 278, 3) := by decide +kernel
theorem d_Mod_corner_81 : decode prog_14_method_20_code 81 = .ok (.iastore, 1) := by decide +kernel
theorem d_Mod_corner_82 : decode prog_14_method_20_code 82 = .ok (.iinc 6 1, 3) := by decide +kernel
theorem d_Mod_corner_85 : decode prog_14_method_20_code 85 = .ok (.goto (-37), 3) := by decide +kernel
theorem d_Mod_corner_88 : decode prog_14_method_20_code 88 = .ok (.aload_n 0, 1) := by decide +kernel
theorem d_Mod_corner_89 : decode prog_14_method_20_code 89 = .ok (.getfield 41, 3) := by decide +kernel
theorem d_Mod_corner_92 : decode prog_14_method_20_code 92 = .ok (.invokevirtual 281, 3) := by decide +kernel
theorem d_Mod_corner_95 : decode prog_14_method_20_code 95 = .ok (.pop, 1) := by decide +kernel
theorem d_Mod_corner_96 : decode prog_14_method_20_code 96 = .ok (.aload_n 0, 1) := by decide +kernel
theorem d_Mod_corner_97 : decode prog_14_method_20_code 97 = .ok (.getfield 41, 3) := by decide +kernel
theorem d_Mod_corner_100 : decode prog_14_method_20_code 100 = .ok (.getfield 284, 3) := by decide +kernel
theorem d_Mod_corner_103 : decode prog_14_method_20_code 103 = .ok (.astore 6, 2) := by decide +kernel
theorem d_Mod_corner_105 : decode prog_14_method_20_code 105 = .ok (.aload_n 0, 1) := by decide +kernel
theorem d_Mod_corner_106 : decode prog_14_method_20_code 106 = .ok (.getfield 51, 3) := by decide +kernel
theorem d_Mod_corner_109 : decode prog_14_method_20_code 109 = .ok (.iload_n 1, 1) := by decide +kernel
theorem d_Mod_corner_110 : decode prog_14_method_20_code 110 = .ok (.aload 6, 2) := by decide +kernel
theorem d_Mod_corner_112 : decode prog_14_method_20_code 112 = .ok (.iconst 0, 1) := by decide +kernel
theorem d_Mod_corner_113 : decode prog_14_method_20_code 113 = .ok (.iaload, 1) := by decide +kernel
theorem d_Mod_corner_114 : decode prog_14_method_20_code 114 = .ok (.aload 6, 2) := by decide +kernel
theorem d_Mod_corner_116 : decode prog_14_method_20_code 116 = .ok (.iconst 1, 1) := by decide +kernel
theorem d_Mod_corner_117 : decode prog_14_method_20_code 117 = .ok (.iaload, 1) := by decide +kernel
theorem d_Mod_corner_118 : decode prog_14_method_20_code 118 = .ok (.aload 6, 2) := by decide +kernel
theorem d_Mod_corner_120 : decode prog_14_method_20_code 120 = .ok (.iconst 2, 1) := by decide +kernel
theorem d_Mod_corner_121 : decode prog_14_method_20_code 121 = .ok (.iaload, 1) := by decide +kernel
theorem d_Mod_corner_122 : decode prog_14_method_20_code 122 = .ok (.aload 6, 2) := by decide +kernel
theorem d_Mod_corner_124 : decode prog_14_method_20_code 124 = .ok (.iconst 3, 1) := by decide +kernel
theorem d_Mod_corner_125 : decode prog_14_method_20_code 125 = .ok (.iaload, 1) := by decide +kernel
theorem d_Mod_corner_126 : decode prog_14_method_20_code 126 = .ok (.invokevirtual 287, 3) := by decide +kernel
theorem d_Mod_corner_129 : decode prog_14_method_20_code 129 = .ok (.iconst 0, 1) := by decide +kernel
theorem d_Mod_corner_130 : decode prog_14_method_20_code 130 = .ok (.istore 7, 2) := by decide +kernel
theorem d_Mod_corner_132 : decode prog_14_method_20_code 132 = .ok (.iload 7, 2) := by decide +kernel
theorem d_Mod_corner_134 : decode prog_14_method_20_code 134 = .ok (.bipush 7, 2) := by decide +kernel
theorem d_Mod_corner_136 : decode prog_14_method_20_code 136 = .ok (.if_icmp .ge 57, 3) := by decide +kernel
theorem d_Mod_corner_139 : decode prog_14_method_20_code 139 = .ok (.aload_n 0, 1) := by decide +kernel
theorem d_Mod_corner_140 : decode prog_14_method_20_code 140 = .ok (.getfield 51, 3) := by decide +kernel
theorem d_Mod_corner_143 : decode prog_14_method_20_code 143 = .ok (.iload_n 1, 1) := by decide +kernel
theorem d_Mod_corner_144 : decode prog_14_method_20_code 144 = .ok (.iload 7, 2) := by decide +kernel
theorem d_Mod_corner_146 : decode prog_14_method_20_code 146 = .ok (.aload 6, 2) := by decide +kernel
theorem d_Mod_corner_148 : decode prog_14_method_20_code 148 = .ok (.iconst 4, 1) := by decide +kernel
theorem d_Mod_corner_149 : decode prog_14_method_20_code 149 = .ok (.iload 7, 2) := by decide +kernel
theorem d_Mod_corner_151 : decode prog_14_method_20_code 151 = .ok (.imul, 1) := by decide +kernel
theorem d_Mod_corner_152 : decode prog_14_method_20_code 152 = .ok (.iconst 4, 1) := by decide +kernel
theorem d_Mod_corner_153 : decode prog_14_method_20_code 153 = .ok (.iadd, 1) := by decide +kernel
theorem d_Mod_corner_154 : decode prog_14_method_20_code 154 = .ok (.iaload, 1) := by decide +kernel
theorem d_Mod_corner_155 : decode prog_14_method_20_code 155 = .ok (.aload 6, 2) := by decide +kernel
theorem d_Mod_corner_157 : decode prog_14_method_20_code 157 = .ok (.iconst 4, 1) := by decide +kernel
theorem d_Mod_corner_158 : decode prog_14_method_20_code 158 = .ok (.iload 7, 2) := by decide +kernel
theorem d_Mod_corner_160 : decode prog_14_method_20_code 160 = .ok (.imul, 1) := by decide +kernel
theorem d_Mod_corner_161 : decode prog_14_method_20_code 161 = .ok (.iconst 5, 1) := by decide +kernel
theorem d_Mod_corner_162 : decode prog_14_method_20_code 162 = .ok (.iadd, 1) := by decide +kernel
theorem d_Mod_corner_163 : decode prog_14_method_20_code 163 = .ok (.iaload, 1) := by decide +kernel
theorem d_Mod_corner_164 : decode prog_14_method_20_code 164 = .ok (.aload 6, 2) := by decide +kernel
theorem d_Mod_corner_166 : decode prog_14_method_20_code 166 = .ok (.iconst 4, 1) := by decide +kernel
theorem d_Mod_corner_167 : decode prog_14_method_20_code 167 = .ok (.iload 7, 2) := by decide +kernel
theorem d_Mod_corner_169 : decode prog_14_method_20_code 169 = .ok (.imul, 1) := by decide +kernel
theorem d_Mod_corner_170 : decode prog_14_method_20_code 170 = .ok (.bipush 6, 2) := by decide +kernel
theorem d_Mod_corner_172 : decode prog_14_method_20_code 172 = .ok (.iadd, 1) := by decide +kernel
theorem d_Mod_corner_173 : decode prog_14_method_20_code 173 = .ok (.iaload, 1) := by decide +kernel
theorem d_Mod_corner_174 : decode prog_14_method_20_code 174 = .ok (.aload 6, 2) := by decide +kernel
theorem d_Mod_corner_176 : decode prog_14_method_20_code 176 = .ok (.iconst 4, 1) := by decide +kernel
theorem d_Mod_corner_177 : decode prog_14_method_20_code 177 = .ok (.iload 7, 2) := by decide +kernel
theorem d_Mod_corner_179 : decode prog_14_method_20_code 179 = .ok (.imul, 1) := by decide +kernel
theorem d_Mod_corner_180 : decode prog_14_method_20_code 180 = .ok (.bipush 7, 2) := by decide +kernel
theorem d_Mod_corner_182 : decode prog_14_method_20_code 182 = .ok (.iadd, 1) := by decide +kernel
theorem d_Mod_corner_183 : decode prog_14_method_20_code 183 = .ok (.iaload, 1) := by decide +kernel
theorem d_Mod_corner_184 : decode prog_14_method_20_code 184 = .ok (.invokevirtual 289, 3) := by decide +kernel
theorem d_Mod_corner_187 : decode prog_14_method_20_code 187 = .ok (.iinc 7 1, 3) := by decide +kernel
theorem d_Mod_corner_190 : decode prog_14_method_20_code 190 = .ok (.goto (-58), 3) := by decide +kernel
theorem d_Mod_corner_193 : decode prog_14_method_20_code 193 = .ok (.return_, 1) := by decide +kernel
def L_Mod_corner_132 : Nat → Sg → Int32 → Int32 → Option (Sg)
  | 0, _, _, _ => none
  | n + 1, σ, v1, v7 => if 7 ≤ v7 then (some σ) else (ck (inb ((4 * v7) + 4) 32) (ck (inb ((4 * v7) + 5) 32) (ck (inb ((4 * v7) + 6) 32) (ck (inb ((4 * v7) + 7) 32) (bd (F_Vwm_vary σ v1 v7 (σ.2.2.1 18 ((4 * v7) + 4).toNatClampNeg) (σ.2.2.1 18 ((4 * v7) + 5).toNatClampNeg) (σ.2.2.1 18 ((4 * v7) + 6).toNatClampNeg) (σ.2.2.1 18 ((4 * v7) + 7).toNatClampNeg)) (fun o18 => lt (v7 + 1) (fun y19 => L_Mod_corner_132 n o18 v1 y19)))))))
set_option maxRecDepth 10000 in
set_option maxHeartbeats 4000000 in
theorem lt_Mod_corner_132 {p : Program} {l : Launch} {e : Env} {R : Room} {s : State} {m : MethodId} {args : Array Value} {below : List Frame} {meth : Method} {c : Code} {D : va_G} {τ : ClassId × ClassId × ClassId} {B : Nat} {A : Nat → Prop} {ad : Nat → Nat} (E : Cx p R s m args meth c prog_14_method_20_code 8 "DrawingMachineModel" 13 D τ B A) (hret : meth.sig.returnType = none) (o : Sg) : ∀ (n : Nat) (σ : Sg) (v1 : Int32) (v7 : Int32) (H : Heap) (locs : List Loc) (ls : Array Slot), L_Mod_corner_132 n σ v1 v7 = some o → Wd s D A (wdM τ σ ad) H locs → lv_has ls 8 [(0, .ref (ad 59)), (1, .int v1), (6, .ref (ad 18)), (7, .int v7)] → W p l e R s m args below meth c H locs 0 0 (QV below args s A D τ (wdM τ o ad)) (F0 m 132 ls []) := by
  intro n
  induction n with
  | zero =>
    intro σ v1 v7 H locs ls h w hl
    cases h
  | succ n hr_132 =>
    intro σ v1 v7 H locs ls h w hl
    refine lv_iload E.x E.b d_Mod_corner_132 (lv_at hl 3 rfl) ?_
    refine lv_bipush (v := 7) E.x E.b d_Mod_corner_134 (by decide) ?_
    refine lv_icmp_ge (tgt := 193) E.x E.b d_Mod_corner_136 (by decide) (fun c => ?_) (fun c => ?_)
    ·
      replace h := ifT c h
      obtain rfl := Option.some.inj h
      exact rt_v E w hret d_Mod_corner_193
    ·
      replace h := ifF c h
      refine lv_aload_n E.x E.b d_Mod_corner_139 rfl (lv_at hl 0 rfl) ?_
      refine gM_Mod_vertices E w k1772 d_Mod_corner_140 ?_
      refine lv_iload_n E.x E.b d_Mod_corner_143 rfl (lv_at hl 1 rfl) ?_
      refine lv_iload E.x E.b d_Mod_corner_144 (lv_at hl 3 rfl) ?_
      refine lv_aload E.x E.b d_Mod_corner_146 (lv_at hl 2 rfl) ?_
      refine lv_iconst (v := 4) E.x E.b d_Mod_corner_148 (by decide) ?_
      refine lv_iload E.x E.b d_Mod_corner_149 (lv_at hl 3 rfl) ?_
      refine lv_imul E.x E.b d_Mod_corner_151 ?_
      refine lv_iconst (v := 4) E.x E.b d_Mod_corner_152 (by decide) ?_
      refine lv_iadd E.x E.b d_Mod_corner_153 ?_
      obtain ⟨c14, h⟩ := ck_some h
      refine ialM E w (k := 18) (by decide) c14 d_Mod_corner_154 ?_
      refine lv_aload E.x E.b d_Mod_corner_155 (lv_at hl 2 rfl) ?_
      refine lv_iconst (v := 4) E.x E.b d_Mod_corner_157 (by decide) ?_
      refine lv_iload E.x E.b d_Mod_corner_158 (lv_at hl 3 rfl) ?_
      refine lv_imul E.x E.b d_Mod_corner_160 ?_
      refine lv_iconst (v := 5) E.x E.b d_Mod_corner_161 (by decide) ?_
      refine lv_iadd E.x E.b d_Mod_corner_162 ?_
      obtain ⟨c15, h⟩ := ck_some h
      refine ialM E w (k := 18) (by decide) c15 d_Mod_corner_163 ?_
      refine lv_aload E.x E.b d_Mod_corner_164 (lv_at hl 2 rfl) ?_
      refine lv_iconst (v := 4) E.x E.b d_Mod_corner_166 (by decide) ?_
      refine lv_iload E.x E.b d_Mod_corner_167 (lv_at hl 3 rfl) ?_
      refine lv_imul E.x E.b d_Mod_corner_169 ?_
      refine lv_bipush (v := 6) E.x E.b d_Mod_corner_170 (by decide) ?_
      refine lv_iadd E.x E.b d_Mod_corner_172 ?_
      obtain ⟨c16, h⟩ := ck_some h
      refine ialM E w (k := 18) (by decide) c16 d_Mod_corner_173 ?_
      refine lv_aload E.x E.b d_Mod_corner_174 (lv_at hl 2 rfl) ?_
      refine lv_iconst (v := 4) E.x E.b d_Mod_corner_176 (by decide) ?_
      refine lv_iload E.x E.b d_Mod_corner_177 (lv_at hl 3 rfl) ?_
      refine lv_imul E.x E.b d_Mod_corner_179 ?_
      refine lv_bipush (v := 7) E.x E.b d_Mod_corner_180 (by decide) ?_
      refine lv_iadd E.x E.b d_Mod_corner_182 ?_
      obtain ⟨c17, h⟩ := ck_some h
      refine ialM E w (k := 18) (by decide) c17 d_Mod_corner_183 ?_
      obtain ⟨o18, h_o18, h⟩ := bd_some h
      refine clV_Vwm_vary E w (x0 := v1) (x1 := v7) (x2 := (σ.2.2.1 18 ((4 * v7) + 4).toNatClampNeg)) (x3 := (σ.2.2.1 18 ((4 * v7) + 5).toNatClampNeg)) (x4 := (σ.2.2.1 18 ((4 * v7) + 6).toNatClampNeg)) (x5 := (σ.2.2.1 18 ((4 * v7) + 7).toNatClampNeg)) h_o18 k2313 (by decide) hl.1 (Nat.le_of_ble_eq_true rfl) d_Mod_corner_184 (fun H locs w => ?_)
      obtain ⟨y19, e_y19, h⟩ := lt_some h
      refine lv_iinc (v := y19) (lv' := [(7, .int y19), (0, .ref (ad 59)), (1, .int v1), (6, .ref (ad 18))]) E.x E.b d_Mod_corner_187 hl (k := 3) rfl (e_y19) (by decide) rfl (fun ls hl => ?_)
      refine lv_goto (tgt := 132) E.x E.b d_Mod_corner_190 (by decide) ?_
      exact hr_132 o18 v1 y19 _ _ _ h w (lv_sub hl [1, 2, 3, 0] rfl)
def L_Mod_corner_48 : Nat → Sg → Int32 → Int32 → Int32 → Option (Sg)
  | 0, _, _, _, _ => none
  | n + 1, σ, v1, v5, v6 => if 32 ≤ v6 then (bd (F_Shm_run σ 0) (fun o20 => bd (F_Vwm_place o20.1 v1 (o20.1.2.2.1 18 0) (o20.1.2.2.1 18 1) (o20.1.2.2.1 18 2) (o20.1.2.2.1 18 3)) (fun o21 => L_Mod_corner_132 100000 o21 v1 0))) else (bd (F_Vwm_fetch σ (v6 / 4) v5 (irem v6 4)) (fun o22 => ck (inb v6 32) (lt (sA o22.1 17 (upd (o22.1.2.2.1 17) v6.toNatClampNeg o22.2)) (fun σ24 => lt (v6 + 1) (fun y25 => L_Mod_corner_48 n σ24 v1 v5 y25)))))
set_option maxRecDepth 10000 in
set_option maxHeartbeats 4000000 in
theorem lt_Mod_corner_48 {p : Program} {l : Launch} {e : Env} {R : Room} {s : State} {m : MethodId} {args : Array Value} {below : List Frame} {meth : Method} {c : Code} {D : va_G} {τ : ClassId × ClassId × ClassId} {B : Nat} {A : Nat → Prop} {ad : Nat → Nat} (E : Cx p R s m args meth c prog_14_method_20_code 8 "DrawingMachineModel" 13 D τ B A) (hret : meth.sig.returnType = none) (o : Sg) : ∀ (n : Nat) (σ : Sg) (v1 : Int32) (v5 : Int32) (v6 : Int32) (H : Heap) (locs : List Loc) (ls : Array Slot), L_Mod_corner_48 n σ v1 v5 v6 = some o → Wd s D A (wdM τ σ ad) H locs → lv_has ls 8 [(0, .ref (ad 59)), (1, .int v1), (5, .int v5), (6, .int v6)] → W p l e R s m args below meth c H locs 0 0 (QV below args s A D τ (wdM τ o ad)) (F0 m 48 ls []) := by
  intro n
  induction n with
  | zero =>
    intro σ v1 v5 v6 H locs ls h w hl
    cases h
  | succ n hr_48 =>
    intro σ v1 v5 v6 H locs ls h w hl
    refine lv_iload E.x E.b d_Mod_corner_48 (lv_at hl 3 rfl) ?_
    refine lv_bipush (v := 32) E.x E.b d_Mod_corner_50 (by decide) ?_
    refine lv_icmp_ge (tgt := 88) E.x E.b d_Mod_corner_52 (by decide) (fun c => ?_) (fun c => ?_)
    ·
      replace h := ifT c h
      refine lv_aload_n E.x E.b d_Mod_corner_88 rfl (lv_at hl 0 rfl) ?_
      refine gM_Mod_corners E w k1770 d_Mod_corner_89 ?_
      refine wr_e (v := ad (65 + 0)) rfl ?_
      obtain ⟨o20, h_o20, h⟩ := bd_some h
      refine clV_Shm_run E w (p0 := 0) h_o20 k2194 (by decide) hl.1 (Nat.le_of_ble_eq_true rfl) d_Mod_corner_92 (fun H locs w => ?_)
      refine lv_pop E.x E.b d_Mod_corner_95 rfl ?_
      refine lv_aload_n E.x E.b d_Mod_corner_96 rfl (lv_at hl 0 rfl) ?_
      refine gM_Mod_corners E w k1770 d_Mod_corner_97 ?_
      refine wr_e (v := ad (65 + 0)) rfl ?_
      refine gNM_Shm_outs E w (pid := 0) (by decide) n1568 d_Mod_corner_100 ?_
      refine lv_astore (lv' := [(6, .ref (ad 18)), (0, .ref (ad 59)), (1, .int v1), (5, .int v5)]) E.x E.b d_Mod_corner_103 hl (by decide) rfl (fun ls hl => ?_)
      refine lv_aload_n E.x E.b d_Mod_corner_105 rfl (lv_at hl 1 rfl) ?_
      refine gM_Mod_vertices E w k1772 d_Mod_corner_106 ?_
      refine lv_iload_n E.x E.b d_Mod_corner_109 rfl (lv_at hl 2 rfl) ?_
      refine lv_aload E.x E.b d_Mod_corner_110 (lv_at hl 0 rfl) ?_
      refine lv_iconst (v := 0) E.x E.b d_Mod_corner_112 (by decide) ?_
      refine ialM E w (k := 18) (by decide) (show inb 0 32 by decide) d_Mod_corner_113 ?_
      refine wi_e (v := o20.1.2.2.1 18 0) rfl ?_
      refine lv_aload E.x E.b d_Mod_corner_114 (lv_at hl 0 rfl) ?_
      refine lv_iconst (v := 1) E.x E.b d_Mod_corner_116 (by decide) ?_
      refine ialM E w (k := 18) (by decide) (show inb 1 32 by decide) d_Mod_corner_117 ?_
      refine wi_e (v := o20.1.2.2.1 18 1) rfl ?_
      refine lv_aload E.x E.b d_Mod_corner_118 (lv_at hl 0 rfl) ?_
      refine lv_iconst (v := 2) E.x E.b d_Mod_corner_120 (by decide) ?_
      refine ialM E w (k := 18) (by decide) (show inb 2 32 by decide) d_Mod_corner_121 ?_
      refine wi_e (v := o20.1.2.2.1 18 2) rfl ?_
      refine lv_aload E.x E.b d_Mod_corner_122 (lv_at hl 0 rfl) ?_
      refine lv_iconst (v := 3) E.x E.b d_Mod_corner_124 (by decide) ?_
      refine ialM E w (k := 18) (by decide) (show inb 3 32 by decide) d_Mod_corner_125 ?_
      refine wi_e (v := o20.1.2.2.1 18 3) rfl ?_
      obtain ⟨o21, h_o21, h⟩ := bd_some h
      refine clV_Vwm_place E w (x0 := v1) (x1 := (o20.1.2.2.1 18 0)) (x2 := (o20.1.2.2.1 18 1)) (x3 := (o20.1.2.2.1 18 2)) (x4 := (o20.1.2.2.1 18 3)) h_o21 k2305 (by decide) hl.1 (Nat.le_of_ble_eq_true rfl) d_Mod_corner_126 (fun H locs w => ?_)
      refine lv_iconst (v := 0) E.x E.b d_Mod_corner_129 (by decide) ?_
      refine lv_istore (lv' := [(7, .int 0), (6, .ref (ad 18)), (0, .ref (ad 59)), (1, .int v1), (5, .int v5)]) E.x E.b d_Mod_corner_130 hl (by decide) rfl (fun ls hl => ?_)
      exact lt_Mod_corner_132 E hret o 100000 o21 v1 0 _ _ _ h w (lv_sub hl [2, 3, 1, 0] rfl)
    ·
      replace h := ifF c h
      refine lv_aload_n E.x E.b d_Mod_corner_55 rfl (lv_at hl 0 rfl) ?_
      refine gM_Mod_corners E w k1770 d_Mod_corner_56 ?_
      refine wr_e (v := ad (65 + 0)) rfl ?_
      refine gNM_Shm_ins E w (pid := 0) (by decide) n1566 d_Mod_corner_59 ?_
      refine lv_iload E.x E.b d_Mod_corner_62 (lv_at hl 3 rfl) ?_
      refine lv_aload_n E.x E.b d_Mod_corner_64 rfl (lv_at hl 0 rfl) ?_
      refine gM_Mod_vertices E w k1772 d_Mod_corner_65 ?_
      refine lv_iload E.x E.b d_Mod_corner_68 (lv_at hl 3 rfl) ?_
      refine lv_iconst (v := 4) E.x E.b d_Mod_corner_70 (by decide) ?_
      refine lv_idiv E.x E.b d_Mod_corner_71 (by decide) ?_
      refine lv_iload E.x E.b d_Mod_corner_72 (lv_at hl 2 rfl) ?_
      refine lv_iload E.x E.b d_Mod_corner_74 (lv_at hl 3 rfl) ?_
      refine lv_iconst (v := 4) E.x E.b d_Mod_corner_76 (by decide) ?_
      refine lv_irem E.x E.b d_Mod_corner_77 (by decide) ?_
      refine wi_e (v := irem v6 4) rfl ?_
      obtain ⟨o22, h_o22, h⟩ := bd_some h
      refine clV_Vwm_fetch E w (x0 := (v6 / 4)) (x1 := v5) (x2 := (irem v6 4)) h_o22 k2189 (by decide) hl.1 (Nat.le_of_ble_eq_true rfl) d_Mod_corner_78 (fun H locs w => ?_)
      obtain ⟨c23, h⟩ := ck_some h
      obtain ⟨σ24, e_σ24, h⟩ := lt_some h
      refine iasM E w (k := 17) (by decide) c23 e_σ24 d_Mod_corner_81 (fun H locs w => ?_)
      obtain ⟨y25, e_y25, h⟩ := lt_some h
      refine lv_iinc (v := y25) (lv' := [(6, .int y25), (0, .ref (ad 59)), (1, .int v1), (5, .int v5)]) E.x E.b d_Mod_corner_82 hl (k := 3) rfl (e_y25) (by decide) rfl (fun ls hl => ?_)
      refine lv_goto (tgt := 48) E.x E.b d_Mod_corner_85 (by decide) ?_
      exact hr_48 σ24 v1 v5 y25 _ _ _ h w (lv_sub hl [1, 2, 3, 0] rfl)
def F_Mod_corner_43 (σ : Sg) (v1 : Int32) (s0 : Int32) : Option (Sg) := L_Mod_corner_48 100000 σ v1 s0 0
set_option maxRecDepth 10000 in
set_option maxHeartbeats 4000000 in
theorem bt_Mod_corner_43 {p : Program} {l : Launch} {e : Env} {R : Room} {s : State} {m : MethodId} {args : Array Value} {below : List Frame} {meth : Method} {c : Code} {D : va_G} {τ : ClassId × ClassId × ClassId} {B : Nat} {A : Nat → Prop} {ad : Nat → Nat} (E : Cx p R s m args meth c prog_14_method_20_code 8 "DrawingMachineModel" 13 D τ B A) (hret : meth.sig.returnType = none) (o : Sg) (σ : Sg) (v1 : Int32) (s0 : Int32) (h : F_Mod_corner_43 σ v1 s0 = some o) {H : Heap} {locs : List Loc} {ls : Array Slot} (w : Wd s D A (wdM τ σ ad) H locs) (hl : lv_has ls 8 [(0, .ref (ad 59)), (1, .int v1)]) : W p l e R s m args below meth c H locs 0 0 (QV below args s A D τ (wdM τ o ad)) (F0 m 43 ls [.int s0]) := by
  refine lv_istore (lv' := [(5, .int s0), (0, .ref (ad 59)), (1, .int v1)]) E.x E.b d_Mod_corner_43 hl (by decide) rfl (fun ls hl => ?_)
  refine lv_iconst (v := 0) E.x E.b d_Mod_corner_45 (by decide) ?_
  refine lv_istore (lv' := [(6, .int 0), (5, .int s0), (0, .ref (ad 59)), (1, .int v1)]) E.x E.b d_Mod_corner_46 hl (by decide) rfl (fun ls hl => ?_)
  exact lt_Mod_corner_48 E hret o 100000 σ v1 s0 0 _ _ _ h w (lv_sub hl [2, 3, 1, 0] rfl)
def F_Mod_corner (σ : Sg) (x0 : Int32) (x1 : Int32) (x2 : Int32) : Option (Sg) := if x2 = 0 then (F_Mod_corner_43 σ x0 ((σ.2.2.1 3 1) + x1)) else (bd (F_Vwm_index σ (σ.2.2.1 3 3) (σ.2.2.1 3 1) x1) (fun o26 => F_Mod_corner_43 o26.1 x0 ((σ.2.2.1 3 4) + o26.2)))
set_option maxRecDepth 10000 in
set_option maxHeartbeats 4000000 in
theorem c_Mod_corner (l : Launch) (D : va_G) (τ : ClassId × ClassId × ClassId) (B : Nat) (σ : Sg) (ad : Nat → Nat) (x0 : Int32) (x1 : Int32) (x2 : Int32) (o : Sg) (h : F_Mod_corner σ x0 x1 x2 = some o) : MV l y_Mod_corner (Cond.code y_Mod_corner prog_14_method_20_code 8 none) 13 D τ B [.ref (ad 59), .int x0, .int x1, .int x2] (wdM τ σ ad) (wdM τ o ad) := by
  refine en_v (by decide) (Nat.le_of_ble_eq_true rfl) ?_
  intro p e R s m args below meth c H locs ls A E hret w hl
  have E : Cx p R s m args meth c prog_14_method_20_code 8 "DrawingMachineModel" 13 D τ B A := E
  have hl : lv_has ls 8 [(0, .ref (ad 59)), (1, .int x0), (2, .int x1), (3, .int x2)] := hl
  refine lv_aload_n E.x E.b d_Mod_corner_0 rfl (lv_at hl 0 rfl) ?_
  refine gM_Mod_commands E w k1768 d_Mod_corner_1 ?_
  refine gNM_Cmd_argument E w n1467 d_Mod_corner_4 ?_
  refine lv_astore (lv' := [(4, .ref (ad 3)), (0, .ref (ad 59)), (1, .int x0), (2, .int x1), (3, .int x2)]) E.x E.b d_Mod_corner_7 hl (by decide) rfl (fun ls hl => ?_)
  refine lv_iload_n E.x E.b d_Mod_corner_9 rfl (lv_at hl 4 rfl) ?_
  refine lv_if_eq (tgt := 37) E.x E.b d_Mod_corner_10 (by decide) (fun c => ?_) (fun c => ?_)
  ·
    replace h := ifT c h
    refine lv_aload E.x E.b d_Mod_corner_37 (lv_at hl 0 rfl) ?_
    refine lv_iconst (v := 1) E.x E.b d_Mod_corner_39 (by decide) ?_
    refine ialM E w (k := 3) (by decide) (show inb 1 300 by decide) d_Mod_corner_40 ?_
    refine wi_e (v := σ.2.2.1 3 1) rfl ?_
    refine lv_iload_n E.x E.b d_Mod_corner_41 rfl (lv_at hl 3 rfl) ?_
    refine lv_iadd E.x E.b d_Mod_corner_42 ?_
    exact bt_Mod_corner_43 E hret o σ x0 ((σ.2.2.1 3 1) + x1) h w (lv_sub hl [1, 2] rfl)
  ·
    replace h := ifF c h
    refine lv_aload E.x E.b d_Mod_corner_13 (lv_at hl 0 rfl) ?_
    refine lv_iconst (v := 4) E.x E.b d_Mod_corner_15 (by decide) ?_
    refine ialM E w (k := 3) (by decide) (show inb 4 300 by decide) d_Mod_corner_16 ?_
    refine wi_e (v := σ.2.2.1 3 4) rfl ?_
    refine lv_aload_n E.x E.b d_Mod_corner_17 rfl (lv_at hl 1 rfl) ?_
    refine gM_Mod_vertices E w k1772 d_Mod_corner_18 ?_
    refine lv_aload E.x E.b d_Mod_corner_21 (lv_at hl 0 rfl) ?_
    refine lv_iconst (v := 3) E.x E.b d_Mod_corner_23 (by decide) ?_
    refine ialM E w (k := 3) (by decide) (show inb 3 300 by decide) d_Mod_corner_24 ?_
    refine wi_e (v := σ.2.2.1 3 3) rfl ?_
    refine lv_aload E.x E.b d_Mod_corner_25 (lv_at hl 0 rfl) ?_
    refine lv_iconst (v := 1) E.x E.b d_Mod_corner_27 (by decide) ?_
    refine ialM E w (k := 3) (by decide) (show inb 1 300 by decide) d_Mod_corner_28 ?_
    refine wi_e (v := σ.2.2.1 3 1) rfl ?_
    refine lv_iload_n E.x E.b d_Mod_corner_29 rfl (lv_at hl 3 rfl) ?_
    obtain ⟨o26, h_o26, h⟩ := bd_some h
    refine clV_Vwm_index E w (x0 := (σ.2.2.1 3 3)) (x1 := (σ.2.2.1 3 1)) (x2 := x1) h_o26 k2171 (by decide) hl.1 (Nat.le_of_ble_eq_true rfl) d_Mod_corner_30 (fun H locs w => ?_)
    refine lv_iadd E.x E.b d_Mod_corner_33 ?_
    refine lv_goto (tgt := 43) E.x E.b d_Mod_corner_34 (by decide) ?_
    exact bt_Mod_corner_43 E hret o o26.1 x0 ((σ.2.2.1 3 4) + o26.2) h w (lv_sub hl [1, 2] rfl)
theorem clV_Mod_corner {p : Program} {l : Launch} {e : Env} {R : Room} {s : State} {m : MethodId} {args : Array Value} {below : List Frame} {meth : Method} {c : Code} {H : Heap} {locs : List Loc} {Q : State → Prop} {cc : ByteArray} {nL pc lev : Nat} {own : String} {D : va_G} {τ : ClassId × ClassId × ClassId} {B : Nat} {A : Nat → Prop} {σ : Sg} {ad : Nat → Nat} {ls : Array Slot} {rest : List Value} (E : Cx p R s m args meth c cc nL own lev D τ B A) (w : Wd s D A (wdM τ σ ad) H locs) {x0 : Int32} {x1 : Int32} {x2 : Int32} {o : Sg} (h : F_Mod_corner σ x0 x1 x2 = some o) {index : Nat} (hlk : Cond.methodLink own index y_Mod_corner ∈ tw) (hlev : 13 < lev) (hsz : ls.size = nL) (hr : (rest.map fun v => v.category).sum ≤ 8) (hd : decode cc pc = .ok (.invokevirtual index, 3)) (kk : ∀ (H1 : Heap) (locs1 : List Loc), Wd s D A (wdM τ o ad) H1 locs1 → W p l e R s m args below meth c H1 locs1 0 0 Q (F0 m (pc + 3) ls (rest))) : W p l e R s m args below meth c H locs 0 0 Q (F0 m pc ls (.int x2 :: .int x1 :: .int x0 :: .ref (ad 59) :: rest)) :=
  cr_v w E.C (va_runV (As := [.int x0, .int x1, .int x2]) (rest := rest) E.fix (c_Mod_corner l D τ B σ ad x0 x1 x2 o h H.size) (cwV 3 E.w (tw_pre (tw_good k2170) (l := [_, _, _, _]) (List.forall_mem_cons.mpr ⟨hlk, List.forall_mem_cons.mpr ⟨k2169, List.forall_mem_cons.mpr ⟨ks73, List.forall_mem_cons.mpr ⟨k14, fun _ h => absurd h List.not_mem_nil⟩⟩⟩⟩)) rfl rfl rfl (by decide +kernel) (E.rm hlev (by decide))) (wd_preV w E.C [.int x0, .int x1, .int x2] rcM_Mod rfl) rfl rfl hsz rfl (lv_room hr) hd ⟨Nat.zero_le _, Nat.zero_le _⟩) kk

theorem d_Mod_kept_0 : decode prog_14_method_11_code 0 = .ok (.aload_n 0, 1) := by decide +kernel
theorem d_Mod_kept_1 : decode prog_14_method_11_code 1 = .ok (.getfield 19, 3) := by decide +kernel
theorem d_Mod_kept_4 : decode prog_14_method_11_code 4 = .ok (.getfield 126, 3) := by decide +kernel
theorem d_Mod_kept_7 : decode prog_14_method_11_code 7 = .ok (.iload_n 1, 1) := by decide +kernel
theorem d_Mod_kept_8 : decode prog_14_method_11_code 8 = .ok (.iload_n 2, 1) := by decide +kernel
theorem d_Mod_kept_9 : decode prog_14_method_11_code 9 = .ok (.invokestatic 129, 3) := by decide +kernel
theorem d_Mod_kept_12 : decode prog_14_method_11_code 12 = .ok (.iload_n 3, 1) := by decide +kernel
theorem d_Mod_kept_13 : decode prog_14_method_11_code 13 = .ok (.iadd, 1) := by decide +kernel
theorem d_Mod_kept_14 : decode prog_14_method_11_code 14 = .ok (.iaload, 1) := by decide +kernel
theorem d_Mod_kept_15 : decode prog_14_method_11_code 15 = .ok (.ireturn, 1) := by decide +kernel
def F_Mod_kept (σ : Sg) (x0 : Int32) (x1 : Int32) (x2 : Int32) : Option (Int32) := bd (F_Cmd_rowOf x0 x1) (fun o3 => ck (inb (o3 + x2) 4160) (some (σ.2.2.1 4 (o3 + x2).toNatClampNeg)))
set_option maxRecDepth 10000 in
set_option maxHeartbeats 4000000 in
theorem c_Mod_kept (l : Launch) (D : va_G) (τ : ClassId × ClassId × ClassId) (B : Nat) (σ : Sg) (ad : Nat → Nat) (x0 : Int32) (x1 : Int32) (x2 : Int32) (o : Int32) (h : F_Mod_kept σ x0 x1 x2 = some o) : MI l y_Mod_kept (Cond.code y_Mod_kept prog_14_method_11_code 4 (some .int)) 2 D τ B [.ref (ad 59), .int x0, .int x1, .int x2] (wdM τ σ ad) (wdM τ σ ad) o := by
  refine en_i (by decide) (Nat.le_of_ble_eq_true rfl) ?_
  intro p e R s m args below meth c H locs ls A E hret w hl
  have E : Cx p R s m args meth c prog_14_method_11_code 4 "DrawingMachineModel" 2 D τ B A := E
  have hl : lv_has ls 4 [(0, .ref (ad 59)), (1, .int x0), (2, .int x1), (3, .int x2)] := hl
  refine lv_aload_n E.x E.b d_Mod_kept_0 rfl (lv_at hl 0 rfl) ?_
  refine gM_Mod_commands E w k1768 d_Mod_kept_1 ?_
  refine gNM_Cmd_kept E w n1469 d_Mod_kept_4 ?_
  refine lv_iload_n E.x E.b d_Mod_kept_7 rfl (lv_at hl 1 rfl) ?_
  refine lv_iload_n E.x E.b d_Mod_kept_8 rfl (lv_at hl 2 rfl) ?_
  obtain ⟨o3, h_o3, h⟩ := bd_some h
  refine clSN_Cmd_rowOf E w (x0 := x0) (x1 := x1) h_o3 n1912 (by decide) hl.1 (Nat.le_of_ble_eq_true rfl) d_Mod_kept_9 (fun H locs w => ?_)
  refine lv_iload_n E.x E.b d_Mod_kept_12 rfl (lv_at hl 3 rfl) ?_
  refine lv_iadd E.x E.b d_Mod_kept_13 ?_
  obtain ⟨c4, h⟩ := ck_some h
  refine ialM E w (k := 4) (by decide) c4 d_Mod_kept_14 ?_
  obtain rfl := Option.some.inj h
  exact rt_i E w hret d_Mod_kept_15
theorem clV_Mod_kept {p : Program} {l : Launch} {e : Env} {R : Room} {s : State} {m : MethodId} {args : Array Value} {below : List Frame} {meth : Method} {c : Code} {H : Heap} {locs : List Loc} {Q : State → Prop} {cc : ByteArray} {nL pc lev : Nat} {own : String} {D : va_G} {τ : ClassId × ClassId × ClassId} {B : Nat} {A : Nat → Prop} {σ : Sg} {ad : Nat → Nat} {ls : Array Slot} {rest : List Value} (E : Cx p R s m args meth c cc nL own lev D τ B A) (w : Wd s D A (wdM τ σ ad) H locs) {x0 : Int32} {x1 : Int32} {x2 : Int32} {o : Int32} (h : F_Mod_kept σ x0 x1 x2 = some o) {index : Nat} (hlk : Cond.methodLink own index y_Mod_kept ∈ tw) (hlev : 2 < lev) (hsz : ls.size = nL) (hr : (rest.map fun v => v.category).sum ≤ 8) (hd : decode cc pc = .ok (.invokevirtual index, 3)) (kk : ∀ (H1 : Heap) (locs1 : List Loc), Wd s D A (wdM τ σ ad) H1 locs1 → W p l e R s m args below meth c H1 locs1 0 0 Q (F0 m (pc + 3) ls (.int o :: rest))) : W p l e R s m args below meth c H locs 0 0 Q (F0 m pc ls (.int x2 :: .int x1 :: .int x0 :: .ref (ad 59) :: rest)) :=
  cr_i w E.C (va_runV (As := [.int x0, .int x1, .int x2]) (rest := rest) E.fix (c_Mod_kept l D τ B σ ad x0 x1 x2 o h H.size) (cwV 3 E.w (tw_pre (tw_good k1911) (l := [_, _, _, _]) (List.forall_mem_cons.mpr ⟨hlk, List.forall_mem_cons.mpr ⟨k1910, List.forall_mem_cons.mpr ⟨ks49, List.forall_mem_cons.mpr ⟨k14, fun _ h => absurd h List.not_mem_nil⟩⟩⟩⟩)) rfl rfl rfl (by decide +kernel) (E.rm hlev (by decide))) (wd_preV w E.C [.int x0, .int x1, .int x2] rcM_Mod rfl) rfl rfl hsz rfl (lv_room hr) hd ⟨Nat.zero_le _, Nat.zero_le _⟩) kk

theorem d_Ptm_blend_0 : decode prog_17_method_8_code 0 = .ok (.iload 5, 2) := by decide +kernel
theorem d_Ptm_blend_2 : decode prog_17_method_8_code 2 = .ok (.iconst (-1), 1) := by decide +kernel
theorem d_Ptm_blend_3 : decode prog_17_method_8_code 3 = .ok (.if_icmp .eq 64, 3) := by decide +kernel
theorem d_Ptm_blend_6 : decode prog_17_method_8_code 6 = .ok (.iload_n 1, 1) := by decide +kernel
theorem d_Ptm_blend_7 : decode prog_17_method_8_code 7 = .ok (.iconst 0, 1) := by decide +kernel
theorem d_Ptm_blend_8 : decode prog_17_method_8_code 8 = .ok (.bipush 14, 2) := by decide +kernel
theorem d_Ptm_blend_10 : decode prog_17_method_8_code 10 = .ok (.invokestatic 63, 3) := by decide +kernel
theorem d_Ptm_blend_13 : decode prog_17_method_8_code 13 = .ok (.ifCond .eq 58, 3) := by decide +kernel
theorem d_Ptm_blend_16 : decode prog_17_method_8_code 16 = .ok (.iload_n 2, 1) := by decide +kernel
theorem d_Ptm_blend_17 : decode prog_17_method_8_code 17 = .ok (.iconst 0, 1) := by decide +kernel
theorem d_Ptm_blend_18 : decode prog_17_method_8_code 18 = .ok (.bipush 14, 2) := by decide +kernel
theorem d_Ptm_blend_20 : decode prog_17_method_8_code 20 = .ok (.invokestatic 63, 3) := by decide +kernel
theorem d_Ptm_blend_23 : decode prog_17_method_8_code 23 = .ok (.ifCond .eq 48, 3) := by decide +kernel
theorem d_Ptm_blend_26 : decode prog_17_method_8_code 26 = .ok (.iload_n 3, 1) := by decide +kernel
theorem d_Ptm_blend_27 : decode prog_17_method_8_code 27 = .ok (.iconst 0, 1) := by decide +kernel
theorem d_Ptm_blend_28 : decode prog_17_method_8_code 28 = .ok (.bipush 14, 2) := by decide +kernel
theorem d_Ptm_blend_30 : decode prog_17_method_8_code 30 = .ok (.invokestatic 63, 3) := by decide +kernel
theorem d_Ptm_blend_33 : decode prog_17_method_8_code 33 = .ok (.ifCond .eq 38, 3) := by decide +kernel
theorem d_Ptm_blend_36 : decode prog_17_method_8_code 36 = .ok (.iload 4, 2) := by decide +kernel
theorem d_Ptm_blend_38 : decode prog_17_method_8_code 38 = .ok (.iconst 0, 1) := by decide +kernel
theorem d_Ptm_blend_39 : decode prog_17_method_8_code 39 = .ok (.bipush 14, 2) := by decide +kernel
theorem d_Ptm_blend_41 : decode prog_17_method_8_code 41 = .ok (.invokestatic 63, 3) := by decide +kernel
theorem d_Ptm_blend_44 : decode prog_17_method_8_code 44 = .ok (.ifCond .eq 27, 3) := by decide +kernel
theorem d_Ptm_blend_47 : decode prog_17_method_8_code 47 = .ok (.iload 5, 2) := by decide +kernel
theorem d_Ptm_blend_49 : decode prog_17_method_8_code 49 = .ok (.iconst 0, 1) := by decide +kernel
theorem d_Ptm_blend_50 : decode prog_17_method_8_code 50 = .ok (.iconst 4, 1) := by decide +kernel
theorem d_Ptm_blend_51 : decode prog_17_method_8_code 51 = .ok (.invokestatic 63, 3) := by decide +kernel
theorem d_Ptm_blend_54 : decode prog_17_method_8_code 54 = .ok (.ifCond .eq 17, 3) := by decide +kernel
theorem d_Ptm_blend_57 : decode prog_17_method_8_code 57 = .ok (.iload 6, 2) := by decide +kernel
theorem d_Ptm_blend_59 : decode prog_17_method_8_code 59 = .ok (.iconst 0, 1) := by decide +kernel
theorem d_Ptm_blend_60 : decode prog_17_method_8_code 60 = .ok (.iconst 4, 1) := by decide +kernel
theorem d_Ptm_blend_61 : decode prog_17_method_8_code 61 = .ok (.invokestatic 63, 3) := by decide +kernel
theorem d_Ptm_blend_64 : decode prog_17_method_8_code 64 = .ok (.ifCond .eq 7, 3) := by decide +kernel
theorem d_Ptm_blend_67 : decode prog_17_method_8_code 67 = .ok (.iconst 1, 1) := by decide +kernel
theorem d_Ptm_blend_68 : decode prog_17_method_8_code 68 = .ok (.goto 4, 3) := by decide +kernel
theorem d_Ptm_blend_71 : decode prog_17_method_8_code 71 = .ok (.iconst 0, 1) := by decide +kernel
theorem d_Ptm_blend_72 : decode prog_17_method_8_code 72 = .ok (.istore 7, 2) := by decide +kernel
theorem d_Ptm_blend_74 : decode prog_17_method_8_code 74 = .ok (.aload_n 0, 1) := by decide +kernel
theorem d_Ptm_blend_75 : decode prog_17_method_8_code 75 = .ok (.iload 7, 2) := by decide +kernel
theorem d_Ptm_blend_77 : decode prog_17_method_8_code 77 = .ok (.ifCond .ne 7, 3) := by decide +kernel
theorem d_Ptm_blend_80 : decode prog_17_method_8_code 80 = .ok (.iconst 1, 1) := by decide +kernel
theorem d_Ptm_blend_81 : decode prog_17_method_8_code 81 = .ok (.goto 4, 3) := by decide +kernel
theorem d_Ptm_blend_84 : decode prog_17_method_8_code 84 = .ok (.iconst 0, 1) := by decide +kernel
theorem d_Ptm_blend_85 : decode prog_17_method_8_code 85 = .ok (.iconst 0, 1) := by decide +kernel
theorem d_Ptm_blend_86 : decode prog_17_method_8_code 86 = .ok (.invokevirtual 67, 3) := by decide +kernel
theorem d_Ptm_blend_89 : decode prog_17_method_8_code 89 = .ok (.ifCond .eq 4, 3) := by decide +kernel
theorem d_Ptm_blend_92 : decode prog_17_method_8_code 92 = .ok (.return_, 1) := by decide +kernel
theorem d_Ptm_blend_93 : decode prog_17_method_8_code 93 = .ok (.aload_n 0, 1) := by decide +kernel
theorem d_Ptm_blend_94 : decode prog_17_method_8_code 94 = .ok (.getfield 36, 3) := by decide +kernel
theorem d_Ptm_blend_97 : decode prog_17_method_8_code 97 = .ok (.iconst 0, 1) := by decide +kernel
theorem d_Ptm_blend_98 : decode prog_17_method_8_code 98 = .ok (.iload_n 1, 1) := by decide +kernel
theorem d_Ptm_blend_99 : decode prog_17_method_8_code 99 = .ok (.iastore, 1) := by decide +kernel
theorem d_Ptm_blend_100 : decode prog_17_method_8_code 100 = .ok (.aload_n 0, 1) := by decide +kernel
theorem d_Ptm_blend_101 : decode prog_17_method_8_code 101 = .ok (.getfield 36, 3) := by decide +kernel
theorem d_Ptm_blend_104 : decode prog_17_method_8_code 104 = .ok (.iconst 1, 1) := by decide +kernel
theorem d_Ptm_blend_105 : decode prog_17_method_8_code 105 = .ok (.iload_n 2, 1) := by decide +kernel
theorem d_Ptm_blend_106 : decode prog_17_method_8_code 106 = .ok (.iastore, 1) := by decide +kernel
theorem d_Ptm_blend_107 : decode prog_17_method_8_code 107 = .ok (.aload_n 0, 1) := by decide +kernel
theorem d_Ptm_blend_108 : decode prog_17_method_8_code 108 = .ok (.getfield 36, 3) := by decide +kernel
theorem d_Ptm_blend_111 : decode prog_17_method_8_code 111 = .ok (.iconst 2, 1) := by decide +kernel
theorem d_Ptm_blend_112 : decode prog_17_method_8_code 112 = .ok (.iload_n 3, 1) := by decide +kernel
theorem d_Ptm_blend_113 : decode prog_17_method_8_code 113 = .ok (.iastore, 1) := by decide +kernel
theorem d_Ptm_blend_114 : decode prog_17_method_8_code 114 = .ok (.aload_n 0, 1) := by decide +kernel
theorem d_Ptm_blend_115 : decode prog_17_method_8_code 115 = .ok (.getfield 36, 3) := by decide +kernel
theorem d_Ptm_blend_118 : decode prog_17_method_8_code 118 = .ok (.iconst 3, 1) := by decide +kernel
theorem d_Ptm_blend_119 : decode prog_17_method_8_code 119 = .ok (.iload 4, 2) := by decide +kernel
theorem d_Ptm_blend_121 : decode prog_17_method_8_code 121 = .ok (.iastore, 1) := by decide +kernel
theorem d_Ptm_blend_122 : decode prog_17_method_8_code 122 = .ok (.aload_n 0, 1) := by decide +kernel
theorem d_Ptm_blend_123 : decode prog_17_method_8_code 123 = .ok (.iload 5, 2) := by decide +kernel
theorem d_Ptm_blend_125 : decode prog_17_method_8_code 125 = .ok (.putfield 39, 3) := by decide +kernel
theorem d_Ptm_blend_128 : decode prog_17_method_8_code 128 = .ok (.aload_n 0, 1) := by decide +kernel
theorem d_Ptm_blend_129 : decode prog_17_method_8_code 129 = .ok (.iload 6, 2) := by decide +kernel
theorem d_Ptm_blend_131 : decode prog_17_method_8_code 131 = .ok (.putfield 84, 3) := by decide +kernel
theorem d_Ptm_blend_134 : decode prog_17_method_8_code 134 = .ok (.return_, 1) := by decide +kernel
def F_Ptm_blend_85 (σ : Sg) (v1 : Int32) (v2 : Int32) (v3 : Int32) (v4 : Int32) (v5 : Int32) (v6 : Int32) (s1 : Int32) : Option (Sg) := bd (F_Ptm_refuse σ s1 0) (fun o14 => if o14.2 = 0 then (lt (sA o14.1 50 (upd (o14.1.2.2.1 50) 0 v1)) (fun σ15 => lt (sA σ15 50 (upd (σ15.2.2.1 50) 1 v2)) (fun σ16 => lt (sA σ16 50 (upd (σ16.2.2.1 50) 2 v3)) (fun σ17 => lt (sA σ17 50 (upd (σ17.2.2.1 50) 3 v4)) (fun σ18 => lt (sI σ18 36 v5) (fun σ19 => lt (sI σ19 37 v6) (fun σ20 => some σ20))))))) else (some o14.1))
set_option maxRecDepth 10000 in
set_option maxHeartbeats 4000000 in
theorem bt_Ptm_blend_85 {p : Program} {l : Launch} {e : Env} {R : Room} {s : State} {m : MethodId} {args : Array Value} {below : List Frame} {meth : Method} {c : Code} {D : va_G} {τ : ClassId × ClassId × ClassId} {B : Nat} {A : Nat → Prop} {ad : Nat → Nat} (E : Cx p R s m args meth c prog_17_method_8_code 8 "DrawingMachineModel$PlaceTestsModel" 1 D τ B A) (hret : meth.sig.returnType = none) (o : Sg) (σ : Sg) (v1 : Int32) (v2 : Int32) (v3 : Int32) (v4 : Int32) (v5 : Int32) (v6 : Int32) (s1 : Int32) (h : F_Ptm_blend_85 σ v1 v2 v3 v4 v5 v6 s1 = some o) {H : Heap} {locs : List Loc} {ls : Array Slot} (w : Wd s D A (wdM τ σ ad) H locs) (hl : lv_has ls 8 [(0, .ref (ad 64)), (1, .int v1), (2, .int v2), (3, .int v3), (4, .int v4), (5, .int v5), (6, .int v6)]) : W p l e R s m args below meth c H locs 0 0 (QV below args s A D τ (wdM τ o ad)) (F0 m 85 ls [.int s1, .ref (ad 64)]) := by
  refine lv_iconst (v := 0) E.x E.b d_Ptm_blend_85 (by decide) ?_
  obtain ⟨o14, h_o14, h⟩ := bd_some h
  refine clV_Ptm_refuse E w (x0 := s1) (x1 := 0) h_o14 k1858 (by decide) hl.1 (Nat.le_of_ble_eq_true rfl) d_Ptm_blend_86 (fun H locs w => ?_)
  refine lv_if_eq (tgt := 93) E.x E.b d_Ptm_blend_89 (by decide) (fun c => ?_) (fun c => ?_)
  ·
    replace h := ifT c h
    refine lv_aload_n E.x E.b d_Ptm_blend_93 rfl (lv_at hl 0 rfl) ?_
    refine gM_Ptm_factors E w k1711 d_Ptm_blend_94 ?_
    refine lv_iconst (v := 0) E.x E.b d_Ptm_blend_97 (by decide) ?_
    refine lv_iload_n E.x E.b d_Ptm_blend_98 rfl (lv_at hl 1 rfl) ?_
    obtain ⟨σ15, e_σ15, h⟩ := lt_some h
    refine iasM E w (k := 50) (by decide) (show inb 0 4 by decide) e_σ15 d_Ptm_blend_99 (fun H locs w => ?_)
    refine lv_aload_n E.x E.b d_Ptm_blend_100 rfl (lv_at hl 0 rfl) ?_
    refine gM_Ptm_factors E w k1711 d_Ptm_blend_101 ?_
    refine lv_iconst (v := 1) E.x E.b d_Ptm_blend_104 (by decide) ?_
    refine lv_iload_n E.x E.b d_Ptm_blend_105 rfl (lv_at hl 2 rfl) ?_
    obtain ⟨σ16, e_σ16, h⟩ := lt_some h
    refine iasM E w (k := 50) (by decide) (show inb 1 4 by decide) e_σ16 d_Ptm_blend_106 (fun H locs w => ?_)
    refine lv_aload_n E.x E.b d_Ptm_blend_107 rfl (lv_at hl 0 rfl) ?_
    refine gM_Ptm_factors E w k1711 d_Ptm_blend_108 ?_
    refine lv_iconst (v := 2) E.x E.b d_Ptm_blend_111 (by decide) ?_
    refine lv_iload_n E.x E.b d_Ptm_blend_112 rfl (lv_at hl 3 rfl) ?_
    obtain ⟨σ17, e_σ17, h⟩ := lt_some h
    refine iasM E w (k := 50) (by decide) (show inb 2 4 by decide) e_σ17 d_Ptm_blend_113 (fun H locs w => ?_)
    refine lv_aload_n E.x E.b d_Ptm_blend_114 rfl (lv_at hl 0 rfl) ?_
    refine gM_Ptm_factors E w k1711 d_Ptm_blend_115 ?_
    refine lv_iconst (v := 3) E.x E.b d_Ptm_blend_118 (by decide) ?_
    refine lv_iload E.x E.b d_Ptm_blend_119 (lv_at hl 4 rfl) ?_
    obtain ⟨σ18, e_σ18, h⟩ := lt_some h
    refine iasM E w (k := 50) (by decide) (show inb 3 4 by decide) e_σ18 d_Ptm_blend_121 (fun H locs w => ?_)
    refine lv_aload_n E.x E.b d_Ptm_blend_122 rfl (lv_at hl 0 rfl) ?_
    refine lv_iload E.x E.b d_Ptm_blend_123 (lv_at hl 5 rfl) ?_
    obtain ⟨σ19, e_σ19, h⟩ := lt_some h
    refine pM_Ptm_equation E w k1712 e_σ19 d_Ptm_blend_125 (fun H locs w => ?_)
    refine lv_aload_n E.x E.b d_Ptm_blend_128 rfl (lv_at hl 0 rfl) ?_
    refine lv_iload E.x E.b d_Ptm_blend_129 (lv_at hl 6 rfl) ?_
    obtain ⟨σ20, e_σ20, h⟩ := lt_some h
    refine pM_Ptm_equationA E w k1713 e_σ20 d_Ptm_blend_131 (fun H locs w => ?_)
    obtain rfl := Option.some.inj h
    exact rt_v E w hret d_Ptm_blend_134
  ·
    replace h := ifF c h
    obtain rfl := Option.some.inj h
    exact rt_v E w hret d_Ptm_blend_92
def F_Ptm_blend_72 (σ : Sg) (v1 : Int32) (v2 : Int32) (v3 : Int32) (v4 : Int32) (v5 : Int32) (v6 : Int32) (s0 : Int32) : Option (Sg) := if s0 = 0 then (F_Ptm_blend_85 σ v1 v2 v3 v4 v5 v6 1) else (F_Ptm_blend_85 σ v1 v2 v3 v4 v5 v6 0)
set_option maxRecDepth 10000 in
set_option maxHeartbeats 4000000 in
theorem bt_Ptm_blend_72 {p : Program} {l : Launch} {e : Env} {R : Room} {s : State} {m : MethodId} {args : Array Value} {below : List Frame} {meth : Method} {c : Code} {D : va_G} {τ : ClassId × ClassId × ClassId} {B : Nat} {A : Nat → Prop} {ad : Nat → Nat} (E : Cx p R s m args meth c prog_17_method_8_code 8 "DrawingMachineModel$PlaceTestsModel" 1 D τ B A) (hret : meth.sig.returnType = none) (o : Sg) (σ : Sg) (v1 : Int32) (v2 : Int32) (v3 : Int32) (v4 : Int32) (v5 : Int32) (v6 : Int32) (s0 : Int32) (h : F_Ptm_blend_72 σ v1 v2 v3 v4 v5 v6 s0 = some o) {H : Heap} {locs : List Loc} {ls : Array Slot} (w : Wd s D A (wdM τ σ ad) H locs) (hl : lv_has ls 8 [(0, .ref (ad 64)), (1, .int v1), (2, .int v2), (3, .int v3), (4, .int v4), (5, .int v5), (6, .int v6)]) : W p l e R s m args below meth c H locs 0 0 (QV below args s A D τ (wdM τ o ad)) (F0 m 72 ls [.int s0]) := by
  refine lv_istore (lv' := [(7, .int s0), (0, .ref (ad 64)), (1, .int v1), (2, .int v2), (3, .int v3), (4, .int v4), (5, .int v5), (6, .int v6)]) E.x E.b d_Ptm_blend_72 hl (by decide) rfl (fun ls hl => ?_)
  refine lv_aload_n E.x E.b d_Ptm_blend_74 rfl (lv_at hl 1 rfl) ?_
  refine lv_iload E.x E.b d_Ptm_blend_75 (lv_at hl 0 rfl) ?_
  refine lv_if_ne (tgt := 84) E.x E.b d_Ptm_blend_77 (by decide) (fun c => ?_) (fun c => ?_)
  ·
    replace h := ifF c h
    refine lv_iconst (v := 0) E.x E.b d_Ptm_blend_84 (by decide) ?_
    exact bt_Ptm_blend_85 E hret o σ v1 v2 v3 v4 v5 v6 0 h w (lv_sub hl [1, 2, 3, 4, 5, 6, 7] rfl)
  ·
    replace h := ifT c h
    refine lv_iconst (v := 1) E.x E.b d_Ptm_blend_80 (by decide) ?_
    refine lv_goto (tgt := 85) E.x E.b d_Ptm_blend_81 (by decide) ?_
    exact bt_Ptm_blend_85 E hret o σ v1 v2 v3 v4 v5 v6 1 h w (lv_sub hl [1, 2, 3, 4, 5, 6, 7] rfl)
def F_Ptm_blend_71 (σ : Sg) (v1 : Int32) (v2 : Int32) (v3 : Int32) (v4 : Int32) (v5 : Int32) (v6 : Int32) : Option (Sg) := F_Ptm_blend_72 σ v1 v2 v3 v4 v5 v6 0
set_option maxRecDepth 10000 in
set_option maxHeartbeats 4000000 in
theorem bt_Ptm_blend_71 {p : Program} {l : Launch} {e : Env} {R : Room} {s : State} {m : MethodId} {args : Array Value} {below : List Frame} {meth : Method} {c : Code} {D : va_G} {τ : ClassId × ClassId × ClassId} {B : Nat} {A : Nat → Prop} {ad : Nat → Nat} (E : Cx p R s m args meth c prog_17_method_8_code 8 "DrawingMachineModel$PlaceTestsModel" 1 D τ B A) (hret : meth.sig.returnType = none) (o : Sg) (σ : Sg) (v1 : Int32) (v2 : Int32) (v3 : Int32) (v4 : Int32) (v5 : Int32) (v6 : Int32) (h : F_Ptm_blend_71 σ v1 v2 v3 v4 v5 v6 = some o) {H : Heap} {locs : List Loc} {ls : Array Slot} (w : Wd s D A (wdM τ σ ad) H locs) (hl : lv_has ls 8 [(0, .ref (ad 64)), (1, .int v1), (2, .int v2), (3, .int v3), (4, .int v4), (5, .int v5), (6, .int v6)]) : W p l e R s m args below meth c H locs 0 0 (QV below args s A D τ (wdM τ o ad)) (F0 m 71 ls []) := by
  refine lv_iconst (v := 0) E.x E.b d_Ptm_blend_71 (by decide) ?_
  exact bt_Ptm_blend_72 E hret o σ v1 v2 v3 v4 v5 v6 0 h w (lv_sub hl [0, 1, 2, 3, 4, 5, 6] rfl)
def F_Ptm_blend_67 (σ : Sg) (v1 : Int32) (v2 : Int32) (v3 : Int32) (v4 : Int32) (v5 : Int32) (v6 : Int32) : Option (Sg) := F_Ptm_blend_72 σ v1 v2 v3 v4 v5 v6 1
set_option maxRecDepth 10000 in
set_option maxHeartbeats 4000000 in
theorem bt_Ptm_blend_67 {p : Program} {l : Launch} {e : Env} {R : Room} {s : State} {m : MethodId} {args : Array Value} {below : List Frame} {meth : Method} {c : Code} {D : va_G} {τ : ClassId × ClassId × ClassId} {B : Nat} {A : Nat → Prop} {ad : Nat → Nat} (E : Cx p R s m args meth c prog_17_method_8_code 8 "DrawingMachineModel$PlaceTestsModel" 1 D τ B A) (hret : meth.sig.returnType = none) (o : Sg) (σ : Sg) (v1 : Int32) (v2 : Int32) (v3 : Int32) (v4 : Int32) (v5 : Int32) (v6 : Int32) (h : F_Ptm_blend_67 σ v1 v2 v3 v4 v5 v6 = some o) {H : Heap} {locs : List Loc} {ls : Array Slot} (w : Wd s D A (wdM τ σ ad) H locs) (hl : lv_has ls 8 [(0, .ref (ad 64)), (1, .int v1), (2, .int v2), (3, .int v3), (4, .int v4), (5, .int v5), (6, .int v6)]) : W p l e R s m args below meth c H locs 0 0 (QV below args s A D τ (wdM τ o ad)) (F0 m 67 ls []) := by
  refine lv_iconst (v := 1) E.x E.b d_Ptm_blend_67 (by decide) ?_
  refine lv_goto (tgt := 72) E.x E.b d_Ptm_blend_68 (by decide) ?_
  exact bt_Ptm_blend_72 E hret o σ v1 v2 v3 v4 v5 v6 1 h w (lv_sub hl [0, 1, 2, 3, 4, 5, 6] rfl)
def F_Ptm_blend (σ : Sg) (x0 : Int32) (x1 : Int32) (x2 : Int32) (x3 : Int32) (x4 : Int32) (x5 : Int32) : Option (Sg) := if x4 = (-1) then (F_Ptm_blend_67 σ x0 x1 x2 x3 x4 x5) else (bd (F_Ptm_in x0 0 14) (fun o21 => if o21 = 0 then (F_Ptm_blend_71 σ x0 x1 x2 x3 x4 x5) else (bd (F_Ptm_in x1 0 14) (fun o22 => if o22 = 0 then (F_Ptm_blend_71 σ x0 x1 x2 x3 x4 x5) else (bd (F_Ptm_in x2 0 14) (fun o23 => if o23 = 0 then (F_Ptm_blend_71 σ x0 x1 x2 x3 x4 x5) else (bd (F_Ptm_in x3 0 14) (fun o24 => if o24 = 0 then (F_Ptm_blend_71 σ x0 x1 x2 x3 x4 x5) else (bd (F_Ptm_in x4 0 4) (fun o25 => if o25 = 0 then (F_Ptm_blend_71 σ x0 x1 x2 x3 x4 x5) else (bd (F_Ptm_in x5 0 4) (fun o26 => if o26 = 0 then (F_Ptm_blend_71 σ x0 x1 x2 x3 x4 x5) else (F_Ptm_blend_67 σ x0 x1 x2 x3 x4 x5)))))))))))))
set_option maxRecDepth 10000 in
set_option maxHeartbeats 4000000 in
theorem c_Ptm_blend (l : Launch) (D : va_G) (τ : ClassId × ClassId × ClassId) (B : Nat) (σ : Sg) (ad : Nat → Nat) (x0 : Int32) (x1 : Int32) (x2 : Int32) (x3 : Int32) (x4 : Int32) (x5 : Int32) (o : Sg) (h : F_Ptm_blend σ x0 x1 x2 x3 x4 x5 = some o) : MV l y_Ptm_blend (Cond.code y_Ptm_blend prog_17_method_8_code 8 none) 1 D τ B [.ref (ad 64), .int x0, .int x1, .int x2, .int x3, .int x4, .int x5] (wdM τ σ ad) (wdM τ o ad) := by
  refine en_v (by decide) (Nat.le_of_ble_eq_true rfl) ?_
  intro p e R s m args below meth c H locs ls A E hret w hl
  have E : Cx p R s m args meth c prog_17_method_8_code 8 "DrawingMachineModel$PlaceTestsModel" 1 D τ B A := E
  have hl : lv_has ls 8 [(0, .ref (ad 64)), (1, .int x0), (2, .int x1), (3, .int x2), (4, .int x3), (5, .int x4), (6, .int x5)] := hl
  refine lv_iload E.x E.b d_Ptm_blend_0 (lv_at hl 5 rfl) ?_
  refine lv_iconst (v := (-1)) E.x E.b d_Ptm_blend_2 (by decide) ?_
  refine lv_icmp_eq (tgt := 67) E.x E.b d_Ptm_blend_3 (by decide) (fun c => ?_) (fun c => ?_)
  ·
    replace h := ifT c h
    exact bt_Ptm_blend_67 E hret o σ x0 x1 x2 x3 x4 x5 h w (lv_sub hl [0, 1, 2, 3, 4, 5, 6] rfl)
  ·
    replace h := ifF c h
    refine lv_iload_n E.x E.b d_Ptm_blend_6 rfl (lv_at hl 1 rfl) ?_
    refine lv_iconst (v := 0) E.x E.b d_Ptm_blend_7 (by decide) ?_
    refine lv_bipush (v := 14) E.x E.b d_Ptm_blend_8 (by decide) ?_
    obtain ⟨o21, h_o21, h⟩ := bd_some h
    refine clS_Ptm_in E w (x0 := x0) (x1 := 0) (x2 := 14) h_o21 k1855 (by decide) hl.1 (Nat.le_of_ble_eq_true rfl) d_Ptm_blend_10 (fun H locs w => ?_)
    refine lv_if_eq (tgt := 71) E.x E.b d_Ptm_blend_13 (by decide) (fun c => ?_) (fun c => ?_)
    ·
      replace h := ifT c h
      exact bt_Ptm_blend_71 E hret o σ x0 x1 x2 x3 x4 x5 h w (lv_sub hl [0, 1, 2, 3, 4, 5, 6] rfl)
    ·
      replace h := ifF c h
      refine lv_iload_n E.x E.b d_Ptm_blend_16 rfl (lv_at hl 2 rfl) ?_
      refine lv_iconst (v := 0) E.x E.b d_Ptm_blend_17 (by decide) ?_
      refine lv_bipush (v := 14) E.x E.b d_Ptm_blend_18 (by decide) ?_
      obtain ⟨o22, h_o22, h⟩ := bd_some h
      refine clS_Ptm_in E w (x0 := x1) (x1 := 0) (x2 := 14) h_o22 k1855 (by decide) hl.1 (Nat.le_of_ble_eq_true rfl) d_Ptm_blend_20 (fun H locs w => ?_)
      refine lv_if_eq (tgt := 71) E.x E.b d_Ptm_blend_23 (by decide) (fun c => ?_) (fun c => ?_)
      ·
        replace h := ifT c h
        exact bt_Ptm_blend_71 E hret o σ x0 x1 x2 x3 x4 x5 h w (lv_sub hl [0, 1, 2, 3, 4, 5, 6] rfl)
      ·
        replace h := ifF c h
        refine lv_iload_n E.x E.b d_Ptm_blend_26 rfl (lv_at hl 3 rfl) ?_
        refine lv_iconst (v := 0) E.x E.b d_Ptm_blend_27 (by decide) ?_
        refine lv_bipush (v := 14) E.x E.b d_Ptm_blend_28 (by decide) ?_
        obtain ⟨o23, h_o23, h⟩ := bd_some h
        refine clS_Ptm_in E w (x0 := x2) (x1 := 0) (x2 := 14) h_o23 k1855 (by decide) hl.1 (Nat.le_of_ble_eq_true rfl) d_Ptm_blend_30 (fun H locs w => ?_)
        refine lv_if_eq (tgt := 71) E.x E.b d_Ptm_blend_33 (by decide) (fun c => ?_) (fun c => ?_)
        ·
          replace h := ifT c h
          exact bt_Ptm_blend_71 E hret o σ x0 x1 x2 x3 x4 x5 h w (lv_sub hl [0, 1, 2, 3, 4, 5, 6] rfl)
        ·
          replace h := ifF c h
          refine lv_iload E.x E.b d_Ptm_blend_36 (lv_at hl 4 rfl) ?_
          refine lv_iconst (v := 0) E.x E.b d_Ptm_blend_38 (by decide) ?_
          refine lv_bipush (v := 14) E.x E.b d_Ptm_blend_39 (by decide) ?_
          obtain ⟨o24, h_o24, h⟩ := bd_some h
          refine clS_Ptm_in E w (x0 := x3) (x1 := 0) (x2 := 14) h_o24 k1855 (by decide) hl.1 (Nat.le_of_ble_eq_true rfl) d_Ptm_blend_41 (fun H locs w => ?_)
          refine lv_if_eq (tgt := 71) E.x E.b d_Ptm_blend_44 (by decide) (fun c => ?_) (fun c => ?_)
          ·
            replace h := ifT c h
            exact bt_Ptm_blend_71 E hret o σ x0 x1 x2 x3 x4 x5 h w (lv_sub hl [0, 1, 2, 3, 4, 5, 6] rfl)
          ·
            replace h := ifF c h
            refine lv_iload E.x E.b d_Ptm_blend_47 (lv_at hl 5 rfl) ?_
            refine lv_iconst (v := 0) E.x E.b d_Ptm_blend_49 (by decide) ?_
            refine lv_iconst (v := 4) E.x E.b d_Ptm_blend_50 (by decide) ?_
            obtain ⟨o25, h_o25, h⟩ := bd_some h
            refine clS_Ptm_in E w (x0 := x4) (x1 := 0) (x2 := 4) h_o25 k1855 (by decide) hl.1 (Nat.le_of_ble_eq_true rfl) d_Ptm_blend_51 (fun H locs w => ?_)
            refine lv_if_eq (tgt := 71) E.x E.b d_Ptm_blend_54 (by decide) (fun c => ?_) (fun c => ?_)
            ·
              replace h := ifT c h
              exact bt_Ptm_blend_71 E hret o σ x0 x1 x2 x3 x4 x5 h w (lv_sub hl [0, 1, 2, 3, 4, 5, 6] rfl)
            ·
              replace h := ifF c h
              refine lv_iload E.x E.b d_Ptm_blend_57 (lv_at hl 6 rfl) ?_
              refine lv_iconst (v := 0) E.x E.b d_Ptm_blend_59 (by decide) ?_
              refine lv_iconst (v := 4) E.x E.b d_Ptm_blend_60 (by decide) ?_
              obtain ⟨o26, h_o26, h⟩ := bd_some h
              refine clS_Ptm_in E w (x0 := x5) (x1 := 0) (x2 := 4) h_o26 k1855 (by decide) hl.1 (Nat.le_of_ble_eq_true rfl) d_Ptm_blend_61 (fun H locs w => ?_)
              refine lv_if_eq (tgt := 71) E.x E.b d_Ptm_blend_64 (by decide) (fun c => ?_) (fun c => ?_)
              ·
                replace h := ifT c h
                exact bt_Ptm_blend_71 E hret o σ x0 x1 x2 x3 x4 x5 h w (lv_sub hl [0, 1, 2, 3, 4, 5, 6] rfl)
              ·
                replace h := ifF c h
                exact bt_Ptm_blend_67 E hret o σ x0 x1 x2 x3 x4 x5 h w (lv_sub hl [0, 1, 2, 3, 4, 5, 6] rfl)
theorem clV_Ptm_blend {p : Program} {l : Launch} {e : Env} {R : Room} {s : State} {m : MethodId} {args : Array Value} {below : List Frame} {meth : Method} {c : Code} {H : Heap} {locs : List Loc} {Q : State → Prop} {cc : ByteArray} {nL pc lev : Nat} {own : String} {D : va_G} {τ : ClassId × ClassId × ClassId} {B : Nat} {A : Nat → Prop} {σ : Sg} {ad : Nat → Nat} {ls : Array Slot} {rest : List Value} (E : Cx p R s m args meth c cc nL own lev D τ B A) (w : Wd s D A (wdM τ σ ad) H locs) {x0 : Int32} {x1 : Int32} {x2 : Int32} {x3 : Int32} {x4 : Int32} {x5 : Int32} {o : Sg} (h : F_Ptm_blend σ x0 x1 x2 x3 x4 x5 = some o) {index : Nat} (hlk : Cond.methodLink own index y_Ptm_blend ∈ tw) (hlev : 1 < lev) (hsz : ls.size = nL) (hr : (rest.map fun v => v.category).sum ≤ 8) (hd : decode cc pc = .ok (.invokevirtual index, 3)) (kk : ∀ (H1 : Heap) (locs1 : List Loc), Wd s D A (wdM τ o ad) H1 locs1 → W p l e R s m args below meth c H1 locs1 0 0 Q (F0 m (pc + 3) ls (rest))) : W p l e R s m args below meth c H locs 0 0 Q (F0 m pc ls (.int x5 :: .int x4 :: .int x3 :: .int x2 :: .int x1 :: .int x0 :: .ref (ad 64) :: rest)) :=
  cr_v w E.C (va_runV (As := [.int x0, .int x1, .int x2, .int x3, .int x4, .int x5]) (rest := rest) E.fix (c_Ptm_blend l D τ B σ ad x0 x1 x2 x3 x4 x5 o h H.size) (cwV 6 E.w (tw_pre (tw_good k2008) (l := [_, _, _, _]) (List.forall_mem_cons.mpr ⟨hlk, List.forall_mem_cons.mpr ⟨k2006, List.forall_mem_cons.mpr ⟨k2007, List.forall_mem_cons.mpr ⟨k20, fun _ h => absurd h List.not_mem_nil⟩⟩⟩⟩)) rfl rfl rfl (by decide +kernel) (E.rm hlev (by decide))) (wd_preV w E.C [.int x0, .int x1, .int x2, .int x3, .int x4, .int x5] rcM_Ptm rfl) rfl rfl hsz rfl (lv_room hr) hd ⟨Nat.zero_le _, Nat.zero_le _⟩) kk

theorem d_Ptm_constant_0 : decode prog_17_method_9_code 0 = .ok (.aload_n 0, 1) := by decide +kernel
theorem d_Ptm_constant_1 : decode prog_17_method_9_code 1 = .ok (.iconst 0, 1) := by decide +kernel
theorem d_Ptm_constant_2 : decode prog_17_method_9_code 2 = .ok (.putfield 60, 3) := by decide +kernel
theorem d_Ptm_constant_5 : decode prog_17_method_9_code 5 = .ok (.iconst 0, 1) := by decide +kernel
theorem d_Ptm_constant_6 : decode prog_17_method_9_code 6 = .ok (.istore_n 2, 1) := by decide +kernel
theorem d_Ptm_constant_7 : decode prog_17_method_9_code 7 = .ok (.iload_n 2, 1) := by decide +kernel
theorem d_Ptm_constant_8 : decode prog_17_method_9_code 8 = .ok (.iconst 4, 1) := by decide +kernel
theorem d_Ptm_constant_9 : decode prog_17_method_9_code 9 = .ok (.if_icmp .ge 25, 3) := by decide +kernel
theorem d_Ptm_constant_12 : decode prog_17_method_9_code 12 = .ok (.aload_n 0, 1) := by decide +kernel
theorem d_Ptm_constant_13 : decode prog_17_method_9_code 13 = .ok (.getfield 42, 3) := by decide +kernel
theorem d_Ptm_constant_16 : decode prog_17_method_9_code 16 = .ok (.iload_n 2, 1) := by decide +kernel
theorem d_Ptm_constant_17 : decode prog_17_method_9_code 17 = .ok (.iload_n 1, 1) := by decide +kernel
theorem d_Ptm_constant_18 : decode prog_17_method_9_code 18 = .ok (.bipush 8, 2) := by decide +kernel
theorem d_Ptm_constant_20 : decode prog_17_method_9_code 20 = .ok (.iload_n 2, 1) := by decide +kernel
theorem d_Ptm_constant_21 : decode prog_17_method_9_code 21 = .ok (.imul, 1) := by decide +kernel
theorem d_Ptm_constant_22 : decode prog_17_method_9_code 22 = .ok (.ishr, 1) := by decide +kernel
theorem d_Ptm_constant_23 : decode prog_17_method_9_code 23 = .ok (.sipush 255, 3) := by decide +kernel
theorem d_Ptm_constant_26 : decode prog_17_method_9_code 26 = .ok (.iand, 1) := by decide +kernel
theorem d_Ptm_constant_27 : decode prog_17_method_9_code 27 = .ok (.iastore, 1) := by decide +kernel
theorem d_Ptm_constant_28 : decode prog_17_method_9_code 28 = .ok (.iinc 2 1, 3) := by decide +kernel
theorem d_Ptm_constant_31 : decode prog_17_method_9_code 31 = .ok (.goto (-24), 3) := by decide +kernel
theorem d_Ptm_constant_34 : decode prog_17_method_9_code 34 = .ok (.return_, 1) := by decide +kernel
def L_Ptm_constant_7 : Nat → Sg → Int32 → Int32 → Option (Sg)
  | 0, _, _, _ => none
  | n + 1, σ, v1, v2 => if 4 ≤ v2 then (some σ) else (ck (inb v2 4) (lt (sA σ 51 (upd (σ.2.2.1 51) v2.toNatClampNeg ((v1 >>> ((8 * v2) &&& 31)) &&& 255))) (fun σ6 => lt (v2 + 1) (fun y7 => L_Ptm_constant_7 n σ6 v1 y7))))
set_option maxRecDepth 10000 in
set_option maxHeartbeats 4000000 in
theorem lt_Ptm_constant_7 {p : Program} {l : Launch} {e : Env} {R : Room} {s : State} {m : MethodId} {args : Array Value} {below : List Frame} {meth : Method} {c : Code} {D : va_G} {τ : ClassId × ClassId × ClassId} {B : Nat} {A : Nat → Prop} {ad : Nat → Nat} (E : Cx p R s m args meth c prog_17_method_9_code 3 "DrawingMachineModel$PlaceTestsModel" 0 D τ B A) (hret : meth.sig.returnType = none) (o : Sg) : ∀ (n : Nat) (σ : Sg) (v1 : Int32) (v2 : Int32) (H : Heap) (locs : List Loc) (ls : Array Slot), L_Ptm_constant_7 n σ v1 v2 = some o → Wd s D A (wdM τ σ ad) H locs → lv_has ls 3 [(0, .ref (ad 64)), (1, .int v1), (2, .int v2)] → W p l e R s m args below meth c H locs 0 0 (QV below args s A D τ (wdM τ o ad)) (F0 m 7 ls []) := by
  intro n
  induction n with
  | zero =>
    intro σ v1 v2 H locs ls h w hl
    cases h
  | succ n hr_7 =>
    intro σ v1 v2 H locs ls h w hl
    refine lv_iload_n E.x E.b d_Ptm_constant_7 rfl (lv_at hl 2 rfl) ?_
    refine lv_iconst (v := 4) E.x E.b d_Ptm_constant_8 (by decide) ?_
    refine lv_icmp_ge (tgt := 34) E.x E.b d_Ptm_constant_9 (by decide) (fun c => ?_) (fun c => ?_)
    ·
      replace h := ifT c h
      obtain rfl := Option.some.inj h
      exact rt_v E w hret d_Ptm_constant_34
    ·
      replace h := ifF c h
      refine lv_aload_n E.x E.b d_Ptm_constant_12 rfl (lv_at hl 0 rfl) ?_
      refine gM_Ptm_constant E w k1714 d_Ptm_constant_13 ?_
      refine lv_iload_n E.x E.b d_Ptm_constant_16 rfl (lv_at hl 2 rfl) ?_
      refine lv_iload_n E.x E.b d_Ptm_constant_17 rfl (lv_at hl 1 rfl) ?_
      refine lv_bipush (v := 8) E.x E.b d_Ptm_constant_18 (by decide) ?_
      refine lv_iload_n E.x E.b d_Ptm_constant_20 rfl (lv_at hl 2 rfl) ?_
      refine lv_imul E.x E.b d_Ptm_constant_21 ?_
      refine lv_ishr E.x E.b d_Ptm_constant_22 ?_
      refine lv_sipush (v := 255) E.x E.b d_Ptm_constant_23 (by decide) ?_
      refine lv_iand E.x E.b d_Ptm_constant_26 ?_
      obtain ⟨c5, h⟩ := ck_some h
      obtain ⟨σ6, e_σ6, h⟩ := lt_some h
      refine iasM E w (k := 51) (by decide) c5 e_σ6 d_Ptm_constant_27 (fun H locs w => ?_)
      obtain ⟨y7, e_y7, h⟩ := lt_some h
      refine lv_iinc (v := y7) (lv' := [(2, .int y7), (0, .ref (ad 64)), (1, .int v1)]) E.x E.b d_Ptm_constant_28 hl (k := 2) rfl (e_y7) (by decide) rfl (fun ls hl => ?_)
      refine lv_goto (tgt := 7) E.x E.b d_Ptm_constant_31 (by decide) ?_
      exact hr_7 σ6 v1 y7 _ _ _ h w (lv_sub hl [1, 2, 0] rfl)
def F_Ptm_constant (σ : Sg) (x0 : Int32) : Option (Sg) := lt (sI σ 28 0) (fun σ8 => L_Ptm_constant_7 100000 σ8 x0 0)
set_option maxRecDepth 10000 in
set_option maxHeartbeats 4000000 in
theorem c_Ptm_constant (l : Launch) (D : va_G) (τ : ClassId × ClassId × ClassId) (B : Nat) (σ : Sg) (ad : Nat → Nat) (x0 : Int32) (o : Sg) (h : F_Ptm_constant σ x0 = some o) : MV l y_Ptm_constant (Cond.code y_Ptm_constant prog_17_method_9_code 3 none) 0 D τ B [.ref (ad 64), .int x0] (wdM τ σ ad) (wdM τ o ad) := by
  refine en_v (by decide) (Nat.le_of_ble_eq_true rfl) ?_
  intro p e R s m args below meth c H locs ls A E hret w hl
  have E : Cx p R s m args meth c prog_17_method_9_code 3 "DrawingMachineModel$PlaceTestsModel" 0 D τ B A := E
  have hl : lv_has ls 3 [(0, .ref (ad 64)), (1, .int x0)] := hl
  refine lv_aload_n E.x E.b d_Ptm_constant_0 rfl (lv_at hl 0 rfl) ?_
  refine lv_iconst (v := 0) E.x E.b d_Ptm_constant_1 (by decide) ?_
  obtain ⟨σ8, e_σ8, h⟩ := lt_some h
  refine pM_Ptm_thrown E w k1698 e_σ8 d_Ptm_constant_2 (fun H locs w => ?_)
  refine lv_iconst (v := 0) E.x E.b d_Ptm_constant_5 (by decide) ?_
  refine lv_istore_n (lv' := [(2, .int 0), (0, .ref (ad 64)), (1, .int x0)]) E.x E.b d_Ptm_constant_6 rfl hl (by decide) rfl (fun ls hl => ?_)
  exact lt_Ptm_constant_7 E hret o 100000 σ8 x0 0 _ _ _ h w (lv_sub hl [1, 2, 0] rfl)
theorem clV_Ptm_constant {p : Program} {l : Launch} {e : Env} {R : Room} {s : State} {m : MethodId} {args : Array Value} {below : List Frame} {meth : Method} {c : Code} {H : Heap} {locs : List Loc} {Q : State → Prop} {cc : ByteArray} {nL pc lev : Nat} {own : String} {D : va_G} {τ : ClassId × ClassId × ClassId} {B : Nat} {A : Nat → Prop} {σ : Sg} {ad : Nat → Nat} {ls : Array Slot} {rest : List Value} (E : Cx p R s m args meth c cc nL own lev D τ B A) (w : Wd s D A (wdM τ σ ad) H locs) {x0 : Int32} {o : Sg} (h : F_Ptm_constant σ x0 = some o) {index : Nat} (hlk : Cond.methodLink own index y_Ptm_constant ∈ tw) (hlev : 0 < lev) (hsz : ls.size = nL) (hr : (rest.map fun v => v.category).sum ≤ 8) (hd : decode cc pc = .ok (.invokevirtual index, 3)) (kk : ∀ (H1 : Heap) (locs1 : List Loc), Wd s D A (wdM τ o ad) H1 locs1 → W p l e R s m args below meth c H1 locs1 0 0 Q (F0 m (pc + 3) ls (rest))) : W p l e R s m args below meth c H locs 0 0 Q (F0 m pc ls (.int x0 :: .ref (ad 64) :: rest)) :=
  cr_v w E.C (va_runV (As := [.int x0]) (rest := rest) E.fix (c_Ptm_constant l D τ B σ ad x0 o h H.size) (cwV 1 E.w (tw_pre (tw_good k2012) (l := [_, _, _, _]) (List.forall_mem_cons.mpr ⟨hlk, List.forall_mem_cons.mpr ⟨k2010, List.forall_mem_cons.mpr ⟨k2011, List.forall_mem_cons.mpr ⟨k20, fun _ h => absurd h List.not_mem_nil⟩⟩⟩⟩)) rfl rfl rfl (by decide +kernel) (E.rm hlev (by decide))) (wd_preV w E.C [.int x0] rcM_Ptm rfl) rfl rfl hsz rfl (lv_room hr) hd ⟨Nat.zero_le _, Nat.zero_le _⟩) kk

theorem d_Ptm_depth_0 : decode prog_17_method_6_code 0 = .ok (.aload_n 0, 1) := by decide +kernel
theorem d_Ptm_depth_1 : decode prog_17_method_6_code 1 = .ok (.iload_n 1, 1) := by decide +kernel
theorem d_Ptm_depth_2 : decode prog_17_method_6_code 2 = .ok (.iconst (-1), 1) := by decide +kernel
theorem d_Ptm_depth_3 : decode prog_17_method_6_code 3 = .ok (.bipush 7, 2) := by decide +kernel
theorem d_Ptm_depth_5 : decode prog_17_method_6_code 5 = .ok (.invokestatic 63, 3) := by decide +kernel
theorem d_Ptm_depth_8 : decode prog_17_method_6_code 8 = .ok (.ifCond .ne 7, 3) := by decide +kernel
theorem d_Ptm_depth_11 : decode prog_17_method_6_code 11 = .ok (.iconst 1, 1) := by decide +kernel
theorem d_Ptm_depth_12 : decode prog_17_method_6_code 12 = .ok (.goto 4, 3) := by decide +kernel
theorem d_Ptm_depth_15 : decode prog_17_method_6_code 15 = .ok (.iconst 0, 1) := by decide +kernel
theorem d_Ptm_depth_16 : decode prog_17_method_6_code 16 = .ok (.iconst 0, 1) := by decide +kernel
theorem d_Ptm_depth_17 : decode prog_17_method_6_code 17 = .ok (.invokevirtual 67, 3) := by decide +kernel
theorem d_Ptm_depth_20 : decode prog_17_method_6_code 20 = .ok (.ifCond .eq 4, 3) := by decide +kernel
theorem d_Ptm_depth_23 : decode prog_17_method_6_code 23 = .ok (.return_, 1) := by decide +kernel
theorem d_Ptm_depth_24 : decode prog_17_method_6_code 24 = .ok (.aload_n 0, 1) := by decide +kernel
theorem d_Ptm_depth_25 : decode prog_17_method_6_code 25 = .ok (.iload_n 1, 1) := by decide +kernel
theorem d_Ptm_depth_26 : decode prog_17_method_6_code 26 = .ok (.putfield 30, 3) := by decide +kernel
theorem d_Ptm_depth_29 : decode prog_17_method_6_code 29 = .ok (.aload_n 0, 1) := by decide +kernel
theorem d_Ptm_depth_30 : decode prog_17_method_6_code 30 = .ok (.iload_n 2, 1) := by decide +kernel
theorem d_Ptm_depth_31 : decode prog_17_method_6_code 31 = .ok (.putfield 81, 3) := by decide +kernel
theorem d_Ptm_depth_34 : decode prog_17_method_6_code 34 = .ok (.return_, 1) := by decide +kernel
def F_Ptm_depth_16 (σ : Sg) (v1 : Int32) (v2 : Int32) (s1 : Int32) : Option (Sg) := bd (F_Ptm_refuse σ s1 0) (fun o6 => if o6.2 = 0 then (lt (sI o6.1 34 v1) (fun σ7 => ck (v2 = 0 ∨ v2 = 1) (lt (sI σ7 35 v2) (fun σ9 => some σ9)))) else (some o6.1))
set_option maxRecDepth 10000 in
set_option maxHeartbeats 4000000 in
theorem bt_Ptm_depth_16 {p : Program} {l : Launch} {e : Env} {R : Room} {s : State} {m : MethodId} {args : Array Value} {below : List Frame} {meth : Method} {c : Code} {D : va_G} {τ : ClassId × ClassId × ClassId} {B : Nat} {A : Nat → Prop} {ad : Nat → Nat} (E : Cx p R s m args meth c prog_17_method_6_code 3 "DrawingMachineModel$PlaceTestsModel" 1 D τ B A) (hret : meth.sig.returnType = none) (o : Sg) (σ : Sg) (v1 : Int32) (v2 : Int32) (s1 : Int32) (h : F_Ptm_depth_16 σ v1 v2 s1 = some o) {H : Heap} {locs : List Loc} {ls : Array Slot} (w : Wd s D A (wdM τ σ ad) H locs) (hl : lv_has ls 3 [(0, .ref (ad 64)), (1, .int v1), (2, .int v2)]) : W p l e R s m args below meth c H locs 0 0 (QV below args s A D τ (wdM τ o ad)) (F0 m 16 ls [.int s1, .ref (ad 64)]) := by
  refine lv_iconst (v := 0) E.x E.b d_Ptm_depth_16 (by decide) ?_
  obtain ⟨o6, h_o6, h⟩ := bd_some h
  refine clV_Ptm_refuse E w (x0 := s1) (x1 := 0) h_o6 k1858 (by decide) hl.1 (Nat.le_of_ble_eq_true rfl) d_Ptm_depth_17 (fun H locs w => ?_)
  refine lv_if_eq (tgt := 24) E.x E.b d_Ptm_depth_20 (by decide) (fun c => ?_) (fun c => ?_)
  ·
    replace h := ifT c h
    refine lv_aload_n E.x E.b d_Ptm_depth_24 rfl (lv_at hl 0 rfl) ?_
    refine lv_iload_n E.x E.b d_Ptm_depth_25 rfl (lv_at hl 1 rfl) ?_
    obtain ⟨σ7, e_σ7, h⟩ := lt_some h
    refine pM_Ptm_depthTest E w k1708 e_σ7 d_Ptm_depth_26 (fun H locs w => ?_)
    refine lv_aload_n E.x E.b d_Ptm_depth_29 rfl (lv_at hl 0 rfl) ?_
    refine lv_iload_n E.x E.b d_Ptm_depth_30 rfl (lv_at hl 2 rfl) ?_
    obtain ⟨c8, h⟩ := ck_some h
    obtain ⟨σ9, e_σ9, h⟩ := lt_some h
    refine pM_Ptm_depthWritten E w k1709 c8 e_σ9 d_Ptm_depth_31 (fun H locs w => ?_)
    obtain rfl := Option.some.inj h
    exact rt_v E w hret d_Ptm_depth_34
  ·
    replace h := ifF c h
    obtain rfl := Option.some.inj h
    exact rt_v E w hret d_Ptm_depth_23
def F_Ptm_depth (σ : Sg) (x0 : Int32) (x1 : Int32) : Option (Sg) := bd (F_Ptm_in x0 (-1) 7) (fun o10 => if o10 = 0 then (F_Ptm_depth_16 σ x0 x1 1) else (F_Ptm_depth_16 σ x0 x1 0))
set_option maxRecDepth 10000 in
set_option maxHeartbeats 4000000 in
theorem c_Ptm_depth (l : Launch) (D : va_G) (τ : ClassId × ClassId × ClassId) (B : Nat) (σ : Sg) (ad : Nat → Nat) (x0 : Int32) (x1 : Int32) (o : Sg) (h : F_Ptm_depth σ x0 x1 = some o) : MV l y_Ptm_depth (Cond.code y_Ptm_depth prog_17_method_6_code 3 none) 1 D τ B [.ref (ad 64), .int x0, .int x1] (wdM τ σ ad) (wdM τ o ad) := by
  refine en_v (by decide) (Nat.le_of_ble_eq_true rfl) ?_
  intro p e R s m args below meth c H locs ls A E hret w hl
  have E : Cx p R s m args meth c prog_17_method_6_code 3 "DrawingMachineModel$PlaceTestsModel" 1 D τ B A := E
  have hl : lv_has ls 3 [(0, .ref (ad 64)), (1, .int x0), (2, .int x1)] := hl
  refine lv_aload_n E.x E.b d_Ptm_depth_0 rfl (lv_at hl 0 rfl) ?_
  refine lv_iload_n E.x E.b d_Ptm_depth_1 rfl (lv_at hl 1 rfl) ?_
  refine lv_iconst (v := (-1)) E.x E.b d_Ptm_depth_2 (by decide) ?_
  refine lv_bipush (v := 7) E.x E.b d_Ptm_depth_3 (by decide) ?_
  obtain ⟨o10, h_o10, h⟩ := bd_some h
  refine clS_Ptm_in E w (x0 := x0) (x1 := (-1)) (x2 := 7) h_o10 k1855 (by decide) hl.1 (Nat.le_of_ble_eq_true rfl) d_Ptm_depth_5 (fun H locs w => ?_)
  refine lv_if_ne (tgt := 15) E.x E.b d_Ptm_depth_8 (by decide) (fun c => ?_) (fun c => ?_)
  ·
    replace h := ifF c h
    refine lv_iconst (v := 0) E.x E.b d_Ptm_depth_15 (by decide) ?_
    exact bt_Ptm_depth_16 E hret o σ x0 x1 0 h w (lv_sub hl [0, 1, 2] rfl)
  ·
    replace h := ifT c h
    refine lv_iconst (v := 1) E.x E.b d_Ptm_depth_11 (by decide) ?_
    refine lv_goto (tgt := 16) E.x E.b d_Ptm_depth_12 (by decide) ?_
    exact bt_Ptm_depth_16 E hret o σ x0 x1 1 h w (lv_sub hl [0, 1, 2] rfl)
theorem clV_Ptm_depth {p : Program} {l : Launch} {e : Env} {R : Room} {s : State} {m : MethodId} {args : Array Value} {below : List Frame} {meth : Method} {c : Code} {H : Heap} {locs : List Loc} {Q : State → Prop} {cc : ByteArray} {nL pc lev : Nat} {own : String} {D : va_G} {τ : ClassId × ClassId × ClassId} {B : Nat} {A : Nat → Prop} {σ : Sg} {ad : Nat → Nat} {ls : Array Slot} {rest : List Value} (E : Cx p R s m args meth c cc nL own lev D τ B A) (w : Wd s D A (wdM τ σ ad) H locs) {x0 : Int32} {x1 : Int32} {o : Sg} (h : F_Ptm_depth σ x0 x1 = some o) {index : Nat} (hlk : Cond.methodLink own index y_Ptm_depth ∈ tw) (hlev : 1 < lev) (hsz : ls.size = nL) (hr : (rest.map fun v => v.category).sum ≤ 8) (hd : decode cc pc = .ok (.invokevirtual index, 3)) (kk : ∀ (H1 : Heap) (locs1 : List Loc), Wd s D A (wdM τ o ad) H1 locs1 → W p l e R s m args below meth c H1 locs1 0 0 Q (F0 m (pc + 3) ls (rest))) : W p l e R s m args below meth c H locs 0 0 Q (F0 m pc ls (.int x1 :: .int x0 :: .ref (ad 64) :: rest)) :=
  cr_v w E.C (va_runV (As := [.int x0, .int x1]) (rest := rest) E.fix (c_Ptm_depth l D τ B σ ad x0 x1 o h H.size) (cwV 2 E.w (tw_pre (tw_good k2000) (l := [_, _, _, _]) (List.forall_mem_cons.mpr ⟨hlk, List.forall_mem_cons.mpr ⟨k1998, List.forall_mem_cons.mpr ⟨k1999, List.forall_mem_cons.mpr ⟨k20, fun _ h => absurd h List.not_mem_nil⟩⟩⟩⟩)) rfl rfl rfl (by decide +kernel) (E.rm hlev (by decide))) (wd_preV w E.C [.int x0, .int x1] rcM_Ptm rfl) rfl rfl hsz rfl (lv_room hr) hd ⟨Nat.zero_le _, Nat.zero_le _⟩) kk
