theorem d_Mod_step_0 : decode prog_14_method_13_code 0 = .ok (.iconst 0, 1) := by decide +kernel
theorem d_Mod_step_1 : decode prog_14_method_13_code 1 = .ok (.istore_n 1, 1) := by decide +kernel
theorem d_Mod_step_2 : decode prog_14_method_13_code 2 = .ok (.iload_n 1, 1) := by decide +kernel
theorem d_Mod_step_3 : decode prog_14_method_13_code 3 = .ok (.iconst 4, 1) := by decide +kernel
theorem d_Mod_step_4 : decode prog_14_method_13_code 4 = .ok (.if_icmp .ge 35, 3) := by decide +kernel
theorem d_Mod_step_7 : decode prog_14_method_13_code 7 = .ok (.aload_n 0, 1) := by decide +kernel
theorem d_Mod_step_8 : decode prog_14_method_13_code 8 = .ok (.getfield 78, 3) := by decide +kernel
theorem d_Mod_step_11 : decode prog_14_method_13_code 11 = .ok (.iload_n 1, 1) := by decide +kernel
theorem d_Mod_step_12 : decode prog_14_method_13_code 12 = .ok (.aload_n 0, 1) := by decide +kernel
theorem d_Mod_step_13 : decode prog_14_method_13_code 13 = .ok (.iload_n 1, 1) := by decide +kernel
theorem d_Mod_step_14 : decode prog_14_method_13_code 14 = .ok (.iconst 2, 1) := by decide +kernel
theorem d_Mod_step_15 : decode prog_14_method_13_code 15 = .ok (.if_icmp .ge 8, 3) := by decide +kernel
theorem d_Mod_step_18 : decode prog_14_method_13_code 18 = .ok (.bipush 7, 2) := by decide +kernel
theorem d_Mod_step_20 : decode prog_14_method_13_code 20 = .ok (.goto 5, 3) := by decide +kernel
theorem d_Mod_step_23 : decode prog_14_method_13_code 23 = .ok (.bipush 8, 2) := by decide +kernel
theorem d_Mod_step_25 : decode prog_14_method_13_code 25 = .ok (.iconst 0, 1) := by decide +kernel
theorem d_Mod_step_26 : decode prog_14_method_13_code 26 = .ok (.iload_n 1, 1) := by decide +kernel
theorem d_Mod_step_27 : decode prog_14_method_13_code 27 = .ok (.iconst 2, 1) := by decide +kernel
theorem d_Mod_step_28 : decode prog_14_method_13_code 28 = .ok (.irem, 1) := by decide +kernel
theorem d_Mod_step_29 : decode prog_14_method_13_code 29 = .ok (.invokevirtual 140, 3) := by decide +kernel
theorem d_Mod_step_32 : decode prog_14_method_13_code 32 = .ok (.iastore, 1) := by decide +kernel
theorem d_Mod_step_33 : decode prog_14_method_13_code 33 = .ok (.iinc 1 1, 3) := by decide +kernel
theorem d_Mod_step_36 : decode prog_14_method_13_code 36 = .ok (.goto (-34), 3) := by decide +kernel
theorem d_Mod_step_39 : decode prog_14_method_13_code 39 = .ok (.aload_n 0, 1) := by decide +kernel
theorem d_Mod_step_40 : decode prog_14_method_13_code 40 = .ok (.getfield 19, 3) := by decide +kernel
theorem d_Mod_step_43 : decode prog_14_method_13_code 43 = .ok (.invokevirtual 143, 3) := by decide +kernel
theorem d_Mod_step_46 : decode prog_14_method_13_code 46 = .ok (.istore_n 1, 1) := by decide +kernel
theorem d_Mod_step_47 : decode prog_14_method_13_code 47 = .ok (.iload_n 1, 1) := by decide +kernel
theorem d_Mod_step_48 : decode prog_14_method_13_code 48 = .ok (.tableswitch 261 (-1) 20 #[104, 261, 106, 261, 261, 261, 261, 261, 156, 166, 261, 261, 261, 261, 261, 261, 261, 261, 176, 176, 225, 255], 104) := by decide +kernel
theorem d_Mod_step_152 : decode prog_14_method_13_code 152 = .ok (.iconst 0, 1) := by decide +kernel
theorem d_Mod_step_153 : decode prog_14_method_13_code 153 = .ok (.ireturn, 1) := by decide +kernel
theorem d_Mod_step_154 : decode prog_14_method_13_code 154 = .ok (.aload_n 0, 1) := by decide +kernel
theorem d_Mod_step_155 : decode prog_14_method_13_code 155 = .ok (.invokevirtual 147, 3) := by decide +kernel
theorem d_Mod_step_158 : decode prog_14_method_13_code 158 = .ok (.aload_n 0, 1) := by decide +kernel
theorem d_Mod_step_159 : decode prog_14_method_13_code 159 = .ok (.getfield 65, 3) := by decide +kernel
theorem d_Mod_step_162 : decode prog_14_method_13_code 162 = .ok (.aload_n 0, 1) := by decide +kernel
theorem d_Mod_step_163 : decode prog_14_method_13_code 163 = .ok (.getfield 19, 3) := by decide +kernel
theorem d_Mod_step_166 : decode prog_14_method_13_code 166 = .ok (.getfield 150, 3) := by decide +kernel
theorem d_Mod_step_169 : decode prog_14_method_13_code 169 = .ok (.iconst 0, 1) := by decide +kernel
theorem d_Mod_step_170 : decode prog_14_method_13_code 170 = .ok (.iaload, 1) := by decide +kernel
theorem d_Mod_step_171 : decode prog_14_method_13_code 171 = .ok (.aload_n 0, 1) := by decide +kernel
theorem d_Mod_step_172 : decode prog_14_method_13_code 172 = .ok (.getfield 19, 3) := by decide +kernel
theorem d_Mod_step_175 : decode prog_14_method_13_code 175 = .ok (.getfield 150, 3) := by decide +kernel
theorem d_Mod_step_178 : decode prog_14_method_13_code 178 = .ok (.iconst 1, 1) := by decide +kernel
theorem d_Mod_step_179 : decode prog_14_method_13_code 179 = .ok (.iaload, 1) := by decide +kernel
theorem d_Mod_step_180 : decode prog_14_method_13_code 180 = .ok (.aload_n 0, 1) := by decide +kernel
theorem d_Mod_step_181 : decode prog_14_method_13_code 181 = .ok (.getfield 19, 3) := by decide +kernel
theorem d_Mod_step_184 : decode prog_14_method_13_code 184 = .ok (.getfield 150, 3) := by decide +kernel
theorem d_Mod_step_187 : decode prog_14_method_13_code 187 = .ok (.iconst 2, 1) := by decide +kernel
theorem d_Mod_step_188 : decode prog_14_method_13_code 188 = .ok (.iaload, 1) := by decide +kernel
theorem d_Mod_step_189 : decode prog_14_method_13_code 189 = .ok (.aload_n 0, 1) := by decide +kernel
theorem d_Mod_step_190 : decode prog_14_method_13_code 190 = .ok (.getfield 19, 3) := by decide +kernel
theorem d_Mod_step_193 : decode prog_14_method_13_code 193 = .ok (.getfield 150, 3) := by decide +kernel
theorem d_Mod_step_196 : decode prog_14_method_13_code 196 = .ok (.iconst 3, 1) := by decide +kernel
theorem d_Mod_step_197 : decode prog_14_method_13_code 197 = .ok (.iaload, 1) := by decide +kernel
theorem d_Mod_step_198 : decode prog_14_method_13_code 198 = .ok (.invokevirtual 153, 3) := by decide +kernel
theorem d_Mod_step_201 : decode prog_14_method_13_code 201 = .ok (.pop, 1) := by decide +kernel
theorem d_Mod_step_202 : decode prog_14_method_13_code 202 = .ok (.iconst 1, 1) := by decide +kernel
theorem d_Mod_step_203 : decode prog_14_method_13_code 203 = .ok (.ireturn, 1) := by decide +kernel
theorem d_Mod_step_204 : decode prog_14_method_13_code 204 = .ok (.aload_n 0, 1) := by decide +kernel
theorem d_Mod_step_205 : decode prog_14_method_13_code 205 = .ok (.aload_n 0, 1) := by decide +kernel
theorem d_Mod_step_206 : decode prog_14_method_13_code 206 = .ok (.getfield 41, 3) := by decide +kernel
theorem d_Mod_step_209 : decode prog_14_method_13_code 209 = .ok (.iconst 0, 1) := by decide +kernel
theorem d_Mod_step_210 : decode prog_14_method_13_code 210 = .ok (.invokevirtual 157, 3) := by decide +kernel
theorem d_Mod_step_213 : decode prog_14_method_13_code 213 = .ok (.ireturn, 1) := by decide +kernel
theorem d_Mod_step_214 : decode prog_14_method_13_code 214 = .ok (.aload_n 0, 1) := by decide +kernel
theorem d_Mod_step_215 : decode prog_14_method_13_code 215 = .ok (.aload_n 0, 1) := by decide +kernel
theorem d_Mod_step_216 : decode prog_14_method_13_code 216 = .ok (.getfield 45, 3) := by decide +kernel
theorem d_Mod_step_219 : decode prog_14_method_13_code 219 = .ok (.iconst 1, 1) := by decide +kernel
theorem d_Mod_step_220 : decode prog_14_method_13_code 220 = .ok (.invokevirtual 157, 3) := by decide +kernel
theorem d_Mod_step_223 : decode prog_14_method_13_code 223 = .ok (.ireturn, 1) := by decide +kernel
theorem d_Mod_step_224 : decode prog_14_method_13_code 224 = .ok (.aload_n 0, 1) := by decide +kernel
theorem d_Mod_step_225 : decode prog_14_method_13_code 225 = .ok (.invokevirtual 161, 3) := by decide +kernel
theorem d_Mod_step_228 : decode prog_14_method_13_code 228 = .ok (.ifCond .eq 10, 3) := by decide +kernel
theorem d_Mod_step_231 : decode prog_14_method_13_code 231 = .ok (.aload_n 0, 1) := by decide +kernel
theorem d_Mod_step_232 : decode prog_14_method_13_code 232 = .ok (.bipush 8, 2) := by decide +kernel
theorem d_Mod_step_234 : decode prog_14_method_13_code 234 = .ok (.invokevirtual 164, 3) := by decide +kernel
theorem d_Mod_step_237 : decode prog_14_method_13_code 237 = .ok (.ireturn, 1) := by decide +kernel
theorem d_Mod_step_238 : decode prog_14_method_13_code 238 = .ok (.aload_n 0, 1) := by decide +kernel
theorem d_Mod_step_239 : decode prog_14_method_13_code 239 = .ok (.aload_n 0, 1) := by decide +kernel
theorem d_Mod_step_240 : decode prog_14_method_13_code 240 = .ok (.getfield 19, 3) := by decide +kernel
theorem d_Mod_step_243 : decode prog_14_method_13_code 243 = .ok (.getfield 150, 3) := by decide +kernel
theorem d_Mod_step_246 : decode prog_14_method_13_code 246 = .ok (.iconst 0, 1) := by decide +kernel
theorem d_Mod_step_247 : decode prog_14_method_13_code 247 = .ok (.iaload, 1) := by decide +kernel
theorem d_Mod_step_248 : decode prog_14_method_13_code 248 = .ok (.aload_n 0, 1) := by decide +kernel
theorem d_Mod_step_249 : decode prog_14_method_13_code 249 = .ok (.getfield 19, 3) := by decide +kernel
theorem d_Mod_step_252 : decode prog_14_method_13_code 252 = .ok (.getfield 150, 3) := by decide +kernel
theorem d_Mod_step_255 : decode prog_14_method_13_code 255 = .ok (.iconst 2, 1) := by decide +kernel
theorem d_Mod_step_256 : decode prog_14_method_13_code 256 = .ok (.iaload, 1) := by decide +kernel
theorem d_Mod_step_257 : decode prog_14_method_13_code 257 = .ok (.iload_n 1, 1) := by decide +kernel
theorem d_Mod_step_258 : decode prog_14_method_13_code 258 = .ok (.bipush 18, 2) := by decide +kernel
theorem d_Mod_step_260 : decode prog_14_method_13_code 260 = .ok (.if_icmp .ne 7, 3) := by decide +kernel
theorem d_Mod_step_263 : decode prog_14_method_13_code 263 = .ok (.iconst 1, 1) := by decide +kernel
theorem d_Mod_step_264 : decode prog_14_method_13_code 264 = .ok (.goto 4, 3) := by decide +kernel
theorem d_Mod_step_267 : decode prog_14_method_13_code 267 = .ok (.iconst 0, 1) := by decide +kernel
theorem d_Mod_step_268 : decode prog_14_method_13_code 268 = .ok (.invokevirtual 168, 3) := by decide +kernel
theorem d_Mod_step_271 : decode prog_14_method_13_code 271 = .ok (.iconst 1, 1) := by decide +kernel
theorem d_Mod_step_272 : decode prog_14_method_13_code 272 = .ok (.ireturn, 1) := by decide +kernel
theorem d_Mod_step_273 : decode prog_14_method_13_code 273 = .ok (.aload_n 0, 1) := by decide +kernel
theorem d_Mod_step_274 : decode prog_14_method_13_code 274 = .ok (.getfield 19, 3) := by decide +kernel
theorem d_Mod_step_277 : decode prog_14_method_13_code 277 = .ok (.getfield 150, 3) := by decide +kernel
theorem d_Mod_step_280 : decode prog_14_method_13_code 280 = .ok (.iconst 1, 1) := by decide +kernel
theorem d_Mod_step_281 : decode prog_14_method_13_code 281 = .ok (.iaload, 1) := by decide +kernel
theorem d_Mod_step_282 : decode prog_14_method_13_code 282 = .ok (.iconst 1, 1) := by decide +kernel
theorem d_Mod_step_283 : decode prog_14_method_13_code 283 = .ok (.if_icmp .ne 18, 3) := by decide +kernel
theorem d_Mod_step_286 : decode prog_14_method_13_code 286 = .ok (.aload_n 0, 1) := by decide +kernel
theorem d_Mod_step_287 : decode prog_14_method_13_code 287 = .ok (.getfield 72, 3) := by decide +kernel
theorem d_Mod_step_290 : decode prog_14_method_13_code 290 = .ok (.aload_n 0, 1) := by decide +kernel
theorem d_Mod_step_291 : decode prog_14_method_13_code 291 = .ok (.getfield 19, 3) := by decide +kernel
theorem d_Mod_step_294 : decode prog_14_method_13_code 294 = .ok (.getfield 150, 3) := by decide +kernel
theorem d_Mod_step_297 : decode prog_14_method_13_code 297 = .ok (.iconst 0, 1) := by decide +kernel
theorem d_Mod_step_298 : decode prog_14_method_13_code 298 = .ok (.iaload, 1) := by decide +kernel
theorem d_Mod_step_299 : decode prog_14_method_13_code 299 = .ok (.iconst 0, 1) := by decide +kernel
theorem d_Mod_step_300 : decode prog_14_method_13_code 300 = .ok (.iastore, 1) := by decide +kernel
theorem d_Mod_step_301 : decode prog_14_method_13_code 301 = .ok (.iconst 1, 1) := by decide +kernel
theorem d_Mod_step_302 : decode prog_14_method_13_code 302 = .ok (.ireturn, 1) := by decide +kernel
theorem d_Mod_step_303 : decode prog_14_method_13_code 303 = .ok (.aload_n 0, 1) := by decide +kernel
theorem d_Mod_step_304 : decode prog_14_method_13_code 304 = .ok (.invokevirtual 172, 3) := by decide +kernel
theorem d_Mod_step_307 : decode prog_14_method_13_code 307 = .ok (.iconst 1, 1) := by decide +kernel
theorem d_Mod_step_308 : decode prog_14_method_13_code 308 = .ok (.ireturn, 1) := by decide +kernel
theorem d_Mod_step_309 : decode prog_14_method_13_code 309 = .ok (.iconst 1, 1) := by decide +kernel
theorem d_Mod_step_310 : decode prog_14_method_13_code 310 = .ok (.ireturn, 1) := by decide +kernel
def F_Mod_step_309 (σ : Sg) : Option (Sg × Int32) := some (σ, 1)
set_option maxRecDepth 10000 in
set_option maxHeartbeats 4000000 in
theorem bt_Mod_step_309 {p : Program} {l : Launch} {e : Env} {R : Room} {s : State} {m : MethodId} {args : Array Value} {below : List Frame} {meth : Method} {c : Code} {D : va_G} {τ : ClassId × ClassId × ClassId} {B : Nat} {A : Nat → Prop} {ad : Nat → Nat} (E : Cx p R s m args meth c prog_14_method_13_code 2 "DrawingMachineModel" 16 D τ B A) (hret : meth.sig.returnType = (some .boolean)) (o : Sg × Int32) (σ : Sg) (h : F_Mod_step_309 σ = some o) {H : Heap} {locs : List Loc} {ls : Array Slot} (w : Wd s D A (wdM τ σ ad) H locs) (hl : lv_has ls 2 []) : W p l e R s m args below meth c H locs 0 0 (QI below args s A D τ (wdM τ o.1 ad) o.2) (F0 m 309 ls []) := by
  refine lv_iconst (v := 1) E.x E.b d_Mod_step_309 (by decide) ?_
  obtain rfl := Option.some.inj h
  exact rt_z E w hret (show (1 : Int32) = 0 ∨ (1 : Int32) = 1 by decide) d_Mod_step_310
def F_Mod_step_301 (σ : Sg) : Option (Sg × Int32) := some (σ, 1)
set_option maxRecDepth 10000 in
set_option maxHeartbeats 4000000 in
theorem bt_Mod_step_301 {p : Program} {l : Launch} {e : Env} {R : Room} {s : State} {m : MethodId} {args : Array Value} {below : List Frame} {meth : Method} {c : Code} {D : va_G} {τ : ClassId × ClassId × ClassId} {B : Nat} {A : Nat → Prop} {ad : Nat → Nat} (E : Cx p R s m args meth c prog_14_method_13_code 2 "DrawingMachineModel" 16 D τ B A) (hret : meth.sig.returnType = (some .boolean)) (o : Sg × Int32) (σ : Sg) (h : F_Mod_step_301 σ = some o) {H : Heap} {locs : List Loc} {ls : Array Slot} (w : Wd s D A (wdM τ σ ad) H locs) (hl : lv_has ls 2 []) : W p l e R s m args below meth c H locs 0 0 (QI below args s A D τ (wdM τ o.1 ad) o.2) (F0 m 301 ls []) := by
  refine lv_iconst (v := 1) E.x E.b d_Mod_step_301 (by decide) ?_
  obtain rfl := Option.some.inj h
  exact rt_z E w hret (show (1 : Int32) = 0 ∨ (1 : Int32) = 1 by decide) d_Mod_step_302
def F_Mod_step_268 (σ : Sg) (s1 : Int32) (s2 : Int32) (s3 : Int32) : Option (Sg × Int32) := bd (F_Mod_draw σ s1 s2 s3) (fun o41 => some (o41, 1))
set_option maxRecDepth 10000 in
set_option maxHeartbeats 4000000 in
theorem bt_Mod_step_268 {p : Program} {l : Launch} {e : Env} {R : Room} {s : State} {m : MethodId} {args : Array Value} {below : List Frame} {meth : Method} {c : Code} {D : va_G} {τ : ClassId × ClassId × ClassId} {B : Nat} {A : Nat → Prop} {ad : Nat → Nat} (E : Cx p R s m args meth c prog_14_method_13_code 2 "DrawingMachineModel" 16 D τ B A) (hret : meth.sig.returnType = (some .boolean)) (o : Sg × Int32) (σ : Sg) (s1 : Int32) (s2 : Int32) (s3 : Int32) (h : F_Mod_step_268 σ s1 s2 s3 = some o) {H : Heap} {locs : List Loc} {ls : Array Slot} (w : Wd s D A (wdM τ σ ad) H locs) (hl : lv_has ls 2 []) : W p l e R s m args below meth c H locs 0 0 (QI below args s A D τ (wdM τ o.1 ad) o.2) (F0 m 268 ls [.int s3, .int s2, .int s1, .ref (ad 59)]) := by
  obtain ⟨o41, h_o41, h⟩ := bd_some h
  refine clV_Mod_draw E w (x0 := s1) (x1 := s2) (x2 := s3) h_o41 k2158 (by decide) hl.1 (Nat.le_of_ble_eq_true rfl) d_Mod_step_268 (fun H locs w => ?_)
  refine lv_iconst (v := 1) E.x E.b d_Mod_step_271 (by decide) ?_
  obtain rfl := Option.some.inj h
  exact rt_z E w hret (show (1 : Int32) = 0 ∨ (1 : Int32) = 1 by decide) d_Mod_step_272
def F_Mod_step_224 (σ : Sg) (v1 : Int32) : Option (Sg × Int32) := bd (F_Mod_isMuch σ) (fun o42 => if o42.2 = (0 : Int32) then (if v1 = (18 : Int32) then (F_Mod_step_268 o42.1 (o42.1.2.2.1 3 0) (o42.1.2.2.1 3 2) 1) else (F_Mod_step_268 o42.1 (o42.1.2.2.1 3 0) (o42.1.2.2.1 3 2) 0)) else (bd (F_Mod_no o42.1 8) (fun o43 => ck (o43.2 = 0 ∨ o43.2 = 1) (some (o43.1, o43.2)))))
set_option maxRecDepth 10000 in
set_option maxHeartbeats 4000000 in
theorem bt_Mod_step_224 {p : Program} {l : Launch} {e : Env} {R : Room} {s : State} {m : MethodId} {args : Array Value} {below : List Frame} {meth : Method} {c : Code} {D : va_G} {τ : ClassId × ClassId × ClassId} {B : Nat} {A : Nat → Prop} {ad : Nat → Nat} (E : Cx p R s m args meth c prog_14_method_13_code 2 "DrawingMachineModel" 16 D τ B A) (hret : meth.sig.returnType = (some .boolean)) (o : Sg × Int32) (σ : Sg) (v1 : Int32) (h : F_Mod_step_224 σ v1 = some o) {H : Heap} {locs : List Loc} {ls : Array Slot} (w : Wd s D A (wdM τ σ ad) H locs) (hl : lv_has ls 2 [(0, .ref (ad 59)), (1, .int v1)]) : W p l e R s m args below meth c H locs 0 0 (QI below args s A D τ (wdM τ o.1 ad) o.2) (F0 m 224 ls []) := by
  refine lv_aload_n E.x E.b d_Mod_step_224 rfl (lv_at hl 0 rfl) ?_
  obtain ⟨o42, h_o42, h⟩ := bd_some h
  refine clV_Mod_isMuch E w h_o42 k2148 (by decide) hl.1 (Nat.le_of_ble_eq_true rfl) d_Mod_step_225 (fun H locs w => ?_)
  refine lv_if_eq (tgt := 238) E.x E.b d_Mod_step_228 (by decide) (fun c => ?_) (fun c => ?_)
  ·
    replace h := ifT c h
    refine lv_aload_n E.x E.b d_Mod_step_238 rfl (lv_at hl 0 rfl) ?_
    refine lv_aload_n E.x E.b d_Mod_step_239 rfl (lv_at hl 0 rfl) ?_
    refine gM_Mod_commands E w k1768 d_Mod_step_240 ?_
    refine gNM_Cmd_argument E w n1467 d_Mod_step_243 ?_
    refine lv_iconst (v := 0) E.x E.b d_Mod_step_246 (by decide) ?_
    refine ialM E w (k := 3) (by decide) (show inb 0 300 by decide) d_Mod_step_247 ?_
    refine wi_e (v := o42.1.2.2.1 3 0) rfl ?_
    refine lv_aload_n E.x E.b d_Mod_step_248 rfl (lv_at hl 0 rfl) ?_
    refine gM_Mod_commands E w k1768 d_Mod_step_249 ?_
    refine gNM_Cmd_argument E w n1467 d_Mod_step_252 ?_
    refine lv_iconst (v := 2) E.x E.b d_Mod_step_255 (by decide) ?_
    refine ialM E w (k := 3) (by decide) (show inb 2 300 by decide) d_Mod_step_256 ?_
    refine wi_e (v := o42.1.2.2.1 3 2) rfl ?_
    refine lv_iload_n E.x E.b d_Mod_step_257 rfl (lv_at hl 1 rfl) ?_
    refine lv_bipush (v := 18) E.x E.b d_Mod_step_258 (by decide) ?_
    refine lv_icmp_ne (tgt := 267) E.x E.b d_Mod_step_260 (by decide) (fun c => ?_) (fun c => ?_)
    ·
      replace h := ifF c h
      refine lv_iconst (v := 0) E.x E.b d_Mod_step_267 (by decide) ?_
      exact bt_Mod_step_268 E hret o o42.1 (o42.1.2.2.1 3 0) (o42.1.2.2.1 3 2) 0 h w (lv_sub hl [] rfl)
    ·
      replace h := ifT c h
      refine lv_iconst (v := 1) E.x E.b d_Mod_step_263 (by decide) ?_
      refine lv_goto (tgt := 268) E.x E.b d_Mod_step_264 (by decide) ?_
      exact bt_Mod_step_268 E hret o o42.1 (o42.1.2.2.1 3 0) (o42.1.2.2.1 3 2) 1 h w (lv_sub hl [] rfl)
  ·
    replace h := ifF c h
    refine lv_aload_n E.x E.b d_Mod_step_231 rfl (lv_at hl 0 rfl) ?_
    refine lv_bipush (v := 8) E.x E.b d_Mod_step_232 (by decide) ?_
    obtain ⟨o43, h_o43, h⟩ := bd_some h
    refine clV_Mod_no E w (x0 := 8) h_o43 k2144 (by decide) hl.1 (Nat.le_of_ble_eq_true rfl) d_Mod_step_234 (fun H locs w => ?_)
    obtain ⟨c44, h⟩ := ck_some h
    obtain rfl := Option.some.inj h
    exact rt_z E w hret c44 d_Mod_step_237
def F_Mod_step_25 (rc_2 : Sg → Int32 → Option (Sg × Int32)) (σ : Sg) (v1 : Int32) (s1 : Int32) (s3 : Int32) : Option (Sg × Int32) := bd (F_Mod_kept σ s3 0 (irem v1 2)) (fun o45 => ck (inb s1 4) (lt (sA σ 57 (upd (σ.2.2.1 57) s1.toNatClampNeg o45)) (fun σ47 => lt (v1 + 1) (fun y48 => rc_2 σ47 y48))))
set_option maxRecDepth 10000 in
set_option maxHeartbeats 4000000 in
theorem bt_Mod_step_25 {p : Program} {l : Launch} {e : Env} {R : Room} {s : State} {m : MethodId} {args : Array Value} {below : List Frame} {meth : Method} {c : Code} {D : va_G} {τ : ClassId × ClassId × ClassId} {B : Nat} {A : Nat → Prop} {ad : Nat → Nat} (E : Cx p R s m args meth c prog_14_method_13_code 2 "DrawingMachineModel" 16 D τ B A) (hret : meth.sig.returnType = (some .boolean)) (o : Sg × Int32) (rc_2 : Sg → Int32 → Option (Sg × Int32)) (hr_2 : ∀ (σ : Sg) (v1 : Int32) (H : Heap) (locs : List Loc) (ls : Array Slot), rc_2 σ v1 = some o → Wd s D A (wdM τ σ ad) H locs → lv_has ls 2 [(0, .ref (ad 59)), (1, .int v1)] → W p l e R s m args below meth c H locs 0 0 (QI below args s A D τ (wdM τ o.1 ad) o.2) (F0 m 2 ls [])) (σ : Sg) (v1 : Int32) (s1 : Int32) (s3 : Int32) (h : F_Mod_step_25 rc_2 σ v1 s1 s3 = some o) {H : Heap} {locs : List Loc} {ls : Array Slot} (w : Wd s D A (wdM τ σ ad) H locs) (hl : lv_has ls 2 [(0, .ref (ad 59)), (1, .int v1)]) : W p l e R s m args below meth c H locs 0 0 (QI below args s A D τ (wdM τ o.1 ad) o.2) (F0 m 25 ls [.int s3, .ref (ad 59), .int s1, .ref (ad 57)]) := by
  refine lv_iconst (v := 0) E.x E.b d_Mod_step_25 (by decide) ?_
  refine lv_iload_n E.x E.b d_Mod_step_26 rfl (lv_at hl 1 rfl) ?_
  refine lv_iconst (v := 2) E.x E.b d_Mod_step_27 (by decide) ?_
  refine lv_irem E.x E.b d_Mod_step_28 (by decide) ?_
  refine wi_e (v := irem v1 2) rfl ?_
  obtain ⟨o45, h_o45, h⟩ := bd_some h
  refine clV_Mod_kept E w (x0 := s3) (x1 := 0) (x2 := (irem v1 2)) h_o45 k1908 (by decide) hl.1 (Nat.le_of_ble_eq_true rfl) d_Mod_step_29 (fun H locs w => ?_)
  obtain ⟨c46, h⟩ := ck_some h
  obtain ⟨σ47, e_σ47, h⟩ := lt_some h
  refine iasM E w (k := 57) (by decide) c46 e_σ47 d_Mod_step_32 (fun H locs w => ?_)
  obtain ⟨y48, e_y48, h⟩ := lt_some h
  refine lv_iinc (v := y48) (lv' := [(1, .int y48), (0, .ref (ad 59))]) E.x E.b d_Mod_step_33 hl (k := 1) rfl (e_y48) (by decide) rfl (fun ls hl => ?_)
  refine lv_goto (tgt := 2) E.x E.b d_Mod_step_36 (by decide) ?_
  exact hr_2 σ47 y48 _ _ _ h w (lv_sub hl [1, 0] rfl)
def L_Mod_step_2 : Nat → Sg → Int32 → Option (Sg × Int32)
  | 0, _, _ => none
  | n + 1, σ, v1 => if (4 : Int32) ≤ v1 then (bd (F_Cmd_next σ) (fun o49 => if o49.2 = (-1) then (some (o49.1, 0)) else (if o49.2 = 0 then (F_Mod_step_309 o49.1) else (if o49.2 = 1 then (bd (F_Mod_settle o49.1) (fun o53 => bd (F_Ptm_clear o53 (o53.2.2.1 3 0) (o53.2.2.1 3 1) (o53.2.2.1 3 2) (o53.2.2.1 3 3)) (fun o54 => some (o54.1, 1)))) else (if o49.2 = 2 then (F_Mod_step_309 o49.1) else (if o49.2 = 3 then (F_Mod_step_309 o49.1) else (if o49.2 = 4 then (F_Mod_step_309 o49.1) else (if o49.2 = 5 then (F_Mod_step_309 o49.1) else (if o49.2 = 6 then (F_Mod_step_309 o49.1) else (if o49.2 = 7 then (bd (F_Mod_program o49.1 0 0) (fun o61 => ck (o61.2 = 0 ∨ o61.2 = 1) (some (o61.1, o61.2)))) else (if o49.2 = 8 then (bd (F_Mod_program o49.1 1 1) (fun o64 => ck (o64.2 = 0 ∨ o64.2 = 1) (some (o64.1, o64.2)))) else (if o49.2 = 9 then (F_Mod_step_309 o49.1) else (if o49.2 = 10 then (F_Mod_step_309 o49.1) else (if o49.2 = 11 then (F_Mod_step_309 o49.1) else (if o49.2 = 12 then (F_Mod_step_309 o49.1) else (if o49.2 = 13 then (F_Mod_step_309 o49.1) else (if o49.2 = 14 then (F_Mod_step_309 o49.1) else (if o49.2 = 15 then (F_Mod_step_309 o49.1) else (if o49.2 = 16 then (F_Mod_step_309 o49.1) else (if o49.2 = 17 then (F_Mod_step_224 o49.1 o49.2) else (if o49.2 = 18 then (F_Mod_step_224 o49.1 o49.2) else (if o49.2 = 19 then (if (o49.1.2.2.1 3 1) = (1 : Int32) then (ck (inb (o49.1.2.2.1 3 0) 8) (lt (sA o49.1 55 (upd (o49.1.2.2.1 55) (o49.1.2.2.1 3 0).toNatClampNeg 0)) (fun σ78 => F_Mod_step_301 σ78))) else (F_Mod_step_301 o49.1)) else (if o49.2 = 20 then (bd (F_Mod_copy o49.1) (fun o80 => some (o80, 1))) else (F_Mod_step_309 o49.1)))))))))))))))))))))))) else (if (2 : Int32) ≤ v1 then (F_Mod_step_25 (L_Mod_step_2 n) σ v1 v1 8) else (F_Mod_step_25 (L_Mod_step_2 n) σ v1 v1 7))
set_option maxRecDepth 10000 in
set_option maxHeartbeats 4000000 in
theorem lt_Mod_step_2 {p : Program} {l : Launch} {e : Env} {R : Room} {s : State} {m : MethodId} {args : Array Value} {below : List Frame} {meth : Method} {c : Code} {D : va_G} {τ : ClassId × ClassId × ClassId} {B : Nat} {A : Nat → Prop} {ad : Nat → Nat} (E : Cx p R s m args meth c prog_14_method_13_code 2 "DrawingMachineModel" 16 D τ B A) (hret : meth.sig.returnType = (some .boolean)) (o : Sg × Int32) : ∀ (n : Nat) (σ : Sg) (v1 : Int32) (H : Heap) (locs : List Loc) (ls : Array Slot), L_Mod_step_2 n σ v1 = some o → Wd s D A (wdM τ σ ad) H locs → lv_has ls 2 [(0, .ref (ad 59)), (1, .int v1)] → W p l e R s m args below meth c H locs 0 0 (QI below args s A D τ (wdM τ o.1 ad) o.2) (F0 m 2 ls []) := by
  intro n
  induction n with
  | zero =>
    intro σ v1 H locs ls h w hl
    cases h
  | succ n hr_2 =>
    intro σ v1 H locs ls h w hl
    refine lv_iload_n E.x E.b d_Mod_step_2 rfl (lv_at hl 1 rfl) ?_
    refine lv_iconst (v := 4) E.x E.b d_Mod_step_3 (by decide) ?_
    refine lv_icmp_ge (tgt := 39) E.x E.b d_Mod_step_4 (by decide) (fun c => ?_) (fun c => ?_)
    ·
      replace h := ifT c h
      refine lv_aload_n E.x E.b d_Mod_step_39 rfl (lv_at hl 0 rfl) ?_
      refine gM_Mod_commands E w k1768 d_Mod_step_40 ?_
      obtain ⟨o49, h_o49, h⟩ := bd_some h
      refine clV_Cmd_next E w h_o49 k1913 (by decide) hl.1 (Nat.le_of_ble_eq_true rfl) d_Mod_step_43 (fun H locs w => ?_)
      refine lv_istore_n (lv' := [(1, .int o49.2), (0, .ref (ad 59))]) E.x E.b d_Mod_step_46 rfl hl (by decide) rfl (fun ls hl => ?_)
      refine lv_iload_n E.x E.b d_Mod_step_47 rfl (lv_at hl 0 rfl) ?_
      by_cases q50 : o49.2 = (-1)
      ·
        replace h := ifT q50 h
        refine wi_e (v := (-1)) q50 ?_
        refine lv_tableIn (off := 104) (tgt := 152) E.x E.b d_Mod_step_48 (by decide) (by decide) (by decide) (by decide) ?_
        refine lv_iconst (v := 0) E.x E.b d_Mod_step_152 (by decide) ?_
        obtain rfl := Option.some.inj h
        exact rt_z E w hret (show (0 : Int32) = 0 ∨ (0 : Int32) = 1 by decide) d_Mod_step_153
      replace h := ifF q50 h
      replace q50 := ne_ti (k := (-1)) (by decide) q50
      by_cases q51 : o49.2 = 0
      ·
        replace h := ifT q51 h
        refine wi_e (v := 0) q51 ?_
        refine lv_tableIn (off := 261) (tgt := 309) E.x E.b d_Mod_step_48 (by decide) (by decide) (by decide) (by decide) ?_
        exact bt_Mod_step_309 E hret o o49.1 h w (lv_sub hl [] rfl)
      replace h := ifF q51 h
      replace q51 := ne_ti (k := 0) (by decide) q51
      by_cases q52 : o49.2 = 1
      ·
        replace h := ifT q52 h
        refine wi_e (v := 1) q52 ?_
        refine lv_tableIn (off := 106) (tgt := 154) E.x E.b d_Mod_step_48 (by decide) (by decide) (by decide) (by decide) ?_
        refine lv_aload_n E.x E.b d_Mod_step_154 rfl (lv_at hl 1 rfl) ?_
        obtain ⟨o53, h_o53, h⟩ := bd_some h
        refine clV_Mod_settle E w h_o53 k1989 (by decide) hl.1 (Nat.le_of_ble_eq_true rfl) d_Mod_step_155 (fun H locs w => ?_)
        refine lv_aload_n E.x E.b d_Mod_step_158 rfl (lv_at hl 1 rfl) ?_
        refine gM_Mod_tests E w k1774 d_Mod_step_159 ?_
        refine lv_aload_n E.x E.b d_Mod_step_162 rfl (lv_at hl 1 rfl) ?_
        refine gM_Mod_commands E w k1768 d_Mod_step_163 ?_
        refine gNM_Cmd_argument E w n1467 d_Mod_step_166 ?_
        refine lv_iconst (v := 0) E.x E.b d_Mod_step_169 (by decide) ?_
        refine ialM E w (k := 3) (by decide) (show inb 0 300 by decide) d_Mod_step_170 ?_
        refine wi_e (v := o53.2.2.1 3 0) rfl ?_
        refine lv_aload_n E.x E.b d_Mod_step_171 rfl (lv_at hl 1 rfl) ?_
        refine gM_Mod_commands E w k1768 d_Mod_step_172 ?_
        refine gNM_Cmd_argument E w n1467 d_Mod_step_175 ?_
        refine lv_iconst (v := 1) E.x E.b d_Mod_step_178 (by decide) ?_
        refine ialM E w (k := 3) (by decide) (show inb 1 300 by decide) d_Mod_step_179 ?_
        refine wi_e (v := o53.2.2.1 3 1) rfl ?_
        refine lv_aload_n E.x E.b d_Mod_step_180 rfl (lv_at hl 1 rfl) ?_
        refine gM_Mod_commands E w k1768 d_Mod_step_181 ?_
        refine gNM_Cmd_argument E w n1467 d_Mod_step_184 ?_
        refine lv_iconst (v := 2) E.x E.b d_Mod_step_187 (by decide) ?_
        refine ialM E w (k := 3) (by decide) (show inb 2 300 by decide) d_Mod_step_188 ?_
        refine wi_e (v := o53.2.2.1 3 2) rfl ?_
        refine lv_aload_n E.x E.b d_Mod_step_189 rfl (lv_at hl 1 rfl) ?_
        refine gM_Mod_commands E w k1768 d_Mod_step_190 ?_
        refine gNM_Cmd_argument E w n1467 d_Mod_step_193 ?_
        refine lv_iconst (v := 3) E.x E.b d_Mod_step_196 (by decide) ?_
        refine ialM E w (k := 3) (by decide) (show inb 3 300 by decide) d_Mod_step_197 ?_
        refine wi_e (v := o53.2.2.1 3 3) rfl ?_
        obtain ⟨o54, h_o54, h⟩ := bd_some h
        refine clV_Ptm_clear E w (x0 := (o53.2.2.1 3 0)) (x1 := (o53.2.2.1 3 1)) (x2 := (o53.2.2.1 3 2)) (x3 := (o53.2.2.1 3 3)) h_o54 k2059 (by decide) hl.1 (Nat.le_of_ble_eq_true rfl) d_Mod_step_198 (fun H locs w => ?_)
        refine lv_pop E.x E.b d_Mod_step_201 rfl ?_
        refine lv_iconst (v := 1) E.x E.b d_Mod_step_202 (by decide) ?_
        obtain rfl := Option.some.inj h
        exact rt_z E w hret (show (1 : Int32) = 0 ∨ (1 : Int32) = 1 by decide) d_Mod_step_203
      replace h := ifF q52 h
      replace q52 := ne_ti (k := 1) (by decide) q52
      by_cases q55 : o49.2 = 2
      ·
        replace h := ifT q55 h
        refine wi_e (v := 2) q55 ?_
        refine lv_tableIn (off := 261) (tgt := 309) E.x E.b d_Mod_step_48 (by decide) (by decide) (by decide) (by decide) ?_
        exact bt_Mod_step_309 E hret o o49.1 h w (lv_sub hl [] rfl)
      replace h := ifF q55 h
      replace q55 := ne_ti (k := 2) (by decide) q55
      by_cases q56 : o49.2 = 3
      ·
        replace h := ifT q56 h
        refine wi_e (v := 3) q56 ?_
        refine lv_tableIn (off := 261) (tgt := 309) E.x E.b d_Mod_step_48 (by decide) (by decide) (by decide) (by decide) ?_
        exact bt_Mod_step_309 E hret o o49.1 h w (lv_sub hl [] rfl)
      replace h := ifF q56 h
      replace q56 := ne_ti (k := 3) (by decide) q56
      by_cases q57 : o49.2 = 4
      ·
        replace h := ifT q57 h
        refine wi_e (v := 4) q57 ?_
        refine lv_tableIn (off := 261) (tgt := 309) E.x E.b d_Mod_step_48 (by decide) (by decide) (by decide) (by decide) ?_
        exact bt_Mod_step_309 E hret o o49.1 h w (lv_sub hl [] rfl)
      replace h := ifF q57 h
      replace q57 := ne_ti (k := 4) (by decide) q57
      by_cases q58 : o49.2 = 5
      ·
        replace h := ifT q58 h
        refine wi_e (v := 5) q58 ?_
        refine lv_tableIn (off := 261) (tgt := 309) E.x E.b d_Mod_step_48 (by decide) (by decide) (by decide) (by decide) ?_
        exact bt_Mod_step_309 E hret o o49.1 h w (lv_sub hl [] rfl)
      replace h := ifF q58 h
      replace q58 := ne_ti (k := 5) (by decide) q58
      by_cases q59 : o49.2 = 6
      ·
        replace h := ifT q59 h
        refine wi_e (v := 6) q59 ?_
        refine lv_tableIn (off := 261) (tgt := 309) E.x E.b d_Mod_step_48 (by decide) (by decide) (by decide) (by decide) ?_
        exact bt_Mod_step_309 E hret o o49.1 h w (lv_sub hl [] rfl)
      replace h := ifF q59 h
      replace q59 := ne_ti (k := 6) (by decide) q59
      by_cases q60 : o49.2 = 7
      ·
        replace h := ifT q60 h
        refine wi_e (v := 7) q60 ?_
        refine lv_tableIn (off := 156) (tgt := 204) E.x E.b d_Mod_step_48 (by decide) (by decide) (by decide) (by decide) ?_
        refine lv_aload_n E.x E.b d_Mod_step_204 rfl (lv_at hl 1 rfl) ?_
        refine lv_aload_n E.x E.b d_Mod_step_205 rfl (lv_at hl 1 rfl) ?_
        refine gM_Mod_corners E w k1770 d_Mod_step_206 ?_
        refine wr_e (v := ad (65 + 0)) rfl ?_
        refine lv_iconst (v := 0) E.x E.b d_Mod_step_209 (by decide) ?_
        obtain ⟨o61, h_o61, h⟩ := bd_some h
        refine clV_Mod_program E w (p1 := 0) (x1 := 0) h_o61 k2080 (by decide) hl.1 (Nat.le_of_ble_eq_true rfl) d_Mod_step_210 (fun H locs w => ?_)
        obtain ⟨c62, h⟩ := ck_some h
        obtain rfl := Option.some.inj h
        exact rt_z E w hret c62 d_Mod_step_213
      replace h := ifF q60 h
      replace q60 := ne_ti (k := 7) (by decide) q60
      by_cases q63 : o49.2 = 8
      ·
        replace h := ifT q63 h
        refine wi_e (v := 8) q63 ?_
        refine lv_tableIn (off := 166) (tgt := 214) E.x E.b d_Mod_step_48 (by decide) (by decide) (by decide) (by decide) ?_
        refine lv_aload_n E.x E.b d_Mod_step_214 rfl (lv_at hl 1 rfl) ?_
        refine lv_aload_n E.x E.b d_Mod_step_215 rfl (lv_at hl 1 rfl) ?_
        refine gM_Mod_places E w k1771 d_Mod_step_216 ?_
        refine wr_e (v := ad (65 + 1)) rfl ?_
        refine lv_iconst (v := 1) E.x E.b d_Mod_step_219 (by decide) ?_
        obtain ⟨o64, h_o64, h⟩ := bd_some h
        refine clV_Mod_program E w (p1 := 1) (x1 := 1) h_o64 k2080 (by decide) hl.1 (Nat.le_of_ble_eq_true rfl) d_Mod_step_220 (fun H locs w => ?_)
        obtain ⟨c65, h⟩ := ck_some h
        obtain rfl := Option.some.inj h
        exact rt_z E w hret c65 d_Mod_step_223
      replace h := ifF q63 h
      replace q63 := ne_ti (k := 8) (by decide) q63
      by_cases q66 : o49.2 = 9
      ·
        replace h := ifT q66 h
        refine wi_e (v := 9) q66 ?_
        refine lv_tableIn (off := 261) (tgt := 309) E.x E.b d_Mod_step_48 (by decide) (by decide) (by decide) (by decide) ?_
        exact bt_Mod_step_309 E hret o o49.1 h w (lv_sub hl [] rfl)
      replace h := ifF q66 h
      replace q66 := ne_ti (k := 9) (by decide) q66
      by_cases q67 : o49.2 = 10
      ·
        replace h := ifT q67 h
        refine wi_e (v := 10) q67 ?_
        refine lv_tableIn (off := 261) (tgt := 309) E.x E.b d_Mod_step_48 (by decide) (by decide) (by decide) (by decide) ?_
        exact bt_Mod_step_309 E hret o o49.1 h w (lv_sub hl [] rfl)
      replace h := ifF q67 h
      replace q67 := ne_ti (k := 10) (by decide) q67
      by_cases q68 : o49.2 = 11
      ·
        replace h := ifT q68 h
        refine wi_e (v := 11) q68 ?_
        refine lv_tableIn (off := 261) (tgt := 309) E.x E.b d_Mod_step_48 (by decide) (by decide) (by decide) (by decide) ?_
        exact bt_Mod_step_309 E hret o o49.1 h w (lv_sub hl [] rfl)
      replace h := ifF q68 h
      replace q68 := ne_ti (k := 11) (by decide) q68
      by_cases q69 : o49.2 = 12
      ·
        replace h := ifT q69 h
        refine wi_e (v := 12) q69 ?_
        refine lv_tableIn (off := 261) (tgt := 309) E.x E.b d_Mod_step_48 (by decide) (by decide) (by decide) (by decide) ?_
        exact bt_Mod_step_309 E hret o o49.1 h w (lv_sub hl [] rfl)
      replace h := ifF q69 h
      replace q69 := ne_ti (k := 12) (by decide) q69
      by_cases q70 : o49.2 = 13
      ·
        replace h := ifT q70 h
        refine wi_e (v := 13) q70 ?_
        refine lv_tableIn (off := 261) (tgt := 309) E.x E.b d_Mod_step_48 (by decide) (by decide) (by decide) (by decide) ?_
        exact bt_Mod_step_309 E hret o o49.1 h w (lv_sub hl [] rfl)
      replace h := ifF q70 h
      replace q70 := ne_ti (k := 13) (by decide) q70
      by_cases q71 : o49.2 = 14
      ·
        replace h := ifT q71 h
        refine wi_e (v := 14) q71 ?_
        refine lv_tableIn (off := 261) (tgt := 309) E.x E.b d_Mod_step_48 (by decide) (by decide) (by decide) (by decide) ?_
        exact bt_Mod_step_309 E hret o o49.1 h w (lv_sub hl [] rfl)
      replace h := ifF q71 h
      replace q71 := ne_ti (k := 14) (by decide) q71
      by_cases q72 : o49.2 = 15
      ·
        replace h := ifT q72 h
        refine wi_e (v := 15) q72 ?_
        refine lv_tableIn (off := 261) (tgt := 309) E.x E.b d_Mod_step_48 (by decide) (by decide) (by decide) (by decide) ?_
        exact bt_Mod_step_309 E hret o o49.1 h w (lv_sub hl [] rfl)
      replace h := ifF q72 h
      replace q72 := ne_ti (k := 15) (by decide) q72
      by_cases q73 : o49.2 = 16
      ·
        replace h := ifT q73 h
        refine wi_e (v := 16) q73 ?_
        refine lv_tableIn (off := 261) (tgt := 309) E.x E.b d_Mod_step_48 (by decide) (by decide) (by decide) (by decide) ?_
        exact bt_Mod_step_309 E hret o o49.1 h w (lv_sub hl [] rfl)
      replace h := ifF q73 h
      replace q73 := ne_ti (k := 16) (by decide) q73
      by_cases q74 : o49.2 = 17
      ·
        replace h := ifT q74 h
        refine wi_e (v := 17) q74 ?_
        refine lv_tableIn (off := 176) (tgt := 224) E.x E.b d_Mod_step_48 (by decide) (by decide) (by decide) (by decide) ?_
        exact bt_Mod_step_224 E hret o o49.1 o49.2 h w (lv_sub hl [1, 0] rfl)
      replace h := ifF q74 h
      replace q74 := ne_ti (k := 17) (by decide) q74
      by_cases q75 : o49.2 = 18
      ·
        replace h := ifT q75 h
        refine wi_e (v := 18) q75 ?_
        refine lv_tableIn (off := 176) (tgt := 224) E.x E.b d_Mod_step_48 (by decide) (by decide) (by decide) (by decide) ?_
        exact bt_Mod_step_224 E hret o o49.1 o49.2 h w (lv_sub hl [1, 0] rfl)
      replace h := ifF q75 h
      replace q75 := ne_ti (k := 18) (by decide) q75
      by_cases q76 : o49.2 = 19
      ·
        replace h := ifT q76 h
        refine wi_e (v := 19) q76 ?_
        refine lv_tableIn (off := 225) (tgt := 273) E.x E.b d_Mod_step_48 (by decide) (by decide) (by decide) (by decide) ?_
        refine lv_aload_n E.x E.b d_Mod_step_273 rfl (lv_at hl 1 rfl) ?_
        refine gM_Mod_commands E w k1768 d_Mod_step_274 ?_
        refine gNM_Cmd_argument E w n1467 d_Mod_step_277 ?_
        refine lv_iconst (v := 1) E.x E.b d_Mod_step_280 (by decide) ?_
        refine ialM E w (k := 3) (by decide) (show inb 1 300 by decide) d_Mod_step_281 ?_
        refine wi_e (v := o49.1.2.2.1 3 1) rfl ?_
        refine lv_iconst (v := 1) E.x E.b d_Mod_step_282 (by decide) ?_
        refine lv_icmp_ne (tgt := 301) E.x E.b d_Mod_step_283 (by decide) (fun c => ?_) (fun c => ?_)
        ·
          replace h := ifF c h
          exact bt_Mod_step_301 E hret o o49.1 h w (lv_sub hl [] rfl)
        ·
          replace h := ifT c h
          refine lv_aload_n E.x E.b d_Mod_step_286 rfl (lv_at hl 1 rfl) ?_
          refine gM_Mod_queries E w k1780 d_Mod_step_287 ?_
          refine lv_aload_n E.x E.b d_Mod_step_290 rfl (lv_at hl 1 rfl) ?_
          refine gM_Mod_commands E w k1768 d_Mod_step_291 ?_
          refine gNM_Cmd_argument E w n1467 d_Mod_step_294 ?_
          refine lv_iconst (v := 0) E.x E.b d_Mod_step_297 (by decide) ?_
          refine ialM E w (k := 3) (by decide) (show inb 0 300 by decide) d_Mod_step_298 ?_
          refine wi_e (v := o49.1.2.2.1 3 0) rfl ?_
          refine lv_iconst (v := 0) E.x E.b d_Mod_step_299 (by decide) ?_
          obtain ⟨c77, h⟩ := ck_some h
          obtain ⟨σ78, e_σ78, h⟩ := lt_some h
          refine iasM E w (k := 55) (by decide) c77 e_σ78 d_Mod_step_300 (fun H locs w => ?_)
          exact bt_Mod_step_301 E hret o σ78 h w (lv_sub hl [] rfl)
      replace h := ifF q76 h
      replace q76 := ne_ti (k := 19) (by decide) q76
      by_cases q79 : o49.2 = 20
      ·
        replace h := ifT q79 h
        refine wi_e (v := 20) q79 ?_
        refine lv_tableIn (off := 255) (tgt := 303) E.x E.b d_Mod_step_48 (by decide) (by decide) (by decide) (by decide) ?_
        refine lv_aload_n E.x E.b d_Mod_step_303 rfl (lv_at hl 1 rfl) ?_
        obtain ⟨o80, h_o80, h⟩ := bd_some h
        refine clV_Mod_copy E w h_o80 k2477 (by decide) hl.1 (Nat.le_of_ble_eq_true rfl) d_Mod_step_304 (fun H locs w => ?_)
        refine lv_iconst (v := 1) E.x E.b d_Mod_step_307 (by decide) ?_
        obtain rfl := Option.some.inj h
        exact rt_z E w hret (show (1 : Int32) = 0 ∨ (1 : Int32) = 1 by decide) d_Mod_step_308
      replace h := ifF q79 h
      replace q79 := ne_ti (k := 20) (by decide) q79
      refine lv_tableOut (tgt := 309) E.x E.b d_Mod_step_48 (by omega) (by decide) ?_
      exact bt_Mod_step_309 E hret o o49.1 h w (lv_sub hl [] rfl)
    ·
      replace h := ifF c h
      refine lv_aload_n E.x E.b d_Mod_step_7 rfl (lv_at hl 0 rfl) ?_
      refine gM_Mod_before E w k1782 d_Mod_step_8 ?_
      refine lv_iload_n E.x E.b d_Mod_step_11 rfl (lv_at hl 1 rfl) ?_
      refine lv_aload_n E.x E.b d_Mod_step_12 rfl (lv_at hl 0 rfl) ?_
      refine lv_iload_n E.x E.b d_Mod_step_13 rfl (lv_at hl 1 rfl) ?_
      refine lv_iconst (v := 2) E.x E.b d_Mod_step_14 (by decide) ?_
      refine lv_icmp_ge (tgt := 23) E.x E.b d_Mod_step_15 (by decide) (fun c => ?_) (fun c => ?_)
      ·
        replace h := ifT c h
        refine lv_bipush (v := 8) E.x E.b d_Mod_step_23 (by decide) ?_
        exact bt_Mod_step_25 E hret o (L_Mod_step_2 n) hr_2 σ v1 v1 8 h w (lv_sub hl [0, 1] rfl)
      ·
        replace h := ifF c h
        refine lv_bipush (v := 7) E.x E.b d_Mod_step_18 (by decide) ?_
        refine lv_goto (tgt := 25) E.x E.b d_Mod_step_20 (by decide) ?_
        exact bt_Mod_step_25 E hret o (L_Mod_step_2 n) hr_2 σ v1 v1 7 h w (lv_sub hl [0, 1] rfl)
def F_Mod_step (σ : Sg) : Option (Sg × Int32) := L_Mod_step_2 100000 σ 0
set_option maxRecDepth 10000 in
set_option maxHeartbeats 4000000 in
theorem c_Mod_step (l : Launch) (D : va_G) (τ : ClassId × ClassId × ClassId) (B : Nat) (σ : Sg) (ad : Nat → Nat) (o : Sg × Int32) (h : F_Mod_step σ = some o) : MI l y_Mod_step (Cond.code y_Mod_step prog_14_method_13_code 2 (some .boolean)) 16 D τ B [.ref (ad 59)] (wdM τ σ ad) (wdM τ o.1 ad) o.2 := by
  refine en_i (by decide) (Nat.le_of_ble_eq_true rfl) ?_
  intro p e R s m args below meth c H locs ls A E hret w hl
  have E : Cx p R s m args meth c prog_14_method_13_code 2 "DrawingMachineModel" 16 D τ B A := E
  have hl : lv_has ls 2 [(0, .ref (ad 59))] := hl
  refine lv_iconst (v := 0) E.x E.b d_Mod_step_0 (by decide) ?_
  refine lv_istore_n (lv' := [(1, .int 0), (0, .ref (ad 59))]) E.x E.b d_Mod_step_1 rfl hl (by decide) rfl (fun ls hl => ?_)
  exact lt_Mod_step_2 E hret o 100000 σ 0 _ _ _ h w (lv_sub hl [1, 0] rfl)
theorem clV_Mod_step {p : Program} {l : Launch} {e : Env} {R : Room} {s : State} {m : MethodId} {args : Array Value} {below : List Frame} {meth : Method} {c : Code} {H : Heap} {locs : List Loc} {Q : State → Prop} {cc : ByteArray} {nL pc lev : Nat} {own : String} {D : va_G} {τ : ClassId × ClassId × ClassId} {B : Nat} {A : Nat → Prop} {σ : Sg} {ad : Nat → Nat} {ls : Array Slot} {rest : List Value} (E : Cx p R s m args meth c cc nL own lev D τ B A) (w : Wd s D A (wdM τ σ ad) H locs) {o : Sg × Int32} (h : F_Mod_step σ = some o) {index : Nat} (hlk : Cond.methodLink own index y_Mod_step ∈ tw) (hlev : 16 < lev) (hsz : ls.size = nL) (hr : (rest.map fun v => v.category).sum ≤ 8) (hd : decode cc pc = .ok (.invokevirtual index, 3)) (kk : ∀ (H1 : Heap) (locs1 : List Loc), Wd s D A (wdM τ o.1 ad) H1 locs1 → W p l e R s m args below meth c H1 locs1 0 0 Q (F0 m (pc + 3) ls (.int o.2 :: rest))) : W p l e R s m args below meth c H locs 0 0 Q (F0 m pc ls (.ref (ad 59) :: rest)) :=
  cr_i w E.C (va_runV (As := []) (rest := rest) E.fix (c_Mod_step l D τ B σ ad o h H.size) (cwV 0 E.w (tw_pre (tw_good k1907) (l := [_, _, _, _]) (List.forall_mem_cons.mpr ⟨hlk, List.forall_mem_cons.mpr ⟨k1906, List.forall_mem_cons.mpr ⟨ks48, List.forall_mem_cons.mpr ⟨k14, fun _ h => absurd h List.not_mem_nil⟩⟩⟩⟩)) rfl rfl rfl (by decide +kernel) (E.rm hlev (by decide))) (wd_preV w E.C [] rcM_Mod rfl) rfl rfl hsz rfl (lv_room hr) hd ⟨Nat.zero_le _, Nat.zero_le _⟩) kk

theorem d_Mod_run_0 : decode prog_14_method_12_code 0 = .ok (.aload_n 0, 1) := by decide +kernel
theorem d_Mod_run_1 : decode prog_14_method_12_code 1 = .ok (.iload_n 1, 1) := by decide +kernel
theorem d_Mod_run_2 : decode prog_14_method_12_code 2 = .ok (.ifCond .ge 7, 3) := by decide +kernel
theorem d_Mod_run_5 : decode prog_14_method_12_code 5 = .ok (.iconst 1, 1) := by decide +kernel
theorem d_Mod_run_6 : decode prog_14_method_12_code 6 = .ok (.goto 4, 3) := by decide +kernel
theorem d_Mod_run_9 : decode prog_14_method_12_code 9 = .ok (.iconst 0, 1) := by decide +kernel
theorem d_Mod_run_10 : decode prog_14_method_12_code 10 = .ok (.iload_n 1, 1) := by decide +kernel
theorem d_Mod_run_11 : decode prog_14_method_12_code 11 = .ok (.ifCond .lt 17, 3) := by decide +kernel
theorem d_Mod_run_14 : decode prog_14_method_12_code 14 = .ok (.aload_n 0, 1) := by decide +kernel
theorem d_Mod_run_15 : decode prog_14_method_12_code 15 = .ok (.getfield 19, 3) := by decide +kernel
theorem d_Mod_run_18 : decode prog_14_method_12_code 18 = .ok (.getfield 132, 3) := by decide +kernel
theorem d_Mod_run_21 : decode prog_14_method_12_code 21 = .ok (.ifCond .eq 7, 3) := by decide +kernel
theorem d_Mod_run_24 : decode prog_14_method_12_code 24 = .ok (.iconst 1, 1) := by decide +kernel
theorem d_Mod_run_25 : decode prog_14_method_12_code 25 = .ok (.goto 4, 3) := by decide +kernel
theorem d_Mod_run_28 : decode prog_14_method_12_code 28 = .ok (.iconst 0, 1) := by decide +kernel
theorem d_Mod_run_29 : decode prog_14_method_12_code 29 = .ok (.invokevirtual 94, 3) := by decide +kernel
theorem d_Mod_run_32 : decode prog_14_method_12_code 32 = .ok (.ifCond .eq 5, 3) := by decide +kernel
theorem d_Mod_run_35 : decode prog_14_method_12_code 35 = .ok (.iconst 0, 1) := by decide +kernel
theorem d_Mod_run_36 : decode prog_14_method_12_code 36 = .ok (.ireturn, 1) := by decide +kernel
theorem d_Mod_run_37 : decode prog_14_method_12_code 37 = .ok (.iconst 0, 1) := by decide +kernel
theorem d_Mod_run_38 : decode prog_14_method_12_code 38 = .ok (.istore_n 2, 1) := by decide +kernel
theorem d_Mod_run_39 : decode prog_14_method_12_code 39 = .ok (.iload_n 2, 1) := by decide +kernel
theorem d_Mod_run_40 : decode prog_14_method_12_code 40 = .ok (.iload_n 1, 1) := by decide +kernel
theorem d_Mod_run_41 : decode prog_14_method_12_code 41 = .ok (.if_icmp .ge 26, 3) := by decide +kernel
theorem d_Mod_run_44 : decode prog_14_method_12_code 44 = .ok (.aload_n 0, 1) := by decide +kernel
theorem d_Mod_run_45 : decode prog_14_method_12_code 45 = .ok (.getfield 19, 3) := by decide +kernel
theorem d_Mod_run_48 : decode prog_14_method_12_code 48 = .ok (.getfield 132, 3) := by decide +kernel
theorem d_Mod_run_51 : decode prog_14_method_12_code 51 = .ok (.ifCond .ne 16, 3) := by decide +kernel
theorem d_Mod_run_54 : decode prog_14_method_12_code 54 = .ok (.aload_n 0, 1) := by decide +kernel
theorem d_Mod_run_55 : decode prog_14_method_12_code 55 = .ok (.invokevirtual 136, 3) := by decide +kernel
theorem d_Mod_run_58 : decode prog_14_method_12_code 58 = .ok (.ifCond .eq 9, 3) := by decide +kernel
theorem d_Mod_run_61 : decode prog_14_method_12_code 61 = .ok (.iinc 2 1, 3) := by decide +kernel
theorem d_Mod_run_64 : decode prog_14_method_12_code 64 = .ok (.goto (-25), 3) := by decide +kernel
theorem d_Mod_run_67 : decode prog_14_method_12_code 67 = .ok (.iload_n 2, 1) := by decide +kernel
theorem d_Mod_run_68 : decode prog_14_method_12_code 68 = .ok (.ireturn, 1) := by decide +kernel
def F_Mod_run_67 (σ : Sg) (v2 : Int32) : Option (Sg × Int32) := some (σ, v2)
set_option maxRecDepth 10000 in
set_option maxHeartbeats 4000000 in
theorem bt_Mod_run_67 {p : Program} {l : Launch} {e : Env} {R : Room} {s : State} {m : MethodId} {args : Array Value} {below : List Frame} {meth : Method} {c : Code} {D : va_G} {τ : ClassId × ClassId × ClassId} {B : Nat} {A : Nat → Prop} {ad : Nat → Nat} (E : Cx p R s m args meth c prog_14_method_12_code 3 "DrawingMachineModel" 17 D τ B A) (hret : meth.sig.returnType = (some .int)) (o : Sg × Int32) (σ : Sg) (v2 : Int32) (h : F_Mod_run_67 σ v2 = some o) {H : Heap} {locs : List Loc} {ls : Array Slot} (w : Wd s D A (wdM τ σ ad) H locs) (hl : lv_has ls 3 [(2, .int v2)]) : W p l e R s m args below meth c H locs 0 0 (QI below args s A D τ (wdM τ o.1 ad) o.2) (F0 m 67 ls []) := by
  refine lv_iload_n E.x E.b d_Mod_run_67 rfl (lv_at hl 0 rfl) ?_
  obtain rfl := Option.some.inj h
  exact rt_i E w hret d_Mod_run_68
def L_Mod_run_39 : Nat → Sg → Int32 → Int32 → Option (Sg × Int32)
  | 0, _, _, _ => none
  | n + 1, σ, v1, v2 => if v1 ≤ v2 then (F_Mod_run_67 σ v2) else (if (σ.1 13) = (0 : Int32) then (bd (F_Mod_step σ) (fun o4 => if o4.2 = (0 : Int32) then (F_Mod_run_67 o4.1 v2) else (lt (v2 + 1) (fun y5 => L_Mod_run_39 n o4.1 v1 y5)))) else (F_Mod_run_67 σ v2))
set_option maxRecDepth 10000 in
set_option maxHeartbeats 4000000 in
theorem lt_Mod_run_39 {p : Program} {l : Launch} {e : Env} {R : Room} {s : State} {m : MethodId} {args : Array Value} {below : List Frame} {meth : Method} {c : Code} {D : va_G} {τ : ClassId × ClassId × ClassId} {B : Nat} {A : Nat → Prop} {ad : Nat → Nat} (E : Cx p R s m args meth c prog_14_method_12_code 3 "DrawingMachineModel" 17 D τ B A) (hret : meth.sig.returnType = (some .int)) (o : Sg × Int32) : ∀ (n : Nat) (σ : Sg) (v1 : Int32) (v2 : Int32) (H : Heap) (locs : List Loc) (ls : Array Slot), L_Mod_run_39 n σ v1 v2 = some o → Wd s D A (wdM τ σ ad) H locs → lv_has ls 3 [(0, .ref (ad 59)), (1, .int v1), (2, .int v2)] → W p l e R s m args below meth c H locs 0 0 (QI below args s A D τ (wdM τ o.1 ad) o.2) (F0 m 39 ls []) := by
  intro n
  induction n with
  | zero =>
    intro σ v1 v2 H locs ls h w hl
    cases h
  | succ n hr_39 =>
    intro σ v1 v2 H locs ls h w hl
    refine lv_iload_n E.x E.b d_Mod_run_39 rfl (lv_at hl 2 rfl) ?_
    refine lv_iload_n E.x E.b d_Mod_run_40 rfl (lv_at hl 1 rfl) ?_
    refine lv_icmp_ge (tgt := 67) E.x E.b d_Mod_run_41 (by decide) (fun c => ?_) (fun c => ?_)
    ·
      replace h := ifT c h
      exact bt_Mod_run_67 E hret o σ v2 h w (lv_sub hl [2] rfl)
    ·
      replace h := ifF c h
      refine lv_aload_n E.x E.b d_Mod_run_44 rfl (lv_at hl 0 rfl) ?_
      refine gM_Mod_commands E w k1768 d_Mod_run_45 ?_
      refine gNM_Cmd_over E w n1454 d_Mod_run_48 ?_
      refine lv_if_ne (tgt := 67) E.x E.b d_Mod_run_51 (by decide) (fun c => ?_) (fun c => ?_)
      ·
        replace h := ifF c h
        exact bt_Mod_run_67 E hret o σ v2 h w (lv_sub hl [2] rfl)
      ·
        replace h := ifT c h
        refine lv_aload_n E.x E.b d_Mod_run_54 rfl (lv_at hl 0 rfl) ?_
        obtain ⟨o4, h_o4, h⟩ := bd_some h
        refine clV_Mod_step E w h_o4 k1904 (by decide) hl.1 (Nat.le_of_ble_eq_true rfl) d_Mod_run_55 (fun H locs w => ?_)
        refine lv_if_eq (tgt := 67) E.x E.b d_Mod_run_58 (by decide) (fun c => ?_) (fun c => ?_)
        ·
          replace h := ifT c h
          exact bt_Mod_run_67 E hret o o4.1 v2 h w (lv_sub hl [2] rfl)
        ·
          replace h := ifF c h
          obtain ⟨y5, e_y5, h⟩ := lt_some h
          refine lv_iinc (v := y5) (lv' := [(2, .int y5), (0, .ref (ad 59)), (1, .int v1)]) E.x E.b d_Mod_run_61 hl (k := 2) rfl (e_y5) (by decide) rfl (fun ls hl => ?_)
          refine lv_goto (tgt := 39) E.x E.b d_Mod_run_64 (by decide) ?_
          exact hr_39 o4.1 v1 y5 _ _ _ h w (lv_sub hl [1, 2, 0] rfl)
def F_Mod_run_29 (σ : Sg) (v1 : Int32) (s1 : Int32) (s2 : Int32) : Option (Sg × Int32) := bd (F_Mod_refuse σ s1 s2) (fun o6 => if o6.2 = (0 : Int32) then (L_Mod_run_39 100000 o6.1 v1 0) else (some (o6.1, 0)))
set_option maxRecDepth 10000 in
set_option maxHeartbeats 4000000 in
theorem bt_Mod_run_29 {p : Program} {l : Launch} {e : Env} {R : Room} {s : State} {m : MethodId} {args : Array Value} {below : List Frame} {meth : Method} {c : Code} {D : va_G} {τ : ClassId × ClassId × ClassId} {B : Nat} {A : Nat → Prop} {ad : Nat → Nat} (E : Cx p R s m args meth c prog_14_method_12_code 3 "DrawingMachineModel" 17 D τ B A) (hret : meth.sig.returnType = (some .int)) (o : Sg × Int32) (σ : Sg) (v1 : Int32) (s1 : Int32) (s2 : Int32) (h : F_Mod_run_29 σ v1 s1 s2 = some o) {H : Heap} {locs : List Loc} {ls : Array Slot} (w : Wd s D A (wdM τ σ ad) H locs) (hl : lv_has ls 3 [(0, .ref (ad 59)), (1, .int v1)]) : W p l e R s m args below meth c H locs 0 0 (QI below args s A D τ (wdM τ o.1 ad) o.2) (F0 m 29 ls [.int s2, .int s1, .ref (ad 59)]) := by
  obtain ⟨o6, h_o6, h⟩ := bd_some h
  refine clV_Mod_refuse E w (x0 := s1) (x1 := s2) h_o6 k1835 (by decide) hl.1 (Nat.le_of_ble_eq_true rfl) d_Mod_run_29 (fun H locs w => ?_)
  refine lv_if_eq (tgt := 37) E.x E.b d_Mod_run_32 (by decide) (fun c => ?_) (fun c => ?_)
  ·
    replace h := ifT c h
    refine lv_iconst (v := 0) E.x E.b d_Mod_run_37 (by decide) ?_
    refine lv_istore_n (lv' := [(2, .int 0), (0, .ref (ad 59)), (1, .int v1)]) E.x E.b d_Mod_run_38 rfl hl (by decide) rfl (fun ls hl => ?_)
    exact lt_Mod_run_39 E hret o 100000 o6.1 v1 0 _ _ _ h w (lv_sub hl [1, 2, 0] rfl)
  ·
    replace h := ifF c h
    refine lv_iconst (v := 0) E.x E.b d_Mod_run_35 (by decide) ?_
    obtain rfl := Option.some.inj h
    exact rt_i E w hret d_Mod_run_36
def F_Mod_run_28 (σ : Sg) (v1 : Int32) (s1 : Int32) : Option (Sg × Int32) := F_Mod_run_29 σ v1 s1 0
set_option maxRecDepth 10000 in
set_option maxHeartbeats 4000000 in
theorem bt_Mod_run_28 {p : Program} {l : Launch} {e : Env} {R : Room} {s : State} {m : MethodId} {args : Array Value} {below : List Frame} {meth : Method} {c : Code} {D : va_G} {τ : ClassId × ClassId × ClassId} {B : Nat} {A : Nat → Prop} {ad : Nat → Nat} (E : Cx p R s m args meth c prog_14_method_12_code 3 "DrawingMachineModel" 17 D τ B A) (hret : meth.sig.returnType = (some .int)) (o : Sg × Int32) (σ : Sg) (v1 : Int32) (s1 : Int32) (h : F_Mod_run_28 σ v1 s1 = some o) {H : Heap} {locs : List Loc} {ls : Array Slot} (w : Wd s D A (wdM τ σ ad) H locs) (hl : lv_has ls 3 [(0, .ref (ad 59)), (1, .int v1)]) : W p l e R s m args below meth c H locs 0 0 (QI below args s A D τ (wdM τ o.1 ad) o.2) (F0 m 28 ls [.int s1, .ref (ad 59)]) := by
  refine lv_iconst (v := 0) E.x E.b d_Mod_run_28 (by decide) ?_
  exact bt_Mod_run_29 E hret o σ v1 s1 0 h w (lv_sub hl [0, 1] rfl)
def F_Mod_run_10 (σ : Sg) (v1 : Int32) (s1 : Int32) : Option (Sg × Int32) := if v1 < (0 : Int32) then (F_Mod_run_28 σ v1 s1) else (if (σ.1 13) = (0 : Int32) then (F_Mod_run_28 σ v1 s1) else (F_Mod_run_29 σ v1 s1 1))
set_option maxRecDepth 10000 in
set_option maxHeartbeats 4000000 in
theorem bt_Mod_run_10 {p : Program} {l : Launch} {e : Env} {R : Room} {s : State} {m : MethodId} {args : Array Value} {below : List Frame} {meth : Method} {c : Code} {D : va_G} {τ : ClassId × ClassId × ClassId} {B : Nat} {A : Nat → Prop} {ad : Nat → Nat} (E : Cx p R s m args meth c prog_14_method_12_code 3 "DrawingMachineModel" 17 D τ B A) (hret : meth.sig.returnType = (some .int)) (o : Sg × Int32) (σ : Sg) (v1 : Int32) (s1 : Int32) (h : F_Mod_run_10 σ v1 s1 = some o) {H : Heap} {locs : List Loc} {ls : Array Slot} (w : Wd s D A (wdM τ σ ad) H locs) (hl : lv_has ls 3 [(0, .ref (ad 59)), (1, .int v1)]) : W p l e R s m args below meth c H locs 0 0 (QI below args s A D τ (wdM τ o.1 ad) o.2) (F0 m 10 ls [.int s1, .ref (ad 59)]) := by
  refine lv_iload_n E.x E.b d_Mod_run_10 rfl (lv_at hl 1 rfl) ?_
  refine lv_if_lt (tgt := 28) E.x E.b d_Mod_run_11 (by decide) (fun c => ?_) (fun c => ?_)
  ·
    replace h := ifT c h
    exact bt_Mod_run_28 E hret o σ v1 s1 h w (lv_sub hl [0, 1] rfl)
  ·
    replace h := ifF c h
    refine lv_aload_n E.x E.b d_Mod_run_14 rfl (lv_at hl 0 rfl) ?_
    refine gM_Mod_commands E w k1768 d_Mod_run_15 ?_
    refine gNM_Cmd_over E w n1454 d_Mod_run_18 ?_
    refine lv_if_eq (tgt := 28) E.x E.b d_Mod_run_21 (by decide) (fun c => ?_) (fun c => ?_)
    ·
      replace h := ifT c h
      exact bt_Mod_run_28 E hret o σ v1 s1 h w (lv_sub hl [0, 1] rfl)
    ·
      replace h := ifF c h
      refine lv_iconst (v := 1) E.x E.b d_Mod_run_24 (by decide) ?_
      refine lv_goto (tgt := 29) E.x E.b d_Mod_run_25 (by decide) ?_
      exact bt_Mod_run_29 E hret o σ v1 s1 1 h w (lv_sub hl [0, 1] rfl)
def F_Mod_run (σ : Sg) (x0 : Int32) : Option (Sg × Int32) := if (0 : Int32) ≤ x0 then (F_Mod_run_10 σ x0 0) else (F_Mod_run_10 σ x0 1)
set_option maxRecDepth 10000 in
set_option maxHeartbeats 4000000 in
theorem c_Mod_run (l : Launch) (D : va_G) (τ : ClassId × ClassId × ClassId) (B : Nat) (σ : Sg) (ad : Nat → Nat) (x0 : Int32) (o : Sg × Int32) (h : F_Mod_run σ x0 = some o) : MI l y_Mod_run (Cond.code y_Mod_run prog_14_method_12_code 3 (some .int)) 17 D τ B [.ref (ad 59), .int x0] (wdM τ σ ad) (wdM τ o.1 ad) o.2 := by
  refine en_i (by decide) (Nat.le_of_ble_eq_true rfl) ?_
  intro p e R s m args below meth c H locs ls A E hret w hl
  have E : Cx p R s m args meth c prog_14_method_12_code 3 "DrawingMachineModel" 17 D τ B A := E
  have hl : lv_has ls 3 [(0, .ref (ad 59)), (1, .int x0)] := hl
  refine lv_aload_n E.x E.b d_Mod_run_0 rfl (lv_at hl 0 rfl) ?_
  refine lv_iload_n E.x E.b d_Mod_run_1 rfl (lv_at hl 1 rfl) ?_
  refine lv_if_ge (tgt := 9) E.x E.b d_Mod_run_2 (by decide) (fun c => ?_) (fun c => ?_)
  ·
    replace h := ifT c h
    refine lv_iconst (v := 0) E.x E.b d_Mod_run_9 (by decide) ?_
    exact bt_Mod_run_10 E hret o σ x0 0 h w (lv_sub hl [0, 1] rfl)
  ·
    replace h := ifF c h
    refine lv_iconst (v := 1) E.x E.b d_Mod_run_5 (by decide) ?_
    refine lv_goto (tgt := 10) E.x E.b d_Mod_run_6 (by decide) ?_
    exact bt_Mod_run_10 E hret o σ x0 1 h w (lv_sub hl [0, 1] rfl)

theorem d_Cmd_about_0 : decode prog_15_method_31_code 0 = .ok (.aload_n 0, 1) := by decide +kernel
theorem d_Cmd_about_1 : decode prog_15_method_31_code 1 = .ok (.iload_n 1, 1) := by decide +kernel
theorem d_Cmd_about_2 : decode prog_15_method_31_code 2 = .ok (.i2l, 1) := by decide +kernel
theorem d_Cmd_about_3 : decode prog_15_method_31_code 3 = .ok (.lconst 0, 1) := by decide +kernel
theorem d_Cmd_about_4 : decode prog_15_method_31_code 4 = .ok (.ldc2_w 186, 3) := by decide +kernel
theorem d_Cmd_about_7 : decode prog_15_method_31_code 7 = .ok (.invokestatic 51, 3) := by decide +kernel
theorem d_Cmd_about_10 : decode prog_15_method_31_code 10 = .ok (.ifCond .ne 7, 3) := by decide +kernel
theorem d_Cmd_about_13 : decode prog_15_method_31_code 13 = .ok (.iconst 1, 1) := by decide +kernel
theorem d_Cmd_about_14 : decode prog_15_method_31_code 14 = .ok (.goto 4, 3) := by decide +kernel
theorem d_Cmd_about_17 : decode prog_15_method_31_code 17 = .ok (.iconst 0, 1) := by decide +kernel
theorem d_Cmd_about_18 : decode prog_15_method_31_code 18 = .ok (.invokevirtual 120, 3) := by decide +kernel
theorem d_Cmd_about_21 : decode prog_15_method_31_code 21 = .ok (.ifCond .eq 5, 3) := by decide +kernel
theorem d_Cmd_about_24 : decode prog_15_method_31_code 24 = .ok (.iconst 0, 1) := by decide +kernel
theorem d_Cmd_about_25 : decode prog_15_method_31_code 25 = .ok (.ireturn, 1) := by decide +kernel
theorem d_Cmd_about_26 : decode prog_15_method_31_code 26 = .ok (.iload_n 1, 1) := by decide +kernel
theorem d_Cmd_about_27 : decode prog_15_method_31_code 27 = .ok (.tableswitch 75 0 5 #[37, 50, 55, 60, 65, 70], 37) := by decide +kernel
theorem d_Cmd_about_64 : decode prog_15_method_31_code 64 = .ok (.aload_n 0, 1) := by decide +kernel
theorem d_Cmd_about_65 : decode prog_15_method_31_code 65 = .ok (.getfield 133, 3) := by decide +kernel
theorem d_Cmd_about_68 : decode prog_15_method_31_code 68 = .ok (.ifCond .eq 7, 3) := by decide +kernel
theorem d_Cmd_about_71 : decode prog_15_method_31_code 71 = .ok (.iconst 1, 1) := by decide +kernel
theorem d_Cmd_about_72 : decode prog_15_method_31_code 72 = .ok (.goto 4, 3) := by decide +kernel
theorem d_Cmd_about_75 : decode prog_15_method_31_code 75 = .ok (.iconst 0, 1) := by decide +kernel
theorem d_Cmd_about_76 : decode prog_15_method_31_code 76 = .ok (.ireturn, 1) := by decide +kernel
theorem d_Cmd_about_77 : decode prog_15_method_31_code 77 = .ok (.aload_n 0, 1) := by decide +kernel
theorem d_Cmd_about_78 : decode prog_15_method_31_code 78 = .ok (.getfield 137, 3) := by decide +kernel
theorem d_Cmd_about_81 : decode prog_15_method_31_code 81 = .ok (.ireturn, 1) := by decide +kernel
theorem d_Cmd_about_82 : decode prog_15_method_31_code 82 = .ok (.aload_n 0, 1) := by decide +kernel
theorem d_Cmd_about_83 : decode prog_15_method_31_code 83 = .ok (.getfield 26, 3) := by decide +kernel
theorem d_Cmd_about_86 : decode prog_15_method_31_code 86 = .ok (.ireturn, 1) := by decide +kernel
theorem d_Cmd_about_87 : decode prog_15_method_31_code 87 = .ok (.aload_n 0, 1) := by decide +kernel
theorem d_Cmd_about_88 : decode prog_15_method_31_code 88 = .ok (.getfield 29, 3) := by decide +kernel
theorem d_Cmd_about_91 : decode prog_15_method_31_code 91 = .ok (.ireturn, 1) := by decide +kernel
theorem d_Cmd_about_92 : decode prog_15_method_31_code 92 = .ok (.aload_n 0, 1) := by decide +kernel
theorem d_Cmd_about_93 : decode prog_15_method_31_code 93 = .ok (.getfield 140, 3) := by decide +kernel
theorem d_Cmd_about_96 : decode prog_15_method_31_code 96 = .ok (.ireturn, 1) := by decide +kernel
theorem d_Cmd_about_97 : decode prog_15_method_31_code 97 = .ok (.aload_n 0, 1) := by decide +kernel
theorem d_Cmd_about_98 : decode prog_15_method_31_code 98 = .ok (.getfield 32, 3) := by decide +kernel
theorem d_Cmd_about_101 : decode prog_15_method_31_code 101 = .ok (.ireturn, 1) := by decide +kernel
theorem d_Cmd_about_102 : decode prog_15_method_31_code 102 = .ok (.aload_n 0, 1) := by decide +kernel
theorem d_Cmd_about_103 : decode prog_15_method_31_code 103 = .ok (.getfield 124, 3) := by decide +kernel
theorem d_Cmd_about_106 : decode prog_15_method_31_code 106 = .ok (.ireturn, 1) := by decide +kernel
def F_Cmd_about_76 (σ : Sg) (s0 : Int32) : Option (Sg × Int32) := some (σ, s0)
set_option maxRecDepth 10000 in
set_option maxHeartbeats 4000000 in
theorem bt_Cmd_about_76 {p : Program} {l : Launch} {e : Env} {R : Room} {s : State} {m : MethodId} {args : Array Value} {below : List Frame} {meth : Method} {c : Code} {D : va_G} {τ : ClassId × ClassId × ClassId} {B : Nat} {A : Nat → Prop} {ad : Nat → Nat} (E : Cx p R s m args meth c prog_15_method_31_code 2 "DrawingMachineModel$DrawCommandsModel" 1 D τ B A) (hret : meth.sig.returnType = (some .int)) (o : Sg × Int32) (σ : Sg) (s0 : Int32) (h : F_Cmd_about_76 σ s0 = some o) {H : Heap} {locs : List Loc} {ls : Array Slot} (w : Wd s D A (wdM τ σ ad) H locs) (hl : lv_has ls 2 []) : W p l e R s m args below meth c H locs 0 0 (QI below args s A D τ (wdM τ o.1 ad) o.2) (F0 m 76 ls [.int s0]) := by
  obtain rfl := Option.some.inj h
  exact rt_i E w hret d_Cmd_about_76
def F_Cmd_about_18 (σ : Sg) (v1 : Int32) (s1 : Int32) : Option (Sg × Int32) := bd (F_Cmd_refuse σ s1) (fun o9 => if o9.2 = (0 : Int32) then (if v1 = 0 then (if (o9.1.1 13) = (0 : Int32) then (F_Cmd_about_76 o9.1 0) else (F_Cmd_about_76 o9.1 1)) else (if v1 = 1 then (some (o9.1, o9.1.1 14)) else (if v1 = 2 then (some (o9.1, o9.1.1 15)) else (if v1 = 3 then (some (o9.1, o9.1.1 16)) else (if v1 = 4 then (some (o9.1, o9.1.1 17)) else (if v1 = 5 then (some (o9.1, o9.1.1 18)) else (some (o9.1, o9.1.1 10)))))))) else (some (o9.1, 0)))
set_option maxRecDepth 10000 in
set_option maxHeartbeats 4000000 in
theorem bt_Cmd_about_18 {p : Program} {l : Launch} {e : Env} {R : Room} {s : State} {m : MethodId} {args : Array Value} {below : List Frame} {meth : Method} {c : Code} {D : va_G} {τ : ClassId × ClassId × ClassId} {B : Nat} {A : Nat → Prop} {ad : Nat → Nat} (E : Cx p R s m args meth c prog_15_method_31_code 2 "DrawingMachineModel$DrawCommandsModel" 1 D τ B A) (hret : meth.sig.returnType = (some .int)) (o : Sg × Int32) (σ : Sg) (v1 : Int32) (s1 : Int32) (h : F_Cmd_about_18 σ v1 s1 = some o) {H : Heap} {locs : List Loc} {ls : Array Slot} (w : Wd s D A (wdM τ σ ad) H locs) (hl : lv_has ls 2 [(0, .ref (ad 60)), (1, .int v1)]) : W p l e R s m args below meth c H locs 0 0 (QI below args s A D τ (wdM τ o.1 ad) o.2) (F0 m 18 ls [.int s1, .ref (ad 60)]) := by
  obtain ⟨o9, h_o9, h⟩ := bd_some h
  refine clV_Cmd_refuse E w (x0 := s1) h_o9 k1847 (by decide) hl.1 (Nat.le_of_ble_eq_true rfl) d_Cmd_about_18 (fun H locs w => ?_)
  refine lv_if_eq (tgt := 26) E.x E.b d_Cmd_about_21 (by decide) (fun c => ?_) (fun c => ?_)
  ·
    replace h := ifT c h
    refine lv_iload_n E.x E.b d_Cmd_about_26 rfl (lv_at hl 1 rfl) ?_
    by_cases q10 : v1 = 0
    ·
      replace h := ifT q10 h
      refine wi_e (v := 0) q10 ?_
      refine lv_tableIn (off := 37) (tgt := 64) E.x E.b d_Cmd_about_27 (by decide) (by decide) (by decide) (by decide) ?_
      refine lv_aload_n E.x E.b d_Cmd_about_64 rfl (lv_at hl 0 rfl) ?_
      refine gM_Cmd_over E w k1455 d_Cmd_about_65 ?_
      refine lv_if_eq (tgt := 75) E.x E.b d_Cmd_about_68 (by decide) (fun c => ?_) (fun c => ?_)
      ·
        replace h := ifT c h
        refine lv_iconst (v := 0) E.x E.b d_Cmd_about_75 (by decide) ?_
        exact bt_Cmd_about_76 E hret o o9.1 0 h w (lv_sub hl [] rfl)
      ·
        replace h := ifF c h
        refine lv_iconst (v := 1) E.x E.b d_Cmd_about_71 (by decide) ?_
        refine lv_goto (tgt := 76) E.x E.b d_Cmd_about_72 (by decide) ?_
        exact bt_Cmd_about_76 E hret o o9.1 1 h w (lv_sub hl [] rfl)
    replace h := ifF q10 h
    replace q10 := ne_ti (k := 0) (by decide) q10
    by_cases q11 : v1 = 1
    ·
      replace h := ifT q11 h
      refine wi_e (v := 1) q11 ?_
      refine lv_tableIn (off := 50) (tgt := 77) E.x E.b d_Cmd_about_27 (by decide) (by decide) (by decide) (by decide) ?_
      refine lv_aload_n E.x E.b d_Cmd_about_77 rfl (lv_at hl 0 rfl) ?_
      refine gM_Cmd_refusal E w k1457 d_Cmd_about_78 ?_
      obtain rfl := Option.some.inj h
      exact rt_i E w hret d_Cmd_about_81
    replace h := ifF q11 h
    replace q11 := ne_ti (k := 1) (by decide) q11
    by_cases q12 : v1 = 2
    ·
      replace h := ifT q12 h
      refine wi_e (v := 2) q12 ?_
      refine lv_tableIn (off := 55) (tgt := 82) E.x E.b d_Cmd_about_27 (by decide) (by decide) (by decide) (by decide) ?_
      refine lv_aload_n E.x E.b d_Cmd_about_82 rfl (lv_at hl 0 rfl) ?_
      refine gM_Cmd_place E w k1458 d_Cmd_about_83 ?_
      obtain rfl := Option.some.inj h
      exact rt_i E w hret d_Cmd_about_86
    replace h := ifF q12 h
    replace q12 := ne_ti (k := 2) (by decide) q12
    by_cases q13 : v1 = 3
    ·
      replace h := ifT q13 h
      refine wi_e (v := 3) q13 ?_
      refine lv_tableIn (off := 60) (tgt := 87) E.x E.b d_Cmd_about_27 (by decide) (by decide) (by decide) (by decide) ?_
      refine lv_aload_n E.x E.b d_Cmd_about_87 rfl (lv_at hl 0 rfl) ?_
      refine gM_Cmd_deep E w k1459 d_Cmd_about_88 ?_
      obtain rfl := Option.some.inj h
      exact rt_i E w hret d_Cmd_about_91
    replace h := ifF q13 h
    replace q13 := ne_ti (k := 3) (by decide) q13
    by_cases q14 : v1 = 4
    ·
      replace h := ifT q14 h
      refine wi_e (v := 4) q14 ?_
      refine lv_tableIn (off := 65) (tgt := 92) E.x E.b d_Cmd_about_27 (by decide) (by decide) (by decide) (by decide) ?_
      refine lv_aload_n E.x E.b d_Cmd_about_92 rfl (lv_at hl 0 rfl) ?_
      refine gM_Cmd_done E w k1461 d_Cmd_about_93 ?_
      obtain rfl := Option.some.inj h
      exact rt_i E w hret d_Cmd_about_96
    replace h := ifF q14 h
    replace q14 := ne_ti (k := 4) (by decide) q14
    by_cases q15 : v1 = 5
    ·
      replace h := ifT q15 h
      refine wi_e (v := 5) q15 ?_
      refine lv_tableIn (off := 70) (tgt := 97) E.x E.b d_Cmd_about_27 (by decide) (by decide) (by decide) (by decide) ?_
      refine lv_aload_n E.x E.b d_Cmd_about_97 rfl (lv_at hl 0 rfl) ?_
      refine gM_Cmd_query E w k1462 d_Cmd_about_98 ?_
      obtain rfl := Option.some.inj h
      exact rt_i E w hret d_Cmd_about_101
    replace h := ifF q15 h
    replace q15 := ne_ti (k := 5) (by decide) q15
    refine lv_tableOut (tgt := 102) E.x E.b d_Cmd_about_27 (by omega) (by decide) ?_
    refine lv_aload_n E.x E.b d_Cmd_about_102 rfl (lv_at hl 0 rfl) ?_
    refine gM_Cmd_size E w k1450 d_Cmd_about_103 ?_
    obtain rfl := Option.some.inj h
    exact rt_i E w hret d_Cmd_about_106
  ·
    replace h := ifF c h
    refine lv_iconst (v := 0) E.x E.b d_Cmd_about_24 (by decide) ?_
    obtain rfl := Option.some.inj h
    exact rt_i E w hret d_Cmd_about_25
def F_Cmd_about (σ : Sg) (x0 : Int32) : Option (Sg × Int32) := bd (F_Cmd_in x0.toInt64 0 6) (fun o16 => if o16 = (0 : Int32) then (F_Cmd_about_18 σ x0 1) else (F_Cmd_about_18 σ x0 0))
set_option maxRecDepth 10000 in
set_option maxHeartbeats 4000000 in
theorem c_Cmd_about (l : Launch) (D : va_G) (τ : ClassId × ClassId × ClassId) (B : Nat) (σ : Sg) (ad : Nat → Nat) (x0 : Int32) (o : Sg × Int32) (h : F_Cmd_about σ x0 = some o) : MI l y_Cmd_about (Cond.code y_Cmd_about prog_15_method_31_code 2 (some .int)) 1 D τ B [.ref (ad 60), .int x0] (wdM τ σ ad) (wdM τ o.1 ad) o.2 := by
  refine en_i (by decide) (Nat.le_of_ble_eq_true rfl) ?_
  intro p e R s m args below meth c H locs ls A E hret w hl
  have E : Cx p R s m args meth c prog_15_method_31_code 2 "DrawingMachineModel$DrawCommandsModel" 1 D τ B A := E
  have hl : lv_has ls 2 [(0, .ref (ad 60)), (1, .int x0)] := hl
  refine lv_aload_n E.x E.b d_Cmd_about_0 rfl (lv_at hl 0 rfl) ?_
  refine lv_iload_n E.x E.b d_Cmd_about_1 rfl (lv_at hl 1 rfl) ?_
  refine lv_i2l (v := x0.toInt64) E.x E.b d_Cmd_about_2 rfl ?_
  refine lv_lconst (v := 0) E.x E.b d_Cmd_about_3 (by decide) ?_
  refine lv_ldc2 (v := 6) E.x E.b E.o (E.w _ k2494) d_Cmd_about_4 ?_
  obtain ⟨o16, h_o16, h⟩ := bd_some h
  refine clS_Cmd_in E w (x0 := x0.toInt64) (x1 := 0) (x2 := 6) h_o16 k1844 (by decide) hl.1 (Nat.le_of_ble_eq_true rfl) d_Cmd_about_7 (fun H locs w => ?_)
  refine lv_if_ne (tgt := 17) E.x E.b d_Cmd_about_10 (by decide) (fun c => ?_) (fun c => ?_)
  ·
    replace h := ifF c h
    refine lv_iconst (v := 0) E.x E.b d_Cmd_about_17 (by decide) ?_
    exact bt_Cmd_about_18 E hret o σ x0 0 h w (lv_sub hl [0, 1] rfl)
  ·
    replace h := ifT c h
    refine lv_iconst (v := 1) E.x E.b d_Cmd_about_13 (by decide) ?_
    refine lv_goto (tgt := 18) E.x E.b d_Cmd_about_14 (by decide) ?_
    exact bt_Cmd_about_18 E hret o σ x0 1 h w (lv_sub hl [0, 1] rfl)
theorem clV_Cmd_about {p : Program} {l : Launch} {e : Env} {R : Room} {s : State} {m : MethodId} {args : Array Value} {below : List Frame} {meth : Method} {c : Code} {H : Heap} {locs : List Loc} {Q : State → Prop} {cc : ByteArray} {nL pc lev : Nat} {own : String} {D : va_G} {τ : ClassId × ClassId × ClassId} {B : Nat} {A : Nat → Prop} {σ : Sg} {ad : Nat → Nat} {ls : Array Slot} {rest : List Value} (E : Cx p R s m args meth c cc nL own lev D τ B A) (w : Wd s D A (wdM τ σ ad) H locs) {x0 : Int32} {o : Sg × Int32} (h : F_Cmd_about σ x0 = some o) {index : Nat} (hlk : Cond.methodLink own index y_Cmd_about ∈ tw) (hlev : 1 < lev) (hsz : ls.size = nL) (hr : (rest.map fun v => v.category).sum ≤ 8) (hd : decode cc pc = .ok (.invokevirtual index, 3)) (kk : ∀ (H1 : Heap) (locs1 : List Loc), Wd s D A (wdM τ o.1 ad) H1 locs1 → W p l e R s m args below meth c H1 locs1 0 0 Q (F0 m (pc + 3) ls (.int o.2 :: rest))) : W p l e R s m args below meth c H locs 0 0 Q (F0 m pc ls (.int x0 :: .ref (ad 60) :: rest)) :=
  cr_i w E.C (va_runV (As := [.int x0]) (rest := rest) E.fix (c_Cmd_about l D τ B σ ad x0 o h H.size) (cwV 1 E.w (tw_pre (tw_good k2493) (l := [_, _, _, _]) (List.forall_mem_cons.mpr ⟨hlk, List.forall_mem_cons.mpr ⟨k2491, List.forall_mem_cons.mpr ⟨k2492, List.forall_mem_cons.mpr ⟨k15, fun _ h => absurd h List.not_mem_nil⟩⟩⟩⟩)) rfl rfl rfl (by decide +kernel) (E.rm hlev (by decide))) (wd_preV w E.C [.int x0] rcM_Cmd rfl) rfl rfl hsz rfl (lv_room hr) hd ⟨Nat.zero_le _, Nat.zero_le _⟩) kk

theorem d_Mod_about_0 : decode prog_14_method_28_code 0 = .ok (.aload_n 0, 1) := by decide +kernel
theorem d_Mod_about_1 : decode prog_14_method_28_code 1 = .ok (.iload_n 1, 1) := by decide +kernel
theorem d_Mod_about_2 : decode prog_14_method_28_code 2 = .ok (.i2l, 1) := by decide +kernel
theorem d_Mod_about_3 : decode prog_14_method_28_code 3 = .ok (.lconst 0, 1) := by decide +kernel
theorem d_Mod_about_4 : decode prog_14_method_28_code 4 = .ok (.ldc2_w 362, 3) := by decide +kernel
theorem d_Mod_about_7 : decode prog_14_method_28_code 7 = .ok (.invokestatic 90, 3) := by decide +kernel
theorem d_Mod_about_10 : decode prog_14_method_28_code 10 = .ok (.ifCond .ne 7, 3) := by decide +kernel
theorem d_Mod_about_13 : decode prog_14_method_28_code 13 = .ok (.iconst 1, 1) := by decide +kernel
theorem d_Mod_about_14 : decode prog_14_method_28_code 14 = .ok (.goto 4, 3) := by decide +kernel
theorem d_Mod_about_17 : decode prog_14_method_28_code 17 = .ok (.iconst 0, 1) := by decide +kernel
theorem d_Mod_about_18 : decode prog_14_method_28_code 18 = .ok (.iconst 0, 1) := by decide +kernel
theorem d_Mod_about_19 : decode prog_14_method_28_code 19 = .ok (.invokevirtual 94, 3) := by decide +kernel
theorem d_Mod_about_22 : decode prog_14_method_28_code 22 = .ok (.ifCond .eq 5, 3) := by decide +kernel
theorem d_Mod_about_25 : decode prog_14_method_28_code 25 = .ok (.iconst 0, 1) := by decide +kernel
theorem d_Mod_about_26 : decode prog_14_method_28_code 26 = .ok (.ireturn, 1) := by decide +kernel
theorem d_Mod_about_27 : decode prog_14_method_28_code 27 = .ok (.iload_n 1, 1) := by decide +kernel
theorem d_Mod_about_28 : decode prog_14_method_28_code 28 = .ok (.bipush 7, 2) := by decide +kernel
theorem d_Mod_about_30 : decode prog_14_method_28_code 30 = .ok (.if_icmp .ne 10, 3) := by decide +kernel
theorem d_Mod_about_33 : decode prog_14_method_28_code 33 = .ok (.aload_n 0, 1) := by decide +kernel
theorem d_Mod_about_34 : decode prog_14_method_28_code 34 = .ok (.getfield 182, 3) := by decide +kernel
theorem d_Mod_about_37 : decode prog_14_method_28_code 37 = .ok (.goto 24, 3) := by decide +kernel
theorem d_Mod_about_40 : decode prog_14_method_28_code 40 = .ok (.iload_n 1, 1) := by decide +kernel
theorem d_Mod_about_41 : decode prog_14_method_28_code 41 = .ok (.bipush 8, 2) := by decide +kernel
theorem d_Mod_about_43 : decode prog_14_method_28_code 43 = .ok (.if_icmp .ne 10, 3) := by decide +kernel
theorem d_Mod_about_46 : decode prog_14_method_28_code 46 = .ok (.aload_n 0, 1) := by decide +kernel
theorem d_Mod_about_47 : decode prog_14_method_28_code 47 = .ok (.getfield 69, 3) := by decide +kernel
theorem d_Mod_about_50 : decode prog_14_method_28_code 50 = .ok (.goto 11, 3) := by decide +kernel
theorem d_Mod_about_53 : decode prog_14_method_28_code 53 = .ok (.aload_n 0, 1) := by decide +kernel
theorem d_Mod_about_54 : decode prog_14_method_28_code 54 = .ok (.getfield 19, 3) := by decide +kernel
theorem d_Mod_about_57 : decode prog_14_method_28_code 57 = .ok (.iload_n 1, 1) := by decide +kernel
theorem d_Mod_about_58 : decode prog_14_method_28_code 58 = .ok (.invokevirtual 364, 3) := by decide +kernel
theorem d_Mod_about_61 : decode prog_14_method_28_code 61 = .ok (.ireturn, 1) := by decide +kernel
def F_Mod_about_61 (σ : Sg) (s0 : Int32) : Option (Sg × Int32) := some (σ, s0)
set_option maxRecDepth 10000 in
set_option maxHeartbeats 4000000 in
theorem bt_Mod_about_61 {p : Program} {l : Launch} {e : Env} {R : Room} {s : State} {m : MethodId} {args : Array Value} {below : List Frame} {meth : Method} {c : Code} {D : va_G} {τ : ClassId × ClassId × ClassId} {B : Nat} {A : Nat → Prop} {ad : Nat → Nat} (E : Cx p R s m args meth c prog_14_method_28_code 2 "DrawingMachineModel" 2 D τ B A) (hret : meth.sig.returnType = (some .int)) (o : Sg × Int32) (σ : Sg) (s0 : Int32) (h : F_Mod_about_61 σ s0 = some o) {H : Heap} {locs : List Loc} {ls : Array Slot} (w : Wd s D A (wdM τ σ ad) H locs) (hl : lv_has ls 2 []) : W p l e R s m args below meth c H locs 0 0 (QI below args s A D τ (wdM τ o.1 ad) o.2) (F0 m 61 ls [.int s0]) := by
  obtain rfl := Option.some.inj h
  exact rt_i E w hret d_Mod_about_61
def F_Mod_about_18 (σ : Sg) (v1 : Int32) (s1 : Int32) : Option (Sg × Int32) := bd (F_Mod_refuse σ s1 0) (fun o4 => if o4.2 = (0 : Int32) then (if v1 = (7 : Int32) then (F_Mod_about_61 o4.1 (o4.1.1 3)) else (if v1 = (8 : Int32) then (F_Mod_about_61 o4.1 (o4.1.1 4)) else (bd (F_Cmd_about o4.1 v1) (fun o5 => F_Mod_about_61 o5.1 o5.2)))) else (some (o4.1, 0)))
set_option maxRecDepth 10000 in
set_option maxHeartbeats 4000000 in
theorem bt_Mod_about_18 {p : Program} {l : Launch} {e : Env} {R : Room} {s : State} {m : MethodId} {args : Array Value} {below : List Frame} {meth : Method} {c : Code} {D : va_G} {τ : ClassId × ClassId × ClassId} {B : Nat} {A : Nat → Prop} {ad : Nat → Nat} (E : Cx p R s m args meth c prog_14_method_28_code 2 "DrawingMachineModel" 2 D τ B A) (hret : meth.sig.returnType = (some .int)) (o : Sg × Int32) (σ : Sg) (v1 : Int32) (s1 : Int32) (h : F_Mod_about_18 σ v1 s1 = some o) {H : Heap} {locs : List Loc} {ls : Array Slot} (w : Wd s D A (wdM τ σ ad) H locs) (hl : lv_has ls 2 [(0, .ref (ad 59)), (1, .int v1)]) : W p l e R s m args below meth c H locs 0 0 (QI below args s A D τ (wdM τ o.1 ad) o.2) (F0 m 18 ls [.int s1, .ref (ad 59)]) := by
  refine lv_iconst (v := 0) E.x E.b d_Mod_about_18 (by decide) ?_
  obtain ⟨o4, h_o4, h⟩ := bd_some h
  refine clV_Mod_refuse E w (x0 := s1) (x1 := 0) h_o4 k1835 (by decide) hl.1 (Nat.le_of_ble_eq_true rfl) d_Mod_about_19 (fun H locs w => ?_)
  refine lv_if_eq (tgt := 27) E.x E.b d_Mod_about_22 (by decide) (fun c => ?_) (fun c => ?_)
  ·
    replace h := ifT c h
    refine lv_iload_n E.x E.b d_Mod_about_27 rfl (lv_at hl 1 rfl) ?_
    refine lv_bipush (v := 7) E.x E.b d_Mod_about_28 (by decide) ?_
    refine lv_icmp_ne (tgt := 40) E.x E.b d_Mod_about_30 (by decide) (fun c => ?_) (fun c => ?_)
    ·
      replace h := ifF c h
      refine lv_iload_n E.x E.b d_Mod_about_40 rfl (lv_at hl 1 rfl) ?_
      refine lv_bipush (v := 8) E.x E.b d_Mod_about_41 (by decide) ?_
      refine lv_icmp_ne (tgt := 53) E.x E.b d_Mod_about_43 (by decide) (fun c => ?_) (fun c => ?_)
      ·
        replace h := ifF c h
        refine lv_aload_n E.x E.b d_Mod_about_53 rfl (lv_at hl 0 rfl) ?_
        refine gM_Mod_commands E w k1768 d_Mod_about_54 ?_
        refine lv_iload_n E.x E.b d_Mod_about_57 rfl (lv_at hl 1 rfl) ?_
        obtain ⟨o5, h_o5, h⟩ := bd_some h
        refine clV_Cmd_about E w (x0 := v1) h_o5 k2490 (by decide) hl.1 (Nat.le_of_ble_eq_true rfl) d_Mod_about_58 (fun H locs w => ?_)
        exact bt_Mod_about_61 E hret o o5.1 o5.2 h w (lv_sub hl [] rfl)
      ·
        replace h := ifT c h
        refine lv_aload_n E.x E.b d_Mod_about_46 rfl (lv_at hl 0 rfl) ?_
        refine gM_Mod_faultPlace E w k1776 d_Mod_about_47 ?_
        refine lv_goto (tgt := 61) E.x E.b d_Mod_about_50 (by decide) ?_
        exact bt_Mod_about_61 E hret o o4.1 (o4.1.1 4) h w (lv_sub hl [] rfl)
    ·
      replace h := ifT c h
      refine lv_aload_n E.x E.b d_Mod_about_33 rfl (lv_at hl 0 rfl) ?_
      refine gM_Mod_fault E w k1775 d_Mod_about_34 ?_
      refine lv_goto (tgt := 61) E.x E.b d_Mod_about_37 (by decide) ?_
      exact bt_Mod_about_61 E hret o o4.1 (o4.1.1 3) h w (lv_sub hl [] rfl)
  ·
    replace h := ifF c h
    refine lv_iconst (v := 0) E.x E.b d_Mod_about_25 (by decide) ?_
    obtain rfl := Option.some.inj h
    exact rt_i E w hret d_Mod_about_26
def F_Mod_about (σ : Sg) (x0 : Int32) : Option (Sg × Int32) := bd (F_Mod_in x0.toInt64 0 8) (fun o6 => if o6 = (0 : Int32) then (F_Mod_about_18 σ x0 1) else (F_Mod_about_18 σ x0 0))
set_option maxRecDepth 10000 in
set_option maxHeartbeats 4000000 in
theorem c_Mod_about (l : Launch) (D : va_G) (τ : ClassId × ClassId × ClassId) (B : Nat) (σ : Sg) (ad : Nat → Nat) (x0 : Int32) (o : Sg × Int32) (h : F_Mod_about σ x0 = some o) : MI l y_Mod_about (Cond.code y_Mod_about prog_14_method_28_code 2 (some .int)) 2 D τ B [.ref (ad 59), .int x0] (wdM τ σ ad) (wdM τ o.1 ad) o.2 := by
  refine en_i (by decide) (Nat.le_of_ble_eq_true rfl) ?_
  intro p e R s m args below meth c H locs ls A E hret w hl
  have E : Cx p R s m args meth c prog_14_method_28_code 2 "DrawingMachineModel" 2 D τ B A := E
  have hl : lv_has ls 2 [(0, .ref (ad 59)), (1, .int x0)] := hl
  refine lv_aload_n E.x E.b d_Mod_about_0 rfl (lv_at hl 0 rfl) ?_
  refine lv_iload_n E.x E.b d_Mod_about_1 rfl (lv_at hl 1 rfl) ?_
  refine lv_i2l (v := x0.toInt64) E.x E.b d_Mod_about_2 rfl ?_
  refine lv_lconst (v := 0) E.x E.b d_Mod_about_3 (by decide) ?_
  refine lv_ldc2 (v := 8) E.x E.b E.o (E.w _ k2489) d_Mod_about_4 ?_
  obtain ⟨o6, h_o6, h⟩ := bd_some h
  refine clS_Mod_in E w (x0 := x0.toInt64) (x1 := 0) (x2 := 8) h_o6 k1832 (by decide) hl.1 (Nat.le_of_ble_eq_true rfl) d_Mod_about_7 (fun H locs w => ?_)
  refine lv_if_ne (tgt := 17) E.x E.b d_Mod_about_10 (by decide) (fun c => ?_) (fun c => ?_)
  ·
    replace h := ifF c h
    refine lv_iconst (v := 0) E.x E.b d_Mod_about_17 (by decide) ?_
    exact bt_Mod_about_18 E hret o σ x0 0 h w (lv_sub hl [0, 1] rfl)
  ·
    replace h := ifT c h
    refine lv_iconst (v := 1) E.x E.b d_Mod_about_13 (by decide) ?_
    refine lv_goto (tgt := 18) E.x E.b d_Mod_about_14 (by decide) ?_
    exact bt_Mod_about_18 E hret o σ x0 1 h w (lv_sub hl [0, 1] rfl)

theorem d_Mod_at_0 : decode prog_14_method_29_code 0 = .ok (.iload_n 3, 1) := by decide +kernel
theorem d_Mod_at_1 : decode prog_14_method_29_code 1 = .ok (.i2l, 1) := by decide +kernel
theorem d_Mod_at_2 : decode prog_14_method_29_code 2 = .ok (.lconst 0, 1) := by decide +kernel
theorem d_Mod_at_3 : decode prog_14_method_29_code 3 = .ok (.ldc2_w 367, 3) := by decide +kernel
theorem d_Mod_at_6 : decode prog_14_method_29_code 6 = .ok (.invokestatic 90, 3) := by decide +kernel
theorem d_Mod_at_9 : decode prog_14_method_29_code 9 = .ok (.istore 4, 2) := by decide +kernel
theorem d_Mod_at_11 : decode prog_14_method_29_code 11 = .ok (.aload_n 0, 1) := by decide +kernel
theorem d_Mod_at_12 : decode prog_14_method_29_code 12 = .ok (.iload 4, 2) := by decide +kernel
theorem d_Mod_at_14 : decode prog_14_method_29_code 14 = .ok (.ifCond .ne 7, 3) := by decide +kernel
theorem d_Mod_at_17 : decode prog_14_method_29_code 17 = .ok (.iconst 1, 1) := by decide +kernel
theorem d_Mod_at_18 : decode prog_14_method_29_code 18 = .ok (.goto 4, 3) := by decide +kernel
theorem d_Mod_at_21 : decode prog_14_method_29_code 21 = .ok (.iconst 0, 1) := by decide +kernel
theorem d_Mod_at_22 : decode prog_14_method_29_code 22 = .ok (.iload 4, 2) := by decide +kernel
theorem d_Mod_at_24 : decode prog_14_method_29_code 24 = .ok (.ifCond .eq 39, 3) := by decide +kernel
theorem d_Mod_at_27 : decode prog_14_method_29_code 27 = .ok (.iload_n 1, 1) := by decide +kernel
theorem d_Mod_at_28 : decode prog_14_method_29_code 28 = .ok (.i2l, 1) := by decide +kernel
theorem d_Mod_at_29 : decode prog_14_method_29_code 29 = .ok (.lconst 0, 1) := by decide +kernel
theorem d_Mod_at_30 : decode prog_14_method_29_code 30 = .ok (.aload_n 0, 1) := by decide +kernel
theorem d_Mod_at_31 : decode prog_14_method_29_code 31 = .ok (.getfield 7, 3) := by decide +kernel
theorem d_Mod_at_34 : decode prog_14_method_29_code 34 = .ok (.iconst 1, 1) := by decide +kernel
theorem d_Mod_at_35 : decode prog_14_method_29_code 35 = .ok (.isub, 1) := by decide +kernel
theorem d_Mod_at_36 : decode prog_14_method_29_code 36 = .ok (.i2l, 1) := by decide +kernel
theorem d_Mod_at_37 : decode prog_14_method_29_code 37 = .ok (.invokestatic 90, 3) := by decide +kernel
theorem d_Mod_at_40 : decode prog_14_method_29_code 40 = .ok (.ifCond .eq 19, 3) := by decide +kernel
theorem d_Mod_at_43 : decode prog_14_method_29_code 43 = .ok (.iload_n 2, 1) := by decide +kernel
theorem d_Mod_at_44 : decode prog_14_method_29_code 44 = .ok (.i2l, 1) := by decide +kernel
theorem d_Mod_at_45 : decode prog_14_method_29_code 45 = .ok (.lconst 0, 1) := by decide +kernel
theorem d_Mod_at_46 : decode prog_14_method_29_code 46 = .ok (.aload_n 0, 1) := by decide +kernel
theorem d_Mod_at_47 : decode prog_14_method_29_code 47 = .ok (.getfield 13, 3) := by decide +kernel
theorem d_Mod_at_50 : decode prog_14_method_29_code 50 = .ok (.iconst 1, 1) := by decide +kernel
theorem d_Mod_at_51 : decode prog_14_method_29_code 51 = .ok (.isub, 1) := by decide +kernel
theorem d_Mod_at_52 : decode prog_14_method_29_code 52 = .ok (.i2l, 1) := by decide +kernel
theorem d_Mod_at_53 : decode prog_14_method_29_code 53 = .ok (.invokestatic 90, 3) := by decide +kernel
theorem d_Mod_at_56 : decode prog_14_method_29_code 56 = .ok (.ifCond .ne 7, 3) := by decide +kernel
theorem d_Mod_at_59 : decode prog_14_method_29_code 59 = .ok (.iconst 1, 1) := by decide +kernel
theorem d_Mod_at_60 : decode prog_14_method_29_code 60 = .ok (.goto 4, 3) := by decide +kernel
theorem d_Mod_at_63 : decode prog_14_method_29_code 63 = .ok (.iconst 0, 1) := by decide +kernel
theorem d_Mod_at_64 : decode prog_14_method_29_code 64 = .ok (.invokevirtual 94, 3) := by decide +kernel
theorem d_Mod_at_67 : decode prog_14_method_29_code 67 = .ok (.ifCond .eq 5, 3) := by decide +kernel
theorem d_Mod_at_70 : decode prog_14_method_29_code 70 = .ok (.iconst 0, 1) := by decide +kernel
theorem d_Mod_at_71 : decode prog_14_method_29_code 71 = .ok (.ireturn, 1) := by decide +kernel
theorem d_Mod_at_72 : decode prog_14_method_29_code 72 = .ok (.aload_n 0, 1) := by decide +kernel
theorem d_Mod_at_73 : decode prog_14_method_29_code 73 = .ok (.getfield 65, 3) := by decide +kernel
theorem d_Mod_at_76 : decode prog_14_method_29_code 76 = .ok (.iload_n 2, 1) := by decide +kernel
theorem d_Mod_at_77 : decode prog_14_method_29_code 77 = .ok (.aload_n 0, 1) := by decide +kernel
theorem d_Mod_at_78 : decode prog_14_method_29_code 78 = .ok (.getfield 7, 3) := by decide +kernel
theorem d_Mod_at_81 : decode prog_14_method_29_code 81 = .ok (.imul, 1) := by decide +kernel
theorem d_Mod_at_82 : decode prog_14_method_29_code 82 = .ok (.iload_n 1, 1) := by decide +kernel
theorem d_Mod_at_83 : decode prog_14_method_29_code 83 = .ok (.iadd, 1) := by decide +kernel
theorem d_Mod_at_84 : decode prog_14_method_29_code 84 = .ok (.iload_n 3, 1) := by decide +kernel
theorem d_Mod_at_85 : decode prog_14_method_29_code 85 = .ok (.invokevirtual 208, 3) := by decide +kernel
theorem d_Mod_at_88 : decode prog_14_method_29_code 88 = .ok (.ireturn, 1) := by decide +kernel
def F_Mod_at_64 (σ : Sg) (v1 : Int32) (v2 : Int32) (v3 : Int32) (s1 : Int32) (s2 : Int32) : Option (Sg × Int32) := bd (F_Mod_refuse σ s1 s2) (fun o6 => if o6.2 = (0 : Int32) then (bd (F_Ptm_show o6.1 ((v2 * (o6.1.1 1)) + v1) v3) (fun o7 => some (o6.1, o7))) else (some (o6.1, 0)))
set_option maxRecDepth 10000 in
set_option maxHeartbeats 4000000 in
theorem bt_Mod_at_64 {p : Program} {l : Launch} {e : Env} {R : Room} {s : State} {m : MethodId} {args : Array Value} {below : List Frame} {meth : Method} {c : Code} {D : va_G} {τ : ClassId × ClassId × ClassId} {B : Nat} {A : Nat → Prop} {ad : Nat → Nat} (E : Cx p R s m args meth c prog_14_method_29_code 5 "DrawingMachineModel" 1 D τ B A) (hret : meth.sig.returnType = (some .int)) (o : Sg × Int32) (σ : Sg) (v1 : Int32) (v2 : Int32) (v3 : Int32) (s1 : Int32) (s2 : Int32) (h : F_Mod_at_64 σ v1 v2 v3 s1 s2 = some o) {H : Heap} {locs : List Loc} {ls : Array Slot} (w : Wd s D A (wdM τ σ ad) H locs) (hl : lv_has ls 5 [(0, .ref (ad 59)), (1, .int v1), (2, .int v2), (3, .int v3)]) : W p l e R s m args below meth c H locs 0 0 (QI below args s A D τ (wdM τ o.1 ad) o.2) (F0 m 64 ls [.int s2, .int s1, .ref (ad 59)]) := by
  obtain ⟨o6, h_o6, h⟩ := bd_some h
  refine clV_Mod_refuse E w (x0 := s1) (x1 := s2) h_o6 k1835 (by decide) hl.1 (Nat.le_of_ble_eq_true rfl) d_Mod_at_64 (fun H locs w => ?_)
  refine lv_if_eq (tgt := 72) E.x E.b d_Mod_at_67 (by decide) (fun c => ?_) (fun c => ?_)
  ·
    replace h := ifT c h
    refine lv_aload_n E.x E.b d_Mod_at_72 rfl (lv_at hl 0 rfl) ?_
    refine gM_Mod_tests E w k1774 d_Mod_at_73 ?_
    refine lv_iload_n E.x E.b d_Mod_at_76 rfl (lv_at hl 2 rfl) ?_
    refine lv_aload_n E.x E.b d_Mod_at_77 rfl (lv_at hl 0 rfl) ?_
    refine gM_Mod_wide E w k1766 d_Mod_at_78 ?_
    refine lv_imul E.x E.b d_Mod_at_81 ?_
    refine lv_iload_n E.x E.b d_Mod_at_82 rfl (lv_at hl 1 rfl) ?_
    refine lv_iadd E.x E.b d_Mod_at_83 ?_
    refine lv_iload_n E.x E.b d_Mod_at_84 rfl (lv_at hl 3 rfl) ?_
    obtain ⟨o7, h_o7, h⟩ := bd_some h
    refine clVN_Ptm_show E w (x0 := ((v2 * (o6.1.1 1)) + v1)) (x1 := v3) h_o7 n2481 (by decide) hl.1 (Nat.le_of_ble_eq_true rfl) d_Mod_at_85 (fun H locs w => ?_)
    obtain rfl := Option.some.inj h
    exact rt_i E w hret d_Mod_at_88
  ·
    replace h := ifF c h
    refine lv_iconst (v := 0) E.x E.b d_Mod_at_70 (by decide) ?_
    obtain rfl := Option.some.inj h
    exact rt_i E w hret d_Mod_at_71
def F_Mod_at_63 (σ : Sg) (v1 : Int32) (v2 : Int32) (v3 : Int32) (s1 : Int32) : Option (Sg × Int32) := F_Mod_at_64 σ v1 v2 v3 s1 0
set_option maxRecDepth 10000 in
set_option maxHeartbeats 4000000 in
theorem bt_Mod_at_63 {p : Program} {l : Launch} {e : Env} {R : Room} {s : State} {m : MethodId} {args : Array Value} {below : List Frame} {meth : Method} {c : Code} {D : va_G} {τ : ClassId × ClassId × ClassId} {B : Nat} {A : Nat → Prop} {ad : Nat → Nat} (E : Cx p R s m args meth c prog_14_method_29_code 5 "DrawingMachineModel" 1 D τ B A) (hret : meth.sig.returnType = (some .int)) (o : Sg × Int32) (σ : Sg) (v1 : Int32) (v2 : Int32) (v3 : Int32) (s1 : Int32) (h : F_Mod_at_63 σ v1 v2 v3 s1 = some o) {H : Heap} {locs : List Loc} {ls : Array Slot} (w : Wd s D A (wdM τ σ ad) H locs) (hl : lv_has ls 5 [(0, .ref (ad 59)), (1, .int v1), (2, .int v2), (3, .int v3)]) : W p l e R s m args below meth c H locs 0 0 (QI below args s A D τ (wdM τ o.1 ad) o.2) (F0 m 63 ls [.int s1, .ref (ad 59)]) := by
  refine lv_iconst (v := 0) E.x E.b d_Mod_at_63 (by decide) ?_
  exact bt_Mod_at_64 E hret o σ v1 v2 v3 s1 0 h w (lv_sub hl [0, 1, 2, 3] rfl)
def F_Mod_at_59 (σ : Sg) (v1 : Int32) (v2 : Int32) (v3 : Int32) (s1 : Int32) : Option (Sg × Int32) := F_Mod_at_64 σ v1 v2 v3 s1 1
set_option maxRecDepth 10000 in
set_option maxHeartbeats 4000000 in
theorem bt_Mod_at_59 {p : Program} {l : Launch} {e : Env} {R : Room} {s : State} {m : MethodId} {args : Array Value} {below : List Frame} {meth : Method} {c : Code} {D : va_G} {τ : ClassId × ClassId × ClassId} {B : Nat} {A : Nat → Prop} {ad : Nat → Nat} (E : Cx p R s m args meth c prog_14_method_29_code 5 "DrawingMachineModel" 1 D τ B A) (hret : meth.sig.returnType = (some .int)) (o : Sg × Int32) (σ : Sg) (v1 : Int32) (v2 : Int32) (v3 : Int32) (s1 : Int32) (h : F_Mod_at_59 σ v1 v2 v3 s1 = some o) {H : Heap} {locs : List Loc} {ls : Array Slot} (w : Wd s D A (wdM τ σ ad) H locs) (hl : lv_has ls 5 [(0, .ref (ad 59)), (1, .int v1), (2, .int v2), (3, .int v3)]) : W p l e R s m args below meth c H locs 0 0 (QI below args s A D τ (wdM τ o.1 ad) o.2) (F0 m 59 ls [.int s1, .ref (ad 59)]) := by
  refine lv_iconst (v := 1) E.x E.b d_Mod_at_59 (by decide) ?_
  refine lv_goto (tgt := 64) E.x E.b d_Mod_at_60 (by decide) ?_
  exact bt_Mod_at_64 E hret o σ v1 v2 v3 s1 1 h w (lv_sub hl [0, 1, 2, 3] rfl)
def F_Mod_at_22 (σ : Sg) (v1 : Int32) (v2 : Int32) (v3 : Int32) (v4 : Int32) (s1 : Int32) : Option (Sg × Int32) := if v4 = (0 : Int32) then (F_Mod_at_63 σ v1 v2 v3 s1) else (bd (F_Mod_in v1.toInt64 0 (((σ.1 1) - 1).toInt64)) (fun o8 => if o8 = (0 : Int32) then (F_Mod_at_59 σ v1 v2 v3 s1) else (bd (F_Mod_in v2.toInt64 0 (((σ.1 2) - 1).toInt64)) (fun o9 => if o9 = (0 : Int32) then (F_Mod_at_59 σ v1 v2 v3 s1) else (F_Mod_at_63 σ v1 v2 v3 s1)))))
set_option maxRecDepth 10000 in
set_option maxHeartbeats 4000000 in
theorem bt_Mod_at_22 {p : Program} {l : Launch} {e : Env} {R : Room} {s : State} {m : MethodId} {args : Array Value} {below : List Frame} {meth : Method} {c : Code} {D : va_G} {τ : ClassId × ClassId × ClassId} {B : Nat} {A : Nat → Prop} {ad : Nat → Nat} (E : Cx p R s m args meth c prog_14_method_29_code 5 "DrawingMachineModel" 1 D τ B A) (hret : meth.sig.returnType = (some .int)) (o : Sg × Int32) (σ : Sg) (v1 : Int32) (v2 : Int32) (v3 : Int32) (v4 : Int32) (s1 : Int32) (h : F_Mod_at_22 σ v1 v2 v3 v4 s1 = some o) {H : Heap} {locs : List Loc} {ls : Array Slot} (w : Wd s D A (wdM τ σ ad) H locs) (hl : lv_has ls 5 [(0, .ref (ad 59)), (1, .int v1), (2, .int v2), (3, .int v3), (4, .int v4)]) : W p l e R s m args below meth c H locs 0 0 (QI below args s A D τ (wdM τ o.1 ad) o.2) (F0 m 22 ls [.int s1, .ref (ad 59)]) := by
  refine lv_iload E.x E.b d_Mod_at_22 (lv_at hl 4 rfl) ?_
  refine lv_if_eq (tgt := 63) E.x E.b d_Mod_at_24 (by decide) (fun c => ?_) (fun c => ?_)
  ·
    replace h := ifT c h
    exact bt_Mod_at_63 E hret o σ v1 v2 v3 s1 h w (lv_sub hl [0, 1, 2, 3] rfl)
  ·
    replace h := ifF c h
    refine lv_iload_n E.x E.b d_Mod_at_27 rfl (lv_at hl 1 rfl) ?_
    refine lv_i2l (v := v1.toInt64) E.x E.b d_Mod_at_28 rfl ?_
    refine lv_lconst (v := 0) E.x E.b d_Mod_at_29 (by decide) ?_
    refine lv_aload_n E.x E.b d_Mod_at_30 rfl (lv_at hl 0 rfl) ?_
    refine gM_Mod_wide E w k1766 d_Mod_at_31 ?_
    refine lv_iconst (v := 1) E.x E.b d_Mod_at_34 (by decide) ?_
    refine lv_isub E.x E.b d_Mod_at_35 ?_
    refine lv_i2l (v := ((σ.1 1) - 1).toInt64) E.x E.b d_Mod_at_36 rfl ?_
    obtain ⟨o8, h_o8, h⟩ := bd_some h
    refine clS_Mod_in E w (x0 := v1.toInt64) (x1 := 0) (x2 := (((σ.1 1) - 1).toInt64)) h_o8 k1832 (by decide) hl.1 (Nat.le_of_ble_eq_true rfl) d_Mod_at_37 (fun H locs w => ?_)
    refine lv_if_eq (tgt := 59) E.x E.b d_Mod_at_40 (by decide) (fun c => ?_) (fun c => ?_)
    ·
      replace h := ifT c h
      exact bt_Mod_at_59 E hret o σ v1 v2 v3 s1 h w (lv_sub hl [0, 1, 2, 3] rfl)
    ·
      replace h := ifF c h
      refine lv_iload_n E.x E.b d_Mod_at_43 rfl (lv_at hl 2 rfl) ?_
      refine lv_i2l (v := v2.toInt64) E.x E.b d_Mod_at_44 rfl ?_
      refine lv_lconst (v := 0) E.x E.b d_Mod_at_45 (by decide) ?_
      refine lv_aload_n E.x E.b d_Mod_at_46 rfl (lv_at hl 0 rfl) ?_
      refine gM_Mod_high E w k1767 d_Mod_at_47 ?_
      refine lv_iconst (v := 1) E.x E.b d_Mod_at_50 (by decide) ?_
      refine lv_isub E.x E.b d_Mod_at_51 ?_
      refine lv_i2l (v := ((σ.1 2) - 1).toInt64) E.x E.b d_Mod_at_52 rfl ?_
      obtain ⟨o9, h_o9, h⟩ := bd_some h
      refine clS_Mod_in E w (x0 := v2.toInt64) (x1 := 0) (x2 := (((σ.1 2) - 1).toInt64)) h_o9 k1832 (by decide) hl.1 (Nat.le_of_ble_eq_true rfl) d_Mod_at_53 (fun H locs w => ?_)
      refine lv_if_ne (tgt := 63) E.x E.b d_Mod_at_56 (by decide) (fun c => ?_) (fun c => ?_)
      ·
        replace h := ifF c h
        exact bt_Mod_at_63 E hret o σ v1 v2 v3 s1 h w (lv_sub hl [0, 1, 2, 3] rfl)
      ·
        replace h := ifT c h
        exact bt_Mod_at_59 E hret o σ v1 v2 v3 s1 h w (lv_sub hl [0, 1, 2, 3] rfl)
def F_Mod_at (σ : Sg) (x0 : Int32) (x1 : Int32) (x2 : Int32) : Option (Sg × Int32) := bd (F_Mod_in x2.toInt64 0 2) (fun o10 => if o10 = (0 : Int32) then (F_Mod_at_22 σ x0 x1 x2 o10 1) else (F_Mod_at_22 σ x0 x1 x2 o10 0))
set_option maxRecDepth 10000 in
set_option maxHeartbeats 4000000 in
theorem c_Mod_at (l : Launch) (D : va_G) (τ : ClassId × ClassId × ClassId) (B : Nat) (σ : Sg) (ad : Nat → Nat) (x0 : Int32) (x1 : Int32) (x2 : Int32) (o : Sg × Int32) (h : F_Mod_at σ x0 x1 x2 = some o) : MI l y_Mod_at (Cond.code y_Mod_at prog_14_method_29_code 5 (some .int)) 1 D τ B [.ref (ad 59), .int x0, .int x1, .int x2] (wdM τ σ ad) (wdM τ o.1 ad) o.2 := by
  refine en_i (by decide) (Nat.le_of_ble_eq_true rfl) ?_
  intro p e R s m args below meth c H locs ls A E hret w hl
  have E : Cx p R s m args meth c prog_14_method_29_code 5 "DrawingMachineModel" 1 D τ B A := E
  have hl : lv_has ls 5 [(0, .ref (ad 59)), (1, .int x0), (2, .int x1), (3, .int x2)] := hl
  refine lv_iload_n E.x E.b d_Mod_at_0 rfl (lv_at hl 3 rfl) ?_
  refine lv_i2l (v := x2.toInt64) E.x E.b d_Mod_at_1 rfl ?_
  refine lv_lconst (v := 0) E.x E.b d_Mod_at_2 (by decide) ?_
  refine lv_ldc2 (v := 2) E.x E.b E.o (E.w _ k2499) d_Mod_at_3 ?_
  obtain ⟨o10, h_o10, h⟩ := bd_some h
  refine clS_Mod_in E w (x0 := x2.toInt64) (x1 := 0) (x2 := 2) h_o10 k1832 (by decide) hl.1 (Nat.le_of_ble_eq_true rfl) d_Mod_at_6 (fun H locs w => ?_)
  refine lv_istore (lv' := [(4, .int o10), (0, .ref (ad 59)), (1, .int x0), (2, .int x1), (3, .int x2)]) E.x E.b d_Mod_at_9 hl (by decide) rfl (fun ls hl => ?_)
  refine lv_aload_n E.x E.b d_Mod_at_11 rfl (lv_at hl 1 rfl) ?_
  refine lv_iload E.x E.b d_Mod_at_12 (lv_at hl 0 rfl) ?_
  refine lv_if_ne (tgt := 21) E.x E.b d_Mod_at_14 (by decide) (fun c => ?_) (fun c => ?_)
  ·
    replace h := ifF c h
    refine lv_iconst (v := 0) E.x E.b d_Mod_at_21 (by decide) ?_
    exact bt_Mod_at_22 E hret o σ x0 x1 x2 o10 0 h w (lv_sub hl [1, 2, 3, 4, 0] rfl)
  ·
    replace h := ifT c h
    refine lv_iconst (v := 1) E.x E.b d_Mod_at_17 (by decide) ?_
    refine lv_goto (tgt := 22) E.x E.b d_Mod_at_18 (by decide) ?_
    exact bt_Mod_at_22 E hret o σ x0 x1 x2 o10 1 h w (lv_sub hl [1, 2, 3, 4, 0] rfl)

theorem d_Ptm_sum_0 : decode prog_17_method_30_code 0 = .ok (.aload_n 0, 1) := by decide +kernel
theorem d_Ptm_sum_1 : decode prog_17_method_30_code 1 = .ok (.iload_n 1, 1) := by decide +kernel
theorem d_Ptm_sum_2 : decode prog_17_method_30_code 2 = .ok (.iconst 0, 1) := by decide +kernel
theorem d_Ptm_sum_3 : decode prog_17_method_30_code 3 = .ok (.iconst 2, 1) := by decide +kernel
theorem d_Ptm_sum_4 : decode prog_17_method_30_code 4 = .ok (.invokestatic 63, 3) := by decide +kernel
theorem d_Ptm_sum_7 : decode prog_17_method_30_code 7 = .ok (.ifCond .ne 7, 3) := by decide +kernel
theorem d_Ptm_sum_10 : decode prog_17_method_30_code 10 = .ok (.iconst 1, 1) := by decide +kernel
theorem d_Ptm_sum_11 : decode prog_17_method_30_code 11 = .ok (.goto 4, 3) := by decide +kernel
theorem d_Ptm_sum_14 : decode prog_17_method_30_code 14 = .ok (.iconst 0, 1) := by decide +kernel
theorem d_Ptm_sum_15 : decode prog_17_method_30_code 15 = .ok (.iconst 0, 1) := by decide +kernel
theorem d_Ptm_sum_16 : decode prog_17_method_30_code 16 = .ok (.invokevirtual 67, 3) := by decide +kernel
theorem d_Ptm_sum_19 : decode prog_17_method_30_code 19 = .ok (.ifCond .eq 5, 3) := by decide +kernel
theorem d_Ptm_sum_22 : decode prog_17_method_30_code 22 = .ok (.iconst 0, 1) := by decide +kernel
theorem d_Ptm_sum_23 : decode prog_17_method_30_code 23 = .ok (.ireturn, 1) := by decide +kernel
theorem d_Ptm_sum_24 : decode prog_17_method_30_code 24 = .ok (.iconst 0, 1) := by decide +kernel
theorem d_Ptm_sum_25 : decode prog_17_method_30_code 25 = .ok (.istore_n 2, 1) := by decide +kernel
theorem d_Ptm_sum_26 : decode prog_17_method_30_code 26 = .ok (.iconst 0, 1) := by decide +kernel
theorem d_Ptm_sum_27 : decode prog_17_method_30_code 27 = .ok (.istore_n 3, 1) := by decide +kernel
theorem d_Ptm_sum_28 : decode prog_17_method_30_code 28 = .ok (.iload_n 3, 1) := by decide +kernel
theorem d_Ptm_sum_29 : decode prog_17_method_30_code 29 = .ok (.aload_n 0, 1) := by decide +kernel
theorem d_Ptm_sum_30 : decode prog_17_method_30_code 30 = .ok (.getfield 7, 3) := by decide +kernel
theorem d_Ptm_sum_33 : decode prog_17_method_30_code 33 = .ok (.aload_n 0, 1) := by decide +kernel
theorem d_Ptm_sum_34 : decode prog_17_method_30_code 34 = .ok (.getfield 13, 3) := by decide +kernel
theorem d_Ptm_sum_37 : decode prog_17_method_30_code 37 = .ok (.imul, 1) := by decide +kernel
theorem d_Ptm_sum_38 : decode prog_17_method_30_code 38 = .ok (.if_icmp .ge 21, 3) := by decide +kernel
theorem d_Ptm_sum_41 : decode prog_17_method_30_code 41 = .ok (.bipush 31, 2) := by decide +kernel
theorem d_Ptm_sum_43 : decode prog_17_method_30_code 43 = .ok (.iload_n 2, 1) := by decide +kernel
theorem d_Ptm_sum_44 : decode prog_17_method_30_code 44 = .ok (.imul, 1) := by decide +kernel
theorem d_Ptm_sum_45 : decode prog_17_method_30_code 45 = .ok (.aload_n 0, 1) := by decide +kernel
theorem d_Ptm_sum_46 : decode prog_17_method_30_code 46 = .ok (.iload_n 3, 1) := by decide +kernel
theorem d_Ptm_sum_47 : decode prog_17_method_30_code 47 = .ok (.iload_n 1, 1) := by decide +kernel
theorem d_Ptm_sum_48 : decode prog_17_method_30_code 48 = .ok (.invokevirtual 133, 3) := by decide +kernel
theorem d_Ptm_sum_51 : decode prog_17_method_30_code 51 = .ok (.iadd, 1) := by decide +kernel
theorem d_Ptm_sum_52 : decode prog_17_method_30_code 52 = .ok (.istore_n 2, 1) := by decide +kernel
theorem d_Ptm_sum_53 : decode prog_17_method_30_code 53 = .ok (.iinc 3 1, 3) := by decide +kernel
theorem d_Ptm_sum_56 : decode prog_17_method_30_code 56 = .ok (.goto (-28), 3) := by decide +kernel
theorem d_Ptm_sum_59 : decode prog_17_method_30_code 59 = .ok (.iload_n 2, 1) := by decide +kernel
theorem d_Ptm_sum_60 : decode prog_17_method_30_code 60 = .ok (.ireturn, 1) := by decide +kernel
def L_Ptm_sum_28 : Nat → Sg → Int32 → Int32 → Int32 → Option (Sg × Int32)
  | 0, _, _, _, _ => none
  | n + 1, σ, v1, v2, v3 => if ((σ.1 31) * (σ.1 32)) ≤ v3 then (some (σ, v2)) else (bd (F_Ptm_show σ v3 v1) (fun o6 => lt (((31 : Int32) * v2) + o6 : Int32) (fun y7 => lt (v3 + 1) (fun y8 => L_Ptm_sum_28 n σ v1 y7 y8))))
set_option maxRecDepth 10000 in
set_option maxHeartbeats 4000000 in
theorem lt_Ptm_sum_28 {p : Program} {l : Launch} {e : Env} {R : Room} {s : State} {m : MethodId} {args : Array Value} {below : List Frame} {meth : Method} {c : Code} {D : va_G} {τ : ClassId × ClassId × ClassId} {B : Nat} {A : Nat → Prop} {ad : Nat → Nat} (E : Cx p R s m args meth c prog_17_method_30_code 4 "DrawingMachineModel$PlaceTestsModel" 1 D τ B A) (hret : meth.sig.returnType = (some .int)) (o : Sg × Int32) : ∀ (n : Nat) (σ : Sg) (v1 : Int32) (v2 : Int32) (v3 : Int32) (H : Heap) (locs : List Loc) (ls : Array Slot), L_Ptm_sum_28 n σ v1 v2 v3 = some o → Wd s D A (wdM τ σ ad) H locs → lv_has ls 4 [(0, .ref (ad 64)), (1, .int v1), (2, .int v2), (3, .int v3)] → W p l e R s m args below meth c H locs 0 0 (QI below args s A D τ (wdM τ o.1 ad) o.2) (F0 m 28 ls []) := by
  intro n
  induction n with
  | zero =>
    intro σ v1 v2 v3 H locs ls h w hl
    cases h
  | succ n hr_28 =>
    intro σ v1 v2 v3 H locs ls h w hl
    refine lv_iload_n E.x E.b d_Ptm_sum_28 rfl (lv_at hl 3 rfl) ?_
    refine lv_aload_n E.x E.b d_Ptm_sum_29 rfl (lv_at hl 0 rfl) ?_
    refine gM_Ptm_wide E w k1701 d_Ptm_sum_30 ?_
    refine lv_aload_n E.x E.b d_Ptm_sum_33 rfl (lv_at hl 0 rfl) ?_
    refine gM_Ptm_high E w k1702 d_Ptm_sum_34 ?_
    refine lv_imul E.x E.b d_Ptm_sum_37 ?_
    refine lv_icmp_ge (tgt := 59) E.x E.b d_Ptm_sum_38 (by decide) (fun c => ?_) (fun c => ?_)
    ·
      replace h := ifT c h
      refine lv_iload_n E.x E.b d_Ptm_sum_59 rfl (lv_at hl 2 rfl) ?_
      obtain rfl := Option.some.inj h
      exact rt_i E w hret d_Ptm_sum_60
    ·
      replace h := ifF c h
      refine lv_bipush (v := 31) E.x E.b d_Ptm_sum_41 (by decide) ?_
      refine lv_iload_n E.x E.b d_Ptm_sum_43 rfl (lv_at hl 2 rfl) ?_
      refine lv_imul E.x E.b d_Ptm_sum_44 ?_
      refine lv_aload_n E.x E.b d_Ptm_sum_45 rfl (lv_at hl 0 rfl) ?_
      refine lv_iload_n E.x E.b d_Ptm_sum_46 rfl (lv_at hl 3 rfl) ?_
      refine lv_iload_n E.x E.b d_Ptm_sum_47 rfl (lv_at hl 1 rfl) ?_
      obtain ⟨o6, h_o6, h⟩ := bd_some h
      refine clV_Ptm_show E w (x0 := v3) (x1 := v1) h_o6 k2508 (by decide) hl.1 (Nat.le_of_ble_eq_true rfl) d_Ptm_sum_48 (fun H locs w => ?_)
      refine lv_iadd E.x E.b d_Ptm_sum_51 ?_
      obtain ⟨y7, e_y7, h⟩ := lt_some h
      refine wi_e (v := y7) e_y7 ?_
      refine lv_istore_n (lv' := [(2, .int y7), (0, .ref (ad 64)), (1, .int v1), (3, .int v3)]) E.x E.b d_Ptm_sum_52 rfl hl (by decide) rfl (fun ls hl => ?_)
      obtain ⟨y8, e_y8, h⟩ := lt_some h
      refine lv_iinc (v := y8) (lv' := [(3, .int y8), (2, .int y7), (0, .ref (ad 64)), (1, .int v1)]) E.x E.b d_Ptm_sum_53 hl (k := 3) rfl (e_y8) (by decide) rfl (fun ls hl => ?_)
      refine lv_goto (tgt := 28) E.x E.b d_Ptm_sum_56 (by decide) ?_
      exact hr_28 σ v1 y7 y8 _ _ _ h w (lv_sub hl [2, 3, 1, 0] rfl)
def F_Ptm_sum_15 (σ : Sg) (v1 : Int32) (s1 : Int32) : Option (Sg × Int32) := bd (F_Ptm_refuse σ s1 0) (fun o9 => if o9.2 = (0 : Int32) then (L_Ptm_sum_28 100000 o9.1 v1 0 0) else (some (o9.1, 0)))
set_option maxRecDepth 10000 in
set_option maxHeartbeats 4000000 in
theorem bt_Ptm_sum_15 {p : Program} {l : Launch} {e : Env} {R : Room} {s : State} {m : MethodId} {args : Array Value} {below : List Frame} {meth : Method} {c : Code} {D : va_G} {τ : ClassId × ClassId × ClassId} {B : Nat} {A : Nat → Prop} {ad : Nat → Nat} (E : Cx p R s m args meth c prog_17_method_30_code 4 "DrawingMachineModel$PlaceTestsModel" 1 D τ B A) (hret : meth.sig.returnType = (some .int)) (o : Sg × Int32) (σ : Sg) (v1 : Int32) (s1 : Int32) (h : F_Ptm_sum_15 σ v1 s1 = some o) {H : Heap} {locs : List Loc} {ls : Array Slot} (w : Wd s D A (wdM τ σ ad) H locs) (hl : lv_has ls 4 [(0, .ref (ad 64)), (1, .int v1)]) : W p l e R s m args below meth c H locs 0 0 (QI below args s A D τ (wdM τ o.1 ad) o.2) (F0 m 15 ls [.int s1, .ref (ad 64)]) := by
  refine lv_iconst (v := 0) E.x E.b d_Ptm_sum_15 (by decide) ?_
  obtain ⟨o9, h_o9, h⟩ := bd_some h
  refine clV_Ptm_refuse E w (x0 := s1) (x1 := 0) h_o9 k1858 (by decide) hl.1 (Nat.le_of_ble_eq_true rfl) d_Ptm_sum_16 (fun H locs w => ?_)
  refine lv_if_eq (tgt := 24) E.x E.b d_Ptm_sum_19 (by decide) (fun c => ?_) (fun c => ?_)
  ·
    replace h := ifT c h
    refine lv_iconst (v := 0) E.x E.b d_Ptm_sum_24 (by decide) ?_
    refine lv_istore_n (lv' := [(2, .int 0), (0, .ref (ad 64)), (1, .int v1)]) E.x E.b d_Ptm_sum_25 rfl hl (by decide) rfl (fun ls hl => ?_)
    refine lv_iconst (v := 0) E.x E.b d_Ptm_sum_26 (by decide) ?_
    refine lv_istore_n (lv' := [(3, .int 0), (2, .int 0), (0, .ref (ad 64)), (1, .int v1)]) E.x E.b d_Ptm_sum_27 rfl hl (by decide) rfl (fun ls hl => ?_)
    exact lt_Ptm_sum_28 E hret o 100000 o9.1 v1 0 0 _ _ _ h w (lv_sub hl [2, 3, 1, 0] rfl)
  ·
    replace h := ifF c h
    refine lv_iconst (v := 0) E.x E.b d_Ptm_sum_22 (by decide) ?_
    obtain rfl := Option.some.inj h
    exact rt_i E w hret d_Ptm_sum_23
def F_Ptm_sum (σ : Sg) (x0 : Int32) : Option (Sg × Int32) := bd (F_Ptm_in x0 0 2) (fun o10 => if o10 = (0 : Int32) then (F_Ptm_sum_15 σ x0 1) else (F_Ptm_sum_15 σ x0 0))
set_option maxRecDepth 10000 in
set_option maxHeartbeats 4000000 in
theorem c_Ptm_sum (l : Launch) (D : va_G) (τ : ClassId × ClassId × ClassId) (B : Nat) (σ : Sg) (ad : Nat → Nat) (x0 : Int32) (o : Sg × Int32) (h : F_Ptm_sum σ x0 = some o) : MI l y_Ptm_sum (Cond.code y_Ptm_sum prog_17_method_30_code 4 (some .int)) 1 D τ B [.ref (ad 64), .int x0] (wdM τ σ ad) (wdM τ o.1 ad) o.2 := by
  refine en_i (by decide) (Nat.le_of_ble_eq_true rfl) ?_
  intro p e R s m args below meth c H locs ls A E hret w hl
  have E : Cx p R s m args meth c prog_17_method_30_code 4 "DrawingMachineModel$PlaceTestsModel" 1 D τ B A := E
  have hl : lv_has ls 4 [(0, .ref (ad 64)), (1, .int x0)] := hl
  refine lv_aload_n E.x E.b d_Ptm_sum_0 rfl (lv_at hl 0 rfl) ?_
  refine lv_iload_n E.x E.b d_Ptm_sum_1 rfl (lv_at hl 1 rfl) ?_
  refine lv_iconst (v := 0) E.x E.b d_Ptm_sum_2 (by decide) ?_
  refine lv_iconst (v := 2) E.x E.b d_Ptm_sum_3 (by decide) ?_
  obtain ⟨o10, h_o10, h⟩ := bd_some h
  refine clS_Ptm_in E w (x0 := x0) (x1 := 0) (x2 := 2) h_o10 k1855 (by decide) hl.1 (Nat.le_of_ble_eq_true rfl) d_Ptm_sum_4 (fun H locs w => ?_)
  refine lv_if_ne (tgt := 14) E.x E.b d_Ptm_sum_7 (by decide) (fun c => ?_) (fun c => ?_)
  ·
    replace h := ifF c h
    refine lv_iconst (v := 0) E.x E.b d_Ptm_sum_14 (by decide) ?_
    exact bt_Ptm_sum_15 E hret o σ x0 0 h w (lv_sub hl [0, 1] rfl)
  ·
    replace h := ifT c h
    refine lv_iconst (v := 1) E.x E.b d_Ptm_sum_10 (by decide) ?_
    refine lv_goto (tgt := 15) E.x E.b d_Ptm_sum_11 (by decide) ?_
    exact bt_Ptm_sum_15 E hret o σ x0 1 h w (lv_sub hl [0, 1] rfl)
theorem clV_Ptm_sum {p : Program} {l : Launch} {e : Env} {R : Room} {s : State} {m : MethodId} {args : Array Value} {below : List Frame} {meth : Method} {c : Code} {H : Heap} {locs : List Loc} {Q : State → Prop} {cc : ByteArray} {nL pc lev : Nat} {own : String} {D : va_G} {τ : ClassId × ClassId × ClassId} {B : Nat} {A : Nat → Prop} {σ : Sg} {ad : Nat → Nat} {ls : Array Slot} {rest : List Value} (E : Cx p R s m args meth c cc nL own lev D τ B A) (w : Wd s D A (wdM τ σ ad) H locs) {x0 : Int32} {o : Sg × Int32} (h : F_Ptm_sum σ x0 = some o) {index : Nat} (hlk : Cond.methodLink own index y_Ptm_sum ∈ tw) (hlev : 1 < lev) (hsz : ls.size = nL) (hr : (rest.map fun v => v.category).sum ≤ 8) (hd : decode cc pc = .ok (.invokevirtual index, 3)) (kk : ∀ (H1 : Heap) (locs1 : List Loc), Wd s D A (wdM τ o.1 ad) H1 locs1 → W p l e R s m args below meth c H1 locs1 0 0 Q (F0 m (pc + 3) ls (.int o.2 :: rest))) : W p l e R s m args below meth c H locs 0 0 Q (F0 m pc ls (.int x0 :: .ref (ad 64) :: rest)) :=
  cr_i w E.C (va_runV (As := [.int x0]) (rest := rest) E.fix (c_Ptm_sum l D τ B σ ad x0 o h H.size) (cwV 1 E.w (tw_pre (tw_good k2507) (l := [_, _, _, _]) (List.forall_mem_cons.mpr ⟨hlk, List.forall_mem_cons.mpr ⟨k2505, List.forall_mem_cons.mpr ⟨k2506, List.forall_mem_cons.mpr ⟨k20, fun _ h => absurd h List.not_mem_nil⟩⟩⟩⟩)) rfl rfl rfl (by decide +kernel) (E.rm hlev (by decide))) (wd_preV w E.C [.int x0] rcM_Ptm rfl) rfl rfl hsz rfl (lv_room hr) hd ⟨Nat.zero_le _, Nat.zero_le _⟩) kk

theorem d_Mod_sum_0 : decode prog_14_method_30_code 0 = .ok (.aload_n 0, 1) := by decide +kernel
theorem d_Mod_sum_1 : decode prog_14_method_30_code 1 = .ok (.iload_n 1, 1) := by decide +kernel
theorem d_Mod_sum_2 : decode prog_14_method_30_code 2 = .ok (.i2l, 1) := by decide +kernel
theorem d_Mod_sum_3 : decode prog_14_method_30_code 3 = .ok (.lconst 0, 1) := by decide +kernel
theorem d_Mod_sum_4 : decode prog_14_method_30_code 4 = .ok (.ldc2_w 367, 3) := by decide +kernel
theorem d_Mod_sum_7 : decode prog_14_method_30_code 7 = .ok (.invokestatic 90, 3) := by decide +kernel
theorem d_Mod_sum_10 : decode prog_14_method_30_code 10 = .ok (.ifCond .ne 7, 3) := by decide +kernel
theorem d_Mod_sum_13 : decode prog_14_method_30_code 13 = .ok (.iconst 1, 1) := by decide +kernel
theorem d_Mod_sum_14 : decode prog_14_method_30_code 14 = .ok (.goto 4, 3) := by decide +kernel
theorem d_Mod_sum_17 : decode prog_14_method_30_code 17 = .ok (.iconst 0, 1) := by decide +kernel
theorem d_Mod_sum_18 : decode prog_14_method_30_code 18 = .ok (.iconst 0, 1) := by decide +kernel
theorem d_Mod_sum_19 : decode prog_14_method_30_code 19 = .ok (.invokevirtual 94, 3) := by decide +kernel
theorem d_Mod_sum_22 : decode prog_14_method_30_code 22 = .ok (.ifCond .eq 5, 3) := by decide +kernel
theorem d_Mod_sum_25 : decode prog_14_method_30_code 25 = .ok (.iconst 0, 1) := by decide +kernel
theorem d_Mod_sum_26 : decode prog_14_method_30_code 26 = .ok (.ireturn, 1) := by decide +kernel
theorem d_Mod_sum_27 : decode prog_14_method_30_code 27 = .ok (.aload_n 0, 1) := by decide +kernel
theorem d_Mod_sum_28 : decode prog_14_method_30_code 28 = .ok (.getfield 65, 3) := by decide +kernel
theorem d_Mod_sum_31 : decode prog_14_method_30_code 31 = .ok (.iload_n 1, 1) := by decide +kernel
theorem d_Mod_sum_32 : decode prog_14_method_30_code 32 = .ok (.invokevirtual 369, 3) := by decide +kernel
theorem d_Mod_sum_35 : decode prog_14_method_30_code 35 = .ok (.ireturn, 1) := by decide +kernel
def F_Mod_sum_18 (σ : Sg) (v1 : Int32) (s1 : Int32) : Option (Sg × Int32) := bd (F_Mod_refuse σ s1 0) (fun o4 => if o4.2 = (0 : Int32) then (bd (F_Ptm_sum o4.1 v1) (fun o5 => some (o5.1, o5.2))) else (some (o4.1, 0)))
set_option maxRecDepth 10000 in
set_option maxHeartbeats 4000000 in
theorem bt_Mod_sum_18 {p : Program} {l : Launch} {e : Env} {R : Room} {s : State} {m : MethodId} {args : Array Value} {below : List Frame} {meth : Method} {c : Code} {D : va_G} {τ : ClassId × ClassId × ClassId} {B : Nat} {A : Nat → Prop} {ad : Nat → Nat} (E : Cx p R s m args meth c prog_14_method_30_code 2 "DrawingMachineModel" 2 D τ B A) (hret : meth.sig.returnType = (some .int)) (o : Sg × Int32) (σ : Sg) (v1 : Int32) (s1 : Int32) (h : F_Mod_sum_18 σ v1 s1 = some o) {H : Heap} {locs : List Loc} {ls : Array Slot} (w : Wd s D A (wdM τ σ ad) H locs) (hl : lv_has ls 2 [(0, .ref (ad 59)), (1, .int v1)]) : W p l e R s m args below meth c H locs 0 0 (QI below args s A D τ (wdM τ o.1 ad) o.2) (F0 m 18 ls [.int s1, .ref (ad 59)]) := by
  refine lv_iconst (v := 0) E.x E.b d_Mod_sum_18 (by decide) ?_
  obtain ⟨o4, h_o4, h⟩ := bd_some h
  refine clV_Mod_refuse E w (x0 := s1) (x1 := 0) h_o4 k1835 (by decide) hl.1 (Nat.le_of_ble_eq_true rfl) d_Mod_sum_19 (fun H locs w => ?_)
  refine lv_if_eq (tgt := 27) E.x E.b d_Mod_sum_22 (by decide) (fun c => ?_) (fun c => ?_)
  ·
    replace h := ifT c h
    refine lv_aload_n E.x E.b d_Mod_sum_27 rfl (lv_at hl 0 rfl) ?_
    refine gM_Mod_tests E w k1774 d_Mod_sum_28 ?_
    refine lv_iload_n E.x E.b d_Mod_sum_31 rfl (lv_at hl 1 rfl) ?_
    obtain ⟨o5, h_o5, h⟩ := bd_some h
    refine clV_Ptm_sum E w (x0 := v1) h_o5 k2504 (by decide) hl.1 (Nat.le_of_ble_eq_true rfl) d_Mod_sum_32 (fun H locs w => ?_)
    obtain rfl := Option.some.inj h
    exact rt_i E w hret d_Mod_sum_35
  ·
    replace h := ifF c h
    refine lv_iconst (v := 0) E.x E.b d_Mod_sum_25 (by decide) ?_
    obtain rfl := Option.some.inj h
    exact rt_i E w hret d_Mod_sum_26
def F_Mod_sum (σ : Sg) (x0 : Int32) : Option (Sg × Int32) := bd (F_Mod_in x0.toInt64 0 2) (fun o6 => if o6 = (0 : Int32) then (F_Mod_sum_18 σ x0 1) else (F_Mod_sum_18 σ x0 0))
set_option maxRecDepth 10000 in
set_option maxHeartbeats 4000000 in
theorem c_Mod_sum (l : Launch) (D : va_G) (τ : ClassId × ClassId × ClassId) (B : Nat) (σ : Sg) (ad : Nat → Nat) (x0 : Int32) (o : Sg × Int32) (h : F_Mod_sum σ x0 = some o) : MI l y_Mod_sum (Cond.code y_Mod_sum prog_14_method_30_code 2 (some .int)) 2 D τ B [.ref (ad 59), .int x0] (wdM τ σ ad) (wdM τ o.1 ad) o.2 := by
  refine en_i (by decide) (Nat.le_of_ble_eq_true rfl) ?_
  intro p e R s m args below meth c H locs ls A E hret w hl
  have E : Cx p R s m args meth c prog_14_method_30_code 2 "DrawingMachineModel" 2 D τ B A := E
  have hl : lv_has ls 2 [(0, .ref (ad 59)), (1, .int x0)] := hl
  refine lv_aload_n E.x E.b d_Mod_sum_0 rfl (lv_at hl 0 rfl) ?_
  refine lv_iload_n E.x E.b d_Mod_sum_1 rfl (lv_at hl 1 rfl) ?_
  refine lv_i2l (v := x0.toInt64) E.x E.b d_Mod_sum_2 rfl ?_
  refine lv_lconst (v := 0) E.x E.b d_Mod_sum_3 (by decide) ?_
  refine lv_ldc2 (v := 2) E.x E.b E.o (E.w _ k2499) d_Mod_sum_4 ?_
  obtain ⟨o6, h_o6, h⟩ := bd_some h
  refine clS_Mod_in E w (x0 := x0.toInt64) (x1 := 0) (x2 := 2) h_o6 k1832 (by decide) hl.1 (Nat.le_of_ble_eq_true rfl) d_Mod_sum_7 (fun H locs w => ?_)
  refine lv_if_ne (tgt := 17) E.x E.b d_Mod_sum_10 (by decide) (fun c => ?_) (fun c => ?_)
  ·
    replace h := ifF c h
    refine lv_iconst (v := 0) E.x E.b d_Mod_sum_17 (by decide) ?_
    exact bt_Mod_sum_18 E hret o σ x0 0 h w (lv_sub hl [0, 1] rfl)
  ·
    replace h := ifT c h
    refine lv_iconst (v := 1) E.x E.b d_Mod_sum_13 (by decide) ?_
    refine lv_goto (tgt := 18) E.x E.b d_Mod_sum_14 (by decide) ?_
    exact bt_Mod_sum_18 E hret o σ x0 1 h w (lv_sub hl [0, 1] rfl)

theorem d_Mod_query_0 : decode prog_14_method_31_code 0 = .ok (.aload_n 0, 1) := by decide +kernel
theorem d_Mod_query_1 : decode prog_14_method_31_code 1 = .ok (.iload_n 1, 1) := by decide +kernel
theorem d_Mod_query_2 : decode prog_14_method_31_code 2 = .ok (.i2l, 1) := by decide +kernel
theorem d_Mod_query_3 : decode prog_14_method_31_code 3 = .ok (.lconst 0, 1) := by decide +kernel
theorem d_Mod_query_4 : decode prog_14_method_31_code 4 = .ok (.ldc2_w 372, 3) := by decide +kernel
theorem d_Mod_query_7 : decode prog_14_method_31_code 7 = .ok (.invokestatic 90, 3) := by decide +kernel
theorem d_Mod_query_10 : decode prog_14_method_31_code 10 = .ok (.ifCond .ne 7, 3) := by decide +kernel
theorem d_Mod_query_13 : decode prog_14_method_31_code 13 = .ok (.iconst 1, 1) := by decide +kernel
theorem d_Mod_query_14 : decode prog_14_method_31_code 14 = .ok (.goto 4, 3) := by decide +kernel
theorem d_Mod_query_17 : decode prog_14_method_31_code 17 = .ok (.iconst 0, 1) := by decide +kernel
theorem d_Mod_query_18 : decode prog_14_method_31_code 18 = .ok (.iconst 0, 1) := by decide +kernel
theorem d_Mod_query_19 : decode prog_14_method_31_code 19 = .ok (.invokevirtual 94, 3) := by decide +kernel
theorem d_Mod_query_22 : decode prog_14_method_31_code 22 = .ok (.ifCond .eq 5, 3) := by decide +kernel
theorem d_Mod_query_25 : decode prog_14_method_31_code 25 = .ok (.iconst 0, 1) := by decide +kernel
theorem d_Mod_query_26 : decode prog_14_method_31_code 26 = .ok (.ireturn, 1) := by decide +kernel
theorem d_Mod_query_27 : decode prog_14_method_31_code 27 = .ok (.aload_n 0, 1) := by decide +kernel
theorem d_Mod_query_28 : decode prog_14_method_31_code 28 = .ok (.getfield 72, 3) := by decide +kernel
theorem d_Mod_query_31 : decode prog_14_method_31_code 31 = .ok (.iload_n 1, 1) := by decide +kernel
theorem d_Mod_query_32 : decode prog_14_method_31_code 32 = .ok (.iaload, 1) := by decide +kernel
theorem d_Mod_query_33 : decode prog_14_method_31_code 33 = .ok (.ireturn, 1) := by decide +kernel
def F_Mod_query_18 (σ : Sg) (v1 : Int32) (s1 : Int32) : Option (Sg × Int32) := bd (F_Mod_refuse σ s1 0) (fun o4 => if o4.2 = (0 : Int32) then (ck (inb v1 8) (some (o4.1, o4.1.2.2.1 55 v1.toNatClampNeg))) else (some (o4.1, 0)))
set_option maxRecDepth 10000 in
set_option maxHeartbeats 4000000 in
theorem bt_Mod_query_18 {p : Program} {l : Launch} {e : Env} {R : Room} {s : State} {m : MethodId} {args : Array Value} {below : List Frame} {meth : Method} {c : Code} {D : va_G} {τ : ClassId × ClassId × ClassId} {B : Nat} {A : Nat → Prop} {ad : Nat → Nat} (E : Cx p R s m args meth c prog_14_method_31_code 2 "DrawingMachineModel" 1 D τ B A) (hret : meth.sig.returnType = (some .int)) (o : Sg × Int32) (σ : Sg) (v1 : Int32) (s1 : Int32) (h : F_Mod_query_18 σ v1 s1 = some o) {H : Heap} {locs : List Loc} {ls : Array Slot} (w : Wd s D A (wdM τ σ ad) H locs) (hl : lv_has ls 2 [(0, .ref (ad 59)), (1, .int v1)]) : W p l e R s m args below meth c H locs 0 0 (QI below args s A D τ (wdM τ o.1 ad) o.2) (F0 m 18 ls [.int s1, .ref (ad 59)]) := by
  refine lv_iconst (v := 0) E.x E.b d_Mod_query_18 (by decide) ?_
  obtain ⟨o4, h_o4, h⟩ := bd_some h
  refine clV_Mod_refuse E w (x0 := s1) (x1 := 0) h_o4 k1835 (by decide) hl.1 (Nat.le_of_ble_eq_true rfl) d_Mod_query_19 (fun H locs w => ?_)
  refine lv_if_eq (tgt := 27) E.x E.b d_Mod_query_22 (by decide) (fun c => ?_) (fun c => ?_)
  ·
    replace h := ifT c h
    refine lv_aload_n E.x E.b d_Mod_query_27 rfl (lv_at hl 0 rfl) ?_
    refine gM_Mod_queries E w k1780 d_Mod_query_28 ?_
    refine lv_iload_n E.x E.b d_Mod_query_31 rfl (lv_at hl 1 rfl) ?_
    obtain ⟨c5, h⟩ := ck_some h
    refine ialM E w (k := 55) (by decide) c5 d_Mod_query_32 ?_
    obtain rfl := Option.some.inj h
    exact rt_i E w hret d_Mod_query_33
  ·
    replace h := ifF c h
    refine lv_iconst (v := 0) E.x E.b d_Mod_query_25 (by decide) ?_
    obtain rfl := Option.some.inj h
    exact rt_i E w hret d_Mod_query_26
def F_Mod_query (σ : Sg) (x0 : Int32) : Option (Sg × Int32) := bd (F_Mod_in x0.toInt64 0 7) (fun o6 => if o6 = (0 : Int32) then (F_Mod_query_18 σ x0 1) else (F_Mod_query_18 σ x0 0))
set_option maxRecDepth 10000 in
set_option maxHeartbeats 4000000 in
theorem c_Mod_query (l : Launch) (D : va_G) (τ : ClassId × ClassId × ClassId) (B : Nat) (σ : Sg) (ad : Nat → Nat) (x0 : Int32) (o : Sg × Int32) (h : F_Mod_query σ x0 = some o) : MI l y_Mod_query (Cond.code y_Mod_query prog_14_method_31_code 2 (some .int)) 1 D τ B [.ref (ad 59), .int x0] (wdM τ σ ad) (wdM τ o.1 ad) o.2 := by
  refine en_i (by decide) (Nat.le_of_ble_eq_true rfl) ?_
  intro p e R s m args below meth c H locs ls A E hret w hl
  have E : Cx p R s m args meth c prog_14_method_31_code 2 "DrawingMachineModel" 1 D τ B A := E
  have hl : lv_has ls 2 [(0, .ref (ad 59)), (1, .int x0)] := hl
  refine lv_aload_n E.x E.b d_Mod_query_0 rfl (lv_at hl 0 rfl) ?_
  refine lv_iload_n E.x E.b d_Mod_query_1 rfl (lv_at hl 1 rfl) ?_
  refine lv_i2l (v := x0.toInt64) E.x E.b d_Mod_query_2 rfl ?_
  refine lv_lconst (v := 0) E.x E.b d_Mod_query_3 (by decide) ?_
  refine lv_ldc2 (v := 7) E.x E.b E.o (E.w _ k2513) d_Mod_query_4 ?_
  obtain ⟨o6, h_o6, h⟩ := bd_some h
  refine clS_Mod_in E w (x0 := x0.toInt64) (x1 := 0) (x2 := 7) h_o6 k1832 (by decide) hl.1 (Nat.le_of_ble_eq_true rfl) d_Mod_query_7 (fun H locs w => ?_)
  refine lv_if_ne (tgt := 17) E.x E.b d_Mod_query_10 (by decide) (fun c => ?_) (fun c => ?_)
  ·
    replace h := ifF c h
    refine lv_iconst (v := 0) E.x E.b d_Mod_query_17 (by decide) ?_
    exact bt_Mod_query_18 E hret o σ x0 0 h w (lv_sub hl [0, 1] rfl)
  ·
    replace h := ifT c h
    refine lv_iconst (v := 1) E.x E.b d_Mod_query_13 (by decide) ?_
    refine lv_goto (tgt := 18) E.x E.b d_Mod_query_14 (by decide) ?_
    exact bt_Mod_query_18 E hret o σ x0 1 h w (lv_sub hl [0, 1] rfl)

theorem d_Mod_count_0 : decode prog_14_method_32_code 0 = .ok (.aload_n 0, 1) := by decide +kernel
theorem d_Mod_count_1 : decode prog_14_method_32_code 1 = .ok (.iload_n 1, 1) := by decide +kernel
theorem d_Mod_count_2 : decode prog_14_method_32_code 2 = .ok (.i2l, 1) := by decide +kernel
theorem d_Mod_count_3 : decode prog_14_method_32_code 3 = .ok (.lconst 0, 1) := by decide +kernel
theorem d_Mod_count_4 : decode prog_14_method_32_code 4 = .ok (.ldc2_w 362, 3) := by decide +kernel
theorem d_Mod_count_7 : decode prog_14_method_32_code 7 = .ok (.invokestatic 90, 3) := by decide +kernel
theorem d_Mod_count_10 : decode prog_14_method_32_code 10 = .ok (.ifCond .ne 7, 3) := by decide +kernel
theorem d_Mod_count_13 : decode prog_14_method_32_code 13 = .ok (.iconst 1, 1) := by decide +kernel
theorem d_Mod_count_14 : decode prog_14_method_32_code 14 = .ok (.goto 4, 3) := by decide +kernel
theorem d_Mod_count_17 : decode prog_14_method_32_code 17 = .ok (.iconst 0, 1) := by decide +kernel
theorem d_Mod_count_18 : decode prog_14_method_32_code 18 = .ok (.iconst 0, 1) := by decide +kernel
theorem d_Mod_count_19 : decode prog_14_method_32_code 19 = .ok (.invokevirtual 94, 3) := by decide +kernel
theorem d_Mod_count_22 : decode prog_14_method_32_code 22 = .ok (.ifCond .eq 5, 3) := by decide +kernel
theorem d_Mod_count_25 : decode prog_14_method_32_code 25 = .ok (.iconst 0, 1) := by decide +kernel
theorem d_Mod_count_26 : decode prog_14_method_32_code 26 = .ok (.ireturn, 1) := by decide +kernel
theorem d_Mod_count_27 : decode prog_14_method_32_code 27 = .ok (.aload_n 0, 1) := by decide +kernel
theorem d_Mod_count_28 : decode prog_14_method_32_code 28 = .ok (.getfield 75, 3) := by decide +kernel
theorem d_Mod_count_31 : decode prog_14_method_32_code 31 = .ok (.iload_n 1, 1) := by decide +kernel
theorem d_Mod_count_32 : decode prog_14_method_32_code 32 = .ok (.iaload, 1) := by decide +kernel
theorem d_Mod_count_33 : decode prog_14_method_32_code 33 = .ok (.ireturn, 1) := by decide +kernel
def F_Mod_count_18 (σ : Sg) (v1 : Int32) (s1 : Int32) : Option (Sg × Int32) := bd (F_Mod_refuse σ s1 0) (fun o4 => if o4.2 = (0 : Int32) then (ck (inb v1 9) (some (o4.1, o4.1.2.2.1 56 v1.toNatClampNeg))) else (some (o4.1, 0)))
set_option maxRecDepth 10000 in
set_option maxHeartbeats 4000000 in
theorem bt_Mod_count_18 {p : Program} {l : Launch} {e : Env} {R : Room} {s : State} {m : MethodId} {args : Array Value} {below : List Frame} {meth : Method} {c : Code} {D : va_G} {τ : ClassId × ClassId × ClassId} {B : Nat} {A : Nat → Prop} {ad : Nat → Nat} (E : Cx p R s m args meth c prog_14_method_32_code 2 "DrawingMachineModel" 1 D τ B A) (hret : meth.sig.returnType = (some .int)) (o : Sg × Int32) (σ : Sg) (v1 : Int32) (s1 : Int32) (h : F_Mod_count_18 σ v1 s1 = some o) {H : Heap} {locs : List Loc} {ls : Array Slot} (w : Wd s D A (wdM τ σ ad) H locs) (hl : lv_has ls 2 [(0, .ref (ad 59)), (1, .int v1)]) : W p l e R s m args below meth c H locs 0 0 (QI below args s A D τ (wdM τ o.1 ad) o.2) (F0 m 18 ls [.int s1, .ref (ad 59)]) := by
  refine lv_iconst (v := 0) E.x E.b d_Mod_count_18 (by decide) ?_
  obtain ⟨o4, h_o4, h⟩ := bd_some h
  refine clV_Mod_refuse E w (x0 := s1) (x1 := 0) h_o4 k1835 (by decide) hl.1 (Nat.le_of_ble_eq_true rfl) d_Mod_count_19 (fun H locs w => ?_)
  refine lv_if_eq (tgt := 27) E.x E.b d_Mod_count_22 (by decide) (fun c => ?_) (fun c => ?_)
  ·
    replace h := ifT c h
    refine lv_aload_n E.x E.b d_Mod_count_27 rfl (lv_at hl 0 rfl) ?_
    refine gM_Mod_counts E w k1781 d_Mod_count_28 ?_
    refine lv_iload_n E.x E.b d_Mod_count_31 rfl (lv_at hl 1 rfl) ?_
    obtain ⟨c5, h⟩ := ck_some h
    refine ialM E w (k := 56) (by decide) c5 d_Mod_count_32 ?_
    obtain rfl := Option.some.inj h
    exact rt_i E w hret d_Mod_count_33
  ·
    replace h := ifF c h
    refine lv_iconst (v := 0) E.x E.b d_Mod_count_25 (by decide) ?_
    obtain rfl := Option.some.inj h
    exact rt_i E w hret d_Mod_count_26
def F_Mod_count (σ : Sg) (x0 : Int32) : Option (Sg × Int32) := bd (F_Mod_in x0.toInt64 0 8) (fun o6 => if o6 = (0 : Int32) then (F_Mod_count_18 σ x0 1) else (F_Mod_count_18 σ x0 0))
set_option maxRecDepth 10000 in
set_option maxHeartbeats 4000000 in
theorem c_Mod_count (l : Launch) (D : va_G) (τ : ClassId × ClassId × ClassId) (B : Nat) (σ : Sg) (ad : Nat → Nat) (x0 : Int32) (o : Sg × Int32) (h : F_Mod_count σ x0 = some o) : MI l y_Mod_count (Cond.code y_Mod_count prog_14_method_32_code 2 (some .int)) 1 D τ B [.ref (ad 59), .int x0] (wdM τ σ ad) (wdM τ o.1 ad) o.2 := by
  refine en_i (by decide) (Nat.le_of_ble_eq_true rfl) ?_
  intro p e R s m args below meth c H locs ls A E hret w hl
  have E : Cx p R s m args meth c prog_14_method_32_code 2 "DrawingMachineModel" 1 D τ B A := E
  have hl : lv_has ls 2 [(0, .ref (ad 59)), (1, .int x0)] := hl
  refine lv_aload_n E.x E.b d_Mod_count_0 rfl (lv_at hl 0 rfl) ?_
  refine lv_iload_n E.x E.b d_Mod_count_1 rfl (lv_at hl 1 rfl) ?_
  refine lv_i2l (v := x0.toInt64) E.x E.b d_Mod_count_2 rfl ?_
  refine lv_lconst (v := 0) E.x E.b d_Mod_count_3 (by decide) ?_
  refine lv_ldc2 (v := 8) E.x E.b E.o (E.w _ k2489) d_Mod_count_4 ?_
  obtain ⟨o6, h_o6, h⟩ := bd_some h
  refine clS_Mod_in E w (x0 := x0.toInt64) (x1 := 0) (x2 := 8) h_o6 k1832 (by decide) hl.1 (Nat.le_of_ble_eq_true rfl) d_Mod_count_7 (fun H locs w => ?_)
  refine lv_if_ne (tgt := 17) E.x E.b d_Mod_count_10 (by decide) (fun c => ?_) (fun c => ?_)
  ·
    replace h := ifF c h
    refine lv_iconst (v := 0) E.x E.b d_Mod_count_17 (by decide) ?_
    exact bt_Mod_count_18 E hret o σ x0 0 h w (lv_sub hl [0, 1] rfl)
  ·
    replace h := ifT c h
    refine lv_iconst (v := 1) E.x E.b d_Mod_count_13 (by decide) ?_
    refine lv_goto (tgt := 18) E.x E.b d_Mod_count_14 (by decide) ?_
    exact bt_Mod_count_18 E hret o σ x0 1 h w (lv_sub hl [0, 1] rfl)
