theorem d_Pro_follow_0 : decode prog_7_method_2_code 0 = .ok (.aload_n 0, 1) := by decide +kernel
theorem d_Pro_follow_1 : decode prog_7_method_2_code 1 = .ok (.getfield 9, 3) := by decide +kernel
theorem d_Pro_follow_4 : decode prog_7_method_2_code 4 = .ok (.iconst 0, 1) := by decide +kernel
theorem d_Pro_follow_5 : decode prog_7_method_2_code 5 = .ok (.bipush 64, 2) := by decide +kernel
theorem d_Pro_follow_7 : decode prog_7_method_2_code 7 = .ok (.iconst 0, 1) := by decide +kernel
theorem d_Pro_follow_8 : decode prog_7_method_2_code 8 = .ok (.invokestatic 45, 3) := by decide +kernel
theorem d_Pro_follow_11 : decode prog_7_method_2_code 11 = .ok (.aload_n 0, 1) := by decide +kernel
theorem d_Pro_follow_12 : decode prog_7_method_2_code 12 = .ok (.getfield 9, 3) := by decide +kernel
theorem d_Pro_follow_15 : decode prog_7_method_2_code 15 = .ok (.sipush 228, 3) := by decide +kernel
theorem d_Pro_follow_18 : decode prog_7_method_2_code 18 = .ok (.sipush 260, 3) := by decide +kernel
theorem d_Pro_follow_21 : decode prog_7_method_2_code 21 = .ok (.iconst 0, 1) := by decide +kernel
theorem d_Pro_follow_22 : decode prog_7_method_2_code 22 = .ok (.invokestatic 45, 3) := by decide +kernel
theorem d_Pro_follow_25 : decode prog_7_method_2_code 25 = .ok (.iconst 0, 1) := by decide +kernel
theorem d_Pro_follow_26 : decode prog_7_method_2_code 26 = .ok (.istore_n 2, 1) := by decide +kernel
theorem d_Pro_follow_27 : decode prog_7_method_2_code 27 = .ok (.iconst 0, 1) := by decide +kernel
theorem d_Pro_follow_28 : decode prog_7_method_2_code 28 = .ok (.istore_n 3, 1) := by decide +kernel
theorem d_Pro_follow_29 : decode prog_7_method_2_code 29 = .ok (.iconst 0, 1) := by decide +kernel
theorem d_Pro_follow_30 : decode prog_7_method_2_code 30 = .ok (.istore 4, 2) := by decide +kernel
theorem d_Pro_follow_32 : decode prog_7_method_2_code 32 = .ok (.iload 4, 2) := by decide +kernel
theorem d_Pro_follow_34 : decode prog_7_method_2_code 34 = .ok (.ldc 51, 2) := by decide +kernel
theorem d_Pro_follow_36 : decode prog_7_method_2_code 36 = .ok (.if_icmp .ge 334, 3) := by decide +kernel
theorem d_Pro_follow_39 : decode prog_7_method_2_code 39 = .ok (.iload_n 3, 1) := by decide +kernel
theorem d_Pro_follow_40 : decode prog_7_method_2_code 40 = .ok (.aload_n 1, 1) := by decide +kernel
theorem d_Pro_follow_41 : decode prog_7_method_2_code 41 = .ok (.getfield 52, 3) := by decide +kernel
theorem d_Pro_follow_44 : decode prog_7_method_2_code 44 = .ok (.if_icmp .ge 326, 3) := by decide +kernel
theorem d_Pro_follow_47 : decode prog_7_method_2_code 47 = .ok (.aload_n 1, 1) := by decide +kernel
theorem d_Pro_follow_48 : decode prog_7_method_2_code 48 = .ok (.getfield 58, 3) := by decide +kernel
theorem d_Pro_follow_51 : decode prog_7_method_2_code 51 = .ok (.iconst 3, 1) := by decide +kernel
theorem d_Pro_follow_52 : decode prog_7_method_2_code 52 = .ok (.iload_n 3, 1) := by decide +kernel
theorem d_Pro_follow_53 : decode prog_7_method_2_code 53 = .ok (.imul, 1) := by decide +kernel
theorem d_Pro_follow_54 : decode prog_7_method_2_code 54 = .ok (.iaload, 1) := by decide +kernel
theorem d_Pro_follow_55 : decode prog_7_method_2_code 55 = .ok (.istore 5, 2) := by decide +kernel
theorem d_Pro_follow_57 : decode prog_7_method_2_code 57 = .ok (.iload 5, 2) := by decide +kernel
theorem d_Pro_follow_59 : decode prog_7_method_2_code 59 = .ok (.bipush 17, 2) := by decide +kernel
theorem d_Pro_follow_61 : decode prog_7_method_2_code 61 = .ok (.iushr, 1) := by decide +kernel
theorem d_Pro_follow_62 : decode prog_7_method_2_code 62 = .ok (.istore 6, 2) := by decide +kernel
theorem d_Pro_follow_64 : decode prog_7_method_2_code 64 = .ok (.iload 5, 2) := by decide +kernel
theorem d_Pro_follow_66 : decode prog_7_method_2_code 66 = .ok (.bipush 63, 2) := by decide +kernel
theorem d_Pro_follow_68 : decode prog_7_method_2_code 68 = .ok (.iand, 1) := by decide +kernel
theorem d_Pro_follow_69 : decode prog_7_method_2_code 69 = .ok (.istore 7, 2) := by decide +kernel
theorem d_Pro_follow_71 : decode prog_7_method_2_code 71 = .ok (.aload_n 0, 1) := by decide +kernel
theorem d_Pro_follow_72 : decode prog_7_method_2_code 72 = .ok (.getstatic 61, 3) := by decide +kernel
theorem d_Pro_follow_75 : decode prog_7_method_2_code 75 = .ok (.iload 7, 2) := by decide +kernel
theorem d_Pro_follow_77 : decode prog_7_method_2_code 77 = .ok (.iaload, 1) := by decide +kernel
theorem d_Pro_follow_78 : decode prog_7_method_2_code 78 = .ok (.aload_n 1, 1) := by decide +kernel
theorem d_Pro_follow_79 : decode prog_7_method_2_code 79 = .ok (.getfield 58, 3) := by decide +kernel
theorem d_Pro_follow_82 : decode prog_7_method_2_code 82 = .ok (.iconst 3, 1) := by decide +kernel
theorem d_Pro_follow_83 : decode prog_7_method_2_code 83 = .ok (.iload_n 3, 1) := by decide +kernel
theorem d_Pro_follow_84 : decode prog_7_method_2_code 84 = .ok (.imul, 1) := by decide +kernel
theorem d_Pro_follow_85 : decode prog_7_method_2_code 85 = .ok (.iconst 1, 1) := by decide +kernel
theorem d_Pro_follow_86 : decode prog_7_method_2_code 86 = .ok (.iadd, 1) := by decide +kernel
theorem d_Pro_follow_87 : decode prog_7_method_2_code 87 = .ok (.iaload, 1) := by decide +kernel
theorem d_Pro_follow_88 : decode prog_7_method_2_code 88 = .ok (.aload_n 1, 1) := by decide +kernel
theorem d_Pro_follow_89 : decode prog_7_method_2_code 89 = .ok (.getfield 58, 3) := by decide +kernel
theorem d_Pro_follow_92 : decode prog_7_method_2_code 92 = .ok (.iconst 3, 1) := by decide +kernel
theorem d_Pro_follow_93 : decode prog_7_method_2_code 93 = .ok (.iload_n 3, 1) := by decide +kernel
theorem d_Pro_follow_94 : decode prog_7_method_2_code 94 = .ok (.imul, 1) := by decide +kernel
theorem d_Pro_follow_95 : decode prog_7_method_2_code 95 = .ok (.iconst 2, 1) := by decide +kernel
theorem d_Pro_follow_96 : decode prog_7_method_2_code 96 = .ok (.iadd, 1) := by decide +kernel
theorem d_Pro_follow_97 : decode prog_7_method_2_code 97 = .ok (.iaload, 1) := by decide +kernel
theorem d_Pro_follow_98 : decode prog_7_method_2_code 98 = .ok (.invokevirtual 64, 3) := by decide +kernel
theorem d_Pro_follow_101 : decode prog_7_method_2_code 101 = .ok (.iinc 3 1, 3) := by decide +kernel
theorem d_Pro_follow_104 : decode prog_7_method_2_code 104 = .ok (.iload 7, 2) := by decide +kernel
theorem d_Pro_follow_106 : decode prog_7_method_2_code 106 = .ok (.lookupswitch 246 #[(0, 74), (32, 195), (33, 195), (34, 76), (35, 97), (36, 138), (37, 157), (38, 163)], 74) := by decide +kernel
theorem d_Pro_follow_180 : decode prog_7_method_2_code 180 = .ok (.iconst 1, 1) := by decide +kernel
theorem d_Pro_follow_181 : decode prog_7_method_2_code 181 = .ok (.ireturn, 1) := by decide +kernel
theorem d_Pro_follow_182 : decode prog_7_method_2_code 182 = .ok (.aload_n 0, 1) := by decide +kernel
theorem d_Pro_follow_183 : decode prog_7_method_2_code 183 = .ok (.getfield 27, 3) := by decide +kernel
theorem d_Pro_follow_186 : decode prog_7_method_2_code 186 = .ok (.iload_n 2, 1) := by decide +kernel
theorem d_Pro_follow_187 : decode prog_7_method_2_code 187 = .ok (.iload_n 3, 1) := by decide +kernel
theorem d_Pro_follow_188 : decode prog_7_method_2_code 188 = .ok (.iastore, 1) := by decide +kernel
theorem d_Pro_follow_189 : decode prog_7_method_2_code 189 = .ok (.aload_n 0, 1) := by decide +kernel
theorem d_Pro_follow_190 : decode prog_7_method_2_code 190 = .ok (.getfield 30, 3) := by decide +kernel
theorem d_Pro_follow_193 : decode prog_7_method_2_code 193 = .ok (.iload_n 2, 1) := by decide +kernel
theorem d_Pro_follow_194 : decode prog_7_method_2_code 194 = .ok (.iload 6, 2) := by decide +kernel
theorem d_Pro_follow_196 : decode prog_7_method_2_code 196 = .ok (.iastore, 1) := by decide +kernel
theorem d_Pro_follow_197 : decode prog_7_method_2_code 197 = .ok (.iinc 2 1, 3) := by decide +kernel
theorem d_Pro_follow_200 : decode prog_7_method_2_code 200 = .ok (.goto 164, 3) := by decide +kernel
theorem d_Pro_follow_203 : decode prog_7_method_2_code 203 = .ok (.aload_n 0, 1) := by decide +kernel
theorem d_Pro_follow_204 : decode prog_7_method_2_code 204 = .ok (.getfield 30, 3) := by decide +kernel
theorem d_Pro_follow_207 : decode prog_7_method_2_code 207 = .ok (.iload_n 2, 1) := by decide +kernel
theorem d_Pro_follow_208 : decode prog_7_method_2_code 208 = .ok (.iconst 1, 1) := by decide +kernel
theorem d_Pro_follow_209 : decode prog_7_method_2_code 209 = .ok (.isub, 1) := by decide +kernel
theorem d_Pro_follow_210 : decode prog_7_method_2_code 210 = .ok (.dup2, 1) := by decide +kernel
theorem d_Pro_follow_211 : decode prog_7_method_2_code 211 = .ok (.iaload, 1) := by decide +kernel
theorem d_Pro_follow_212 : decode prog_7_method_2_code 212 = .ok (.iconst 1, 1) := by decide +kernel
theorem d_Pro_follow_213 : decode prog_7_method_2_code 213 = .ok (.isub, 1) := by decide +kernel
theorem d_Pro_follow_214 : decode prog_7_method_2_code 214 = .ok (.iastore, 1) := by decide +kernel
theorem d_Pro_follow_215 : decode prog_7_method_2_code 215 = .ok (.aload_n 0, 1) := by decide +kernel
theorem d_Pro_follow_216 : decode prog_7_method_2_code 216 = .ok (.getfield 30, 3) := by decide +kernel
theorem d_Pro_follow_219 : decode prog_7_method_2_code 219 = .ok (.iload_n 2, 1) := by decide +kernel
theorem d_Pro_follow_220 : decode prog_7_method_2_code 220 = .ok (.iconst 1, 1) := by decide +kernel
theorem d_Pro_follow_221 : decode prog_7_method_2_code 221 = .ok (.isub, 1) := by decide +kernel
theorem d_Pro_follow_222 : decode prog_7_method_2_code 222 = .ok (.iaload, 1) := by decide +kernel
theorem d_Pro_follow_223 : decode prog_7_method_2_code 223 = .ok (.ifCond .le 15, 3) := by decide +kernel
theorem d_Pro_follow_226 : decode prog_7_method_2_code 226 = .ok (.aload_n 0, 1) := by decide +kernel
theorem d_Pro_follow_227 : decode prog_7_method_2_code 227 = .ok (.getfield 27, 3) := by decide +kernel
theorem d_Pro_follow_230 : decode prog_7_method_2_code 230 = .ok (.iload_n 2, 1) := by decide +kernel
theorem d_Pro_follow_231 : decode prog_7_method_2_code 231 = .ok (.iconst 1, 1) := by decide +kernel
theorem d_Pro_follow_232 : decode prog_7_method_2_code 232 = .ok (.isub, 1) := by decide +kernel
theorem d_Pro_follow_233 : decode prog_7_method_2_code 233 = .ok (.iaload, 1) := by decide +kernel
theorem d_Pro_follow_234 : decode prog_7_method_2_code 234 = .ok (.istore_n 3, 1) := by decide +kernel
theorem d_Pro_follow_235 : decode prog_7_method_2_code 235 = .ok (.goto 129, 3) := by decide +kernel
theorem d_Pro_follow_238 : decode prog_7_method_2_code 238 = .ok (.iinc 2 (-1), 3) := by decide +kernel
theorem d_Pro_follow_241 : decode prog_7_method_2_code 241 = .ok (.goto 123, 3) := by decide +kernel
theorem d_Pro_follow_244 : decode prog_7_method_2_code 244 = .ok (.aload_n 0, 1) := by decide +kernel
theorem d_Pro_follow_245 : decode prog_7_method_2_code 245 = .ok (.getfield 15, 3) := by decide +kernel
theorem d_Pro_follow_248 : decode prog_7_method_2_code 248 = .ok (.iconst 0, 1) := by decide +kernel
theorem d_Pro_follow_249 : decode prog_7_method_2_code 249 = .ok (.iaload, 1) := by decide +kernel
theorem d_Pro_follow_250 : decode prog_7_method_2_code 250 = .ok (.ifCond .gt 8, 3) := by decide +kernel
theorem d_Pro_follow_253 : decode prog_7_method_2_code 253 = .ok (.iload 6, 2) := by decide +kernel
theorem d_Pro_follow_255 : decode prog_7_method_2_code 255 = .ok (.goto 4, 3) := by decide +kernel
theorem d_Pro_follow_258 : decode prog_7_method_2_code 258 = .ok (.iload_n 3, 1) := by decide +kernel
theorem d_Pro_follow_259 : decode prog_7_method_2_code 259 = .ok (.istore_n 3, 1) := by decide +kernel
theorem d_Pro_follow_260 : decode prog_7_method_2_code 260 = .ok (.goto 104, 3) := by decide +kernel
theorem d_Pro_follow_263 : decode prog_7_method_2_code 263 = .ok (.iload 6, 2) := by decide +kernel
theorem d_Pro_follow_265 : decode prog_7_method_2_code 265 = .ok (.istore_n 3, 1) := by decide +kernel
theorem d_Pro_follow_266 : decode prog_7_method_2_code 266 = .ok (.goto 98, 3) := by decide +kernel
theorem d_Pro_follow_269 : decode prog_7_method_2_code 269 = .ok (.aload_n 0, 1) := by decide +kernel
theorem d_Pro_follow_270 : decode prog_7_method_2_code 270 = .ok (.getfield 15, 3) := by decide +kernel
theorem d_Pro_follow_273 : decode prog_7_method_2_code 273 = .ok (.iconst 0, 1) := by decide +kernel
theorem d_Pro_follow_274 : decode prog_7_method_2_code 274 = .ok (.iaload, 1) := by decide +kernel
theorem d_Pro_follow_275 : decode prog_7_method_2_code 275 = .ok (.aload_n 0, 1) := by decide +kernel
theorem d_Pro_follow_276 : decode prog_7_method_2_code 276 = .ok (.getfield 15, 3) := by decide +kernel
theorem d_Pro_follow_279 : decode prog_7_method_2_code 279 = .ok (.iconst 1, 1) := by decide +kernel
theorem d_Pro_follow_280 : decode prog_7_method_2_code 280 = .ok (.iaload, 1) := by decide +kernel
theorem d_Pro_follow_281 : decode prog_7_method_2_code 281 = .ok (.ior, 1) := by decide +kernel
theorem d_Pro_follow_282 : decode prog_7_method_2_code 282 = .ok (.aload_n 0, 1) := by decide +kernel
theorem d_Pro_follow_283 : decode prog_7_method_2_code 283 = .ok (.getfield 15, 3) := by decide +kernel
theorem d_Pro_follow_286 : decode prog_7_method_2_code 286 = .ok (.iconst 2, 1) := by decide +kernel
theorem d_Pro_follow_287 : decode prog_7_method_2_code 287 = .ok (.iaload, 1) := by decide +kernel
theorem d_Pro_follow_288 : decode prog_7_method_2_code 288 = .ok (.ior, 1) := by decide +kernel
theorem d_Pro_follow_289 : decode prog_7_method_2_code 289 = .ok (.aload_n 0, 1) := by decide +kernel
theorem d_Pro_follow_290 : decode prog_7_method_2_code 290 = .ok (.getfield 15, 3) := by decide +kernel
theorem d_Pro_follow_293 : decode prog_7_method_2_code 293 = .ok (.iconst 3, 1) := by decide +kernel
theorem d_Pro_follow_294 : decode prog_7_method_2_code 294 = .ok (.iaload, 1) := by decide +kernel
theorem d_Pro_follow_295 : decode prog_7_method_2_code 295 = .ok (.ior, 1) := by decide +kernel
theorem d_Pro_follow_296 : decode prog_7_method_2_code 296 = .ok (.ifCond .ge 68, 3) := by decide +kernel
theorem d_Pro_follow_299 : decode prog_7_method_2_code 299 = .ok (.iconst 0, 1) := by decide +kernel
theorem d_Pro_follow_300 : decode prog_7_method_2_code 300 = .ok (.ireturn, 1) := by decide +kernel
theorem d_Pro_follow_301 : decode prog_7_method_2_code 301 = .ok (.aload_n 0, 1) := by decide +kernel
theorem d_Pro_follow_302 : decode prog_7_method_2_code 302 = .ok (.getfield 41, 3) := by decide +kernel
theorem d_Pro_follow_305 : decode prog_7_method_2_code 305 = .ok (.iload 6, 2) := by decide +kernel
theorem d_Pro_follow_307 : decode prog_7_method_2_code 307 = .ok (.aload_n 0, 1) := by decide +kernel
theorem d_Pro_follow_308 : decode prog_7_method_2_code 308 = .ok (.getfield 15, 3) := by decide +kernel
theorem d_Pro_follow_311 : decode prog_7_method_2_code 311 = .ok (.iconst 0, 1) := by decide +kernel
theorem d_Pro_follow_312 : decode prog_7_method_2_code 312 = .ok (.iaload, 1) := by decide +kernel
theorem d_Pro_follow_313 : decode prog_7_method_2_code 313 = .ok (.aload_n 0, 1) := by decide +kernel
theorem d_Pro_follow_314 : decode prog_7_method_2_code 314 = .ok (.getfield 15, 3) := by decide +kernel
theorem d_Pro_follow_317 : decode prog_7_method_2_code 317 = .ok (.iconst 1, 1) := by decide +kernel
theorem d_Pro_follow_318 : decode prog_7_method_2_code 318 = .ok (.iaload, 1) := by decide +kernel
theorem d_Pro_follow_319 : decode prog_7_method_2_code 319 = .ok (.iload 7, 2) := by decide +kernel
theorem d_Pro_follow_321 : decode prog_7_method_2_code 321 = .ok (.bipush 33, 2) := by decide +kernel
theorem d_Pro_follow_323 : decode prog_7_method_2_code 323 = .ok (.if_icmp .ne 12, 3) := by decide +kernel
theorem d_Pro_follow_326 : decode prog_7_method_2_code 326 = .ok (.aload_n 0, 1) := by decide +kernel
theorem d_Pro_follow_327 : decode prog_7_method_2_code 327 = .ok (.getfield 15, 3) := by decide +kernel
theorem d_Pro_follow_330 : decode prog_7_method_2_code 330 = .ok (.iconst 2, 1) := by decide +kernel
theorem d_Pro_follow_331 : decode prog_7_method_2_code 331 = .ok (.iaload, 1) := by decide +kernel
theorem d_Pro_follow_332 : decode prog_7_method_2_code 332 = .ok (.goto 4, 3) := by decide +kernel
theorem d_Pro_follow_335 : decode prog_7_method_2_code 335 = .ok (.iconst 0, 1) := by decide +kernel
theorem d_Pro_follow_336 : decode prog_7_method_2_code 336 = .ok (.aload_n 0, 1) := by decide +kernel
theorem d_Pro_follow_337 : decode prog_7_method_2_code 337 = .ok (.getfield 24, 3) := by decide +kernel
theorem d_Pro_follow_340 : decode prog_7_method_2_code 340 = .ok (.invokevirtual 68, 3) := by decide +kernel
theorem d_Pro_follow_343 : decode prog_7_method_2_code 343 = .ok (.aload_n 0, 1) := by decide +kernel
theorem d_Pro_follow_344 : decode prog_7_method_2_code 344 = .ok (.iload 5, 2) := by decide +kernel
theorem d_Pro_follow_346 : decode prog_7_method_2_code 346 = .ok (.invokevirtual 72, 3) := by decide +kernel
theorem d_Pro_follow_349 : decode prog_7_method_2_code 349 = .ok (.goto 15, 3) := by decide +kernel
theorem d_Pro_follow_352 : decode prog_7_method_2_code 352 = .ok (.aload_n 0, 1) := by decide +kernel
theorem d_Pro_follow_353 : decode prog_7_method_2_code 353 = .ok (.iload 7, 2) := by decide +kernel
theorem d_Pro_follow_355 : decode prog_7_method_2_code 355 = .ok (.invokevirtual 76, 3) := by decide +kernel
theorem d_Pro_follow_358 : decode prog_7_method_2_code 358 = .ok (.aload_n 0, 1) := by decide +kernel
theorem d_Pro_follow_359 : decode prog_7_method_2_code 359 = .ok (.iload 5, 2) := by decide +kernel
theorem d_Pro_follow_361 : decode prog_7_method_2_code 361 = .ok (.invokevirtual 72, 3) := by decide +kernel
theorem d_Pro_follow_364 : decode prog_7_method_2_code 364 = .ok (.iinc 4 1, 3) := by decide +kernel
theorem d_Pro_follow_367 : decode prog_7_method_2_code 367 = .ok (.goto (-335), 3) := by decide +kernel
theorem d_Pro_follow_370 : decode prog_7_method_2_code 370 = .ok (.iconst 1, 1) := by decide +kernel
theorem d_Pro_follow_371 : decode prog_7_method_2_code 371 = .ok (.ireturn, 1) := by decide +kernel
def F_Pro_follow_370 (σ : Sg) : Option (Sg × Int32) := some (σ, 1)
set_option maxRecDepth 10000 in
set_option maxHeartbeats 4000000 in
theorem bt_Pro_follow_370 {p : Program} {l : Launch} {e : Env} {R : Room} {s : State} {m : MethodId} {args : Array Value} {below : List Frame} {meth : Method} {c : Code} {D : va_G} {τ : ClassId × ClassId × ClassId} {B : Nat} {A : Nat → Prop} {ad : Nat → Nat} (E : Cx p R s m args meth c prog_7_method_2_code 8 "DrawingMachine$Processor" 4 D τ B A) (hret : meth.sig.returnType = (some .boolean)) (o : Sg × Int32) (σ : Sg) (h : F_Pro_follow_370 σ = some o) {H : Heap} {locs : List Loc} {ls : Array Slot} (w : Wd s D A (wdC τ σ ad) H locs) (hl : lv_has ls 8 []) : W p l e R s m args below meth c H locs 0 0 (QI below args s A D τ (wdC τ o.1 ad) o.2) (F0 m 370 ls []) := by
  refine lv_iconst (v := 1) E.x E.b d_Pro_follow_370 (by decide) ?_
  obtain rfl := Option.some.inj h
  exact rt_z E w hret (show (1 : Int32) = 0 ∨ (1 : Int32) = 1 by decide) d_Pro_follow_371
def F_Pro_follow_364 (rc_32 : Sg → Nat → Int32 → Int32 → Int32 → Option (Sg × Int32)) (σ : Sg) (v1 : Nat) (v2 : Int32) (v3 : Int32) (v4 : Int32) : Option (Sg × Int32) := ck (v1 < 3) (lt (v4 + 1) (fun y40 => rc_32 σ v1 v2 v3 y40))
set_option maxRecDepth 10000 in
set_option maxHeartbeats 4000000 in
theorem bt_Pro_follow_364 {p : Program} {l : Launch} {e : Env} {R : Room} {s : State} {m : MethodId} {args : Array Value} {below : List Frame} {meth : Method} {c : Code} {D : va_G} {τ : ClassId × ClassId × ClassId} {B : Nat} {A : Nat → Prop} {ad : Nat → Nat} (E : Cx p R s m args meth c prog_7_method_2_code 8 "DrawingMachine$Processor" 4 D τ B A) (hret : meth.sig.returnType = (some .boolean)) (o : Sg × Int32) (rc_32 : Sg → Nat → Int32 → Int32 → Int32 → Option (Sg × Int32)) (hr_32 : ∀ (σ : Sg) (v1 : Nat) (v2 : Int32) (v3 : Int32) (v4 : Int32) (H : Heap) (locs : List Loc) (ls : Array Slot), rc_32 σ v1 v2 v3 v4 = some o → Wd s D A (wdC τ σ ad) H locs → lv_has ls 8 [(0, .ref (ad 62)), (1, .ref (ad (67 + v1))), (2, .int v2), (3, .int v3), (4, .int v4)] → W p l e R s m args below meth c H locs 0 0 (QI below args s A D τ (wdC τ o.1 ad) o.2) (F0 m 32 ls [])) (σ : Sg) (v1 : Nat) (v2 : Int32) (v3 : Int32) (v4 : Int32) (h : F_Pro_follow_364 rc_32 σ v1 v2 v3 v4 = some o) {H : Heap} {locs : List Loc} {ls : Array Slot} (w : Wd s D A (wdC τ σ ad) H locs) (hl : lv_has ls 8 [(0, .ref (ad 62)), (1, .ref (ad (67 + v1))), (2, .int v2), (3, .int v3), (4, .int v4)]) : W p l e R s m args below meth c H locs 0 0 (QI below args s A D τ (wdC τ o.1 ad) o.2) (F0 m 364 ls []) := by
  obtain ⟨c39, h⟩ := ck_some h
  obtain ⟨y40, e_y40, h⟩ := lt_some h
  refine lv_iinc (v := y40) (lv' := [(4, .int y40), (0, .ref (ad 62)), (1, .ref (ad (67 + v1))), (2, .int v2), (3, .int v3)]) E.x E.b d_Pro_follow_364 hl (k := 4) rfl (e_y40) (by decide) rfl (fun ls hl => ?_)
  refine lv_goto (tgt := 32) E.x E.b d_Pro_follow_367 (by decide) ?_
  exact hr_32 σ v1 v2 v3 y40 _ _ _ h w (lv_sub hl [1, 2, 3, 4, 0] rfl)
def F_Pro_follow_336 (rc_32 : Sg → Nat → Int32 → Int32 → Int32 → Option (Sg × Int32)) (σ : Sg) (v1 : Nat) (v2 : Int32) (v3 : Int32) (v4 : Int32) (v5 : Int32) (s1 : Int32) (s2 : Int32) (s3 : Int32) (s4 : Int32) : Option (Sg × Int32) := ck (v1 < 3) (bd (F_Tex_read σ s1 s2 s3 s4 14) (fun o42 => bd (F_Pro_setTarget o42 v5) (fun o43 => F_Pro_follow_364 rc_32 o43 v1 v2 v3 v4)))
set_option maxRecDepth 10000 in
set_option maxHeartbeats 4000000 in
theorem bt_Pro_follow_336 {p : Program} {l : Launch} {e : Env} {R : Room} {s : State} {m : MethodId} {args : Array Value} {below : List Frame} {meth : Method} {c : Code} {D : va_G} {τ : ClassId × ClassId × ClassId} {B : Nat} {A : Nat → Prop} {ad : Nat → Nat} (E : Cx p R s m args meth c prog_7_method_2_code 8 "DrawingMachine$Processor" 4 D τ B A) (hret : meth.sig.returnType = (some .boolean)) (o : Sg × Int32) (rc_32 : Sg → Nat → Int32 → Int32 → Int32 → Option (Sg × Int32)) (hr_32 : ∀ (σ : Sg) (v1 : Nat) (v2 : Int32) (v3 : Int32) (v4 : Int32) (H : Heap) (locs : List Loc) (ls : Array Slot), rc_32 σ v1 v2 v3 v4 = some o → Wd s D A (wdC τ σ ad) H locs → lv_has ls 8 [(0, .ref (ad 62)), (1, .ref (ad (67 + v1))), (2, .int v2), (3, .int v3), (4, .int v4)] → W p l e R s m args below meth c H locs 0 0 (QI below args s A D τ (wdC τ o.1 ad) o.2) (F0 m 32 ls [])) (σ : Sg) (v1 : Nat) (v2 : Int32) (v3 : Int32) (v4 : Int32) (v5 : Int32) (s1 : Int32) (s2 : Int32) (s3 : Int32) (s4 : Int32) (h : F_Pro_follow_336 rc_32 σ v1 v2 v3 v4 v5 s1 s2 s3 s4 = some o) {H : Heap} {locs : List Loc} {ls : Array Slot} (w : Wd s D A (wdC τ σ ad) H locs) (hl : lv_has ls 8 [(0, .ref (ad 62)), (1, .ref (ad (67 + v1))), (2, .int v2), (3, .int v3), (4, .int v4), (5, .int v5)]) : W p l e R s m args below meth c H locs 0 0 (QI below args s A D τ (wdC τ o.1 ad) o.2) (F0 m 336 ls [.int s4, .int s3, .int s2, .int s1, .ref (ad 63)]) := by
  obtain ⟨c41, h⟩ := ck_some h
  refine lv_aload_n E.x E.b d_Pro_follow_336 rfl (lv_at hl 0 rfl) ?_
  refine gC_Pro_result E w k243 d_Pro_follow_337 ?_
  obtain ⟨o42, h_o42, h⟩ := bd_some h
  refine clV_Tex_read E w (x0 := s1) (x1 := s2) (x2 := s3) (x3 := s4) (ar4 := 14) h_o42 k1043 (by decide) hl.1 (Nat.le_of_ble_eq_true rfl) d_Pro_follow_340 (fun H locs w => ?_)
  refine lv_aload_n E.x E.b d_Pro_follow_343 rfl (lv_at hl 0 rfl) ?_
  refine lv_iload E.x E.b d_Pro_follow_344 (lv_at hl 5 rfl) ?_
  obtain ⟨o43, h_o43, h⟩ := bd_some h
  refine clV_Pro_setTarget E w (x0 := v5) h_o43 k1082 (by decide) hl.1 (Nat.le_of_ble_eq_true rfl) d_Pro_follow_346 (fun H locs w => ?_)
  refine lv_goto (tgt := 364) E.x E.b d_Pro_follow_349 (by decide) ?_
  exact bt_Pro_follow_364 E hret o rc_32 hr_32 o43 v1 v2 v3 v4 h w (lv_sub hl [0, 1, 2, 3, 4] rfl)
def F_Pro_follow_301 (rc_32 : Sg → Nat → Int32 → Int32 → Int32 → Option (Sg × Int32)) (σ : Sg) (v1 : Nat) (v2 : Int32) (v3 : Int32) (v4 : Int32) (v5 : Int32) (v6 : Int32) (v7 : Int32) : Option (Sg × Int32) := ck (v1 < 3) (if v7 = 33 then (F_Pro_follow_336 rc_32 σ v1 v2 v3 v4 v5 v6 (σ.2.2.1 11 0) (σ.2.2.1 11 1) (σ.2.2.1 11 2)) else (F_Pro_follow_336 rc_32 σ v1 v2 v3 v4 v5 v6 (σ.2.2.1 11 0) (σ.2.2.1 11 1) 0))
set_option maxRecDepth 10000 in
set_option maxHeartbeats 4000000 in
theorem bt_Pro_follow_301 {p : Program} {l : Launch} {e : Env} {R : Room} {s : State} {m : MethodId} {args : Array Value} {below : List Frame} {meth : Method} {c : Code} {D : va_G} {τ : ClassId × ClassId × ClassId} {B : Nat} {A : Nat → Prop} {ad : Nat → Nat} (E : Cx p R s m args meth c prog_7_method_2_code 8 "DrawingMachine$Processor" 4 D τ B A) (hret : meth.sig.returnType = (some .boolean)) (o : Sg × Int32) (rc_32 : Sg → Nat → Int32 → Int32 → Int32 → Option (Sg × Int32)) (hr_32 : ∀ (σ : Sg) (v1 : Nat) (v2 : Int32) (v3 : Int32) (v4 : Int32) (H : Heap) (locs : List Loc) (ls : Array Slot), rc_32 σ v1 v2 v3 v4 = some o → Wd s D A (wdC τ σ ad) H locs → lv_has ls 8 [(0, .ref (ad 62)), (1, .ref (ad (67 + v1))), (2, .int v2), (3, .int v3), (4, .int v4)] → W p l e R s m args below meth c H locs 0 0 (QI below args s A D τ (wdC τ o.1 ad) o.2) (F0 m 32 ls [])) (σ : Sg) (v1 : Nat) (v2 : Int32) (v3 : Int32) (v4 : Int32) (v5 : Int32) (v6 : Int32) (v7 : Int32) (h : F_Pro_follow_301 rc_32 σ v1 v2 v3 v4 v5 v6 v7 = some o) {H : Heap} {locs : List Loc} {ls : Array Slot} (w : Wd s D A (wdC τ σ ad) H locs) (hl : lv_has ls 8 [(0, .ref (ad 62)), (1, .ref (ad (67 + v1))), (2, .int v2), (3, .int v3), (4, .int v4), (5, .int v5), (6, .int v6), (7, .int v7)]) : W p l e R s m args below meth c H locs 0 0 (QI below args s A D τ (wdC τ o.1 ad) o.2) (F0 m 301 ls []) := by
  obtain ⟨c44, h⟩ := ck_some h
  refine lv_aload_n E.x E.b d_Pro_follow_301 rfl (lv_at hl 0 rfl) ?_
  refine gC_Pro_textures E w k239 d_Pro_follow_302 ?_
  refine lv_iload E.x E.b d_Pro_follow_305 (lv_at hl 6 rfl) ?_
  refine lv_aload_n E.x E.b d_Pro_follow_307 rfl (lv_at hl 0 rfl) ?_
  refine gC_Pro_a E w k240 d_Pro_follow_308 ?_
  refine lv_iconst (v := 0) E.x E.b d_Pro_follow_311 (by decide) ?_
  refine ialC E w (k := 11) (by decide) (show inb 0 4 by decide) d_Pro_follow_312 ?_
  refine wi_e (v := σ.2.2.1 11 0) rfl ?_
  refine lv_aload_n E.x E.b d_Pro_follow_313 rfl (lv_at hl 0 rfl) ?_
  refine gC_Pro_a E w k240 d_Pro_follow_314 ?_
  refine lv_iconst (v := 1) E.x E.b d_Pro_follow_317 (by decide) ?_
  refine ialC E w (k := 11) (by decide) (show inb 1 4 by decide) d_Pro_follow_318 ?_
  refine wi_e (v := σ.2.2.1 11 1) rfl ?_
  refine lv_iload E.x E.b d_Pro_follow_319 (lv_at hl 7 rfl) ?_
  refine lv_bipush (v := 33) E.x E.b d_Pro_follow_321 (by decide) ?_
  refine lv_icmp_ne (tgt := 335) E.x E.b d_Pro_follow_323 (by decide) (fun c => ?_) (fun c => ?_)
  ·
    replace h := ifF c h
    refine lv_iconst (v := 0) E.x E.b d_Pro_follow_335 (by decide) ?_
    exact bt_Pro_follow_336 E hret o rc_32 hr_32 σ v1 v2 v3 v4 v5 v6 (σ.2.2.1 11 0) (σ.2.2.1 11 1) 0 h w (lv_sub hl [0, 1, 2, 3, 4, 5] rfl)
  ·
    replace h := ifT c h
    refine lv_aload_n E.x E.b d_Pro_follow_326 rfl (lv_at hl 0 rfl) ?_
    refine gC_Pro_a E w k240 d_Pro_follow_327 ?_
    refine lv_iconst (v := 2) E.x E.b d_Pro_follow_330 (by decide) ?_
    refine ialC E w (k := 11) (by decide) (show inb 2 4 by decide) d_Pro_follow_331 ?_
    refine wi_e (v := σ.2.2.1 11 2) rfl ?_
    refine lv_goto (tgt := 336) E.x E.b d_Pro_follow_332 (by decide) ?_
    exact bt_Pro_follow_336 E hret o rc_32 hr_32 σ v1 v2 v3 v4 v5 v6 (σ.2.2.1 11 0) (σ.2.2.1 11 1) (σ.2.2.1 11 2) h w (lv_sub hl [0, 1, 2, 3, 4, 5] rfl)
def F_Pro_follow_259 (rc_32 : Sg → Nat → Int32 → Int32 → Int32 → Option (Sg × Int32)) (σ : Sg) (v1 : Nat) (v2 : Int32) (v4 : Int32) (s0 : Int32) : Option (Sg × Int32) := ck (v1 < 3) (F_Pro_follow_364 rc_32 σ v1 v2 s0 v4)
set_option maxRecDepth 10000 in
set_option maxHeartbeats 4000000 in
theorem bt_Pro_follow_259 {p : Program} {l : Launch} {e : Env} {R : Room} {s : State} {m : MethodId} {args : Array Value} {below : List Frame} {meth : Method} {c : Code} {D : va_G} {τ : ClassId × ClassId × ClassId} {B : Nat} {A : Nat → Prop} {ad : Nat → Nat} (E : Cx p R s m args meth c prog_7_method_2_code 8 "DrawingMachine$Processor" 4 D τ B A) (hret : meth.sig.returnType = (some .boolean)) (o : Sg × Int32) (rc_32 : Sg → Nat → Int32 → Int32 → Int32 → Option (Sg × Int32)) (hr_32 : ∀ (σ : Sg) (v1 : Nat) (v2 : Int32) (v3 : Int32) (v4 : Int32) (H : Heap) (locs : List Loc) (ls : Array Slot), rc_32 σ v1 v2 v3 v4 = some o → Wd s D A (wdC τ σ ad) H locs → lv_has ls 8 [(0, .ref (ad 62)), (1, .ref (ad (67 + v1))), (2, .int v2), (3, .int v3), (4, .int v4)] → W p l e R s m args below meth c H locs 0 0 (QI below args s A D τ (wdC τ o.1 ad) o.2) (F0 m 32 ls [])) (σ : Sg) (v1 : Nat) (v2 : Int32) (v4 : Int32) (s0 : Int32) (h : F_Pro_follow_259 rc_32 σ v1 v2 v4 s0 = some o) {H : Heap} {locs : List Loc} {ls : Array Slot} (w : Wd s D A (wdC τ σ ad) H locs) (hl : lv_has ls 8 [(0, .ref (ad 62)), (1, .ref (ad (67 + v1))), (2, .int v2), (4, .int v4)]) : W p l e R s m args below meth c H locs 0 0 (QI below args s A D τ (wdC τ o.1 ad) o.2) (F0 m 259 ls [.int s0]) := by
  obtain ⟨c45, h⟩ := ck_some h
  refine lv_istore_n (lv' := [(3, .int s0), (0, .ref (ad 62)), (1, .ref (ad (67 + v1))), (2, .int v2), (4, .int v4)]) E.x E.b d_Pro_follow_259 rfl hl (by decide) rfl (fun ls hl => ?_)
  refine lv_goto (tgt := 364) E.x E.b d_Pro_follow_260 (by decide) ?_
  exact bt_Pro_follow_364 E hret o rc_32 hr_32 σ v1 v2 s0 v4 h w (lv_sub hl [1, 2, 3, 0, 4] rfl)
def L_Pro_follow_32 : Nat → Sg → Nat → Int32 → Int32 → Int32 → Option (Sg × Int32)
  | 0, _, _, _, _, _ => none
  | n + 1, σ, v1, v2, v3, v4 => ck (v1 < 3) (if 65536 ≤ v4 then (F_Pro_follow_370 σ) else (if (σ.1 (22 + 3 * v1)) ≤ v3 then (F_Pro_follow_370 σ) else (ck (inb (3 * v3) (lenC σ (21 + 1 * v1))) (lt (σ.2.2.1 (21 + 1 * v1) (3 * v3).toNatClampNeg) (fun y48 => lt (ushr y48 17) (fun y49 => lt (y48 &&& 63) (fun y50 => ck (inb y50 41) (ck (inb ((3 * v3) + 1) (lenC σ (21 + 1 * v1))) (ck (inb ((3 * v3) + 2) (lenC σ (21 + 1 * v1))) (bd (F_Pro_readSources σ (tb_SOURCES y50.toNatClampNeg) (σ.2.2.1 (21 + 1 * v1) ((3 * v3) + 1).toNatClampNeg) (σ.2.2.1 (21 + 1 * v1) ((3 * v3) + 2).toNatClampNeg)) (fun o55 => lt (v3 + 1) (fun y56 => if y50 = 0 then (some (o55, 1)) else (if y50 = 32 then (F_Pro_follow_301 (L_Pro_follow_32 n) o55 v1 v2 y56 v4 y48 y49 y50) else (if y50 = 33 then (F_Pro_follow_301 (L_Pro_follow_32 n) o55 v1 v2 y56 v4 y48 y49 y50) else (if y50 = 34 then (ck (inb v2 4) (lt (sA o55 15 (upd (o55.2.2.1 15) v2.toNatClampNeg y56)) (fun σ62 => ck (inb v2 4) (lt (sA σ62 16 (upd (σ62.2.2.1 16) v2.toNatClampNeg y49)) (fun σ64 => lt (v2 + 1) (fun y65 => F_Pro_follow_364 (L_Pro_follow_32 n) σ64 v1 y65 y56 v4)))))) else (if y50 = 35 then (lt (v2 - 1) (fun y67 => ck (inb y67 4) (ck (inb y67 4) (lt (sA o55 16 (upd (o55.2.2.1 16) y67.toNatClampNeg ((o55.2.2.1 16 y67.toNatClampNeg) - 1))) (fun σ70 => ck (inb (v2 - 1) 4) (if (σ70.2.2.1 16 (v2 - 1).toNatClampNeg) ≤ 0 then (lt (v2 + (-1)) (fun y72 => F_Pro_follow_364 (L_Pro_follow_32 n) σ70 v1 y72 y56 v4)) else (ck (inb (v2 - 1) 4) (lt (σ70.2.2.1 15 (v2 - 1).toNatClampNeg) (fun y74 => F_Pro_follow_364 (L_Pro_follow_32 n) σ70 v1 v2 y74 v4))))))))) else (if y50 = 36 then (if 0 < (o55.2.2.1 11 0) then (F_Pro_follow_259 (L_Pro_follow_32 n) o55 v1 v2 v4 y56) else (F_Pro_follow_259 (L_Pro_follow_32 n) o55 v1 v2 v4 y49)) else (if y50 = 37 then (F_Pro_follow_364 (L_Pro_follow_32 n) o55 v1 v2 y49 v4) else (if y50 = 38 then (if 0 ≤ ((((o55.2.2.1 11 0) ||| (o55.2.2.1 11 1)) ||| (o55.2.2.1 11 2)) ||| (o55.2.2.1 11 3)) then (F_Pro_follow_364 (L_Pro_follow_32 n) o55 v1 v2 y56 v4) else (some (o55, 0))) else (bd (F_Pro_reckon o55 y50) (fun o78 => bd (F_Pro_setTarget o78 y48) (fun o79 => F_Pro_follow_364 (L_Pro_follow_32 n) o79 v1 v2 y56 v4))))))))))))))))))))))
set_option maxRecDepth 10000 in
set_option maxHeartbeats 4000000 in
theorem lt_Pro_follow_32 {p : Program} {l : Launch} {e : Env} {R : Room} {s : State} {m : MethodId} {args : Array Value} {below : List Frame} {meth : Method} {c : Code} {D : va_G} {τ : ClassId × ClassId × ClassId} {B : Nat} {A : Nat → Prop} {ad : Nat → Nat} (E : Cx p R s m args meth c prog_7_method_2_code 8 "DrawingMachine$Processor" 4 D τ B A) (hret : meth.sig.returnType = (some .boolean)) (o : Sg × Int32) : ∀ (n : Nat) (σ : Sg) (v1 : Nat) (v2 : Int32) (v3 : Int32) (v4 : Int32) (H : Heap) (locs : List Loc) (ls : Array Slot), L_Pro_follow_32 n σ v1 v2 v3 v4 = some o → Wd s D A (wdC τ σ ad) H locs → lv_has ls 8 [(0, .ref (ad 62)), (1, .ref (ad (67 + v1))), (2, .int v2), (3, .int v3), (4, .int v4)] → W p l e R s m args below meth c H locs 0 0 (QI below args s A D τ (wdC τ o.1 ad) o.2) (F0 m 32 ls []) := by
  intro n
  induction n with
  | zero =>
    intro σ v1 v2 v3 v4 H locs ls h w hl
    cases h
  | succ n hr_32 =>
    intro σ v1 v2 v3 v4 H locs ls h w hl
    obtain ⟨c46, h⟩ := ck_some h
    refine lv_iload E.x E.b d_Pro_follow_32 (lv_at hl 4 rfl) ?_
    refine lv_ldc (v := 65536) E.x E.b E.o (E.w _ k1029) d_Pro_follow_34 ?_
    refine lv_icmp_ge (tgt := 370) E.x E.b d_Pro_follow_36 (by decide) (fun c => ?_) (fun c => ?_)
    ·
      replace h := ifT c h
      exact bt_Pro_follow_370 E hret o σ h w (lv_sub hl [] rfl)
    ·
      replace h := ifF c h
      refine lv_iload_n E.x E.b d_Pro_follow_39 rfl (lv_at hl 3 rfl) ?_
      refine lv_aload_n E.x E.b d_Pro_follow_40 rfl (lv_at hl 1 rfl) ?_
      refine gC_Prg_many E w (pid := v1) c46 k415 d_Pro_follow_41 ?_
      refine lv_icmp_ge (tgt := 370) E.x E.b d_Pro_follow_44 (by decide) (fun c => ?_) (fun c => ?_)
      ·
        replace h := ifT c h
        exact bt_Pro_follow_370 E hret o σ h w (lv_sub hl [] rfl)
      ·
        replace h := ifF c h
        refine lv_aload_n E.x E.b d_Pro_follow_47 rfl (lv_at hl 1 rfl) ?_
        refine gC_Prg_words E w (pid := v1) c46 k411 d_Pro_follow_48 ?_
        refine lv_iconst (v := 3) E.x E.b d_Pro_follow_51 (by decide) ?_
        refine lv_iload_n E.x E.b d_Pro_follow_52 rfl (lv_at hl 3 rfl) ?_
        refine lv_imul E.x E.b d_Pro_follow_53 ?_
        obtain ⟨c47, h⟩ := ck_some h
        refine ialC E w (k := (21 + 1 * v1)) (by omega) c47 d_Pro_follow_54 ?_
        obtain ⟨y48, e_y48, h⟩ := lt_some h
        refine wi_e (v := y48) e_y48 ?_
        refine lv_istore (lv' := [(5, .int y48), (0, .ref (ad 62)), (1, .ref (ad (67 + v1))), (2, .int v2), (3, .int v3), (4, .int v4)]) E.x E.b d_Pro_follow_55 hl (by decide) rfl (fun ls hl => ?_)
        refine lv_iload E.x E.b d_Pro_follow_57 (lv_at hl 0 rfl) ?_
        refine lv_bipush (v := 17) E.x E.b d_Pro_follow_59 (by decide) ?_
        refine lv_iushr (v := ushr y48 17) E.x E.b d_Pro_follow_61 rfl ?_
        obtain ⟨y49, e_y49, h⟩ := lt_some h
        refine wi_e (v := y49) e_y49 ?_
        refine lv_istore (lv' := [(6, .int y49), (5, .int y48), (0, .ref (ad 62)), (1, .ref (ad (67 + v1))), (2, .int v2), (3, .int v3), (4, .int v4)]) E.x E.b d_Pro_follow_62 hl (by decide) rfl (fun ls hl => ?_)
        refine lv_iload E.x E.b d_Pro_follow_64 (lv_at hl 1 rfl) ?_
        refine lv_bipush (v := 63) E.x E.b d_Pro_follow_66 (by decide) ?_
        refine lv_iand E.x E.b d_Pro_follow_68 ?_
        obtain ⟨y50, e_y50, h⟩ := lt_some h
        refine wi_e (v := y50) e_y50 ?_
        refine lv_istore (lv' := [(7, .int y50), (6, .int y49), (5, .int y48), (0, .ref (ad 62)), (1, .ref (ad (67 + v1))), (2, .int v2), (3, .int v3), (4, .int v4)]) E.x E.b d_Pro_follow_69 hl (by decide) rfl (fun ls hl => ?_)
        refine lv_aload_n E.x E.b d_Pro_follow_71 rfl (lv_at hl 3 rfl) ?_
        refine r_tab (n := "SOURCES") E w (by decide) n1030 d_Pro_follow_72 (fun t51 h_t51 => ?_)
        refine lv_iload E.x E.b d_Pro_follow_75 (lv_at hl 0 rfl) ?_
        obtain ⟨c52, h⟩ := ck_some h
        refine r_tld (f := fun j => tb_SOURCES j) E w h_t51 c52 d_Pro_follow_77 ?_
        refine lv_aload_n E.x E.b d_Pro_follow_78 rfl (lv_at hl 4 rfl) ?_
        refine gC_Prg_words E w (pid := v1) c46 k411 d_Pro_follow_79 ?_
        refine lv_iconst (v := 3) E.x E.b d_Pro_follow_82 (by decide) ?_
        refine lv_iload_n E.x E.b d_Pro_follow_83 rfl (lv_at hl 6 rfl) ?_
        refine lv_imul E.x E.b d_Pro_follow_84 ?_
        refine lv_iconst (v := 1) E.x E.b d_Pro_follow_85 (by decide) ?_
        refine lv_iadd E.x E.b d_Pro_follow_86 ?_
        obtain ⟨c53, h⟩ := ck_some h
        refine ialC E w (k := (21 + 1 * v1)) (by omega) c53 d_Pro_follow_87 ?_
        refine lv_aload_n E.x E.b d_Pro_follow_88 rfl (lv_at hl 4 rfl) ?_
        refine gC_Prg_words E w (pid := v1) c46 k411 d_Pro_follow_89 ?_
        refine lv_iconst (v := 3) E.x E.b d_Pro_follow_92 (by decide) ?_
        refine lv_iload_n E.x E.b d_Pro_follow_93 rfl (lv_at hl 6 rfl) ?_
        refine lv_imul E.x E.b d_Pro_follow_94 ?_
        refine lv_iconst (v := 2) E.x E.b d_Pro_follow_95 (by decide) ?_
        refine lv_iadd E.x E.b d_Pro_follow_96 ?_
        obtain ⟨c54, h⟩ := ck_some h
        refine ialC E w (k := (21 + 1 * v1)) (by omega) c54 d_Pro_follow_97 ?_
        obtain ⟨o55, h_o55, h⟩ := bd_some h
        refine clV_Pro_readSources E w (x0 := (tb_SOURCES y50.toNatClampNeg)) (x1 := (σ.2.2.1 (21 + 1 * v1) ((3 * v3) + 1).toNatClampNeg)) (x2 := (σ.2.2.1 (21 + 1 * v1) ((3 * v3) + 2).toNatClampNeg)) h_o55 k1032 (by decide) hl.1 (Nat.le_of_ble_eq_true rfl) d_Pro_follow_98 (fun H locs w => ?_)
        obtain ⟨y56, e_y56, h⟩ := lt_some h
        refine lv_iinc (v := y56) (lv' := [(3, .int y56), (7, .int y50), (6, .int y49), (5, .int y48), (0, .ref (ad 62)), (1, .ref (ad (67 + v1))), (2, .int v2), (4, .int v4)]) E.x E.b d_Pro_follow_101 hl (k := 6) rfl (e_y56) (by decide) rfl (fun ls hl => ?_)
        refine lv_iload E.x E.b d_Pro_follow_104 (lv_at hl 1 rfl) ?_
        by_cases q57 : y50 = 0
        ·
          replace h := ifT q57 h
          refine wi_e (v := 0) q57 ?_
          refine lv_lookup (off := 74) (tgt := 180) E.x E.b d_Pro_follow_106 (by decide) (by decide) (by decide) ?_
          refine lv_iconst (v := 1) E.x E.b d_Pro_follow_180 (by decide) ?_
          obtain rfl := Option.some.inj h
          exact rt_z E w hret (show (1 : Int32) = 0 ∨ (1 : Int32) = 1 by decide) d_Pro_follow_181
        replace h := ifF q57 h
        replace q57 := ne_ti (k := 0) (by decide) q57
        by_cases q58 : y50 = 32
        ·
          replace h := ifT q58 h
          refine wi_e (v := 32) q58 ?_
          refine lv_lookup (off := 195) (tgt := 301) E.x E.b d_Pro_follow_106 (by decide) (by decide) (by decide) ?_
          exact bt_Pro_follow_301 E hret o (L_Pro_follow_32 n) hr_32 o55 v1 v2 y56 v4 y48 y49 y50 h w (lv_sub hl [4, 5, 6, 0, 7, 3, 2, 1] rfl)
        replace h := ifF q58 h
        replace q58 := ne_ti (k := 32) (by decide) q58
        by_cases q59 : y50 = 33
        ·
          replace h := ifT q59 h
          refine wi_e (v := 33) q59 ?_
          refine lv_lookup (off := 195) (tgt := 301) E.x E.b d_Pro_follow_106 (by decide) (by decide) (by decide) ?_
          exact bt_Pro_follow_301 E hret o (L_Pro_follow_32 n) hr_32 o55 v1 v2 y56 v4 y48 y49 y50 h w (lv_sub hl [4, 5, 6, 0, 7, 3, 2, 1] rfl)
        replace h := ifF q59 h
        replace q59 := ne_ti (k := 33) (by decide) q59
        by_cases q60 : y50 = 34
        ·
          replace h := ifT q60 h
          refine wi_e (v := 34) q60 ?_
          refine lv_lookup (off := 76) (tgt := 182) E.x E.b d_Pro_follow_106 (by decide) (by decide) (by decide) ?_
          refine lv_aload_n E.x E.b d_Pro_follow_182 rfl (lv_at hl 4 rfl) ?_
          refine gC_Pro_starts E w k244 d_Pro_follow_183 ?_
          refine lv_iload_n E.x E.b d_Pro_follow_186 rfl (lv_at hl 6 rfl) ?_
          refine lv_iload_n E.x E.b d_Pro_follow_187 rfl (lv_at hl 0 rfl) ?_
          obtain ⟨c61, h⟩ := ck_some h
          obtain ⟨σ62, e_σ62, h⟩ := lt_some h
          refine iasC E w (k := 15) (by decide) c61 e_σ62 d_Pro_follow_188 (fun H locs w => ?_)
          refine lv_aload_n E.x E.b d_Pro_follow_189 rfl (lv_at hl 4 rfl) ?_
          refine gC_Pro_left E w k245 d_Pro_follow_190 ?_
          refine lv_iload_n E.x E.b d_Pro_follow_193 rfl (lv_at hl 6 rfl) ?_
          refine lv_iload E.x E.b d_Pro_follow_194 (lv_at hl 2 rfl) ?_
          obtain ⟨c63, h⟩ := ck_some h
          obtain ⟨σ64, e_σ64, h⟩ := lt_some h
          refine iasC E w (k := 16) (by decide) c63 e_σ64 d_Pro_follow_196 (fun H locs w => ?_)
          obtain ⟨y65, e_y65, h⟩ := lt_some h
          refine lv_iinc (v := y65) (lv' := [(2, .int y65), (3, .int y56), (7, .int y50), (6, .int y49), (5, .int y48), (0, .ref (ad 62)), (1, .ref (ad (67 + v1))), (4, .int v4)]) E.x E.b d_Pro_follow_197 hl (k := 6) rfl (e_y65) (by decide) rfl (fun ls hl => ?_)
          refine lv_goto (tgt := 364) E.x E.b d_Pro_follow_200 (by decide) ?_
          exact bt_Pro_follow_364 E hret o (L_Pro_follow_32 n) hr_32 σ64 v1 y65 y56 v4 h w (lv_sub hl [5, 6, 0, 1, 7] rfl)
        replace h := ifF q60 h
        replace q60 := ne_ti (k := 34) (by decide) q60
        by_cases q66 : y50 = 35
        ·
          replace h := ifT q66 h
          refine wi_e (v := 35) q66 ?_
          refine lv_lookup (off := 97) (tgt := 203) E.x E.b d_Pro_follow_106 (by decide) (by decide) (by decide) ?_
          refine lv_aload_n E.x E.b d_Pro_follow_203 rfl (lv_at hl 4 rfl) ?_
          refine gC_Pro_left E w k245 d_Pro_follow_204 ?_
          refine lv_iload_n E.x E.b d_Pro_follow_207 rfl (lv_at hl 6 rfl) ?_
          refine lv_iconst (v := 1) E.x E.b d_Pro_follow_208 (by decide) ?_
          refine lv_isub E.x E.b d_Pro_follow_209 ?_
          obtain ⟨y67, e_y67, h⟩ := lt_some h
          refine wi_e (v := y67) e_y67 ?_
          refine lv_dup2_11 E.x E.b d_Pro_follow_210 rfl rfl ?_
          obtain ⟨c68, h⟩ := ck_some h
          refine ialC E w (k := 16) (by decide) c68 d_Pro_follow_211 ?_
          refine lv_iconst (v := 1) E.x E.b d_Pro_follow_212 (by decide) ?_
          refine lv_isub E.x E.b d_Pro_follow_213 ?_
          obtain ⟨c69, h⟩ := ck_some h
          obtain ⟨σ70, e_σ70, h⟩ := lt_some h
          refine iasC E w (k := 16) (by decide) c69 e_σ70 d_Pro_follow_214 (fun H locs w => ?_)
          refine lv_aload_n E.x E.b d_Pro_follow_215 rfl (lv_at hl 4 rfl) ?_
          refine gC_Pro_left E w k245 d_Pro_follow_216 ?_
          refine lv_iload_n E.x E.b d_Pro_follow_219 rfl (lv_at hl 6 rfl) ?_
          refine lv_iconst (v := 1) E.x E.b d_Pro_follow_220 (by decide) ?_
          refine lv_isub E.x E.b d_Pro_follow_221 ?_
          obtain ⟨c71, h⟩ := ck_some h
          refine ialC E w (k := 16) (by decide) c71 d_Pro_follow_222 ?_
          refine lv_if_le (tgt := 238) E.x E.b d_Pro_follow_223 (by decide) (fun c => ?_) (fun c => ?_)
          ·
            replace h := ifT c h
            obtain ⟨y72, e_y72, h⟩ := lt_some h
            refine lv_iinc (v := y72) (lv' := [(2, .int y72), (3, .int y56), (7, .int y50), (6, .int y49), (5, .int y48), (0, .ref (ad 62)), (1, .ref (ad (67 + v1))), (4, .int v4)]) E.x E.b d_Pro_follow_238 hl (k := 6) rfl (e_y72) (by decide) rfl (fun ls hl => ?_)
            refine lv_goto (tgt := 364) E.x E.b d_Pro_follow_241 (by decide) ?_
            exact bt_Pro_follow_364 E hret o (L_Pro_follow_32 n) hr_32 σ70 v1 y72 y56 v4 h w (lv_sub hl [5, 6, 0, 1, 7] rfl)
          ·
            replace h := ifF c h
            refine lv_aload_n E.x E.b d_Pro_follow_226 rfl (lv_at hl 4 rfl) ?_
            refine gC_Pro_starts E w k244 d_Pro_follow_227 ?_
            refine lv_iload_n E.x E.b d_Pro_follow_230 rfl (lv_at hl 6 rfl) ?_
            refine lv_iconst (v := 1) E.x E.b d_Pro_follow_231 (by decide) ?_
            refine lv_isub E.x E.b d_Pro_follow_232 ?_
            obtain ⟨c73, h⟩ := ck_some h
            refine ialC E w (k := 15) (by decide) c73 d_Pro_follow_233 ?_
            obtain ⟨y74, e_y74, h⟩ := lt_some h
            refine wi_e (v := y74) e_y74 ?_
            refine lv_istore_n (lv' := [(3, .int y74), (7, .int y50), (6, .int y49), (5, .int y48), (0, .ref (ad 62)), (1, .ref (ad (67 + v1))), (2, .int v2), (4, .int v4)]) E.x E.b d_Pro_follow_234 rfl hl (by decide) rfl (fun ls hl => ?_)
            refine lv_goto (tgt := 364) E.x E.b d_Pro_follow_235 (by decide) ?_
            exact bt_Pro_follow_364 E hret o (L_Pro_follow_32 n) hr_32 σ70 v1 v2 y74 v4 h w (lv_sub hl [4, 5, 6, 0, 7] rfl)
        replace h := ifF q66 h
        replace q66 := ne_ti (k := 35) (by decide) q66
        by_cases q75 : y50 = 36
        ·
          replace h := ifT q75 h
          refine wi_e (v := 36) q75 ?_
          refine lv_lookup (off := 138) (tgt := 244) E.x E.b d_Pro_follow_106 (by decide) (by decide) (by decide) ?_
          refine lv_aload_n E.x E.b d_Pro_follow_244 rfl (lv_at hl 4 rfl) ?_
          refine gC_Pro_a E w k240 d_Pro_follow_245 ?_
          refine lv_iconst (v := 0) E.x E.b d_Pro_follow_248 (by decide) ?_
          refine ialC E w (k := 11) (by decide) (show inb 0 4 by decide) d_Pro_follow_249 ?_
          refine wi_e (v := o55.2.2.1 11 0) rfl ?_
          refine lv_if_gt (tgt := 258) E.x E.b d_Pro_follow_250 (by decide) (fun c => ?_) (fun c => ?_)
          ·
            replace h := ifT c h
            refine lv_iload_n E.x E.b d_Pro_follow_258 rfl (lv_at hl 0 rfl) ?_
            exact bt_Pro_follow_259 E hret o (L_Pro_follow_32 n) hr_32 o55 v1 v2 v4 y56 h w (lv_sub hl [4, 5, 6, 7] rfl)
          ·
            replace h := ifF c h
            refine lv_iload E.x E.b d_Pro_follow_253 (lv_at hl 2 rfl) ?_
            refine lv_goto (tgt := 259) E.x E.b d_Pro_follow_255 (by decide) ?_
            exact bt_Pro_follow_259 E hret o (L_Pro_follow_32 n) hr_32 o55 v1 v2 v4 y49 h w (lv_sub hl [4, 5, 6, 7] rfl)
        replace h := ifF q75 h
        replace q75 := ne_ti (k := 36) (by decide) q75
        by_cases q76 : y50 = 37
        ·
          replace h := ifT q76 h
          refine wi_e (v := 37) q76 ?_
          refine lv_lookup (off := 157) (tgt := 263) E.x E.b d_Pro_follow_106 (by decide) (by decide) (by decide) ?_
          refine lv_iload E.x E.b d_Pro_follow_263 (lv_at hl 2 rfl) ?_
          refine lv_istore_n (lv' := [(3, .int y49), (7, .int y50), (6, .int y49), (5, .int y48), (0, .ref (ad 62)), (1, .ref (ad (67 + v1))), (2, .int v2), (4, .int v4)]) E.x E.b d_Pro_follow_265 rfl hl (by decide) rfl (fun ls hl => ?_)
          refine lv_goto (tgt := 364) E.x E.b d_Pro_follow_266 (by decide) ?_
          exact bt_Pro_follow_364 E hret o (L_Pro_follow_32 n) hr_32 o55 v1 v2 y49 v4 h w (lv_sub hl [4, 5, 6, 0, 7] rfl)
        replace h := ifF q76 h
        replace q76 := ne_ti (k := 37) (by decide) q76
        by_cases q77 : y50 = 38
        ·
          replace h := ifT q77 h
          refine wi_e (v := 38) q77 ?_
          refine lv_lookup (off := 163) (tgt := 269) E.x E.b d_Pro_follow_106 (by decide) (by decide) (by decide) ?_
          refine lv_aload_n E.x E.b d_Pro_follow_269 rfl (lv_at hl 4 rfl) ?_
          refine gC_Pro_a E w k240 d_Pro_follow_270 ?_
          refine lv_iconst (v := 0) E.x E.b d_Pro_follow_273 (by decide) ?_
          refine ialC E w (k := 11) (by decide) (show inb 0 4 by decide) d_Pro_follow_274 ?_
          refine wi_e (v := o55.2.2.1 11 0) rfl ?_
          refine lv_aload_n E.x E.b d_Pro_follow_275 rfl (lv_at hl 4 rfl) ?_
          refine gC_Pro_a E w k240 d_Pro_follow_276 ?_
          refine lv_iconst (v := 1) E.x E.b d_Pro_follow_279 (by decide) ?_
          refine ialC E w (k := 11) (by decide) (show inb 1 4 by decide) d_Pro_follow_280 ?_
          refine wi_e (v := o55.2.2.1 11 1) rfl ?_
          refine lv_ior E.x E.b d_Pro_follow_281 ?_
          refine lv_aload_n E.x E.b d_Pro_follow_282 rfl (lv_at hl 4 rfl) ?_
          refine gC_Pro_a E w k240 d_Pro_follow_283 ?_
          refine lv_iconst (v := 2) E.x E.b d_Pro_follow_286 (by decide) ?_
          refine ialC E w (k := 11) (by decide) (show inb 2 4 by decide) d_Pro_follow_287 ?_
          refine wi_e (v := o55.2.2.1 11 2) rfl ?_
          refine lv_ior E.x E.b d_Pro_follow_288 ?_
          refine lv_aload_n E.x E.b d_Pro_follow_289 rfl (lv_at hl 4 rfl) ?_
          refine gC_Pro_a E w k240 d_Pro_follow_290 ?_
          refine lv_iconst (v := 3) E.x E.b d_Pro_follow_293 (by decide) ?_
          refine ialC E w (k := 11) (by decide) (show inb 3 4 by decide) d_Pro_follow_294 ?_
          refine wi_e (v := o55.2.2.1 11 3) rfl ?_
          refine lv_ior E.x E.b d_Pro_follow_295 ?_
          refine lv_if_ge (tgt := 364) E.x E.b d_Pro_follow_296 (by decide) (fun c => ?_) (fun c => ?_)
          ·
            replace h := ifT c h
            exact bt_Pro_follow_364 E hret o (L_Pro_follow_32 n) hr_32 o55 v1 v2 y56 v4 h w (lv_sub hl [4, 5, 6, 0, 7] rfl)
          ·
            replace h := ifF c h
            refine lv_iconst (v := 0) E.x E.b d_Pro_follow_299 (by decide) ?_
            obtain rfl := Option.some.inj h
            exact rt_z E w hret (show (0 : Int32) = 0 ∨ (0 : Int32) = 1 by decide) d_Pro_follow_300
        replace h := ifF q77 h
        replace q77 := ne_ti (k := 38) (by decide) q77
        refine lv_lookup (off := 246) (tgt := 352) E.x E.b d_Pro_follow_106 (by decide) (by simp [Op.lookupswitch.offset, Ne.symm q57, Ne.symm q58, Ne.symm q59, Ne.symm q60, Ne.symm q66, Ne.symm q75, Ne.symm q76, Ne.symm q77]) (by decide) ?_
        refine lv_aload_n E.x E.b d_Pro_follow_352 rfl (lv_at hl 4 rfl) ?_
        refine lv_iload E.x E.b d_Pro_follow_353 (lv_at hl 1 rfl) ?_
        obtain ⟨o78, h_o78, h⟩ := bd_some h
        refine clV_Pro_reckon E w (x0 := y50) h_o78 k1087 (by decide) hl.1 (Nat.le_of_ble_eq_true rfl) d_Pro_follow_355 (fun H locs w => ?_)
        refine lv_aload_n E.x E.b d_Pro_follow_358 rfl (lv_at hl 4 rfl) ?_
        refine lv_iload E.x E.b d_Pro_follow_359 (lv_at hl 3 rfl) ?_
        obtain ⟨o79, h_o79, h⟩ := bd_some h
        refine clV_Pro_setTarget E w (x0 := y48) h_o79 k1082 (by decide) hl.1 (Nat.le_of_ble_eq_true rfl) d_Pro_follow_361 (fun H locs w => ?_)
        exact bt_Pro_follow_364 E hret o (L_Pro_follow_32 n) hr_32 o79 v1 v2 y56 v4 h w (lv_sub hl [4, 5, 6, 0, 7] rfl)
def F_Pro_follow (σ : Sg) (p1 : Nat) : Option (Sg × Int32) := ck (p1 < 3) (bd (F_Arr_fill1 σ 10 0 64 0) (fun o81 => bd (F_Arr_fill1 o81 10 228 260 0) (fun o82 => L_Pro_follow_32 100000 o82 p1 0 0 0)))
set_option maxRecDepth 10000 in
set_option maxHeartbeats 4000000 in
theorem c_Pro_follow (l : Launch) (D : va_G) (τ : ClassId × ClassId × ClassId) (B : Nat) (σ : Sg) (ad : Nat → Nat) (p1 : Nat) (o : Sg × Int32) (h : F_Pro_follow σ p1 = some o) : MI l y_Pro_follow (Cond.code y_Pro_follow prog_7_method_2_code 8 (some .boolean)) 4 D τ B [.ref (ad 62), .ref (ad (67 + p1))] (wdC τ σ ad) (wdC τ o.1 ad) o.2 := by
  refine en_i (by decide) (Nat.le_of_ble_eq_true rfl) ?_
  intro p e R s m args below meth c H locs ls A E hret w hl
  have E : Cx p R s m args meth c prog_7_method_2_code 8 "DrawingMachine$Processor" 4 D τ B A := E
  have hl : lv_has ls 8 [(0, .ref (ad 62)), (1, .ref (ad (67 + p1)))] := hl
  obtain ⟨c80, h⟩ := ck_some h
  refine lv_aload_n E.x E.b d_Pro_follow_0 rfl (lv_at hl 0 rfl) ?_
  refine gC_Pro_bank E w k236 d_Pro_follow_1 ?_
  refine lv_iconst (v := 0) E.x E.b d_Pro_follow_4 (by decide) ?_
  refine lv_bipush (v := 64) E.x E.b d_Pro_follow_5 (by decide) ?_
  refine lv_iconst (v := 0) E.x E.b d_Pro_follow_7 (by decide) ?_
  obtain ⟨o81, h_o81, h⟩ := bd_some h
  refine clS_Arr_fill1 E w (ar0 := 10) (x1 := 0) (x2 := 64) (x3 := 0) h_o81 k1028 (by decide) hl.1 (Nat.le_of_ble_eq_true rfl) d_Pro_follow_8 (fun H locs w => ?_)
  refine lv_aload_n E.x E.b d_Pro_follow_11 rfl (lv_at hl 0 rfl) ?_
  refine gC_Pro_bank E w k236 d_Pro_follow_12 ?_
  refine lv_sipush (v := 228) E.x E.b d_Pro_follow_15 (by decide) ?_
  refine lv_sipush (v := 260) E.x E.b d_Pro_follow_18 (by decide) ?_
  refine lv_iconst (v := 0) E.x E.b d_Pro_follow_21 (by decide) ?_
  obtain ⟨o82, h_o82, h⟩ := bd_some h
  refine clS_Arr_fill1 E w (ar0 := 10) (x1 := 228) (x2 := 260) (x3 := 0) h_o82 k1028 (by decide) hl.1 (Nat.le_of_ble_eq_true rfl) d_Pro_follow_22 (fun H locs w => ?_)
  refine lv_iconst (v := 0) E.x E.b d_Pro_follow_25 (by decide) ?_
  refine lv_istore_n (lv' := [(2, .int 0), (0, .ref (ad 62)), (1, .ref (ad (67 + p1)))]) E.x E.b d_Pro_follow_26 rfl hl (by decide) rfl (fun ls hl => ?_)
  refine lv_iconst (v := 0) E.x E.b d_Pro_follow_27 (by decide) ?_
  refine lv_istore_n (lv' := [(3, .int 0), (2, .int 0), (0, .ref (ad 62)), (1, .ref (ad (67 + p1)))]) E.x E.b d_Pro_follow_28 rfl hl (by decide) rfl (fun ls hl => ?_)
  refine lv_iconst (v := 0) E.x E.b d_Pro_follow_29 (by decide) ?_
  refine lv_istore (lv' := [(4, .int 0), (3, .int 0), (2, .int 0), (0, .ref (ad 62)), (1, .ref (ad (67 + p1)))]) E.x E.b d_Pro_follow_30 hl (by decide) rfl (fun ls hl => ?_)
  exact lt_Pro_follow_32 E hret o 100000 o82 p1 0 0 0 _ _ _ h w (lv_sub hl [3, 4, 2, 1, 0] rfl)
theorem clV_Pro_follow {p : Program} {l : Launch} {e : Env} {R : Room} {s : State} {m : MethodId} {args : Array Value} {below : List Frame} {meth : Method} {c : Code} {H : Heap} {locs : List Loc} {Q : State → Prop} {cc : ByteArray} {nL pc lev : Nat} {own : String} {D : va_G} {τ : ClassId × ClassId × ClassId} {B : Nat} {A : Nat → Prop} {σ : Sg} {ad : Nat → Nat} {ls : Array Slot} {rest : List Value} (E : Cx p R s m args meth c cc nL own lev D τ B A) (w : Wd s D A (wdC τ σ ad) H locs) {p1 : Nat} {o : Sg × Int32} (h : F_Pro_follow σ p1 = some o) {index : Nat} (hlk : Cond.methodLink own index y_Pro_follow ∈ tw) (hlev : 4 < lev) (hsz : ls.size = nL) (hr : (rest.map fun v => v.category).sum ≤ 8) (hd : decode cc pc = .ok (.invokevirtual index, 3)) (kk : ∀ (H1 : Heap) (locs1 : List Loc), Wd s D A (wdC τ o.1 ad) H1 locs1 → W p l e R s m args below meth c H1 locs1 0 0 Q (F0 m (pc + 3) ls (.int o.2 :: rest))) : W p l e R s m args below meth c H locs 0 0 Q (F0 m pc ls (.ref (ad (67 + p1)) :: .ref (ad 62) :: rest)) :=
  cr_i w E.C (va_runV (As := [.ref (ad (67 + p1))]) (rest := rest) E.fix (c_Pro_follow l D τ B σ ad p1 o h H.size) (cwV 1 E.w (tw_pre (tw_good k1027) (l := [_, _, _, _]) (List.forall_mem_cons.mpr ⟨hlk, List.forall_mem_cons.mpr ⟨k1025, List.forall_mem_cons.mpr ⟨k1026, List.forall_mem_cons.mpr ⟨k8, fun _ h => absurd h List.not_mem_nil⟩⟩⟩⟩)) rfl rfl rfl (by decide +kernel) (E.rm hlev (by decide))) (wd_preV w E.C [.ref (ad (67 + p1))] rcC_Pro rfl) rfl rfl hsz rfl (lv_room hr) hd ⟨Nat.zero_le _, Nat.zero_le _⟩) kk

theorem d_Drw_fill_0 : decode prog_5_method_6_code 0 = .ok (.aload_n 0, 1) := by decide +kernel
theorem d_Drw_fill_1 : decode prog_5_method_6_code 1 = .ok (.getfield 37, 3) := by decide +kernel
theorem d_Drw_fill_4 : decode prog_5_method_6_code 4 = .ok (.getfield 96, 3) := by decide +kernel
theorem d_Drw_fill_7 : decode prog_5_method_6_code 7 = .ok (.astore_n 2, 1) := by decide +kernel
theorem d_Drw_fill_8 : decode prog_5_method_6_code 8 = .ok (.aload_n 0, 1) := by decide +kernel
theorem d_Drw_fill_9 : decode prog_5_method_6_code 9 = .ok (.getfield 62, 3) := by decide +kernel
theorem d_Drw_fill_12 : decode prog_5_method_6_code 12 = .ok (.getfield 151, 3) := by decide +kernel
theorem d_Drw_fill_15 : decode prog_5_method_6_code 15 = .ok (.ifCond .eq 7, 3) := by decide +kernel
theorem d_Drw_fill_18 : decode prog_5_method_6_code 18 = .ok (.iconst 0, 1) := by decide +kernel
theorem d_Drw_fill_19 : decode prog_5_method_6_code 19 = .ok (.goto 4, 3) := by decide +kernel
theorem d_Drw_fill_22 : decode prog_5_method_6_code 22 = .ok (.iconst 1, 1) := by decide +kernel
theorem d_Drw_fill_23 : decode prog_5_method_6_code 23 = .ok (.istore_n 3, 1) := by decide +kernel
theorem d_Drw_fill_24 : decode prog_5_method_6_code 24 = .ok (.aload_n 0, 1) := by decide +kernel
theorem d_Drw_fill_25 : decode prog_5_method_6_code 25 = .ok (.getfield 62, 3) := by decide +kernel
theorem d_Drw_fill_28 : decode prog_5_method_6_code 28 = .ok (.aload_n 0, 1) := by decide +kernel
theorem d_Drw_fill_29 : decode prog_5_method_6_code 29 = .ok (.getfield 28, 3) := by decide +kernel
theorem d_Drw_fill_32 : decode prog_5_method_6_code 32 = .ok (.getfield 82, 3) := by decide +kernel
theorem d_Drw_fill_35 : decode prog_5_method_6_code 35 = .ok (.aload_n 0, 1) := by decide +kernel
theorem d_Drw_fill_36 : decode prog_5_method_6_code 36 = .ok (.getfield 28, 3) := by decide +kernel
theorem d_Drw_fill_39 : decode prog_5_method_6_code 39 = .ok (.getfield 87, 3) := by decide +kernel
theorem d_Drw_fill_42 : decode prog_5_method_6_code 42 = .ok (.invokevirtual 155, 3) := by decide +kernel
theorem d_Drw_fill_45 : decode prog_5_method_6_code 45 = .ok (.aload_n 0, 1) := by decide +kernel
theorem d_Drw_fill_46 : decode prog_5_method_6_code 46 = .ok (.getfield 62, 3) := by decide +kernel
theorem d_Drw_fill_49 : decode prog_5_method_6_code 49 = .ok (.getfield 159, 3) := by decide +kernel
theorem d_Drw_fill_52 : decode prog_5_method_6_code 52 = .ok (.istore 4, 2) := by decide +kernel
theorem d_Drw_fill_54 : decode prog_5_method_6_code 54 = .ok (.iload 4, 2) := by decide +kernel
theorem d_Drw_fill_56 : decode prog_5_method_6_code 56 = .ok (.aload_n 0, 1) := by decide +kernel
theorem d_Drw_fill_57 : decode prog_5_method_6_code 57 = .ok (.getfield 62, 3) := by decide +kernel
theorem d_Drw_fill_60 : decode prog_5_method_6_code 60 = .ok (.getfield 162, 3) := by decide +kernel
theorem d_Drw_fill_63 : decode prog_5_method_6_code 63 = .ok (.if_icmp .gt 179, 3) := by decide +kernel
theorem d_Drw_fill_66 : decode prog_5_method_6_code 66 = .ok (.aload_n 0, 1) := by decide +kernel
theorem d_Drw_fill_67 : decode prog_5_method_6_code 67 = .ok (.getfield 62, 3) := by decide +kernel
theorem d_Drw_fill_70 : decode prog_5_method_6_code 70 = .ok (.getfield 165, 3) := by decide +kernel
theorem d_Drw_fill_73 : decode prog_5_method_6_code 73 = .ok (.istore 5, 2) := by decide +kernel
theorem d_Drw_fill_75 : decode prog_5_method_6_code 75 = .ok (.iload 5, 2) := by decide +kernel
theorem d_Drw_fill_77 : decode prog_5_method_6_code 77 = .ok (.aload_n 0, 1) := by decide +kernel
theorem d_Drw_fill_78 : decode prog_5_method_6_code 78 = .ok (.getfield 62, 3) := by decide +kernel
theorem d_Drw_fill_81 : decode prog_5_method_6_code 81 = .ok (.getfield 168, 3) := by decide +kernel
theorem d_Drw_fill_84 : decode prog_5_method_6_code 84 = .ok (.if_icmp .gt 152, 3) := by decide +kernel
theorem d_Drw_fill_87 : decode prog_5_method_6_code 87 = .ok (.aload_n 0, 1) := by decide +kernel
theorem d_Drw_fill_88 : decode prog_5_method_6_code 88 = .ok (.getfield 62, 3) := by decide +kernel
theorem d_Drw_fill_91 : decode prog_5_method_6_code 91 = .ok (.iload 5, 2) := by decide +kernel
theorem d_Drw_fill_93 : decode prog_5_method_6_code 93 = .ok (.iload 4, 2) := by decide +kernel
theorem d_Drw_fill_95 : decode prog_5_method_6_code 95 = .ok (.invokevirtual 171, 3) := by decide +kernel
theorem d_Drw_fill_98 : decode prog_5_method_6_code 98 = .ok (.ifCond .ne 6, 3) := by decide +kernel
theorem d_Drw_fill_101 : decode prog_5_method_6_code 101 = .ok (.goto 129, 3) := by decide +kernel
theorem d_Drw_fill_104 : decode prog_5_method_6_code 104 = .ok (.aload_n 0, 1) := by decide +kernel
theorem d_Drw_fill_105 : decode prog_5_method_6_code 105 = .ok (.getfield 9, 3) := by decide +kernel
theorem d_Drw_fill_108 : decode prog_5_method_6_code 108 = .ok (.bipush 8, 2) := by decide +kernel
theorem d_Drw_fill_110 : decode prog_5_method_6_code 110 = .ok (.dup2, 1) := by decide +kernel
theorem d_Drw_fill_111 : decode prog_5_method_6_code 111 = .ok (.iaload, 1) := by decide +kernel
theorem d_Drw_fill_112 : decode prog_5_method_6_code 112 = .ok (.iconst 1, 1) := by decide +kernel
theorem d_Drw_fill_113 : decode prog_5_method_6_code 113 = .ok (.iadd, 1) := by decide +kernel
theorem d_Drw_fill_114 : decode prog_5_method_6_code 114 = .ok (.iastore, 1) := by decide +kernel
theorem d_Drw_fill_115 : decode prog_5_method_6_code 115 = .ok (.aload_n 0, 1) := by decide +kernel
theorem d_Drw_fill_116 : decode prog_5_method_6_code 116 = .ok (.getfield 62, 3) := by decide +kernel
theorem d_Drw_fill_119 : decode prog_5_method_6_code 119 = .ok (.invokevirtual 175, 3) := by decide +kernel
theorem d_Drw_fill_122 : decode prog_5_method_6_code 122 = .ok (.istore 6, 2) := by decide +kernel
theorem d_Drw_fill_124 : decode prog_5_method_6_code 124 = .ok (.aload_n 2, 1) := by decide +kernel
theorem d_Drw_fill_125 : decode prog_5_method_6_code 125 = .ok (.bipush 64, 2) := by decide +kernel
theorem d_Drw_fill_127 : decode prog_5_method_6_code 127 = .ok (.ldc 179, 2) := by decide +kernel
theorem d_Drw_fill_129 : decode prog_5_method_6_code 129 = .ok (.iload 5, 2) := by decide +kernel
theorem d_Drw_fill_131 : decode prog_5_method_6_code 131 = .ok (.imul, 1) := by decide +kernel
theorem d_Drw_fill_132 : decode prog_5_method_6_code 132 = .ok (.ldc 180, 2) := by decide +kernel
theorem d_Drw_fill_134 : decode prog_5_method_6_code 134 = .ok (.iadd, 1) := by decide +kernel
theorem d_Drw_fill_135 : decode prog_5_method_6_code 135 = .ok (.iastore, 1) := by decide +kernel
theorem d_Drw_fill_136 : decode prog_5_method_6_code 136 = .ok (.aload_n 2, 1) := by decide +kernel
theorem d_Drw_fill_137 : decode prog_5_method_6_code 137 = .ok (.bipush 65, 2) := by decide +kernel
theorem d_Drw_fill_139 : decode prog_5_method_6_code 139 = .ok (.ldc 179, 2) := by decide +kernel
theorem d_Drw_fill_141 : decode prog_5_method_6_code 141 = .ok (.iload 4, 2) := by decide +kernel
theorem d_Drw_fill_143 : decode prog_5_method_6_code 143 = .ok (.imul, 1) := by decide +kernel
theorem d_Drw_fill_144 : decode prog_5_method_6_code 144 = .ok (.ldc 180, 2) := by decide +kernel
theorem d_Drw_fill_146 : decode prog_5_method_6_code 146 = .ok (.iadd, 1) := by decide +kernel
theorem d_Drw_fill_147 : decode prog_5_method_6_code 147 = .ok (.iastore, 1) := by decide +kernel
theorem d_Drw_fill_148 : decode prog_5_method_6_code 148 = .ok (.aload_n 2, 1) := by decide +kernel
theorem d_Drw_fill_149 : decode prog_5_method_6_code 149 = .ok (.bipush 66, 2) := by decide +kernel
theorem d_Drw_fill_151 : decode prog_5_method_6_code 151 = .ok (.iload 6, 2) := by decide +kernel
theorem d_Drw_fill_153 : decode prog_5_method_6_code 153 = .ok (.iastore, 1) := by decide +kernel
theorem d_Drw_fill_154 : decode prog_5_method_6_code 154 = .ok (.aload_n 2, 1) := by decide +kernel
theorem d_Drw_fill_155 : decode prog_5_method_6_code 155 = .ok (.bipush 67, 2) := by decide +kernel
theorem d_Drw_fill_157 : decode prog_5_method_6_code 157 = .ok (.aload_n 0, 1) := by decide +kernel
theorem d_Drw_fill_158 : decode prog_5_method_6_code 158 = .ok (.getfield 62, 3) := by decide +kernel
theorem d_Drw_fill_161 : decode prog_5_method_6_code 161 = .ok (.getfield 151, 3) := by decide +kernel
theorem d_Drw_fill_164 : decode prog_5_method_6_code 164 = .ok (.ifCond .eq 8, 3) := by decide +kernel
theorem d_Drw_fill_167 : decode prog_5_method_6_code 167 = .ok (.ldc 179, 2) := by decide +kernel
theorem d_Drw_fill_169 : decode prog_5_method_6_code 169 = .ok (.goto 4, 3) := by decide +kernel
theorem d_Drw_fill_172 : decode prog_5_method_6_code 172 = .ok (.iconst 0, 1) := by decide +kernel
theorem d_Drw_fill_173 : decode prog_5_method_6_code 173 = .ok (.iastore, 1) := by decide +kernel
theorem d_Drw_fill_174 : decode prog_5_method_6_code 174 = .ok (.aload_n 0, 1) := by decide +kernel
theorem d_Drw_fill_175 : decode prog_5_method_6_code 175 = .ok (.getfield 62, 3) := by decide +kernel
theorem d_Drw_fill_178 : decode prog_5_method_6_code 178 = .ok (.aload_n 1, 1) := by decide +kernel
theorem d_Drw_fill_179 : decode prog_5_method_6_code 179 = .ok (.aload_n 2, 1) := by decide +kernel
theorem d_Drw_fill_180 : decode prog_5_method_6_code 180 = .ok (.invokevirtual 181, 3) := by decide +kernel
theorem d_Drw_fill_183 : decode prog_5_method_6_code 183 = .ok (.aload_n 0, 1) := by decide +kernel
theorem d_Drw_fill_184 : decode prog_5_method_6_code 184 = .ok (.getfield 37, 3) := by decide +kernel
theorem d_Drw_fill_187 : decode prog_5_method_6_code 187 = .ok (.aload_n 1, 1) := by decide +kernel
theorem d_Drw_fill_188 : decode prog_5_method_6_code 188 = .ok (.invokevirtual 117, 3) := by decide +kernel
theorem d_Drw_fill_191 : decode prog_5_method_6_code 191 = .ok (.ifCond .eq 28, 3) := by decide +kernel
theorem d_Drw_fill_194 : decode prog_5_method_6_code 194 = .ok (.aload_n 0, 1) := by decide +kernel
theorem d_Drw_fill_195 : decode prog_5_method_6_code 195 = .ok (.aload_n 0, 1) := by decide +kernel
theorem d_Drw_fill_196 : decode prog_5_method_6_code 196 = .ok (.getfield 28, 3) := by decide +kernel
theorem d_Drw_fill_199 : decode prog_5_method_6_code 199 = .ok (.iload 5, 2) := by decide +kernel
theorem d_Drw_fill_201 : decode prog_5_method_6_code 201 = .ok (.iload 4, 2) := by decide +kernel
theorem d_Drw_fill_203 : decode prog_5_method_6_code 203 = .ok (.iload 6, 2) := by decide +kernel
theorem d_Drw_fill_205 : decode prog_5_method_6_code 205 = .ok (.iload_n 3, 1) := by decide +kernel
theorem d_Drw_fill_206 : decode prog_5_method_6_code 206 = .ok (.aload_n 2, 1) := by decide +kernel
theorem d_Drw_fill_207 : decode prog_5_method_6_code 207 = .ok (.invokestatic 184, 3) := by decide +kernel
theorem d_Drw_fill_210 : decode prog_5_method_6_code 210 = .ok (.invokevirtual 188, 3) := by decide +kernel
theorem d_Drw_fill_213 : decode prog_5_method_6_code 213 = .ok (.invokevirtual 192, 3) := by decide +kernel
theorem d_Drw_fill_216 : decode prog_5_method_6_code 216 = .ok (.goto 14, 3) := by decide +kernel
theorem d_Drw_fill_219 : decode prog_5_method_6_code 219 = .ok (.aload_n 0, 1) := by decide +kernel
theorem d_Drw_fill_220 : decode prog_5_method_6_code 220 = .ok (.getfield 9, 3) := by decide +kernel
theorem d_Drw_fill_223 : decode prog_5_method_6_code 223 = .ok (.bipush 7, 2) := by decide +kernel
theorem d_Drw_fill_225 : decode prog_5_method_6_code 225 = .ok (.dup2, 1) := by decide +kernel
theorem d_Drw_fill_226 : decode prog_5_method_6_code 226 = .ok (.iaload, 1) := by decide +kernel
theorem d_Drw_fill_227 : decode prog_5_method_6_code 227 = .ok (.iconst 1, 1) := by decide +kernel
theorem d_Drw_fill_228 : decode prog_5_method_6_code 228 = .ok (.iadd, 1) := by decide +kernel
theorem d_Drw_fill_229 : decode prog_5_method_6_code 229 = .ok (.iastore, 1) := by decide +kernel
theorem d_Drw_fill_230 : decode prog_5_method_6_code 230 = .ok (.iinc 5 1, 3) := by decide +kernel
theorem d_Drw_fill_233 : decode prog_5_method_6_code 233 = .ok (.goto (-158), 3) := by decide +kernel
theorem d_Drw_fill_236 : decode prog_5_method_6_code 236 = .ok (.iinc 4 1, 3) := by decide +kernel
theorem d_Drw_fill_239 : decode prog_5_method_6_code 239 = .ok (.goto (-185), 3) := by decide +kernel
theorem d_Drw_fill_242 : decode prog_5_method_6_code 242 = .ok (.return_, 1) := by decide +kernel
def F_Drw_fill_230 (rc_54 : Sg → Nat → Int32 → Int32 → Option (Sg)) (rc_75 : Sg → Nat → Int32 → Int32 → Int32 → Option (Sg)) (σ : Sg) (v1 : Nat) (v3 : Int32) (v4 : Int32) (v5 : Int32) : Option (Sg) := ck (v1 < 3) (lt (v5 + 1) (fun y21 => rc_75 σ v1 v3 v4 y21))
set_option maxRecDepth 10000 in
set_option maxHeartbeats 4000000 in
theorem bt_Drw_fill_230 {p : Program} {l : Launch} {e : Env} {R : Room} {s : State} {m : MethodId} {args : Array Value} {below : List Frame} {meth : Method} {c : Code} {D : va_G} {τ : ClassId × ClassId × ClassId} {B : Nat} {A : Nat → Prop} {ad : Nat → Nat} (E : Cx p R s m args meth c prog_5_method_6_code 7 "DrawingMachine$Drawing" 5 D τ B A) (hret : meth.sig.returnType = none) (o : Sg) (rc_54 : Sg → Nat → Int32 → Int32 → Option (Sg)) (rc_75 : Sg → Nat → Int32 → Int32 → Int32 → Option (Sg)) (hr_54 : ∀ (σ : Sg) (v1 : Nat) (v3 : Int32) (v4 : Int32) (H : Heap) (locs : List Loc) (ls : Array Slot), rc_54 σ v1 v3 v4 = some o → Wd s D A (wdC τ σ ad) H locs → lv_has ls 7 [(0, .ref (ad 61)), (1, .ref (ad (67 + v1))), (2, .ref (ad 10)), (3, .int v3), (4, .int v4)] → W p l e R s m args below meth c H locs 0 0 (QV below args s A D τ (wdC τ o ad)) (F0 m 54 ls [])) (hr_75 : ∀ (σ : Sg) (v1 : Nat) (v3 : Int32) (v4 : Int32) (v5 : Int32) (H : Heap) (locs : List Loc) (ls : Array Slot), rc_75 σ v1 v3 v4 v5 = some o → Wd s D A (wdC τ σ ad) H locs → lv_has ls 7 [(0, .ref (ad 61)), (1, .ref (ad (67 + v1))), (2, .ref (ad 10)), (3, .int v3), (4, .int v4), (5, .int v5)] → W p l e R s m args below meth c H locs 0 0 (QV below args s A D τ (wdC τ o ad)) (F0 m 75 ls [])) (σ : Sg) (v1 : Nat) (v3 : Int32) (v4 : Int32) (v5 : Int32) (h : F_Drw_fill_230 rc_54 rc_75 σ v1 v3 v4 v5 = some o) {H : Heap} {locs : List Loc} {ls : Array Slot} (w : Wd s D A (wdC τ σ ad) H locs) (hl : lv_has ls 7 [(0, .ref (ad 61)), (1, .ref (ad (67 + v1))), (2, .ref (ad 10)), (3, .int v3), (4, .int v4), (5, .int v5)]) : W p l e R s m args below meth c H locs 0 0 (QV below args s A D τ (wdC τ o ad)) (F0 m 230 ls []) := by
  obtain ⟨c20, h⟩ := ck_some h
  obtain ⟨y21, e_y21, h⟩ := lt_some h
  refine lv_iinc (v := y21) (lv' := [(5, .int y21), (0, .ref (ad 61)), (1, .ref (ad (67 + v1))), (2, .ref (ad 10)), (3, .int v3), (4, .int v4)]) E.x E.b d_Drw_fill_230 hl (k := 5) rfl (e_y21) (by decide) rfl (fun ls hl => ?_)
  refine lv_goto (tgt := 75) E.x E.b d_Drw_fill_233 (by decide) ?_
  exact hr_75 σ v1 v3 v4 y21 _ _ _ h w (lv_sub hl [1, 2, 3, 4, 5, 0] rfl)
def F_Drw_fill_173 (rc_54 : Sg → Nat → Int32 → Int32 → Option (Sg)) (rc_75 : Sg → Nat → Int32 → Int32 → Int32 → Option (Sg)) (σ : Sg) (v1 : Nat) (v3 : Int32) (v4 : Int32) (v5 : Int32) (v6 : Int32) (s1 : Int32) (s2 : Int32) : Option (Sg) := ck (v1 < 3) (ck (inb s1 260) (lt (sA σ 10 (upd (σ.2.2.1 10) s1.toNatClampNeg s2)) (fun σ24 => bd (F_Cov_load σ24 v1 10) (fun o25 => bd (F_Pro_follow o25 v1) (fun o26 => if o26.2 = 0 then (lt (sA o26.1 29 (upd (o26.1.2.2.1 29) 7 ((o26.1.2.2.1 29 7) + 1))) (fun σ27 => F_Drw_fill_230 rc_54 rc_75 σ27 v1 v3 v4 v5)) else (bd (F_Drw_colourOf o26.1 10) (fun o28 => bd (F_Pic_drawPlace o26.1 v5 v4 v6 v3 o28) (fun o29 => bd (F_Drw_tally o29.1 o29.2) (fun o30 => F_Drw_fill_230 rc_54 rc_75 o30 v1 v3 v4 v5)))))))))
set_option maxRecDepth 10000 in
set_option maxHeartbeats 4000000 in
theorem bt_Drw_fill_173 {p : Program} {l : Launch} {e : Env} {R : Room} {s : State} {m : MethodId} {args : Array Value} {below : List Frame} {meth : Method} {c : Code} {D : va_G} {τ : ClassId × ClassId × ClassId} {B : Nat} {A : Nat → Prop} {ad : Nat → Nat} (E : Cx p R s m args meth c prog_5_method_6_code 7 "DrawingMachine$Drawing" 5 D τ B A) (hret : meth.sig.returnType = none) (o : Sg) (rc_54 : Sg → Nat → Int32 → Int32 → Option (Sg)) (rc_75 : Sg → Nat → Int32 → Int32 → Int32 → Option (Sg)) (hr_54 : ∀ (σ : Sg) (v1 : Nat) (v3 : Int32) (v4 : Int32) (H : Heap) (locs : List Loc) (ls : Array Slot), rc_54 σ v1 v3 v4 = some o → Wd s D A (wdC τ σ ad) H locs → lv_has ls 7 [(0, .ref (ad 61)), (1, .ref (ad (67 + v1))), (2, .ref (ad 10)), (3, .int v3), (4, .int v4)] → W p l e R s m args below meth c H locs 0 0 (QV below args s A D τ (wdC τ o ad)) (F0 m 54 ls [])) (hr_75 : ∀ (σ : Sg) (v1 : Nat) (v3 : Int32) (v4 : Int32) (v5 : Int32) (H : Heap) (locs : List Loc) (ls : Array Slot), rc_75 σ v1 v3 v4 v5 = some o → Wd s D A (wdC τ σ ad) H locs → lv_has ls 7 [(0, .ref (ad 61)), (1, .ref (ad (67 + v1))), (2, .ref (ad 10)), (3, .int v3), (4, .int v4), (5, .int v5)] → W p l e R s m args below meth c H locs 0 0 (QV below args s A D τ (wdC τ o ad)) (F0 m 75 ls [])) (σ : Sg) (v1 : Nat) (v3 : Int32) (v4 : Int32) (v5 : Int32) (v6 : Int32) (s1 : Int32) (s2 : Int32) (h : F_Drw_fill_173 rc_54 rc_75 σ v1 v3 v4 v5 v6 s1 s2 = some o) {H : Heap} {locs : List Loc} {ls : Array Slot} (w : Wd s D A (wdC τ σ ad) H locs) (hl : lv_has ls 7 [(0, .ref (ad 61)), (1, .ref (ad (67 + v1))), (2, .ref (ad 10)), (3, .int v3), (4, .int v4), (5, .int v5), (6, .int v6)]) : W p l e R s m args below meth c H locs 0 0 (QV below args s A D τ (wdC τ o ad)) (F0 m 173 ls [.int s2, .int s1, .ref (ad 10)]) := by
  obtain ⟨c22, h⟩ := ck_some h
  obtain ⟨c23, h⟩ := ck_some h
  obtain ⟨σ24, e_σ24, h⟩ := lt_some h
  refine iasC E w (k := 10) (by decide) c23 e_σ24 d_Drw_fill_173 (fun H locs w => ?_)
  refine lv_aload_n E.x E.b d_Drw_fill_174 rfl (lv_at hl 0 rfl) ?_
  refine gC_Drw_covering E w k384 d_Drw_fill_175 ?_
  refine lv_aload_n E.x E.b d_Drw_fill_178 rfl (lv_at hl 1 rfl) ?_
  refine lv_aload_n E.x E.b d_Drw_fill_179 rfl (lv_at hl 2 rfl) ?_
  obtain ⟨o25, h_o25, h⟩ := bd_some h
  refine clV_Cov_load E w (p1 := v1) (ar1 := 10) h_o25 k1217 (by decide) hl.1 (Nat.le_of_ble_eq_true rfl) d_Drw_fill_180 (fun H locs w => ?_)
  refine lv_aload_n E.x E.b d_Drw_fill_183 rfl (lv_at hl 0 rfl) ?_
  refine gC_Drw_processor E w k381 d_Drw_fill_184 ?_
  refine lv_aload_n E.x E.b d_Drw_fill_187 rfl (lv_at hl 1 rfl) ?_
  obtain ⟨o26, h_o26, h⟩ := bd_some h
  refine clV_Pro_follow E w (p1 := v1) h_o26 k1024 (by decide) hl.1 (Nat.le_of_ble_eq_true rfl) d_Drw_fill_188 (fun H locs w => ?_)
  refine lv_if_eq (tgt := 219) E.x E.b d_Drw_fill_191 (by decide) (fun c => ?_) (fun c => ?_)
  ·
    replace h := ifT c h
    refine lv_aload_n E.x E.b d_Drw_fill_219 rfl (lv_at hl 0 rfl) ?_
    refine gC_Drw_counts E w k373 d_Drw_fill_220 ?_
    refine lv_bipush (v := 7) E.x E.b d_Drw_fill_223 (by decide) ?_
    refine lv_dup2_11 E.x E.b d_Drw_fill_225 rfl rfl ?_
    refine ialC E w (k := 29) (by decide) (show inb 7 9 by decide) d_Drw_fill_226 ?_
    refine wi_e (v := o26.1.2.2.1 29 7) rfl ?_
    refine lv_iconst (v := 1) E.x E.b d_Drw_fill_227 (by decide) ?_
    refine lv_iadd E.x E.b d_Drw_fill_228 ?_
    obtain ⟨σ27, e_σ27, h⟩ := lt_some h
    refine iasC E w (k := 29) (by decide) (show inb 7 9 by decide) e_σ27 d_Drw_fill_229 (fun H locs w => ?_)
    exact bt_Drw_fill_230 E hret o rc_54 rc_75 hr_54 hr_75 σ27 v1 v3 v4 v5 h w (lv_sub hl [0, 1, 2, 3, 4, 5] rfl)
  ·
    replace h := ifF c h
    refine lv_aload_n E.x E.b d_Drw_fill_194 rfl (lv_at hl 0 rfl) ?_
    refine lv_aload_n E.x E.b d_Drw_fill_195 rfl (lv_at hl 0 rfl) ?_
    refine gC_Drw_picture E w k380 d_Drw_fill_196 ?_
    refine lv_iload E.x E.b d_Drw_fill_199 (lv_at hl 5 rfl) ?_
    refine lv_iload E.x E.b d_Drw_fill_201 (lv_at hl 4 rfl) ?_
    refine lv_iload E.x E.b d_Drw_fill_203 (lv_at hl 6 rfl) ?_
    refine lv_iload_n E.x E.b d_Drw_fill_205 rfl (lv_at hl 3 rfl) ?_
    refine lv_aload_n E.x E.b d_Drw_fill_206 rfl (lv_at hl 2 rfl) ?_
    obtain ⟨o28, h_o28, h⟩ := bd_some h
    refine clS_Drw_colourOf E w (ar0 := 10) h_o28 k1241 (by decide) hl.1 (Nat.le_of_ble_eq_true rfl) d_Drw_fill_207 (fun H locs w => ?_)
    obtain ⟨o29, h_o29, h⟩ := bd_some h
    refine clV_Pic_drawPlace E w (x0 := v5) (x1 := v4) (x2 := v6) (x3 := v3) (x4 := o28) h_o29 k1245 (by decide) hl.1 (Nat.le_of_ble_eq_true rfl) d_Drw_fill_210 (fun H locs w => ?_)
    obtain ⟨o30, h_o30, h⟩ := bd_some h
    refine clV_Drw_tally E w (x0 := o29.2) h_o30 k1284 (by decide) hl.1 (Nat.le_of_ble_eq_true rfl) d_Drw_fill_213 (fun H locs w => ?_)
    refine lv_goto (tgt := 230) E.x E.b d_Drw_fill_216 (by decide) ?_
    exact bt_Drw_fill_230 E hret o rc_54 rc_75 hr_54 hr_75 o30 v1 v3 v4 v5 h w (lv_sub hl [0, 1, 2, 3, 4, 5] rfl)
def L_Drw_fill_75 (rc_54 : Sg → Nat → Int32 → Int32 → Option (Sg)) : Nat → Sg → Nat → Int32 → Int32 → Int32 → Option (Sg)
  | 0, _, _, _, _, _ => none
  | n + 1, σ, v1, v3, v4, v5 => ck (v1 < 3) (if (σ.1 19) < v5 then (lt (v4 + 1) (fun y32 => rc_54 σ v1 v3 y32)) else (bd (F_Cov_covers σ v5 v4) (fun o33 => if o33.2 = 0 then (F_Drw_fill_230 rc_54 (L_Drw_fill_75 rc_54 n) o33.1 v1 v3 v4 v5) else (lt (sA o33.1 29 (upd (o33.1.2.2.1 29) 8 ((o33.1.2.2.1 29 8) + 1))) (fun σ34 => bd (F_Cov_depthThere σ34) (fun o35 => lt (sA σ34 10 (upd (σ34.2.2.1 10) 64 ((65536 * v5) + 32768))) (fun σ36 => lt (sA σ36 10 (upd (σ36.2.2.1 10) 65 ((65536 * v4) + 32768))) (fun σ37 => lt (sA σ37 10 (upd (σ37.2.2.1 10) 66 o35)) (fun σ38 => if (σ38.1 17) = 0 then (F_Drw_fill_173 rc_54 (L_Drw_fill_75 rc_54 n) σ38 v1 v3 v4 v5 o35 67 0) else (F_Drw_fill_173 rc_54 (L_Drw_fill_75 rc_54 n) σ38 v1 v3 v4 v5 o35 67 65536))))))))))
set_option maxRecDepth 10000 in
set_option maxHeartbeats 4000000 in
theorem lt_Drw_fill_75 {p : Program} {l : Launch} {e : Env} {R : Room} {s : State} {m : MethodId} {args : Array Value} {below : List Frame} {meth : Method} {c : Code} {D : va_G} {τ : ClassId × ClassId × ClassId} {B : Nat} {A : Nat → Prop} {ad : Nat → Nat} (E : Cx p R s m args meth c prog_5_method_6_code 7 "DrawingMachine$Drawing" 5 D τ B A) (hret : meth.sig.returnType = none) (o : Sg) (rc_54 : Sg → Nat → Int32 → Int32 → Option (Sg)) (hr_54 : ∀ (σ : Sg) (v1 : Nat) (v3 : Int32) (v4 : Int32) (H : Heap) (locs : List Loc) (ls : Array Slot), rc_54 σ v1 v3 v4 = some o → Wd s D A (wdC τ σ ad) H locs → lv_has ls 7 [(0, .ref (ad 61)), (1, .ref (ad (67 + v1))), (2, .ref (ad 10)), (3, .int v3), (4, .int v4)] → W p l e R s m args below meth c H locs 0 0 (QV below args s A D τ (wdC τ o ad)) (F0 m 54 ls [])) : ∀ (n : Nat) (σ : Sg) (v1 : Nat) (v3 : Int32) (v4 : Int32) (v5 : Int32) (H : Heap) (locs : List Loc) (ls : Array Slot), L_Drw_fill_75 rc_54 n σ v1 v3 v4 v5 = some o → Wd s D A (wdC τ σ ad) H locs → lv_has ls 7 [(0, .ref (ad 61)), (1, .ref (ad (67 + v1))), (2, .ref (ad 10)), (3, .int v3), (4, .int v4), (5, .int v5)] → W p l e R s m args below meth c H locs 0 0 (QV below args s A D τ (wdC τ o ad)) (F0 m 75 ls []) := by
  intro n
  induction n with
  | zero =>
    intro σ v1 v3 v4 v5 H locs ls h w hl
    cases h
  | succ n hr_75 =>
    intro σ v1 v3 v4 v5 H locs ls h w hl
    obtain ⟨c31, h⟩ := ck_some h
    refine lv_iload E.x E.b d_Drw_fill_75 (lv_at hl 5 rfl) ?_
    refine lv_aload_n E.x E.b d_Drw_fill_77 rfl (lv_at hl 0 rfl) ?_
    refine gC_Drw_covering E w k384 d_Drw_fill_78 ?_
    refine gC_Cov_right E w k327 d_Drw_fill_81 ?_
    refine lv_icmp_gt (tgt := 236) E.x E.b d_Drw_fill_84 (by decide) (fun c => ?_) (fun c => ?_)
    ·
      replace h := ifT c h
      obtain ⟨y32, e_y32, h⟩ := lt_some h
      refine lv_iinc (v := y32) (lv' := [(4, .int y32), (0, .ref (ad 61)), (1, .ref (ad (67 + v1))), (2, .ref (ad 10)), (3, .int v3), (5, .int v5)]) E.x E.b d_Drw_fill_236 hl (k := 4) rfl (e_y32) (by decide) rfl (fun ls hl => ?_)
      refine lv_goto (tgt := 54) E.x E.b d_Drw_fill_239 (by decide) ?_
      exact hr_54 σ v1 v3 y32 _ _ _ h w (lv_sub hl [1, 2, 3, 4, 0] rfl)
    ·
      replace h := ifF c h
      refine lv_aload_n E.x E.b d_Drw_fill_87 rfl (lv_at hl 0 rfl) ?_
      refine gC_Drw_covering E w k384 d_Drw_fill_88 ?_
      refine lv_iload E.x E.b d_Drw_fill_91 (lv_at hl 5 rfl) ?_
      refine lv_iload E.x E.b d_Drw_fill_93 (lv_at hl 4 rfl) ?_
      obtain ⟨o33, h_o33, h⟩ := bd_some h
      refine clV_Cov_covers E w (x0 := v5) (x1 := v4) h_o33 k1207 (by decide) hl.1 (Nat.le_of_ble_eq_true rfl) d_Drw_fill_95 (fun H locs w => ?_)
      refine lv_if_ne (tgt := 104) E.x E.b d_Drw_fill_98 (by decide) (fun c => ?_) (fun c => ?_)
      ·
        replace h := ifF c h
        refine lv_aload_n E.x E.b d_Drw_fill_104 rfl (lv_at hl 0 rfl) ?_
        refine gC_Drw_counts E w k373 d_Drw_fill_105 ?_
        refine lv_bipush (v := 8) E.x E.b d_Drw_fill_108 (by decide) ?_
        refine lv_dup2_11 E.x E.b d_Drw_fill_110 rfl rfl ?_
        refine ialC E w (k := 29) (by decide) (show inb 8 9 by decide) d_Drw_fill_111 ?_
        refine wi_e (v := o33.1.2.2.1 29 8) rfl ?_
        refine lv_iconst (v := 1) E.x E.b d_Drw_fill_112 (by decide) ?_
        refine lv_iadd E.x E.b d_Drw_fill_113 ?_
        obtain ⟨σ34, e_σ34, h⟩ := lt_some h
        refine iasC E w (k := 29) (by decide) (show inb 8 9 by decide) e_σ34 d_Drw_fill_114 (fun H locs w => ?_)
        refine lv_aload_n E.x E.b d_Drw_fill_115 rfl (lv_at hl 0 rfl) ?_
        refine gC_Drw_covering E w k384 d_Drw_fill_116 ?_
        obtain ⟨o35, h_o35, h⟩ := bd_some h
        refine clV_Cov_depthThere E w h_o35 k1211 (by decide) hl.1 (Nat.le_of_ble_eq_true rfl) d_Drw_fill_119 (fun H locs w => ?_)
        refine lv_istore (lv' := [(6, .int o35), (0, .ref (ad 61)), (1, .ref (ad (67 + v1))), (2, .ref (ad 10)), (3, .int v3), (4, .int v4), (5, .int v5)]) E.x E.b d_Drw_fill_122 hl (by decide) rfl (fun ls hl => ?_)
        refine lv_aload_n E.x E.b d_Drw_fill_124 rfl (lv_at hl 3 rfl) ?_
        refine lv_bipush (v := 64) E.x E.b d_Drw_fill_125 (by decide) ?_
        refine lv_ldc (v := 65536) E.x E.b E.o (E.w _ k1215) d_Drw_fill_127 ?_
        refine lv_iload E.x E.b d_Drw_fill_129 (lv_at hl 6 rfl) ?_
        refine lv_imul E.x E.b d_Drw_fill_131 ?_
        refine lv_ldc (v := 32768) E.x E.b E.o (E.w _ k1216) d_Drw_fill_132 ?_
        refine lv_iadd E.x E.b d_Drw_fill_134 ?_
        obtain ⟨σ36, e_σ36, h⟩ := lt_some h
        refine iasC E w (k := 10) (by decide) (show inb 64 260 by decide) e_σ36 d_Drw_fill_135 (fun H locs w => ?_)
        refine lv_aload_n E.x E.b d_Drw_fill_136 rfl (lv_at hl 3 rfl) ?_
        refine lv_bipush (v := 65) E.x E.b d_Drw_fill_137 (by decide) ?_
        refine lv_ldc (v := 65536) E.x E.b E.o (E.w _ k1215) d_Drw_fill_139 ?_
        refine lv_iload E.x E.b d_Drw_fill_141 (lv_at hl 5 rfl) ?_
        refine lv_imul E.x E.b d_Drw_fill_143 ?_
        refine lv_ldc (v := 32768) E.x E.b E.o (E.w _ k1216) d_Drw_fill_144 ?_
        refine lv_iadd E.x E.b d_Drw_fill_146 ?_
        obtain ⟨σ37, e_σ37, h⟩ := lt_some h
        refine iasC E w (k := 10) (by decide) (show inb 65 260 by decide) e_σ37 d_Drw_fill_147 (fun H locs w => ?_)
        refine lv_aload_n E.x E.b d_Drw_fill_148 rfl (lv_at hl 3 rfl) ?_
        refine lv_bipush (v := 66) E.x E.b d_Drw_fill_149 (by decide) ?_
        refine lv_iload E.x E.b d_Drw_fill_151 (lv_at hl 0 rfl) ?_
        obtain ⟨σ38, e_σ38, h⟩ := lt_some h
        refine iasC E w (k := 10) (by decide) (show inb 66 260 by decide) e_σ38 d_Drw_fill_153 (fun H locs w => ?_)
        refine lv_aload_n E.x E.b d_Drw_fill_154 rfl (lv_at hl 3 rfl) ?_
        refine lv_bipush (v := 67) E.x E.b d_Drw_fill_155 (by decide) ?_
        refine lv_aload_n E.x E.b d_Drw_fill_157 rfl (lv_at hl 1 rfl) ?_
        refine gC_Drw_covering E w k384 d_Drw_fill_158 ?_
        refine gC_Cov_front E w k323 d_Drw_fill_161 ?_
        refine lv_if_eq (tgt := 172) E.x E.b d_Drw_fill_164 (by decide) (fun c => ?_) (fun c => ?_)
        ·
          replace h := ifT c h
          refine lv_iconst (v := 0) E.x E.b d_Drw_fill_172 (by decide) ?_
          exact bt_Drw_fill_173 E hret o rc_54 (L_Drw_fill_75 rc_54 n) hr_54 hr_75 σ38 v1 v3 v4 v5 o35 67 0 h w (lv_sub hl [1, 2, 3, 4, 5, 6, 0] rfl)
        ·
          replace h := ifF c h
          refine lv_ldc (v := 65536) E.x E.b E.o (E.w _ k1215) d_Drw_fill_167 ?_
          refine lv_goto (tgt := 173) E.x E.b d_Drw_fill_169 (by decide) ?_
          exact bt_Drw_fill_173 E hret o rc_54 (L_Drw_fill_75 rc_54 n) hr_54 hr_75 σ38 v1 v3 v4 v5 o35 67 65536 h w (lv_sub hl [1, 2, 3, 4, 5, 6, 0] rfl)
      ·
        replace h := ifT c h
        refine lv_goto (tgt := 230) E.x E.b d_Drw_fill_101 (by decide) ?_
        exact bt_Drw_fill_230 E hret o rc_54 (L_Drw_fill_75 rc_54 n) hr_54 hr_75 o33.1 v1 v3 v4 v5 h w (lv_sub hl [0, 1, 2, 3, 4, 5] rfl)
def L_Drw_fill_54 : Nat → Sg → Nat → Int32 → Int32 → Option (Sg)
  | 0, _, _, _, _ => none
  | n + 1, σ, v1, v3, v4 => ck (v1 < 3) (if (σ.1 21) < v4 then (some σ) else (lt (σ.1 18) (fun y40 => L_Drw_fill_75 (L_Drw_fill_54 n) 100000 σ v1 v3 v4 y40)))
set_option maxRecDepth 10000 in
set_option maxHeartbeats 4000000 in
theorem lt_Drw_fill_54 {p : Program} {l : Launch} {e : Env} {R : Room} {s : State} {m : MethodId} {args : Array Value} {below : List Frame} {meth : Method} {c : Code} {D : va_G} {τ : ClassId × ClassId × ClassId} {B : Nat} {A : Nat → Prop} {ad : Nat → Nat} (E : Cx p R s m args meth c prog_5_method_6_code 7 "DrawingMachine$Drawing" 5 D τ B A) (hret : meth.sig.returnType = none) (o : Sg) : ∀ (n : Nat) (σ : Sg) (v1 : Nat) (v3 : Int32) (v4 : Int32) (H : Heap) (locs : List Loc) (ls : Array Slot), L_Drw_fill_54 n σ v1 v3 v4 = some o → Wd s D A (wdC τ σ ad) H locs → lv_has ls 7 [(0, .ref (ad 61)), (1, .ref (ad (67 + v1))), (2, .ref (ad 10)), (3, .int v3), (4, .int v4)] → W p l e R s m args below meth c H locs 0 0 (QV below args s A D τ (wdC τ o ad)) (F0 m 54 ls []) := by
  intro n
  induction n with
  | zero =>
    intro σ v1 v3 v4 H locs ls h w hl
    cases h
  | succ n hr_54 =>
    intro σ v1 v3 v4 H locs ls h w hl
    obtain ⟨c39, h⟩ := ck_some h
    refine lv_iload E.x E.b d_Drw_fill_54 (lv_at hl 4 rfl) ?_
    refine lv_aload_n E.x E.b d_Drw_fill_56 rfl (lv_at hl 0 rfl) ?_
    refine gC_Drw_covering E w k384 d_Drw_fill_57 ?_
    refine gC_Cov_bottom E w k331 d_Drw_fill_60 ?_
    refine lv_icmp_gt (tgt := 242) E.x E.b d_Drw_fill_63 (by decide) (fun c => ?_) (fun c => ?_)
    ·
      replace h := ifT c h
      obtain rfl := Option.some.inj h
      exact rt_v E w hret d_Drw_fill_242
    ·
      replace h := ifF c h
      refine lv_aload_n E.x E.b d_Drw_fill_66 rfl (lv_at hl 0 rfl) ?_
      refine gC_Drw_covering E w k384 d_Drw_fill_67 ?_
      refine gC_Cov_left E w k325 d_Drw_fill_70 ?_
      obtain ⟨y40, e_y40, h⟩ := lt_some h
      refine wi_e (v := y40) e_y40 ?_
      refine lv_istore (lv' := [(5, .int y40), (0, .ref (ad 61)), (1, .ref (ad (67 + v1))), (2, .ref (ad 10)), (3, .int v3), (4, .int v4)]) E.x E.b d_Drw_fill_73 hl (by decide) rfl (fun ls hl => ?_)
      exact lt_Drw_fill_75 E hret o (L_Drw_fill_54 n) hr_54 100000 σ v1 v3 v4 y40 _ _ _ h w (lv_sub hl [1, 2, 3, 4, 5, 0] rfl)
def F_Drw_fill_23 (σ : Sg) (v1 : Nat) (s0 : Int32) : Option (Sg) := ck (v1 < 3) (bd (F_Cov_makeReady σ (σ.1 0) (σ.1 1)) (fun o42 => lt (o42.1 20) (fun y43 => L_Drw_fill_54 100000 o42 v1 s0 y43)))
set_option maxRecDepth 10000 in
set_option maxHeartbeats 4000000 in
theorem bt_Drw_fill_23 {p : Program} {l : Launch} {e : Env} {R : Room} {s : State} {m : MethodId} {args : Array Value} {below : List Frame} {meth : Method} {c : Code} {D : va_G} {τ : ClassId × ClassId × ClassId} {B : Nat} {A : Nat → Prop} {ad : Nat → Nat} (E : Cx p R s m args meth c prog_5_method_6_code 7 "DrawingMachine$Drawing" 5 D τ B A) (hret : meth.sig.returnType = none) (o : Sg) (σ : Sg) (v1 : Nat) (s0 : Int32) (h : F_Drw_fill_23 σ v1 s0 = some o) {H : Heap} {locs : List Loc} {ls : Array Slot} (w : Wd s D A (wdC τ σ ad) H locs) (hl : lv_has ls 7 [(0, .ref (ad 61)), (1, .ref (ad (67 + v1))), (2, .ref (ad 10))]) : W p l e R s m args below meth c H locs 0 0 (QV below args s A D τ (wdC τ o ad)) (F0 m 23 ls [.int s0]) := by
  obtain ⟨c41, h⟩ := ck_some h
  refine lv_istore_n (lv' := [(3, .int s0), (0, .ref (ad 61)), (1, .ref (ad (67 + v1))), (2, .ref (ad 10))]) E.x E.b d_Drw_fill_23 rfl hl (by decide) rfl (fun ls hl => ?_)
  refine lv_aload_n E.x E.b d_Drw_fill_24 rfl (lv_at hl 1 rfl) ?_
  refine gC_Drw_covering E w k384 d_Drw_fill_25 ?_
  refine lv_aload_n E.x E.b d_Drw_fill_28 rfl (lv_at hl 1 rfl) ?_
  refine gC_Drw_picture E w k380 d_Drw_fill_29 ?_
  refine gC_Pic_wide E w k79 d_Drw_fill_32 ?_
  refine lv_aload_n E.x E.b d_Drw_fill_35 rfl (lv_at hl 1 rfl) ?_
  refine gC_Drw_picture E w k380 d_Drw_fill_36 ?_
  refine gC_Pic_high E w k82 d_Drw_fill_39 ?_
  obtain ⟨o42, h_o42, h⟩ := bd_some h
  refine clV_Cov_makeReady E w (x0 := (σ.1 0)) (x1 := (σ.1 1)) h_o42 k1187 (by decide) hl.1 (Nat.le_of_ble_eq_true rfl) d_Drw_fill_42 (fun H locs w => ?_)
  refine lv_aload_n E.x E.b d_Drw_fill_45 rfl (lv_at hl 1 rfl) ?_
  refine gC_Drw_covering E w k384 d_Drw_fill_46 ?_
  refine gC_Cov_top E w k329 d_Drw_fill_49 ?_
  obtain ⟨y43, e_y43, h⟩ := lt_some h
  refine wi_e (v := y43) e_y43 ?_
  refine lv_istore (lv' := [(4, .int y43), (3, .int s0), (0, .ref (ad 61)), (1, .ref (ad (67 + v1))), (2, .ref (ad 10))]) E.x E.b d_Drw_fill_52 hl (by decide) rfl (fun ls hl => ?_)
  exact lt_Drw_fill_54 E hret o 100000 o42 v1 s0 y43 _ _ _ h w (lv_sub hl [2, 3, 4, 1, 0] rfl)
def F_Drw_fill (σ : Sg) (p1 : Nat) : Option (Sg) := ck (p1 < 3) (if (σ.1 17) = 0 then (F_Drw_fill_23 σ p1 1) else (F_Drw_fill_23 σ p1 0))
set_option maxRecDepth 10000 in
set_option maxHeartbeats 4000000 in
theorem c_Drw_fill (l : Launch) (D : va_G) (τ : ClassId × ClassId × ClassId) (B : Nat) (σ : Sg) (ad : Nat → Nat) (p1 : Nat) (o : Sg) (h : F_Drw_fill σ p1 = some o) : MV l y_Drw_fill (Cond.code y_Drw_fill prog_5_method_6_code 7 none) 5 D τ B [.ref (ad 61), .ref (ad (67 + p1))] (wdC τ σ ad) (wdC τ o ad) := by
  refine en_v (by decide) (Nat.le_of_ble_eq_true rfl) ?_
  intro p e R s m args below meth c H locs ls A E hret w hl
  have E : Cx p R s m args meth c prog_5_method_6_code 7 "DrawingMachine$Drawing" 5 D τ B A := E
  have hl : lv_has ls 7 [(0, .ref (ad 61)), (1, .ref (ad (67 + p1)))] := hl
  obtain ⟨c44, h⟩ := ck_some h
  refine lv_aload_n E.x E.b d_Drw_fill_0 rfl (lv_at hl 0 rfl) ?_
  refine gC_Drw_processor E w k381 d_Drw_fill_1 ?_
  refine gC_Pro_bank E w k237 d_Drw_fill_4 ?_
  refine lv_astore_n (lv' := [(2, .ref (ad 10)), (0, .ref (ad 61)), (1, .ref (ad (67 + p1)))]) E.x E.b d_Drw_fill_7 rfl hl (by decide) rfl (fun ls hl => ?_)
  refine lv_aload_n E.x E.b d_Drw_fill_8 rfl (lv_at hl 1 rfl) ?_
  refine gC_Drw_covering E w k384 d_Drw_fill_9 ?_
  refine gC_Cov_front E w k323 d_Drw_fill_12 ?_
  refine lv_if_eq (tgt := 22) E.x E.b d_Drw_fill_15 (by decide) (fun c => ?_) (fun c => ?_)
  ·
    replace h := ifT c h
    refine lv_iconst (v := 1) E.x E.b d_Drw_fill_22 (by decide) ?_
    exact bt_Drw_fill_23 E hret o σ p1 1 h w (lv_sub hl [1, 2, 0] rfl)
  ·
    replace h := ifF c h
    refine lv_iconst (v := 0) E.x E.b d_Drw_fill_18 (by decide) ?_
    refine lv_goto (tgt := 23) E.x E.b d_Drw_fill_19 (by decide) ?_
    exact bt_Drw_fill_23 E hret o σ p1 0 h w (lv_sub hl [1, 2, 0] rfl)
theorem clV_Drw_fill {p : Program} {l : Launch} {e : Env} {R : Room} {s : State} {m : MethodId} {args : Array Value} {below : List Frame} {meth : Method} {c : Code} {H : Heap} {locs : List Loc} {Q : State → Prop} {cc : ByteArray} {nL pc lev : Nat} {own : String} {D : va_G} {τ : ClassId × ClassId × ClassId} {B : Nat} {A : Nat → Prop} {σ : Sg} {ad : Nat → Nat} {ls : Array Slot} {rest : List Value} (E : Cx p R s m args meth c cc nL own lev D τ B A) (w : Wd s D A (wdC τ σ ad) H locs) {p1 : Nat} {o : Sg} (h : F_Drw_fill σ p1 = some o) {index : Nat} (hlk : Cond.methodLink own index y_Drw_fill ∈ tw) (hlev : 5 < lev) (hsz : ls.size = nL) (hr : (rest.map fun v => v.category).sum ≤ 8) (hd : decode cc pc = .ok (.invokevirtual index, 3)) (kk : ∀ (H1 : Heap) (locs1 : List Loc), Wd s D A (wdC τ o ad) H1 locs1 → W p l e R s m args below meth c H1 locs1 0 0 Q (F0 m (pc + 3) ls (rest))) : W p l e R s m args below meth c H locs 0 0 Q (F0 m pc ls (.ref (ad (67 + p1)) :: .ref (ad 61) :: rest)) :=
  cr_v w E.C (va_runV (As := [.ref (ad (67 + p1))]) (rest := rest) E.fix (c_Drw_fill l D τ B σ ad p1 o h H.size) (cwV 1 E.w (tw_pre (tw_good k1186) (l := [_, _, _, _]) (List.forall_mem_cons.mpr ⟨hlk, List.forall_mem_cons.mpr ⟨k1185, List.forall_mem_cons.mpr ⟨ks25, List.forall_mem_cons.mpr ⟨k7, fun _ h => absurd h List.not_mem_nil⟩⟩⟩⟩)) rfl rfl rfl (by decide +kernel) (E.rm hlev (by decide))) (wd_preV w E.C [.ref (ad (67 + p1))] rcC_Drw rfl) rfl rfl hsz rfl (lv_room hr) hd ⟨Nat.zero_le _, Nat.zero_le _⟩) kk

theorem d_Drw_shows_0 : decode prog_5_method_5_code 0 = .ok (.aload_n 0, 1) := by decide +kernel
theorem d_Drw_shows_1 : decode prog_5_method_5_code 1 = .ok (.getfield 62, 3) := by decide +kernel
theorem d_Drw_shows_4 : decode prog_5_method_5_code 4 = .ok (.lload_n 1, 1) := by decide +kernel
theorem d_Drw_shows_5 : decode prog_5_method_5_code 5 = .ok (.lconst 0, 1) := by decide +kernel
theorem d_Drw_shows_6 : decode prog_5_method_5_code 6 = .ok (.lcmp, 1) := by decide +kernel
theorem d_Drw_shows_7 : decode prog_5_method_5_code 7 = .ok (.ifCond .le 7, 3) := by decide +kernel
theorem d_Drw_shows_10 : decode prog_5_method_5_code 10 = .ok (.iconst 1, 1) := by decide +kernel
theorem d_Drw_shows_11 : decode prog_5_method_5_code 11 = .ok (.goto 4, 3) := by decide +kernel
theorem d_Drw_shows_14 : decode prog_5_method_5_code 14 = .ok (.iconst 0, 1) := by decide +kernel
theorem d_Drw_shows_15 : decode prog_5_method_5_code 15 = .ok (.aload_n 0, 1) := by decide +kernel
theorem d_Drw_shows_16 : decode prog_5_method_5_code 16 = .ok (.getfield 27, 3) := by decide +kernel
theorem d_Drw_shows_19 : decode prog_5_method_5_code 19 = .ok (.sipush 216, 3) := by decide +kernel
theorem d_Drw_shows_22 : decode prog_5_method_5_code 22 = .ok (.iaload, 1) := by decide +kernel
theorem d_Drw_shows_23 : decode prog_5_method_5_code 23 = .ok (.iconst 1, 1) := by decide +kernel
theorem d_Drw_shows_24 : decode prog_5_method_5_code 24 = .ok (.if_icmp .ne 7, 3) := by decide +kernel
theorem d_Drw_shows_27 : decode prog_5_method_5_code 27 = .ok (.iconst 1, 1) := by decide +kernel
theorem d_Drw_shows_28 : decode prog_5_method_5_code 28 = .ok (.goto 4, 3) := by decide +kernel
theorem d_Drw_shows_31 : decode prog_5_method_5_code 31 = .ok (.iconst 0, 1) := by decide +kernel
theorem d_Drw_shows_32 : decode prog_5_method_5_code 32 = .ok (.if_icmp .eq 7, 3) := by decide +kernel
theorem d_Drw_shows_35 : decode prog_5_method_5_code 35 = .ok (.iconst 1, 1) := by decide +kernel
theorem d_Drw_shows_36 : decode prog_5_method_5_code 36 = .ok (.goto 4, 3) := by decide +kernel
theorem d_Drw_shows_39 : decode prog_5_method_5_code 39 = .ok (.iconst 0, 1) := by decide +kernel
theorem d_Drw_shows_40 : decode prog_5_method_5_code 40 = .ok (.putfield 151, 3) := by decide +kernel
theorem d_Drw_shows_43 : decode prog_5_method_5_code 43 = .ok (.aload_n 0, 1) := by decide +kernel
theorem d_Drw_shows_44 : decode prog_5_method_5_code 44 = .ok (.getfield 62, 3) := by decide +kernel
theorem d_Drw_shows_47 : decode prog_5_method_5_code 47 = .ok (.getfield 151, 3) := by decide +kernel
theorem d_Drw_shows_50 : decode prog_5_method_5_code 50 = .ok (.ifCond .eq 7, 3) := by decide +kernel
theorem d_Drw_shows_53 : decode prog_5_method_5_code 53 = .ok (.iconst 1, 1) := by decide +kernel
theorem d_Drw_shows_54 : decode prog_5_method_5_code 54 = .ok (.goto 4, 3) := by decide +kernel
theorem d_Drw_shows_57 : decode prog_5_method_5_code 57 = .ok (.iconst 2, 1) := by decide +kernel
theorem d_Drw_shows_58 : decode prog_5_method_5_code 58 = .ok (.istore_n 3, 1) := by decide +kernel
theorem d_Drw_shows_59 : decode prog_5_method_5_code 59 = .ok (.lload_n 1, 1) := by decide +kernel
theorem d_Drw_shows_60 : decode prog_5_method_5_code 60 = .ok (.lconst 0, 1) := by decide +kernel
theorem d_Drw_shows_61 : decode prog_5_method_5_code 61 = .ok (.lcmp, 1) := by decide +kernel
theorem d_Drw_shows_62 : decode prog_5_method_5_code 62 = .ok (.ifCond .eq 20, 3) := by decide +kernel
theorem d_Drw_shows_65 : decode prog_5_method_5_code 65 = .ok (.aload_n 0, 1) := by decide +kernel
theorem d_Drw_shows_66 : decode prog_5_method_5_code 66 = .ok (.getfield 27, 3) := by decide +kernel
theorem d_Drw_shows_69 : decode prog_5_method_5_code 69 = .ok (.sipush 215, 3) := by decide +kernel
theorem d_Drw_shows_72 : decode prog_5_method_5_code 72 = .ok (.iaload, 1) := by decide +kernel
theorem d_Drw_shows_73 : decode prog_5_method_5_code 73 = .ok (.iload_n 3, 1) := by decide +kernel
theorem d_Drw_shows_74 : decode prog_5_method_5_code 74 = .ok (.iand, 1) := by decide +kernel
theorem d_Drw_shows_75 : decode prog_5_method_5_code 75 = .ok (.ifCond .ne 7, 3) := by decide +kernel
theorem d_Drw_shows_78 : decode prog_5_method_5_code 78 = .ok (.iconst 1, 1) := by decide +kernel
theorem d_Drw_shows_79 : decode prog_5_method_5_code 79 = .ok (.goto 4, 3) := by decide +kernel
theorem d_Drw_shows_82 : decode prog_5_method_5_code 82 = .ok (.iconst 0, 1) := by decide +kernel
theorem d_Drw_shows_83 : decode prog_5_method_5_code 83 = .ok (.ireturn, 1) := by decide +kernel
def F_Drw_shows_83 (σ : Sg) (s0 : Int32) : Option (Sg × Int32) := ck (s0 = 0 ∨ s0 = 1) (some (σ, s0))
set_option maxRecDepth 10000 in
set_option maxHeartbeats 4000000 in
theorem bt_Drw_shows_83 {p : Program} {l : Launch} {e : Env} {R : Room} {s : State} {m : MethodId} {args : Array Value} {below : List Frame} {meth : Method} {c : Code} {D : va_G} {τ : ClassId × ClassId × ClassId} {B : Nat} {A : Nat → Prop} {ad : Nat → Nat} (E : Cx p R s m args meth c prog_5_method_5_code 4 "DrawingMachine$Drawing" 0 D τ B A) (hret : meth.sig.returnType = (some .boolean)) (o : Sg × Int32) (σ : Sg) (s0 : Int32) (h : F_Drw_shows_83 σ s0 = some o) {H : Heap} {locs : List Loc} {ls : Array Slot} (w : Wd s D A (wdC τ σ ad) H locs) (hl : lv_has ls 4 []) : W p l e R s m args below meth c H locs 0 0 (QI below args s A D τ (wdC τ o.1 ad) o.2) (F0 m 83 ls [.int s0]) := by
  obtain ⟨c4, h⟩ := ck_some h
  obtain rfl := Option.some.inj h
  exact rt_z E w hret c4 d_Drw_shows_83
def F_Drw_shows_82 (σ : Sg) : Option (Sg × Int32) := F_Drw_shows_83 σ 0
set_option maxRecDepth 10000 in
set_option maxHeartbeats 4000000 in
theorem bt_Drw_shows_82 {p : Program} {l : Launch} {e : Env} {R : Room} {s : State} {m : MethodId} {args : Array Value} {below : List Frame} {meth : Method} {c : Code} {D : va_G} {τ : ClassId × ClassId × ClassId} {B : Nat} {A : Nat → Prop} {ad : Nat → Nat} (E : Cx p R s m args meth c prog_5_method_5_code 4 "DrawingMachine$Drawing" 0 D τ B A) (hret : meth.sig.returnType = (some .boolean)) (o : Sg × Int32) (σ : Sg) (h : F_Drw_shows_82 σ = some o) {H : Heap} {locs : List Loc} {ls : Array Slot} (w : Wd s D A (wdC τ σ ad) H locs) (hl : lv_has ls 4 []) : W p l e R s m args below meth c H locs 0 0 (QI below args s A D τ (wdC τ o.1 ad) o.2) (F0 m 82 ls []) := by
  refine lv_iconst (v := 0) E.x E.b d_Drw_shows_82 (by decide) ?_
  exact bt_Drw_shows_83 E hret o σ 0 h w (lv_sub hl [] rfl)
def F_Drw_shows_58 (σ : Sg) (v1 : Int64) (s0 : Int32) : Option (Sg × Int32) := if v1 = 0 then (F_Drw_shows_82 σ) else (if ((σ.2.2.1 1 215) &&& s0) = 0 then (F_Drw_shows_83 σ 1) else (F_Drw_shows_82 σ))
set_option maxRecDepth 10000 in
set_option maxHeartbeats 4000000 in
theorem bt_Drw_shows_58 {p : Program} {l : Launch} {e : Env} {R : Room} {s : State} {m : MethodId} {args : Array Value} {below : List Frame} {meth : Method} {c : Code} {D : va_G} {τ : ClassId × ClassId × ClassId} {B : Nat} {A : Nat → Prop} {ad : Nat → Nat} (E : Cx p R s m args meth c prog_5_method_5_code 4 "DrawingMachine$Drawing" 0 D τ B A) (hret : meth.sig.returnType = (some .boolean)) (o : Sg × Int32) (σ : Sg) (v1 : Int64) (s0 : Int32) (h : F_Drw_shows_58 σ v1 s0 = some o) {H : Heap} {locs : List Loc} {ls : Array Slot} (w : Wd s D A (wdC τ σ ad) H locs) (hl : lv_has ls 4 [(0, .ref (ad 61)), (1, .long v1)]) : W p l e R s m args below meth c H locs 0 0 (QI below args s A D τ (wdC τ o.1 ad) o.2) (F0 m 58 ls [.int s0]) := by
  refine lv_istore_n (lv' := [(3, .int s0), (0, .ref (ad 61)), (1, .long v1)]) E.x E.b d_Drw_shows_58 rfl hl (by decide) rfl (fun ls hl => ?_)
  refine lv_lload_n E.x E.b d_Drw_shows_59 rfl (lv_at hl 2 rfl) ?_
  refine lv_lconst (v := 0) E.x E.b d_Drw_shows_60 (by decide) ?_
  refine W.lcmp E.x E.b d_Drw_shows_61 ?_
  refine lv_if_eq (tgt := 82) E.x E.b d_Drw_shows_62 (by decide) (fun c => ?_) (fun c => ?_)
  ·
    replace h := ifT (lgc_eq.mp c) h
    exact bt_Drw_shows_82 E hret o σ h w (lv_sub hl [] rfl)
  ·
    replace h := ifF (fun h9 => c (lgc_eq.mpr h9)) h
    refine lv_aload_n E.x E.b d_Drw_shows_65 rfl (lv_at hl 1 rfl) ?_
    refine gC_Drw_kept E w k379 d_Drw_shows_66 ?_
    refine lv_sipush (v := 215) E.x E.b d_Drw_shows_69 (by decide) ?_
    refine ialC E w (k := 1) (by decide) (show inb 215 245 by decide) d_Drw_shows_72 ?_
    refine wi_e (v := σ.2.2.1 1 215) rfl ?_
    refine lv_iload_n E.x E.b d_Drw_shows_73 rfl (lv_at hl 0 rfl) ?_
    refine lv_iand E.x E.b d_Drw_shows_74 ?_
    refine lv_if_ne (tgt := 82) E.x E.b d_Drw_shows_75 (by decide) (fun c => ?_) (fun c => ?_)
    ·
      replace h := ifF c h
      exact bt_Drw_shows_82 E hret o σ h w (lv_sub hl [] rfl)
    ·
      replace h := ifT c h
      refine lv_iconst (v := 1) E.x E.b d_Drw_shows_78 (by decide) ?_
      refine lv_goto (tgt := 83) E.x E.b d_Drw_shows_79 (by decide) ?_
      exact bt_Drw_shows_83 E hret o σ 1 h w (lv_sub hl [] rfl)
def F_Drw_shows_40 (σ : Sg) (v1 : Int64) (s1 : Int32) : Option (Sg × Int32) := ck (s1 = 0 ∨ s1 = 1) (lt (sI σ 17 s1) (fun σ6 => if (σ6.1 17) = 0 then (F_Drw_shows_58 σ6 v1 2) else (F_Drw_shows_58 σ6 v1 1)))
set_option maxRecDepth 10000 in
set_option maxHeartbeats 4000000 in
theorem bt_Drw_shows_40 {p : Program} {l : Launch} {e : Env} {R : Room} {s : State} {m : MethodId} {args : Array Value} {below : List Frame} {meth : Method} {c : Code} {D : va_G} {τ : ClassId × ClassId × ClassId} {B : Nat} {A : Nat → Prop} {ad : Nat → Nat} (E : Cx p R s m args meth c prog_5_method_5_code 4 "DrawingMachine$Drawing" 0 D τ B A) (hret : meth.sig.returnType = (some .boolean)) (o : Sg × Int32) (σ : Sg) (v1 : Int64) (s1 : Int32) (h : F_Drw_shows_40 σ v1 s1 = some o) {H : Heap} {locs : List Loc} {ls : Array Slot} (w : Wd s D A (wdC τ σ ad) H locs) (hl : lv_has ls 4 [(0, .ref (ad 61)), (1, .long v1)]) : W p l e R s m args below meth c H locs 0 0 (QI below args s A D τ (wdC τ o.1 ad) o.2) (F0 m 40 ls [.int s1, .ref (ad 66)]) := by
  obtain ⟨c5, h⟩ := ck_some h
  obtain ⟨σ6, e_σ6, h⟩ := lt_some h
  refine pC_Cov_front E w k323 c5 e_σ6 d_Drw_shows_40 (fun H locs w => ?_)
  refine lv_aload_n E.x E.b d_Drw_shows_43 rfl (lv_at hl 0 rfl) ?_
  refine gC_Drw_covering E w k384 d_Drw_shows_44 ?_
  refine gC_Cov_front E w k323 d_Drw_shows_47 ?_
  refine lv_if_eq (tgt := 57) E.x E.b d_Drw_shows_50 (by decide) (fun c => ?_) (fun c => ?_)
  ·
    replace h := ifT c h
    refine lv_iconst (v := 2) E.x E.b d_Drw_shows_57 (by decide) ?_
    exact bt_Drw_shows_58 E hret o σ6 v1 2 h w (lv_sub hl [0, 1] rfl)
  ·
    replace h := ifF c h
    refine lv_iconst (v := 1) E.x E.b d_Drw_shows_53 (by decide) ?_
    refine lv_goto (tgt := 58) E.x E.b d_Drw_shows_54 (by decide) ?_
    exact bt_Drw_shows_58 E hret o σ6 v1 1 h w (lv_sub hl [0, 1] rfl)
def F_Drw_shows_32 (σ : Sg) (v1 : Int64) (s1 : Int32) (s2 : Int32) : Option (Sg × Int32) := if s1 = s2 then (F_Drw_shows_40 σ v1 0) else (F_Drw_shows_40 σ v1 1)
set_option maxRecDepth 10000 in
set_option maxHeartbeats 4000000 in
theorem bt_Drw_shows_32 {p : Program} {l : Launch} {e : Env} {R : Room} {s : State} {m : MethodId} {args : Array Value} {below : List Frame} {meth : Method} {c : Code} {D : va_G} {τ : ClassId × ClassId × ClassId} {B : Nat} {A : Nat → Prop} {ad : Nat → Nat} (E : Cx p R s m args meth c prog_5_method_5_code 4 "DrawingMachine$Drawing" 0 D τ B A) (hret : meth.sig.returnType = (some .boolean)) (o : Sg × Int32) (σ : Sg) (v1 : Int64) (s1 : Int32) (s2 : Int32) (h : F_Drw_shows_32 σ v1 s1 s2 = some o) {H : Heap} {locs : List Loc} {ls : Array Slot} (w : Wd s D A (wdC τ σ ad) H locs) (hl : lv_has ls 4 [(0, .ref (ad 61)), (1, .long v1)]) : W p l e R s m args below meth c H locs 0 0 (QI below args s A D τ (wdC τ o.1 ad) o.2) (F0 m 32 ls [.int s2, .int s1, .ref (ad 66)]) := by
  refine lv_icmp_eq (tgt := 39) E.x E.b d_Drw_shows_32 (by decide) (fun c => ?_) (fun c => ?_)
  ·
    replace h := ifT c h
    refine lv_iconst (v := 0) E.x E.b d_Drw_shows_39 (by decide) ?_
    exact bt_Drw_shows_40 E hret o σ v1 0 h w (lv_sub hl [0, 1] rfl)
  ·
    replace h := ifF c h
    refine lv_iconst (v := 1) E.x E.b d_Drw_shows_35 (by decide) ?_
    refine lv_goto (tgt := 40) E.x E.b d_Drw_shows_36 (by decide) ?_
    exact bt_Drw_shows_40 E hret o σ v1 1 h w (lv_sub hl [0, 1] rfl)
def F_Drw_shows_15 (σ : Sg) (v1 : Int64) (s1 : Int32) : Option (Sg × Int32) := if (σ.2.2.1 1 216) = 1 then (F_Drw_shows_32 σ v1 s1 1) else (F_Drw_shows_32 σ v1 s1 0)
set_option maxRecDepth 10000 in
set_option maxHeartbeats 4000000 in
theorem bt_Drw_shows_15 {p : Program} {l : Launch} {e : Env} {R : Room} {s : State} {m : MethodId} {args : Array Value} {below : List Frame} {meth : Method} {c : Code} {D : va_G} {τ : ClassId × ClassId × ClassId} {B : Nat} {A : Nat → Prop} {ad : Nat → Nat} (E : Cx p R s m args meth c prog_5_method_5_code 4 "DrawingMachine$Drawing" 0 D τ B A) (hret : meth.sig.returnType = (some .boolean)) (o : Sg × Int32) (σ : Sg) (v1 : Int64) (s1 : Int32) (h : F_Drw_shows_15 σ v1 s1 = some o) {H : Heap} {locs : List Loc} {ls : Array Slot} (w : Wd s D A (wdC τ σ ad) H locs) (hl : lv_has ls 4 [(0, .ref (ad 61)), (1, .long v1)]) : W p l e R s m args below meth c H locs 0 0 (QI below args s A D τ (wdC τ o.1 ad) o.2) (F0 m 15 ls [.int s1, .ref (ad 66)]) := by
  refine lv_aload_n E.x E.b d_Drw_shows_15 rfl (lv_at hl 0 rfl) ?_
  refine gC_Drw_kept E w k379 d_Drw_shows_16 ?_
  refine lv_sipush (v := 216) E.x E.b d_Drw_shows_19 (by decide) ?_
  refine ialC E w (k := 1) (by decide) (show inb 216 245 by decide) d_Drw_shows_22 ?_
  refine wi_e (v := σ.2.2.1 1 216) rfl ?_
  refine lv_iconst (v := 1) E.x E.b d_Drw_shows_23 (by decide) ?_
  refine lv_icmp_ne (tgt := 31) E.x E.b d_Drw_shows_24 (by decide) (fun c => ?_) (fun c => ?_)
  ·
    replace h := ifF c h
    refine lv_iconst (v := 0) E.x E.b d_Drw_shows_31 (by decide) ?_
    exact bt_Drw_shows_32 E hret o σ v1 s1 0 h w (lv_sub hl [0, 1] rfl)
  ·
    replace h := ifT c h
    refine lv_iconst (v := 1) E.x E.b d_Drw_shows_27 (by decide) ?_
    refine lv_goto (tgt := 32) E.x E.b d_Drw_shows_28 (by decide) ?_
    exact bt_Drw_shows_32 E hret o σ v1 s1 1 h w (lv_sub hl [0, 1] rfl)
def F_Drw_shows (σ : Sg) (x0 : Int64) : Option (Sg × Int32) := if x0 ≤ 0 then (F_Drw_shows_15 σ x0 0) else (F_Drw_shows_15 σ x0 1)
set_option maxRecDepth 10000 in
set_option maxHeartbeats 4000000 in
theorem c_Drw_shows (l : Launch) (D : va_G) (τ : ClassId × ClassId × ClassId) (B : Nat) (σ : Sg) (ad : Nat → Nat) (x0 : Int64) (o : Sg × Int32) (h : F_Drw_shows σ x0 = some o) : MI l y_Drw_shows (Cond.code y_Drw_shows prog_5_method_5_code 4 (some .boolean)) 0 D τ B [.ref (ad 61), .long x0] (wdC τ σ ad) (wdC τ o.1 ad) o.2 := by
  refine en_i (by decide) (Nat.le_of_ble_eq_true rfl) ?_
  intro p e R s m args below meth c H locs ls A E hret w hl
  have E : Cx p R s m args meth c prog_5_method_5_code 4 "DrawingMachine$Drawing" 0 D τ B A := E
  have hl : lv_has ls 4 [(0, .ref (ad 61)), (1, .long x0)] := hl
  refine lv_aload_n E.x E.b d_Drw_shows_0 rfl (lv_at hl 0 rfl) ?_
  refine gC_Drw_covering E w k384 d_Drw_shows_1 ?_
  refine lv_lload_n E.x E.b d_Drw_shows_4 rfl (lv_at hl 1 rfl) ?_
  refine lv_lconst (v := 0) E.x E.b d_Drw_shows_5 (by decide) ?_
  refine W.lcmp E.x E.b d_Drw_shows_6 ?_
  refine lv_if_le (tgt := 14) E.x E.b d_Drw_shows_7 (by decide) (fun c => ?_) (fun c => ?_)
  ·
    replace h := ifT (lgc_le.mp c) h
    refine lv_iconst (v := 0) E.x E.b d_Drw_shows_14 (by decide) ?_
    exact bt_Drw_shows_15 E hret o σ x0 0 h w (lv_sub hl [0, 1] rfl)
  ·
    replace h := ifF (fun h9 => c (lgc_le.mpr h9)) h
    refine lv_iconst (v := 1) E.x E.b d_Drw_shows_10 (by decide) ?_
    refine lv_goto (tgt := 15) E.x E.b d_Drw_shows_11 (by decide) ?_
    exact bt_Drw_shows_15 E hret o σ x0 1 h w (lv_sub hl [0, 1] rfl)
theorem clV_Drw_shows {p : Program} {l : Launch} {e : Env} {R : Room} {s : State} {m : MethodId} {args : Array Value} {below : List Frame} {meth : Method} {c : Code} {H : Heap} {locs : List Loc} {Q : State → Prop} {cc : ByteArray} {nL pc lev : Nat} {own : String} {D : va_G} {τ : ClassId × ClassId × ClassId} {B : Nat} {A : Nat → Prop} {σ : Sg} {ad : Nat → Nat} {ls : Array Slot} {rest : List Value} (E : Cx p R s m args meth c cc nL own lev D τ B A) (w : Wd s D A (wdC τ σ ad) H locs) {x0 : Int64} {o : Sg × Int32} (h : F_Drw_shows σ x0 = some o) {index : Nat} (hlk : Cond.methodLink own index y_Drw_shows ∈ tw) (hlev : 0 < lev) (hsz : ls.size = nL) (hr : (rest.map fun v => v.category).sum ≤ 8) (hd : decode cc pc = .ok (.invokevirtual index, 3)) (kk : ∀ (H1 : Heap) (locs1 : List Loc), Wd s D A (wdC τ o.1 ad) H1 locs1 → W p l e R s m args below meth c H1 locs1 0 0 Q (F0 m (pc + 3) ls (.int o.2 :: rest))) : W p l e R s m args below meth c H locs 0 0 Q (F0 m pc ls (.long x0 :: .ref (ad 61) :: rest)) :=
  cr_i w E.C (va_runV (As := [.long x0]) (rest := rest) E.fix (c_Drw_shows l D τ B σ ad x0 o h H.size) (cwV 1 E.w (tw_pre (tw_good k1182) (l := [_, _, _, _]) (List.forall_mem_cons.mpr ⟨hlk, List.forall_mem_cons.mpr ⟨k1181, List.forall_mem_cons.mpr ⟨ks24, List.forall_mem_cons.mpr ⟨k7, fun _ h => absurd h List.not_mem_nil⟩⟩⟩⟩)) rfl rfl rfl (by decide +kernel) (E.rm hlev (by decide))) (wd_preV w E.C [.long x0] rcC_Drw rfl) rfl rfl hsz rfl (lv_room hr) hd ⟨Nat.zero_le _, Nat.zero_le _⟩) kk

theorem d_Ver_index_0 : decode prog_12_method_4_code 0 = .ok (.iload_n 2, 1) := by decide +kernel
theorem d_Ver_index_1 : decode prog_12_method_4_code 1 = .ok (.lookupswitch 63 #[(0, 27), (1, 39)], 27) := by decide +kernel
theorem d_Ver_index_28 : decode prog_12_method_4_code 28 = .ok (.aload_n 0, 1) := by decide +kernel
theorem d_Ver_index_29 : decode prog_12_method_4_code 29 = .ok (.getfield 9, 3) := by decide +kernel
theorem d_Ver_index_32 : decode prog_12_method_4_code 32 = .ok (.iload_n 1, 1) := by decide +kernel
theorem d_Ver_index_33 : decode prog_12_method_4_code 33 = .ok (.iload_n 3, 1) := by decide +kernel
theorem d_Ver_index_34 : decode prog_12_method_4_code 34 = .ok (.iadd, 1) := by decide +kernel
theorem d_Ver_index_35 : decode prog_12_method_4_code 35 = .ok (.i2l, 1) := by decide +kernel
theorem d_Ver_index_36 : decode prog_12_method_4_code 36 = .ok (.invokestatic 27, 3) := by decide +kernel
theorem d_Ver_index_39 : decode prog_12_method_4_code 39 = .ok (.ireturn, 1) := by decide +kernel
theorem d_Ver_index_40 : decode prog_12_method_4_code 40 = .ok (.aload_n 0, 1) := by decide +kernel
theorem d_Ver_index_41 : decode prog_12_method_4_code 41 = .ok (.getfield 9, 3) := by decide +kernel
theorem d_Ver_index_44 : decode prog_12_method_4_code 44 = .ok (.iload_n 1, 1) := by decide +kernel
theorem d_Ver_index_45 : decode prog_12_method_4_code 45 = .ok (.iload_n 3, 1) := by decide +kernel
theorem d_Ver_index_46 : decode prog_12_method_4_code 46 = .ok (.iconst 2, 1) := by decide +kernel
theorem d_Ver_index_47 : decode prog_12_method_4_code 47 = .ok (.idiv, 1) := by decide +kernel
theorem d_Ver_index_48 : decode prog_12_method_4_code 48 = .ok (.iadd, 1) := by decide +kernel
theorem d_Ver_index_49 : decode prog_12_method_4_code 49 = .ok (.i2l, 1) := by decide +kernel
theorem d_Ver_index_50 : decode prog_12_method_4_code 50 = .ok (.invokestatic 27, 3) := by decide +kernel
theorem d_Ver_index_53 : decode prog_12_method_4_code 53 = .ok (.bipush 16, 2) := by decide +kernel
theorem d_Ver_index_55 : decode prog_12_method_4_code 55 = .ok (.iload_n 3, 1) := by decide +kernel
theorem d_Ver_index_56 : decode prog_12_method_4_code 56 = .ok (.iconst 2, 1) := by decide +kernel
theorem d_Ver_index_57 : decode prog_12_method_4_code 57 = .ok (.irem, 1) := by decide +kernel
theorem d_Ver_index_58 : decode prog_12_method_4_code 58 = .ok (.imul, 1) := by decide +kernel
theorem d_Ver_index_59 : decode prog_12_method_4_code 59 = .ok (.iushr, 1) := by decide +kernel
theorem d_Ver_index_60 : decode prog_12_method_4_code 60 = .ok (.ldc 31, 2) := by decide +kernel
theorem d_Ver_index_62 : decode prog_12_method_4_code 62 = .ok (.iand, 1) := by decide +kernel
theorem d_Ver_index_63 : decode prog_12_method_4_code 63 = .ok (.ireturn, 1) := by decide +kernel
theorem d_Ver_index_64 : decode prog_12_method_4_code 64 = .ok (.aload_n 0, 1) := by decide +kernel
theorem d_Ver_index_65 : decode prog_12_method_4_code 65 = .ok (.getfield 9, 3) := by decide +kernel
theorem d_Ver_index_68 : decode prog_12_method_4_code 68 = .ok (.iload_n 1, 1) := by decide +kernel
theorem d_Ver_index_69 : decode prog_12_method_4_code 69 = .ok (.iload_n 3, 1) := by decide +kernel
theorem d_Ver_index_70 : decode prog_12_method_4_code 70 = .ok (.iconst 4, 1) := by decide +kernel
theorem d_Ver_index_71 : decode prog_12_method_4_code 71 = .ok (.idiv, 1) := by decide +kernel
theorem d_Ver_index_72 : decode prog_12_method_4_code 72 = .ok (.iadd, 1) := by decide +kernel
theorem d_Ver_index_73 : decode prog_12_method_4_code 73 = .ok (.i2l, 1) := by decide +kernel
theorem d_Ver_index_74 : decode prog_12_method_4_code 74 = .ok (.invokestatic 27, 3) := by decide +kernel
theorem d_Ver_index_77 : decode prog_12_method_4_code 77 = .ok (.bipush 8, 2) := by decide +kernel
theorem d_Ver_index_79 : decode prog_12_method_4_code 79 = .ok (.iload_n 3, 1) := by decide +kernel
theorem d_Ver_index_80 : decode prog_12_method_4_code 80 = .ok (.iconst 4, 1) := by decide +kernel
theorem d_Ver_index_81 : decode prog_12_method_4_code 81 = .ok (.irem, 1) := by decide +kernel
theorem d_Ver_index_82 : decode prog_12_method_4_code 82 = .ok (.imul, 1) := by decide +kernel
theorem d_Ver_index_83 : decode prog_12_method_4_code 83 = .ok (.iushr, 1) := by decide +kernel
theorem d_Ver_index_84 : decode prog_12_method_4_code 84 = .ok (.sipush 255, 3) := by decide +kernel
theorem d_Ver_index_87 : decode prog_12_method_4_code 87 = .ok (.iand, 1) := by decide +kernel
theorem d_Ver_index_88 : decode prog_12_method_4_code 88 = .ok (.ireturn, 1) := by decide +kernel
def F_Ver_index (σ : Sg) (x0 : Int32) (x1 : Int32) (x2 : Int32) : Option (Int32) := if x1 = 0 then (bd (F_DM_wordOf σ 0 ((x0 + x2).toInt64)) (fun o7 => some o7)) else (if x1 = 1 then (bd (F_DM_wordOf σ 0 ((x0 + (x2 / 2)).toInt64)) (fun o9 => some ((ushr o9 (16 * (irem x2 2))) &&& 65535))) else (bd (F_DM_wordOf σ 0 ((x0 + (x2 / 4)).toInt64)) (fun o10 => some ((ushr o10 (8 * (irem x2 4))) &&& 255))))
set_option maxRecDepth 10000 in
set_option maxHeartbeats 4000000 in
theorem c_Ver_index (l : Launch) (D : va_G) (τ : ClassId × ClassId × ClassId) (B : Nat) (σ : Sg) (ad : Nat → Nat) (x0 : Int32) (x1 : Int32) (x2 : Int32) (o : Int32) (h : F_Ver_index σ x0 x1 x2 = some o) : MI l y_Ver_index (Cond.code y_Ver_index prog_12_method_4_code 4 (some .int)) 1 D τ B [.ref (ad 64), .int x0, .int x1, .int x2] (wdC τ σ ad) (wdC τ σ ad) o := by
  refine en_i (by decide) (Nat.le_of_ble_eq_true rfl) ?_
  intro p e R s m args below meth c H locs ls A E hret w hl
  have E : Cx p R s m args meth c prog_12_method_4_code 4 "DrawingMachine$Vertices" 1 D τ B A := E
  have hl : lv_has ls 4 [(0, .ref (ad 64)), (1, .int x0), (2, .int x1), (3, .int x2)] := hl
  refine lv_iload_n E.x E.b d_Ver_index_0 rfl (lv_at hl 2 rfl) ?_
  by_cases q6 : x1 = 0
  ·
    replace h := ifT q6 h
    refine wi_e (v := 0) q6 ?_
    refine lv_lookup (off := 27) (tgt := 28) E.x E.b d_Ver_index_1 (by decide) (by decide) (by decide) ?_
    refine lv_aload_n E.x E.b d_Ver_index_28 rfl (lv_at hl 0 rfl) ?_
    refine gC_Ver_memory E w k271 d_Ver_index_29 ?_
    refine lv_iload_n E.x E.b d_Ver_index_32 rfl (lv_at hl 1 rfl) ?_
    refine lv_iload_n E.x E.b d_Ver_index_33 rfl (lv_at hl 3 rfl) ?_
    refine lv_iadd E.x E.b d_Ver_index_34 ?_
    refine lv_i2l (v := (x0 + x2).toInt64) E.x E.b d_Ver_index_35 rfl ?_
    obtain ⟨o7, h_o7, h⟩ := bd_some h
    refine clSN_DM_wordOf E w (ar0 := 0) (x1 := ((x0 + x2).toInt64)) h_o7 n1002 (by decide) hl.1 (Nat.le_of_ble_eq_true rfl) d_Ver_index_36 (fun H locs w => ?_)
    obtain rfl := Option.some.inj h
    exact rt_i E w hret d_Ver_index_39
  replace h := ifF q6 h
  replace q6 := ne_ti (k := 0) (by decide) q6
  by_cases q8 : x1 = 1
  ·
    replace h := ifT q8 h
    refine wi_e (v := 1) q8 ?_
    refine lv_lookup (off := 39) (tgt := 40) E.x E.b d_Ver_index_1 (by decide) (by decide) (by decide) ?_
    refine lv_aload_n E.x E.b d_Ver_index_40 rfl (lv_at hl 0 rfl) ?_
    refine gC_Ver_memory E w k271 d_Ver_index_41 ?_
    refine lv_iload_n E.x E.b d_Ver_index_44 rfl (lv_at hl 1 rfl) ?_
    refine lv_iload_n E.x E.b d_Ver_index_45 rfl (lv_at hl 3 rfl) ?_
    refine lv_iconst (v := 2) E.x E.b d_Ver_index_46 (by decide) ?_
    refine lv_idiv E.x E.b d_Ver_index_47 (by decide) ?_
    refine lv_iadd E.x E.b d_Ver_index_48 ?_
    refine lv_i2l (v := (x0 + (x2 / 2)).toInt64) E.x E.b d_Ver_index_49 rfl ?_
    obtain ⟨o9, h_o9, h⟩ := bd_some h
    refine clSN_DM_wordOf E w (ar0 := 0) (x1 := ((x0 + (x2 / 2)).toInt64)) h_o9 n1002 (by decide) hl.1 (Nat.le_of_ble_eq_true rfl) d_Ver_index_50 (fun H locs w => ?_)
    refine lv_bipush (v := 16) E.x E.b d_Ver_index_53 (by decide) ?_
    refine lv_iload_n E.x E.b d_Ver_index_55 rfl (lv_at hl 3 rfl) ?_
    refine lv_iconst (v := 2) E.x E.b d_Ver_index_56 (by decide) ?_
    refine lv_irem E.x E.b d_Ver_index_57 (by decide) ?_
    refine wi_e (v := irem x2 2) rfl ?_
    refine lv_imul E.x E.b d_Ver_index_58 ?_
    refine lv_iushr (v := ushr o9 (16 * (irem x2 2))) E.x E.b d_Ver_index_59 rfl ?_
    refine lv_ldc (v := 65535) E.x E.b E.o (E.w _ k1006) d_Ver_index_60 ?_
    refine lv_iand E.x E.b d_Ver_index_62 ?_
    obtain rfl := Option.some.inj h
    exact rt_i E w hret d_Ver_index_63
  replace h := ifF q8 h
  replace q8 := ne_ti (k := 1) (by decide) q8
  refine lv_lookup (off := 63) (tgt := 64) E.x E.b d_Ver_index_1 (by decide) (by simp [Op.lookupswitch.offset, Ne.symm q6, Ne.symm q8]) (by decide) ?_
  refine lv_aload_n E.x E.b d_Ver_index_64 rfl (lv_at hl 0 rfl) ?_
  refine gC_Ver_memory E w k271 d_Ver_index_65 ?_
  refine lv_iload_n E.x E.b d_Ver_index_68 rfl (lv_at hl 1 rfl) ?_
  refine lv_iload_n E.x E.b d_Ver_index_69 rfl (lv_at hl 3 rfl) ?_
  refine lv_iconst (v := 4) E.x E.b d_Ver_index_70 (by decide) ?_
  refine lv_idiv E.x E.b d_Ver_index_71 (by decide) ?_
  refine lv_iadd E.x E.b d_Ver_index_72 ?_
  refine lv_i2l (v := (x0 + (x2 / 4)).toInt64) E.x E.b d_Ver_index_73 rfl ?_
  obtain ⟨o10, h_o10, h⟩ := bd_some h
  refine clSN_DM_wordOf E w (ar0 := 0) (x1 := ((x0 + (x2 / 4)).toInt64)) h_o10 n1002 (by decide) hl.1 (Nat.le_of_ble_eq_true rfl) d_Ver_index_74 (fun H locs w => ?_)
  refine lv_bipush (v := 8) E.x E.b d_Ver_index_77 (by decide) ?_
  refine lv_iload_n E.x E.b d_Ver_index_79 rfl (lv_at hl 3 rfl) ?_
  refine lv_iconst (v := 4) E.x E.b d_Ver_index_80 (by decide) ?_
  refine lv_irem E.x E.b d_Ver_index_81 (by decide) ?_
  refine wi_e (v := irem x2 4) rfl ?_
  refine lv_imul E.x E.b d_Ver_index_82 ?_
  refine lv_iushr (v := ushr o10 (8 * (irem x2 4))) E.x E.b d_Ver_index_83 rfl ?_
  refine lv_sipush (v := 255) E.x E.b d_Ver_index_84 (by decide) ?_
  refine lv_iand E.x E.b d_Ver_index_87 ?_
  obtain rfl := Option.some.inj h
  exact rt_i E w hret d_Ver_index_88
theorem clV_Ver_index {p : Program} {l : Launch} {e : Env} {R : Room} {s : State} {m : MethodId} {args : Array Value} {below : List Frame} {meth : Method} {c : Code} {H : Heap} {locs : List Loc} {Q : State → Prop} {cc : ByteArray} {nL pc lev : Nat} {own : String} {D : va_G} {τ : ClassId × ClassId × ClassId} {B : Nat} {A : Nat → Prop} {σ : Sg} {ad : Nat → Nat} {ls : Array Slot} {rest : List Value} (E : Cx p R s m args meth c cc nL own lev D τ B A) (w : Wd s D A (wdC τ σ ad) H locs) {x0 : Int32} {x1 : Int32} {x2 : Int32} {o : Int32} (h : F_Ver_index σ x0 x1 x2 = some o) {index : Nat} (hlk : Cond.methodLink own index y_Ver_index ∈ tw) (hlev : 1 < lev) (hsz : ls.size = nL) (hr : (rest.map fun v => v.category).sum ≤ 8) (hd : decode cc pc = .ok (.invokevirtual index, 3)) (kk : ∀ (H1 : Heap) (locs1 : List Loc), Wd s D A (wdC τ σ ad) H1 locs1 → W p l e R s m args below meth c H1 locs1 0 0 Q (F0 m (pc + 3) ls (.int o :: rest))) : W p l e R s m args below meth c H locs 0 0 Q (F0 m pc ls (.int x2 :: .int x1 :: .int x0 :: .ref (ad 64) :: rest)) :=
  cr_i w E.C (va_runV (As := [.int x0, .int x1, .int x2]) (rest := rest) E.fix (c_Ver_index l D τ B σ ad x0 x1 x2 o h H.size) (cwV 3 E.w (tw_pre (tw_good k1001) (l := [_, _, _, _]) (List.forall_mem_cons.mpr ⟨hlk, List.forall_mem_cons.mpr ⟨k999, List.forall_mem_cons.mpr ⟨k1000, List.forall_mem_cons.mpr ⟨k10, fun _ h => absurd h List.not_mem_nil⟩⟩⟩⟩)) rfl rfl rfl (by decide +kernel) (E.rm hlev (by decide))) (wd_preV w E.C [.int x0, .int x1, .int x2] rcC_Ver rfl) rfl rfl hsz rfl (lv_room hr) hd ⟨Nat.zero_le _, Nat.zero_le _⟩) kk

theorem d_Drw_vertexOf_0 : decode prog_5_method_4_code 0 = .ok (.aload_n 1, 1) := by decide +kernel
theorem d_Drw_vertexOf_1 : decode prog_5_method_4_code 1 = .ok (.getfield 66, 3) := by decide +kernel
theorem d_Drw_vertexOf_4 : decode prog_5_method_4_code 4 = .ok (.astore_n 3, 1) := by decide +kernel
theorem d_Drw_vertexOf_5 : decode prog_5_method_4_code 5 = .ok (.aload_n 1, 1) := by decide +kernel
theorem d_Drw_vertexOf_6 : decode prog_5_method_4_code 6 = .ok (.getfield 145, 3) := by decide +kernel
theorem d_Drw_vertexOf_9 : decode prog_5_method_4_code 9 = .ok (.bipush 17, 2) := by decide +kernel
theorem d_Drw_vertexOf_11 : decode prog_5_method_4_code 11 = .ok (.if_icmp .ne 9, 3) := by decide +kernel
theorem d_Drw_vertexOf_14 : decode prog_5_method_4_code 14 = .ok (.aload_n 3, 1) := by decide +kernel
theorem d_Drw_vertexOf_15 : decode prog_5_method_4_code 15 = .ok (.iconst 1, 1) := by decide +kernel
theorem d_Drw_vertexOf_16 : decode prog_5_method_4_code 16 = .ok (.iaload, 1) := by decide +kernel
theorem d_Drw_vertexOf_17 : decode prog_5_method_4_code 17 = .ok (.iload_n 2, 1) := by decide +kernel
theorem d_Drw_vertexOf_18 : decode prog_5_method_4_code 18 = .ok (.iadd, 1) := by decide +kernel
theorem d_Drw_vertexOf_19 : decode prog_5_method_4_code 19 = .ok (.ireturn, 1) := by decide +kernel
theorem d_Drw_vertexOf_20 : decode prog_5_method_4_code 20 = .ok (.aload_n 3, 1) := by decide +kernel
theorem d_Drw_vertexOf_21 : decode prog_5_method_4_code 21 = .ok (.iconst 4, 1) := by decide +kernel
theorem d_Drw_vertexOf_22 : decode prog_5_method_4_code 22 = .ok (.iaload, 1) := by decide +kernel
theorem d_Drw_vertexOf_23 : decode prog_5_method_4_code 23 = .ok (.aload_n 0, 1) := by decide +kernel
theorem d_Drw_vertexOf_24 : decode prog_5_method_4_code 24 = .ok (.getfield 44, 3) := by decide +kernel
theorem d_Drw_vertexOf_27 : decode prog_5_method_4_code 27 = .ok (.aload_n 3, 1) := by decide +kernel
theorem d_Drw_vertexOf_28 : decode prog_5_method_4_code 28 = .ok (.iconst 1, 1) := by decide +kernel
theorem d_Drw_vertexOf_29 : decode prog_5_method_4_code 29 = .ok (.iaload, 1) := by decide +kernel
theorem d_Drw_vertexOf_30 : decode prog_5_method_4_code 30 = .ok (.aload_n 3, 1) := by decide +kernel
theorem d_Drw_vertexOf_31 : decode prog_5_method_4_code 31 = .ok (.iconst 3, 1) := by decide +kernel
theorem d_Drw_vertexOf_32 : decode prog_5_method_4_code 32 = .ok (.iaload, 1) := by decide +kernel
theorem d_Drw_vertexOf_33 : decode prog_5_method_4_code 33 = .ok (.iload_n 2, 1) := by decide +kernel
theorem d_Drw_vertexOf_34 : decode prog_5_method_4_code 34 = .ok (.invokevirtual 148, 3) := by decide +kernel
theorem d_Drw_vertexOf_37 : decode prog_5_method_4_code 37 = .ok (.iadd, 1) := by decide +kernel
theorem d_Drw_vertexOf_38 : decode prog_5_method_4_code 38 = .ok (.ireturn, 1) := by decide +kernel
def F_Drw_vertexOf (σ : Sg) (x1 : Int32) : Option (Int32) := if (σ.1 3) = 17 then (some ((σ.2.2.1 5 1) + x1)) else (bd (F_Ver_index σ (σ.2.2.1 5 1) (σ.2.2.1 5 3) x1) (fun o2 => some ((σ.2.2.1 5 4) + o2)))
set_option maxRecDepth 10000 in
set_option maxHeartbeats 4000000 in
theorem c_Drw_vertexOf (l : Launch) (D : va_G) (τ : ClassId × ClassId × ClassId) (B : Nat) (σ : Sg) (ad : Nat → Nat) (x1 : Int32) (o : Int32) (h : F_Drw_vertexOf σ x1 = some o) : MI l y_Drw_vertexOf (Cond.code y_Drw_vertexOf prog_5_method_4_code 4 (some .int)) 2 D τ B [.ref (ad 61), .ref (ad 59), .int x1] (wdC τ σ ad) (wdC τ σ ad) o := by
  refine en_i (by decide) (Nat.le_of_ble_eq_true rfl) ?_
  intro p e R s m args below meth c H locs ls A E hret w hl
  have E : Cx p R s m args meth c prog_5_method_4_code 4 "DrawingMachine$Drawing" 2 D τ B A := E
  have hl : lv_has ls 4 [(0, .ref (ad 61)), (1, .ref (ad 59)), (2, .int x1)] := hl
  refine lv_aload_n E.x E.b d_Drw_vertexOf_0 rfl (lv_at hl 1 rfl) ?_
  refine gC_Cou_given E w k111 d_Drw_vertexOf_1 ?_
  refine lv_astore_n (lv' := [(3, .ref (ad 5)), (0, .ref (ad 61)), (1, .ref (ad 59)), (2, .int x1)]) E.x E.b d_Drw_vertexOf_4 rfl hl (by decide) rfl (fun ls hl => ?_)
  refine lv_aload_n E.x E.b d_Drw_vertexOf_5 rfl (lv_at hl 2 rfl) ?_
  refine gC_Cou_kind E w k115 d_Drw_vertexOf_6 ?_
  refine lv_bipush (v := 17) E.x E.b d_Drw_vertexOf_9 (by decide) ?_
  refine lv_icmp_ne (tgt := 20) E.x E.b d_Drw_vertexOf_11 (by decide) (fun c => ?_) (fun c => ?_)
  ·
    replace h := ifF c h
    refine lv_aload_n E.x E.b d_Drw_vertexOf_20 rfl (lv_at hl 0 rfl) ?_
    refine lv_iconst (v := 4) E.x E.b d_Drw_vertexOf_21 (by decide) ?_
    refine ialC E w (k := 5) (by decide) (show inb 4 8 by decide) d_Drw_vertexOf_22 ?_
    refine wi_e (v := σ.2.2.1 5 4) rfl ?_
    refine lv_aload_n E.x E.b d_Drw_vertexOf_23 rfl (lv_at hl 1 rfl) ?_
    refine gC_Drw_vertices E w k382 d_Drw_vertexOf_24 ?_
    refine lv_aload_n E.x E.b d_Drw_vertexOf_27 rfl (lv_at hl 0 rfl) ?_
    refine lv_iconst (v := 1) E.x E.b d_Drw_vertexOf_28 (by decide) ?_
    refine ialC E w (k := 5) (by decide) (show inb 1 8 by decide) d_Drw_vertexOf_29 ?_
    refine wi_e (v := σ.2.2.1 5 1) rfl ?_
    refine lv_aload_n E.x E.b d_Drw_vertexOf_30 rfl (lv_at hl 0 rfl) ?_
    refine lv_iconst (v := 3) E.x E.b d_Drw_vertexOf_31 (by decide) ?_
    refine ialC E w (k := 5) (by decide) (show inb 3 8 by decide) d_Drw_vertexOf_32 ?_
    refine wi_e (v := σ.2.2.1 5 3) rfl ?_
    refine lv_iload_n E.x E.b d_Drw_vertexOf_33 rfl (lv_at hl 3 rfl) ?_
    obtain ⟨o2, h_o2, h⟩ := bd_some h
    refine clV_Ver_index E w (x0 := (σ.2.2.1 5 1)) (x1 := (σ.2.2.1 5 3)) (x2 := x1) h_o2 k998 (by decide) hl.1 (Nat.le_of_ble_eq_true rfl) d_Drw_vertexOf_34 (fun H locs w => ?_)
    refine lv_iadd E.x E.b d_Drw_vertexOf_37 ?_
    obtain rfl := Option.some.inj h
    exact rt_i E w hret d_Drw_vertexOf_38
  ·
    replace h := ifT c h
    refine lv_aload_n E.x E.b d_Drw_vertexOf_14 rfl (lv_at hl 0 rfl) ?_
    refine lv_iconst (v := 1) E.x E.b d_Drw_vertexOf_15 (by decide) ?_
    refine ialC E w (k := 5) (by decide) (show inb 1 8 by decide) d_Drw_vertexOf_16 ?_
    refine wi_e (v := σ.2.2.1 5 1) rfl ?_
    refine lv_iload_n E.x E.b d_Drw_vertexOf_17 rfl (lv_at hl 3 rfl) ?_
    refine lv_iadd E.x E.b d_Drw_vertexOf_18 ?_
    obtain rfl := Option.some.inj h
    exact rt_i E w hret d_Drw_vertexOf_19
theorem clV_Drw_vertexOf {p : Program} {l : Launch} {e : Env} {R : Room} {s : State} {m : MethodId} {args : Array Value} {below : List Frame} {meth : Method} {c : Code} {H : Heap} {locs : List Loc} {Q : State → Prop} {cc : ByteArray} {nL pc lev : Nat} {own : String} {D : va_G} {τ : ClassId × ClassId × ClassId} {B : Nat} {A : Nat → Prop} {σ : Sg} {ad : Nat → Nat} {ls : Array Slot} {rest : List Value} (E : Cx p R s m args meth c cc nL own lev D τ B A) (w : Wd s D A (wdC τ σ ad) H locs) {x1 : Int32} {o : Int32} (h : F_Drw_vertexOf σ x1 = some o) {index : Nat} (hlk : Cond.methodLink own index y_Drw_vertexOf ∈ tw) (hlev : 2 < lev) (hsz : ls.size = nL) (hr : (rest.map fun v => v.category).sum ≤ 8) (hd : decode cc pc = .ok (.invokevirtual index, 3)) (kk : ∀ (H1 : Heap) (locs1 : List Loc), Wd s D A (wdC τ σ ad) H1 locs1 → W p l e R s m args below meth c H1 locs1 0 0 Q (F0 m (pc + 3) ls (.int o :: rest))) : W p l e R s m args below meth c H locs 0 0 Q (F0 m pc ls (.int x1 :: .ref (ad 59) :: .ref (ad 61) :: rest)) :=
  cr_i w E.C (va_runV (As := [.ref (ad 59), .int x1]) (rest := rest) E.fix (c_Drw_vertexOf l D τ B σ ad x1 o h H.size) (cwV 2 E.w (tw_pre (tw_good k997) (l := [_, _, _, _]) (List.forall_mem_cons.mpr ⟨hlk, List.forall_mem_cons.mpr ⟨k996, List.forall_mem_cons.mpr ⟨ks9, List.forall_mem_cons.mpr ⟨k7, fun _ h => absurd h List.not_mem_nil⟩⟩⟩⟩)) rfl rfl rfl (by decide +kernel) (E.rm hlev (by decide))) (wd_preV w E.C [.ref (ad 59), .int x1] rcC_Drw rfl) rfl rfl hsz rfl (lv_room hr) hd ⟨Nat.zero_le _, Nat.zero_le _⟩) kk

theorem d_Sha_between_0 : decode prog_9_method_6_code 0 = .ok (.lload_n 2, 1) := by decide +kernel
theorem d_Sha_between_1 : decode prog_9_method_6_code 1 = .ok (.lload 4, 2) := by decide +kernel
theorem d_Sha_between_3 : decode prog_9_method_6_code 3 = .ok (.lsub, 1) := by decide +kernel
theorem d_Sha_between_4 : decode prog_9_method_6_code 4 = .ok (.lconst 0, 1) := by decide +kernel
theorem d_Sha_between_5 : decode prog_9_method_6_code 5 = .ok (.lcmp, 1) := by decide +kernel
theorem d_Sha_between_6 : decode prog_9_method_6_code 6 = .ok (.ifCond .gt 4, 3) := by decide +kernel
theorem d_Sha_between_9 : decode prog_9_method_6_code 9 = .ok (.return_, 1) := by decide +kernel
theorem d_Sha_between_10 : decode prog_9_method_6_code 10 = .ok (.ldc2_w 62, 3) := by decide +kernel
theorem d_Sha_between_13 : decode prog_9_method_6_code 13 = .ok (.lload_n 2, 1) := by decide +kernel
theorem d_Sha_between_14 : decode prog_9_method_6_code 14 = .ok (.lmul, 1) := by decide +kernel
theorem d_Sha_between_15 : decode prog_9_method_6_code 15 = .ok (.lload_n 2, 1) := by decide +kernel
theorem d_Sha_between_16 : decode prog_9_method_6_code 16 = .ok (.lload 4, 2) := by decide +kernel
theorem d_Sha_between_18 : decode prog_9_method_6_code 18 = .ok (.lsub, 1) := by decide +kernel
theorem d_Sha_between_19 : decode prog_9_method_6_code 19 = .ok (.invokestatic 64, 3) := by decide +kernel
theorem d_Sha_between_22 : decode prog_9_method_6_code 22 = .ok (.lstore 7, 2) := by decide +kernel
theorem d_Sha_between_24 : decode prog_9_method_6_code 24 = .ok (.iconst 0, 1) := by decide +kernel
theorem d_Sha_between_25 : decode prog_9_method_6_code 25 = .ok (.istore 9, 2) := by decide +kernel
theorem d_Sha_between_27 : decode prog_9_method_6_code 27 = .ok (.iload 9, 2) := by decide +kernel
theorem d_Sha_between_29 : decode prog_9_method_6_code 29 = .ok (.bipush 32, 2) := by decide +kernel
theorem d_Sha_between_31 : decode prog_9_method_6_code 31 = .ok (.if_icmp .ge 38, 3) := by decide +kernel
theorem d_Sha_between_34 : decode prog_9_method_6_code 34 = .ok (.aload 6, 2) := by decide +kernel
theorem d_Sha_between_36 : decode prog_9_method_6_code 36 = .ok (.iload 9, 2) := by decide +kernel
theorem d_Sha_between_38 : decode prog_9_method_6_code 38 = .ok (.aload_n 0, 1) := by decide +kernel
theorem d_Sha_between_39 : decode prog_9_method_6_code 39 = .ok (.iload 9, 2) := by decide +kernel
theorem d_Sha_between_41 : decode prog_9_method_6_code 41 = .ok (.iaload, 1) := by decide +kernel
theorem d_Sha_between_42 : decode prog_9_method_6_code 42 = .ok (.i2l, 1) := by decide +kernel
theorem d_Sha_between_43 : decode prog_9_method_6_code 43 = .ok (.aload_n 1, 1) := by decide +kernel
theorem d_Sha_between_44 : decode prog_9_method_6_code 44 = .ok (.iload 9, 2) := by decide +kernel
theorem d_Sha_between_46 : decode prog_9_method_6_code 46 = .ok (.iaload, 1) := by decide +kernel
theorem d_Sha_between_47 : decode prog_9_method_6_code 47 = .ok (.i2l, 1) := by decide +kernel
theorem d_Sha_between_48 : decode prog_9_method_6_code 48 = .ok (.aload_n 0, 1) := by decide +kernel
theorem d_Sha_between_49 : decode prog_9_method_6_code 49 = .ok (.iload 9, 2) := by decide +kernel
theorem d_Sha_between_51 : decode prog_9_method_6_code 51 = .ok (.iaload, 1) := by decide +kernel
theorem d_Sha_between_52 : decode prog_9_method_6_code 52 = .ok (.i2l, 1) := by decide +kernel
theorem d_Sha_between_53 : decode prog_9_method_6_code 53 = .ok (.lsub, 1) := by decide +kernel
theorem d_Sha_between_54 : decode prog_9_method_6_code 54 = .ok (.lload 7, 2) := by decide +kernel
theorem d_Sha_between_56 : decode prog_9_method_6_code 56 = .ok (.lmul, 1) := by decide +kernel
theorem d_Sha_between_57 : decode prog_9_method_6_code 57 = .ok (.bipush 16, 2) := by decide +kernel
theorem d_Sha_between_59 : decode prog_9_method_6_code 59 = .ok (.lshr, 1) := by decide +kernel
theorem d_Sha_between_60 : decode prog_9_method_6_code 60 = .ok (.ladd, 1) := by decide +kernel
theorem d_Sha_between_61 : decode prog_9_method_6_code 61 = .ok (.l2i, 1) := by decide +kernel
theorem d_Sha_between_62 : decode prog_9_method_6_code 62 = .ok (.iastore, 1) := by decide +kernel
theorem d_Sha_between_63 : decode prog_9_method_6_code 63 = .ok (.iinc 9 1, 3) := by decide +kernel
theorem d_Sha_between_66 : decode prog_9_method_6_code 66 = .ok (.goto (-39), 3) := by decide +kernel
theorem d_Sha_between_69 : decode prog_9_method_6_code 69 = .ok (.return_, 1) := by decide +kernel
def L_Sha_between_27 : Nat → Sg → Nat → Nat → Nat → Int64 → Int32 → Option (Sg)
  | 0, _, _, _, _, _, _ => none
  | n + 1, σ, v0, v1, v6, v7, v9 => ck (v0 < 47) (ck (v1 < 47) (ck (v6 < 47) (if 32 ≤ v9 then (some σ) else (ck (inb v9 (lenC σ v0)) (ck (inb v9 (lenC σ v1)) (ck (inb v9 (lenC σ v0)) (ck (inb v9 (lenC σ v6)) (lt (sA σ v6 (upd (σ.2.2.1 v6) v9.toNatClampNeg ((((σ.2.2.1 v0 v9.toNatClampNeg).toInt64) + (lshr ((((σ.2.2.1 v1 v9.toNatClampNeg).toInt64) - ((σ.2.2.1 v0 v9.toNatClampNeg).toInt64)) * v7) 16)).toInt32))) (fun σ16 => lt (v9 + 1) (fun y17 => L_Sha_between_27 n σ16 v0 v1 v6 v7 y17))))))))))
set_option maxRecDepth 10000 in
set_option maxHeartbeats 4000000 in
theorem lt_Sha_between_27 {p : Program} {l : Launch} {e : Env} {R : Room} {s : State} {m : MethodId} {args : Array Value} {below : List Frame} {meth : Method} {c : Code} {D : va_G} {τ : ClassId × ClassId × ClassId} {B : Nat} {A : Nat → Prop} {ad : Nat → Nat} (E : Cx p R s m args meth c prog_9_method_6_code 10 "DrawingMachine$Shape" 0 D τ B A) (hret : meth.sig.returnType = none) (o : Sg) : ∀ (n : Nat) (σ : Sg) (v0 : Nat) (v1 : Nat) (v6 : Nat) (v7 : Int64) (v9 : Int32) (H : Heap) (locs : List Loc) (ls : Array Slot), L_Sha_between_27 n σ v0 v1 v6 v7 v9 = some o → Wd s D A (wdC τ σ ad) H locs → lv_has ls 10 [(0, .ref (ad v0)), (1, .ref (ad v1)), (6, .ref (ad v6)), (7, .long v7), (9, .int v9)] → W p l e R s m args below meth c H locs 0 0 (QV below args s A D τ (wdC τ o ad)) (F0 m 27 ls []) := by
  intro n
  induction n with
  | zero =>
    intro σ v0 v1 v6 v7 v9 H locs ls h w hl
    cases h
  | succ n hr_27 =>
    intro σ v0 v1 v6 v7 v9 H locs ls h w hl
    obtain ⟨c9, h⟩ := ck_some h
    obtain ⟨c10, h⟩ := ck_some h
    obtain ⟨c11, h⟩ := ck_some h
    refine lv_iload E.x E.b d_Sha_between_27 (lv_at hl 4 rfl) ?_
    refine lv_bipush (v := 32) E.x E.b d_Sha_between_29 (by decide) ?_
    refine lv_icmp_ge (tgt := 69) E.x E.b d_Sha_between_31 (by decide) (fun c => ?_) (fun c => ?_)
    ·
      replace h := ifT c h
      obtain rfl := Option.some.inj h
      exact rt_v E w hret d_Sha_between_69
    ·
      replace h := ifF c h
      refine lv_aload E.x E.b d_Sha_between_34 (lv_at hl 2 rfl) ?_
      refine lv_iload E.x E.b d_Sha_between_36 (lv_at hl 4 rfl) ?_
      refine lv_aload_n E.x E.b d_Sha_between_38 rfl (lv_at hl 0 rfl) ?_
      refine lv_iload E.x E.b d_Sha_between_39 (lv_at hl 4 rfl) ?_
      obtain ⟨c12, h⟩ := ck_some h
      refine ialC E w (k := v0) c9 c12 d_Sha_between_41 ?_
      refine lv_i2l (v := (σ.2.2.1 v0 v9.toNatClampNeg).toInt64) E.x E.b d_Sha_between_42 rfl ?_
      refine lv_aload_n E.x E.b d_Sha_between_43 rfl (lv_at hl 1 rfl) ?_
      refine lv_iload E.x E.b d_Sha_between_44 (lv_at hl 4 rfl) ?_
      obtain ⟨c13, h⟩ := ck_some h
      refine ialC E w (k := v1) c10 c13 d_Sha_between_46 ?_
      refine lv_i2l (v := (σ.2.2.1 v1 v9.toNatClampNeg).toInt64) E.x E.b d_Sha_between_47 rfl ?_
      refine lv_aload_n E.x E.b d_Sha_between_48 rfl (lv_at hl 0 rfl) ?_
      refine lv_iload E.x E.b d_Sha_between_49 (lv_at hl 4 rfl) ?_
      obtain ⟨c14, h⟩ := ck_some h
      refine ialC E w (k := v0) c9 c14 d_Sha_between_51 ?_
      refine lv_i2l (v := (σ.2.2.1 v0 v9.toNatClampNeg).toInt64) E.x E.b d_Sha_between_52 rfl ?_
      refine lv_lsub E.x E.b d_Sha_between_53 ?_
      refine lv_lload E.x E.b d_Sha_between_54 (lv_at hl 3 rfl) ?_
      refine lv_lmul E.x E.b d_Sha_between_56 ?_
      refine lv_bipush (v := 16) E.x E.b d_Sha_between_57 (by decide) ?_
      refine lv_lshr (v := lshr ((((σ.2.2.1 v1 v9.toNatClampNeg).toInt64) - ((σ.2.2.1 v0 v9.toNatClampNeg).toInt64)) * v7) 16) E.x E.b d_Sha_between_59 rfl ?_
      refine lv_ladd E.x E.b d_Sha_between_60 ?_
      refine lv_l2i (v := (((σ.2.2.1 v0 v9.toNatClampNeg).toInt64) + (lshr ((((σ.2.2.1 v1 v9.toNatClampNeg).toInt64) - ((σ.2.2.1 v0 v9.toNatClampNeg).toInt64)) * v7) 16)).toInt32) E.x E.b d_Sha_between_61 rfl ?_
      obtain ⟨c15, h⟩ := ck_some h
      obtain ⟨σ16, e_σ16, h⟩ := lt_some h
      refine iasC E w (k := v6) c11 c15 e_σ16 d_Sha_between_62 (fun H locs w => ?_)
      obtain ⟨y17, e_y17, h⟩ := lt_some h
      refine lv_iinc (v := y17) (lv' := [(9, .int y17), (0, .ref (ad v0)), (1, .ref (ad v1)), (6, .ref (ad v6)), (7, .long v7)]) E.x E.b d_Sha_between_63 hl (k := 4) rfl (e_y17) (by decide) rfl (fun ls hl => ?_)
      refine lv_goto (tgt := 27) E.x E.b d_Sha_between_66 (by decide) ?_
      exact hr_27 σ16 v0 v1 v6 v7 y17 _ _ _ h w (lv_sub hl [1, 2, 3, 4, 0] rfl)
def F_Sha_between (σ : Sg) (ar0 : Nat) (ar1 : Nat) (x2 : Int64) (x3 : Int64) (ar4 : Nat) : Option (Sg) := ck (ar0 < 47) (ck (ar1 < 47) (ck (ar4 < 47) (if 0 < (x2 - x3) then (ck (¬ (x2 - x3) = 0) (lt (fdiv (65536 * x2) (x2 - x3)) (fun y22 => L_Sha_between_27 100000 σ ar0 ar1 ar4 y22 0))) else (some σ))))
set_option maxRecDepth 10000 in
set_option maxHeartbeats 4000000 in
theorem c_Sha_between (l : Launch) (D : va_G) (τ : ClassId × ClassId × ClassId) (B : Nat) (σ : Sg) (ad : Nat → Nat) (ar0 : Nat) (ar1 : Nat) (x2 : Int64) (x3 : Int64) (ar4 : Nat) (o : Sg) (h : F_Sha_between σ ar0 ar1 x2 x3 ar4 = some o) : MV l y_Sha_between (Cond.code y_Sha_between prog_9_method_6_code 10 none) 0 D τ B [.ref (ad ar0), .ref (ad ar1), .long x2, .long x3, .ref (ad ar4)] (wdC τ σ ad) (wdC τ o ad) := by
  refine en_v (by decide) (Nat.le_of_ble_eq_true rfl) ?_
  intro p e R s m args below meth c H locs ls A E hret w hl
  have E : Cx p R s m args meth c prog_9_method_6_code 10 "DrawingMachine$Shape" 0 D τ B A := E
  have hl : lv_has ls 10 [(0, .ref (ad ar0)), (1, .ref (ad ar1)), (2, .long x2), (4, .long x3), (6, .ref (ad ar4))] := hl
  obtain ⟨c18, h⟩ := ck_some h
  obtain ⟨c19, h⟩ := ck_some h
  obtain ⟨c20, h⟩ := ck_some h
  refine lv_lload_n E.x E.b d_Sha_between_0 rfl (lv_at hl 2 rfl) ?_
  refine lv_lload E.x E.b d_Sha_between_1 (lv_at hl 3 rfl) ?_
  refine lv_lsub E.x E.b d_Sha_between_3 ?_
  refine lv_lconst (v := 0) E.x E.b d_Sha_between_4 (by decide) ?_
  refine W.lcmp E.x E.b d_Sha_between_5 ?_
  refine lv_if_gt (tgt := 10) E.x E.b d_Sha_between_6 (by decide) (fun c => ?_) (fun c => ?_)
  ·
    replace h := ifT (lgc_gt.mp c) h
    refine lv_ldc2 (v := 65536) E.x E.b E.o (E.w _ k1151) d_Sha_between_10 ?_
    refine lv_lload_n E.x E.b d_Sha_between_13 rfl (lv_at hl 2 rfl) ?_
    refine lv_lmul E.x E.b d_Sha_between_14 ?_
    refine lv_lload_n E.x E.b d_Sha_between_15 rfl (lv_at hl 2 rfl) ?_
    refine lv_lload E.x E.b d_Sha_between_16 (lv_at hl 3 rfl) ?_
    refine lv_lsub E.x E.b d_Sha_between_18 ?_
    obtain ⟨c21, h⟩ := ck_some h
    refine r_law (As := [.long (65536 * x2), .long (x2 - x3)]) (v0 := .long (fdiv (65536 * x2) (x2 - x3))) E (Jvm.Free.JP.Math_floorDiv_JJ.law l (65536 * x2) (x2 - x3)) k1152 k1109 k25 k1110 (by decide) hl.1 rfl (fun _ => ⟨rfl, c21⟩) (Nat.le_of_ble_eq_true rfl) d_Sha_between_19 ?_
    obtain ⟨y22, e_y22, h⟩ := lt_some h
    refine wl_e (v := y22) e_y22 ?_
    refine lv_lstore (lv' := [(7, .long y22), (0, .ref (ad ar0)), (1, .ref (ad ar1)), (2, .long x2), (4, .long x3), (6, .ref (ad ar4))]) E.x E.b d_Sha_between_22 hl (by decide) rfl (fun ls hl => ?_)
    refine lv_iconst (v := 0) E.x E.b d_Sha_between_24 (by decide) ?_
    refine lv_istore (lv' := [(9, .int 0), (7, .long y22), (0, .ref (ad ar0)), (1, .ref (ad ar1)), (2, .long x2), (4, .long x3), (6, .ref (ad ar4))]) E.x E.b d_Sha_between_25 hl (by decide) rfl (fun ls hl => ?_)
    exact lt_Sha_between_27 E hret o 100000 σ ar0 ar1 ar4 y22 0 _ _ _ h w (lv_sub hl [2, 3, 6, 1, 0] rfl)
  ·
    replace h := ifF (fun h9 => c (lgc_gt.mpr h9)) h
    obtain rfl := Option.some.inj h
    exact rt_v E w hret d_Sha_between_9
theorem clS_Sha_between {p : Program} {l : Launch} {e : Env} {R : Room} {s : State} {m : MethodId} {args : Array Value} {below : List Frame} {meth : Method} {c : Code} {H : Heap} {locs : List Loc} {Q : State → Prop} {cc : ByteArray} {nL pc lev : Nat} {own : String} {D : va_G} {τ : ClassId × ClassId × ClassId} {B : Nat} {A : Nat → Prop} {σ : Sg} {ad : Nat → Nat} {ls : Array Slot} {rest : List Value} (E : Cx p R s m args meth c cc nL own lev D τ B A) (w : Wd s D A (wdC τ σ ad) H locs) {ar0 : Nat} {ar1 : Nat} {x2 : Int64} {x3 : Int64} {ar4 : Nat} {o : Sg} (h : F_Sha_between σ ar0 ar1 x2 x3 ar4 = some o) {index : Nat} (hlk : Cond.methodLink own index y_Sha_between ∈ tw) (hlev : 0 < lev) (hsz : ls.size = nL) (hr : (rest.map fun v => v.category).sum ≤ 8) (hd : decode cc pc = .ok (.invokestatic index, 3)) (kk : ∀ (H1 : Heap) (locs1 : List Loc), Wd s D A (wdC τ o ad) H1 locs1 → W p l e R s m args below meth c H1 locs1 0 0 Q (F0 m (pc + 3) ls (rest))) : W p l e R s m args below meth c H locs 0 0 Q (F0 m pc ls (.ref (ad ar4) :: .long x3 :: .long x2 :: .ref (ad ar1) :: .ref (ad ar0) :: rest)) :=
  cr_v w E.C (va_runS (As := [.ref (ad ar0), .ref (ad ar1), .long x2, .long x3, .ref (ad ar4)]) (rest := rest) E.fix (c_Sha_between l D τ B σ ad ar0 ar1 x2 x3 ar4 o h H.size) (va_cwS 5 E.w (tw_pre (tw_good k1150) (l := [_, _, _]) (List.forall_mem_cons.mpr ⟨hlk, List.forall_mem_cons.mpr ⟨k1149, List.forall_mem_cons.mpr ⟨k11, fun _ h => absurd h List.not_mem_nil⟩⟩⟩)) rfl rfl rfl (by decide +kernel) (E.rm hlev (by decide))) (wd_pre w E.C [.ref (ad ar0), .ref (ad ar1), .long x2, .long x3, .ref (ad ar4)]) rfl rfl hsz rfl (lv_room hr) hd ⟨Nat.zero_le _, Nat.zero_le _⟩) kk

theorem d_Sha_inside_0 : decode prog_9_method_5_code 0 = .ok (.iload_n 1, 1) := by decide +kernel
theorem d_Sha_inside_1 : decode prog_9_method_5_code 1 = .ok (.ifCond .eq 15, 3) := by decide +kernel
theorem d_Sha_inside_4 : decode prog_9_method_5_code 4 = .ok (.aload_n 0, 1) := by decide +kernel
theorem d_Sha_inside_5 : decode prog_9_method_5_code 5 = .ok (.iconst 2, 1) := by decide +kernel
theorem d_Sha_inside_6 : decode prog_9_method_5_code 6 = .ok (.iaload, 1) := by decide +kernel
theorem d_Sha_inside_7 : decode prog_9_method_5_code 7 = .ok (.i2l, 1) := by decide +kernel
theorem d_Sha_inside_8 : decode prog_9_method_5_code 8 = .ok (.aload_n 0, 1) := by decide +kernel
theorem d_Sha_inside_9 : decode prog_9_method_5_code 9 = .ok (.iconst 3, 1) := by decide +kernel
theorem d_Sha_inside_10 : decode prog_9_method_5_code 10 = .ok (.iaload, 1) := by decide +kernel
theorem d_Sha_inside_11 : decode prog_9_method_5_code 11 = .ok (.i2l, 1) := by decide +kernel
theorem d_Sha_inside_12 : decode prog_9_method_5_code 12 = .ok (.ladd, 1) := by decide +kernel
theorem d_Sha_inside_13 : decode prog_9_method_5_code 13 = .ok (.goto 11, 3) := by decide +kernel
theorem d_Sha_inside_16 : decode prog_9_method_5_code 16 = .ok (.aload_n 0, 1) := by decide +kernel
theorem d_Sha_inside_17 : decode prog_9_method_5_code 17 = .ok (.iconst 3, 1) := by decide +kernel
theorem d_Sha_inside_18 : decode prog_9_method_5_code 18 = .ok (.iaload, 1) := by decide +kernel
theorem d_Sha_inside_19 : decode prog_9_method_5_code 19 = .ok (.i2l, 1) := by decide +kernel
theorem d_Sha_inside_20 : decode prog_9_method_5_code 20 = .ok (.ldc2_w 60, 3) := by decide +kernel
theorem d_Sha_inside_23 : decode prog_9_method_5_code 23 = .ok (.lsub, 1) := by decide +kernel
theorem d_Sha_inside_24 : decode prog_9_method_5_code 24 = .ok (.lreturn, 1) := by decide +kernel
def F_Sha_inside_24 (σ : Sg) (s0 : Int64) : Option (Int64) := some s0
set_option maxRecDepth 10000 in
set_option maxHeartbeats 4000000 in
theorem bt_Sha_inside_24 {p : Program} {l : Launch} {e : Env} {R : Room} {s : State} {m : MethodId} {args : Array Value} {below : List Frame} {meth : Method} {c : Code} {D : va_G} {τ : ClassId × ClassId × ClassId} {B : Nat} {A : Nat → Prop} {ad : Nat → Nat} (E : Cx p R s m args meth c prog_9_method_5_code 2 "DrawingMachine$Shape" 0 D τ B A) (hret : meth.sig.returnType = (some .long)) (o : Int64) (σ : Sg) (s0 : Int64) (h : F_Sha_inside_24 σ s0 = some o) {H : Heap} {locs : List Loc} {ls : Array Slot} (w : Wd s D A (wdC τ σ ad) H locs) (hl : lv_has ls 2 []) : W p l e R s m args below meth c H locs 0 0 (QL below args s A D τ (wdC τ σ ad) o) (F0 m 24 ls [.long s0]) := by
  obtain rfl := Option.some.inj h
  exact rt_l E w hret d_Sha_inside_24
def F_Sha_inside (σ : Sg) (ar0 : Nat) (x1 : Int32) : Option (Int64) := ck (ar0 < 47) (if x1 = 0 then (ck (inb 3 (lenC σ ar0)) (F_Sha_inside_24 σ (((σ.2.2.1 ar0 3).toInt64) - 256))) else (ck (inb 2 (lenC σ ar0)) (ck (inb 3 (lenC σ ar0)) (F_Sha_inside_24 σ (((σ.2.2.1 ar0 2).toInt64) + ((σ.2.2.1 ar0 3).toInt64))))))
set_option maxRecDepth 10000 in
set_option maxHeartbeats 4000000 in
theorem c_Sha_inside (l : Launch) (D : va_G) (τ : ClassId × ClassId × ClassId) (B : Nat) (σ : Sg) (ad : Nat → Nat) (ar0 : Nat) (x1 : Int32) (o : Int64) (h : F_Sha_inside σ ar0 x1 = some o) : ML l y_Sha_inside (Cond.code y_Sha_inside prog_9_method_5_code 2 (some .long)) 0 D τ B [.ref (ad ar0), .int x1] (wdC τ σ ad) (wdC τ σ ad) o := by
  refine en_l (by decide) (Nat.le_of_ble_eq_true rfl) ?_
  intro p e R s m args below meth c H locs ls A E hret w hl
  have E : Cx p R s m args meth c prog_9_method_5_code 2 "DrawingMachine$Shape" 0 D τ B A := E
  have hl : lv_has ls 2 [(0, .ref (ad ar0)), (1, .int x1)] := hl
  obtain ⟨c4, h⟩ := ck_some h
  refine lv_iload_n E.x E.b d_Sha_inside_0 rfl (lv_at hl 1 rfl) ?_
  refine lv_if_eq (tgt := 16) E.x E.b d_Sha_inside_1 (by decide) (fun c => ?_) (fun c => ?_)
  ·
    replace h := ifT c h
    refine lv_aload_n E.x E.b d_Sha_inside_16 rfl (lv_at hl 0 rfl) ?_
    refine lv_iconst (v := 3) E.x E.b d_Sha_inside_17 (by decide) ?_
    obtain ⟨c5, h⟩ := ck_some h
    refine ialC E w (k := ar0) c4 c5 d_Sha_inside_18 ?_
    refine wi_e (v := σ.2.2.1 ar0 3) rfl ?_
    refine lv_i2l (v := (σ.2.2.1 ar0 3).toInt64) E.x E.b d_Sha_inside_19 rfl ?_
    refine lv_ldc2 (v := 256) E.x E.b E.o (E.w _ k1147) d_Sha_inside_20 ?_
    refine lv_lsub E.x E.b d_Sha_inside_23 ?_
    exact bt_Sha_inside_24 E hret o σ (((σ.2.2.1 ar0 3).toInt64) - 256) h w (lv_sub hl [] rfl)
  ·
    replace h := ifF c h
    refine lv_aload_n E.x E.b d_Sha_inside_4 rfl (lv_at hl 0 rfl) ?_
    refine lv_iconst (v := 2) E.x E.b d_Sha_inside_5 (by decide) ?_
    obtain ⟨c6, h⟩ := ck_some h
    refine ialC E w (k := ar0) c4 c6 d_Sha_inside_6 ?_
    refine wi_e (v := σ.2.2.1 ar0 2) rfl ?_
    refine lv_i2l (v := (σ.2.2.1 ar0 2).toInt64) E.x E.b d_Sha_inside_7 rfl ?_
    refine lv_aload_n E.x E.b d_Sha_inside_8 rfl (lv_at hl 0 rfl) ?_
    refine lv_iconst (v := 3) E.x E.b d_Sha_inside_9 (by decide) ?_
    obtain ⟨c7, h⟩ := ck_some h
    refine ialC E w (k := ar0) c4 c7 d_Sha_inside_10 ?_
    refine wi_e (v := σ.2.2.1 ar0 3) rfl ?_
    refine lv_i2l (v := (σ.2.2.1 ar0 3).toInt64) E.x E.b d_Sha_inside_11 rfl ?_
    refine lv_ladd E.x E.b d_Sha_inside_12 ?_
    refine lv_goto (tgt := 24) E.x E.b d_Sha_inside_13 (by decide) ?_
    exact bt_Sha_inside_24 E hret o σ (((σ.2.2.1 ar0 2).toInt64) + ((σ.2.2.1 ar0 3).toInt64)) h w (lv_sub hl [] rfl)
theorem clS_Sha_inside {p : Program} {l : Launch} {e : Env} {R : Room} {s : State} {m : MethodId} {args : Array Value} {below : List Frame} {meth : Method} {c : Code} {H : Heap} {locs : List Loc} {Q : State → Prop} {cc : ByteArray} {nL pc lev : Nat} {own : String} {D : va_G} {τ : ClassId × ClassId × ClassId} {B : Nat} {A : Nat → Prop} {σ : Sg} {ad : Nat → Nat} {ls : Array Slot} {rest : List Value} (E : Cx p R s m args meth c cc nL own lev D τ B A) (w : Wd s D A (wdC τ σ ad) H locs) {ar0 : Nat} {x1 : Int32} {o : Int64} (h : F_Sha_inside σ ar0 x1 = some o) {index : Nat} (hlk : Cond.methodLink own index y_Sha_inside ∈ tw) (hlev : 0 < lev) (hsz : ls.size = nL) (hr : (rest.map fun v => v.category).sum ≤ 8) (hd : decode cc pc = .ok (.invokestatic index, 3)) (kk : ∀ (H1 : Heap) (locs1 : List Loc), Wd s D A (wdC τ σ ad) H1 locs1 → W p l e R s m args below meth c H1 locs1 0 0 Q (F0 m (pc + 3) ls (.long o :: rest))) : W p l e R s m args below meth c H locs 0 0 Q (F0 m pc ls (.int x1 :: .ref (ad ar0) :: rest)) :=
  cr_l w E.C (va_runS (As := [.ref (ad ar0), .int x1]) (rest := rest) E.fix (c_Sha_inside l D τ B σ ad ar0 x1 o h H.size) (va_cwS 2 E.w (tw_pre (tw_good k1146) (l := [_, _, _]) (List.forall_mem_cons.mpr ⟨hlk, List.forall_mem_cons.mpr ⟨k1145, List.forall_mem_cons.mpr ⟨k11, fun _ h => absurd h List.not_mem_nil⟩⟩⟩)) rfl rfl rfl (by decide +kernel) (E.rm hlev (by decide))) (wd_pre w E.C [.ref (ad ar0), .int x1]) rfl rfl hsz rfl (lv_room hr) hd ⟨Nat.zero_le _, Nat.zero_le _⟩) kk

theorem d_Sha_cutBy_0 : decode prog_9_method_4_code 0 = .ok (.iconst 0, 1) := by decide +kernel
theorem d_Sha_cutBy_1 : decode prog_9_method_4_code 1 = .ok (.istore_n 2, 1) := by decide +kernel
theorem d_Sha_cutBy_2 : decode prog_9_method_4_code 2 = .ok (.iconst 0, 1) := by decide +kernel
theorem d_Sha_cutBy_3 : decode prog_9_method_4_code 3 = .ok (.istore_n 3, 1) := by decide +kernel
theorem d_Sha_cutBy_4 : decode prog_9_method_4_code 4 = .ok (.iload_n 3, 1) := by decide +kernel
theorem d_Sha_cutBy_5 : decode prog_9_method_4_code 5 = .ok (.aload_n 0, 1) := by decide +kernel
theorem d_Sha_cutBy_6 : decode prog_9_method_4_code 6 = .ok (.getfield 44, 3) := by decide +kernel
theorem d_Sha_cutBy_9 : decode prog_9_method_4_code 9 = .ok (.if_icmp .ge 171, 3) := by decide +kernel
theorem d_Sha_cutBy_12 : decode prog_9_method_4_code 12 = .ok (.aload_n 0, 1) := by decide +kernel
theorem d_Sha_cutBy_13 : decode prog_9_method_4_code 13 = .ok (.getfield 13, 3) := by decide +kernel
theorem d_Sha_cutBy_16 : decode prog_9_method_4_code 16 = .ok (.iload_n 3, 1) := by decide +kernel
theorem d_Sha_cutBy_17 : decode prog_9_method_4_code 17 = .ok (.aaload, 1) := by decide +kernel
theorem d_Sha_cutBy_18 : decode prog_9_method_4_code 18 = .ok (.astore 4, 2) := by decide +kernel
theorem d_Sha_cutBy_20 : decode prog_9_method_4_code 20 = .ok (.aload_n 0, 1) := by decide +kernel
theorem d_Sha_cutBy_21 : decode prog_9_method_4_code 21 = .ok (.getfield 13, 3) := by decide +kernel
theorem d_Sha_cutBy_24 : decode prog_9_method_4_code 24 = .ok (.iload_n 3, 1) := by decide +kernel
theorem d_Sha_cutBy_25 : decode prog_9_method_4_code 25 = .ok (.iconst 1, 1) := by decide +kernel
theorem d_Sha_cutBy_26 : decode prog_9_method_4_code 26 = .ok (.iadd, 1) := by decide +kernel
theorem d_Sha_cutBy_27 : decode prog_9_method_4_code 27 = .ok (.aload_n 0, 1) := by decide +kernel
theorem d_Sha_cutBy_28 : decode prog_9_method_4_code 28 = .ok (.getfield 44, 3) := by decide +kernel
theorem d_Sha_cutBy_31 : decode prog_9_method_4_code 31 = .ok (.if_icmp .ge 9, 3) := by decide +kernel
theorem d_Sha_cutBy_34 : decode prog_9_method_4_code 34 = .ok (.iload_n 3, 1) := by decide +kernel
theorem d_Sha_cutBy_35 : decode prog_9_method_4_code 35 = .ok (.iconst 1, 1) := by decide +kernel
theorem d_Sha_cutBy_36 : decode prog_9_method_4_code 36 = .ok (.iadd, 1) := by decide +kernel
theorem d_Sha_cutBy_37 : decode prog_9_method_4_code 37 = .ok (.goto 4, 3) := by decide +kernel
theorem d_Sha_cutBy_40 : decode prog_9_method_4_code 40 = .ok (.iconst 0, 1) := by decide +kernel
theorem d_Sha_cutBy_41 : decode prog_9_method_4_code 41 = .ok (.aaload, 1) := by decide +kernel
theorem d_Sha_cutBy_42 : decode prog_9_method_4_code 42 = .ok (.astore 5, 2) := by decide +kernel
theorem d_Sha_cutBy_44 : decode prog_9_method_4_code 44 = .ok (.aload 4, 2) := by decide +kernel
theorem d_Sha_cutBy_46 : decode prog_9_method_4_code 46 = .ok (.iload_n 1, 1) := by decide +kernel
theorem d_Sha_cutBy_47 : decode prog_9_method_4_code 47 = .ok (.invokestatic 52, 3) := by decide +kernel
theorem d_Sha_cutBy_50 : decode prog_9_method_4_code 50 = .ok (.lstore 6, 2) := by decide +kernel
theorem d_Sha_cutBy_52 : decode prog_9_method_4_code 52 = .ok (.aload 5, 2) := by decide +kernel
theorem d_Sha_cutBy_54 : decode prog_9_method_4_code 54 = .ok (.iload_n 1, 1) := by decide +kernel
theorem d_Sha_cutBy_55 : decode prog_9_method_4_code 55 = .ok (.invokestatic 52, 3) := by decide +kernel
theorem d_Sha_cutBy_58 : decode prog_9_method_4_code 58 = .ok (.lstore 8, 2) := by decide +kernel
theorem d_Sha_cutBy_60 : decode prog_9_method_4_code 60 = .ok (.lload 6, 2) := by decide +kernel
theorem d_Sha_cutBy_62 : decode prog_9_method_4_code 62 = .ok (.lconst 0, 1) := by decide +kernel
theorem d_Sha_cutBy_63 : decode prog_9_method_4_code 63 = .ok (.lcmp, 1) := by decide +kernel
theorem d_Sha_cutBy_64 : decode prog_9_method_4_code 64 = .ok (.ifCond .lt 27, 3) := by decide +kernel
theorem d_Sha_cutBy_67 : decode prog_9_method_4_code 67 = .ok (.iload_n 2, 1) := by decide +kernel
theorem d_Sha_cutBy_68 : decode prog_9_method_4_code 68 = .ok (.bipush 8, 2) := by decide +kernel
theorem d_Sha_cutBy_70 : decode prog_9_method_4_code 70 = .ok (.if_icmp .ge 21, 3) := by decide +kernel
theorem d_Sha_cutBy_73 : decode prog_9_method_4_code 73 = .ok (.aload 4, 2) := by decide +kernel
theorem d_Sha_cutBy_75 : decode prog_9_method_4_code 75 = .ok (.iconst 0, 1) := by decide +kernel
theorem d_Sha_cutBy_76 : decode prog_9_method_4_code 76 = .ok (.aload_n 0, 1) := by decide +kernel
theorem d_Sha_cutBy_77 : decode prog_9_method_4_code 77 = .ok (.getfield 29, 3) := by decide +kernel
theorem d_Sha_cutBy_80 : decode prog_9_method_4_code 80 = .ok (.iload_n 2, 1) := by decide +kernel
theorem d_Sha_cutBy_81 : decode prog_9_method_4_code 81 = .ok (.aaload, 1) := by decide +kernel
theorem d_Sha_cutBy_82 : decode prog_9_method_4_code 82 = .ok (.iconst 0, 1) := by decide +kernel
theorem d_Sha_cutBy_83 : decode prog_9_method_4_code 83 = .ok (.bipush 32, 2) := by decide +kernel
theorem d_Sha_cutBy_85 : decode prog_9_method_4_code 85 = .ok (.invokestatic 38, 3) := by decide +kernel
theorem d_Sha_cutBy_88 : decode prog_9_method_4_code 88 = .ok (.iinc 2 1, 3) := by decide +kernel
theorem d_Sha_cutBy_91 : decode prog_9_method_4_code 91 = .ok (.lload 6, 2) := by decide +kernel
theorem d_Sha_cutBy_93 : decode prog_9_method_4_code 93 = .ok (.lconst 0, 1) := by decide +kernel
theorem d_Sha_cutBy_94 : decode prog_9_method_4_code 94 = .ok (.lcmp, 1) := by decide +kernel
theorem d_Sha_cutBy_95 : decode prog_9_method_4_code 95 = .ok (.ifCond .lt 39, 3) := by decide +kernel
theorem d_Sha_cutBy_98 : decode prog_9_method_4_code 98 = .ok (.lload 8, 2) := by decide +kernel
theorem d_Sha_cutBy_100 : decode prog_9_method_4_code 100 = .ok (.lconst 0, 1) := by decide +kernel
theorem d_Sha_cutBy_101 : decode prog_9_method_4_code 101 = .ok (.lcmp, 1) := by decide +kernel
theorem d_Sha_cutBy_102 : decode prog_9_method_4_code 102 = .ok (.ifCond .ge 32, 3) := by decide +kernel
theorem d_Sha_cutBy_105 : decode prog_9_method_4_code 105 = .ok (.iload_n 2, 1) := by decide +kernel
theorem d_Sha_cutBy_106 : decode prog_9_method_4_code 106 = .ok (.bipush 8, 2) := by decide +kernel
theorem d_Sha_cutBy_108 : decode prog_9_method_4_code 108 = .ok (.if_icmp .ge 26, 3) := by decide +kernel
theorem d_Sha_cutBy_111 : decode prog_9_method_4_code 111 = .ok (.aload 4, 2) := by decide +kernel
theorem d_Sha_cutBy_113 : decode prog_9_method_4_code 113 = .ok (.aload 5, 2) := by decide +kernel
theorem d_Sha_cutBy_115 : decode prog_9_method_4_code 115 = .ok (.lload 6, 2) := by decide +kernel
theorem d_Sha_cutBy_117 : decode prog_9_method_4_code 117 = .ok (.lload 8, 2) := by decide +kernel
theorem d_Sha_cutBy_119 : decode prog_9_method_4_code 119 = .ok (.aload_n 0, 1) := by decide +kernel
theorem d_Sha_cutBy_120 : decode prog_9_method_4_code 120 = .ok (.getfield 29, 3) := by decide +kernel
theorem d_Sha_cutBy_123 : decode prog_9_method_4_code 123 = .ok (.iload_n 2, 1) := by decide +kernel
theorem d_Sha_cutBy_124 : decode prog_9_method_4_code 124 = .ok (.aaload, 1) := by decide +kernel
theorem d_Sha_cutBy_125 : decode prog_9_method_4_code 125 = .ok (.invokestatic 56, 3) := by decide +kernel
theorem d_Sha_cutBy_128 : decode prog_9_method_4_code 128 = .ok (.iinc 2 1, 3) := by decide +kernel
theorem d_Sha_cutBy_131 : decode prog_9_method_4_code 131 = .ok (.goto 43, 3) := by decide +kernel
theorem d_Sha_cutBy_134 : decode prog_9_method_4_code 134 = .ok (.lload 6, 2) := by decide +kernel
theorem d_Sha_cutBy_136 : decode prog_9_method_4_code 136 = .ok (.lconst 0, 1) := by decide +kernel
theorem d_Sha_cutBy_137 : decode prog_9_method_4_code 137 = .ok (.lcmp, 1) := by decide +kernel
theorem d_Sha_cutBy_138 : decode prog_9_method_4_code 138 = .ok (.ifCond .ge 36, 3) := by decide +kernel
theorem d_Sha_cutBy_141 : decode prog_9_method_4_code 141 = .ok (.lload 8, 2) := by decide +kernel
theorem d_Sha_cutBy_143 : decode prog_9_method_4_code 143 = .ok (.lconst 0, 1) := by decide +kernel
theorem d_Sha_cutBy_144 : decode prog_9_method_4_code 144 = .ok (.lcmp, 1) := by decide +kernel
theorem d_Sha_cutBy_145 : decode prog_9_method_4_code 145 = .ok (.ifCond .lt 29, 3) := by decide +kernel
theorem d_Sha_cutBy_148 : decode prog_9_method_4_code 148 = .ok (.iload_n 2, 1) := by decide +kernel
theorem d_Sha_cutBy_149 : decode prog_9_method_4_code 149 = .ok (.bipush 8, 2) := by decide +kernel
theorem d_Sha_cutBy_151 : decode prog_9_method_4_code 151 = .ok (.if_icmp .ge 23, 3) := by decide +kernel
theorem d_Sha_cutBy_154 : decode prog_9_method_4_code 154 = .ok (.aload 5, 2) := by decide +kernel
theorem d_Sha_cutBy_156 : decode prog_9_method_4_code 156 = .ok (.aload 4, 2) := by decide +kernel
theorem d_Sha_cutBy_158 : decode prog_9_method_4_code 158 = .ok (.lload 8, 2) := by decide +kernel
theorem d_Sha_cutBy_160 : decode prog_9_method_4_code 160 = .ok (.lload 6, 2) := by decide +kernel
theorem d_Sha_cutBy_162 : decode prog_9_method_4_code 162 = .ok (.aload_n 0, 1) := by decide +kernel
theorem d_Sha_cutBy_163 : decode prog_9_method_4_code 163 = .ok (.getfield 29, 3) := by decide +kernel
theorem d_Sha_cutBy_166 : decode prog_9_method_4_code 166 = .ok (.iload_n 2, 1) := by decide +kernel
theorem d_Sha_cutBy_167 : decode prog_9_method_4_code 167 = .ok (.aaload, 1) := by decide +kernel
theorem d_Sha_cutBy_168 : decode prog_9_method_4_code 168 = .ok (.invokestatic 56, 3) := by decide +kernel
theorem d_Sha_cutBy_171 : decode prog_9_method_4_code 171 = .ok (.iinc 2 1, 3) := by decide +kernel
theorem d_Sha_cutBy_174 : decode prog_9_method_4_code 174 = .ok (.iinc 3 1, 3) := by decide +kernel
theorem d_Sha_cutBy_177 : decode prog_9_method_4_code 177 = .ok (.goto (-173), 3) := by decide +kernel
theorem d_Sha_cutBy_180 : decode prog_9_method_4_code 180 = .ok (.aload_n 0, 1) := by decide +kernel
theorem d_Sha_cutBy_181 : decode prog_9_method_4_code 181 = .ok (.iload_n 2, 1) := by decide +kernel
theorem d_Sha_cutBy_182 : decode prog_9_method_4_code 182 = .ok (.iconst 3, 1) := by decide +kernel
theorem d_Sha_cutBy_183 : decode prog_9_method_4_code 183 = .ok (.if_icmp .ge 7, 3) := by decide +kernel
theorem d_Sha_cutBy_186 : decode prog_9_method_4_code 186 = .ok (.iconst 0, 1) := by decide +kernel
theorem d_Sha_cutBy_187 : decode prog_9_method_4_code 187 = .ok (.goto 4, 3) := by decide +kernel
theorem d_Sha_cutBy_190 : decode prog_9_method_4_code 190 = .ok (.iload_n 2, 1) := by decide +kernel
theorem d_Sha_cutBy_191 : decode prog_9_method_4_code 191 = .ok (.putfield 44, 3) := by decide +kernel
theorem d_Sha_cutBy_194 : decode prog_9_method_4_code 194 = .ok (.aload_n 0, 1) := by decide +kernel
theorem d_Sha_cutBy_195 : decode prog_9_method_4_code 195 = .ok (.getfield 13, 3) := by decide +kernel
theorem d_Sha_cutBy_198 : decode prog_9_method_4_code 198 = .ok (.astore_n 3, 1) := by decide +kernel
theorem d_Sha_cutBy_199 : decode prog_9_method_4_code 199 = .ok (.aload_n 0, 1) := by decide +kernel
theorem d_Sha_cutBy_200 : decode prog_9_method_4_code 200 = .ok (.aload_n 0, 1) := by decide +kernel
theorem d_Sha_cutBy_201 : decode prog_9_method_4_code 201 = .ok (.getfield 29, 3) := by decide +kernel
theorem d_Sha_cutBy_204 : decode prog_9_method_4_code 204 = .ok (.putfield 13, 3) := by decide +kernel
theorem d_Sha_cutBy_207 : decode prog_9_method_4_code 207 = .ok (.aload_n 0, 1) := by decide +kernel
theorem d_Sha_cutBy_208 : decode prog_9_method_4_code 208 = .ok (.aload_n 3, 1) := by decide +kernel
theorem d_Sha_cutBy_209 : decode prog_9_method_4_code 209 = .ok (.putfield 29, 3) := by decide +kernel
theorem d_Sha_cutBy_212 : decode prog_9_method_4_code 212 = .ok (.return_, 1) := by decide +kernel
def F_Sha_cutBy_191 (σ : Sg) (s1 : Int32) : Option (Sg) := lt (sI σ 16 s1) (fun σ43 => lt (σ43.2.2.2.2 5) (fun nn44 => ck (nn44 < 2) (lt (σ43.2.2.2.2 6) (fun nn46 => ck (nn46 < 2) (lt (sN σ43 5 nn46) (fun σ48 => lt (sN σ48 6 nn44) (fun σ49 => some σ49)))))))
set_option maxRecDepth 10000 in
set_option maxHeartbeats 4000000 in
theorem bt_Sha_cutBy_191 {p : Program} {l : Launch} {e : Env} {R : Room} {s : State} {m : MethodId} {args : Array Value} {below : List Frame} {meth : Method} {c : Code} {D : va_G} {τ : ClassId × ClassId × ClassId} {B : Nat} {A : Nat → Prop} {ad : Nat → Nat} (E : Cx p R s m args meth c prog_9_method_4_code 10 "DrawingMachine$Shape" 1 D τ B A) (hret : meth.sig.returnType = none) (o : Sg) (σ : Sg) (s1 : Int32) (h : F_Sha_cutBy_191 σ s1 = some o) {H : Heap} {locs : List Loc} {ls : Array Slot} (w : Wd s D A (wdC τ σ ad) H locs) (hl : lv_has ls 10 [(0, .ref (ad 65))]) : W p l e R s m args below meth c H locs 0 0 (QV below args s A D τ (wdC τ o ad)) (F0 m 191 ls [.int s1, .ref (ad 65)]) := by
  obtain ⟨σ43, e_σ43, h⟩ := lt_some h
  refine pC_Sha_many E w k286 e_σ43 d_Sha_cutBy_191 (fun H locs w => ?_)
  refine lv_aload_n E.x E.b d_Sha_cutBy_194 rfl (lv_at hl 0 rfl) ?_
  refine gC_Sha_corners E w k288 d_Sha_cutBy_195 ?_
  obtain ⟨nn44, e_nn44, h⟩ := lt_some h
  refine wr_e (v := ad (54 + nn44)) (by rw [e_nn44]) ?_
  obtain ⟨c45, h⟩ := ck_some h
  refine lv_astore_n (lv' := [(3, .ref (ad (54 + nn44))), (0, .ref (ad 65))]) E.x E.b d_Sha_cutBy_198 rfl hl (by decide) rfl (fun ls hl => ?_)
  refine lv_aload_n E.x E.b d_Sha_cutBy_199 rfl (lv_at hl 1 rfl) ?_
  refine lv_aload_n E.x E.b d_Sha_cutBy_200 rfl (lv_at hl 1 rfl) ?_
  refine gC_Sha_spare E w k298 d_Sha_cutBy_201 ?_
  obtain ⟨nn46, e_nn46, h⟩ := lt_some h
  refine wr_e (v := ad (54 + nn46)) (by rw [e_nn46]) ?_
  obtain ⟨c47, h⟩ := ck_some h
  obtain ⟨σ48, e_σ48, h⟩ := lt_some h
  refine pC_Sha_corners E w k288 e_σ48 d_Sha_cutBy_204 (fun H locs w => ?_)
  refine lv_aload_n E.x E.b d_Sha_cutBy_207 rfl (lv_at hl 1 rfl) ?_
  refine lv_aload_n E.x E.b d_Sha_cutBy_208 rfl (lv_at hl 0 rfl) ?_
  obtain ⟨σ49, e_σ49, h⟩ := lt_some h
  refine pC_Sha_spare E w k298 e_σ49 d_Sha_cutBy_209 (fun H locs w => ?_)
  obtain rfl := Option.some.inj h
  exact rt_v E w hret d_Sha_cutBy_212
def F_Sha_cutBy_174 (rc_4 : Sg → Int32 → Int32 → Int32 → Option (Sg)) (σ : Sg) (v1 : Int32) (v2 : Int32) (v3 : Int32) : Option (Sg) := lt (v3 + 1) (fun y50 => rc_4 σ v1 v2 y50)
set_option maxRecDepth 10000 in
set_option maxHeartbeats 4000000 in
theorem bt_Sha_cutBy_174 {p : Program} {l : Launch} {e : Env} {R : Room} {s : State} {m : MethodId} {args : Array Value} {below : List Frame} {meth : Method} {c : Code} {D : va_G} {τ : ClassId × ClassId × ClassId} {B : Nat} {A : Nat → Prop} {ad : Nat → Nat} (E : Cx p R s m args meth c prog_9_method_4_code 10 "DrawingMachine$Shape" 1 D τ B A) (hret : meth.sig.returnType = none) (o : Sg) (rc_4 : Sg → Int32 → Int32 → Int32 → Option (Sg)) (hr_4 : ∀ (σ : Sg) (v1 : Int32) (v2 : Int32) (v3 : Int32) (H : Heap) (locs : List Loc) (ls : Array Slot), rc_4 σ v1 v2 v3 = some o → Wd s D A (wdC τ σ ad) H locs → lv_has ls 10 [(0, .ref (ad 65)), (1, .int v1), (2, .int v2), (3, .int v3)] → W p l e R s m args below meth c H locs 0 0 (QV below args s A D τ (wdC τ o ad)) (F0 m 4 ls [])) (σ : Sg) (v1 : Int32) (v2 : Int32) (v3 : Int32) (h : F_Sha_cutBy_174 rc_4 σ v1 v2 v3 = some o) {H : Heap} {locs : List Loc} {ls : Array Slot} (w : Wd s D A (wdC τ σ ad) H locs) (hl : lv_has ls 10 [(0, .ref (ad 65)), (1, .int v1), (2, .int v2), (3, .int v3)]) : W p l e R s m args below meth c H locs 0 0 (QV below args s A D τ (wdC τ o ad)) (F0 m 174 ls []) := by
  obtain ⟨y50, e_y50, h⟩ := lt_some h
  refine lv_iinc (v := y50) (lv' := [(3, .int y50), (0, .ref (ad 65)), (1, .int v1), (2, .int v2)]) E.x E.b d_Sha_cutBy_174 hl (k := 3) rfl (e_y50) (by decide) rfl (fun ls hl => ?_)
  refine lv_goto (tgt := 4) E.x E.b d_Sha_cutBy_177 (by decide) ?_
  exact hr_4 σ v1 v2 y50 _ _ _ h w (lv_sub hl [1, 2, 3, 0] rfl)
def F_Sha_cutBy_134 (rc_4 : Sg → Int32 → Int32 → Int32 → Option (Sg)) (σ : Sg) (v1 : Int32) (v2 : Int32) (v3 : Int32) (v4 : Nat) (v5 : Nat) (v6 : Int64) (v8 : Int64) : Option (Sg) := ck (v4 < 47) (ck (v5 < 47) (if 0 ≤ v6 then (F_Sha_cutBy_174 rc_4 σ v1 v2 v3) else (if v8 < 0 then (F_Sha_cutBy_174 rc_4 σ v1 v2 v3) else (if 8 ≤ v2 then (F_Sha_cutBy_174 rc_4 σ v1 v2 v3) else (lt (σ.2.2.2.2 6) (fun nn53 => ck (nn53 < 2) (ck (inb v2 8) (lt (31 + 8 * nn53 + v2.toNatClampNeg) (fun ar_56 => ck (ar_56 < 47) (bd (F_Sha_between σ v5 v4 v8 v6 ar_56) (fun o58 => lt (v2 + 1) (fun y59 => F_Sha_cutBy_174 rc_4 o58 v1 y59 v3))))))))))))
set_option maxRecDepth 10000 in
set_option maxHeartbeats 4000000 in
theorem bt_Sha_cutBy_134 {p : Program} {l : Launch} {e : Env} {R : Room} {s : State} {m : MethodId} {args : Array Value} {below : List Frame} {meth : Method} {c : Code} {D : va_G} {τ : ClassId × ClassId × ClassId} {B : Nat} {A : Nat → Prop} {ad : Nat → Nat} (E : Cx p R s m args meth c prog_9_method_4_code 10 "DrawingMachine$Shape" 1 D τ B A) (hret : meth.sig.returnType = none) (o : Sg) (rc_4 : Sg → Int32 → Int32 → Int32 → Option (Sg)) (hr_4 : ∀ (σ : Sg) (v1 : Int32) (v2 : Int32) (v3 : Int32) (H : Heap) (locs : List Loc) (ls : Array Slot), rc_4 σ v1 v2 v3 = some o → Wd s D A (wdC τ σ ad) H locs → lv_has ls 10 [(0, .ref (ad 65)), (1, .int v1), (2, .int v2), (3, .int v3)] → W p l e R s m args below meth c H locs 0 0 (QV below args s A D τ (wdC τ o ad)) (F0 m 4 ls [])) (σ : Sg) (v1 : Int32) (v2 : Int32) (v3 : Int32) (v4 : Nat) (v5 : Nat) (v6 : Int64) (v8 : Int64) (h : F_Sha_cutBy_134 rc_4 σ v1 v2 v3 v4 v5 v6 v8 = some o) {H : Heap} {locs : List Loc} {ls : Array Slot} (w : Wd s D A (wdC τ σ ad) H locs) (hl : lv_has ls 10 [(0, .ref (ad 65)), (1, .int v1), (2, .int v2), (3, .int v3), (4, .ref (ad v4)), (5, .ref (ad v5)), (6, .long v6), (8, .long v8)]) : W p l e R s m args below meth c H locs 0 0 (QV below args s A D τ (wdC τ o ad)) (F0 m 134 ls []) := by
  obtain ⟨c51, h⟩ := ck_some h
  obtain ⟨c52, h⟩ := ck_some h
  refine lv_lload E.x E.b d_Sha_cutBy_134 (lv_at hl 6 rfl) ?_
  refine lv_lconst (v := 0) E.x E.b d_Sha_cutBy_136 (by decide) ?_
  refine W.lcmp E.x E.b d_Sha_cutBy_137 ?_
  refine lv_if_ge (tgt := 174) E.x E.b d_Sha_cutBy_138 (by decide) (fun c => ?_) (fun c => ?_)
  ·
    replace h := ifT (lgc_ge.mp c) h
    exact bt_Sha_cutBy_174 E hret o rc_4 hr_4 σ v1 v2 v3 h w (lv_sub hl [0, 1, 2, 3] rfl)
  ·
    replace h := ifF (fun h9 => c (lgc_ge.mpr h9)) h
    refine lv_lload E.x E.b d_Sha_cutBy_141 (lv_at hl 7 rfl) ?_
    refine lv_lconst (v := 0) E.x E.b d_Sha_cutBy_143 (by decide) ?_
    refine W.lcmp E.x E.b d_Sha_cutBy_144 ?_
    refine lv_if_lt (tgt := 174) E.x E.b d_Sha_cutBy_145 (by decide) (fun c => ?_) (fun c => ?_)
    ·
      replace h := ifT (lgc_lt.mp c) h
      exact bt_Sha_cutBy_174 E hret o rc_4 hr_4 σ v1 v2 v3 h w (lv_sub hl [0, 1, 2, 3] rfl)
    ·
      replace h := ifF (fun h9 => c (lgc_lt.mpr h9)) h
      refine lv_iload_n E.x E.b d_Sha_cutBy_148 rfl (lv_at hl 2 rfl) ?_
      refine lv_bipush (v := 8) E.x E.b d_Sha_cutBy_149 (by decide) ?_
      refine lv_icmp_ge (tgt := 174) E.x E.b d_Sha_cutBy_151 (by decide) (fun c => ?_) (fun c => ?_)
      ·
        replace h := ifT c h
        exact bt_Sha_cutBy_174 E hret o rc_4 hr_4 σ v1 v2 v3 h w (lv_sub hl [0, 1, 2, 3] rfl)
      ·
        replace h := ifF c h
        refine lv_aload E.x E.b d_Sha_cutBy_154 (lv_at hl 5 rfl) ?_
        refine lv_aload E.x E.b d_Sha_cutBy_156 (lv_at hl 4 rfl) ?_
        refine lv_lload E.x E.b d_Sha_cutBy_158 (lv_at hl 7 rfl) ?_
        refine lv_lload E.x E.b d_Sha_cutBy_160 (lv_at hl 6 rfl) ?_
        refine lv_aload_n E.x E.b d_Sha_cutBy_162 rfl (lv_at hl 0 rfl) ?_
        refine gC_Sha_spare E w k298 d_Sha_cutBy_163 ?_
        obtain ⟨nn53, e_nn53, h⟩ := lt_some h
        refine wr_e (v := ad (54 + nn53)) (by rw [e_nn53]) ?_
        obtain ⟨c54, h⟩ := ck_some h
        refine lv_iload_n E.x E.b d_Sha_cutBy_166 rfl (lv_at hl 2 rfl) ?_
        obtain ⟨c55, h⟩ := ck_some h
        refine aalC E w (v := nn53) c54 c55 d_Sha_cutBy_167 ?_
        obtain ⟨ar_56, e_ar_56, h⟩ := lt_some h
        refine wr_e (v := ad ar_56) (by rw [e_ar_56]) ?_
        obtain ⟨c57, h⟩ := ck_some h
        obtain ⟨o58, h_o58, h⟩ := bd_some h
        refine clS_Sha_between E w (ar0 := v5) (ar1 := v4) (x2 := v8) (x3 := v6) (ar4 := ar_56) h_o58 k1148 (by decide) hl.1 (Nat.le_of_ble_eq_true rfl) d_Sha_cutBy_168 (fun H locs w => ?_)
        obtain ⟨y59, e_y59, h⟩ := lt_some h
        refine lv_iinc (v := y59) (lv' := [(2, .int y59), (0, .ref (ad 65)), (1, .int v1), (3, .int v3), (4, .ref (ad v4)), (5, .ref (ad v5)), (6, .long v6), (8, .long v8)]) E.x E.b d_Sha_cutBy_171 hl (k := 2) rfl (e_y59) (by decide) rfl (fun ls hl => ?_)
        exact bt_Sha_cutBy_174 E hret o rc_4 hr_4 o58 v1 y59 v3 h w (lv_sub hl [1, 2, 0, 3] rfl)
def F_Sha_cutBy_91 (rc_4 : Sg → Int32 → Int32 → Int32 → Option (Sg)) (σ : Sg) (v1 : Int32) (v2 : Int32) (v3 : Int32) (v4 : Nat) (v5 : Nat) (v6 : Int64) (v8 : Int64) : Option (Sg) := ck (v4 < 47) (ck (v5 < 47) (if v6 < 0 then (F_Sha_cutBy_134 rc_4 σ v1 v2 v3 v4 v5 v6 v8) else (if 0 ≤ v8 then (F_Sha_cutBy_134 rc_4 σ v1 v2 v3 v4 v5 v6 v8) else (if 8 ≤ v2 then (F_Sha_cutBy_134 rc_4 σ v1 v2 v3 v4 v5 v6 v8) else (lt (σ.2.2.2.2 6) (fun nn62 => ck (nn62 < 2) (ck (inb v2 8) (lt (31 + 8 * nn62 + v2.toNatClampNeg) (fun ar_65 => ck (ar_65 < 47) (bd (F_Sha_between σ v4 v5 v6 v8 ar_65) (fun o67 => lt (v2 + 1) (fun y68 => F_Sha_cutBy_174 rc_4 o67 v1 y68 v3))))))))))))
set_option maxRecDepth 10000 in
set_option maxHeartbeats 4000000 in
theorem bt_Sha_cutBy_91 {p : Program} {l : Launch} {e : Env} {R : Room} {s : State} {m : MethodId} {args : Array Value} {below : List Frame} {meth : Method} {c : Code} {D : va_G} {τ : ClassId × ClassId × ClassId} {B : Nat} {A : Nat → Prop} {ad : Nat → Nat} (E : Cx p R s m args meth c prog_9_method_4_code 10 "DrawingMachine$Shape" 1 D τ B A) (hret : meth.sig.returnType = none) (o : Sg) (rc_4 : Sg → Int32 → Int32 → Int32 → Option (Sg)) (hr_4 : ∀ (σ : Sg) (v1 : Int32) (v2 : Int32) (v3 : Int32) (H : Heap) (locs : List Loc) (ls : Array Slot), rc_4 σ v1 v2 v3 = some o → Wd s D A (wdC τ σ ad) H locs → lv_has ls 10 [(0, .ref (ad 65)), (1, .int v1), (2, .int v2), (3, .int v3)] → W p l e R s m args below meth c H locs 0 0 (QV below args s A D τ (wdC τ o ad)) (F0 m 4 ls [])) (σ : Sg) (v1 : Int32) (v2 : Int32) (v3 : Int32) (v4 : Nat) (v5 : Nat) (v6 : Int64) (v8 : Int64) (h : F_Sha_cutBy_91 rc_4 σ v1 v2 v3 v4 v5 v6 v8 = some o) {H : Heap} {locs : List Loc} {ls : Array Slot} (w : Wd s D A (wdC τ σ ad) H locs) (hl : lv_has ls 10 [(0, .ref (ad 65)), (1, .int v1), (2, .int v2), (3, .int v3), (4, .ref (ad v4)), (5, .ref (ad v5)), (6, .long v6), (8, .long v8)]) : W p l e R s m args below meth c H locs 0 0 (QV below args s A D τ (wdC τ o ad)) (F0 m 91 ls []) := by
  obtain ⟨c60, h⟩ := ck_some h
  obtain ⟨c61, h⟩ := ck_some h
  refine lv_lload E.x E.b d_Sha_cutBy_91 (lv_at hl 6 rfl) ?_
  refine lv_lconst (v := 0) E.x E.b d_Sha_cutBy_93 (by decide) ?_
  refine W.lcmp E.x E.b d_Sha_cutBy_94 ?_
  refine lv_if_lt (tgt := 134) E.x E.b d_Sha_cutBy_95 (by decide) (fun c => ?_) (fun c => ?_)
  ·
    replace h := ifT (lgc_lt.mp c) h
    exact bt_Sha_cutBy_134 E hret o rc_4 hr_4 σ v1 v2 v3 v4 v5 v6 v8 h w (lv_sub hl [0, 1, 2, 3, 4, 5, 6, 7] rfl)
  ·
    replace h := ifF (fun h9 => c (lgc_lt.mpr h9)) h
    refine lv_lload E.x E.b d_Sha_cutBy_98 (lv_at hl 7 rfl) ?_
    refine lv_lconst (v := 0) E.x E.b d_Sha_cutBy_100 (by decide) ?_
    refine W.lcmp E.x E.b d_Sha_cutBy_101 ?_
    refine lv_if_ge (tgt := 134) E.x E.b d_Sha_cutBy_102 (by decide) (fun c => ?_) (fun c => ?_)
    ·
      replace h := ifT (lgc_ge.mp c) h
      exact bt_Sha_cutBy_134 E hret o rc_4 hr_4 σ v1 v2 v3 v4 v5 v6 v8 h w (lv_sub hl [0, 1, 2, 3, 4, 5, 6, 7] rfl)
    ·
      replace h := ifF (fun h9 => c (lgc_ge.mpr h9)) h
      refine lv_iload_n E.x E.b d_Sha_cutBy_105 rfl (lv_at hl 2 rfl) ?_
      refine lv_bipush (v := 8) E.x E.b d_Sha_cutBy_106 (by decide) ?_
      refine lv_icmp_ge (tgt := 134) E.x E.b d_Sha_cutBy_108 (by decide) (fun c => ?_) (fun c => ?_)
      ·
        replace h := ifT c h
        exact bt_Sha_cutBy_134 E hret o rc_4 hr_4 σ v1 v2 v3 v4 v5 v6 v8 h w (lv_sub hl [0, 1, 2, 3, 4, 5, 6, 7] rfl)
      ·
        replace h := ifF c h
        refine lv_aload E.x E.b d_Sha_cutBy_111 (lv_at hl 4 rfl) ?_
        refine lv_aload E.x E.b d_Sha_cutBy_113 (lv_at hl 5 rfl) ?_
        refine lv_lload E.x E.b d_Sha_cutBy_115 (lv_at hl 6 rfl) ?_
        refine lv_lload E.x E.b d_Sha_cutBy_117 (lv_at hl 7 rfl) ?_
        refine lv_aload_n E.x E.b d_Sha_cutBy_119 rfl (lv_at hl 0 rfl) ?_
        refine gC_Sha_spare E w k298 d_Sha_cutBy_120 ?_
        obtain ⟨nn62, e_nn62, h⟩ := lt_some h
        refine wr_e (v := ad (54 + nn62)) (by rw [e_nn62]) ?_
        obtain ⟨c63, h⟩ := ck_some h
        refine lv_iload_n E.x E.b d_Sha_cutBy_123 rfl (lv_at hl 2 rfl) ?_
        obtain ⟨c64, h⟩ := ck_some h
        refine aalC E w (v := nn62) c63 c64 d_Sha_cutBy_124 ?_
        obtain ⟨ar_65, e_ar_65, h⟩ := lt_some h
        refine wr_e (v := ad ar_65) (by rw [e_ar_65]) ?_
        obtain ⟨c66, h⟩ := ck_some h
        obtain ⟨o67, h_o67, h⟩ := bd_some h
        refine clS_Sha_between E w (ar0 := v4) (ar1 := v5) (x2 := v6) (x3 := v8) (ar4 := ar_65) h_o67 k1148 (by decide) hl.1 (Nat.le_of_ble_eq_true rfl) d_Sha_cutBy_125 (fun H locs w => ?_)
        obtain ⟨y68, e_y68, h⟩ := lt_some h
        refine lv_iinc (v := y68) (lv' := [(2, .int y68), (0, .ref (ad 65)), (1, .int v1), (3, .int v3), (4, .ref (ad v4)), (5, .ref (ad v5)), (6, .long v6), (8, .long v8)]) E.x E.b d_Sha_cutBy_128 hl (k := 2) rfl (e_y68) (by decide) rfl (fun ls hl => ?_)
        refine lv_goto (tgt := 174) E.x E.b d_Sha_cutBy_131 (by decide) ?_
        exact bt_Sha_cutBy_174 E hret o rc_4 hr_4 o67 v1 y68 v3 h w (lv_sub hl [1, 2, 0, 3] rfl)
def F_Sha_cutBy_41 (rc_4 : Sg → Int32 → Int32 → Int32 → Option (Sg)) (σ : Sg) (v1 : Int32) (v2 : Int32) (v3 : Int32) (v4 : Nat) (s0 : Nat) (s1 : Int32) : Option (Sg) := ck (v4 < 47) (ck (s0 < 2) (ck (inb s1 8) (lt (31 + 8 * s0 + s1.toNatClampNeg) (fun ar_72 => ck (ar_72 < 47) (bd (F_Sha_inside σ v4 v1) (fun o74 => bd (F_Sha_inside σ ar_72 v1) (fun o75 => if o74 < 0 then (F_Sha_cutBy_91 rc_4 σ v1 v2 v3 v4 ar_72 o74 o75) else (if 8 ≤ v2 then (F_Sha_cutBy_91 rc_4 σ v1 v2 v3 v4 ar_72 o74 o75) else (lt (σ.2.2.2.2 6) (fun nn76 => ck (nn76 < 2) (ck (inb v2 8) (lt (31 + 8 * nn76 + v2.toNatClampNeg) (fun ar_79 => ck (ar_79 < 47) (ck (cpok 0 0 32 (lenC σ v4) (lenC σ ar_79)) (lt (sA σ ar_79 (va_cpy (σ.2.2.1 v4) (σ.2.2.1 ar_79) (0 : Int32).toNatClampNeg (0 : Int32).toNatClampNeg (32 : Int32).toNatClampNeg)) (fun σ82 => lt (v2 + 1) (fun y83 => F_Sha_cutBy_91 rc_4 σ82 v1 y83 v3 v4 ar_72 o74 o75)))))))))))))))))
set_option maxRecDepth 10000 in
set_option maxHeartbeats 4000000 in
theorem bt_Sha_cutBy_41 {p : Program} {l : Launch} {e : Env} {R : Room} {s : State} {m : MethodId} {args : Array Value} {below : List Frame} {meth : Method} {c : Code} {D : va_G} {τ : ClassId × ClassId × ClassId} {B : Nat} {A : Nat → Prop} {ad : Nat → Nat} (E : Cx p R s m args meth c prog_9_method_4_code 10 "DrawingMachine$Shape" 1 D τ B A) (hret : meth.sig.returnType = none) (o : Sg) (rc_4 : Sg → Int32 → Int32 → Int32 → Option (Sg)) (hr_4 : ∀ (σ : Sg) (v1 : Int32) (v2 : Int32) (v3 : Int32) (H : Heap) (locs : List Loc) (ls : Array Slot), rc_4 σ v1 v2 v3 = some o → Wd s D A (wdC τ σ ad) H locs → lv_has ls 10 [(0, .ref (ad 65)), (1, .int v1), (2, .int v2), (3, .int v3)] → W p l e R s m args below meth c H locs 0 0 (QV below args s A D τ (wdC τ o ad)) (F0 m 4 ls [])) (σ : Sg) (v1 : Int32) (v2 : Int32) (v3 : Int32) (v4 : Nat) (s0 : Nat) (s1 : Int32) (h : F_Sha_cutBy_41 rc_4 σ v1 v2 v3 v4 s0 s1 = some o) {H : Heap} {locs : List Loc} {ls : Array Slot} (w : Wd s D A (wdC τ σ ad) H locs) (hl : lv_has ls 10 [(0, .ref (ad 65)), (1, .int v1), (2, .int v2), (3, .int v3), (4, .ref (ad v4))]) : W p l e R s m args below meth c H locs 0 0 (QV below args s A D τ (wdC τ o ad)) (F0 m 41 ls [.int s1, .ref (ad (54 + s0))]) := by
  obtain ⟨c69, h⟩ := ck_some h
  obtain ⟨c70, h⟩ := ck_some h
  obtain ⟨c71, h⟩ := ck_some h
  refine aalC E w (v := s0) c70 c71 d_Sha_cutBy_41 ?_
  obtain ⟨ar_72, e_ar_72, h⟩ := lt_some h
  refine wr_e (v := ad ar_72) (by rw [e_ar_72]) ?_
  obtain ⟨c73, h⟩ := ck_some h
  refine lv_astore (lv' := [(5, .ref (ad ar_72)), (0, .ref (ad 65)), (1, .int v1), (2, .int v2), (3, .int v3), (4, .ref (ad v4))]) E.x E.b d_Sha_cutBy_42 hl (by decide) rfl (fun ls hl => ?_)
  refine lv_aload E.x E.b d_Sha_cutBy_44 (lv_at hl 5 rfl) ?_
  refine lv_iload_n E.x E.b d_Sha_cutBy_46 rfl (lv_at hl 2 rfl) ?_
  obtain ⟨o74, h_o74, h⟩ := bd_some h
  refine clS_Sha_inside E w (ar0 := v4) (x1 := v1) h_o74 k1144 (by decide) hl.1 (Nat.le_of_ble_eq_true rfl) d_Sha_cutBy_47 (fun H locs w => ?_)
  refine lv_lstore (lv' := [(6, .long o74), (5, .ref (ad ar_72)), (0, .ref (ad 65)), (1, .int v1), (2, .int v2), (3, .int v3), (4, .ref (ad v4))]) E.x E.b d_Sha_cutBy_50 hl (by decide) rfl (fun ls hl => ?_)
  refine lv_aload E.x E.b d_Sha_cutBy_52 (lv_at hl 1 rfl) ?_
  refine lv_iload_n E.x E.b d_Sha_cutBy_54 rfl (lv_at hl 3 rfl) ?_
  obtain ⟨o75, h_o75, h⟩ := bd_some h
  refine clS_Sha_inside E w (ar0 := ar_72) (x1 := v1) h_o75 k1144 (by decide) hl.1 (Nat.le_of_ble_eq_true rfl) d_Sha_cutBy_55 (fun H locs w => ?_)
  refine lv_lstore (lv' := [(8, .long o75), (6, .long o74), (5, .ref (ad ar_72)), (0, .ref (ad 65)), (1, .int v1), (2, .int v2), (3, .int v3), (4, .ref (ad v4))]) E.x E.b d_Sha_cutBy_58 hl (by decide) rfl (fun ls hl => ?_)
  refine lv_lload E.x E.b d_Sha_cutBy_60 (lv_at hl 1 rfl) ?_
  refine lv_lconst (v := 0) E.x E.b d_Sha_cutBy_62 (by decide) ?_
  refine W.lcmp E.x E.b d_Sha_cutBy_63 ?_
  refine lv_if_lt (tgt := 91) E.x E.b d_Sha_cutBy_64 (by decide) (fun c => ?_) (fun c => ?_)
  ·
    replace h := ifT (lgc_lt.mp c) h
    exact bt_Sha_cutBy_91 E hret o rc_4 hr_4 σ v1 v2 v3 v4 ar_72 o74 o75 h w (lv_sub hl [3, 4, 5, 6, 7, 2, 1, 0] rfl)
  ·
    replace h := ifF (fun h9 => c (lgc_lt.mpr h9)) h
    refine lv_iload_n E.x E.b d_Sha_cutBy_67 rfl (lv_at hl 5 rfl) ?_
    refine lv_bipush (v := 8) E.x E.b d_Sha_cutBy_68 (by decide) ?_
    refine lv_icmp_ge (tgt := 91) E.x E.b d_Sha_cutBy_70 (by decide) (fun c => ?_) (fun c => ?_)
    ·
      replace h := ifT c h
      exact bt_Sha_cutBy_91 E hret o rc_4 hr_4 σ v1 v2 v3 v4 ar_72 o74 o75 h w (lv_sub hl [3, 4, 5, 6, 7, 2, 1, 0] rfl)
    ·
      replace h := ifF c h
      refine lv_aload E.x E.b d_Sha_cutBy_73 (lv_at hl 7 rfl) ?_
      refine lv_iconst (v := 0) E.x E.b d_Sha_cutBy_75 (by decide) ?_
      refine lv_aload_n E.x E.b d_Sha_cutBy_76 rfl (lv_at hl 3 rfl) ?_
      refine gC_Sha_spare E w k298 d_Sha_cutBy_77 ?_
      obtain ⟨nn76, e_nn76, h⟩ := lt_some h
      refine wr_e (v := ad (54 + nn76)) (by rw [e_nn76]) ?_
      obtain ⟨c77, h⟩ := ck_some h
      refine lv_iload_n E.x E.b d_Sha_cutBy_80 rfl (lv_at hl 5 rfl) ?_
      obtain ⟨c78, h⟩ := ck_some h
      refine aalC E w (v := nn76) c77 c78 d_Sha_cutBy_81 ?_
      obtain ⟨ar_79, e_ar_79, h⟩ := lt_some h
      refine wr_e (v := ad ar_79) (by rw [e_ar_79]) ?_
      obtain ⟨c80, h⟩ := ck_some h
      refine lv_iconst (v := 0) E.x E.b d_Sha_cutBy_82 (by decide) ?_
      refine lv_bipush (v := 32) E.x E.b d_Sha_cutBy_83 (by decide) ?_
      obtain ⟨c81, h⟩ := ck_some h
      obtain ⟨σ82, e_σ82, h⟩ := lt_some h
      refine cpyC E w hl.1 k1135 k645 k644 k31 (k0 := v4) (k1 := ar_79) c69 c80 c81 e_σ82 (Nat.le_of_ble_eq_true rfl) d_Sha_cutBy_85 (fun H locs w => ?_)
      obtain ⟨y83, e_y83, h⟩ := lt_some h
      refine lv_iinc (v := y83) (lv' := [(2, .int y83), (8, .long o75), (6, .long o74), (5, .ref (ad ar_72)), (0, .ref (ad 65)), (1, .int v1), (3, .int v3), (4, .ref (ad v4))]) E.x E.b d_Sha_cutBy_88 hl (k := 5) rfl (e_y83) (by decide) rfl (fun ls hl => ?_)
      exact bt_Sha_cutBy_91 E hret o rc_4 hr_4 σ82 v1 y83 v3 v4 ar_72 o74 o75 h w (lv_sub hl [4, 5, 0, 6, 7, 3, 2, 1] rfl)
def L_Sha_cutBy_4 : Nat → Sg → Int32 → Int32 → Int32 → Option (Sg)
  | 0, _, _, _, _ => none
  | n + 1, σ, v1, v2, v3 => if (σ.1 16) ≤ v3 then (if 3 ≤ v2 then (F_Sha_cutBy_191 σ v2) else (F_Sha_cutBy_191 σ 0)) else (lt (σ.2.2.2.2 5) (fun nn84 => ck (nn84 < 2) (ck (inb v3 8) (lt (31 + 8 * nn84 + v3.toNatClampNeg) (fun ar_87 => ck (ar_87 < 47) (lt (σ.2.2.2.2 5) (fun nn89 => ck (nn89 < 2) (if (σ.1 16) ≤ (v3 + 1) then (F_Sha_cutBy_41 (L_Sha_cutBy_4 n) σ v1 v2 v3 ar_87 nn89 0) else (F_Sha_cutBy_41 (L_Sha_cutBy_4 n) σ v1 v2 v3 ar_87 nn89 (v3 + 1))))))))))
set_option maxRecDepth 10000 in
set_option maxHeartbeats 4000000 in
theorem lt_Sha_cutBy_4 {p : Program} {l : Launch} {e : Env} {R : Room} {s : State} {m : MethodId} {args : Array Value} {below : List Frame} {meth : Method} {c : Code} {D : va_G} {τ : ClassId × ClassId × ClassId} {B : Nat} {A : Nat → Prop} {ad : Nat → Nat} (E : Cx p R s m args meth c prog_9_method_4_code 10 "DrawingMachine$Shape" 1 D τ B A) (hret : meth.sig.returnType = none) (o : Sg) : ∀ (n : Nat) (σ : Sg) (v1 : Int32) (v2 : Int32) (v3 : Int32) (H : Heap) (locs : List Loc) (ls : Array Slot), L_Sha_cutBy_4 n σ v1 v2 v3 = some o → Wd s D A (wdC τ σ ad) H locs → lv_has ls 10 [(0, .ref (ad 65)), (1, .int v1), (2, .int v2), (3, .int v3)] → W p l e R s m args below meth c H locs 0 0 (QV below args s A D τ (wdC τ o ad)) (F0 m 4 ls []) := by
  intro n
  induction n with
  | zero =>
    intro σ v1 v2 v3 H locs ls h w hl
    cases h
  | succ n hr_4 =>
    intro σ v1 v2 v3 H locs ls h w hl
    refine lv_iload_n E.x E.b d_Sha_cutBy_4 rfl (lv_at hl 3 rfl) ?_
    refine lv_aload_n E.x E.b d_Sha_cutBy_5 rfl (lv_at hl 0 rfl) ?_
    refine gC_Sha_many E w k286 d_Sha_cutBy_6 ?_
    refine lv_icmp_ge (tgt := 180) E.x E.b d_Sha_cutBy_9 (by decide) (fun c => ?_) (fun c => ?_)
    ·
      replace h := ifT c h
      refine lv_aload_n E.x E.b d_Sha_cutBy_180 rfl (lv_at hl 0 rfl) ?_
      refine lv_iload_n E.x E.b d_Sha_cutBy_181 rfl (lv_at hl 2 rfl) ?_
      refine lv_iconst (v := 3) E.x E.b d_Sha_cutBy_182 (by decide) ?_
      refine lv_icmp_ge (tgt := 190) E.x E.b d_Sha_cutBy_183 (by decide) (fun c => ?_) (fun c => ?_)
      ·
        replace h := ifT c h
        refine lv_iload_n E.x E.b d_Sha_cutBy_190 rfl (lv_at hl 2 rfl) ?_
        exact bt_Sha_cutBy_191 E hret o σ v2 h w (lv_sub hl [0] rfl)
      ·
        replace h := ifF c h
        refine lv_iconst (v := 0) E.x E.b d_Sha_cutBy_186 (by decide) ?_
        refine lv_goto (tgt := 191) E.x E.b d_Sha_cutBy_187 (by decide) ?_
        exact bt_Sha_cutBy_191 E hret o σ 0 h w (lv_sub hl [0] rfl)
    ·
      replace h := ifF c h
      refine lv_aload_n E.x E.b d_Sha_cutBy_12 rfl (lv_at hl 0 rfl) ?_
      refine gC_Sha_corners E w k288 d_Sha_cutBy_13 ?_
      obtain ⟨nn84, e_nn84, h⟩ := lt_some h
      refine wr_e (v := ad (54 + nn84)) (by rw [e_nn84]) ?_
      obtain ⟨c85, h⟩ := ck_some h
      refine lv_iload_n E.x E.b d_Sha_cutBy_16 rfl (lv_at hl 3 rfl) ?_
      obtain ⟨c86, h⟩ := ck_some h
      refine aalC E w (v := nn84) c85 c86 d_Sha_cutBy_17 ?_
      obtain ⟨ar_87, e_ar_87, h⟩ := lt_some h
      refine wr_e (v := ad ar_87) (by rw [e_ar_87]) ?_
      obtain ⟨c88, h⟩ := ck_some h
      refine lv_astore (lv' := [(4, .ref (ad ar_87)), (0, .ref (ad 65)), (1, .int v1), (2, .int v2), (3, .int v3)]) E.x E.b d_Sha_cutBy_18 hl (by decide) rfl (fun ls hl => ?_)
      refine lv_aload_n E.x E.b d_Sha_cutBy_20 rfl (lv_at hl 1 rfl) ?_
      refine gC_Sha_corners E w k288 d_Sha_cutBy_21 ?_
      obtain ⟨nn89, e_nn89, h⟩ := lt_some h
      refine wr_e (v := ad (54 + nn89)) (by rw [e_nn89]) ?_
      obtain ⟨c90, h⟩ := ck_some h
      refine lv_iload_n E.x E.b d_Sha_cutBy_24 rfl (lv_at hl 4 rfl) ?_
      refine lv_iconst (v := 1) E.x E.b d_Sha_cutBy_25 (by decide) ?_
      refine lv_iadd E.x E.b d_Sha_cutBy_26 ?_
      refine lv_aload_n E.x E.b d_Sha_cutBy_27 rfl (lv_at hl 1 rfl) ?_
      refine gC_Sha_many E w k286 d_Sha_cutBy_28 ?_
      refine lv_icmp_ge (tgt := 40) E.x E.b d_Sha_cutBy_31 (by decide) (fun c => ?_) (fun c => ?_)
      ·
        replace h := ifT c h
        refine lv_iconst (v := 0) E.x E.b d_Sha_cutBy_40 (by decide) ?_
        exact bt_Sha_cutBy_41 E hret o (L_Sha_cutBy_4 n) hr_4 σ v1 v2 v3 ar_87 nn89 0 h w (lv_sub hl [1, 2, 3, 4, 0] rfl)
      ·
        replace h := ifF c h
        refine lv_iload_n E.x E.b d_Sha_cutBy_34 rfl (lv_at hl 4 rfl) ?_
        refine lv_iconst (v := 1) E.x E.b d_Sha_cutBy_35 (by decide) ?_
        refine lv_iadd E.x E.b d_Sha_cutBy_36 ?_
        refine lv_goto (tgt := 41) E.x E.b d_Sha_cutBy_37 (by decide) ?_
        exact bt_Sha_cutBy_41 E hret o (L_Sha_cutBy_4 n) hr_4 σ v1 v2 v3 ar_87 nn89 (v3 + 1) h w (lv_sub hl [1, 2, 3, 4, 0] rfl)
def F_Sha_cutBy (σ : Sg) (x0 : Int32) : Option (Sg) := L_Sha_cutBy_4 100000 σ x0 0 0
set_option maxRecDepth 10000 in
set_option maxHeartbeats 4000000 in
theorem c_Sha_cutBy (l : Launch) (D : va_G) (τ : ClassId × ClassId × ClassId) (B : Nat) (σ : Sg) (ad : Nat → Nat) (x0 : Int32) (o : Sg) (h : F_Sha_cutBy σ x0 = some o) : MV l y_Sha_cutBy (Cond.code y_Sha_cutBy prog_9_method_4_code 10 none) 1 D τ B [.ref (ad 65), .int x0] (wdC τ σ ad) (wdC τ o ad) := by
  refine en_v (by decide) (Nat.le_of_ble_eq_true rfl) ?_
  intro p e R s m args below meth c H locs ls A E hret w hl
  have E : Cx p R s m args meth c prog_9_method_4_code 10 "DrawingMachine$Shape" 1 D τ B A := E
  have hl : lv_has ls 10 [(0, .ref (ad 65)), (1, .int x0)] := hl
  refine lv_iconst (v := 0) E.x E.b d_Sha_cutBy_0 (by decide) ?_
  refine lv_istore_n (lv' := [(2, .int 0), (0, .ref (ad 65)), (1, .int x0)]) E.x E.b d_Sha_cutBy_1 rfl hl (by decide) rfl (fun ls hl => ?_)
  refine lv_iconst (v := 0) E.x E.b d_Sha_cutBy_2 (by decide) ?_
  refine lv_istore_n (lv' := [(3, .int 0), (2, .int 0), (0, .ref (ad 65)), (1, .int x0)]) E.x E.b d_Sha_cutBy_3 rfl hl (by decide) rfl (fun ls hl => ?_)
  exact lt_Sha_cutBy_4 E hret o 100000 σ x0 0 0 _ _ _ h w (lv_sub hl [2, 3, 1, 0] rfl)
theorem clV_Sha_cutBy {p : Program} {l : Launch} {e : Env} {R : Room} {s : State} {m : MethodId} {args : Array Value} {below : List Frame} {meth : Method} {c : Code} {H : Heap} {locs : List Loc} {Q : State → Prop} {cc : ByteArray} {nL pc lev : Nat} {own : String} {D : va_G} {τ : ClassId × ClassId × ClassId} {B : Nat} {A : Nat → Prop} {σ : Sg} {ad : Nat → Nat} {ls : Array Slot} {rest : List Value} (E : Cx p R s m args meth c cc nL own lev D τ B A) (w : Wd s D A (wdC τ σ ad) H locs) {x0 : Int32} {o : Sg} (h : F_Sha_cutBy σ x0 = some o) {index : Nat} (hlk : Cond.methodLink own index y_Sha_cutBy ∈ tw) (hlev : 1 < lev) (hsz : ls.size = nL) (hr : (rest.map fun v => v.category).sum ≤ 8) (hd : decode cc pc = .ok (.invokevirtual index, 3)) (kk : ∀ (H1 : Heap) (locs1 : List Loc), Wd s D A (wdC τ o ad) H1 locs1 → W p l e R s m args below meth c H1 locs1 0 0 Q (F0 m (pc + 3) ls (rest))) : W p l e R s m args below meth c H locs 0 0 Q (F0 m pc ls (.int x0 :: .ref (ad 65) :: rest)) :=
  cr_v w E.C (va_runV (As := [.int x0]) (rest := rest) E.fix (c_Sha_cutBy l D τ B σ ad x0 o h H.size) (cwV 1 E.w (tw_pre (tw_good k1143) (l := [_, _, _, _]) (List.forall_mem_cons.mpr ⟨hlk, List.forall_mem_cons.mpr ⟨k1142, List.forall_mem_cons.mpr ⟨ks22, List.forall_mem_cons.mpr ⟨k11, fun _ h => absurd h List.not_mem_nil⟩⟩⟩⟩)) rfl rfl rfl (by decide +kernel) (E.rm hlev (by decide))) (wd_preV w E.C [.int x0] rcC_Sha rfl) rfl rfl hsz rfl (lv_room hr) hd ⟨Nat.zero_le _, Nat.zero_le _⟩) kk
