def wdG (τ : ClassId × ClassId × ClassId) (σ : Sg) (ad : Nat → Nat) (f54 f55 : Nat → Option Nat) (p2 p3 p4 q5 q6 : Nat) : va_W := [(ad 0, .inl (τ.1, 4096, .inl (σ.2.2.1 0))),
  (ad 1, .inl (τ.1, 245, .inl (σ.2.2.1 1))),
  (ad 2, .inl (τ.1, σ.2.2.2.2 0, .inl (σ.2.2.1 2))),
  (ad 3, .inl (τ.1, σ.2.2.2.2 0, .inl (σ.2.2.1 3))),
  (ad 4, .inl (τ.1, σ.2.2.2.2 0, .inl (σ.2.2.1 4))),
  (ad 5, .inl (τ.1, 8, .inl (σ.2.2.1 5))),
  (ad 6, .inl (τ.1, 4, .inl (σ.2.2.1 6))),
  (ad 7, .inl (τ.1, σ.2.2.2.2 1, .inl (σ.2.2.1 7))),
  (ad 8, .inl (τ.1, 256, .inl (σ.2.2.1 8))),
  (ad 9, .inl (τ.1, 4, .inl (σ.2.2.1 9))),
  (ad 10, .inl (τ.1, 260, .inl (σ.2.2.1 10))),
  (ad 11, .inl (τ.1, 4, .inl (σ.2.2.1 11))),
  (ad 12, .inl (τ.1, 4, .inl (σ.2.2.1 12))),
  (ad 13, .inl (τ.1, 4, .inl (σ.2.2.1 13))),
  (ad 14, .inl (τ.1, 4, .inl (σ.2.2.1 14))),
  (ad 15, .inl (τ.1, 4, .inl (σ.2.2.1 15))),
  (ad 16, .inl (τ.1, 4, .inl (σ.2.2.1 16))),
  (ad 17, .inl (τ.1, 4, .inl (σ.2.2.1 17))),
  (ad 18, .inl (τ.1, 4, .inl (σ.2.2.1 18))),
  (ad 19, .inl (τ.1, 4, .inl (σ.2.2.1 19))),
  (ad 20, .inl (τ.1, 4, .inl (σ.2.2.1 20))),
  (ad 21, .inl (τ.1, 768, .inl (σ.2.2.1 21))),
  (ad 22, .inl (τ.1, 768, .inl (σ.2.2.1 22))),
  (ad 23, .inl (τ.1, 768, .inl (σ.2.2.1 23))),
  (ad 24, .inl (τ.1, 8, .inl (σ.2.2.1 24))),
  (ad 25, .inl (τ.1, 8, .inl (σ.2.2.1 25))),
  (ad 26, .inl (τ.1, 8, .inl (σ.2.2.1 26))),
  (ad 27, .inl (τ.1, 8, .inl (σ.2.2.1 27))),
  (ad 28, .inl (τ.1, 3, .inl (σ.2.2.1 28))),
  (ad 29, .inl (τ.1, 9, .inl (σ.2.2.1 29))),
  (ad 30, .inl (τ.1, 8, .inl (σ.2.2.1 30))),
  (ad 31, .inl (τ.1, 32, .inl (σ.2.2.1 31))),
  (ad 32, .inl (τ.1, 32, .inl (σ.2.2.1 32))),
  (ad 33, .inl (τ.1, 32, .inl (σ.2.2.1 33))),
  (ad 34, .inl (τ.1, 32, .inl (σ.2.2.1 34))),
  (ad 35, .inl (τ.1, 32, .inl (σ.2.2.1 35))),
  (ad 36, .inl (τ.1, 32, .inl (σ.2.2.1 36))),
  (ad 37, .inl (τ.1, 32, .inl (σ.2.2.1 37))),
  (ad 38, .inl (τ.1, 32, .inl (σ.2.2.1 38))),
  (ad 39, .inl (τ.1, 32, .inl (σ.2.2.1 39))),
  (ad 40, .inl (τ.1, 32, .inl (σ.2.2.1 40))),
  (ad 41, .inl (τ.1, 32, .inl (σ.2.2.1 41))),
  (ad 42, .inl (τ.1, 32, .inl (σ.2.2.1 42))),
  (ad 43, .inl (τ.1, 32, .inl (σ.2.2.1 43))),
  (ad 44, .inl (τ.1, 32, .inl (σ.2.2.1 44))),
  (ad 45, .inl (τ.1, 32, .inl (σ.2.2.1 45))),
  (ad 46, .inl (τ.1, 32, .inl (σ.2.2.1 46))),
  (ad 47, .inl (τ.2.1, 5, .inr (.inl (σ.2.2.2.1 0)))),
  (ad 48, .inl (τ.2.1, 3, .inr (.inl (σ.2.2.2.1 1)))),
  (ad 49, .inl (τ.2.1, 3, .inr (.inl (σ.2.2.2.1 2)))),
  (ad 50, .inl (τ.2.1, 3, .inr (.inl (σ.2.2.2.1 3)))),
  (ad 51, .inl (τ.2.1, 3, .inr (.inl (σ.2.2.2.1 4)))),
  (ad 52, .inl (τ.2.1, 3, .inr (.inl (σ.2.2.2.1 5)))),
  (ad 53, .inl (τ.2.1, 3, .inr (.inl (σ.2.2.2.1 6)))),
  (ad 54, .inl (τ.2.2, 8, .inr (.inr (.inr (.inr f54))))),
  (ad 55, .inl (τ.2.2, 8, .inr (.inr (.inr (.inr f55))))),
  (ad 56, .inr (0, [.ref (ad 0), .ref (ad 57), .ref (ad 58), .ref (ad 59), .ref (ad 60), .ref (ad 61), .ref p2, .ref p3, .ref p4])),
  (ad 57, .inr (1, [.ref (ad 1)])),
  (ad 58, .inr (2, [.int (σ.1 0), .int (σ.1 1), .ref (ad 2), .ref (ad 3), .ref (ad 4), .ref (ad 57), .ref (ad 1)])),
  (ad 59, .inr (3, [.ref (ad 5), .int (σ.1 2), .int (σ.1 3), .int (σ.1 4), .int (σ.1 5), .int (σ.1 6), .int (σ.1 7), .int (σ.1 8), .int (σ.1 9), .long (σ.2.1 0), .ref (ad 0), .ref (ad 6), .ref (ad 7), .int (σ.1 10), .int (σ.1 11)])),
  (ad 60, .inr (4, [.int (σ.1 12), .int (σ.1 13), .ref (ad 8), .ref (ad 9), .ref (ad 47), .int (σ.1 14), .long (σ.2.1 1)])),
  (ad 61, .inr (5, [.ref (ad 29), .ref (ad 30), .int (σ.1 15), .ref (ad 1), .ref (ad 58), .ref (ad 62), .ref (ad 64), .ref (ad 65), .ref (ad 66)])),
  (ad 62, .inr (6, [.ref (ad 10), .ref (ad 0), .ref (ad 63), .ref (ad 11), .ref (ad 12), .ref (ad 13), .ref (ad 14), .ref (ad 15), .ref (ad 16)])),
  (ad 63, .inr (7, [.ref (ad 0), .ref (ad 1), .ref (ad 17), .ref (ad 18), .ref (ad 19), .ref (ad 20)])),
  (ad 64, .inr (8, [.ref (ad 0), .ref (ad 1)])),
  (ad 65, .inr (9, [.int (σ.1 16), .ref q5, .ref (ad 24), .ref (ad 25), .ref (ad 26), .ref (ad 27), .ref q6, .ref (ad 1)])),
  (ad 66, .inr (10, [.int (σ.1 17), .int (σ.1 18), .int (σ.1 19), .int (σ.1 20), .int (σ.1 21), .ref (ad 65), .ref (ad 28), .ref (ad 48), .ref (ad 49), .ref (ad 50), .ref (ad 51), .ref (ad 52), .ref (ad 53), .long (σ.2.1 2), .long (σ.2.1 3)])),
  (ad 67, .inr (11, [.ref (ad 21), .int (σ.1 22), .int (σ.1 23), .int (σ.1 24)])),
  (ad 68, .inr (11, [.ref (ad 22), .int (σ.1 25), .int (σ.1 26), .int (σ.1 27)])),
  (ad 69, .inr (11, [.ref (ad 23), .int (σ.1 28), .int (σ.1 29), .int (σ.1 30)]))]
set_option maxRecDepth 10000 in
theorem wdC_up (τ : ClassId × ClassId × ClassId) (σ : Sg) (ad ad' : Nat → Nat) (h : ∀ k, 31 ≤ k → ad' k = ad k) : wdC τ σ ad' = wdG τ σ ad' (fun j => some (ad (31 + 0 + j))) (fun j => some (ad (31 + 8 + j))) (ad (67 + σ.2.2.2.2 2)) (ad (67 + σ.2.2.2.2 3)) (ad (67 + σ.2.2.2.2 4)) (ad (54 + σ.2.2.2.2 5)) (ad (54 + σ.2.2.2.2 6)) := by
  have e1 : (fun j => some (ad' (31 + 0 + j))) = (fun j => some (ad (31 + 0 + j))) := funext fun j => by rw [h _ (by omega)]
  have e2 : (fun j => some (ad' (31 + 8 + j))) = (fun j => some (ad (31 + 8 + j))) := funext fun j => by rw [h _ (by omega)]
  have e3 := h (67 + σ.2.2.2.2 2) (by omega)
  have e4 := h (67 + σ.2.2.2.2 3) (by omega)
  have e5 := h (67 + σ.2.2.2.2 4) (by omega)
  have e6 := h (54 + σ.2.2.2.2 5) (by omega)
  have e7 := h (54 + σ.2.2.2.2 6) (by omega)
  show wdG τ σ ad' (fun j => some (ad' (31 + 0 + j))) (fun j => some (ad' (31 + 8 + j))) (ad' (67 + σ.2.2.2.2 2)) (ad' (67 + σ.2.2.2.2 3)) (ad' (67 + σ.2.2.2.2 4)) (ad' (54 + σ.2.2.2.2 5)) (ad' (54 + σ.2.2.2.2 6)) = _
  rw [e1, e2, e3, e4, e5, e6, e7]
section LIFT
variable {p : Program} {l : Launch} {e : Env} {R : Room} {s : State} {m : MethodId} {args : Array Value} {below : List Frame} {meth : Method} {c : Code} {H : Heap} {locs : List Loc} {Q : State → Prop} {cells slots : Nat}
variable {cc : ByteArray} {nL pc lev : Nat} {own : String} {D : va_G} {τ : ClassId × ClassId × ClassId} {B : Nat} {A : Nat → Prop} {σ σ1 : Sg} {ad : Nat → Nat} {ls : Array Slot} {rest st0 : List Value} {ws ws' : va_W}
theorem crx_v {a : Array Value} (w : Wd s D A ws H locs) (hC : wC D τ B A s)
    (hr : va_Run p l e R s m args below meth c H locs cells slots 0 0 (F0 m pc ls st0) rest (va_Qv (S := Unit) (fun _ => True) (fun _ => wB D τ (va_A ws H.size) ws') (va_A ws H.size) a) (va_A ws H.size))
    (kk : ∀ (H1 : Heap) (locs1 : List Loc), Wd s D A ws' H1 locs1 → W p l e R s m args below meth c H1 locs1 cells slots Q (F0 m (pc + 3) ls rest)) : W p l e R s m args below meth c H locs cells slots Q (F0 m pc ls st0) := by
  refine wc_v (wr := []) (wc := ws) hC w.1 w.2.1 w.2.2 (List.range ws.length) [] (map_range ws) rfl rfl (fun i hi => by cases hi) hr (fun u H1 locs1 hw hP hD hS => ?_)
  exact kk H1 locs1 ⟨hP, hD, hS⟩
theorem xgC_DM_course (E : Cx p R s m args meth c cc nL own lev D τ B A) (w : Wd s D A (wdC τ σ ad) H locs) {index : Nat} (hlk : Cond.fieldLink own index "DrawingMachine" "course" "LDrawingMachine$Course;" ∈ tw) (hd : decode cc pc = .ok (.getfield index, 3)) (kk : W p l e R s m args below meth c H locs cells slots Q (F0 m (pc + 3) ls (.ref (ad 59) :: rest))) : W p l e R s m args below meth c H locs cells slots Q (F0 m pc ls (.ref (ad 56) :: rest)) := va_get (D := D) (ci := 0) (C := R_DM) (T := F_DM) (N := 9) E.1 E.2.1 E.w i_DM E.o E.K w.1 56 rfl rfl 3 (by decide) (E.w _ hlk) (fun _ h9 => h9) rfl hd kk
theorem xgC_Cou_words (E : Cx p R s m args meth c cc nL own lev D τ B A) (w : Wd s D A (wdC τ σ ad) H locs) {index : Nat} (hlk : Cond.fieldLink own index "DrawingMachine$Course" "words" "I" ∈ tw) (hd : decode cc pc = .ok (.getfield index, 3)) (kk : W p l e R s m args below meth c H locs cells slots Q (F0 m (pc + 3) ls (.int (σ.1 2) :: rest))) : W p l e R s m args below meth c H locs cells slots Q (F0 m pc ls (.ref (ad 59) :: rest)) := va_get (D := D) (ci := 3) (C := R_Cou) (T := F_Cou) (N := 15) E.1 E.2.1 E.w i_Cou E.o E.K w.1 59 rfl rfl 1 (by decide) (E.w _ hlk) (fun _ h9 => h9) rfl hd kk
theorem xclV_Cou_add {p : Program} {l : Launch} {e : Env} {R : Room} {s : State} {m : MethodId} {args : Array Value} {below : List Frame} {meth : Method} {c : Code} {H : Heap} {locs : List Loc} {Q : State → Prop} {cc : ByteArray} {nL pc lev : Nat} {own : String} {D : va_G} {τ : ClassId × ClassId × ClassId} {B : Nat} {A : Nat → Prop} {σ : Sg} {ad : Nat → Nat} {ls : Array Slot} {rest : List Value} {cells slots : Nat} (E : Cx p R s m args meth c cc nL own lev D τ B A) (w : Wd s D A (wdC τ σ ad) H locs) {x0 : Int32} {o : Sg} (h : F_Cou_add σ x0 = some o) {index : Nat} (hlk : Cond.methodLink own index y_Cou_add ∈ tw) (hrc : cells ≤ R.cells) (hrs : slots ≤ R.slots) (hlev : 0 < lev) (hsz : ls.size = nL) (hr : (rest.map fun v => v.category).sum ≤ 8) (hd : decode cc pc = .ok (.invokevirtual index, 3)) (kk : ∀ (H1 : Heap) (locs1 : List Loc), Wd s D A (wdC τ o ad) H1 locs1 → W p l e R s m args below meth c H1 locs1 cells slots Q (F0 m (pc + 3) ls (rest))) : W p l e R s m args below meth c H locs cells slots Q (F0 m pc ls (.int x0 :: .ref (ad 59) :: rest)) :=
  crx_v w E.C (va_runV (As := [.int x0]) (rest := rest) E.fix (c_Cou_add l D τ B σ ad x0 o h H.size) (cwV 1 E.w (tw_pre (tw_good k899) (l := [_, _, _, _]) (List.forall_mem_cons.mpr ⟨hlk, List.forall_mem_cons.mpr ⟨k897, List.forall_mem_cons.mpr ⟨k898, List.forall_mem_cons.mpr ⟨k5, fun _ h => absurd h List.not_mem_nil⟩⟩⟩⟩)) rfl rfl rfl (by decide +kernel) (E.rm hlev (by decide))) (wd_preV w E.C [.int x0] rcC_Cou rfl) rfl rfl hsz rfl (lv_room hr) hd ⟨hrc, hrs⟩) kk
/-- where the stream's row is made anew -/
def sRoom (σ : Sg) (n : Nat) : Sg := sN (sA σ 7 (va_cpy (σ.2.2.1 7) (fun _ => 0) (0 : Int32).toNatClampNeg (0 : Int32).toNatClampNeg (nI (σ.2.2.2.2 1)).toNatClampNeg)) 1 n
def adS (ad : Nat → Nat) (z : Nat) : Nat → Nat := fun k => if k = 7 then z else ad k
set_option maxRecDepth 100000 in
set_option maxHeartbeats 4000000 in
theorem xMakeRoom (E : Cx p R s m args meth c cc nL own lev D τ B A) (w : Wd s D A (wdC τ σ ad) H locs) (n : Nat) (hgt : ¬ σ.1 2 + 5 ≤ nI (σ.2.2.2.2 1)) (hn : imin (nI (2 * σ.2.2.2.2 1)) 4096 = nI n) (h1 : σ.2.2.2.2 1 < n) (h2 : n ≤ 16384) {index : Nat} (hlk : Cond.methodLink own index y_Cou_makeRoom ∈ tw) (hlev : 2 < lev) (hrc : cells + 1 ≤ R.cells) (hrs : slots + n ≤ R.slots) (hsz : ls.size = nL) (hr : (rest.map fun v => v.category).sum ≤ 8) (hd : decode cc pc = .ok (.invokevirtual index, 3))
    (kk : ∀ (z : Nat) (H1 : Heap) (locs1 : List Loc), Wd s D A (wdC τ (sRoom σ n) (adS ad z)) H1 locs1 → W p l e R s m args below meth c H1 locs1 (cells + 1) (slots + n) Q (F0 m (pc + 3) ls rest)) : W p l e R s m args below meth c H locs cells slots Q (F0 m pc ls (.int 5 :: .ref (ad 59) :: rest)) := by
  refine wc_v (wr := ([0, 1, 2, 3, 4, 5, 6, 8, 9, 10, 11, 12, 13, 14, 15, 16, 17, 18, 19, 20, 21, 22, 23, 24, 25, 26, 27, 28, 29, 30, 31, 32, 33, 34, 35, 36, 37, 38, 39, 40, 41, 42, 43, 44, 45, 46, 47, 48, 49, 50, 51, 52, 53, 54, 55, 56, 57, 58, 60, 61, 62, 63, 64, 65, 66, 67, 68, 69] : List Nat).filterMap (fun i => (wdC τ σ ad)[i]?)) E.C w.1 w.2.1 w.2.2 [59, 7] [0, 1, 2, 3, 4, 5, 6, 8, 9, 10, 11, 12, 13, 14, 15, 16, 17, 18, 19, 20, 21, 22, 23, 24, 25, 26, 27, 28, 29, 30, 31, 32, 33, 34, 35, 36, 37, 38, 39, 40, 41, 42, 43, 44, 45, 46, 47, 48, 49, 50, 51, 52, 53, 54, 55, 56, 57, 58, 60, 61, 62, 63, 64, 65, 66, 67, 68, 69] rfl rfl (by decide) (by decide) (va_runV (As := [.int 5]) (rest := rest) E.fix (c_aRoom l D τ B _ σ ad n hgt hn h1 h2) (cwV 1 E.w (tw_pre (tw_good k886) (l := [_, _, _, _]) (List.forall_mem_cons.mpr ⟨hlk, List.forall_mem_cons.mpr ⟨k884, List.forall_mem_cons.mpr ⟨k885, List.forall_mem_cons.mpr ⟨k5, fun _ h => absurd h List.not_mem_nil⟩⟩⟩⟩)) rfl rfl rfl (by decide +kernel) (E.rm hlev (by decide))) (pvS E.C w [.int 5] [59, 7] (by decide) rfl (q0 := 59) rfl rfl) rfl rfl hsz rfl (lv_room hr) hd ⟨hrc, hrs⟩) (fun z H1 locs1 _ hP hD hS => ?_)
  refine kk z H1 locs1 ?_
  rw [wdC_up τ (sRoom σ n) ad (adS ad z) (fun k hk => if_neg (by omega))]
  exact ⟨hP.sub [0, 1, 2, 3, 4, 5, 6, 69, 7, 8, 9, 10, 11, 12, 13, 14, 15, 16, 17, 18, 19, 20, 21, 22, 23, 24, 25, 26, 27, 28, 29, 30, 31, 32, 33, 34, 35, 36, 37, 38, 39, 40, 41, 42, 43, 44, 45, 46, 47, 48, 49, 50, 51, 52, 53, 54, 55, 56, 57, 68, 58, 59, 60, 61, 62, 63, 64, 65, 66, 67] rfl, hD.sub [0, 1, 2, 3, 4, 5, 6, 69, 7, 8, 9, 10, 11, 12, 13, 14, 15, 16, 17, 18, 19, 20, 21, 22, 23, 24, 25, 26, 27, 28, 29, 30, 31, 32, 33, 34, 35, 36, 37, 38, 39, 40, 41, 42, 43, 44, 45, 46, 47, 48, 49, 50, 51, 52, 53, 54, 55, 56, 57, 68, 58, 59, 60, 61, 62, 63, 64, 65, 66, 67] (by decide) rfl, hS⟩
end LIFT
set_option maxRecDepth 10000 in
set_option maxHeartbeats 4000000 in
theorem c_aFeed (l : Launch) (D : va_G) (τ : ClassId × ClassId × ClassId) (B : Nat) (σ : Sg) (ad : Nat → Nat) (x0 x1 x2 x3 x4 : Int32) (n : Nat) (hle : σ.1 2 + 5 ≤ 4096) (hgt : ¬ σ.1 2 + 5 ≤ nI (σ.2.2.2.2 1)) (hn : imin (nI (2 * σ.2.2.2.2 1)) 4096 = nI n) (h1 : σ.2.2.2.2 1 < n) (h2 : n ≤ 16384) (o : Sg × Int32) (h : FD_feed (sRoom σ n) x0 x1 x2 x3 x4 = some o) : MIa l y_DM_feed (Cond.code y_DM_feed prog_1_method_5_code 6 (some .int)) 3 1 n D τ B [.ref (ad 56), .int x0, .int x1, .int x2, .int x3, .int x4] (wdC τ σ ad) Nat (fun r _ => r = o.2) (fun z => wdC τ o.1 (adS ad z)) := by
  refine en_ia (by decide) (Nat.le_of_ble_eq_true rfl) ?_
  intro p e R s m args below meth c H locs ls A E hRc hRs hret w hl
  have E : Cx p R s m args meth c prog_1_method_5_code 6 "DrawingMachine" 3 D τ B A := E
  have hl : lv_has ls 6 [(0, .ref (ad 56)), (1, .int x0), (2, .int x1), (3, .int x2), (4, .int x3), (5, .int x4)] := hl
  refine lv_aload_n E.x E.b d_DM_feed_0 rfl (lv_at hl 0 rfl) ?_
  refine gC_DM_course E w k433 d_DM_feed_1 ?_
  refine gC_Cou_words E w k114 d_DM_feed_4 ?_
  refine lv_iconst (v := 5) E.x E.b d_DM_feed_7 (by decide) ?_
  refine lv_iadd E.x E.b d_DM_feed_8 ?_
  refine lv_sipush (v := 4096) E.x E.b d_DM_feed_9 (by decide) ?_
  refine lv_icmp_le (tgt := 25) E.x E.b d_DM_feed_12 (by decide) (fun c => ?_) (fun c => absurd hle c)
  refine lv_aload_n E.x E.b d_DM_feed_25 rfl (lv_at hl 0 rfl) ?_
  refine gC_DM_course E w k433 d_DM_feed_26 ?_
  refine lv_iconst (v := 5) E.x E.b d_DM_feed_29 (by decide) ?_
  refine xMakeRoom E w n hgt hn h1 h2 k883 (by decide) (by rw [hRc]; exact Nat.le_refl _) (by rw [hRs, Nat.zero_add]; exact Nat.le_refl _) hl.1 (Nat.le_of_ble_eq_true rfl) d_DM_feed_30 (fun z H locs w => ?_)
  refine W.widen (k := 1) (n := n) (by omega) (by omega) ?_
  have hl : lv_has ls 6 [(0, .ref (adS ad z 56)), (1, .int x0), (2, .int x1), (3, .int x2), (4, .int x3), (5, .int x4)] := hl
  have hrc : 1 ≤ R.cells := by rw [hRc]; exact Nat.le_refl _
  have hrs : n ≤ R.slots := by rw [hRs]; exact Nat.le_refl _
  refine lv_aload_n E.x E.b d_DM_feed_33 rfl (lv_at hl 0 rfl) ?_
  refine xgC_DM_course E w k433 d_DM_feed_34 ?_
  refine lv_iload_n E.x E.b d_DM_feed_37 rfl (lv_at hl 1 rfl) ?_
  obtain ⟨o8, h_o8, h⟩ := bd_some h
  refine xclV_Cou_add E w (x0 := x0) h_o8 k896 hrc hrs (by decide) hl.1 (Nat.le_of_ble_eq_true rfl) d_DM_feed_38 (fun H locs w => ?_)
  refine lv_aload_n E.x E.b d_DM_feed_41 rfl (lv_at hl 0 rfl) ?_
  refine xgC_DM_course E w k433 d_DM_feed_42 ?_
  refine lv_iload_n E.x E.b d_DM_feed_45 rfl (lv_at hl 2 rfl) ?_
  obtain ⟨o9, h_o9, h⟩ := bd_some h
  refine xclV_Cou_add E w (x0 := x1) h_o9 k896 hrc hrs (by decide) hl.1 (Nat.le_of_ble_eq_true rfl) d_DM_feed_46 (fun H locs w => ?_)
  refine lv_aload_n E.x E.b d_DM_feed_49 rfl (lv_at hl 0 rfl) ?_
  refine xgC_DM_course E w k433 d_DM_feed_50 ?_
  refine lv_iload_n E.x E.b d_DM_feed_53 rfl (lv_at hl 3 rfl) ?_
  obtain ⟨o10, h_o10, h⟩ := bd_some h
  refine xclV_Cou_add E w (x0 := x2) h_o10 k896 hrc hrs (by decide) hl.1 (Nat.le_of_ble_eq_true rfl) d_DM_feed_54 (fun H locs w => ?_)
  refine lv_aload_n E.x E.b d_DM_feed_57 rfl (lv_at hl 0 rfl) ?_
  refine xgC_DM_course E w k433 d_DM_feed_58 ?_
  refine lv_iload E.x E.b d_DM_feed_61 (lv_at hl 4 rfl) ?_
  obtain ⟨o11, h_o11, h⟩ := bd_some h
  refine xclV_Cou_add E w (x0 := x3) h_o11 k896 hrc hrs (by decide) hl.1 (Nat.le_of_ble_eq_true rfl) d_DM_feed_63 (fun H locs w => ?_)
  refine lv_aload_n E.x E.b d_DM_feed_66 rfl (lv_at hl 0 rfl) ?_
  refine xgC_DM_course E w k433 d_DM_feed_67 ?_
  refine lv_iload E.x E.b d_DM_feed_70 (lv_at hl 5 rfl) ?_
  obtain ⟨o12, h_o12, h⟩ := bd_some h
  refine xclV_Cou_add E w (x0 := x4) h_o12 k896 hrc hrs (by decide) hl.1 (Nat.le_of_ble_eq_true rfl) d_DM_feed_72 (fun H locs w => ?_)
  refine lv_aload_n E.x E.b d_DM_feed_75 rfl (lv_at hl 0 rfl) ?_
  refine xgC_DM_course E w k433 d_DM_feed_76 ?_
  refine xgC_Cou_words E w k114 d_DM_feed_79 ?_
  obtain rfl := Option.some.inj h
  exact rt_ia E z rfl w hret d_DM_feed_82
