abbrev oc (τ : ClassId × ClassId × ClassId) (ou : Nat) (f : Nat → Int64) : Nat × va_E := (ou, .inl (τ.2.1, 1, .inr (.inl f)))
def sFrame (σ : Sg) (a b rm : Nat) : Sg := sN (sA (sA (sA (sI (sI σ 0 (nI a)) 1 (nI b)) 2 (fun _ => 0)) 3 (fun _ => 0)) 4 (fun _ => 0)) 0 rm
def adF (ad : Nat → Nat) (z : Nat × Nat × Nat) : Nat → Nat := fun k => if k = 2 then z.1 else if k = 3 then z.2.1 else if k = 4 then z.2.2 else ad k
section HROWS
variable {p : Program} {l : Launch} {e : Env} {R : Room} {s : State} {m : MethodId} {args : Array Value} {below : List Frame} {meth : Method} {c : Code} {H : Heap} {locs : List Loc} {Q : State → Prop} {cells slots : Nat}
variable {cc bytes : ByteArray} {nL pc lev maxL mc ms n index : Nat} {own C E1 : String} {D : va_G} {τ : ClassId × ClassId × ClassId} {B : Nat} {A : Nat → Prop} {σ σ1 : Sg} {ad : Nat → Nat} {ls : Array Slot} {rest st0 As : List Value} {ws ws' : va_W}
theorem rx_las (E : Cx p R s m args meth c cc nL own lev D τ B A) (w : Wd s D A ws H locs) {k a n : Nat} {f : Nat → Int64} (ha : ws[k]? = some (a, .inl (τ.2.1, n, .inr (.inl f)))) {i : Int32} {v : Int64} (hi : inb i n) (hs : ws.set k (a, .inl (τ.2.1, n, .inr (.inl (vp_updL f i.toNatClampNeg v)))) = ws') (hd : decode cc pc = .ok (.lastore, 1))
    (kk : ∀ (H1 : Heap) (locs1 : List Loc), Wd s D A ws' H1 locs1 → W p l e R s m args below meth c H1 locs1 cells slots Q (F0 m (pc + 1) ls rest)) : W p l e R s m args below meth c H locs cells slots Q (F0 m pc ls (.long v :: .int i :: .ref a :: rest)) :=
  va_last E.1 E.2.1 E.K w.1 w.2.1 w.2.2 k 1 ha rfl (vp_in_iff.mpr hi) hd (fun H1 locs1 h1 h2 h3 => kk H1 locs1 (by rw [← hs]; exact ⟨h1, h2, h3⟩))
theorem tq_e1 {y : MethodName} {wsc : List Cond} {rm : Room} {Pc : Array Value → State → Prop} {b : Addr} {ret : Option FieldType} {Ts : List Cond} (S : CallFix p m c cc nL s args Ts own) (hM : tq_Met l y wsc rm Pc (tq_Q E1) mc ms) (cw : CallW R s args own C index y bytes maxL ret wsc rm mc ms n) (hp : PreV s H C b Pc As)
    (hn : As.length = n) (hsize : ls.size = nL) (hstack : st0 = As.reverse ++ .ref b :: rest) (hW : (rest.map fun v => v.category).sum ≤ 8) (hdg : decode cc pc = .ok (.invokevirtual index, 3)) (hf : cells + mc ≤ R.cells ∧ slots + ms ≤ R.slots)
    {x1 x2 x3 x4 : Nat} {tl : List (Nat × Nat × Nat × Nat)} (ht : c.exceptionTable.toList.map (fun h => (h.startPc, h.endPc, h.handlerPc, h.catchType)) = (x1, x2, x3, x4) :: tl) (h1 : x1 ≤ pc) (h2 : pc < x2) (h0 : x4 ≠ 0) (hlink : (Cond.classLink own x4 E1).before args s = true) (w : Wd s D A ws H locs)
    (kk : ∀ (a : Addr) (H1 : Heap), Wd s D A ws H1 locs → W p l e R s m args below meth c H1 locs (cells + mc) (slots + ms) Q (F0 m x3 ls [.ref a])) : W p l e R s m args below meth c H locs cells slots Q (F0 m pc ls st0) := by
  cases hl : c.exceptionTable.toList with
  | nil => rw [hl] at ht; cases ht
  | cons x tl' =>
    rw [hl] at ht
    simp only [List.map_cons, List.cons.injEq, Prod.mk.injEq] at ht
    obtain ⟨⟨rfl, rfl, rfl, rfl⟩, -⟩ := ht
    exact tq_c1 S hM cw hp hn hsize hstack hW hdg hf hl (by simp [covers, h1, h2]) h0 hlink (fun a H1 hz hk => kk a H1 (w.old hz hk))
theorem tq_e2 {E0 : String} {y : MethodName} {wsc : List Cond} {rm : Room} {Pc : Array Value → State → Prop} {b : Addr} {ret : Option FieldType} {Ts : List Cond} (S : CallFix p m c cc nL s args Ts own) (hM : tq_Met l y wsc rm Pc (tq_Q E1) mc ms) (cw : CallW R s args own C index y bytes maxL ret wsc rm mc ms n) (hp : PreV s H C b Pc As)
    (hn : As.length = n) (hsize : ls.size = nL) (hstack : st0 = As.reverse ++ .ref b :: rest) (hW : (rest.map fun v => v.category).sum ≤ 8) (hdg : decode cc pc = .ok (.invokevirtual index, 3)) (hf : cells + mc ≤ R.cells ∧ slots + ms ≤ R.slots)
    {w1 w2 w3 w4 x1 x2 x3 x4 : Nat} {tl : List (Nat × Nat × Nat × Nat)} (ht : c.exceptionTable.toList.map (fun h => (h.startPc, h.endPc, h.handlerPc, h.catchType)) = (w1, w2, w3, w4) :: (x1, x2, x3, x4) :: tl) (g1 : w1 ≤ pc) (g2 : pc < w2) (g0 : w4 ≠ 0) (h1 : x1 ≤ pc) (h2 : pc < x2) (h0 : x4 ≠ 0)
    (hlink0 : (Cond.classLink own w4 E0).before args s = true) (hlink : (Cond.classLink own x4 E1).before args s = true) (hno : va_Nc E1 E0 s) (w : Wd s D A ws H locs)
    (kk : ∀ (a : Addr) (H1 : Heap), Wd s D A ws H1 locs → W p l e R s m args below meth c H1 locs (cells + mc) (slots + ms) Q (F0 m x3 ls [.ref a])) : W p l e R s m args below meth c H locs cells slots Q (F0 m pc ls st0) := by
  cases hl : c.exceptionTable.toList with
  | nil => rw [hl] at ht; cases ht
  | cons x0 tl0 =>
    cases tl0 with
    | nil => rw [hl] at ht; simp at ht
    | cons x tl' =>
      rw [hl] at ht
      simp only [List.map_cons, List.cons.injEq, Prod.mk.injEq] at ht
      obtain ⟨⟨rfl, rfl, rfl, rfl⟩, ⟨rfl, rfl, rfl, rfl⟩, -⟩ := ht
      exact tq_c2 S hM cw hp hn hsize hstack hW hdg hf hl (by simp [covers, g1, g2]) (by simp [covers, h1, h2]) g0 h0 hlink0 hlink hno (fun a H1 hz hk => kk a H1 (w.old hz hk))
set_option maxRecDepth 100000 in
set_option maxHeartbeats 4000000 in
theorem xFrame {f : Nat → Int64} {ou : Nat} (E : Cx p R s m args meth c cc nL own lev D τ B A) (w : Wd s D A ([oc τ ou f] ++ wdC τ σ ad) H locs) (a b r1 rm : Nat) (sd : Int32) (ha1 : 1 ≤ a) (ha2 : a ≤ 128) (hb1 : 1 ≤ b) (hb2 : b ≤ 128) (hgt : ¬ nI (a * b) ≤ nI (σ.2.2.2.2 0)) (hr1 : imax (nI (a * b)) (nI (2 * σ.2.2.2.2 0)) = nI r1) (hrm : imin (nI r1) 16384 = nI rm) (hrm2 : rm ≤ 16384) (hs : sd = 8 ∨ sd = 16 ∨ sd = 32 ∨ sd = 64)
    {index : Nat} (hlk : Cond.methodLink own index y_DM_frame ∈ tw) (hlev : 5 < lev) (hrc : cells + 3 ≤ R.cells) (hrs : slots + 3 * rm ≤ R.slots) (hsz : ls.size = nL) (hr : (rest.map fun v => v.category).sum ≤ 8) (hd : decode cc pc = .ok (.invokevirtual index, 3))
    (kk : ∀ (z : Nat × Nat × Nat) (H1 : Heap) (locs1 : List Loc), Wd s D A ([oc τ ou f] ++ wdC τ (sFrame σ a b rm) (adF ad z)) H1 locs1 → W p l e R s m args below meth c H1 locs1 (cells + 3) (slots + 3 * rm) Q (F0 m (pc + 3) ls (.int (tls (nI a) (nI b) sd) :: rest))) : W p l e R s m args below meth c H locs cells slots Q (F0 m pc ls (.int sd :: .int (nI b) :: .int (nI a) :: .ref (ad 56) :: rest)) := by
  refine wc_i (wr := ([0, 1, 2, 6, 7, 8, 9, 10, 11, 12, 13, 14, 15, 16, 17, 18, 19, 20, 21, 22, 23, 24, 25, 26, 27, 28, 29, 30, 31, 32, 33, 34, 35, 36, 37, 38, 39, 40, 41, 42, 43, 44, 45, 46, 47, 48, 49, 50, 51, 52, 53, 54, 55, 56, 58, 60, 61, 62, 63, 64, 65, 66, 67, 68, 69, 70] : List Nat).filterMap (fun i => ([oc τ ou f] ++ wdC τ σ ad)[i]?)) E.C w.1 w.2.1 w.2.2 [57, 59, 3, 4, 5] [0, 1, 2, 6, 7, 8, 9, 10, 11, 12, 13, 14, 15, 16, 17, 18, 19, 20, 21, 22, 23, 24, 25, 26, 27, 28, 29, 30, 31, 32, 33, 34, 35, 36, 37, 38, 39, 40, 41, 42, 43, 44, 45, 46, 47, 48, 49, 50, 51, 52, 53, 54, 55, 56, 58, 60, 61, 62, 63, 64, 65, 66, 67, 68, 69, 70] rfl rfl (by decide) (by decide) (va_runV (As := [.int (nI a), .int (nI b), .int sd]) (rest := rest) E.fix (c_aFrame l D τ B _ σ ad a b r1 rm sd ha1 ha2 hb1 hb2 hgt hr1 hrm hrm2 hs) (cwV 3 E.w (tw_pre (tw_good k478) (l := [_, _, _, _]) (List.forall_mem_cons.mpr ⟨hlk, List.forall_mem_cons.mpr ⟨k476, List.forall_mem_cons.mpr ⟨k477, List.forall_mem_cons.mpr ⟨k1, fun _ h => absurd h List.not_mem_nil⟩⟩⟩⟩)) rfl rfl rfl (by decide +kernel) (E.rm hlev (by decide))) (pvS E.C w [.int (nI a), .int (nI b), .int sd] [57, 59, 3, 4, 5] (by decide) rfl (q0 := 57) rfl rfl) rfl rfl hsz rfl (lv_room hr) hd ⟨hrc, hrs⟩) (fun r z H1 locs1 hv hP hD hS => ?_)
  obtain rfl := hv
  obtain ⟨z0, z1, z2⟩ := z
  refine kk (z0, z1, z2) H1 locs1 ?_
  rw [wdC_up τ (sFrame σ a b rm) ad (adF ad (z0, z1, z2)) (fun k hk => by unfold adF; rw [if_neg (by omega), if_neg (by omega), if_neg (by omega)])]
  exact ⟨hP.sub [0, 1, 2, 68, 69, 70, 3, 4, 5, 6, 7, 8, 9, 10, 11, 12, 13, 14, 15, 16, 17, 18, 19, 20, 21, 22, 23, 24, 25, 26, 27, 28, 29, 30, 31, 32, 33, 34, 35, 36, 37, 38, 39, 40, 41, 42, 43, 44, 45, 46, 47, 48, 49, 50, 51, 52, 53, 66, 54, 67, 55, 56, 57, 58, 59, 60, 61, 62, 63, 64, 65] rfl, hD.sub [0, 1, 2, 68, 69, 70, 3, 4, 5, 6, 7, 8, 9, 10, 11, 12, 13, 14, 15, 16, 17, 18, 19, 20, 21, 22, 23, 24, 25, 26, 27, 28, 29, 30, 31, 32, 33, 34, 35, 36, 37, 38, 39, 40, 41, 42, 43, 44, 45, 46, 47, 48, 49, 50, 51, 52, 53, 66, 54, 67, 55, 56, 57, 58, 59, 60, 61, 62, 63, 64, 65] (by decide) rfl, hS⟩
end HROWS
