theorem d_Arr_fill_0 : decode prog_39_method_103_code 0 = .ok (.iconst 0, 1) := by decide +kernel
theorem d_Arr_fill_1 : decode prog_39_method_103_code 1 = .ok (.istore_n 2, 1) := by decide +kernel
theorem d_Arr_fill_2 : decode prog_39_method_103_code 2 = .ok (.aload_n 0, 1) := by decide +kernel
theorem d_Arr_fill_3 : decode prog_39_method_103_code 3 = .ok (.arraylength, 1) := by decide +kernel
theorem d_Arr_fill_4 : decode prog_39_method_103_code 4 = .ok (.istore_n 3, 1) := by decide +kernel
theorem d_Arr_fill_5 : decode prog_39_method_103_code 5 = .ok (.iload_n 2, 1) := by decide +kernel
theorem d_Arr_fill_6 : decode prog_39_method_103_code 6 = .ok (.iload_n 3, 1) := by decide +kernel
theorem d_Arr_fill_7 : decode prog_39_method_103_code 7 = .ok (.if_icmp .ge 13, 3) := by decide +kernel
theorem d_Arr_fill_10 : decode prog_39_method_103_code 10 = .ok (.aload_n 0, 1) := by decide +kernel
theorem d_Arr_fill_11 : decode prog_39_method_103_code 11 = .ok (.iload_n 2, 1) := by decide +kernel
theorem d_Arr_fill_12 : decode prog_39_method_103_code 12 = .ok (.iload_n 1, 1) := by decide +kernel
theorem d_Arr_fill_13 : decode prog_39_method_103_code 13 = .ok (.iastore, 1) := by decide +kernel
theorem d_Arr_fill_14 : decode prog_39_method_103_code 14 = .ok (.iinc 2 1, 3) := by decide +kernel
theorem d_Arr_fill_17 : decode prog_39_method_103_code 17 = .ok (.goto (-12), 3) := by decide +kernel
theorem d_Arr_fill_20 : decode prog_39_method_103_code 20 = .ok (.return_, 1) := by decide +kernel
set_option maxHeartbeats 4000000 in
set_option maxRecDepth 100000 in
theorem lp_Arr_fill_5 {p : Program} {l : Launch} {e : Env} {R : Room} {s : State} {m : MethodId} {args : Array Value} {below : List Frame} {meth : Method} {c : Code} {Q : State → Prop} {A : Nat → Prop} (D : va_G) (cI cL : ClassId) (B : Nat) (a : Nat) (v : Int32) (n : Nat) (cells slots : Nat) (hx : p.tables.exec = Jvm.exec) (hb : c.code = prog_39_method_103_code) (hml : c.maxLocals = 4) (hown : s.vm.findClass "java/util/Arrays" = some m.cls) (htw : ∀ w ∈ tw, w.before args s = true) (hC : wC D cI cL B A s) (hRf : 20 ≤ R.frames) (hRl : 2000 ≤ R.locals) (hRc : cells ≤ R.cells) (hRs : slots ≤ R.slots) (hN : n < 100000)
    (kx : ∀ (f52 : Nat → Int32) (H : Heap) (locs : List Loc) (ls : Array Slot), va_P D classes [(a, .inl (cI, n, .inl f52))] H → va_D A [(a, .inl (cI, n, .inl f52))] → va_S A s.heap H locs → lv_has ls 4 [(2, .int (nI n)), (3, .int (nI n)), (0, .ref a), (1, .int v)] → W p l e R s m args below meth c H locs cells slots Q (F0 m 20 ls [])) :
    ∀ (k i : Nat) (f52 : Nat → Int32), i + k = n → ∀ (H : Heap) (locs : List Loc) (ls : Array Slot), va_P D classes [(a, .inl (cI, n, .inl f52))] H → va_D A [(a, .inl (cI, n, .inl f52))] → va_S A s.heap H locs → lv_has ls 4 [(2, .int (nI i)), (3, .int (nI n)), (0, .ref a), (1, .int v)] → W p l e R s m args below meth c H locs cells slots Q (F0 m 5 ls []) := by
  intro k
  induction k with
  | zero =>
    intro i f52 hi H locs ls hP hD hS hl
    obtain rfl : i = n := hi
    refine lv_iload_n hx hb d_Arr_fill_5 rfl (lv_at hl 0 rfl) ?_
    refine lv_iload_n hx hb d_Arr_fill_6 rfl (lv_at hl 1 rfl) ?_
    refine lv_icmp_ge (tgt := 20) hx hb d_Arr_fill_7 (by decide) (fun c_53 => ?_) (fun c_53 => absurd (Int32.le_refl _) c_53)
    exact kx f52 _ _ _ hP hD hS (lv_sub hl [0, 1, 2, 3] rfl)
  | succ k ih =>
    intro i f52 hi H locs ls hP hD hS hl
    refine lv_iload_n hx hb d_Arr_fill_5 rfl (lv_at hl 0 rfl) ?_
    refine lv_iload_n hx hb d_Arr_fill_6 rfl (lv_at hl 1 rfl) ?_
    refine lv_icmp_ge (tgt := 20) hx hb d_Arr_fill_7 (by decide) (fun c_54 => absurd c_54 (nI_ge (by omega) (by omega))) (fun c_54 => ?_)
    refine lv_aload_n hx hb d_Arr_fill_10 rfl (lv_at hl 2 rfl) ?_
    refine lv_iload_n hx hb d_Arr_fill_11 rfl (lv_at hl 0 rfl) ?_
    refine lv_iload_n hx hb d_Arr_fill_12 rfl (lv_at hl 3 rfl) ?_
    refine va_iast hx hb hC.1 hP hD hS 0 0 rfl rfl (vp_in_nI (by omega) (by omega)) d_Arr_fill_13 (fun H locs hP hD hS => ?_)
    have hP : va_P D classes [(a, .inl (cI, n, .inl (upd f52 ((nI i) : Int32).toNatClampNeg v)))] H := hP
    have hD : va_D A [(a, .inl (cI, n, .inl (upd f52 ((nI i) : Int32).toNatClampNeg v)))] := hD
    generalize upd f52 ((nI i) : Int32).toNatClampNeg v = f55 at hP hD
    refine lv_iinc (v := (nI (i + 1))) (lv' := [(2, .int (nI (i + 1))), (3, .int (nI n)), (0, .ref a), (1, .int v)]) hx hb d_Arr_fill_14 hl (k := 0) rfl (show nI i + 1 = nI (i + 1) from nI_1 i) (by decide) rfl (fun ls hl => ?_)
    refine lv_goto (tgt := 5) hx hb d_Arr_fill_17 (by decide) ?_
    exact ih (i + 1) f55 (by omega) _ _ _ hP hD hS (lv_sub hl [0, 1, 2, 3] rfl)
set_option maxHeartbeats 4000000 in
set_option maxRecDepth 100000 in
theorem c_Arr_fill (l : Launch) (D : va_G) (cI cL : ClassId) (B sz : Nat) (a : Nat) (v : Int32) (n : Nat) (f : Nat → Int32) (hn : n < 100000) : Met l y_Arr_fill ((Cond.code y_Arr_fill prog_39_method_103_code 4 none) :: tw) ({ frames := 20, cells := 0, slots := 0, locals := 2000 }) (va_Pc [.ref a, .int v] (wP D cI cL B sz [(a, .inl (cI, n, .inl f))])) (va_Qv (S := Nat → Int32) (fun _ => True) (fun u => wB D cI cL (va_A [(a, .inl (cI, n, .inl f))] sz) ((fun f56 : Nat → Int32 => [(a, .inl (cI, n, .inl f56))]) u)) (va_A [(a, .inl (cI, n, .inl f))] sz)) 0 0 (va_A [(a, .inl (cI, n, .inl f))] sz) := by
  refine Met.ofW (cc := prog_39_method_103_code) (maxL := 4) (ret := none) (by decide) rfl ?_
  intro p e s m args below meth c s₁ B0 hml hv
  obtain ⟨rfl, hv⟩ := hv
  have hx := B0.exec
  have hb := B0.bytes
  have hr := B0.returns
  have hts := atoms_spec (ws := (Cond.code y_Arr_fill prog_39_method_103_code 4 none) :: tw) B0.pre
  have htw : ∀ w ∈ tw, w.before _ s = true := fun w hw => hts w (List.mem_cons_of_mem _ hw)
  have hown : s.vm.findClass "java/util/Arrays" = some m.cls := findClass_of_methodNamed B0.named
  have hlocks := B0.notSynchronized
  obtain ⟨hC, hP, hD, hsz⟩ := wC_init hv
  subst hsz
  generalize hAe : va_A [(a, .inl (cI, n, .inl f))] s.heap.size = A at hC hD ⊢
  have hS : va_S A s.heap s.heap [] := va_S.rf
  have hl := lv_entry ([.ref a, .int v]) (n := 4) (Nat.le_of_ble_eq_true rfl)
  rw [lg_entry_eq]
  generalize (lg_sl ([.ref a, .int v]) ++ List.replicate (4 - (lg_sl ([.ref a, .int v])).length) Slot.unset).toArray = ls at hl ⊢
  have hl : lv_has ls 4 [(0, .ref a), (1, .int v)] := hl
  refine lv_iconst (v := 0) hx hb d_Arr_fill_0 (by decide) ?_
  refine lv_istore_n (lv' := [(2, .int 0), (0, .ref a), (1, .int v)]) hx hb d_Arr_fill_1 rfl hl (by decide) rfl (fun ls hl => ?_)
  refine lv_aload_n hx hb d_Arr_fill_2 rfl (lv_at hl 1 rfl) ?_
  refine va_alen hx hb hC.1 hP 0 0 rfl (ty := .int) rfl (v := (nI n)) (rfl) d_Arr_fill_3 ?_
  refine lv_istore_n (lv' := [(3, .int (nI n)), (2, .int 0), (0, .ref a), (1, .int v)]) hx hb d_Arr_fill_4 rfl hl (by decide) rfl (fun ls hl => ?_)
  refine lp_Arr_fill_5 D cI cL B a v n 0 0 hx hb hml hown htw hC (Nat.le_of_ble_eq_true rfl) (Nat.le_of_ble_eq_true rfl) (Nat.le_of_ble_eq_true rfl) (Nat.le_of_ble_eq_true rfl) (hn) (fun f56 H locs ls hP hD hS hl => ?_) n 0 f (Nat.zero_add _) _ _ _ hP hD hS (lv_sub hl [1, 0, 2, 3] rfl)
  refine W.widen (k := 0) (n := 0) (Nat.le_of_ble_eq_true rfl) (Nat.le_of_ble_eq_true rfl) ?_
  have hP9 := hP.sub (ws' := [(a, .inl (cI, n, .inl f56))]) [0] rfl
  have hD9 := hD.sub (ws' := [(a, .inl (cI, n, .inl f56))]) [0] (by decide) rfl
  exact W.vret hx hb hr (fun t ht hW => ⟨⟨f56, rfl, trivial, by rw [ht]; exact hP9, va_K.moved hW.alike hC.1, hD9⟩, hS.F ht⟩) hS.2.2 d_Arr_fill_20

theorem d_Told_forget_0 : decode prog_11_method_2_code 0 = .ok (.aload_n 0, 1) := by decide +kernel
theorem d_Told_forget_1 : decode prog_11_method_2_code 1 = .ok (.getfield 9, 3) := by decide +kernel
theorem d_Told_forget_4 : decode prog_11_method_2_code 4 = .ok (.iconst 0, 1) := by decide +kernel
theorem d_Told_forget_5 : decode prog_11_method_2_code 5 = .ok (.invokestatic 18, 3) := by decide +kernel
theorem d_Told_forget_8 : decode prog_11_method_2_code 8 = .ok (.aload_n 0, 1) := by decide +kernel
theorem d_Told_forget_9 : decode prog_11_method_2_code 9 = .ok (.getfield 9, 3) := by decide +kernel
theorem d_Told_forget_12 : decode prog_11_method_2_code 12 = .ok (.iconst 2, 1) := by decide +kernel
theorem d_Told_forget_13 : decode prog_11_method_2_code 13 = .ok (.iconst 1, 1) := by decide +kernel
theorem d_Told_forget_14 : decode prog_11_method_2_code 14 = .ok (.iastore, 1) := by decide +kernel
theorem d_Told_forget_15 : decode prog_11_method_2_code 15 = .ok (.aload_n 0, 1) := by decide +kernel
theorem d_Told_forget_16 : decode prog_11_method_2_code 16 = .ok (.getfield 9, 3) := by decide +kernel
theorem d_Told_forget_19 : decode prog_11_method_2_code 19 = .ok (.iconst 3, 1) := by decide +kernel
theorem d_Told_forget_20 : decode prog_11_method_2_code 20 = .ok (.iconst 1, 1) := by decide +kernel
theorem d_Told_forget_21 : decode prog_11_method_2_code 21 = .ok (.iastore, 1) := by decide +kernel
theorem d_Told_forget_22 : decode prog_11_method_2_code 22 = .ok (.aload_n 0, 1) := by decide +kernel
theorem d_Told_forget_23 : decode prog_11_method_2_code 23 = .ok (.getfield 9, 3) := by decide +kernel
theorem d_Told_forget_26 : decode prog_11_method_2_code 26 = .ok (.iconst 5, 1) := by decide +kernel
theorem d_Told_forget_27 : decode prog_11_method_2_code 27 = .ok (.ldc 24, 2) := by decide +kernel
theorem d_Told_forget_29 : decode prog_11_method_2_code 29 = .ok (.iastore, 1) := by decide +kernel
theorem d_Told_forget_30 : decode prog_11_method_2_code 30 = .ok (.aload_n 0, 1) := by decide +kernel
theorem d_Told_forget_31 : decode prog_11_method_2_code 31 = .ok (.getfield 9, 3) := by decide +kernel
theorem d_Told_forget_34 : decode prog_11_method_2_code 34 = .ok (.bipush 8, 2) := by decide +kernel
theorem d_Told_forget_36 : decode prog_11_method_2_code 36 = .ok (.iconst (-1), 1) := by decide +kernel
theorem d_Told_forget_37 : decode prog_11_method_2_code 37 = .ok (.iastore, 1) := by decide +kernel
theorem d_Told_forget_38 : decode prog_11_method_2_code 38 = .ok (.iconst 0, 1) := by decide +kernel
theorem d_Told_forget_39 : decode prog_11_method_2_code 39 = .ok (.istore_n 1, 1) := by decide +kernel
theorem d_Told_forget_40 : decode prog_11_method_2_code 40 = .ok (.iload_n 1, 1) := by decide +kernel
theorem d_Told_forget_41 : decode prog_11_method_2_code 41 = .ok (.iconst 4, 1) := by decide +kernel
theorem d_Told_forget_42 : decode prog_11_method_2_code 42 = .ok (.if_icmp .ge 24, 3) := by decide +kernel
theorem d_Told_forget_45 : decode prog_11_method_2_code 45 = .ok (.aload_n 0, 1) := by decide +kernel
theorem d_Told_forget_46 : decode prog_11_method_2_code 46 = .ok (.getfield 9, 3) := by decide +kernel
theorem d_Told_forget_49 : decode prog_11_method_2_code 49 = .ok (.sipush 170, 3) := by decide +kernel
theorem d_Told_forget_52 : decode prog_11_method_2_code 52 = .ok (.iconst 5, 1) := by decide +kernel
theorem d_Told_forget_53 : decode prog_11_method_2_code 53 = .ok (.iload_n 1, 1) := by decide +kernel
theorem d_Told_forget_54 : decode prog_11_method_2_code 54 = .ok (.imul, 1) := by decide +kernel
theorem d_Told_forget_55 : decode prog_11_method_2_code 55 = .ok (.iadd, 1) := by decide +kernel
theorem d_Told_forget_56 : decode prog_11_method_2_code 56 = .ok (.iconst 3, 1) := by decide +kernel
theorem d_Told_forget_57 : decode prog_11_method_2_code 57 = .ok (.iadd, 1) := by decide +kernel
theorem d_Told_forget_58 : decode prog_11_method_2_code 58 = .ok (.iconst 1, 1) := by decide +kernel
theorem d_Told_forget_59 : decode prog_11_method_2_code 59 = .ok (.iastore, 1) := by decide +kernel
theorem d_Told_forget_60 : decode prog_11_method_2_code 60 = .ok (.iinc 1 1, 3) := by decide +kernel
theorem d_Told_forget_63 : decode prog_11_method_2_code 63 = .ok (.goto (-23), 3) := by decide +kernel
theorem d_Told_forget_66 : decode prog_11_method_2_code 66 = .ok (.aload_n 0, 1) := by decide +kernel
theorem d_Told_forget_67 : decode prog_11_method_2_code 67 = .ok (.getfield 9, 3) := by decide +kernel
theorem d_Told_forget_70 : decode prog_11_method_2_code 70 = .ok (.sipush 190, 3) := by decide +kernel
theorem d_Told_forget_73 : decode prog_11_method_2_code 73 = .ok (.iconst (-1), 1) := by decide +kernel
theorem d_Told_forget_74 : decode prog_11_method_2_code 74 = .ok (.iastore, 1) := by decide +kernel
theorem d_Told_forget_75 : decode prog_11_method_2_code 75 = .ok (.aload_n 0, 1) := by decide +kernel
theorem d_Told_forget_76 : decode prog_11_method_2_code 76 = .ok (.getfield 9, 3) := by decide +kernel
theorem d_Told_forget_79 : decode prog_11_method_2_code 79 = .ok (.sipush 192, 3) := by decide +kernel
theorem d_Told_forget_82 : decode prog_11_method_2_code 82 = .ok (.iconst (-1), 1) := by decide +kernel
theorem d_Told_forget_83 : decode prog_11_method_2_code 83 = .ok (.iastore, 1) := by decide +kernel
theorem d_Told_forget_84 : decode prog_11_method_2_code 84 = .ok (.aload_n 0, 1) := by decide +kernel
theorem d_Told_forget_85 : decode prog_11_method_2_code 85 = .ok (.getfield 9, 3) := by decide +kernel
theorem d_Told_forget_88 : decode prog_11_method_2_code 88 = .ok (.sipush 199, 3) := by decide +kernel
theorem d_Told_forget_91 : decode prog_11_method_2_code 91 = .ok (.iconst (-1), 1) := by decide +kernel
theorem d_Told_forget_92 : decode prog_11_method_2_code 92 = .ok (.iastore, 1) := by decide +kernel
theorem d_Told_forget_93 : decode prog_11_method_2_code 93 = .ok (.aload_n 0, 1) := by decide +kernel
theorem d_Told_forget_94 : decode prog_11_method_2_code 94 = .ok (.getfield 9, 3) := by decide +kernel
theorem d_Told_forget_97 : decode prog_11_method_2_code 97 = .ok (.sipush 210, 3) := by decide +kernel
theorem d_Told_forget_100 : decode prog_11_method_2_code 100 = .ok (.iconst (-1), 1) := by decide +kernel
theorem d_Told_forget_101 : decode prog_11_method_2_code 101 = .ok (.iastore, 1) := by decide +kernel
theorem d_Told_forget_102 : decode prog_11_method_2_code 102 = .ok (.aload_n 0, 1) := by decide +kernel
theorem d_Told_forget_103 : decode prog_11_method_2_code 103 = .ok (.getfield 9, 3) := by decide +kernel
theorem d_Told_forget_106 : decode prog_11_method_2_code 106 = .ok (.sipush 213, 3) := by decide +kernel
theorem d_Told_forget_109 : decode prog_11_method_2_code 109 = .ok (.iconst (-1), 1) := by decide +kernel
theorem d_Told_forget_110 : decode prog_11_method_2_code 110 = .ok (.iastore, 1) := by decide +kernel
theorem d_Told_forget_111 : decode prog_11_method_2_code 111 = .ok (.aload_n 0, 1) := by decide +kernel
theorem d_Told_forget_112 : decode prog_11_method_2_code 112 = .ok (.getfield 9, 3) := by decide +kernel
theorem d_Told_forget_115 : decode prog_11_method_2_code 115 = .ok (.sipush 214, 3) := by decide +kernel
theorem d_Told_forget_118 : decode prog_11_method_2_code 118 = .ok (.bipush 15, 2) := by decide +kernel
theorem d_Told_forget_120 : decode prog_11_method_2_code 120 = .ok (.iastore, 1) := by decide +kernel
theorem d_Told_forget_121 : decode prog_11_method_2_code 121 = .ok (.return_, 1) := by decide +kernel
theorem gS_Told_18 : GoodIn tw (va_wsS "DrawingMachine$Told" 18 y_Arr_fill ((Cond.code y_Arr_fill prog_39_method_103_code 4 none) :: tw)) := tw_pre (fun _ h => h) (tw_good (fun _ h => h) k386) (List.forall_mem_cons.mpr ⟨k383, List.forall_mem_cons.mpr ⟨k385, List.forall_mem_cons.mpr ⟨k384, fun _ h => absurd h List.not_mem_nil⟩⟩⟩)
set_option maxHeartbeats 4000000 in
set_option maxRecDepth 100000 in
theorem c_Told_forget (l : Launch) (D : va_G) (cI cL : ClassId) (B sz : Nat) (h0 : Nat) (ke : Nat) (f : Nat → Int32) : Met l y_Told_forget ((Cond.code y_Told_forget prog_11_method_2_code 2 none) :: tw) ({ frames := 30, cells := 0, slots := 0, locals := 3000 }) (va_Pc [.ref h0] (wP D cI cL B sz [(h0, .inr (1, [.ref ke])), (ke, .inl (cI, 245, .inl f))])) (va_Qv (S := Nat → Int32) (fun _ => True) (fun u => wB D cI cL (va_A [(h0, .inr (1, [.ref ke])), (ke, .inl (cI, 245, .inl f))] sz) ((fun f78 : Nat → Int32 => [(h0, .inr (1, [.ref ke])), (ke, .inl (cI, 245, .inl f78))]) u)) (va_A [(h0, .inr (1, [.ref ke])), (ke, .inl (cI, 245, .inl f))] sz)) 0 0 (va_A [(h0, .inr (1, [.ref ke])), (ke, .inl (cI, 245, .inl f))] sz) := by
  refine Met.ofW (cc := prog_11_method_2_code) (maxL := 2) (ret := none) (by decide) rfl ?_
  intro p e s m args below meth c s₁ B0 hml hv
  obtain ⟨rfl, hv⟩ := hv
  have hx := B0.exec
  have hb := B0.bytes
  have hr := B0.returns
  have hts := atoms_spec (ws := (Cond.code y_Told_forget prog_11_method_2_code 2 none) :: tw) B0.pre
  have htw : ∀ w ∈ tw, w.before _ s = true := fun w hw => hts w (List.mem_cons_of_mem _ hw)
  have hown : s.vm.findClass "DrawingMachine$Told" = some m.cls := findClass_of_methodNamed B0.named
  have hlocks := B0.notSynchronized
  obtain ⟨hC, hP, hD, hsz⟩ := wC_init hv
  subst hsz
  generalize hAe : va_A [(h0, .inr (1, [.ref ke])), (ke, .inl (cI, 245, .inl f))] s.heap.size = A at hC hD ⊢
  have hS : va_S A s.heap s.heap [] := va_S.rf
  have hl := lv_entry ([.ref h0]) (n := 2) (Nat.le_of_ble_eq_true rfl)
  rw [lg_entry_eq]
  generalize (lg_sl ([.ref h0]) ++ List.replicate (2 - (lg_sl ([.ref h0])).length) Slot.unset).toArray = ls at hl ⊢
  have hl : lv_has ls 2 [(0, .ref h0)] := hl
  refine lv_aload_n hx hb d_Told_forget_0 rfl (lv_at hl 0 rfl) ?_
  refine va_get (D := D) (ci := 1) (v := .ref ke) (C := R_Told) (T := F_Told) (N := 1) hx hb htw i_Told hown hC.1 hP 0 rfl rfl 0 (by decide) (htw _ k381) (fun _ h9 => h9) rfl d_Told_forget_1 ?_
  refine lv_iconst (v := 0) hx hb d_Told_forget_4 (by decide) ?_
  refine wc_v (wr := [(h0, .inr (1, [.ref ke]))]) hC hP hD hS [1] [0] rfl rfl (by decide) (by decide) (va_runS (As := [.ref ke, .int 0]) (rest := []) ⟨hx, hb, hml, hown, htw⟩ (c_Arr_fill l D cI cL B _ ke 0 245 f (by decide)) (va_cwS 2 htw gS_Told_18 rfl rfl rfl (by decide +kernel) ⟨Nat.le_of_ble_eq_true rfl, Nat.le_of_ble_eq_true rfl⟩) (wC_pre hC hP hD hS [1] (by decide) rfl) rfl rfl hl.1 rfl (lv_room (Nat.le_of_ble_eq_true rfl)) d_Told_forget_5 ⟨Nat.le_of_ble_eq_true rfl, Nat.le_of_ble_eq_true rfl⟩) (fun u57 H locs hw58 hP hD hS => ?_)
  obtain ⟨z59, rfl⟩ : ∃ z, z = u57 := ⟨_, rfl⟩
  have hP : va_P D classes [(h0, .inr (1, [.ref ke])), (ke, .inl (cI, 245, .inl z59))] H := hP
  have hD : va_D A [(h0, .inr (1, [.ref ke])), (ke, .inl (cI, 245, .inl z59))] := hD
  refine W.widen (k := 0) (n := 0) (by omega) (by omega) ?_
  refine lv_aload_n hx hb d_Told_forget_8 rfl (lv_at hl 0 rfl) ?_
  refine va_get (D := D) (ci := 1) (v := .ref ke) (C := R_Told) (T := F_Told) (N := 1) hx hb htw i_Told hown hC.1 hP 0 rfl rfl 0 (by decide) (htw _ k381) (fun _ h9 => h9) rfl d_Told_forget_9 ?_
  refine lv_iconst (v := 2) hx hb d_Told_forget_12 (by decide) ?_
  refine lv_iconst (v := 1) hx hb d_Told_forget_13 (by decide) ?_
  refine va_iast hx hb hC.1 hP hD hS 1 0 rfl rfl (by unfold vp_in; decide) d_Told_forget_14 (fun H locs hP hD hS => ?_)
  have hP : va_P D classes [(h0, .inr (1, [.ref ke])), (ke, .inl (cI, 245, .inl (upd z59 (2 : Int32).toNatClampNeg 1)))] H := hP
  have hD : va_D A [(h0, .inr (1, [.ref ke])), (ke, .inl (cI, 245, .inl (upd z59 (2 : Int32).toNatClampNeg 1)))] := hD
  generalize upd z59 (2 : Int32).toNatClampNeg 1 = f60 at hP hD
  refine lv_aload_n hx hb d_Told_forget_15 rfl (lv_at hl 0 rfl) ?_
  refine va_get (D := D) (ci := 1) (v := .ref ke) (C := R_Told) (T := F_Told) (N := 1) hx hb htw i_Told hown hC.1 hP 0 rfl rfl 0 (by decide) (htw _ k381) (fun _ h9 => h9) rfl d_Told_forget_16 ?_
  refine lv_iconst (v := 3) hx hb d_Told_forget_19 (by decide) ?_
  refine lv_iconst (v := 1) hx hb d_Told_forget_20 (by decide) ?_
  refine va_iast hx hb hC.1 hP hD hS 1 0 rfl rfl (by unfold vp_in; decide) d_Told_forget_21 (fun H locs hP hD hS => ?_)
  have hP : va_P D classes [(h0, .inr (1, [.ref ke])), (ke, .inl (cI, 245, .inl (upd f60 (3 : Int32).toNatClampNeg 1)))] H := hP
  have hD : va_D A [(h0, .inr (1, [.ref ke])), (ke, .inl (cI, 245, .inl (upd f60 (3 : Int32).toNatClampNeg 1)))] := hD
  generalize upd f60 (3 : Int32).toNatClampNeg 1 = f61 at hP hD
  refine lv_aload_n hx hb d_Told_forget_22 rfl (lv_at hl 0 rfl) ?_
  refine va_get (D := D) (ci := 1) (v := .ref ke) (C := R_Told) (T := F_Told) (N := 1) hx hb htw i_Told hown hC.1 hP 0 rfl rfl 0 (by decide) (htw _ k381) (fun _ h9 => h9) rfl d_Told_forget_23 ?_
  refine lv_iconst (v := 5) hx hb d_Told_forget_26 (by decide) ?_
  refine lv_ldc (v := 16777215) hx hb hown (htw _ k387) d_Told_forget_27 ?_
  refine va_iast hx hb hC.1 hP hD hS 1 0 rfl rfl (by unfold vp_in; decide) d_Told_forget_29 (fun H locs hP hD hS => ?_)
  have hP : va_P D classes [(h0, .inr (1, [.ref ke])), (ke, .inl (cI, 245, .inl (upd f61 (5 : Int32).toNatClampNeg 16777215)))] H := hP
  have hD : va_D A [(h0, .inr (1, [.ref ke])), (ke, .inl (cI, 245, .inl (upd f61 (5 : Int32).toNatClampNeg 16777215)))] := hD
  generalize upd f61 (5 : Int32).toNatClampNeg 16777215 = f62 at hP hD
  refine lv_aload_n hx hb d_Told_forget_30 rfl (lv_at hl 0 rfl) ?_
  refine va_get (D := D) (ci := 1) (v := .ref ke) (C := R_Told) (T := F_Told) (N := 1) hx hb htw i_Told hown hC.1 hP 0 rfl rfl 0 (by decide) (htw _ k381) (fun _ h9 => h9) rfl d_Told_forget_31 ?_
  refine lv_bipush (v := 8) hx hb d_Told_forget_34 (by decide) ?_
  refine lv_iconst (v := (-1)) hx hb d_Told_forget_36 (by decide) ?_
  refine va_iast hx hb hC.1 hP hD hS 1 0 rfl rfl (by unfold vp_in; decide) d_Told_forget_37 (fun H locs hP hD hS => ?_)
  have hP : va_P D classes [(h0, .inr (1, [.ref ke])), (ke, .inl (cI, 245, .inl (upd f62 (8 : Int32).toNatClampNeg (-1))))] H := hP
  have hD : va_D A [(h0, .inr (1, [.ref ke])), (ke, .inl (cI, 245, .inl (upd f62 (8 : Int32).toNatClampNeg (-1))))] := hD
  generalize upd f62 (8 : Int32).toNatClampNeg (-1) = f63 at hP hD
  refine lv_iconst (v := 0) hx hb d_Told_forget_38 (by decide) ?_
  refine lv_istore_n (lv' := [(1, .int 0), (0, .ref h0)]) hx hb d_Told_forget_39 rfl hl (by decide) rfl (fun ls hl => ?_)
  refine lv_iload_n hx hb d_Told_forget_40 rfl (lv_at hl 0 rfl) ?_
  refine lv_iconst (v := 4) hx hb d_Told_forget_41 (by decide) ?_
  refine lv_icmp_ge (tgt := 66) hx hb d_Told_forget_42 (by decide) (fun c_64 => absurd c_64 (by decide)) (fun c_64 => ?_)
  refine lv_aload_n hx hb d_Told_forget_45 rfl (lv_at hl 1 rfl) ?_
  refine va_get (D := D) (ci := 1) (v := .ref ke) (C := R_Told) (T := F_Told) (N := 1) hx hb htw i_Told hown hC.1 hP 0 rfl rfl 0 (by decide) (htw _ k381) (fun _ h9 => h9) rfl d_Told_forget_46 ?_
  refine lv_sipush (v := 170) hx hb d_Told_forget_49 (by decide) ?_
  refine lv_iconst (v := 5) hx hb d_Told_forget_52 (by decide) ?_
  refine lv_iload_n hx hb d_Told_forget_53 rfl (lv_at hl 0 rfl) ?_
  refine lv_imul hx hb d_Told_forget_54 ?_
  refine wi_c (v := 0) (by decide) ?_
  refine lv_iadd hx hb d_Told_forget_55 ?_
  refine wi_c (v := 170) (by decide) ?_
  refine lv_iconst (v := 3) hx hb d_Told_forget_56 (by decide) ?_
  refine lv_iadd hx hb d_Told_forget_57 ?_
  refine wi_c (v := 173) (by decide) ?_
  refine lv_iconst (v := 1) hx hb d_Told_forget_58 (by decide) ?_
  refine va_iast hx hb hC.1 hP hD hS 1 0 rfl rfl (by unfold vp_in; decide) d_Told_forget_59 (fun H locs hP hD hS => ?_)
  have hP : va_P D classes [(h0, .inr (1, [.ref ke])), (ke, .inl (cI, 245, .inl (upd f63 (173 : Int32).toNatClampNeg 1)))] H := hP
  have hD : va_D A [(h0, .inr (1, [.ref ke])), (ke, .inl (cI, 245, .inl (upd f63 (173 : Int32).toNatClampNeg 1)))] := hD
  generalize upd f63 (173 : Int32).toNatClampNeg 1 = f65 at hP hD
  refine lv_iinc (v := 1) (lv' := [(1, .int 1), (0, .ref h0)]) hx hb d_Told_forget_60 hl (k := 0) rfl (by decide) (by decide) rfl (fun ls hl => ?_)
  refine lv_goto (tgt := 40) hx hb d_Told_forget_63 (by decide) ?_
  refine lv_iload_n hx hb d_Told_forget_40 rfl (lv_at hl 0 rfl) ?_
  refine lv_iconst (v := 4) hx hb d_Told_forget_41 (by decide) ?_
  refine lv_icmp_ge (tgt := 66) hx hb d_Told_forget_42 (by decide) (fun c_66 => absurd c_66 (by decide)) (fun c_66 => ?_)
  refine lv_aload_n hx hb d_Told_forget_45 rfl (lv_at hl 1 rfl) ?_
  refine va_get (D := D) (ci := 1) (v := .ref ke) (C := R_Told) (T := F_Told) (N := 1) hx hb htw i_Told hown hC.1 hP 0 rfl rfl 0 (by decide) (htw _ k381) (fun _ h9 => h9) rfl d_Told_forget_46 ?_
  refine lv_sipush (v := 170) hx hb d_Told_forget_49 (by decide) ?_
  refine lv_iconst (v := 5) hx hb d_Told_forget_52 (by decide) ?_
  refine lv_iload_n hx hb d_Told_forget_53 rfl (lv_at hl 0 rfl) ?_
  refine lv_imul hx hb d_Told_forget_54 ?_
  refine wi_c (v := 5) (by decide) ?_
  refine lv_iadd hx hb d_Told_forget_55 ?_
  refine wi_c (v := 175) (by decide) ?_
  refine lv_iconst (v := 3) hx hb d_Told_forget_56 (by decide) ?_
  refine lv_iadd hx hb d_Told_forget_57 ?_
  refine wi_c (v := 178) (by decide) ?_
  refine lv_iconst (v := 1) hx hb d_Told_forget_58 (by decide) ?_
  refine va_iast hx hb hC.1 hP hD hS 1 0 rfl rfl (by unfold vp_in; decide) d_Told_forget_59 (fun H locs hP hD hS => ?_)
  have hP : va_P D classes [(h0, .inr (1, [.ref ke])), (ke, .inl (cI, 245, .inl (upd f65 (178 : Int32).toNatClampNeg 1)))] H := hP
  have hD : va_D A [(h0, .inr (1, [.ref ke])), (ke, .inl (cI, 245, .inl (upd f65 (178 : Int32).toNatClampNeg 1)))] := hD
  generalize upd f65 (178 : Int32).toNatClampNeg 1 = f67 at hP hD
  refine lv_iinc (v := 2) (lv' := [(1, .int 2), (0, .ref h0)]) hx hb d_Told_forget_60 hl (k := 0) rfl (by decide) (by decide) rfl (fun ls hl => ?_)
  refine lv_goto (tgt := 40) hx hb d_Told_forget_63 (by decide) ?_
  refine lv_iload_n hx hb d_Told_forget_40 rfl (lv_at hl 0 rfl) ?_
  refine lv_iconst (v := 4) hx hb d_Told_forget_41 (by decide) ?_
  refine lv_icmp_ge (tgt := 66) hx hb d_Told_forget_42 (by decide) (fun c_68 => absurd c_68 (by decide)) (fun c_68 => ?_)
  refine lv_aload_n hx hb d_Told_forget_45 rfl (lv_at hl 1 rfl) ?_
  refine va_get (D := D) (ci := 1) (v := .ref ke) (C := R_Told) (T := F_Told) (N := 1) hx hb htw i_Told hown hC.1 hP 0 rfl rfl 0 (by decide) (htw _ k381) (fun _ h9 => h9) rfl d_Told_forget_46 ?_
  refine lv_sipush (v := 170) hx hb d_Told_forget_49 (by decide) ?_
  refine lv_iconst (v := 5) hx hb d_Told_forget_52 (by decide) ?_
  refine lv_iload_n hx hb d_Told_forget_53 rfl (lv_at hl 0 rfl) ?_
  refine lv_imul hx hb d_Told_forget_54 ?_
  refine wi_c (v := 10) (by decide) ?_
  refine lv_iadd hx hb d_Told_forget_55 ?_
  refine wi_c (v := 180) (by decide) ?_
  refine lv_iconst (v := 3) hx hb d_Told_forget_56 (by decide) ?_
  refine lv_iadd hx hb d_Told_forget_57 ?_
  refine wi_c (v := 183) (by decide) ?_
  refine lv_iconst (v := 1) hx hb d_Told_forget_58 (by decide) ?_
  refine va_iast hx hb hC.1 hP hD hS 1 0 rfl rfl (by unfold vp_in; decide) d_Told_forget_59 (fun H locs hP hD hS => ?_)
  have hP : va_P D classes [(h0, .inr (1, [.ref ke])), (ke, .inl (cI, 245, .inl (upd f67 (183 : Int32).toNatClampNeg 1)))] H := hP
  have hD : va_D A [(h0, .inr (1, [.ref ke])), (ke, .inl (cI, 245, .inl (upd f67 (183 : Int32).toNatClampNeg 1)))] := hD
  generalize upd f67 (183 : Int32).toNatClampNeg 1 = f69 at hP hD
  refine lv_iinc (v := 3) (lv' := [(1, .int 3), (0, .ref h0)]) hx hb d_Told_forget_60 hl (k := 0) rfl (by decide) (by decide) rfl (fun ls hl => ?_)
  refine lv_goto (tgt := 40) hx hb d_Told_forget_63 (by decide) ?_
  refine lv_iload_n hx hb d_Told_forget_40 rfl (lv_at hl 0 rfl) ?_
  refine lv_iconst (v := 4) hx hb d_Told_forget_41 (by decide) ?_
  refine lv_icmp_ge (tgt := 66) hx hb d_Told_forget_42 (by decide) (fun c_70 => absurd c_70 (by decide)) (fun c_70 => ?_)
  refine lv_aload_n hx hb d_Told_forget_45 rfl (lv_at hl 1 rfl) ?_
  refine va_get (D := D) (ci := 1) (v := .ref ke) (C := R_Told) (T := F_Told) (N := 1) hx hb htw i_Told hown hC.1 hP 0 rfl rfl 0 (by decide) (htw _ k381) (fun _ h9 => h9) rfl d_Told_forget_46 ?_
  refine lv_sipush (v := 170) hx hb d_Told_forget_49 (by decide) ?_
  refine lv_iconst (v := 5) hx hb d_Told_forget_52 (by decide) ?_
  refine lv_iload_n hx hb d_Told_forget_53 rfl (lv_at hl 0 rfl) ?_
  refine lv_imul hx hb d_Told_forget_54 ?_
  refine wi_c (v := 15) (by decide) ?_
  refine lv_iadd hx hb d_Told_forget_55 ?_
  refine wi_c (v := 185) (by decide) ?_
  refine lv_iconst (v := 3) hx hb d_Told_forget_56 (by decide) ?_
  refine lv_iadd hx hb d_Told_forget_57 ?_
  refine wi_c (v := 188) (by decide) ?_
  refine lv_iconst (v := 1) hx hb d_Told_forget_58 (by decide) ?_
  refine va_iast hx hb hC.1 hP hD hS 1 0 rfl rfl (by unfold vp_in; decide) d_Told_forget_59 (fun H locs hP hD hS => ?_)
  have hP : va_P D classes [(h0, .inr (1, [.ref ke])), (ke, .inl (cI, 245, .inl (upd f69 (188 : Int32).toNatClampNeg 1)))] H := hP
  have hD : va_D A [(h0, .inr (1, [.ref ke])), (ke, .inl (cI, 245, .inl (upd f69 (188 : Int32).toNatClampNeg 1)))] := hD
  generalize upd f69 (188 : Int32).toNatClampNeg 1 = f71 at hP hD
  refine lv_iinc (v := 4) (lv' := [(1, .int 4), (0, .ref h0)]) hx hb d_Told_forget_60 hl (k := 0) rfl (by decide) (by decide) rfl (fun ls hl => ?_)
  refine lv_goto (tgt := 40) hx hb d_Told_forget_63 (by decide) ?_
  refine lv_iload_n hx hb d_Told_forget_40 rfl (lv_at hl 0 rfl) ?_
  refine lv_iconst (v := 4) hx hb d_Told_forget_41 (by decide) ?_
  refine lv_icmp_ge (tgt := 66) hx hb d_Told_forget_42 (by decide) (fun c_72 => ?_) (fun c_72 => absurd c_72 (by decide))
  refine lv_aload_n hx hb d_Told_forget_66 rfl (lv_at hl 1 rfl) ?_
  refine va_get (D := D) (ci := 1) (v := .ref ke) (C := R_Told) (T := F_Told) (N := 1) hx hb htw i_Told hown hC.1 hP 0 rfl rfl 0 (by decide) (htw _ k381) (fun _ h9 => h9) rfl d_Told_forget_67 ?_
  refine lv_sipush (v := 190) hx hb d_Told_forget_70 (by decide) ?_
  refine lv_iconst (v := (-1)) hx hb d_Told_forget_73 (by decide) ?_
  refine va_iast hx hb hC.1 hP hD hS 1 0 rfl rfl (by unfold vp_in; decide) d_Told_forget_74 (fun H locs hP hD hS => ?_)
  have hP : va_P D classes [(h0, .inr (1, [.ref ke])), (ke, .inl (cI, 245, .inl (upd f71 (190 : Int32).toNatClampNeg (-1))))] H := hP
  have hD : va_D A [(h0, .inr (1, [.ref ke])), (ke, .inl (cI, 245, .inl (upd f71 (190 : Int32).toNatClampNeg (-1))))] := hD
  generalize upd f71 (190 : Int32).toNatClampNeg (-1) = f73 at hP hD
  refine lv_aload_n hx hb d_Told_forget_75 rfl (lv_at hl 1 rfl) ?_
  refine va_get (D := D) (ci := 1) (v := .ref ke) (C := R_Told) (T := F_Told) (N := 1) hx hb htw i_Told hown hC.1 hP 0 rfl rfl 0 (by decide) (htw _ k381) (fun _ h9 => h9) rfl d_Told_forget_76 ?_
  refine lv_sipush (v := 192) hx hb d_Told_forget_79 (by decide) ?_
  refine lv_iconst (v := (-1)) hx hb d_Told_forget_82 (by decide) ?_
  refine va_iast hx hb hC.1 hP hD hS 1 0 rfl rfl (by unfold vp_in; decide) d_Told_forget_83 (fun H locs hP hD hS => ?_)
  have hP : va_P D classes [(h0, .inr (1, [.ref ke])), (ke, .inl (cI, 245, .inl (upd f73 (192 : Int32).toNatClampNeg (-1))))] H := hP
  have hD : va_D A [(h0, .inr (1, [.ref ke])), (ke, .inl (cI, 245, .inl (upd f73 (192 : Int32).toNatClampNeg (-1))))] := hD
  generalize upd f73 (192 : Int32).toNatClampNeg (-1) = f74 at hP hD
  refine lv_aload_n hx hb d_Told_forget_84 rfl (lv_at hl 1 rfl) ?_
  refine va_get (D := D) (ci := 1) (v := .ref ke) (C := R_Told) (T := F_Told) (N := 1) hx hb htw i_Told hown hC.1 hP 0 rfl rfl 0 (by decide) (htw _ k381) (fun _ h9 => h9) rfl d_Told_forget_85 ?_
  refine lv_sipush (v := 199) hx hb d_Told_forget_88 (by decide) ?_
  refine lv_iconst (v := (-1)) hx hb d_Told_forget_91 (by decide) ?_
  refine va_iast hx hb hC.1 hP hD hS 1 0 rfl rfl (by unfold vp_in; decide) d_Told_forget_92 (fun H locs hP hD hS => ?_)
  have hP : va_P D classes [(h0, .inr (1, [.ref ke])), (ke, .inl (cI, 245, .inl (upd f74 (199 : Int32).toNatClampNeg (-1))))] H := hP
  have hD : va_D A [(h0, .inr (1, [.ref ke])), (ke, .inl (cI, 245, .inl (upd f74 (199 : Int32).toNatClampNeg (-1))))] := hD
  generalize upd f74 (199 : Int32).toNatClampNeg (-1) = f75 at hP hD
  refine lv_aload_n hx hb d_Told_forget_93 rfl (lv_at hl 1 rfl) ?_
  refine va_get (D := D) (ci := 1) (v := .ref ke) (C := R_Told) (T := F_Told) (N := 1) hx hb htw i_Told hown hC.1 hP 0 rfl rfl 0 (by decide) (htw _ k381) (fun _ h9 => h9) rfl d_Told_forget_94 ?_
  refine lv_sipush (v := 210) hx hb d_Told_forget_97 (by decide) ?_
  refine lv_iconst (v := (-1)) hx hb d_Told_forget_100 (by decide) ?_
  refine va_iast hx hb hC.1 hP hD hS 1 0 rfl rfl (by unfold vp_in; decide) d_Told_forget_101 (fun H locs hP hD hS => ?_)
  have hP : va_P D classes [(h0, .inr (1, [.ref ke])), (ke, .inl (cI, 245, .inl (upd f75 (210 : Int32).toNatClampNeg (-1))))] H := hP
  have hD : va_D A [(h0, .inr (1, [.ref ke])), (ke, .inl (cI, 245, .inl (upd f75 (210 : Int32).toNatClampNeg (-1))))] := hD
  generalize upd f75 (210 : Int32).toNatClampNeg (-1) = f76 at hP hD
  refine lv_aload_n hx hb d_Told_forget_102 rfl (lv_at hl 1 rfl) ?_
  refine va_get (D := D) (ci := 1) (v := .ref ke) (C := R_Told) (T := F_Told) (N := 1) hx hb htw i_Told hown hC.1 hP 0 rfl rfl 0 (by decide) (htw _ k381) (fun _ h9 => h9) rfl d_Told_forget_103 ?_
  refine lv_sipush (v := 213) hx hb d_Told_forget_106 (by decide) ?_
  refine lv_iconst (v := (-1)) hx hb d_Told_forget_109 (by decide) ?_
  refine va_iast hx hb hC.1 hP hD hS 1 0 rfl rfl (by unfold vp_in; decide) d_Told_forget_110 (fun H locs hP hD hS => ?_)
  have hP : va_P D classes [(h0, .inr (1, [.ref ke])), (ke, .inl (cI, 245, .inl (upd f76 (213 : Int32).toNatClampNeg (-1))))] H := hP
  have hD : va_D A [(h0, .inr (1, [.ref ke])), (ke, .inl (cI, 245, .inl (upd f76 (213 : Int32).toNatClampNeg (-1))))] := hD
  generalize upd f76 (213 : Int32).toNatClampNeg (-1) = f77 at hP hD
  refine lv_aload_n hx hb d_Told_forget_111 rfl (lv_at hl 1 rfl) ?_
  refine va_get (D := D) (ci := 1) (v := .ref ke) (C := R_Told) (T := F_Told) (N := 1) hx hb htw i_Told hown hC.1 hP 0 rfl rfl 0 (by decide) (htw _ k381) (fun _ h9 => h9) rfl d_Told_forget_112 ?_
  refine lv_sipush (v := 214) hx hb d_Told_forget_115 (by decide) ?_
  refine lv_bipush (v := 15) hx hb d_Told_forget_118 (by decide) ?_
  refine va_iast hx hb hC.1 hP hD hS 1 0 rfl rfl (by unfold vp_in; decide) d_Told_forget_120 (fun H locs hP hD hS => ?_)
  have hP : va_P D classes [(h0, .inr (1, [.ref ke])), (ke, .inl (cI, 245, .inl (upd f77 (214 : Int32).toNatClampNeg 15)))] H := hP
  have hD : va_D A [(h0, .inr (1, [.ref ke])), (ke, .inl (cI, 245, .inl (upd f77 (214 : Int32).toNatClampNeg 15)))] := hD
  generalize upd f77 (214 : Int32).toNatClampNeg 15 = f78 at hP hD
  refine W.widen (k := 0) (n := 0) (Nat.le_of_ble_eq_true rfl) (Nat.le_of_ble_eq_true rfl) ?_
  have hP9 := hP.sub (ws' := [(h0, .inr (1, [.ref ke])), (ke, .inl (cI, 245, .inl f78))]) [0, 1] rfl
  have hD9 := hD.sub (ws' := [(h0, .inr (1, [.ref ke])), (ke, .inl (cI, 245, .inl f78))]) [0, 1] (by decide) rfl
  exact W.vret hx hb hr (fun t ht hW => ⟨⟨f78, rfl, trivial, by rw [ht]; exact hP9, va_K.moved hW.alike hC.1, hD9⟩, hS.F ht⟩) hS.2.2 d_Told_forget_121

theorem d_Told_init_0 : decode prog_11_method_1_code 0 = .ok (.aload_n 0, 1) := by decide +kernel
theorem d_Told_init_1 : decode prog_11_method_1_code 1 = .ok (.invokespecial 3, 3) := by decide +kernel
theorem d_Told_init_4 : decode prog_11_method_1_code 4 = .ok (.aload_n 0, 1) := by decide +kernel
theorem d_Told_init_5 : decode prog_11_method_1_code 5 = .ok (.sipush 245, 3) := by decide +kernel
theorem d_Told_init_8 : decode prog_11_method_1_code 8 = .ok (.newarray .int, 2) := by decide +kernel
theorem d_Told_init_10 : decode prog_11_method_1_code 10 = .ok (.putfield 9, 3) := by decide +kernel
theorem d_Told_init_13 : decode prog_11_method_1_code 13 = .ok (.aload_n 0, 1) := by decide +kernel
theorem d_Told_init_14 : decode prog_11_method_1_code 14 = .ok (.invokevirtual 15, 3) := by decide +kernel
theorem d_Told_init_17 : decode prog_11_method_1_code 17 = .ok (.return_, 1) := by decide +kernel
theorem gV_Told_15 : GoodIn tw (wsV "DrawingMachine$Told" 15 "DrawingMachine$Told" y_Told_forget ((Cond.code y_Told_forget prog_11_method_2_code 2 none) :: tw)) := tw_pre (fun _ h => h) (tw_good (fun _ h => h) k312) (List.forall_mem_cons.mpr ⟨k382, List.forall_mem_cons.mpr ⟨k310, List.forall_mem_cons.mpr ⟨k311, List.forall_mem_cons.mpr ⟨k11, fun _ h => absurd h List.not_mem_nil⟩⟩⟩⟩)
set_option maxHeartbeats 4000000 in
set_option maxRecDepth 100000 in
theorem c_Told_init (l : Launch) (D : va_G) (cI cL : ClassId) (B sz : Nat) (h0 : Nat) : Met l y_Told_init ((Cond.code y_Told_init prog_11_method_1_code 1 none) :: tw) ({ frames := 40, cells := 1, slots := 245, locals := 4000 }) (va_Pc [.ref h0] (wP D cI cL B sz [(h0, .inr (1, [.null]))])) (va_Qv (S := Nat × (Nat → Int32)) (fun _ => True) (fun u => wB D cI cL (va_A [(h0, .inr (1, [.null]))] sz) ((fun u : Nat × (Nat → Int32) => match u with | (q79, z82) => [(h0, .inr (1, [.ref q79])), (q79, .inl (cI, 245, .inl z82))]) u)) (va_A [(h0, .inr (1, [.null]))] sz)) 1 245 (va_A [(h0, .inr (1, [.null]))] sz) := by
  refine Met.ofW (cc := prog_11_method_1_code) (maxL := 1) (ret := none) (by decide) rfl ?_
  intro p e s m args below meth c s₁ B0 hml hv
  obtain ⟨rfl, hv⟩ := hv
  have hx := B0.exec
  have hb := B0.bytes
  have hr := B0.returns
  have hts := atoms_spec (ws := (Cond.code y_Told_init prog_11_method_1_code 1 none) :: tw) B0.pre
  have htw : ∀ w ∈ tw, w.before _ s = true := fun w hw => hts w (List.mem_cons_of_mem _ hw)
  have hown : s.vm.findClass "DrawingMachine$Told" = some m.cls := findClass_of_methodNamed B0.named
  have hlocks := B0.notSynchronized
  have hin : meth.name = "<init>" := (name_of_methodNamed B0.named B0.method).1
  obtain ⟨hC, hP, hD, hsz⟩ := wC_init hv
  subst hsz
  generalize hAe : va_A [(h0, .inr (1, [.null]))] s.heap.size = A at hC hD ⊢
  have hS : va_S A s.heap s.heap [] := va_S.rf
  have hl := lv_entry ([.ref h0]) (n := 1) (Nat.le_of_ble_eq_true rfl)
  rw [lg_entry_eq]
  generalize (lg_sl ([.ref h0]) ++ List.replicate (1 - (lg_sl ([.ref h0])).length) Slot.unset).toArray = ls at hl ⊢
  have hl : lv_has ls 1 [(0, .ref h0)] := hl
  refine lv_aload_n hx hb d_Told_init_0 rfl (lv_at hl 0 rfl) ?_
  refine W.objInit hx hb hown (htw _ k380) (htw _ k242) (htw _ k243) rfl (by rw [hml]; exact hl.1) rfl d_Told_init_1 (Nat.le_of_ble_eq_true rfl) (Nat.le_of_ble_eq_true rfl) ?_
  refine W.eq (g2 := F0 m 4 ls []) rfl ?_
  refine lv_aload_n hx hb d_Told_init_4 rfl (lv_at hl 0 rfl) ?_
  refine lv_sipush (v := 245) hx hb d_Told_init_5 (by decide) ?_
  refine wna_i hx hb (htw _ k238) hC hP hD hS (N := 245) (by decide) (by omega) (Nat.le_of_ble_eq_true rfl) (Nat.le_of_ble_eq_true rfl) d_Told_init_8 (fun q79 H hP hD hS => ?_)
  have hP : va_P D classes [(h0, .inr (1, [.null])), (q79, .inl (cI, 245, .inl (fun _ => 0)))] H := hP
  have hD : va_D A [(h0, .inr (1, [.null])), (q79, .inl (cI, 245, .inl (fun _ => 0)))] := hD
  refine W.widen (k := 1) (n := 245) (by omega) (by omega) ?_
  refine va_putF (D := D) (ci := 1) (v := .ref q79) (ty := .array .int) (C := R_Told) (T := F_Told) (N := 1) hx hb htw i_Told t_Told t_Told_ok n_Told hown hC.1 hP hD hS 0 rfl rfl 0 (by decide) (htw _ k381) (fun _ h9 => h9) rfl hin rfl (by decide +kernel) rfl rfl (Nat.le_of_ble_eq_true rfl) d_Told_init_10 (fun H locs hP hD hS => ?_)
  have hP : va_P D classes [(h0, .inr (1, [.ref q79])), (q79, .inl (cI, 245, .inl (fun _ => 0)))] H := hP
  have hD : va_D A [(h0, .inr (1, [.ref q79])), (q79, .inl (cI, 245, .inl (fun _ => 0)))] := hD
  refine lv_aload_n hx hb d_Told_init_13 rfl (lv_at hl 0 rfl) ?_
  refine wc_v (wr := []) hC hP hD hS [0, 1] [] rfl rfl (by decide) (by decide) (va_runV (As := []) (rest := []) ⟨hx, hb, hml, hown, htw⟩ (c_Told_forget l D cI cL B _ h0 q79 (fun _ => 0)) (cwV 0 htw gV_Told_15 rfl rfl rfl (by decide +kernel) ⟨Nat.le_of_ble_eq_true rfl, Nat.le_of_ble_eq_true rfl⟩) (wC_preV (As := []) hC hP hD hS [0, 1] (by decide) rfl (q0 := 0) rfl rfl) rfl rfl hl.1 rfl (lv_room (Nat.le_of_ble_eq_true rfl)) d_Told_init_14 ⟨Nat.le_of_ble_eq_true rfl, Nat.le_of_ble_eq_true rfl⟩) (fun u80 H locs hw81 hP hD hS => ?_)
  obtain ⟨z82, rfl⟩ : ∃ z, z = u80 := ⟨_, rfl⟩
  have hP : va_P D classes [(h0, .inr (1, [.ref q79])), (q79, .inl (cI, 245, .inl z82))] H := hP
  have hD : va_D A [(h0, .inr (1, [.ref q79])), (q79, .inl (cI, 245, .inl z82))] := hD
  refine W.widen (k := 1) (n := 245) (by omega) (by omega) ?_
  refine W.widen (k := 1) (n := 245) (Nat.le_of_ble_eq_true rfl) (Nat.le_of_ble_eq_true rfl) ?_
  have hP9 := hP.sub (ws' := [(h0, .inr (1, [.ref q79])), (q79, .inl (cI, 245, .inl z82))]) [0, 1] rfl
  have hD9 := hD.sub (ws' := [(h0, .inr (1, [.ref q79])), (q79, .inl (cI, 245, .inl z82))]) [0, 1] (by decide) rfl
  exact W.vret hx hb hr (fun t ht hW => ⟨⟨(q79, z82), rfl, trivial, by rw [ht]; exact hP9, va_K.moved hW.alike hC.1, hD9⟩, hS.F ht⟩) hS.2.2 d_Told_init_17

theorem d_DM_init_0 : decode prog_1_method_1_code 0 = .ok (.aload_n 0, 1) := by decide +kernel
theorem d_DM_init_1 : decode prog_1_method_1_code 1 = .ok (.invokespecial 1, 3) := by decide +kernel
theorem d_DM_init_4 : decode prog_1_method_1_code 4 = .ok (.aload_n 0, 1) := by decide +kernel
theorem d_DM_init_5 : decode prog_1_method_1_code 5 = .ok (.sipush 4096, 3) := by decide +kernel
theorem d_DM_init_8 : decode prog_1_method_1_code 8 = .ok (.newarray .int, 2) := by decide +kernel
theorem d_DM_init_10 : decode prog_1_method_1_code 10 = .ok (.putfield 9, 3) := by decide +kernel
theorem d_DM_init_13 : decode prog_1_method_1_code 13 = .ok (.aload_n 0, 1) := by decide +kernel
theorem d_DM_init_14 : decode prog_1_method_1_code 14 = .ok (.new 13, 3) := by decide +kernel
theorem d_DM_init_17 : decode prog_1_method_1_code 17 = .ok (.dup, 1) := by decide +kernel
theorem d_DM_init_18 : decode prog_1_method_1_code 18 = .ok (.invokespecial 15, 3) := by decide +kernel
theorem d_DM_init_21 : decode prog_1_method_1_code 21 = .ok (.putfield 16, 3) := by decide +kernel
theorem d_DM_init_24 : decode prog_1_method_1_code 24 = .ok (.aload_n 0, 1) := by decide +kernel
theorem d_DM_init_25 : decode prog_1_method_1_code 25 = .ok (.new 20, 3) := by decide +kernel
theorem d_DM_init_28 : decode prog_1_method_1_code 28 = .ok (.dup, 1) := by decide +kernel
theorem d_DM_init_29 : decode prog_1_method_1_code 29 = .ok (.aload_n 0, 1) := by decide +kernel
theorem d_DM_init_30 : decode prog_1_method_1_code 30 = .ok (.getfield 16, 3) := by decide +kernel
theorem d_DM_init_33 : decode prog_1_method_1_code 33 = .ok (.invokespecial 22, 3) := by decide +kernel
theorem d_DM_init_36 : decode prog_1_method_1_code 36 = .ok (.putfield 25, 3) := by decide +kernel
theorem d_DM_init_39 : decode prog_1_method_1_code 39 = .ok (.aload_n 0, 1) := by decide +kernel
theorem d_DM_init_40 : decode prog_1_method_1_code 40 = .ok (.new 29, 3) := by decide +kernel
theorem d_DM_init_43 : decode prog_1_method_1_code 43 = .ok (.dup, 1) := by decide +kernel
theorem d_DM_init_44 : decode prog_1_method_1_code 44 = .ok (.aload_n 0, 1) := by decide +kernel
theorem d_DM_init_45 : decode prog_1_method_1_code 45 = .ok (.getfield 9, 3) := by decide +kernel
theorem d_DM_init_48 : decode prog_1_method_1_code 48 = .ok (.invokespecial 31, 3) := by decide +kernel
theorem d_DM_init_51 : decode prog_1_method_1_code 51 = .ok (.putfield 34, 3) := by decide +kernel
theorem d_DM_init_54 : decode prog_1_method_1_code 54 = .ok (.aload_n 0, 1) := by decide +kernel
theorem d_DM_init_55 : decode prog_1_method_1_code 55 = .ok (.new 38, 3) := by decide +kernel
theorem d_DM_init_58 : decode prog_1_method_1_code 58 = .ok (.dup, 1) := by decide +kernel
theorem d_DM_init_59 : decode prog_1_method_1_code 59 = .ok (.invokespecial 40, 3) := by decide +kernel
theorem d_DM_init_62 : decode prog_1_method_1_code 62 = .ok (.putfield 41, 3) := by decide +kernel
theorem d_DM_init_65 : decode prog_1_method_1_code 65 = .ok (.aload_n 0, 1) := by decide +kernel
theorem d_DM_init_66 : decode prog_1_method_1_code 66 = .ok (.new 45, 3) := by decide +kernel
theorem d_DM_init_69 : decode prog_1_method_1_code 69 = .ok (.dup, 1) := by decide +kernel
theorem d_DM_init_70 : decode prog_1_method_1_code 70 = .ok (.aload_n 0, 1) := by decide +kernel
theorem d_DM_init_71 : decode prog_1_method_1_code 71 = .ok (.getfield 9, 3) := by decide +kernel
theorem d_DM_init_74 : decode prog_1_method_1_code 74 = .ok (.aload_n 0, 1) := by decide +kernel
theorem d_DM_init_75 : decode prog_1_method_1_code 75 = .ok (.getfield 16, 3) := by decide +kernel
theorem d_DM_init_78 : decode prog_1_method_1_code 78 = .ok (.aload_n 0, 1) := by decide +kernel
theorem d_DM_init_79 : decode prog_1_method_1_code 79 = .ok (.getfield 25, 3) := by decide +kernel
theorem d_DM_init_82 : decode prog_1_method_1_code 82 = .ok (.invokespecial 47, 3) := by decide +kernel
theorem d_DM_init_85 : decode prog_1_method_1_code 85 = .ok (.putfield 50, 3) := by decide +kernel
theorem d_DM_init_88 : decode prog_1_method_1_code 88 = .ok (.aload_n 0, 1) := by decide +kernel
theorem d_DM_init_89 : decode prog_1_method_1_code 89 = .ok (.new 54, 3) := by decide +kernel
theorem d_DM_init_92 : decode prog_1_method_1_code 92 = .ok (.dup, 1) := by decide +kernel
theorem d_DM_init_93 : decode prog_1_method_1_code 93 = .ok (.invokespecial 56, 3) := by decide +kernel
theorem d_DM_init_96 : decode prog_1_method_1_code 96 = .ok (.putfield 57, 3) := by decide +kernel
theorem d_DM_init_99 : decode prog_1_method_1_code 99 = .ok (.aload_n 0, 1) := by decide +kernel
theorem d_DM_init_100 : decode prog_1_method_1_code 100 = .ok (.new 54, 3) := by decide +kernel
theorem d_DM_init_103 : decode prog_1_method_1_code 103 = .ok (.dup, 1) := by decide +kernel
theorem d_DM_init_104 : decode prog_1_method_1_code 104 = .ok (.invokespecial 56, 3) := by decide +kernel
theorem d_DM_init_107 : decode prog_1_method_1_code 107 = .ok (.putfield 61, 3) := by decide +kernel
theorem d_DM_init_110 : decode prog_1_method_1_code 110 = .ok (.aload_n 0, 1) := by decide +kernel
theorem d_DM_init_111 : decode prog_1_method_1_code 111 = .ok (.new 54, 3) := by decide +kernel
theorem d_DM_init_114 : decode prog_1_method_1_code 114 = .ok (.dup, 1) := by decide +kernel
theorem d_DM_init_115 : decode prog_1_method_1_code 115 = .ok (.invokespecial 56, 3) := by decide +kernel
theorem d_DM_init_118 : decode prog_1_method_1_code 118 = .ok (.putfield 64, 3) := by decide +kernel
theorem d_DM_init_121 : decode prog_1_method_1_code 121 = .ok (.return_, 1) := by decide +kernel
set_option maxHeartbeats 4000000 in
set_option maxRecDepth 100000 in
theorem c_DM_init (l : Launch) (D : va_G) (cI cL : ClassId) (B sz : Nat) (h0 : Nat) : Met l y_DM_init ((Cond.code y_DM_init prog_1_method_1_code 1 none) :: tw) ({ frames := 60, cells := 69, slots := 7978, locals := 6000 }) (va_Pc [.ref h0] (wP D cI cL B sz [(h0, .inr (0, [.null, .null, .null, .null, .null, .null, .null, .null, .null]))])) (va_Qv (S := Nat × Nat × Nat × (Nat → Int32) × Nat × Nat × Nat × Nat × Nat × Nat × Nat × Nat × Nat × Nat × Nat × Nat × Nat × Nat × Nat × Nat × Nat × Nat × Nat × Nat × Nat × Nat × Nat × Nat) (fun _ => True) (fun u => wB D cI cL (va_A [(h0, .inr (0, [.null, .null, .null, .null, .null, .null, .null, .null, .null]))] sz) ((fun u : Nat × Nat × Nat × (Nat → Int32) × Nat × Nat × Nat × Nat × Nat × Nat × Nat × Nat × Nat × Nat × Nat × Nat × Nat × Nat × Nat × Nat × Nat × Nat × Nat × Nat × Nat × Nat × Nat × Nat => match u with | (q83, q84, z87, z88, q89, z92, z93, z94, q95, z98, z99, z100, q101, z104, z105, z106, q107, z110, z111, z112, z113, z114, z115, q116, z119, q120, z123, q124) => [(h0, .inr (0, [.ref q83, .ref q84, .ref q89, .ref q95, .ref q101, .ref q107, .ref q116, .ref q120, .ref q124])), (q83, .inl (cI, 4096, .inl (fun _ => 0))), (q84, .inr (1, [.ref z87])), (z87, .inl (cI, 245, .inl z88)), (q89, .inr (2, [.int 1, .int 1, .ref z92, .ref z93, .ref z94, .ref q84, .ref z87])), (z92, .inl (cI, 1, .inl (fun _ => 0))), (z93, .inl (cI, 1, .inl (fun _ => 0))), (z94, .inl (cI, 1, .inl (fun _ => 0))), (q95, .inr (3, [.ref z98, .int 0, .int 0, .int 0, .int 0, .int 0, .int (-1), .int (-1), .int 0, .long 0, .ref q83, .ref z99, .ref z100, .int 0, .int 0])), (z98, .inl (cI, 8, .inl (fun _ => 0))), (z100, .inl (cI, 64, .inl (fun _ => 0))), (q101, .inr (4, [.int 0, .int (-1), .ref z104, .ref z105, .ref z106, .int 0, .long 0])), (q107, .inr (5, [.ref z110, .ref z111, .int (-1), .ref z87, .ref q89, .ref z112, .ref z113, .ref z114, .ref z115])), (z110, .inl (cI, 9, .inl (fun _ => 0))), (z111, .inl (cI, 8, .inl (fun _ => 0))), (q116, .inr (11, [.ref z119, .int 0, .int 0, .int 0])), (q120, .inr (11, [.ref z123, .int 0, .int 0, .int 0]))]) u)) (va_A [(h0, .inr (0, [.null, .null, .null, .null, .null, .null, .null, .null, .null]))] sz)) 69 7978 (va_A [(h0, .inr (0, [.null, .null, .null, .null, .null, .null, .null, .null, .null]))] sz) := by
  refine Met.ofW (cc := prog_1_method_1_code) (maxL := 1) (ret := none) (by decide) rfl ?_
  intro p e s m args below meth c s₁ B0 hml hv
  obtain ⟨rfl, hv⟩ := hv
  have hx := B0.exec
  have hb := B0.bytes
  have hr := B0.returns
  have hts := atoms_spec (ws := (Cond.code y_DM_init prog_1_method_1_code 1 none) :: tw) B0.pre
  have htw : ∀ w ∈ tw, w.before _ s = true := fun w hw => hts w (List.mem_cons_of_mem _ hw)
  have hown : s.vm.findClass "DrawingMachine" = some m.cls := findClass_of_methodNamed B0.named
  have hlocks := B0.notSynchronized
  have hin : meth.name = "<init>" := (name_of_methodNamed B0.named B0.method).1
  obtain ⟨hC, hP, hD, hsz⟩ := wC_init hv
  subst hsz
  generalize hAe : va_A [(h0, .inr (0, [.null, .null, .null, .null, .null, .null, .null, .null, .null]))] s.heap.size = A at hC hD ⊢
  have hS : va_S A s.heap s.heap [] := va_S.rf
  have hl := lv_entry ([.ref h0]) (n := 1) (Nat.le_of_ble_eq_true rfl)
  rw [lg_entry_eq]
  generalize (lg_sl ([.ref h0]) ++ List.replicate (1 - (lg_sl ([.ref h0])).length) Slot.unset).toArray = ls at hl ⊢
  have hl : lv_has ls 1 [(0, .ref h0)] := hl
  refine lv_aload_n hx hb d_DM_init_0 rfl (lv_at hl 0 rfl) ?_
  refine W.objInit hx hb hown (htw _ k241) (htw _ k242) (htw _ k243) rfl (by rw [hml]; exact hl.1) rfl d_DM_init_1 (Nat.le_of_ble_eq_true rfl) (Nat.le_of_ble_eq_true rfl) ?_
  refine W.eq (g2 := F0 m 4 ls []) rfl ?_
  refine lv_aload_n hx hb d_DM_init_4 rfl (lv_at hl 0 rfl) ?_
  refine lv_sipush (v := 4096) hx hb d_DM_init_5 (by decide) ?_
  refine wna_i hx hb (htw _ k238) hC hP hD hS (N := 4096) (by decide) (by omega) (Nat.le_of_ble_eq_true rfl) (Nat.le_of_ble_eq_true rfl) d_DM_init_8 (fun q83 H hP hD hS => ?_)
  have hP : va_P D classes [(h0, .inr (0, [.null, .null, .null, .null, .null, .null, .null, .null, .null])), (q83, .inl (cI, 4096, .inl (fun _ => 0)))] H := hP
  have hD : va_D A [(h0, .inr (0, [.null, .null, .null, .null, .null, .null, .null, .null, .null])), (q83, .inl (cI, 4096, .inl (fun _ => 0)))] := hD
  refine W.widen (k := 1) (n := 4096) (by omega) (by omega) ?_
  refine va_putF (D := D) (ci := 0) (v := .ref q83) (ty := .array .int) (C := R_DM) (T := F_DM) (N := 9) hx hb htw i_DM t_DM t_DM_ok n_DM hown hC.1 hP hD hS 0 rfl rfl 0 (by decide) (htw _ k244) (fun _ h9 => h9) rfl hin rfl (by decide +kernel) rfl rfl (Nat.le_of_ble_eq_true rfl) d_DM_init_10 (fun H locs hP hD hS => ?_)
  have hP : va_P D classes [(h0, .inr (0, [.ref q83, .null, .null, .null, .null, .null, .null, .null, .null])), (q83, .inl (cI, 4096, .inl (fun _ => 0)))] H := hP
  have hD : va_D A [(h0, .inr (0, [.ref q83, .null, .null, .null, .null, .null, .null, .null, .null])), (q83, .inl (cI, 4096, .inl (fun _ => 0)))] := hD
  refine lv_aload_n hx hb d_DM_init_13 rfl (lv_at hl 0 rfl) ?_
  refine va_new (ci := 1) (fs := [.null]) (C := R_Told) (T := F_Told) (N := 1) hx hb htw i_Told t_Told t_Told_ok hown (htw _ k245) (htw _ k12) (htw _ k11) hC.1 hP hD hS hC.2.2.2.1 rfl (fun j hj => by rcases (show j = 0 by omega) with rfl <;> rfl) (Nat.le_of_ble_eq_true rfl) (Nat.le_of_ble_eq_true rfl) d_DM_init_14 (fun q84 H hP hD hS => ?_)
  have hP : va_P D classes [(h0, .inr (0, [.ref q83, .null, .null, .null, .null, .null, .null, .null, .null])), (q83, .inl (cI, 4096, .inl (fun _ => 0))), (q84, .inr (1, [.null]))] H := hP
  have hD : va_D A [(h0, .inr (0, [.ref q83, .null, .null, .null, .null, .null, .null, .null, .null])), (q83, .inl (cI, 4096, .inl (fun _ => 0))), (q84, .inr (1, [.null]))] := hD
  refine W.widen (k := 2) (n := 4097) (by omega) (by omega) ?_
  refine lv_dup hx hb d_DM_init_17 rfl ?_
  refine wc_v (wr := [(h0, .inr (0, [.ref q83, .null, .null, .null, .null, .null, .null, .null, .null])), (q83, .inl (cI, 4096, .inl (fun _ => 0)))]) hC hP hD hS [2] [0, 1] rfl rfl (by decide) (by decide) (va_runI (As := []) (rest := [.ref q84, .ref h0]) ⟨hx, hb, hml, hown, htw⟩ (c_Told_init l D cI cL B _ q84) (cwI 0 htw (tw_good (fun _ h => h) k248) rfl rfl rfl (htw _ k11) (htw _ k246) (htw _ k247) rfl (by decide +kernel) ⟨Nat.le_of_ble_eq_true rfl, Nat.le_of_ble_eq_true rfl⟩) (wC_pre hC hP hD hS [2] (by decide) rfl) rfl rfl hl.1 rfl (lv_room (Nat.le_of_ble_eq_true rfl)) d_DM_init_18 ⟨Nat.le_of_ble_eq_true rfl, Nat.le_of_ble_eq_true rfl⟩) (fun u85 H locs hw86 hP hD hS => ?_)
  obtain ⟨z87, z88⟩ := u85
  have hP : va_P D classes [(h0, .inr (0, [.ref q83, .null, .null, .null, .null, .null, .null, .null, .null])), (q83, .inl (cI, 4096, .inl (fun _ => 0))), (q84, .inr (1, [.ref z87])), (z87, .inl (cI, 245, .inl z88))] H := hP
  have hD : va_D A [(h0, .inr (0, [.ref q83, .null, .null, .null, .null, .null, .null, .null, .null])), (q83, .inl (cI, 4096, .inl (fun _ => 0))), (q84, .inr (1, [.ref z87])), (z87, .inl (cI, 245, .inl z88))] := hD
  refine W.widen (k := 3) (n := 4342) (by omega) (by omega) ?_
  refine va_putF (D := D) (ci := 0) (v := .ref q84) (ty := .object "DrawingMachine$Told") (C := R_DM) (T := F_DM) (N := 9) hx hb htw i_DM t_DM t_DM_ok n_DM hown hC.1 hP hD hS 0 rfl rfl 1 (by decide) (htw _ k249) (fun _ h9 => h9) rfl hin rfl (by decide +kernel) rfl rfl (Nat.le_of_ble_eq_true rfl) d_DM_init_21 (fun H locs hP hD hS => ?_)
  have hP : va_P D classes [(h0, .inr (0, [.ref q83, .ref q84, .null, .null, .null, .null, .null, .null, .null])), (q83, .inl (cI, 4096, .inl (fun _ => 0))), (q84, .inr (1, [.ref z87])), (z87, .inl (cI, 245, .inl z88))] H := hP
  have hD : va_D A [(h0, .inr (0, [.ref q83, .ref q84, .null, .null, .null, .null, .null, .null, .null])), (q83, .inl (cI, 4096, .inl (fun _ => 0))), (q84, .inr (1, [.ref z87])), (z87, .inl (cI, 245, .inl z88))] := hD
  refine lv_aload_n hx hb d_DM_init_24 rfl (lv_at hl 0 rfl) ?_
  refine va_new (ci := 2) (fs := [.int 0, .int 0, .null, .null, .null, .null, .null]) (C := R_Pic) (T := F_Pic) (N := 7) hx hb htw i_Pic t_Pic t_Pic_ok hown (htw _ k250) (htw _ k15) (htw _ k14) hC.1 hP hD hS hC.2.2.2.1 rfl (fun j hj => by rcases (show j = 0 ∨ j = 1 ∨ j = 2 ∨ j = 3 ∨ j = 4 ∨ j = 5 ∨ j = 6 by omega) with rfl | rfl | rfl | rfl | rfl | rfl | rfl <;> rfl) (Nat.le_of_ble_eq_true rfl) (Nat.le_of_ble_eq_true rfl) d_DM_init_25 (fun q89 H hP hD hS => ?_)
  have hP : va_P D classes [(h0, .inr (0, [.ref q83, .ref q84, .null, .null, .null, .null, .null, .null, .null])), (q83, .inl (cI, 4096, .inl (fun _ => 0))), (q84, .inr (1, [.ref z87])), (z87, .inl (cI, 245, .inl z88)), (q89, .inr (2, [.int 0, .int 0, .null, .null, .null, .null, .null]))] H := hP
  have hD : va_D A [(h0, .inr (0, [.ref q83, .ref q84, .null, .null, .null, .null, .null, .null, .null])), (q83, .inl (cI, 4096, .inl (fun _ => 0))), (q84, .inr (1, [.ref z87])), (z87, .inl (cI, 245, .inl z88)), (q89, .inr (2, [.int 0, .int 0, .null, .null, .null, .null, .null]))] := hD
  refine W.widen (k := 4) (n := 4349) (by omega) (by omega) ?_
  refine lv_dup hx hb d_DM_init_28 rfl ?_
  refine lv_aload_n hx hb d_DM_init_29 rfl (lv_at hl 0 rfl) ?_
  refine va_get (D := D) (ci := 0) (v := .ref q84) (C := R_DM) (T := F_DM) (N := 9) hx hb htw i_DM hown hC.1 hP 0 rfl rfl 1 (by decide) (htw _ k249) (fun _ h9 => h9) rfl d_DM_init_30 ?_
  refine wc_v (wr := [(h0, .inr (0, [.ref q83, .ref q84, .null, .null, .null, .null, .null, .null, .null])), (q83, .inl (cI, 4096, .inl (fun _ => 0))), (z87, .inl (cI, 245, .inl z88))]) hC hP hD hS [4, 2] [0, 1, 3] rfl rfl (by decide) (by decide) (va_runI (As := [.ref q84]) (rest := [.ref q89, .ref h0]) ⟨hx, hb, hml, hown, htw⟩ (c_Pic_init l D cI cL B _ q89 q84 z87) (cwI 1 htw (tw_good (fun _ h => h) k253) rfl rfl rfl (htw _ k14) (htw _ k251) (htw _ k252) rfl (by decide +kernel) ⟨Nat.le_of_ble_eq_true rfl, Nat.le_of_ble_eq_true rfl⟩) (wC_pre hC hP hD hS [4, 2] (by decide) rfl) rfl rfl hl.1 rfl (lv_room (Nat.le_of_ble_eq_true rfl)) d_DM_init_33 ⟨Nat.le_of_ble_eq_true rfl, Nat.le_of_ble_eq_true rfl⟩) (fun u90 H locs hw91 hP hD hS => ?_)
  obtain ⟨z92, z93, z94⟩ := u90
  have hP : va_P D classes [(h0, .inr (0, [.ref q83, .ref q84, .null, .null, .null, .null, .null, .null, .null])), (q83, .inl (cI, 4096, .inl (fun _ => 0))), (z87, .inl (cI, 245, .inl z88)), (q89, .inr (2, [.int 1, .int 1, .ref z92, .ref z93, .ref z94, .ref q84, .ref z87])), (q84, .inr (1, [.ref z87])), (z92, .inl (cI, 1, .inl (fun _ => 0))), (z93, .inl (cI, 1, .inl (fun _ => 0))), (z94, .inl (cI, 1, .inl (fun _ => 0)))] H := hP
  have hD : va_D A [(h0, .inr (0, [.ref q83, .ref q84, .null, .null, .null, .null, .null, .null, .null])), (q83, .inl (cI, 4096, .inl (fun _ => 0))), (z87, .inl (cI, 245, .inl z88)), (q89, .inr (2, [.int 1, .int 1, .ref z92, .ref z93, .ref z94, .ref q84, .ref z87])), (q84, .inr (1, [.ref z87])), (z92, .inl (cI, 1, .inl (fun _ => 0))), (z93, .inl (cI, 1, .inl (fun _ => 0))), (z94, .inl (cI, 1, .inl (fun _ => 0)))] := hD
  refine W.widen (k := 7) (n := 4352) (by omega) (by omega) ?_
  refine va_putF (D := D) (ci := 0) (v := .ref q89) (ty := .object "DrawingMachine$Picture") (C := R_DM) (T := F_DM) (N := 9) hx hb htw i_DM t_DM t_DM_ok n_DM hown hC.1 hP hD hS 0 rfl rfl 2 (by decide) (htw _ k254) (fun _ h9 => h9) rfl hin rfl (by decide +kernel) rfl rfl (Nat.le_of_ble_eq_true rfl) d_DM_init_36 (fun H locs hP hD hS => ?_)
  have hP : va_P D classes [(h0, .inr (0, [.ref q83, .ref q84, .ref q89, .null, .null, .null, .null, .null, .null])), (q83, .inl (cI, 4096, .inl (fun _ => 0))), (z87, .inl (cI, 245, .inl z88)), (q89, .inr (2, [.int 1, .int 1, .ref z92, .ref z93, .ref z94, .ref q84, .ref z87])), (q84, .inr (1, [.ref z87])), (z92, .inl (cI, 1, .inl (fun _ => 0))), (z93, .inl (cI, 1, .inl (fun _ => 0))), (z94, .inl (cI, 1, .inl (fun _ => 0)))] H := hP
  have hD : va_D A [(h0, .inr (0, [.ref q83, .ref q84, .ref q89, .null, .null, .null, .null, .null, .null])), (q83, .inl (cI, 4096, .inl (fun _ => 0))), (z87, .inl (cI, 245, .inl z88)), (q89, .inr (2, [.int 1, .int 1, .ref z92, .ref z93, .ref z94, .ref q84, .ref z87])), (q84, .inr (1, [.ref z87])), (z92, .inl (cI, 1, .inl (fun _ => 0))), (z93, .inl (cI, 1, .inl (fun _ => 0))), (z94, .inl (cI, 1, .inl (fun _ => 0)))] := hD
  refine lv_aload_n hx hb d_DM_init_39 rfl (lv_at hl 0 rfl) ?_
  refine va_new (ci := 3) (fs := [.null, .int 0, .int 0, .int 0, .int 0, .int 0, .int 0, .int 0, .int 0, .long 0, .null, .null, .null, .int 0, .int 0]) (C := R_Cou) (T := F_Cou) (N := 15) hx hb htw i_Cou t_Cou t_Cou_ok hown (htw _ k255) (htw _ k24) (htw _ k23) hC.1 hP hD hS hC.2.2.2.1 rfl (fun j hj => by rcases (show j = 0 ∨ j = 1 ∨ j = 2 ∨ j = 3 ∨ j = 4 ∨ j = 5 ∨ j = 6 ∨ j = 7 ∨ j = 8 ∨ j = 9 ∨ j = 10 ∨ j = 11 ∨ j = 12 ∨ j = 13 ∨ j = 14 by omega) with rfl | rfl | rfl | rfl | rfl | rfl | rfl | rfl | rfl | rfl | rfl | rfl | rfl | rfl | rfl <;> rfl) (Nat.le_of_ble_eq_true rfl) (Nat.le_of_ble_eq_true rfl) d_DM_init_40 (fun q95 H hP hD hS => ?_)
  have hP : va_P D classes [(h0, .inr (0, [.ref q83, .ref q84, .ref q89, .null, .null, .null, .null, .null, .null])), (q83, .inl (cI, 4096, .inl (fun _ => 0))), (z87, .inl (cI, 245, .inl z88)), (q89, .inr (2, [.int 1, .int 1, .ref z92, .ref z93, .ref z94, .ref q84, .ref z87])), (q84, .inr (1, [.ref z87])), (z92, .inl (cI, 1, .inl (fun _ => 0))), (z93, .inl (cI, 1, .inl (fun _ => 0))), (z94, .inl (cI, 1, .inl (fun _ => 0))), (q95, .inr (3, [.null, .int 0, .int 0, .int 0, .int 0, .int 0, .int 0, .int 0, .int 0, .long 0, .null, .null, .null, .int 0, .int 0]))] H := hP
  have hD : va_D A [(h0, .inr (0, [.ref q83, .ref q84, .ref q89, .null, .null, .null, .null, .null, .null])), (q83, .inl (cI, 4096, .inl (fun _ => 0))), (z87, .inl (cI, 245, .inl z88)), (q89, .inr (2, [.int 1, .int 1, .ref z92, .ref z93, .ref z94, .ref q84, .ref z87])), (q84, .inr (1, [.ref z87])), (z92, .inl (cI, 1, .inl (fun _ => 0))), (z93, .inl (cI, 1, .inl (fun _ => 0))), (z94, .inl (cI, 1, .inl (fun _ => 0))), (q95, .inr (3, [.null, .int 0, .int 0, .int 0, .int 0, .int 0, .int 0, .int 0, .int 0, .long 0, .null, .null, .null, .int 0, .int 0]))] := hD
  refine W.widen (k := 8) (n := 4367) (by omega) (by omega) ?_
  refine lv_dup hx hb d_DM_init_43 rfl ?_
  refine lv_aload_n hx hb d_DM_init_44 rfl (lv_at hl 0 rfl) ?_
  refine va_get (D := D) (ci := 0) (v := .ref q83) (C := R_DM) (T := F_DM) (N := 9) hx hb htw i_DM hown hC.1 hP 0 rfl rfl 0 (by decide) (htw _ k244) (fun _ h9 => h9) rfl d_DM_init_45 ?_
  refine wc_v (wr := [(h0, .inr (0, [.ref q83, .ref q84, .ref q89, .null, .null, .null, .null, .null, .null])), (q83, .inl (cI, 4096, .inl (fun _ => 0))), (z87, .inl (cI, 245, .inl z88)), (q89, .inr (2, [.int 1, .int 1, .ref z92, .ref z93, .ref z94, .ref q84, .ref z87])), (q84, .inr (1, [.ref z87])), (z92, .inl (cI, 1, .inl (fun _ => 0))), (z93, .inl (cI, 1, .inl (fun _ => 0))), (z94, .inl (cI, 1, .inl (fun _ => 0)))]) hC hP hD hS [8] [0, 1, 2, 3, 4, 5, 6, 7] rfl rfl (by decide) (by decide) (va_runI (As := [.ref q83]) (rest := [.ref q95, .ref h0]) ⟨hx, hb, hml, hown, htw⟩ (c_Cou_init l D cI cL B _ q95 q83) (cwI 1 htw (tw_good (fun _ h => h) k258) rfl rfl rfl (htw _ k23) (htw _ k256) (htw _ k257) rfl (by decide +kernel) ⟨Nat.le_of_ble_eq_true rfl, Nat.le_of_ble_eq_true rfl⟩) (wC_pre hC hP hD hS [8] (by decide) rfl) rfl rfl hl.1 rfl (lv_room (Nat.le_of_ble_eq_true rfl)) d_DM_init_48 ⟨Nat.le_of_ble_eq_true rfl, Nat.le_of_ble_eq_true rfl⟩) (fun u96 H locs hw97 hP hD hS => ?_)
  obtain ⟨z98, z99, z100⟩ := u96
  have hP : va_P D classes [(h0, .inr (0, [.ref q83, .ref q84, .ref q89, .null, .null, .null, .null, .null, .null])), (q83, .inl (cI, 4096, .inl (fun _ => 0))), (z87, .inl (cI, 245, .inl z88)), (q89, .inr (2, [.int 1, .int 1, .ref z92, .ref z93, .ref z94, .ref q84, .ref z87])), (q84, .inr (1, [.ref z87])), (z92, .inl (cI, 1, .inl (fun _ => 0))), (z93, .inl (cI, 1, .inl (fun _ => 0))), (z94, .inl (cI, 1, .inl (fun _ => 0))), (q95, .inr (3, [.ref z98, .int 0, .int 0, .int 0, .int 0, .int 0, .int (-1), .int (-1), .int 0, .long 0, .ref q83, .ref z99, .ref z100, .int 0, .int 0])), (z98, .inl (cI, 8, .inl (fun _ => 0))), (z100, .inl (cI, 64, .inl (fun _ => 0)))] H := hP
  have hD : va_D A [(h0, .inr (0, [.ref q83, .ref q84, .ref q89, .null, .null, .null, .null, .null, .null])), (q83, .inl (cI, 4096, .inl (fun _ => 0))), (z87, .inl (cI, 245, .inl z88)), (q89, .inr (2, [.int 1, .int 1, .ref z92, .ref z93, .ref z94, .ref q84, .ref z87])), (q84, .inr (1, [.ref z87])), (z92, .inl (cI, 1, .inl (fun _ => 0))), (z93, .inl (cI, 1, .inl (fun _ => 0))), (z94, .inl (cI, 1, .inl (fun _ => 0))), (q95, .inr (3, [.ref z98, .int 0, .int 0, .int 0, .int 0, .int 0, .int (-1), .int (-1), .int 0, .long 0, .ref q83, .ref z99, .ref z100, .int 0, .int 0])), (z98, .inl (cI, 8, .inl (fun _ => 0))), (z100, .inl (cI, 64, .inl (fun _ => 0)))] := hD
  refine W.widen (k := 11) (n := 4443) (by omega) (by omega) ?_
  refine va_putF (D := D) (ci := 0) (v := .ref q95) (ty := .object "DrawingMachine$Course") (C := R_DM) (T := F_DM) (N := 9) hx hb htw i_DM t_DM t_DM_ok n_DM hown hC.1 hP hD hS 0 rfl rfl 3 (by decide) (htw _ k259) (fun _ h9 => h9) rfl hin rfl (by decide +kernel) rfl rfl (Nat.le_of_ble_eq_true rfl) d_DM_init_51 (fun H locs hP hD hS => ?_)
  have hP : va_P D classes [(h0, .inr (0, [.ref q83, .ref q84, .ref q89, .ref q95, .null, .null, .null, .null, .null])), (q83, .inl (cI, 4096, .inl (fun _ => 0))), (z87, .inl (cI, 245, .inl z88)), (q89, .inr (2, [.int 1, .int 1, .ref z92, .ref z93, .ref z94, .ref q84, .ref z87])), (q84, .inr (1, [.ref z87])), (z92, .inl (cI, 1, .inl (fun _ => 0))), (z93, .inl (cI, 1, .inl (fun _ => 0))), (z94, .inl (cI, 1, .inl (fun _ => 0))), (q95, .inr (3, [.ref z98, .int 0, .int 0, .int 0, .int 0, .int 0, .int (-1), .int (-1), .int 0, .long 0, .ref q83, .ref z99, .ref z100, .int 0, .int 0])), (z98, .inl (cI, 8, .inl (fun _ => 0))), (z100, .inl (cI, 64, .inl (fun _ => 0)))] H := hP
  have hD : va_D A [(h0, .inr (0, [.ref q83, .ref q84, .ref q89, .ref q95, .null, .null, .null, .null, .null])), (q83, .inl (cI, 4096, .inl (fun _ => 0))), (z87, .inl (cI, 245, .inl z88)), (q89, .inr (2, [.int 1, .int 1, .ref z92, .ref z93, .ref z94, .ref q84, .ref z87])), (q84, .inr (1, [.ref z87])), (z92, .inl (cI, 1, .inl (fun _ => 0))), (z93, .inl (cI, 1, .inl (fun _ => 0))), (z94, .inl (cI, 1, .inl (fun _ => 0))), (q95, .inr (3, [.ref z98, .int 0, .int 0, .int 0, .int 0, .int 0, .int (-1), .int (-1), .int 0, .long 0, .ref q83, .ref z99, .ref z100, .int 0, .int 0])), (z98, .inl (cI, 8, .inl (fun _ => 0))), (z100, .inl (cI, 64, .inl (fun _ => 0)))] := hD
  refine lv_aload_n hx hb d_DM_init_54 rfl (lv_at hl 0 rfl) ?_
  refine va_new (ci := 4) (fs := [.int 0, .int 0, .null, .null, .null, .int 0, .long 0]) (C := R_Chk) (T := F_Chk) (N := 7) hx hb htw i_Chk t_Chk t_Chk_ok hown (htw _ k260) (htw _ k41) (htw _ k40) hC.1 hP hD hS hC.2.2.2.1 rfl (fun j hj => by rcases (show j = 0 ∨ j = 1 ∨ j = 2 ∨ j = 3 ∨ j = 4 ∨ j = 5 ∨ j = 6 by omega) with rfl | rfl | rfl | rfl | rfl | rfl | rfl <;> rfl) (Nat.le_of_ble_eq_true rfl) (Nat.le_of_ble_eq_true rfl) d_DM_init_55 (fun q101 H hP hD hS => ?_)
  have hP : va_P D classes [(h0, .inr (0, [.ref q83, .ref q84, .ref q89, .ref q95, .null, .null, .null, .null, .null])), (q83, .inl (cI, 4096, .inl (fun _ => 0))), (z87, .inl (cI, 245, .inl z88)), (q89, .inr (2, [.int 1, .int 1, .ref z92, .ref z93, .ref z94, .ref q84, .ref z87])), (q84, .inr (1, [.ref z87])), (z92, .inl (cI, 1, .inl (fun _ => 0))), (z93, .inl (cI, 1, .inl (fun _ => 0))), (z94, .inl (cI, 1, .inl (fun _ => 0))), (q95, .inr (3, [.ref z98, .int 0, .int 0, .int 0, .int 0, .int 0, .int (-1), .int (-1), .int 0, .long 0, .ref q83, .ref z99, .ref z100, .int 0, .int 0])), (z98, .inl (cI, 8, .inl (fun _ => 0))), (z100, .inl (cI, 64, .inl (fun _ => 0))), (q101, .inr (4, [.int 0, .int 0, .null, .null, .null, .int 0, .long 0]))] H := hP
  have hD : va_D A [(h0, .inr (0, [.ref q83, .ref q84, .ref q89, .ref q95, .null, .null, .null, .null, .null])), (q83, .inl (cI, 4096, .inl (fun _ => 0))), (z87, .inl (cI, 245, .inl z88)), (q89, .inr (2, [.int 1, .int 1, .ref z92, .ref z93, .ref z94, .ref q84, .ref z87])), (q84, .inr (1, [.ref z87])), (z92, .inl (cI, 1, .inl (fun _ => 0))), (z93, .inl (cI, 1, .inl (fun _ => 0))), (z94, .inl (cI, 1, .inl (fun _ => 0))), (q95, .inr (3, [.ref z98, .int 0, .int 0, .int 0, .int 0, .int 0, .int (-1), .int (-1), .int 0, .long 0, .ref q83, .ref z99, .ref z100, .int 0, .int 0])), (z98, .inl (cI, 8, .inl (fun _ => 0))), (z100, .inl (cI, 64, .inl (fun _ => 0))), (q101, .inr (4, [.int 0, .int 0, .null, .null, .null, .int 0, .long 0]))] := hD
  refine W.widen (k := 12) (n := 4450) (by omega) (by omega) ?_
  refine lv_dup hx hb d_DM_init_58 rfl ?_
  refine wc_v (wr := [(h0, .inr (0, [.ref q83, .ref q84, .ref q89, .ref q95, .null, .null, .null, .null, .null])), (q83, .inl (cI, 4096, .inl (fun _ => 0))), (z87, .inl (cI, 245, .inl z88)), (q89, .inr (2, [.int 1, .int 1, .ref z92, .ref z93, .ref z94, .ref q84, .ref z87])), (q84, .inr (1, [.ref z87])), (z92, .inl (cI, 1, .inl (fun _ => 0))), (z93, .inl (cI, 1, .inl (fun _ => 0))), (z94, .inl (cI, 1, .inl (fun _ => 0))), (q95, .inr (3, [.ref z98, .int 0, .int 0, .int 0, .int 0, .int 0, .int (-1), .int (-1), .int 0, .long 0, .ref q83, .ref z99, .ref z100, .int 0, .int 0])), (z98, .inl (cI, 8, .inl (fun _ => 0))), (z100, .inl (cI, 64, .inl (fun _ => 0)))]) hC hP hD hS [11] [0, 1, 2, 3, 4, 5, 6, 7, 8, 9, 10] rfl rfl (by decide) (by decide) (va_runIN (As := []) (rest := [.ref q101, .ref h0]) ⟨hx, hb, hml, hown, htw⟩ (c_Chk_init l D cI cL B _ q101) ⟨va_cnB 0 htw (tw_good (fun _ h => h) k262) rfl rfl rfl (hC.2.1.1 _ kn0) (htw _ k40) (by decide +kernel) ⟨Nat.le_of_ble_eq_true rfl, Nat.le_of_ble_eq_true rfl⟩, rfl, htw _ k261⟩ (wC_pre hC hP hD hS [11] (by decide) rfl) rfl rfl hl.1 rfl (lv_room (Nat.le_of_ble_eq_true rfl)) d_DM_init_59 ⟨Nat.le_of_ble_eq_true rfl, Nat.le_of_ble_eq_true rfl⟩) (fun u102 H locs hw103 hP hD hS => ?_)
  obtain ⟨z104, z105, z106⟩ := u102
  have hP : va_P D classes [(h0, .inr (0, [.ref q83, .ref q84, .ref q89, .ref q95, .null, .null, .null, .null, .null])), (q83, .inl (cI, 4096, .inl (fun _ => 0))), (z87, .inl (cI, 245, .inl z88)), (q89, .inr (2, [.int 1, .int 1, .ref z92, .ref z93, .ref z94, .ref q84, .ref z87])), (q84, .inr (1, [.ref z87])), (z92, .inl (cI, 1, .inl (fun _ => 0))), (z93, .inl (cI, 1, .inl (fun _ => 0))), (z94, .inl (cI, 1, .inl (fun _ => 0))), (q95, .inr (3, [.ref z98, .int 0, .int 0, .int 0, .int 0, .int 0, .int (-1), .int (-1), .int 0, .long 0, .ref q83, .ref z99, .ref z100, .int 0, .int 0])), (z98, .inl (cI, 8, .inl (fun _ => 0))), (z100, .inl (cI, 64, .inl (fun _ => 0))), (q101, .inr (4, [.int 0, .int (-1), .ref z104, .ref z105, .ref z106, .int 0, .long 0]))] H := hP
  have hD : va_D A [(h0, .inr (0, [.ref q83, .ref q84, .ref q89, .ref q95, .null, .null, .null, .null, .null])), (q83, .inl (cI, 4096, .inl (fun _ => 0))), (z87, .inl (cI, 245, .inl z88)), (q89, .inr (2, [.int 1, .int 1, .ref z92, .ref z93, .ref z94, .ref q84, .ref z87])), (q84, .inr (1, [.ref z87])), (z92, .inl (cI, 1, .inl (fun _ => 0))), (z93, .inl (cI, 1, .inl (fun _ => 0))), (z94, .inl (cI, 1, .inl (fun _ => 0))), (q95, .inr (3, [.ref z98, .int 0, .int 0, .int 0, .int 0, .int 0, .int (-1), .int (-1), .int 0, .long 0, .ref q83, .ref z99, .ref z100, .int 0, .int 0])), (z98, .inl (cI, 8, .inl (fun _ => 0))), (z100, .inl (cI, 64, .inl (fun _ => 0))), (q101, .inr (4, [.int 0, .int (-1), .ref z104, .ref z105, .ref z106, .int 0, .long 0]))] := hD
  refine W.widen (k := 15) (n := 4715) (by omega) (by omega) ?_
  refine va_putF (D := D) (ci := 0) (v := .ref q101) (ty := .object "DrawingMachine$Checker") (C := R_DM) (T := F_DM) (N := 9) hx hb htw i_DM t_DM t_DM_ok n_DM hown hC.1 hP hD hS 0 rfl rfl 4 (by decide) (htw _ k263) (fun _ h9 => h9) rfl hin rfl (by decide +kernel) rfl rfl (Nat.le_of_ble_eq_true rfl) d_DM_init_62 (fun H locs hP hD hS => ?_)
  have hP : va_P D classes [(h0, .inr (0, [.ref q83, .ref q84, .ref q89, .ref q95, .ref q101, .null, .null, .null, .null])), (q83, .inl (cI, 4096, .inl (fun _ => 0))), (z87, .inl (cI, 245, .inl z88)), (q89, .inr (2, [.int 1, .int 1, .ref z92, .ref z93, .ref z94, .ref q84, .ref z87])), (q84, .inr (1, [.ref z87])), (z92, .inl (cI, 1, .inl (fun _ => 0))), (z93, .inl (cI, 1, .inl (fun _ => 0))), (z94, .inl (cI, 1, .inl (fun _ => 0))), (q95, .inr (3, [.ref z98, .int 0, .int 0, .int 0, .int 0, .int 0, .int (-1), .int (-1), .int 0, .long 0, .ref q83, .ref z99, .ref z100, .int 0, .int 0])), (z98, .inl (cI, 8, .inl (fun _ => 0))), (z100, .inl (cI, 64, .inl (fun _ => 0))), (q101, .inr (4, [.int 0, .int (-1), .ref z104, .ref z105, .ref z106, .int 0, .long 0]))] H := hP
  have hD : va_D A [(h0, .inr (0, [.ref q83, .ref q84, .ref q89, .ref q95, .ref q101, .null, .null, .null, .null])), (q83, .inl (cI, 4096, .inl (fun _ => 0))), (z87, .inl (cI, 245, .inl z88)), (q89, .inr (2, [.int 1, .int 1, .ref z92, .ref z93, .ref z94, .ref q84, .ref z87])), (q84, .inr (1, [.ref z87])), (z92, .inl (cI, 1, .inl (fun _ => 0))), (z93, .inl (cI, 1, .inl (fun _ => 0))), (z94, .inl (cI, 1, .inl (fun _ => 0))), (q95, .inr (3, [.ref z98, .int 0, .int 0, .int 0, .int 0, .int 0, .int (-1), .int (-1), .int 0, .long 0, .ref q83, .ref z99, .ref z100, .int 0, .int 0])), (z98, .inl (cI, 8, .inl (fun _ => 0))), (z100, .inl (cI, 64, .inl (fun _ => 0))), (q101, .inr (4, [.int 0, .int (-1), .ref z104, .ref z105, .ref z106, .int 0, .long 0]))] := hD
  refine lv_aload_n hx hb d_DM_init_65 rfl (lv_at hl 0 rfl) ?_
  refine va_new (ci := 5) (fs := [.null, .null, .int 0, .null, .null, .null, .null, .null, .null]) (C := R_Drw) (T := F_Drw) (N := 9) hx hb htw i_Drw t_Drw t_Drw_ok hown (htw _ k264) (htw _ k50) (htw _ k49) hC.1 hP hD hS hC.2.2.2.1 rfl (fun j hj => by rcases (show j = 0 ∨ j = 1 ∨ j = 2 ∨ j = 3 ∨ j = 4 ∨ j = 5 ∨ j = 6 ∨ j = 7 ∨ j = 8 by omega) with rfl | rfl | rfl | rfl | rfl | rfl | rfl | rfl | rfl <;> rfl) (Nat.le_of_ble_eq_true rfl) (Nat.le_of_ble_eq_true rfl) d_DM_init_66 (fun q107 H hP hD hS => ?_)
  have hP : va_P D classes [(h0, .inr (0, [.ref q83, .ref q84, .ref q89, .ref q95, .ref q101, .null, .null, .null, .null])), (q83, .inl (cI, 4096, .inl (fun _ => 0))), (z87, .inl (cI, 245, .inl z88)), (q89, .inr (2, [.int 1, .int 1, .ref z92, .ref z93, .ref z94, .ref q84, .ref z87])), (q84, .inr (1, [.ref z87])), (z92, .inl (cI, 1, .inl (fun _ => 0))), (z93, .inl (cI, 1, .inl (fun _ => 0))), (z94, .inl (cI, 1, .inl (fun _ => 0))), (q95, .inr (3, [.ref z98, .int 0, .int 0, .int 0, .int 0, .int 0, .int (-1), .int (-1), .int 0, .long 0, .ref q83, .ref z99, .ref z100, .int 0, .int 0])), (z98, .inl (cI, 8, .inl (fun _ => 0))), (z100, .inl (cI, 64, .inl (fun _ => 0))), (q101, .inr (4, [.int 0, .int (-1), .ref z104, .ref z105, .ref z106, .int 0, .long 0])), (q107, .inr (5, [.null, .null, .int 0, .null, .null, .null, .null, .null, .null]))] H := hP
  have hD : va_D A [(h0, .inr (0, [.ref q83, .ref q84, .ref q89, .ref q95, .ref q101, .null, .null, .null, .null])), (q83, .inl (cI, 4096, .inl (fun _ => 0))), (z87, .inl (cI, 245, .inl z88)), (q89, .inr (2, [.int 1, .int 1, .ref z92, .ref z93, .ref z94, .ref q84, .ref z87])), (q84, .inr (1, [.ref z87])), (z92, .inl (cI, 1, .inl (fun _ => 0))), (z93, .inl (cI, 1, .inl (fun _ => 0))), (z94, .inl (cI, 1, .inl (fun _ => 0))), (q95, .inr (3, [.ref z98, .int 0, .int 0, .int 0, .int 0, .int 0, .int (-1), .int (-1), .int 0, .long 0, .ref q83, .ref z99, .ref z100, .int 0, .int 0])), (z98, .inl (cI, 8, .inl (fun _ => 0))), (z100, .inl (cI, 64, .inl (fun _ => 0))), (q101, .inr (4, [.int 0, .int (-1), .ref z104, .ref z105, .ref z106, .int 0, .long 0])), (q107, .inr (5, [.null, .null, .int 0, .null, .null, .null, .null, .null, .null]))] := hD
  refine W.widen (k := 16) (n := 4724) (by omega) (by omega) ?_
  refine lv_dup hx hb d_DM_init_69 rfl ?_
  refine lv_aload_n hx hb d_DM_init_70 rfl (lv_at hl 0 rfl) ?_
  refine va_get (D := D) (ci := 0) (v := .ref q83) (C := R_DM) (T := F_DM) (N := 9) hx hb htw i_DM hown hC.1 hP 0 rfl rfl 0 (by decide) (htw _ k244) (fun _ h9 => h9) rfl d_DM_init_71 ?_
  refine lv_aload_n hx hb d_DM_init_74 rfl (lv_at hl 0 rfl) ?_
  refine va_get (D := D) (ci := 0) (v := .ref q84) (C := R_DM) (T := F_DM) (N := 9) hx hb htw i_DM hown hC.1 hP 0 rfl rfl 1 (by decide) (htw _ k249) (fun _ h9 => h9) rfl d_DM_init_75 ?_
  refine lv_aload_n hx hb d_DM_init_78 rfl (lv_at hl 0 rfl) ?_
  refine va_get (D := D) (ci := 0) (v := .ref q89) (C := R_DM) (T := F_DM) (N := 9) hx hb htw i_DM hown hC.1 hP 0 rfl rfl 2 (by decide) (htw _ k254) (fun _ h9 => h9) rfl d_DM_init_79 ?_
  refine wc_v (wr := [(h0, .inr (0, [.ref q83, .ref q84, .ref q89, .ref q95, .ref q101, .null, .null, .null, .null])), (q83, .inl (cI, 4096, .inl (fun _ => 0))), (z87, .inl (cI, 245, .inl z88)), (q89, .inr (2, [.int 1, .int 1, .ref z92, .ref z93, .ref z94, .ref q84, .ref z87])), (z92, .inl (cI, 1, .inl (fun _ => 0))), (z93, .inl (cI, 1, .inl (fun _ => 0))), (z94, .inl (cI, 1, .inl (fun _ => 0))), (q95, .inr (3, [.ref z98, .int 0, .int 0, .int 0, .int 0, .int 0, .int (-1), .int (-1), .int 0, .long 0, .ref q83, .ref z99, .ref z100, .int 0, .int 0])), (z98, .inl (cI, 8, .inl (fun _ => 0))), (z100, .inl (cI, 64, .inl (fun _ => 0))), (q101, .inr (4, [.int 0, .int (-1), .ref z104, .ref z105, .ref z106, .int 0, .long 0]))]) hC hP hD hS [12, 4] [0, 1, 2, 3, 5, 6, 7, 8, 9, 10, 11] rfl rfl (by decide) (by decide) (va_runI (As := [.ref q83, .ref q84, .ref q89]) (rest := [.ref q107, .ref h0]) ⟨hx, hb, hml, hown, htw⟩ (c_Drw_init l D cI cL B _ q107 q83 q84 q89 z87) (cwI 3 htw (tw_good (fun _ h => h) k267) rfl rfl rfl (htw _ k49) (htw _ k265) (htw _ k266) rfl (by decide +kernel) ⟨Nat.le_of_ble_eq_true rfl, Nat.le_of_ble_eq_true rfl⟩) (wC_pre hC hP hD hS [12, 4] (by decide) rfl) rfl rfl hl.1 rfl (lv_room (Nat.le_of_ble_eq_true rfl)) d_DM_init_82 ⟨Nat.le_of_ble_eq_true rfl, Nat.le_of_ble_eq_true rfl⟩) (fun u108 H locs hw109 hP hD hS => ?_)
  obtain ⟨z110, z111, z112, z113, z114, z115⟩ := u108
  have hP : va_P D classes [(h0, .inr (0, [.ref q83, .ref q84, .ref q89, .ref q95, .ref q101, .null, .null, .null, .null])), (q83, .inl (cI, 4096, .inl (fun _ => 0))), (z87, .inl (cI, 245, .inl z88)), (q89, .inr (2, [.int 1, .int 1, .ref z92, .ref z93, .ref z94, .ref q84, .ref z87])), (z92, .inl (cI, 1, .inl (fun _ => 0))), (z93, .inl (cI, 1, .inl (fun _ => 0))), (z94, .inl (cI, 1, .inl (fun _ => 0))), (q95, .inr (3, [.ref z98, .int 0, .int 0, .int 0, .int 0, .int 0, .int (-1), .int (-1), .int 0, .long 0, .ref q83, .ref z99, .ref z100, .int 0, .int 0])), (z98, .inl (cI, 8, .inl (fun _ => 0))), (z100, .inl (cI, 64, .inl (fun _ => 0))), (q101, .inr (4, [.int 0, .int (-1), .ref z104, .ref z105, .ref z106, .int 0, .long 0])), (q107, .inr (5, [.ref z110, .ref z111, .int (-1), .ref z87, .ref q89, .ref z112, .ref z113, .ref z114, .ref z115])), (q84, .inr (1, [.ref z87])), (z110, .inl (cI, 9, .inl (fun _ => 0))), (z111, .inl (cI, 8, .inl (fun _ => 0)))] H := hP
  have hD : va_D A [(h0, .inr (0, [.ref q83, .ref q84, .ref q89, .ref q95, .ref q101, .null, .null, .null, .null])), (q83, .inl (cI, 4096, .inl (fun _ => 0))), (z87, .inl (cI, 245, .inl z88)), (q89, .inr (2, [.int 1, .int 1, .ref z92, .ref z93, .ref z94, .ref q84, .ref z87])), (z92, .inl (cI, 1, .inl (fun _ => 0))), (z93, .inl (cI, 1, .inl (fun _ => 0))), (z94, .inl (cI, 1, .inl (fun _ => 0))), (q95, .inr (3, [.ref z98, .int 0, .int 0, .int 0, .int 0, .int 0, .int (-1), .int (-1), .int 0, .long 0, .ref q83, .ref z99, .ref z100, .int 0, .int 0])), (z98, .inl (cI, 8, .inl (fun _ => 0))), (z100, .inl (cI, 64, .inl (fun _ => 0))), (q101, .inr (4, [.int 0, .int (-1), .ref z104, .ref z105, .ref z106, .int 0, .long 0])), (q107, .inr (5, [.ref z110, .ref z111, .int (-1), .ref z87, .ref q89, .ref z112, .ref z113, .ref z114, .ref z115])), (q84, .inr (1, [.ref z87])), (z110, .inl (cI, 9, .inl (fun _ => 0))), (z111, .inl (cI, 8, .inl (fun _ => 0)))] := hD
  refine W.widen (k := 63) (n := 5662) (by omega) (by omega) ?_
  refine va_putF (D := D) (ci := 0) (v := .ref q107) (ty := .object "DrawingMachine$Drawing") (C := R_DM) (T := F_DM) (N := 9) hx hb htw i_DM t_DM t_DM_ok n_DM hown hC.1 hP hD hS 0 rfl rfl 5 (by decide) (htw _ k268) (fun _ h9 => h9) rfl hin rfl (by decide +kernel) rfl rfl (Nat.le_of_ble_eq_true rfl) d_DM_init_85 (fun H locs hP hD hS => ?_)
  have hP : va_P D classes [(h0, .inr (0, [.ref q83, .ref q84, .ref q89, .ref q95, .ref q101, .ref q107, .null, .null, .null])), (q83, .inl (cI, 4096, .inl (fun _ => 0))), (z87, .inl (cI, 245, .inl z88)), (q89, .inr (2, [.int 1, .int 1, .ref z92, .ref z93, .ref z94, .ref q84, .ref z87])), (z92, .inl (cI, 1, .inl (fun _ => 0))), (z93, .inl (cI, 1, .inl (fun _ => 0))), (z94, .inl (cI, 1, .inl (fun _ => 0))), (q95, .inr (3, [.ref z98, .int 0, .int 0, .int 0, .int 0, .int 0, .int (-1), .int (-1), .int 0, .long 0, .ref q83, .ref z99, .ref z100, .int 0, .int 0])), (z98, .inl (cI, 8, .inl (fun _ => 0))), (z100, .inl (cI, 64, .inl (fun _ => 0))), (q101, .inr (4, [.int 0, .int (-1), .ref z104, .ref z105, .ref z106, .int 0, .long 0])), (q107, .inr (5, [.ref z110, .ref z111, .int (-1), .ref z87, .ref q89, .ref z112, .ref z113, .ref z114, .ref z115])), (q84, .inr (1, [.ref z87])), (z110, .inl (cI, 9, .inl (fun _ => 0))), (z111, .inl (cI, 8, .inl (fun _ => 0)))] H := hP
  have hD : va_D A [(h0, .inr (0, [.ref q83, .ref q84, .ref q89, .ref q95, .ref q101, .ref q107, .null, .null, .null])), (q83, .inl (cI, 4096, .inl (fun _ => 0))), (z87, .inl (cI, 245, .inl z88)), (q89, .inr (2, [.int 1, .int 1, .ref z92, .ref z93, .ref z94, .ref q84, .ref z87])), (z92, .inl (cI, 1, .inl (fun _ => 0))), (z93, .inl (cI, 1, .inl (fun _ => 0))), (z94, .inl (cI, 1, .inl (fun _ => 0))), (q95, .inr (3, [.ref z98, .int 0, .int 0, .int 0, .int 0, .int 0, .int (-1), .int (-1), .int 0, .long 0, .ref q83, .ref z99, .ref z100, .int 0, .int 0])), (z98, .inl (cI, 8, .inl (fun _ => 0))), (z100, .inl (cI, 64, .inl (fun _ => 0))), (q101, .inr (4, [.int 0, .int (-1), .ref z104, .ref z105, .ref z106, .int 0, .long 0])), (q107, .inr (5, [.ref z110, .ref z111, .int (-1), .ref z87, .ref q89, .ref z112, .ref z113, .ref z114, .ref z115])), (q84, .inr (1, [.ref z87])), (z110, .inl (cI, 9, .inl (fun _ => 0))), (z111, .inl (cI, 8, .inl (fun _ => 0)))] := hD
  refine lv_aload_n hx hb d_DM_init_88 rfl (lv_at hl 0 rfl) ?_
  refine va_new (ci := 11) (fs := [.null, .int 0, .int 0, .int 0]) (C := R_Prg) (T := F_Prg) (N := 4) hx hb htw i_Prg t_Prg t_Prg_ok hown (htw _ k269) (htw _ k111) (htw _ k110) hC.1 hP hD hS hC.2.2.2.1 rfl (fun j hj => by rcases (show j = 0 ∨ j = 1 ∨ j = 2 ∨ j = 3 by omega) with rfl | rfl | rfl | rfl <;> rfl) (Nat.le_of_ble_eq_true rfl) (Nat.le_of_ble_eq_true rfl) d_DM_init_89 (fun q116 H hP hD hS => ?_)
  have hP : va_P D classes [(h0, .inr (0, [.ref q83, .ref q84, .ref q89, .ref q95, .ref q101, .ref q107, .null, .null, .null])), (q83, .inl (cI, 4096, .inl (fun _ => 0))), (z87, .inl (cI, 245, .inl z88)), (q89, .inr (2, [.int 1, .int 1, .ref z92, .ref z93, .ref z94, .ref q84, .ref z87])), (z92, .inl (cI, 1, .inl (fun _ => 0))), (z93, .inl (cI, 1, .inl (fun _ => 0))), (z94, .inl (cI, 1, .inl (fun _ => 0))), (q95, .inr (3, [.ref z98, .int 0, .int 0, .int 0, .int 0, .int 0, .int (-1), .int (-1), .int 0, .long 0, .ref q83, .ref z99, .ref z100, .int 0, .int 0])), (z98, .inl (cI, 8, .inl (fun _ => 0))), (z100, .inl (cI, 64, .inl (fun _ => 0))), (q101, .inr (4, [.int 0, .int (-1), .ref z104, .ref z105, .ref z106, .int 0, .long 0])), (q107, .inr (5, [.ref z110, .ref z111, .int (-1), .ref z87, .ref q89, .ref z112, .ref z113, .ref z114, .ref z115])), (q84, .inr (1, [.ref z87])), (z110, .inl (cI, 9, .inl (fun _ => 0))), (z111, .inl (cI, 8, .inl (fun _ => 0))), (q116, .inr (11, [.null, .int 0, .int 0, .int 0]))] H := hP
  have hD : va_D A [(h0, .inr (0, [.ref q83, .ref q84, .ref q89, .ref q95, .ref q101, .ref q107, .null, .null, .null])), (q83, .inl (cI, 4096, .inl (fun _ => 0))), (z87, .inl (cI, 245, .inl z88)), (q89, .inr (2, [.int 1, .int 1, .ref z92, .ref z93, .ref z94, .ref q84, .ref z87])), (z92, .inl (cI, 1, .inl (fun _ => 0))), (z93, .inl (cI, 1, .inl (fun _ => 0))), (z94, .inl (cI, 1, .inl (fun _ => 0))), (q95, .inr (3, [.ref z98, .int 0, .int 0, .int 0, .int 0, .int 0, .int (-1), .int (-1), .int 0, .long 0, .ref q83, .ref z99, .ref z100, .int 0, .int 0])), (z98, .inl (cI, 8, .inl (fun _ => 0))), (z100, .inl (cI, 64, .inl (fun _ => 0))), (q101, .inr (4, [.int 0, .int (-1), .ref z104, .ref z105, .ref z106, .int 0, .long 0])), (q107, .inr (5, [.ref z110, .ref z111, .int (-1), .ref z87, .ref q89, .ref z112, .ref z113, .ref z114, .ref z115])), (q84, .inr (1, [.ref z87])), (z110, .inl (cI, 9, .inl (fun _ => 0))), (z111, .inl (cI, 8, .inl (fun _ => 0))), (q116, .inr (11, [.null, .int 0, .int 0, .int 0]))] := hD
  refine W.widen (k := 64) (n := 5666) (by omega) (by omega) ?_
  refine lv_dup hx hb d_DM_init_92 rfl ?_
  refine wc_v (wr := [(h0, .inr (0, [.ref q83, .ref q84, .ref q89, .ref q95, .ref q101, .ref q107, .null, .null, .null])), (q83, .inl (cI, 4096, .inl (fun _ => 0))), (z87, .inl (cI, 245, .inl z88)), (q89, .inr (2, [.int 1, .int 1, .ref z92, .ref z93, .ref z94, .ref q84, .ref z87])), (z92, .inl (cI, 1, .inl (fun _ => 0))), (z93, .inl (cI, 1, .inl (fun _ => 0))), (z94, .inl (cI, 1, .inl (fun _ => 0))), (q95, .inr (3, [.ref z98, .int 0, .int 0, .int 0, .int 0, .int 0, .int (-1), .int (-1), .int 0, .long 0, .ref q83, .ref z99, .ref z100, .int 0, .int 0])), (z98, .inl (cI, 8, .inl (fun _ => 0))), (z100, .inl (cI, 64, .inl (fun _ => 0))), (q101, .inr (4, [.int 0, .int (-1), .ref z104, .ref z105, .ref z106, .int 0, .long 0])), (q107, .inr (5, [.ref z110, .ref z111, .int (-1), .ref z87, .ref q89, .ref z112, .ref z113, .ref z114, .ref z115])), (q84, .inr (1, [.ref z87])), (z110, .inl (cI, 9, .inl (fun _ => 0))), (z111, .inl (cI, 8, .inl (fun _ => 0)))]) hC hP hD hS [15] [0, 1, 2, 3, 4, 5, 6, 7, 8, 9, 10, 11, 12, 13, 14] rfl rfl (by decide) (by decide) (va_runIN (As := []) (rest := [.ref q116, .ref h0]) ⟨hx, hb, hml, hown, htw⟩ (c_Prg_init l D cI cL B _ q116) ⟨va_cnB 0 htw (tw_good (fun _ h => h) k271) rfl rfl rfl (hC.2.1.1 _ kn1) (htw _ k110) (by decide +kernel) ⟨Nat.le_of_ble_eq_true rfl, Nat.le_of_ble_eq_true rfl⟩, rfl, htw _ k270⟩ (wC_pre hC hP hD hS [15] (by decide) rfl) rfl rfl hl.1 rfl (lv_room (Nat.le_of_ble_eq_true rfl)) d_DM_init_93 ⟨Nat.le_of_ble_eq_true rfl, Nat.le_of_ble_eq_true rfl⟩) (fun u117 H locs hw118 hP hD hS => ?_)
  obtain ⟨z119, rfl⟩ : ∃ z, z = u117 := ⟨_, rfl⟩
  have hP : va_P D classes [(h0, .inr (0, [.ref q83, .ref q84, .ref q89, .ref q95, .ref q101, .ref q107, .null, .null, .null])), (q83, .inl (cI, 4096, .inl (fun _ => 0))), (z87, .inl (cI, 245, .inl z88)), (q89, .inr (2, [.int 1, .int 1, .ref z92, .ref z93, .ref z94, .ref q84, .ref z87])), (z92, .inl (cI, 1, .inl (fun _ => 0))), (z93, .inl (cI, 1, .inl (fun _ => 0))), (z94, .inl (cI, 1, .inl (fun _ => 0))), (q95, .inr (3, [.ref z98, .int 0, .int 0, .int 0, .int 0, .int 0, .int (-1), .int (-1), .int 0, .long 0, .ref q83, .ref z99, .ref z100, .int 0, .int 0])), (z98, .inl (cI, 8, .inl (fun _ => 0))), (z100, .inl (cI, 64, .inl (fun _ => 0))), (q101, .inr (4, [.int 0, .int (-1), .ref z104, .ref z105, .ref z106, .int 0, .long 0])), (q107, .inr (5, [.ref z110, .ref z111, .int (-1), .ref z87, .ref q89, .ref z112, .ref z113, .ref z114, .ref z115])), (q84, .inr (1, [.ref z87])), (z110, .inl (cI, 9, .inl (fun _ => 0))), (z111, .inl (cI, 8, .inl (fun _ => 0))), (q116, .inr (11, [.ref z119, .int 0, .int 0, .int 0]))] H := hP
  have hD : va_D A [(h0, .inr (0, [.ref q83, .ref q84, .ref q89, .ref q95, .ref q101, .ref q107, .null, .null, .null])), (q83, .inl (cI, 4096, .inl (fun _ => 0))), (z87, .inl (cI, 245, .inl z88)), (q89, .inr (2, [.int 1, .int 1, .ref z92, .ref z93, .ref z94, .ref q84, .ref z87])), (z92, .inl (cI, 1, .inl (fun _ => 0))), (z93, .inl (cI, 1, .inl (fun _ => 0))), (z94, .inl (cI, 1, .inl (fun _ => 0))), (q95, .inr (3, [.ref z98, .int 0, .int 0, .int 0, .int 0, .int 0, .int (-1), .int (-1), .int 0, .long 0, .ref q83, .ref z99, .ref z100, .int 0, .int 0])), (z98, .inl (cI, 8, .inl (fun _ => 0))), (z100, .inl (cI, 64, .inl (fun _ => 0))), (q101, .inr (4, [.int 0, .int (-1), .ref z104, .ref z105, .ref z106, .int 0, .long 0])), (q107, .inr (5, [.ref z110, .ref z111, .int (-1), .ref z87, .ref q89, .ref z112, .ref z113, .ref z114, .ref z115])), (q84, .inr (1, [.ref z87])), (z110, .inl (cI, 9, .inl (fun _ => 0))), (z111, .inl (cI, 8, .inl (fun _ => 0))), (q116, .inr (11, [.ref z119, .int 0, .int 0, .int 0]))] := hD
  refine W.widen (k := 65) (n := 6434) (by omega) (by omega) ?_
  refine va_put (D := D) (ci := 0) (v := .ref q116) (ty := .object "DrawingMachine$Program") (C := R_DM) (T := F_DM) (N := 9) hx hb htw i_DM t_DM t_DM_ok n_DM hown hC.1 hP hD hS 0 rfl rfl 6 (by decide) (htw _ k272) (fun _ h9 => h9) rfl (by decide +kernel) rfl rfl (Nat.le_of_ble_eq_true rfl) d_DM_init_96 (fun H locs hP hD hS => ?_)
  have hP : va_P D classes [(h0, .inr (0, [.ref q83, .ref q84, .ref q89, .ref q95, .ref q101, .ref q107, .ref q116, .null, .null])), (q83, .inl (cI, 4096, .inl (fun _ => 0))), (z87, .inl (cI, 245, .inl z88)), (q89, .inr (2, [.int 1, .int 1, .ref z92, .ref z93, .ref z94, .ref q84, .ref z87])), (z92, .inl (cI, 1, .inl (fun _ => 0))), (z93, .inl (cI, 1, .inl (fun _ => 0))), (z94, .inl (cI, 1, .inl (fun _ => 0))), (q95, .inr (3, [.ref z98, .int 0, .int 0, .int 0, .int 0, .int 0, .int (-1), .int (-1), .int 0, .long 0, .ref q83, .ref z99, .ref z100, .int 0, .int 0])), (z98, .inl (cI, 8, .inl (fun _ => 0))), (z100, .inl (cI, 64, .inl (fun _ => 0))), (q101, .inr (4, [.int 0, .int (-1), .ref z104, .ref z105, .ref z106, .int 0, .long 0])), (q107, .inr (5, [.ref z110, .ref z111, .int (-1), .ref z87, .ref q89, .ref z112, .ref z113, .ref z114, .ref z115])), (q84, .inr (1, [.ref z87])), (z110, .inl (cI, 9, .inl (fun _ => 0))), (z111, .inl (cI, 8, .inl (fun _ => 0))), (q116, .inr (11, [.ref z119, .int 0, .int 0, .int 0]))] H := hP
  have hD : va_D A [(h0, .inr (0, [.ref q83, .ref q84, .ref q89, .ref q95, .ref q101, .ref q107, .ref q116, .null, .null])), (q83, .inl (cI, 4096, .inl (fun _ => 0))), (z87, .inl (cI, 245, .inl z88)), (q89, .inr (2, [.int 1, .int 1, .ref z92, .ref z93, .ref z94, .ref q84, .ref z87])), (z92, .inl (cI, 1, .inl (fun _ => 0))), (z93, .inl (cI, 1, .inl (fun _ => 0))), (z94, .inl (cI, 1, .inl (fun _ => 0))), (q95, .inr (3, [.ref z98, .int 0, .int 0, .int 0, .int 0, .int 0, .int (-1), .int (-1), .int 0, .long 0, .ref q83, .ref z99, .ref z100, .int 0, .int 0])), (z98, .inl (cI, 8, .inl (fun _ => 0))), (z100, .inl (cI, 64, .inl (fun _ => 0))), (q101, .inr (4, [.int 0, .int (-1), .ref z104, .ref z105, .ref z106, .int 0, .long 0])), (q107, .inr (5, [.ref z110, .ref z111, .int (-1), .ref z87, .ref q89, .ref z112, .ref z113, .ref z114, .ref z115])), (q84, .inr (1, [.ref z87])), (z110, .inl (cI, 9, .inl (fun _ => 0))), (z111, .inl (cI, 8, .inl (fun _ => 0))), (q116, .inr (11, [.ref z119, .int 0, .int 0, .int 0]))] := hD
  refine lv_aload_n hx hb d_DM_init_99 rfl (lv_at hl 0 rfl) ?_
  refine va_new (ci := 11) (fs := [.null, .int 0, .int 0, .int 0]) (C := R_Prg) (T := F_Prg) (N := 4) hx hb htw i_Prg t_Prg t_Prg_ok hown (htw _ k269) (htw _ k111) (htw _ k110) hC.1 hP hD hS hC.2.2.2.1 rfl (fun j hj => by rcases (show j = 0 ∨ j = 1 ∨ j = 2 ∨ j = 3 by omega) with rfl | rfl | rfl | rfl <;> rfl) (Nat.le_of_ble_eq_true rfl) (Nat.le_of_ble_eq_true rfl) d_DM_init_100 (fun q120 H hP hD hS => ?_)
  have hP : va_P D classes [(h0, .inr (0, [.ref q83, .ref q84, .ref q89, .ref q95, .ref q101, .ref q107, .ref q116, .null, .null])), (q83, .inl (cI, 4096, .inl (fun _ => 0))), (z87, .inl (cI, 245, .inl z88)), (q89, .inr (2, [.int 1, .int 1, .ref z92, .ref z93, .ref z94, .ref q84, .ref z87])), (z92, .inl (cI, 1, .inl (fun _ => 0))), (z93, .inl (cI, 1, .inl (fun _ => 0))), (z94, .inl (cI, 1, .inl (fun _ => 0))), (q95, .inr (3, [.ref z98, .int 0, .int 0, .int 0, .int 0, .int 0, .int (-1), .int (-1), .int 0, .long 0, .ref q83, .ref z99, .ref z100, .int 0, .int 0])), (z98, .inl (cI, 8, .inl (fun _ => 0))), (z100, .inl (cI, 64, .inl (fun _ => 0))), (q101, .inr (4, [.int 0, .int (-1), .ref z104, .ref z105, .ref z106, .int 0, .long 0])), (q107, .inr (5, [.ref z110, .ref z111, .int (-1), .ref z87, .ref q89, .ref z112, .ref z113, .ref z114, .ref z115])), (q84, .inr (1, [.ref z87])), (z110, .inl (cI, 9, .inl (fun _ => 0))), (z111, .inl (cI, 8, .inl (fun _ => 0))), (q116, .inr (11, [.ref z119, .int 0, .int 0, .int 0])), (q120, .inr (11, [.null, .int 0, .int 0, .int 0]))] H := hP
  have hD : va_D A [(h0, .inr (0, [.ref q83, .ref q84, .ref q89, .ref q95, .ref q101, .ref q107, .ref q116, .null, .null])), (q83, .inl (cI, 4096, .inl (fun _ => 0))), (z87, .inl (cI, 245, .inl z88)), (q89, .inr (2, [.int 1, .int 1, .ref z92, .ref z93, .ref z94, .ref q84, .ref z87])), (z92, .inl (cI, 1, .inl (fun _ => 0))), (z93, .inl (cI, 1, .inl (fun _ => 0))), (z94, .inl (cI, 1, .inl (fun _ => 0))), (q95, .inr (3, [.ref z98, .int 0, .int 0, .int 0, .int 0, .int 0, .int (-1), .int (-1), .int 0, .long 0, .ref q83, .ref z99, .ref z100, .int 0, .int 0])), (z98, .inl (cI, 8, .inl (fun _ => 0))), (z100, .inl (cI, 64, .inl (fun _ => 0))), (q101, .inr (4, [.int 0, .int (-1), .ref z104, .ref z105, .ref z106, .int 0, .long 0])), (q107, .inr (5, [.ref z110, .ref z111, .int (-1), .ref z87, .ref q89, .ref z112, .ref z113, .ref z114, .ref z115])), (q84, .inr (1, [.ref z87])), (z110, .inl (cI, 9, .inl (fun _ => 0))), (z111, .inl (cI, 8, .inl (fun _ => 0))), (q116, .inr (11, [.ref z119, .int 0, .int 0, .int 0])), (q120, .inr (11, [.null, .int 0, .int 0, .int 0]))] := hD
  refine W.widen (k := 66) (n := 6438) (by omega) (by omega) ?_
  refine lv_dup hx hb d_DM_init_103 rfl ?_
  refine wc_v (wr := [(h0, .inr (0, [.ref q83, .ref q84, .ref q89, .ref q95, .ref q101, .ref q107, .ref q116, .null, .null])), (q83, .inl (cI, 4096, .inl (fun _ => 0))), (z87, .inl (cI, 245, .inl z88)), (q89, .inr (2, [.int 1, .int 1, .ref z92, .ref z93, .ref z94, .ref q84, .ref z87])), (z92, .inl (cI, 1, .inl (fun _ => 0))), (z93, .inl (cI, 1, .inl (fun _ => 0))), (z94, .inl (cI, 1, .inl (fun _ => 0))), (q95, .inr (3, [.ref z98, .int 0, .int 0, .int 0, .int 0, .int 0, .int (-1), .int (-1), .int 0, .long 0, .ref q83, .ref z99, .ref z100, .int 0, .int 0])), (z98, .inl (cI, 8, .inl (fun _ => 0))), (z100, .inl (cI, 64, .inl (fun _ => 0))), (q101, .inr (4, [.int 0, .int (-1), .ref z104, .ref z105, .ref z106, .int 0, .long 0])), (q107, .inr (5, [.ref z110, .ref z111, .int (-1), .ref z87, .ref q89, .ref z112, .ref z113, .ref z114, .ref z115])), (q84, .inr (1, [.ref z87])), (z110, .inl (cI, 9, .inl (fun _ => 0))), (z111, .inl (cI, 8, .inl (fun _ => 0))), (q116, .inr (11, [.ref z119, .int 0, .int 0, .int 0]))]) hC hP hD hS [16] [0, 1, 2, 3, 4, 5, 6, 7, 8, 9, 10, 11, 12, 13, 14, 15] rfl rfl (by decide) (by decide) (va_runIN (As := []) (rest := [.ref q120, .ref h0]) ⟨hx, hb, hml, hown, htw⟩ (c_Prg_init l D cI cL B _ q120) ⟨va_cnB 0 htw (tw_good (fun _ h => h) k271) rfl rfl rfl (hC.2.1.1 _ kn1) (htw _ k110) (by decide +kernel) ⟨Nat.le_of_ble_eq_true rfl, Nat.le_of_ble_eq_true rfl⟩, rfl, htw _ k270⟩ (wC_pre hC hP hD hS [16] (by decide) rfl) rfl rfl hl.1 rfl (lv_room (Nat.le_of_ble_eq_true rfl)) d_DM_init_104 ⟨Nat.le_of_ble_eq_true rfl, Nat.le_of_ble_eq_true rfl⟩) (fun u121 H locs hw122 hP hD hS => ?_)
  obtain ⟨z123, rfl⟩ : ∃ z, z = u121 := ⟨_, rfl⟩
  have hP : va_P D classes [(h0, .inr (0, [.ref q83, .ref q84, .ref q89, .ref q95, .ref q101, .ref q107, .ref q116, .null, .null])), (q83, .inl (cI, 4096, .inl (fun _ => 0))), (z87, .inl (cI, 245, .inl z88)), (q89, .inr (2, [.int 1, .int 1, .ref z92, .ref z93, .ref z94, .ref q84, .ref z87])), (z92, .inl (cI, 1, .inl (fun _ => 0))), (z93, .inl (cI, 1, .inl (fun _ => 0))), (z94, .inl (cI, 1, .inl (fun _ => 0))), (q95, .inr (3, [.ref z98, .int 0, .int 0, .int 0, .int 0, .int 0, .int (-1), .int (-1), .int 0, .long 0, .ref q83, .ref z99, .ref z100, .int 0, .int 0])), (z98, .inl (cI, 8, .inl (fun _ => 0))), (z100, .inl (cI, 64, .inl (fun _ => 0))), (q101, .inr (4, [.int 0, .int (-1), .ref z104, .ref z105, .ref z106, .int 0, .long 0])), (q107, .inr (5, [.ref z110, .ref z111, .int (-1), .ref z87, .ref q89, .ref z112, .ref z113, .ref z114, .ref z115])), (q84, .inr (1, [.ref z87])), (z110, .inl (cI, 9, .inl (fun _ => 0))), (z111, .inl (cI, 8, .inl (fun _ => 0))), (q116, .inr (11, [.ref z119, .int 0, .int 0, .int 0])), (q120, .inr (11, [.ref z123, .int 0, .int 0, .int 0]))] H := hP
  have hD : va_D A [(h0, .inr (0, [.ref q83, .ref q84, .ref q89, .ref q95, .ref q101, .ref q107, .ref q116, .null, .null])), (q83, .inl (cI, 4096, .inl (fun _ => 0))), (z87, .inl (cI, 245, .inl z88)), (q89, .inr (2, [.int 1, .int 1, .ref z92, .ref z93, .ref z94, .ref q84, .ref z87])), (z92, .inl (cI, 1, .inl (fun _ => 0))), (z93, .inl (cI, 1, .inl (fun _ => 0))), (z94, .inl (cI, 1, .inl (fun _ => 0))), (q95, .inr (3, [.ref z98, .int 0, .int 0, .int 0, .int 0, .int 0, .int (-1), .int (-1), .int 0, .long 0, .ref q83, .ref z99, .ref z100, .int 0, .int 0])), (z98, .inl (cI, 8, .inl (fun _ => 0))), (z100, .inl (cI, 64, .inl (fun _ => 0))), (q101, .inr (4, [.int 0, .int (-1), .ref z104, .ref z105, .ref z106, .int 0, .long 0])), (q107, .inr (5, [.ref z110, .ref z111, .int (-1), .ref z87, .ref q89, .ref z112, .ref z113, .ref z114, .ref z115])), (q84, .inr (1, [.ref z87])), (z110, .inl (cI, 9, .inl (fun _ => 0))), (z111, .inl (cI, 8, .inl (fun _ => 0))), (q116, .inr (11, [.ref z119, .int 0, .int 0, .int 0])), (q120, .inr (11, [.ref z123, .int 0, .int 0, .int 0]))] := hD
  refine W.widen (k := 67) (n := 7206) (by omega) (by omega) ?_
  refine va_put (D := D) (ci := 0) (v := .ref q120) (ty := .object "DrawingMachine$Program") (C := R_DM) (T := F_DM) (N := 9) hx hb htw i_DM t_DM t_DM_ok n_DM hown hC.1 hP hD hS 0 rfl rfl 7 (by decide) (htw _ k273) (fun _ h9 => h9) rfl (by decide +kernel) rfl rfl (Nat.le_of_ble_eq_true rfl) d_DM_init_107 (fun H locs hP hD hS => ?_)
  have hP : va_P D classes [(h0, .inr (0, [.ref q83, .ref q84, .ref q89, .ref q95, .ref q101, .ref q107, .ref q116, .ref q120, .null])), (q83, .inl (cI, 4096, .inl (fun _ => 0))), (z87, .inl (cI, 245, .inl z88)), (q89, .inr (2, [.int 1, .int 1, .ref z92, .ref z93, .ref z94, .ref q84, .ref z87])), (z92, .inl (cI, 1, .inl (fun _ => 0))), (z93, .inl (cI, 1, .inl (fun _ => 0))), (z94, .inl (cI, 1, .inl (fun _ => 0))), (q95, .inr (3, [.ref z98, .int 0, .int 0, .int 0, .int 0, .int 0, .int (-1), .int (-1), .int 0, .long 0, .ref q83, .ref z99, .ref z100, .int 0, .int 0])), (z98, .inl (cI, 8, .inl (fun _ => 0))), (z100, .inl (cI, 64, .inl (fun _ => 0))), (q101, .inr (4, [.int 0, .int (-1), .ref z104, .ref z105, .ref z106, .int 0, .long 0])), (q107, .inr (5, [.ref z110, .ref z111, .int (-1), .ref z87, .ref q89, .ref z112, .ref z113, .ref z114, .ref z115])), (q84, .inr (1, [.ref z87])), (z110, .inl (cI, 9, .inl (fun _ => 0))), (z111, .inl (cI, 8, .inl (fun _ => 0))), (q116, .inr (11, [.ref z119, .int 0, .int 0, .int 0])), (q120, .inr (11, [.ref z123, .int 0, .int 0, .int 0]))] H := hP
  have hD : va_D A [(h0, .inr (0, [.ref q83, .ref q84, .ref q89, .ref q95, .ref q101, .ref q107, .ref q116, .ref q120, .null])), (q83, .inl (cI, 4096, .inl (fun _ => 0))), (z87, .inl (cI, 245, .inl z88)), (q89, .inr (2, [.int 1, .int 1, .ref z92, .ref z93, .ref z94, .ref q84, .ref z87])), (z92, .inl (cI, 1, .inl (fun _ => 0))), (z93, .inl (cI, 1, .inl (fun _ => 0))), (z94, .inl (cI, 1, .inl (fun _ => 0))), (q95, .inr (3, [.ref z98, .int 0, .int 0, .int 0, .int 0, .int 0, .int (-1), .int (-1), .int 0, .long 0, .ref q83, .ref z99, .ref z100, .int 0, .int 0])), (z98, .inl (cI, 8, .inl (fun _ => 0))), (z100, .inl (cI, 64, .inl (fun _ => 0))), (q101, .inr (4, [.int 0, .int (-1), .ref z104, .ref z105, .ref z106, .int 0, .long 0])), (q107, .inr (5, [.ref z110, .ref z111, .int (-1), .ref z87, .ref q89, .ref z112, .ref z113, .ref z114, .ref z115])), (q84, .inr (1, [.ref z87])), (z110, .inl (cI, 9, .inl (fun _ => 0))), (z111, .inl (cI, 8, .inl (fun _ => 0))), (q116, .inr (11, [.ref z119, .int 0, .int 0, .int 0])), (q120, .inr (11, [.ref z123, .int 0, .int 0, .int 0]))] := hD
  refine lv_aload_n hx hb d_DM_init_110 rfl (lv_at hl 0 rfl) ?_
  refine va_new (ci := 11) (fs := [.null, .int 0, .int 0, .int 0]) (C := R_Prg) (T := F_Prg) (N := 4) hx hb htw i_Prg t_Prg t_Prg_ok hown (htw _ k269) (htw _ k111) (htw _ k110) hC.1 hP hD hS hC.2.2.2.1 rfl (fun j hj => by rcases (show j = 0 ∨ j = 1 ∨ j = 2 ∨ j = 3 by omega) with rfl | rfl | rfl | rfl <;> rfl) (Nat.le_of_ble_eq_true rfl) (Nat.le_of_ble_eq_true rfl) d_DM_init_111 (fun q124 H hP hD hS => ?_)
  have hP : va_P D classes [(h0, .inr (0, [.ref q83, .ref q84, .ref q89, .ref q95, .ref q101, .ref q107, .ref q116, .ref q120, .null])), (q83, .inl (cI, 4096, .inl (fun _ => 0))), (z87, .inl (cI, 245, .inl z88)), (q89, .inr (2, [.int 1, .int 1, .ref z92, .ref z93, .ref z94, .ref q84, .ref z87])), (z92, .inl (cI, 1, .inl (fun _ => 0))), (z93, .inl (cI, 1, .inl (fun _ => 0))), (z94, .inl (cI, 1, .inl (fun _ => 0))), (q95, .inr (3, [.ref z98, .int 0, .int 0, .int 0, .int 0, .int 0, .int (-1), .int (-1), .int 0, .long 0, .ref q83, .ref z99, .ref z100, .int 0, .int 0])), (z98, .inl (cI, 8, .inl (fun _ => 0))), (z100, .inl (cI, 64, .inl (fun _ => 0))), (q101, .inr (4, [.int 0, .int (-1), .ref z104, .ref z105, .ref z106, .int 0, .long 0])), (q107, .inr (5, [.ref z110, .ref z111, .int (-1), .ref z87, .ref q89, .ref z112, .ref z113, .ref z114, .ref z115])), (q84, .inr (1, [.ref z87])), (z110, .inl (cI, 9, .inl (fun _ => 0))), (z111, .inl (cI, 8, .inl (fun _ => 0))), (q116, .inr (11, [.ref z119, .int 0, .int 0, .int 0])), (q120, .inr (11, [.ref z123, .int 0, .int 0, .int 0])), (q124, .inr (11, [.null, .int 0, .int 0, .int 0]))] H := hP
  have hD : va_D A [(h0, .inr (0, [.ref q83, .ref q84, .ref q89, .ref q95, .ref q101, .ref q107, .ref q116, .ref q120, .null])), (q83, .inl (cI, 4096, .inl (fun _ => 0))), (z87, .inl (cI, 245, .inl z88)), (q89, .inr (2, [.int 1, .int 1, .ref z92, .ref z93, .ref z94, .ref q84, .ref z87])), (z92, .inl (cI, 1, .inl (fun _ => 0))), (z93, .inl (cI, 1, .inl (fun _ => 0))), (z94, .inl (cI, 1, .inl (fun _ => 0))), (q95, .inr (3, [.ref z98, .int 0, .int 0, .int 0, .int 0, .int 0, .int (-1), .int (-1), .int 0, .long 0, .ref q83, .ref z99, .ref z100, .int 0, .int 0])), (z98, .inl (cI, 8, .inl (fun _ => 0))), (z100, .inl (cI, 64, .inl (fun _ => 0))), (q101, .inr (4, [.int 0, .int (-1), .ref z104, .ref z105, .ref z106, .int 0, .long 0])), (q107, .inr (5, [.ref z110, .ref z111, .int (-1), .ref z87, .ref q89, .ref z112, .ref z113, .ref z114, .ref z115])), (q84, .inr (1, [.ref z87])), (z110, .inl (cI, 9, .inl (fun _ => 0))), (z111, .inl (cI, 8, .inl (fun _ => 0))), (q116, .inr (11, [.ref z119, .int 0, .int 0, .int 0])), (q120, .inr (11, [.ref z123, .int 0, .int 0, .int 0])), (q124, .inr (11, [.null, .int 0, .int 0, .int 0]))] := hD
  refine W.widen (k := 68) (n := 7210) (by omega) (by omega) ?_
  refine lv_dup hx hb d_DM_init_114 rfl ?_
  refine wc_v (wr := [(h0, .inr (0, [.ref q83, .ref q84, .ref q89, .ref q95, .ref q101, .ref q107, .ref q116, .ref q120, .null])), (q83, .inl (cI, 4096, .inl (fun _ => 0))), (z87, .inl (cI, 245, .inl z88)), (q89, .inr (2, [.int 1, .int 1, .ref z92, .ref z93, .ref z94, .ref q84, .ref z87])), (z92, .inl (cI, 1, .inl (fun _ => 0))), (z93, .inl (cI, 1, .inl (fun _ => 0))), (z94, .inl (cI, 1, .inl (fun _ => 0))), (q95, .inr (3, [.ref z98, .int 0, .int 0, .int 0, .int 0, .int 0, .int (-1), .int (-1), .int 0, .long 0, .ref q83, .ref z99, .ref z100, .int 0, .int 0])), (z98, .inl (cI, 8, .inl (fun _ => 0))), (z100, .inl (cI, 64, .inl (fun _ => 0))), (q101, .inr (4, [.int 0, .int (-1), .ref z104, .ref z105, .ref z106, .int 0, .long 0])), (q107, .inr (5, [.ref z110, .ref z111, .int (-1), .ref z87, .ref q89, .ref z112, .ref z113, .ref z114, .ref z115])), (q84, .inr (1, [.ref z87])), (z110, .inl (cI, 9, .inl (fun _ => 0))), (z111, .inl (cI, 8, .inl (fun _ => 0))), (q116, .inr (11, [.ref z119, .int 0, .int 0, .int 0])), (q120, .inr (11, [.ref z123, .int 0, .int 0, .int 0]))]) hC hP hD hS [17] [0, 1, 2, 3, 4, 5, 6, 7, 8, 9, 10, 11, 12, 13, 14, 15, 16] rfl rfl (by decide) (by decide) (va_runIN (As := []) (rest := [.ref q124, .ref h0]) ⟨hx, hb, hml, hown, htw⟩ (c_Prg_init l D cI cL B _ q124) ⟨va_cnB 0 htw (tw_good (fun _ h => h) k271) rfl rfl rfl (hC.2.1.1 _ kn1) (htw _ k110) (by decide +kernel) ⟨Nat.le_of_ble_eq_true rfl, Nat.le_of_ble_eq_true rfl⟩, rfl, htw _ k270⟩ (wC_pre hC hP hD hS [17] (by decide) rfl) rfl rfl hl.1 rfl (lv_room (Nat.le_of_ble_eq_true rfl)) d_DM_init_115 ⟨Nat.le_of_ble_eq_true rfl, Nat.le_of_ble_eq_true rfl⟩) (fun u125 H locs hw126 hP hD hS => ?_)
  obtain ⟨z127, rfl⟩ : ∃ z, z = u125 := ⟨_, rfl⟩
  have hP : va_P D classes [(h0, .inr (0, [.ref q83, .ref q84, .ref q89, .ref q95, .ref q101, .ref q107, .ref q116, .ref q120, .null])), (q83, .inl (cI, 4096, .inl (fun _ => 0))), (z87, .inl (cI, 245, .inl z88)), (q89, .inr (2, [.int 1, .int 1, .ref z92, .ref z93, .ref z94, .ref q84, .ref z87])), (z92, .inl (cI, 1, .inl (fun _ => 0))), (z93, .inl (cI, 1, .inl (fun _ => 0))), (z94, .inl (cI, 1, .inl (fun _ => 0))), (q95, .inr (3, [.ref z98, .int 0, .int 0, .int 0, .int 0, .int 0, .int (-1), .int (-1), .int 0, .long 0, .ref q83, .ref z99, .ref z100, .int 0, .int 0])), (z98, .inl (cI, 8, .inl (fun _ => 0))), (z100, .inl (cI, 64, .inl (fun _ => 0))), (q101, .inr (4, [.int 0, .int (-1), .ref z104, .ref z105, .ref z106, .int 0, .long 0])), (q107, .inr (5, [.ref z110, .ref z111, .int (-1), .ref z87, .ref q89, .ref z112, .ref z113, .ref z114, .ref z115])), (q84, .inr (1, [.ref z87])), (z110, .inl (cI, 9, .inl (fun _ => 0))), (z111, .inl (cI, 8, .inl (fun _ => 0))), (q116, .inr (11, [.ref z119, .int 0, .int 0, .int 0])), (q120, .inr (11, [.ref z123, .int 0, .int 0, .int 0])), (q124, .inr (11, [.ref z127, .int 0, .int 0, .int 0]))] H := hP
  have hD : va_D A [(h0, .inr (0, [.ref q83, .ref q84, .ref q89, .ref q95, .ref q101, .ref q107, .ref q116, .ref q120, .null])), (q83, .inl (cI, 4096, .inl (fun _ => 0))), (z87, .inl (cI, 245, .inl z88)), (q89, .inr (2, [.int 1, .int 1, .ref z92, .ref z93, .ref z94, .ref q84, .ref z87])), (z92, .inl (cI, 1, .inl (fun _ => 0))), (z93, .inl (cI, 1, .inl (fun _ => 0))), (z94, .inl (cI, 1, .inl (fun _ => 0))), (q95, .inr (3, [.ref z98, .int 0, .int 0, .int 0, .int 0, .int 0, .int (-1), .int (-1), .int 0, .long 0, .ref q83, .ref z99, .ref z100, .int 0, .int 0])), (z98, .inl (cI, 8, .inl (fun _ => 0))), (z100, .inl (cI, 64, .inl (fun _ => 0))), (q101, .inr (4, [.int 0, .int (-1), .ref z104, .ref z105, .ref z106, .int 0, .long 0])), (q107, .inr (5, [.ref z110, .ref z111, .int (-1), .ref z87, .ref q89, .ref z112, .ref z113, .ref z114, .ref z115])), (q84, .inr (1, [.ref z87])), (z110, .inl (cI, 9, .inl (fun _ => 0))), (z111, .inl (cI, 8, .inl (fun _ => 0))), (q116, .inr (11, [.ref z119, .int 0, .int 0, .int 0])), (q120, .inr (11, [.ref z123, .int 0, .int 0, .int 0])), (q124, .inr (11, [.ref z127, .int 0, .int 0, .int 0]))] := hD
  refine W.widen (k := 69) (n := 7978) (by omega) (by omega) ?_
  refine va_put (D := D) (ci := 0) (v := .ref q124) (ty := .object "DrawingMachine$Program") (C := R_DM) (T := F_DM) (N := 9) hx hb htw i_DM t_DM t_DM_ok n_DM hown hC.1 hP hD hS 0 rfl rfl 8 (by decide) (htw _ k274) (fun _ h9 => h9) rfl (by decide +kernel) rfl rfl (Nat.le_of_ble_eq_true rfl) d_DM_init_118 (fun H locs hP hD hS => ?_)
  have hP : va_P D classes [(h0, .inr (0, [.ref q83, .ref q84, .ref q89, .ref q95, .ref q101, .ref q107, .ref q116, .ref q120, .ref q124])), (q83, .inl (cI, 4096, .inl (fun _ => 0))), (z87, .inl (cI, 245, .inl z88)), (q89, .inr (2, [.int 1, .int 1, .ref z92, .ref z93, .ref z94, .ref q84, .ref z87])), (z92, .inl (cI, 1, .inl (fun _ => 0))), (z93, .inl (cI, 1, .inl (fun _ => 0))), (z94, .inl (cI, 1, .inl (fun _ => 0))), (q95, .inr (3, [.ref z98, .int 0, .int 0, .int 0, .int 0, .int 0, .int (-1), .int (-1), .int 0, .long 0, .ref q83, .ref z99, .ref z100, .int 0, .int 0])), (z98, .inl (cI, 8, .inl (fun _ => 0))), (z100, .inl (cI, 64, .inl (fun _ => 0))), (q101, .inr (4, [.int 0, .int (-1), .ref z104, .ref z105, .ref z106, .int 0, .long 0])), (q107, .inr (5, [.ref z110, .ref z111, .int (-1), .ref z87, .ref q89, .ref z112, .ref z113, .ref z114, .ref z115])), (q84, .inr (1, [.ref z87])), (z110, .inl (cI, 9, .inl (fun _ => 0))), (z111, .inl (cI, 8, .inl (fun _ => 0))), (q116, .inr (11, [.ref z119, .int 0, .int 0, .int 0])), (q120, .inr (11, [.ref z123, .int 0, .int 0, .int 0])), (q124, .inr (11, [.ref z127, .int 0, .int 0, .int 0]))] H := hP
  have hD : va_D A [(h0, .inr (0, [.ref q83, .ref q84, .ref q89, .ref q95, .ref q101, .ref q107, .ref q116, .ref q120, .ref q124])), (q83, .inl (cI, 4096, .inl (fun _ => 0))), (z87, .inl (cI, 245, .inl z88)), (q89, .inr (2, [.int 1, .int 1, .ref z92, .ref z93, .ref z94, .ref q84, .ref z87])), (z92, .inl (cI, 1, .inl (fun _ => 0))), (z93, .inl (cI, 1, .inl (fun _ => 0))), (z94, .inl (cI, 1, .inl (fun _ => 0))), (q95, .inr (3, [.ref z98, .int 0, .int 0, .int 0, .int 0, .int 0, .int (-1), .int (-1), .int 0, .long 0, .ref q83, .ref z99, .ref z100, .int 0, .int 0])), (z98, .inl (cI, 8, .inl (fun _ => 0))), (z100, .inl (cI, 64, .inl (fun _ => 0))), (q101, .inr (4, [.int 0, .int (-1), .ref z104, .ref z105, .ref z106, .int 0, .long 0])), (q107, .inr (5, [.ref z110, .ref z111, .int (-1), .ref z87, .ref q89, .ref z112, .ref z113, .ref z114, .ref z115])), (q84, .inr (1, [.ref z87])), (z110, .inl (cI, 9, .inl (fun _ => 0))), (z111, .inl (cI, 8, .inl (fun _ => 0))), (q116, .inr (11, [.ref z119, .int 0, .int 0, .int 0])), (q120, .inr (11, [.ref z123, .int 0, .int 0, .int 0])), (q124, .inr (11, [.ref z127, .int 0, .int 0, .int 0]))] := hD
  refine W.widen (k := 69) (n := 7978) (Nat.le_of_ble_eq_true rfl) (Nat.le_of_ble_eq_true rfl) ?_
  have hP9 := hP.sub (ws' := [(h0, .inr (0, [.ref q83, .ref q84, .ref q89, .ref q95, .ref q101, .ref q107, .ref q116, .ref q120, .ref q124])), (q83, .inl (cI, 4096, .inl (fun _ => 0))), (q84, .inr (1, [.ref z87])), (z87, .inl (cI, 245, .inl z88)), (q89, .inr (2, [.int 1, .int 1, .ref z92, .ref z93, .ref z94, .ref q84, .ref z87])), (z92, .inl (cI, 1, .inl (fun _ => 0))), (z93, .inl (cI, 1, .inl (fun _ => 0))), (z94, .inl (cI, 1, .inl (fun _ => 0))), (q95, .inr (3, [.ref z98, .int 0, .int 0, .int 0, .int 0, .int 0, .int (-1), .int (-1), .int 0, .long 0, .ref q83, .ref z99, .ref z100, .int 0, .int 0])), (z98, .inl (cI, 8, .inl (fun _ => 0))), (z100, .inl (cI, 64, .inl (fun _ => 0))), (q101, .inr (4, [.int 0, .int (-1), .ref z104, .ref z105, .ref z106, .int 0, .long 0])), (q107, .inr (5, [.ref z110, .ref z111, .int (-1), .ref z87, .ref q89, .ref z112, .ref z113, .ref z114, .ref z115])), (z110, .inl (cI, 9, .inl (fun _ => 0))), (z111, .inl (cI, 8, .inl (fun _ => 0))), (q116, .inr (11, [.ref z119, .int 0, .int 0, .int 0])), (q120, .inr (11, [.ref z123, .int 0, .int 0, .int 0]))]) [0, 1, 12, 2, 3, 4, 5, 6, 7, 8, 9, 10, 11, 13, 14, 15, 16] rfl
  have hD9 := hD.sub (ws' := [(h0, .inr (0, [.ref q83, .ref q84, .ref q89, .ref q95, .ref q101, .ref q107, .ref q116, .ref q120, .ref q124])), (q83, .inl (cI, 4096, .inl (fun _ => 0))), (q84, .inr (1, [.ref z87])), (z87, .inl (cI, 245, .inl z88)), (q89, .inr (2, [.int 1, .int 1, .ref z92, .ref z93, .ref z94, .ref q84, .ref z87])), (z92, .inl (cI, 1, .inl (fun _ => 0))), (z93, .inl (cI, 1, .inl (fun _ => 0))), (z94, .inl (cI, 1, .inl (fun _ => 0))), (q95, .inr (3, [.ref z98, .int 0, .int 0, .int 0, .int 0, .int 0, .int (-1), .int (-1), .int 0, .long 0, .ref q83, .ref z99, .ref z100, .int 0, .int 0])), (z98, .inl (cI, 8, .inl (fun _ => 0))), (z100, .inl (cI, 64, .inl (fun _ => 0))), (q101, .inr (4, [.int 0, .int (-1), .ref z104, .ref z105, .ref z106, .int 0, .long 0])), (q107, .inr (5, [.ref z110, .ref z111, .int (-1), .ref z87, .ref q89, .ref z112, .ref z113, .ref z114, .ref z115])), (z110, .inl (cI, 9, .inl (fun _ => 0))), (z111, .inl (cI, 8, .inl (fun _ => 0))), (q116, .inr (11, [.ref z119, .int 0, .int 0, .int 0])), (q120, .inr (11, [.ref z123, .int 0, .int 0, .int 0]))]) [0, 1, 12, 2, 3, 4, 5, 6, 7, 8, 9, 10, 11, 13, 14, 15, 16] (by decide) rfl
  exact W.vret hx hb hr (fun t ht hW => ⟨⟨(q83, q84, z87, z88, q89, z92, z93, z94, q95, z98, z99, z100, q101, z104, z105, z106, q107, z110, z111, z112, z113, z114, z115, q116, z119, q120, z123, q124), rfl, trivial, by rw [ht]; exact hP9, va_K.moved hW.alike hC.1, hD9⟩, hS.F ht⟩) hS.2.2 d_DM_init_121
