def st_kat (j : Nat) : Int32 := ([-1, -1, 0, 6, 10, 42, -1, -1, -1, 170, 190, 192, 206, 212, 213, 214, 215, -1, -1, -1, -1, -1, -1, -1, 217, 229] : List Int32).getD j 0
def st_N : Cond := Jvm.Cond.and given_1 narrow_1
theorem st_sub {N : Cond} {ps : List Nat} {ws : List Cond} (h : ws = ps.filterMap (fun i => (flatC N)[i]?)) : ∀ w ∈ ws, w ∈ flatC N := fun w hw => by
  rw [h] at hw
  obtain ⟨i, -, hi⟩ := List.mem_filterMap.mp hw
  exact List.mem_of_getElem? hi
def st_wk0 : List Cond := [(Jvm.Cond.eq (Jvm.Term.elem (Jvm.Term.static "DrawingMachine" "KEPT_AT" "[I") (Jvm.Term.int (0 : Int32))) (Jvm.Term.int (-1 : Int32))), (Jvm.Cond.eq (Jvm.Term.elem (Jvm.Term.static "DrawingMachine" "KEPT_AT" "[I") (Jvm.Term.int (1 : Int32))) (Jvm.Term.int (-1 : Int32))), (Jvm.Cond.eq (Jvm.Term.elem (Jvm.Term.static "DrawingMachine" "KEPT_AT" "[I") (Jvm.Term.int (2 : Int32))) (Jvm.Term.int (0 : Int32))), (Jvm.Cond.eq (Jvm.Term.elem (Jvm.Term.static "DrawingMachine" "KEPT_AT" "[I") (Jvm.Term.int (3 : Int32))) (Jvm.Term.int (6 : Int32))), (Jvm.Cond.eq (Jvm.Term.elem (Jvm.Term.static "DrawingMachine" "KEPT_AT" "[I") (Jvm.Term.int (4 : Int32))) (Jvm.Term.int (10 : Int32))), (Jvm.Cond.eq (Jvm.Term.elem (Jvm.Term.static "DrawingMachine" "KEPT_AT" "[I") (Jvm.Term.int (5 : Int32))) (Jvm.Term.int (42 : Int32))), (Jvm.Cond.eq (Jvm.Term.elem (Jvm.Term.static "DrawingMachine" "KEPT_AT" "[I") (Jvm.Term.int (6 : Int32))) (Jvm.Term.int (-1 : Int32))), (Jvm.Cond.eq (Jvm.Term.elem (Jvm.Term.static "DrawingMachine" "KEPT_AT" "[I") (Jvm.Term.int (7 : Int32))) (Jvm.Term.int (-1 : Int32))), (Jvm.Cond.eq (Jvm.Term.elem (Jvm.Term.static "DrawingMachine" "KEPT_AT" "[I") (Jvm.Term.int (8 : Int32))) (Jvm.Term.int (-1 : Int32))), (Jvm.Cond.eq (Jvm.Term.elem (Jvm.Term.static "DrawingMachine" "KEPT_AT" "[I") (Jvm.Term.int (9 : Int32))) (Jvm.Term.int (170 : Int32))), (Jvm.Cond.eq (Jvm.Term.elem (Jvm.Term.static "DrawingMachine" "KEPT_AT" "[I") (Jvm.Term.int (10 : Int32))) (Jvm.Term.int (190 : Int32))), (Jvm.Cond.eq (Jvm.Term.elem (Jvm.Term.static "DrawingMachine" "KEPT_AT" "[I") (Jvm.Term.int (11 : Int32))) (Jvm.Term.int (192 : Int32))), (Jvm.Cond.eq (Jvm.Term.elem (Jvm.Term.static "DrawingMachine" "KEPT_AT" "[I") (Jvm.Term.int (12 : Int32))) (Jvm.Term.int (206 : Int32)))]
theorem st_sk0 : ∀ w ∈ st_wk0, w ∈ flatC st_N := st_sub (ps := [588, 589, 590, 591, 592, 593, 594, 595, 596, 597, 598, 599, 600]) (by decide +kernel)
def st_wk13 : List Cond := [(Jvm.Cond.eq (Jvm.Term.elem (Jvm.Term.static "DrawingMachine" "KEPT_AT" "[I") (Jvm.Term.int (13 : Int32))) (Jvm.Term.int (212 : Int32))), (Jvm.Cond.eq (Jvm.Term.elem (Jvm.Term.static "DrawingMachine" "KEPT_AT" "[I") (Jvm.Term.int (14 : Int32))) (Jvm.Term.int (213 : Int32))), (Jvm.Cond.eq (Jvm.Term.elem (Jvm.Term.static "DrawingMachine" "KEPT_AT" "[I") (Jvm.Term.int (15 : Int32))) (Jvm.Term.int (214 : Int32))), (Jvm.Cond.eq (Jvm.Term.elem (Jvm.Term.static "DrawingMachine" "KEPT_AT" "[I") (Jvm.Term.int (16 : Int32))) (Jvm.Term.int (215 : Int32))), (Jvm.Cond.eq (Jvm.Term.elem (Jvm.Term.static "DrawingMachine" "KEPT_AT" "[I") (Jvm.Term.int (17 : Int32))) (Jvm.Term.int (-1 : Int32))), (Jvm.Cond.eq (Jvm.Term.elem (Jvm.Term.static "DrawingMachine" "KEPT_AT" "[I") (Jvm.Term.int (18 : Int32))) (Jvm.Term.int (-1 : Int32))), (Jvm.Cond.eq (Jvm.Term.elem (Jvm.Term.static "DrawingMachine" "KEPT_AT" "[I") (Jvm.Term.int (19 : Int32))) (Jvm.Term.int (-1 : Int32))), (Jvm.Cond.eq (Jvm.Term.elem (Jvm.Term.static "DrawingMachine" "KEPT_AT" "[I") (Jvm.Term.int (20 : Int32))) (Jvm.Term.int (-1 : Int32))), (Jvm.Cond.eq (Jvm.Term.elem (Jvm.Term.static "DrawingMachine" "KEPT_AT" "[I") (Jvm.Term.int (21 : Int32))) (Jvm.Term.int (-1 : Int32))), (Jvm.Cond.eq (Jvm.Term.elem (Jvm.Term.static "DrawingMachine" "KEPT_AT" "[I") (Jvm.Term.int (22 : Int32))) (Jvm.Term.int (-1 : Int32))), (Jvm.Cond.eq (Jvm.Term.elem (Jvm.Term.static "DrawingMachine" "KEPT_AT" "[I") (Jvm.Term.int (23 : Int32))) (Jvm.Term.int (-1 : Int32))), (Jvm.Cond.eq (Jvm.Term.elem (Jvm.Term.static "DrawingMachine" "KEPT_AT" "[I") (Jvm.Term.int (24 : Int32))) (Jvm.Term.int (217 : Int32))), (Jvm.Cond.eq (Jvm.Term.elem (Jvm.Term.static "DrawingMachine" "KEPT_AT" "[I") (Jvm.Term.int (25 : Int32))) (Jvm.Term.int (229 : Int32)))]
theorem st_sk13 : ∀ w ∈ st_wk13, w ∈ flatC st_N := st_sub (ps := [601, 602, 603, 604, 605, 606, 607, 608, 609, 610, 611, 612, 613]) (by decide +kernel)
def st_wa : List Cond := [(Jvm.Cond.arrayOf (Jvm.Term.static "DrawingMachine" "KEPT_AT" "[I") Jvm.ClassFile.FieldType.int), (Jvm.Cond.eq (Jvm.Term.length (Jvm.Term.static "DrawingMachine" "KEPT_AT" "[I")) (Jvm.Term.int (26 : Int32))), (Jvm.Cond.isRef (Jvm.Term.static "java/lang/Throwable" "UNASSIGNED_STACK" "[Ljava/lang/StackTraceElement;")), (Jvm.Cond.isRef (Jvm.Term.static "java/lang/Throwable" "SUPPRESSED_SENTINEL" "Ljava/util/List;")), (Jvm.Cond.not (Jvm.Cond.castable "java/lang/IndexOutOfBoundsException" "java/lang/IllegalArgumentException"))]
theorem st_sa : ∀ w ∈ st_wa, w ∈ flatC st_N := st_sub (ps := [586, 587, 4, 5, 665]) (by decide +kernel)
def st_ws9 : List Cond := [(Jvm.Cond.exactly (Jvm.Term.string "DrawingMachine" (76 : Nat)) "java/lang/String"), (Jvm.Cond.exactly (Jvm.Term.string "DrawingMachine" (87 : Nat)) "java/lang/String"), (Jvm.Cond.exactly (Jvm.Term.string "DrawingMachine" (106 : Nat)) "java/lang/String"), (Jvm.Cond.exactly (Jvm.Term.string "DrawingMachine" (117 : Nat)) "java/lang/String"), (Jvm.Cond.exactly (Jvm.Term.string "DrawingMachine" (167 : Nat)) "java/lang/String"), (Jvm.Cond.exactly (Jvm.Term.string "DrawingMachine" (169 : Nat)) "java/lang/String"), (Jvm.Cond.exactly (Jvm.Term.string "DrawingMachine" (177 : Nat)) "java/lang/String"), (Jvm.Cond.exactly (Jvm.Term.string "DrawingMachine" (183 : Nat)) "java/lang/String"), (Jvm.Cond.exactly (Jvm.Term.string "DrawingMachine" (185 : Nat)) "java/lang/String"), (Jvm.Cond.exactly (Jvm.Term.string "DrawingMachine" (190 : Nat)) "java/lang/String")]
theorem st_ss9 : ∀ w ∈ st_ws9, w ∈ flatC st_N := st_sub (ps := [742, 846, 897, 941, 990, 1031, 1072, 1102, 1145, 1177]) (by decide +kernel)
theorem st_k : ∀ j : Nat, j < 26 → Cond.eq (.elem (Term.static "DrawingMachine" "KEPT_AT" "[I") (.int (Int32.ofNat j))) (.int (st_kat j)) ∈ flatC st_N := by
  intro j hj
  rcases (show j = 0 ∨ j = 1 ∨ j = 2 ∨ j = 3 ∨ j = 4 ∨ j = 5 ∨ j = 6 ∨ j = 7 ∨ j = 8 ∨ j = 9 ∨ j = 10 ∨ j = 11 ∨ j = 12 ∨ j = 13 ∨ j = 14 ∨ j = 15 ∨ j = 16 ∨ j = 17 ∨ j = 18 ∨ j = 19 ∨ j = 20 ∨ j = 21 ∨ j = 22 ∨ j = 23 ∨ j = 24 ∨ j = 25 by omega) with rfl | rfl | rfl | rfl | rfl | rfl | rfl | rfl | rfl | rfl | rfl | rfl | rfl | rfl | rfl | rfl | rfl | rfl | rfl | rfl | rfl | rfl | rfl | rfl | rfl | rfl
  · exact st_sk0 _ (List.mem_of_getElem? (i := 0) rfl)
  · exact st_sk0 _ (List.mem_of_getElem? (i := 1) rfl)
  · exact st_sk0 _ (List.mem_of_getElem? (i := 2) rfl)
  · exact st_sk0 _ (List.mem_of_getElem? (i := 3) rfl)
  · exact st_sk0 _ (List.mem_of_getElem? (i := 4) rfl)
  · exact st_sk0 _ (List.mem_of_getElem? (i := 5) rfl)
  · exact st_sk0 _ (List.mem_of_getElem? (i := 6) rfl)
  · exact st_sk0 _ (List.mem_of_getElem? (i := 7) rfl)
  · exact st_sk0 _ (List.mem_of_getElem? (i := 8) rfl)
  · exact st_sk0 _ (List.mem_of_getElem? (i := 9) rfl)
  · exact st_sk0 _ (List.mem_of_getElem? (i := 10) rfl)
  · exact st_sk0 _ (List.mem_of_getElem? (i := 11) rfl)
  · exact st_sk0 _ (List.mem_of_getElem? (i := 12) rfl)
  · exact st_sk13 _ (List.mem_of_getElem? (i := 0) rfl)
  · exact st_sk13 _ (List.mem_of_getElem? (i := 1) rfl)
  · exact st_sk13 _ (List.mem_of_getElem? (i := 2) rfl)
  · exact st_sk13 _ (List.mem_of_getElem? (i := 3) rfl)
  · exact st_sk13 _ (List.mem_of_getElem? (i := 4) rfl)
  · exact st_sk13 _ (List.mem_of_getElem? (i := 5) rfl)
  · exact st_sk13 _ (List.mem_of_getElem? (i := 6) rfl)
  · exact st_sk13 _ (List.mem_of_getElem? (i := 7) rfl)
  · exact st_sk13 _ (List.mem_of_getElem? (i := 8) rfl)
  · exact st_sk13 _ (List.mem_of_getElem? (i := 9) rfl)
  · exact st_sk13 _ (List.mem_of_getElem? (i := 10) rfl)
  · exact st_sk13 _ (List.mem_of_getElem? (i := 11) rfl)
  · exact st_sk13 _ (List.mem_of_getElem? (i := 12) rfl)
theorem st_arr : Cond.arrayOf (Term.static "DrawingMachine" "KEPT_AT" "[I") .int ∈ flatC st_N := st_sa _ (List.mem_of_getElem? (i := 0) rfl)
theorem st_len : Cond.eq (.length (Term.static "DrawingMachine" "KEPT_AT" "[I")) (.int (Int32.ofNat 26)) ∈ flatC st_N := st_sa _ (List.mem_of_getElem? (i := 1) rfl)
theorem st_us : Cond.isRef (.static "java/lang/Throwable" "UNASSIGNED_STACK" "[Ljava/lang/StackTraceElement;") ∈ flatC st_N := st_sa _ (List.mem_of_getElem? (i := 2) rfl)
theorem st_ss : Cond.isRef (.static "java/lang/Throwable" "SUPPRESSED_SENTINEL" "Ljava/util/List;") ∈ flatC st_N := st_sa _ (List.mem_of_getElem? (i := 3) rfl)
theorem st_nc : Cond.not (.castable "java/lang/IndexOutOfBoundsException" "java/lang/IllegalArgumentException") ∈ flatC st_N := st_sa _ (List.mem_of_getElem? (i := 4) rfl)
theorem st_str : ∀ x ∈ tx_strs, Cond.exactly (.string "DrawingMachine" x.1) "java/lang/String" ∈ flatC st_N := List.forall_mem_cons.mpr ⟨st_ss9 _ (List.mem_of_getElem? (i := 0) rfl), List.forall_mem_cons.mpr ⟨st_ss9 _ (List.mem_of_getElem? (i := 1) rfl), List.forall_mem_cons.mpr ⟨st_ss9 _ (List.mem_of_getElem? (i := 2) rfl), List.forall_mem_cons.mpr ⟨st_ss9 _ (List.mem_of_getElem? (i := 3) rfl), List.forall_mem_cons.mpr ⟨st_ss9 _ (List.mem_of_getElem? (i := 4) rfl), List.forall_mem_cons.mpr ⟨st_ss9 _ (List.mem_of_getElem? (i := 5) rfl), List.forall_mem_cons.mpr ⟨st_ss9 _ (List.mem_of_getElem? (i := 6) rfl), List.forall_mem_cons.mpr ⟨st_ss9 _ (List.mem_of_getElem? (i := 7) rfl), List.forall_mem_cons.mpr ⟨st_ss9 _ (List.mem_of_getElem? (i := 8) rfl), List.forall_mem_cons.mpr ⟨st_ss9 _ (List.mem_of_getElem? (i := 9) rfl), fun _ h => absurd h List.not_mem_nil⟩⟩⟩⟩⟩⟩⟩⟩⟩⟩
theorem st_strt : ∀ x ∈ tx_strs, Cond.stringRef "DrawingMachine" x.1 x.2 ∈ lw_tbl := by
  have h : tx_strs.map (fun x => Cond.stringRef "DrawingMachine" x.1 x.2) = ([528, 848, 907, 916, 1383, 1391, 1392, 1400, 1408, 1416] : List Nat).filterMap (fun i => tables_1[i]?) := by decide +kernel
  intro x hx
  have h1 : Cond.stringRef "DrawingMachine" x.1 x.2 ∈ tx_strs.map (fun x => Cond.stringRef "DrawingMachine" x.1 x.2) := List.mem_map.mpr ⟨x, hx, rfl⟩
  rw [h] at h1
  obtain ⟨i, -, hi⟩ := List.mem_filterMap.mp h1
  exact List.mem_append_right _ (List.mem_of_getElem? hi)
theorem st_ls1 : Cond.laysStatic "DrawingMachine" "KEPT_AT" "[I" ∈ lw_tbl := List.mem_append_right _ (List.mem_of_getElem? (i := 1368) (by decide +kernel))
theorem st_ls2 : Cond.laysStatic "java/lang/Throwable" "UNASSIGNED_STACK" "[Ljava/lang/StackTraceElement;" ∈ lw_tbl := List.mem_append_right _ (List.mem_of_getElem? (i := 512) (by decide +kernel))
theorem st_ls3 : Cond.laysStatic "java/lang/Throwable" "SUPPRESSED_SENTINEL" "Ljava/util/List;" ∈ lw_tbl := List.mem_append_right _ (List.mem_of_getElem? (i := 514) (by decide +kernel))
theorem st_it : Cond.initialized "java/lang/Throwable" ∈ lw_tbl := List.mem_append_right _ (List.mem_of_getElem? (i := 21) (by decide +kernel))
theorem st_K {s : State} {args : Array Value} (htw : ∀ w ∈ tw, w.before args s = true) : ∃ (D : va_G) (cI cL : ClassId), va_K D classes (TY cI cL) s := by
  have h1 : ∀ q ∈ classes, ∃ (cC : ClassId) (iS : Nat → Nat), u_Kn s q.1 q.2.1 q.2.2 cC iS := List.forall_mem_cons.mpr ⟨u_known htw i_DM (htw _ k1), List.forall_mem_cons.mpr ⟨u_known htw i_Told (htw _ k12), List.forall_mem_cons.mpr ⟨u_known htw i_Pic (htw _ k15), List.forall_mem_cons.mpr ⟨u_known htw i_Cou (htw _ k24), List.forall_mem_cons.mpr ⟨u_known htw i_Chk (htw _ k41), List.forall_mem_cons.mpr ⟨u_known htw i_Drw (htw _ k50), List.forall_mem_cons.mpr ⟨u_known htw i_Pro (htw _ k61), List.forall_mem_cons.mpr ⟨u_known htw i_Tex (htw _ k72), List.forall_mem_cons.mpr ⟨u_known htw i_Ver (htw _ k80), List.forall_mem_cons.mpr ⟨u_known htw i_Sha (htw _ k84), List.forall_mem_cons.mpr ⟨u_known htw i_Cov (htw _ k94), List.forall_mem_cons.mpr ⟨u_known htw i_Prg (htw _ k111), List.forall_mem_cons.mpr ⟨u_known htw i_Mod (htw _ k117), List.forall_mem_cons.mpr ⟨u_known htw i_Cmd (htw _ k138), List.forall_mem_cons.mpr ⟨u_known htw i_Txm (htw _ k158), List.forall_mem_cons.mpr ⟨u_known htw i_Shm (htw _ k171), List.forall_mem_cons.mpr ⟨u_known htw i_Vwm (htw _ k191), List.forall_mem_cons.mpr ⟨u_known htw i_Erm (htw _ k206), List.forall_mem_cons.mpr ⟨u_known htw i_Ptm (htw _ k214), fun _ h => absurd h List.not_mem_nil⟩⟩⟩⟩⟩⟩⟩⟩⟩⟩⟩⟩⟩⟩⟩⟩⟩⟩⟩
  have h2 : ∀ c : Nat, ∃ y : ClassId × (Nat → Nat), ∀ q, classes[c]? = some q → u_Kn s q.1 q.2.1 q.2.2 y.1 y.2 := by
    intro c
    cases h : classes[c]? with
    | none => exact ⟨((0 : Nat), fun _ => 0), fun q hq => by cases hq⟩
    | some q =>
      obtain ⟨a, b, hab⟩ := h1 q (List.mem_of_getElem? h)
      exact ⟨(a, b), fun q' hq' => by cases hq'; exact hab⟩
  obtain ⟨f, hf⟩ := Classical.axiomOfChoice h2
  obtain ⟨cI, kI, cmI, i1, i2, i3⟩ := Cond.arrayClass_spec (htw _ k238)
  obtain ⟨cL, kL, cmL, l1, l2, l3⟩ := Cond.arrayClass_spec (htw _ k239)
  refine ⟨(fun c => (f c).1, fun c => (f c).2), cI, cL, fun c q hq => hf c q hq, fun k q hq => ?_⟩
  match k, hq with
  | 0, hq => cases hq; exact ⟨fun n z => ⟨fun k h => (by cases h), kI, i2, cmI, i3⟩, i1⟩
  | 1, hq => cases hq; exact ⟨fun n z => ⟨fun k h => (by cases h), kL, l2, cmL, l3⟩, l1⟩
  | k + 2, hq => simp at hq
theorem st_C {s : State} {args : Array Value} (hts : ∀ w ∈ lw_tbl, w.before args s = true) (hg : (Jvm.Cond.and given_1 narrow_1).before args s = true) : ∃ (D : va_G) (cI cL : ClassId), wC D cI cL s.heap.size (fun q => s.heap.size ≤ q) s := by
  have htw : ∀ w ∈ tw, w.before args s = true := fun w hw => hts w (tw_tbl w hw)
  obtain ⟨D, cI, cL, hK⟩ := st_K htw
  have hf := flat_of_before st_N hg
  have hA : ∀ a : Nat, a < s.heap.size → ¬ (s.heap.size ≤ a) := fun a h => Nat.not_le.mpr h
  obtain ⟨t, ht, hT⟩ := va_Tof (N := 26) (f := fun j => .int (st_kat j)) (A := fun q => s.heap.size ≤ q) (by decide) (hf _ st_arr) (va_eqt (hf _ st_len)) (fun j hj => va_eqt (hf _ (st_k j hj))) hA
  refine ⟨D, cI, cL, hK, ⟨fun w hw => va_tabs (nw_on w hw) rfl (hts w (nw_tbl w hw)), ?_⟩, ⟨wLs_of (hts _ st_ls2) (hf _ st_us) rfl, wLs_of (hts _ st_ls3) (hf _ st_ss) rfl, ⟨t, fun j => .int (st_kat j), va_Zof (hts _ st_ls1) (htw _ k0) ht hA, hT, rfl⟩, fun x hx => ?_, va_Nc.of (hf _ st_nc), va_tabs rfl rfl (hts _ st_it)⟩, fun q hq => hq, fun q hq => hq, Nat.le_refl _⟩
  · have h := hts _ ao_tbl
    simp only [Cond.before, Cond.holds, Cond.value] at h ⊢
    exact h
  · obtain ⟨a, c, cA, kA, q1, -⟩ := Cond.exactly_spec (args := args) (first := s) (o := none) (s := s) (idx := []) (hf _ (st_str x hx))
    exact ⟨a, vk_R.of (hts _ (st_strt x hx)) q1⟩
