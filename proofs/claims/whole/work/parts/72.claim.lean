/-! THE CLAIM OUT OF ONE WALK OF THE LAW'S BODY. Your part is whole_start (and what it stands on); all else here is the same for every law, but numbers. -/
def R_law : String := "DrawingMachineLaw"
def lw_P (b : Addr) (xs : List Int32) (args : Array Value) (s : State) : Prop := args = #[.ref b] ∧ s.IntsAt b xs ∧ xs.length ≤ 3072 ∧ (Jvm.Cond.and given_1 narrow_1).before args s = true
def lw_Q (_ : Array Value) (s : State) (o : Outcome) (t : State) : Prop := o = .returned (some (.int 1)) ∧ Framed s o t [] 622622 7228240
def lw_Z (below : List Frame) (a : Array Value) (s : State) : State → Prop := fun t => ∃ o, t.status = .running ∧ Ended t below o ∧ lw_Q a s o t
/-- the law's own end, with 1 on the stack, nothing written that was there before, its room as the claim has it -/
theorem lw_ret {p : Program} {l : Launch} {e : Env} {s : State} {m : MethodId} {below : List Frame} {meth : Method} {c : Code} {b : Nat} (hx : p.tables.exec = Jvm.exec) (hb : c.code = code) (hr : meth.sig.returnType = ret) (hlocks : meth.locks = false) {pc : Nat} {H : Heap} {ls : Array Slot} (hdg : decode code pc = .ok (.ireturn, 1)) : W p l e room_1 s m #[Value.ref b] below meth c H [] 622622 7228240 (lw_Z below #[Value.ref b] s) (F0 m pc ls [.int 1]) := by
  intro T hT X
  obtain ⟨fs, hret, hrun, hended, hW, hframe⟩ := X.leave (v := some (.int 1)) (hlocks := hlocks) (fun h => by rw [hr] at h; cases h)
  have hmeth' : T.vm.method? m = some meth := X.method'
  refine ⟨T.setFrames fs, ?_, .returned (some (.int 1)), hrun, hended, rfl, ⟨_, rfl⟩, hW, hframe⟩
  jvm_step X.here [X.here.top, hx, hb, hdg, hmeth', hr, ret, narrow_b1]
  (try refine ⟨rfl, ?_⟩); (try refine ⟨rfl, ?_⟩)
  first | (intro acts; rw [hret _ acts rfl rfl rfl]) | rw [hret _ _ rfl rfl rfl]
  exact Steps.refl _
/-- what holds at the law's entry: the machine, the code, the tables' words (any of lw_tbl by 'hts w (by decide +kernel)'), the script of L ints xs at the cell b, what the Statement gives of the start (any of its parts by flat_of_before) -/
def lw_At (p : Program) (s : State) (m : MethodId) (meth : Method) (c : Code) (b L : Nat) (xs : Nat → Int32) : Prop :=
  p.tables.exec = Jvm.exec ∧ c.code = code ∧ meth.sig.returnType = ret ∧ c.maxLocals = 7 ∧ s.vm.findClass R_law = some m.cls ∧ (∀ w ∈ lw_tbl, w.before #[Value.ref b] s = true) ∧ va_X b L xs s s.heap ∧ b < s.heap.size ∧ meth.locks = false ∧ (Jvm.Cond.and given_1 narrow_1).before #[Value.ref b] s = true
set_option maxHeartbeats 4000000 in
set_option maxRecDepth 100000 in
theorem whole_start {p : Program} {e : Env} {s : State} {m : MethodId} {below : List Frame} {meth : Method} {c : Code} (l : Launch) (hfl : l.stackTraces = false) {b L : Nat} {xs : Nat → Int32} (hL : L ≤ 3072) (C0 : lw_At p s m meth c b L xs) : W p l e room_1 s m #[Value.ref b] below meth c s.heap [] 0 0 (lw_Z below #[Value.ref b] s) (entryFrame m ([Value.ref b] : List Value).toArray 7) := by
  obtain ⟨hx0, hb0, hr0, hml, hown, hts, hX, hbl, hlk0, hg⟩ := C0
  have htw : ∀ w ∈ tw, w.before #[Value.ref b] s = true := fun w hw => hts w (tw_tbl w hw)
  obtain ⟨D, τ, hC⟩ := st_C hts hg
  have hbA : ¬ (s.heap.size ≤ b) := Nat.not_le.mpr hbl
  obtain ⟨B, hB⟩ : ∃ B, B = s.heap.size := ⟨_, rfl⟩
  obtain ⟨A, hA⟩ : ∃ A : Nat → Prop, A = fun q => s.heap.size ≤ q := ⟨_, rfl⟩
  have hAs : ∀ q, A q → s.heap.size ≤ q := fun q h => by rw [hA] at h; exact h
  have hC : wC D τ B A s := by rw [hB, hA]; exact hC
  have hbA : ¬ A b := by rw [hA]; exact hbA
  have E : Cx p room_1 s m #[Value.ref b] meth c code 7 "DrawingMachineLaw" 30 D τ B A := ⟨hx0, hb0, hml, hown, htw, hC, Nat.le_of_ble_eq_true rfl, Nat.le_of_ble_eq_true rfl, hlk0⟩
  have w : Wd s D A [] s.heap [] := ⟨fun k q hq => by simp at hq, ⟨fun i j p q hp => by simp at hp, fun k q hq => by simp at hq⟩, va_S.rf⟩
  have hl := lv_entry ([Value.ref b]) (n := 7) (Nat.le_of_ble_eq_true rfl)
  rw [lg_entry_eq]
  generalize (lg_sl ([Value.ref b]) ++ List.replicate (7 - (lg_sl ([Value.ref b])).length) Slot.unset).toArray = ls at hl ⊢
  have hl : lv_has ls 7 [(0, .ref b)] := hl
  refine va_new (ci := 0) (fs := [.null, .null, .null, .null, .null, .null, .null, .null, .null]) (C := R_DM) (T := F_DM) (N := 9) E.x E.b E.w i_DM t_DM t_DM_ok E.o (E.w _ k40) (E.w _ k41) (E.w _ k1) E.K w.1 w.2.1 w.2.2 E.C.2.2.2.1 rfl (fun j hj => by rcases (show j = 0 ∨ j = 1 ∨ j = 2 ∨ j = 3 ∨ j = 4 ∨ j = 5 ∨ j = 6 ∨ j = 7 ∨ j = 8 by omega) with rfl | rfl | rfl | rfl | rfl | rfl | rfl | rfl | rfl <;> rfl) (Nat.le_of_ble_eq_true rfl) (Nat.le_of_ble_eq_true rfl) d_law_0 (fun hx H hP hD hS => ?_)
  refine W.widen (k := 1) (n := 9) (by omega) (by omega) ?_
  have w : Wd s D A ([] ++ [(hx, .inr (0, [.null, .null, .null, .null, .null, .null, .null, .null, .null]))]) H [] := ⟨hP, hD, hS⟩
  refine lv_dup E.x E.b d_law_3 rfl ?_
  refine gr_v E.C w (va_runI (As := []) (rest := [.ref hx]) E.fix (c_DM_init l D τ B _ hx) (cwI 0 E.w (tw_good k44) rfl rfl rfl (E.w _ k1) (E.w _ k42) (E.w _ k43) rfl (by decide +kernel) ⟨Nat.le_of_ble_eq_true rfl, Nat.le_of_ble_eq_true rfl⟩) (psR E.C w [.ref hx]) rfl rfl hl.1 rfl (lv_room (Nat.le_of_ble_eq_true rfl)) d_law_4 ⟨Nat.le_of_ble_eq_true rfl, Nat.le_of_ble_eq_true rfl⟩) (fun u H locs _ w => ?_)
  refine W.widen (k := 70) (n := 7987) (by omega) (by omega) ?_
  obtain ⟨q84, q85, z88, q89, z92, z93, z94, q95, z98, z99, z100, q101, z104, z105, z106, q107, z110, z111, z112, z113, z114, z115, z116, z117, z118, z119, z120, z121, z122, z123, z124, z125, z126, z127, z128, z129, z130, z131, z132, z133, z134, z135, z136, z137, z138, z139, z140, q141, z144, q145, z148, q149, z152⟩ := u
  have w : Wd s D A ([] ++ wdC τ sC0 (adC0 hx q84 q85 z88 q89 z92 z93 z94 q95 z98 z99 z100 q101 z104 z105 z106 q107 z110 z111 z112 z113 z114 z115 z116 z117 z118 z119 z120 z121 z122 z123 z124 z125 z126 z127 z128 z129 z130 z131 z132 z133 z134 z135 z136 z137 z138 z139 z140 q141 z144 q145 z148 q149 z152)) H locs := init_C hx q84 q85 z88 q89 z92 z93 z94 q95 z98 z99 z100 q101 z104 z105 z106 q107 z110 z111 z112 z113 z114 z115 z116 z117 z118 z119 z120 z121 z122 z123 z124 z125 z126 z127 z128 z129 z130 z131 z132 z133 z134 z135 z136 z137 z138 z139 z140 q141 z144 q145 z148 q149 z152 w
  generalize hac : adC0 hx q84 q85 z88 q89 z92 z93 z94 q95 z98 z99 z100 q101 z104 z105 z106 q107 z110 z111 z112 z113 z114 z115 z116 z117 z118 z119 z120 z121 z122 z123 z124 z125 z126 z127 z128 z129 z130 z131 z132 z133 z134 z135 z136 z137 z138 z139 z140 q141 z144 q145 z148 q149 z152 = ac at w
  have hac0 : ac 56 = hx := by rw [← hac]; rfl
  rw [← hac0]
  refine lv_astore_n (lv' := [(1, .ref (ac 56)), (0, .ref b)]) E.x E.b d_law_7 rfl hl (by decide) rfl (fun ls hl => ?_)
  have w : Wd s D A (wdC τ sC0 ac) H locs := w
  refine va_new (ci := 12) (fs := [.int 0, .int 0, .int 0, .null, .null, .null, .null, .null, .null, .null, .int 0, .int 0, .int 0, .int 0, .long 0, .null, .null, .null, .null]) (C := R_Mod) (T := F_Mod) (N := 19) E.x E.b E.w i_Mod t_Mod t_Mod_ok E.o (E.w _ k1417) (E.w _ k1418) (E.w _ k14) E.K w.1 w.2.1 w.2.2 E.C.2.2.2.1 rfl (fun j hj => by rcases (show j = 0 ∨ j = 1 ∨ j = 2 ∨ j = 3 ∨ j = 4 ∨ j = 5 ∨ j = 6 ∨ j = 7 ∨ j = 8 ∨ j = 9 ∨ j = 10 ∨ j = 11 ∨ j = 12 ∨ j = 13 ∨ j = 14 ∨ j = 15 ∨ j = 16 ∨ j = 17 ∨ j = 18 by omega) with rfl | rfl | rfl | rfl | rfl | rfl | rfl | rfl | rfl | rfl | rfl | rfl | rfl | rfl | rfl | rfl | rfl | rfl | rfl <;> rfl) (Nat.le_of_ble_eq_true rfl) (Nat.le_of_ble_eq_true rfl) d_law_8 (fun hm H hP hD hS => ?_)
  refine W.widen (k := 71) (n := 8006) (by omega) (by omega) ?_
  have w : Wd s D A (wdC τ sC0 ac ++ [(hm, .inr (12, [.int 0, .int 0, .int 0, .null, .null, .null, .null, .null, .null, .null, .int 0, .int 0, .int 0, .int 0, .long 0, .null, .null, .null, .null]))]) H locs := ⟨hP, hD, hS⟩
  refine lv_dup E.x E.b d_law_11 rfl ?_
  refine gr_v E.C w (va_runI (As := []) (rest := [.ref hm]) E.fix (c_Mod_init l D τ B _ hm) (cwI 0 E.w (tw_good k1421) rfl rfl rfl (E.w _ k14) (E.w _ k1419) (E.w _ k1420) rfl (by decide +kernel) ⟨Nat.le_of_ble_eq_true rfl, Nat.le_of_ble_eq_true rfl⟩) (psR E.C w [.ref hm]) rfl rfl hl.1 rfl (lv_room (Nat.le_of_ble_eq_true rfl)) d_law_12 ⟨Nat.le_of_ble_eq_true rfl, Nat.le_of_ble_eq_true rfl⟩) (fun u H locs _ w => ?_)
  refine W.widen (k := 137) (n := 124624) (by omega) (by omega) ?_
  obtain ⟨q221, z224, z225, z226, z227, z228, q229, z232, z233, z234, z235, z236, z237, z238, z239, z240, z241, q242, z245, z246, z247, z248, z249, z250, z251, z252, z253, z254, q255, z258, z259, z260, z261, z262, z263, z264, z265, z266, z267, q268, z271, z272, z273, z274, z275, z276, z277, q278, z281, z282, z283, z284, z285, z286, q287, z290, z291, z292, z293, z294, z295, z296, z297, z298, z299, z300, q301, q302, q303, q304⟩ := u
  have w : Wd s D A (wdC τ sC0 ac ++ wdM τ (sM0 z241 z277 z286 z300) (adM0 hm q221 z224 z225 z226 z227 z228 q229 z232 z233 z234 z235 z236 z237 z238 z239 z240 q242 z245 z246 z247 z248 z249 z250 z251 z252 z253 z254 q255 z258 z259 z260 z261 z262 z263 z264 z265 z266 z267 q268 z271 z272 z273 z274 z275 z276 q278 z281 z282 z283 z284 z285 q287 z290 z291 z292 z293 z294 z295 z296 z297 z298 z299 q301 q302 q303 q304)) H locs := init_M hm q221 z224 z225 z226 z227 z228 q229 z232 z233 z234 z235 z236 z237 z238 z239 z240 q242 z245 z246 z247 z248 z249 z250 z251 z252 z253 z254 q255 z258 z259 z260 z261 z262 z263 z264 z265 z266 z267 q268 z271 z272 z273 z274 z275 z276 q278 z281 z282 z283 z284 z285 q287 z290 z291 z292 z293 z294 z295 z296 z297 z298 z299 q301 q302 q303 q304 z241 z277 z286 z300 w
  generalize ham : adM0 hm q221 z224 z225 z226 z227 z228 q229 z232 z233 z234 z235 z236 z237 z238 z239 z240 q242 z245 z246 z247 z248 z249 z250 z251 z252 z253 z254 q255 z258 z259 z260 z261 z262 z263 z264 z265 z266 z267 q268 z271 z272 z273 z274 z275 z276 q278 z281 z282 z283 z284 z285 q287 z290 z291 z292 z293 z294 z295 z296 z297 z298 z299 q301 q302 q303 q304 = am at w
  have ham0 : am 59 = hm := by rw [← ham]; rfl
  rw [← ham0]
  refine lv_astore_n (lv' := [(2, .ref (am 59)), (1, .ref (ac 56)), (0, .ref b)]) E.x E.b d_law_15 rfl hl (by decide) rfl (fun ls hl => ?_)
  refine lv_iconst (v := 1) E.x E.b d_law_16 (by decide) ?_
  refine wna_l E.x E.b (E.w _ k198) E.C w.1 w.2.1 w.2.2 (N := 1) (by decide) (by omega) (Nat.le_of_ble_eq_true rfl) (Nat.le_of_ble_eq_true rfl) d_law_17 (fun ou H hP hD hS => ?_)
  have w : Wd s D A ((wdC τ sC0 ac ++ wdM τ (sM0 z241 z277 z286 z300) am) ++ [oc τ ou (fun _ => 0)]) H locs := ⟨hP, hD, hS⟩
  have w := w.swap
  rw [← List.append_assoc] at w
  have w := w.swap
  refine lv_astore_n (lv' := [(3, .ref ou), (2, .ref (am 59)), (1, .ref (ac 56)), (0, .ref b)]) E.x E.b d_law_19 rfl hl (by decide) rfl (fun ls hl => ?_)
  refine lv_iconst (v := 0) E.x E.b d_law_20 (by decide) ?_
  refine lv_istore (lv' := [(4, .int 0), (3, .ref ou), (2, .ref (am 59)), (1, .ref (ac 56)), (0, .ref b)]) E.x E.b d_law_21 hl (by decide) rfl (fun ls hl => ?_)
  have hI := init_I z241 z277 z286 z300
  refine W.widen (k := 200 + 3 * 0) (n := 130000 + 6 * 0 + Pot sC0) (by omega) (by omega) ?_
  refine law_loop l hfl am ou E hX hbl hbA hL ?_ 512 0 sC0 _ ac (fun _ => 0) _ _ _ (by omega) (by omega) hI w (lv_sub hl [4, 3, 2, 1, 0] rfl)
  intro cells slots H locs ls h1 h2 hS
  refine lv_iconst (v := 1) E.x E.b d_law_853 (by decide) ?_
  refine va_forget (fun q hq => hAs _ (hS.2.2 q hq)) ?_
  refine W.widen (k := 622622) (n := 7228240) h1 h2 ?_
  exact lw_ret hx0 hb0 hr0 hlk0 d_law_854
set_option maxHeartbeats 4000000 in
theorem lw_walk (l : Launch) (hfl : l.stackTraces = false) (b : Addr) (xs : List Int32) : MetFree l x (headSpec (Jvm.Cond.code x code maxLocals ret :: tables_1) room_1) (lw_P b xs) (fun _ _ _ _ _ => True) lw_Q := by
  refine MetFree.of_bodyS (code := code) (maxLocals := maxLocals) (ret := ret) (by decide) ?_ ?_
  · intro args s m h hn
    obtain ⟨meth, c, h1, h2, h3, h4, h5, h6, -, -⟩ := Cond.code_spec hn (atoms_spec (ws := Jvm.Cond.code x code maxLocals ret :: tables_1) h _ List.mem_cons_self)
    exact ⟨meth, c, h1, h2, h3, h4, h5, h6⟩
  · intro p e s m args below meth c s₁ B hml0 hP _
    obtain ⟨rfl, hx, hbd, hgv⟩ := hP
    obtain ⟨scr, harrAt, hlist, hof, hsmall⟩ := hx
    obtain ⟨hcb, hkn, -, -⟩ := State.arrayAt?_spec harrAt
    have hown : s.vm.findClass R_law = some m.cls := findClass_of_methodNamed B.named
    have hts0 : ∀ c ∈ (Jvm.Cond.code x code maxLocals ret :: tables_1), c.before #[Value.ref b] s = true := atoms_spec (ws := Jvm.Cond.code x code maxLocals ret :: tables_1) B.pre
    have hts : ∀ w ∈ lw_tbl, w.before #[Value.ref b] s = true := k2_hts_sels lw_privs (fun w hw => hts0 w (List.mem_cons_of_mem _ hw)) lw_privs_ok
    have hml : c.maxLocals = 7 := B.maxLocals_eq (hts0 _ List.mem_cons_self)
    have X₀ : Stand p l e room_1 s m #[Value.ref b] below meth c s₁ [] 0 0 := Stand.of_body B
    have hh0 : s₁.heap = s.heap := by rw [B.state]; rfl
    have hsz : scr.slots.size = xs.length := by rw [← Array.length_toList, hlist, List.length_map]
    have hval : ∀ j : Nat, j < xs.length → scr.slots[j]? = some (.int (xs.getD j 0)) := fun j hj => by
      rw [← Array.getElem?_toList, hlist]
      simp [hj]
    have hbl : b < s.heap.size := (Array.getElem?_eq_some_iff.mp hcb).1
    have hX : va_X b xs.length (fun j => xs.getD j 0) s s.heap := ⟨scr, hcb, hof, hkn, hsz, hval⟩
    have K : W p l e room_1 s m #[Value.ref b] below meth c s₁.heap [] 0 0 (lw_Z below #[Value.ref b] s) (entryFrame m ([Value.ref b] : List Value).toArray 7) := by
      rw [hh0]
      exact whole_start l hfl hbd ⟨B.exec, B.bytes, B.returns, hml, hown, hts, hX, hbl, B.notSynchronized, hgv⟩
    obtain ⟨t, a1, o, b1, b2, b3⟩ := K s₁ rfl X₀
    exact ⟨t, o, a1, b1, b2, b3⟩
theorem lw_pre_spec {args : Array Value} {s : State} (h : (Jvm.Cond.and given_1 narrow_1).before args s = true) (hr : rest_1_c.before args s = true) : ∃ (b : Addr) (xs : List Int32), lw_P b xs args s := by
  have hs := flat_of_before _ h
  have hq := flat_of_before _ hr
  have hc : (Cond.count 1).before args s = true := hs _ (by decide +kernel)
  have harr : (Cond.arrayOf (.arg 0) .int).before args s = true := hs _ (by decide +kernel)
  have hle : (Cond.le (.length (.arg 0)) (.int 3072)).before args s = true := hs _ (by decide +kernel)
  have hlen : (Cond.isInt (.length (.arg 0))).before args s = true := hq _ (by decide +kernel)
  have hall : (Cond.all (.arg 0) (.isInt (.elem (.arg 0) (.index 0)))).before args s = true := hq _ (by decide +kernel)
  obtain ⟨b, xs, hb, hx⟩ := State.ints_of_pre rfl harr hlen hall
  have hsm : xs.length < 2 ^ 31 := hx.choose_spec.2.2.2
  have hev : (Term.length (.arg 0)).eval args s none [] s = some (.int xs.length.toInt32) := hx.length_eval hb
  have hv := Cond.le_ints hev (show (Term.int 3072).eval args s none [] s = some (.int 3072) from rfl)
  have hd : xs.length.toInt32 ≤ 3072 := by
    simpa [Cond.before, Cond.holds, hv] using hle
  have hN : xs.length ≤ 3072 := (Int32.ofNat_le_ofNat hsm (by decide)).mp (show Int32.ofNat xs.length ≤ Int32.ofNat 3072 from hd)
  exact ⟨b, xs, Cond.one_arg hc (show args[0]? = some (.ref b) from hb), hx, hN, h⟩
theorem lw_comes (l : Launch) (hfl : l.stackTraces = false) : Comes l x (Jvm.Cond.code x code maxLocals ret :: tables_1) room_1 (fun tb e args s => Calls_1 tb e args s ∧ rest_1 tb e args s ∧ Pre_1 tb e args s)
    (fun _ _ args s o t => lw_Q args s o t) := by
  intro p e ha hc hk s m args below hf hfit hheap happ hpre
  obtain ⟨b, xs, hP⟩ := lw_pre_spec hpre.2.2 hpre.2.1
  obtain ⟨k, o, h1, h2, h3, hQ⟩ := lw_walk l hfl b xs p e ha hc hk s m args below hf ((Spec.applies_iff_loose hf).mp happ).1 hP trivial
  exact ⟨k, o, h1, h2, h3, hQ⟩
theorem lw_frame {s t : State} {o : Outcome} {args : Array Value} (h : Framed s o t [] 622622 7228240) :
    Framed s o t (fieldLocs frame_1_writes args s ++ arrayLocs frame_1_arrays args s ++ staticLocs frame_1_statics s) 622622 7228240 := h
theorem lw_limb (L : Cond) (hL : ∀ (args : Array Value) (s t : State), L.after args s (.returned (some (.int 1))) t = true) :
    ArmFor flags0 classFile x code maxLocals ret World_1 tables_1 room_1 Calls_1 rest_1 Pre_1
      (fun tb e a s o t => postC L tb e a s o t ∧ Framed s o t (fieldLocs frame_1_writes a s ++ arrayLocs frame_1_arrays a s ++ staticLocs frame_1_statics s) 622622 7228240) := by
  intro l hfg _ _ p e ha hc hk s m args below hf hfit hheap happ hpre
  obtain ⟨k, o, h1, h2, h3, rfl, hF⟩ := lw_comes l (by rw [Launch.stackTraces, hfg]; decide) p e ha hc hk s m args below hf hfit hheap happ hpre
  exact ⟨k, _, h1, h2, h3, hL args s _, lw_frame hF⟩
theorem i_vc : Claimed_1_1 ∧ Claimed_1_2 := ⟨lw_limb limb_1_1 (fun args s t => by simp [limb_1_1, Cond.after, Cond.holds, Cond.value]), lw_limb limb_1_2 (fun args s t => Cond.after_iff.mpr (by
  first | (rw [show limb_1_2 = Cond.eq .result (.int 1) from rfl, Cond.eq_ints (x := 1) (y := 1) rfl rfl]; simp; done) | (simp [limb_1_2, Cond.value, Term.eval]; done)))⟩
