theorem Inv.pot {σ φ : Sg} (I : Inv σ φ) : Pot σ ≤ 159744 := by
  obtain ⟨-, w, h, sz, a⟩ := I
  have h1 := Phi_le 16384 (σ.2.2.2.2 0) a.1.pic.cap2
  have h2 := Phi_le 4096 (σ.2.2.2.2 1) a.2.n4
  unfold Pot
  omega
set_option maxRecDepth 100000 in
set_option maxHeartbeats 4000000 in
theorem lc_frame {p : Program} {e : Env} {s : State} {m : MethodId} {below : List Frame} {meth : Method} {c : Code} (l : Launch) (hfl : l.stackTraces = false) {D : va_G} {τ : ClassId × ClassId × ClassId} {B : Nat} {A : Nat → Prop} {b L : Nat} {xs : Nat → Int32} {Q : State → Prop} (j : Nat) (σ φ : Sg) (ad am : Nat → Nat) (f : Nat → Int64) (ou : Nat) {H : Heap} {locs : List Loc} {ls : Array Slot} (E : Cx p room_1 s m #[.ref b] meth c code 7 "DrawingMachineLaw" 30 D τ B A) (hX : va_X b L xs s s.heap) (hbl : b < s.heap.size) (hbA : ¬ A b) (hL : L ≤ 3072) (hj : 6 * j + 6 ≤ L) (I : Inv σ φ) (w : Wd s D A (wdM τ φ am ++ ([oc τ ou f] ++ wdC τ σ ad)) H locs) (hl : lv_has ls 7 [(0, .ref b), (1, .ref (ad 56)), (2, .ref (am 59)), (3, .ref ou), (4, .int (nI (6 * j)))])
    (K : ∀ (σ φ : Sg) (ad : Nat → Nat) (f : Nat → Int64) (H : Heap) (locs : List Loc) (ls : Array Slot), Inv σ φ → Wd s D A (wdM τ φ am ++ ([oc τ ou f] ++ wdC τ σ ad)) H locs → lv_has ls 7 [(0, .ref b), (1, .ref (ad 56)), (2, .ref (am 59)), (3, .ref ou), (4, .int (nI (6 * j)))] → W p l e room_1 s m #[.ref b] below meth c H locs (200 + 3 * (j + 1)) (130000 + 6 * (j + 1) + Pot σ) Q (F0 m 847 ls [])) : W p l e room_1 s m #[.ref b] below meth c H locs (200 + 3 * j) (130000 + 6 * j + Pot σ) Q (F0 m 104 ls []) := by
  obtain ⟨S, g, kk, bb, σ', φ', f', mc, ms, hM, hg, hG, hI, h0, hb0, hmc, hms⟩ := op_frame l D τ B σ φ ad f ou hfl I (xs (6 * j + 1)) (xs (6 * j + 2)) (xs (6 * j + 3))
  have hp1 := I.pot
  have hp2 := hI.pot
  refine lv_aload_n E.x E.b d_law_104 rfl (lv_at hl 1 rfl) ?_
  refine lv_aload_n E.x E.b d_law_105 rfl (lv_at hl 0 rfl) ?_
  refine lv_iload E.x E.b d_law_106 (lv_at hl 4 rfl) ?_
  refine lv_iconst (v := 1) E.x E.b d_law_108 (by decide) ?_
  refine lv_iadd E.x E.b d_law_109 ?_
  refine wi_c (v := nI (6 * j + 1)) (n_add (6 * j) 1) ?_
  refine va_sld E.1 E.2.1 hX hbl hbA w.2.2 (vp_in_iff.mpr (n_inb (6 * j + 1) L (by omega) (by omega))) d_law_110 ?_
  refine wi_c (v := xs (6 * j + 1)) (congrArg xs (n_nat (6 * j + 1) (by omega))) ?_
  refine lv_aload_n E.x E.b d_law_111 rfl (lv_at hl 0 rfl) ?_
  refine lv_iload E.x E.b d_law_112 (lv_at hl 4 rfl) ?_
  refine lv_iconst (v := 2) E.x E.b d_law_114 (by decide) ?_
  refine lv_iadd E.x E.b d_law_115 ?_
  refine wi_c (v := nI (6 * j + 2)) (n_add (6 * j) 2) ?_
  refine va_sld E.1 E.2.1 hX hbl hbA w.2.2 (vp_in_iff.mpr (n_inb (6 * j + 2) L (by omega) (by omega))) d_law_116 ?_
  refine wi_c (v := xs (6 * j + 2)) (congrArg xs (n_nat (6 * j + 2) (by omega))) ?_
  refine lv_aload_n E.x E.b d_law_117 rfl (lv_at hl 0 rfl) ?_
  refine lv_iload E.x E.b d_law_118 (lv_at hl 4 rfl) ?_
  refine lv_iconst (v := 3) E.x E.b d_law_120 (by decide) ?_
  refine lv_iadd E.x E.b d_law_121 ?_
  refine wi_c (v := nI (6 * j + 3)) (n_add (6 * j) 3) ?_
  refine va_sld E.1 E.2.1 hX hbl hbA w.2.2 (vp_in_iff.mpr (n_inb (6 * j + 3) L (by omega) (by omega))) d_law_122 ?_
  refine wi_c (v := xs (6 * j + 3)) (congrArg xs (n_nat (6 * j + 3) (by omega))) ?_
  refine lv_aload_n E.x E.b d_law_123 rfl (lv_at hl 3 rfl) ?_
  refine gr_i E.C w (tq_runSW (n := 5) (hh := [(0, 12, 15, 13)]) (As := [.ref (ad 56), .int (xs (6 * j + 1)), .int (xs (6 * j + 2)), .int (xs (6 * j + 3)), .ref ou]) (rest := []) E.fix (hM _) E.w (tw_goodW k473) rfl rfl rfl ⟨Nat.le_of_ble_eq_true rfl, Nat.le_of_ble_eq_true rfl⟩ (E.w _ k0) (by decide +kernel) (E.w _ k471) (E.w _ k472) (psR E.C w [.ref (ad 56), .int (xs (6 * j + 1)), .int (xs (6 * j + 2)), .int (xs (6 * j + 3)), .ref ou]) rfl rfl hl.1 rfl (lv_room (Nat.le_of_ble_eq_true rfl)) d_law_124 ⟨show 200 + 3 * j + mc ≤ 622622 by omega, show 130000 + 6 * j + Pot σ + ms ≤ 7228240 by omega⟩) (fun r u H locs hr w => ?_)
  have hr : r = kk := hr
  rw [hr]
  refine W.widen (k := 200 + 3 * (j + 1)) (n := 130000 + 6 * (j + 1) + Pot σ') (by omega) (by omega) ?_
  have w : Wd s D A (wdM τ φ am ++ ([oc τ ou f'] ++ wdC τ σ' (g u))) H locs := w
  have hl : lv_has ls 7 [(0, .ref b), (1, .ref (g u 56)), (2, .ref (am 59)), (3, .ref ou), (4, .int (nI (6 * j)))] := by rw [hg u]; exact hl
  refine lv_istore (lv' := [(5, .int kk), (0, .ref b), (1, .ref (g u 56)), (2, .ref (am 59)), (3, .ref ou), (4, .int (nI (6 * j)))]) E.x E.b d_law_127 hl (by decide) rfl (fun ls hl => ?_)
  refine lv_aload_n E.x E.b d_law_129 rfl (lv_at hl 3 rfl) ?_
  refine lv_aload_n E.x E.b d_law_130 rfl (lv_at hl 1 rfl) ?_
  refine lv_iload E.x E.b d_law_131 (lv_at hl 5 rfl) ?_
  refine lv_iconst (v := 1) E.x E.b d_law_133 (by decide) ?_
  refine lv_iadd E.x E.b d_law_134 ?_
  refine wi_c (v := nI (6 * j + 1)) (n_add (6 * j) 1) ?_
  refine va_sld E.1 E.2.1 hX hbl hbA w.2.2 (vp_in_iff.mpr (n_inb (6 * j + 1) L (by omega) (by omega))) d_law_135 ?_
  refine wi_c (v := xs (6 * j + 1)) (congrArg xs (n_nat (6 * j + 1) (by omega))) ?_
  refine lv_aload_n E.x E.b d_law_136 rfl (lv_at hl 1 rfl) ?_
  refine lv_iload E.x E.b d_law_137 (lv_at hl 5 rfl) ?_
  refine lv_iconst (v := 2) E.x E.b d_law_139 (by decide) ?_
  refine lv_iadd E.x E.b d_law_140 ?_
  refine wi_c (v := nI (6 * j + 2)) (n_add (6 * j) 2) ?_
  refine va_sld E.1 E.2.1 hX hbl hbA w.2.2 (vp_in_iff.mpr (n_inb (6 * j + 2) L (by omega) (by omega))) d_law_141 ?_
  refine wi_c (v := xs (6 * j + 2)) (congrArg xs (n_nat (6 * j + 2) (by omega))) ?_
  refine lv_aload_n E.x E.b d_law_142 rfl (lv_at hl 1 rfl) ?_
  refine lv_iload E.x E.b d_law_143 (lv_at hl 5 rfl) ?_
  refine lv_iconst (v := 3) E.x E.b d_law_145 (by decide) ?_
  refine lv_iadd E.x E.b d_law_146 ?_
  refine wi_c (v := nI (6 * j + 3)) (n_add (6 * j) 3) ?_
  refine va_sld E.1 E.2.1 hX hbl hbA w.2.2 (vp_in_iff.mpr (n_inb (6 * j + 3) L (by omega) (by omega))) d_law_147 ?_
  refine wi_c (v := xs (6 * j + 3)) (congrArg xs (n_nat (6 * j + 3) (by omega))) ?_
  refine gl_i E.C w (va_runV (As := [.int (xs (6 * j + 1)), .int (xs (6 * j + 2)), .int (xs (6 * j + 3))]) (rest := []) E.fix (c_Mod_frame l D τ B φ am (xs (6 * j + 1)) (xs (6 * j + 2)) (xs (6 * j + 3)) (φ', bb) hG _) (cwV 3 E.w (tw_pre (tw_good k1830) (l := [_, _, _, _]) (List.forall_mem_cons.mpr ⟨k1827, List.forall_mem_cons.mpr ⟨k1828, List.forall_mem_cons.mpr ⟨k1829, List.forall_mem_cons.mpr ⟨k14, fun _ h => absurd h List.not_mem_nil⟩⟩⟩⟩)) rfl rfl rfl (by decide +kernel) (E.rm (by decide) (by decide))) (pvL E.C w [.int (xs (6 * j + 1)), .int (xs (6 * j + 2)), .int (xs (6 * j + 3))] (q0 := 59) rfl rfl) rfl rfl hl.1 rfl (lv_room (Nat.le_of_ble_eq_true rfl)) d_law_148 ⟨show 200 + 3 * (j + 1) + 0 ≤ 622622 by omega, show 130000 + 6 * (j + 1) + Pot σ' + 0 ≤ 7228240 by omega⟩) (fun r u9 H locs hr w => ?_)
  refine W.widen (k := 200 + 3 * (j + 1)) (n := 130000 + 6 * (j + 1) + Pot σ') (by omega) (by omega) ?_
  have hr : r = bb := hr
  rw [hr]
  have w : Wd s D A (wdM τ φ' am ++ ([oc τ ou f'] ++ wdC τ σ' (g u))) H locs := w
  refine lv_istore (lv' := [(6, .int bb), (5, .int kk), (0, .ref b), (1, .ref (g u 56)), (2, .ref (am 59)), (3, .ref ou), (4, .int (nI (6 * j)))]) E.x E.b d_law_151 hl (by decide) rfl (fun ls hl => ?_)
  refine lv_aload_n E.x E.b d_law_153 rfl (lv_at hl 4 rfl) ?_
  refine gl_i E.C w (va_runV (As := []) (rest := []) E.fix (c_Mod_thrown l D τ B φ' am (φ'.1 0) rfl _) (cwV 0 E.w (tw_pre (tw_good k1826) (l := [_, _, _, _]) (List.forall_mem_cons.mpr ⟨k1823, List.forall_mem_cons.mpr ⟨k1824, List.forall_mem_cons.mpr ⟨k1825, List.forall_mem_cons.mpr ⟨k14, fun _ h => absurd h List.not_mem_nil⟩⟩⟩⟩)) rfl rfl rfl (by decide +kernel) (E.rm (by decide) (by decide))) (pvL E.C w [] (q0 := 59) rfl rfl) rfl rfl hl.1 rfl (lv_room (Nat.le_of_ble_eq_true rfl)) d_law_154 ⟨show 200 + 3 * (j + 1) + 0 ≤ 622622 by omega, show 130000 + 6 * (j + 1) + Pot σ' + 0 ≤ 7228240 by omega⟩) (fun r u9 H locs hr w => ?_)
  refine W.widen (k := 200 + 3 * (j + 1)) (n := 130000 + 6 * (j + 1) + Pot σ') (by omega) (by omega) ?_
  have hr : r = φ'.1 0 := hr
  rw [hr, h0]
  have w : Wd s D A (wdM τ φ' am ++ ([oc τ ou f'] ++ wdC τ σ' (g u))) H locs := w
  refine lv_iload E.x E.b d_law_157 (lv_at hl 1 rfl) ?_
  refine lv_icmp_eq (tgt := 164) E.x E.b d_law_159 (by decide) (fun c9 => ?_) (fun c9 => absurd rfl c9)
  refine lv_iload E.x E.b d_law_164 (lv_at hl 1 rfl) ?_
  refine lv_if_ne (tgt := 181) E.x E.b d_law_166 (by decide) (fun c9 => ?_) (fun c9 => ?_)
  · refine lv_goto (tgt := 847) E.x E.b d_law_181 (by decide) ?_
    exact K σ' φ' (g u) f' _ _ _ hI w (lv_sub hl [2, 3, 4, 5, 6] rfl)
  refine lv_aload_n E.x E.b d_law_169 rfl (lv_at hl 5 rfl) ?_
  refine lv_iconst (v := 0) E.x E.b d_law_170 (by decide) ?_
  refine va_lald E.1 E.2.1 E.K w.1 67 1 rfl rfl (vp_in_iff.mpr (by decide)) d_law_171 ?_
  refine wl_c (v := bb.toInt64) (hb0 c9) ?_
  refine lv_iload E.x E.b d_law_172 (lv_at hl 0 rfl) ?_
  refine lv_i2l (v := bb.toInt64) E.x E.b d_law_174 rfl ?_
  refine W.lcmp E.x E.b d_law_175 ?_
  refine wi_c (v := 0) (lgc_eq.mpr rfl) ?_
  refine lv_if_eq (tgt := 181) E.x E.b d_law_176 (by decide) (fun c8 => ?_) (fun c8 => absurd rfl c8)
  refine lv_goto (tgt := 847) E.x E.b d_law_181 (by decide) ?_
  exact K σ' φ' (g u) f' _ _ _ hI w (lv_sub hl [2, 3, 4, 5, 6] rfl)
set_option maxRecDepth 100000 in
set_option maxHeartbeats 4000000 in
theorem lc_word {p : Program} {e : Env} {s : State} {m : MethodId} {below : List Frame} {meth : Method} {c : Code} (l : Launch) (hfl : l.stackTraces = false) {D : va_G} {τ : ClassId × ClassId × ClassId} {B : Nat} {A : Nat → Prop} {b L : Nat} {xs : Nat → Int32} {Q : State → Prop} (j : Nat) (σ φ : Sg) (ad am : Nat → Nat) (f : Nat → Int64) (ou : Nat) {H : Heap} {locs : List Loc} {ls : Array Slot} (E : Cx p room_1 s m #[.ref b] meth c code 7 "DrawingMachineLaw" 30 D τ B A) (hX : va_X b L xs s s.heap) (hbl : b < s.heap.size) (hbA : ¬ A b) (hL : L ≤ 3072) (hj : 6 * j + 6 ≤ L) (I : Inv σ φ) (w : Wd s D A (wdM τ φ am ++ ([oc τ ou f] ++ wdC τ σ ad)) H locs) (hl : lv_has ls 7 [(0, .ref b), (1, .ref (ad 56)), (2, .ref (am 59)), (3, .ref ou), (4, .int (nI (6 * j)))])
    (K : ∀ (σ φ : Sg) (ad : Nat → Nat) (f : Nat → Int64) (H : Heap) (locs : List Loc) (ls : Array Slot), Inv σ φ → Wd s D A (wdM τ φ am ++ ([oc τ ou f] ++ wdC τ σ ad)) H locs → lv_has ls 7 [(0, .ref b), (1, .ref (ad 56)), (2, .ref (am 59)), (3, .ref ou), (4, .int (nI (6 * j)))] → W p l e room_1 s m #[.ref b] below meth c H locs (200 + 3 * (j + 1)) (130000 + 6 * (j + 1) + Pot σ) Q (F0 m 847 ls [])) : W p l e room_1 s m #[.ref b] below meth c H locs (200 + 3 * j) (130000 + 6 * j + Pot σ) Q (F0 m 184 ls []) := by
  obtain ⟨S, g, kk, bb, σ', φ', f', mc, ms, hM, hg, hG, hI, h0, hb0, hmc, hms⟩ := op_word l D τ B σ φ ad f ou hfl I (xs (6 * j + 1)) (xs (6 * j + 2))
  have hp1 := I.pot
  have hp2 := hI.pot
  refine lv_aload_n E.x E.b d_law_184 rfl (lv_at hl 1 rfl) ?_
  refine lv_aload_n E.x E.b d_law_185 rfl (lv_at hl 0 rfl) ?_
  refine lv_iload E.x E.b d_law_186 (lv_at hl 4 rfl) ?_
  refine lv_iconst (v := 1) E.x E.b d_law_188 (by decide) ?_
  refine lv_iadd E.x E.b d_law_189 ?_
  refine wi_c (v := nI (6 * j + 1)) (n_add (6 * j) 1) ?_
  refine va_sld E.1 E.2.1 hX hbl hbA w.2.2 (vp_in_iff.mpr (n_inb (6 * j + 1) L (by omega) (by omega))) d_law_190 ?_
  refine wi_c (v := xs (6 * j + 1)) (congrArg xs (n_nat (6 * j + 1) (by omega))) ?_
  refine lv_aload_n E.x E.b d_law_191 rfl (lv_at hl 0 rfl) ?_
  refine lv_iload E.x E.b d_law_192 (lv_at hl 4 rfl) ?_
  refine lv_iconst (v := 2) E.x E.b d_law_194 (by decide) ?_
  refine lv_iadd E.x E.b d_law_195 ?_
  refine wi_c (v := nI (6 * j + 2)) (n_add (6 * j) 2) ?_
  refine va_sld E.1 E.2.1 hX hbl hbA w.2.2 (vp_in_iff.mpr (n_inb (6 * j + 2) L (by omega) (by omega))) d_law_196 ?_
  refine wi_c (v := xs (6 * j + 2)) (congrArg xs (n_nat (6 * j + 2) (by omega))) ?_
  refine lv_aload_n E.x E.b d_law_197 rfl (lv_at hl 3 rfl) ?_
  refine gr_i E.C w (tq_runSW (n := 4) (hh := [(0, 10, 13, 19)]) (As := [.ref (ad 56), .int (xs (6 * j + 1)), .int (xs (6 * j + 2)), .ref ou]) (rest := []) E.fix (hM _) E.w (tw_goodW k833) rfl rfl rfl ⟨Nat.le_of_ble_eq_true rfl, Nat.le_of_ble_eq_true rfl⟩ (E.w _ k0) (by decide +kernel) (E.w _ k831) (E.w _ k832) (psR E.C w [.ref (ad 56), .int (xs (6 * j + 1)), .int (xs (6 * j + 2)), .ref ou]) rfl rfl hl.1 rfl (lv_room (Nat.le_of_ble_eq_true rfl)) d_law_198 ⟨show 200 + 3 * j + mc ≤ 622622 by omega, show 130000 + 6 * j + Pot σ + ms ≤ 7228240 by omega⟩) (fun r u H locs hr w => ?_)
  have hr : r = kk := hr
  rw [hr]
  refine W.widen (k := 200 + 3 * (j + 1)) (n := 130000 + 6 * (j + 1) + Pot σ') (by omega) (by omega) ?_
  have w : Wd s D A (wdM τ φ am ++ ([oc τ ou f'] ++ wdC τ σ' (g u))) H locs := w
  have hl : lv_has ls 7 [(0, .ref b), (1, .ref (g u 56)), (2, .ref (am 59)), (3, .ref ou), (4, .int (nI (6 * j)))] := by rw [hg u]; exact hl
  refine lv_istore (lv' := [(5, .int kk), (0, .ref b), (1, .ref (g u 56)), (2, .ref (am 59)), (3, .ref ou), (4, .int (nI (6 * j)))]) E.x E.b d_law_201 hl (by decide) rfl (fun ls hl => ?_)
  refine lv_aload_n E.x E.b d_law_203 rfl (lv_at hl 3 rfl) ?_
  refine lv_aload_n E.x E.b d_law_204 rfl (lv_at hl 1 rfl) ?_
  refine lv_iload E.x E.b d_law_205 (lv_at hl 5 rfl) ?_
  refine lv_iconst (v := 1) E.x E.b d_law_207 (by decide) ?_
  refine lv_iadd E.x E.b d_law_208 ?_
  refine wi_c (v := nI (6 * j + 1)) (n_add (6 * j) 1) ?_
  refine va_sld E.1 E.2.1 hX hbl hbA w.2.2 (vp_in_iff.mpr (n_inb (6 * j + 1) L (by omega) (by omega))) d_law_209 ?_
  refine wi_c (v := xs (6 * j + 1)) (congrArg xs (n_nat (6 * j + 1) (by omega))) ?_
  refine lv_aload_n E.x E.b d_law_210 rfl (lv_at hl 1 rfl) ?_
  refine lv_iload E.x E.b d_law_211 (lv_at hl 5 rfl) ?_
  refine lv_iconst (v := 2) E.x E.b d_law_213 (by decide) ?_
  refine lv_iadd E.x E.b d_law_214 ?_
  refine wi_c (v := nI (6 * j + 2)) (n_add (6 * j) 2) ?_
  refine va_sld E.1 E.2.1 hX hbl hbA w.2.2 (vp_in_iff.mpr (n_inb (6 * j + 2) L (by omega) (by omega))) d_law_215 ?_
  refine wi_c (v := xs (6 * j + 2)) (congrArg xs (n_nat (6 * j + 2) (by omega))) ?_
  refine gl_i E.C w (va_runV (As := [.int (xs (6 * j + 1)), .int (xs (6 * j + 2))]) (rest := []) E.fix (c_Mod_word l D τ B φ am (xs (6 * j + 1)) (xs (6 * j + 2)) (φ', bb) hG _) (cwV 2 E.w (tw_pre (tw_good k1865) (l := [_, _, _, _]) (List.forall_mem_cons.mpr ⟨k1862, List.forall_mem_cons.mpr ⟨k1863, List.forall_mem_cons.mpr ⟨k1864, List.forall_mem_cons.mpr ⟨k14, fun _ h => absurd h List.not_mem_nil⟩⟩⟩⟩)) rfl rfl rfl (by decide +kernel) (E.rm (by decide) (by decide))) (pvL E.C w [.int (xs (6 * j + 1)), .int (xs (6 * j + 2))] (q0 := 59) rfl rfl) rfl rfl hl.1 rfl (lv_room (Nat.le_of_ble_eq_true rfl)) d_law_216 ⟨show 200 + 3 * (j + 1) + 0 ≤ 622622 by omega, show 130000 + 6 * (j + 1) + Pot σ' + 0 ≤ 7228240 by omega⟩) (fun r u9 H locs hr w => ?_)
  refine W.widen (k := 200 + 3 * (j + 1)) (n := 130000 + 6 * (j + 1) + Pot σ') (by omega) (by omega) ?_
  have hr : r = bb := hr
  rw [hr]
  have w : Wd s D A (wdM τ φ' am ++ ([oc τ ou f'] ++ wdC τ σ' (g u))) H locs := w
  refine lv_istore (lv' := [(6, .int bb), (5, .int kk), (0, .ref b), (1, .ref (g u 56)), (2, .ref (am 59)), (3, .ref ou), (4, .int (nI (6 * j)))]) E.x E.b d_law_219 hl (by decide) rfl (fun ls hl => ?_)
  refine lv_aload_n E.x E.b d_law_221 rfl (lv_at hl 4 rfl) ?_
  refine gl_i E.C w (va_runV (As := []) (rest := []) E.fix (c_Mod_thrown l D τ B φ' am (φ'.1 0) rfl _) (cwV 0 E.w (tw_pre (tw_good k1826) (l := [_, _, _, _]) (List.forall_mem_cons.mpr ⟨k1823, List.forall_mem_cons.mpr ⟨k1824, List.forall_mem_cons.mpr ⟨k1825, List.forall_mem_cons.mpr ⟨k14, fun _ h => absurd h List.not_mem_nil⟩⟩⟩⟩)) rfl rfl rfl (by decide +kernel) (E.rm (by decide) (by decide))) (pvL E.C w [] (q0 := 59) rfl rfl) rfl rfl hl.1 rfl (lv_room (Nat.le_of_ble_eq_true rfl)) d_law_222 ⟨show 200 + 3 * (j + 1) + 0 ≤ 622622 by omega, show 130000 + 6 * (j + 1) + Pot σ' + 0 ≤ 7228240 by omega⟩) (fun r u9 H locs hr w => ?_)
  refine W.widen (k := 200 + 3 * (j + 1)) (n := 130000 + 6 * (j + 1) + Pot σ') (by omega) (by omega) ?_
  have hr : r = φ'.1 0 := hr
  rw [hr, h0]
  have w : Wd s D A (wdM τ φ' am ++ ([oc τ ou f'] ++ wdC τ σ' (g u))) H locs := w
  refine lv_iload E.x E.b d_law_225 (lv_at hl 1 rfl) ?_
  refine lv_icmp_eq (tgt := 232) E.x E.b d_law_227 (by decide) (fun c9 => ?_) (fun c9 => absurd rfl c9)
  refine lv_iload E.x E.b d_law_232 (lv_at hl 1 rfl) ?_
  refine lv_if_ne (tgt := 249) E.x E.b d_law_234 (by decide) (fun c9 => ?_) (fun c9 => ?_)
  · refine lv_goto (tgt := 847) E.x E.b d_law_249 (by decide) ?_
    exact K σ' φ' (g u) f' _ _ _ hI w (lv_sub hl [2, 3, 4, 5, 6] rfl)
  refine lv_aload_n E.x E.b d_law_237 rfl (lv_at hl 5 rfl) ?_
  refine lv_iconst (v := 0) E.x E.b d_law_238 (by decide) ?_
  refine va_lald E.1 E.2.1 E.K w.1 67 1 rfl rfl (vp_in_iff.mpr (by decide)) d_law_239 ?_
  refine wl_c (v := bb.toInt64) (hb0 c9) ?_
  refine lv_iload E.x E.b d_law_240 (lv_at hl 0 rfl) ?_
  refine lv_i2l (v := bb.toInt64) E.x E.b d_law_242 rfl ?_
  refine W.lcmp E.x E.b d_law_243 ?_
  refine wi_c (v := 0) (lgc_eq.mpr rfl) ?_
  refine lv_if_eq (tgt := 249) E.x E.b d_law_244 (by decide) (fun c8 => ?_) (fun c8 => absurd rfl c8)
  refine lv_goto (tgt := 847) E.x E.b d_law_249 (by decide) ?_
  exact K σ' φ' (g u) f' _ _ _ hI w (lv_sub hl [2, 3, 4, 5, 6] rfl)
set_option maxRecDepth 100000 in
set_option maxHeartbeats 4000000 in
theorem lc_look {p : Program} {e : Env} {s : State} {m : MethodId} {below : List Frame} {meth : Method} {c : Code} (l : Launch) (hfl : l.stackTraces = false) {D : va_G} {τ : ClassId × ClassId × ClassId} {B : Nat} {A : Nat → Prop} {b L : Nat} {xs : Nat → Int32} {Q : State → Prop} (j : Nat) (σ φ : Sg) (ad am : Nat → Nat) (f : Nat → Int64) (ou : Nat) {H : Heap} {locs : List Loc} {ls : Array Slot} (E : Cx p room_1 s m #[.ref b] meth c code 7 "DrawingMachineLaw" 30 D τ B A) (hX : va_X b L xs s s.heap) (hbl : b < s.heap.size) (hbA : ¬ A b) (hL : L ≤ 3072) (hj : 6 * j + 6 ≤ L) (I : Inv σ φ) (w : Wd s D A (wdM τ φ am ++ ([oc τ ou f] ++ wdC τ σ ad)) H locs) (hl : lv_has ls 7 [(0, .ref b), (1, .ref (ad 56)), (2, .ref (am 59)), (3, .ref ou), (4, .int (nI (6 * j)))])
    (K : ∀ (σ φ : Sg) (ad : Nat → Nat) (f : Nat → Int64) (H : Heap) (locs : List Loc) (ls : Array Slot), Inv σ φ → Wd s D A (wdM τ φ am ++ ([oc τ ou f] ++ wdC τ σ ad)) H locs → lv_has ls 7 [(0, .ref b), (1, .ref (ad 56)), (2, .ref (am 59)), (3, .ref ou), (4, .int (nI (6 * j)))] → W p l e room_1 s m #[.ref b] below meth c H locs (200 + 3 * (j + 1)) (130000 + 6 * (j + 1) + Pot σ) Q (F0 m 847 ls [])) : W p l e room_1 s m #[.ref b] below meth c H locs (200 + 3 * j) (130000 + 6 * j + Pot σ) Q (F0 m 252 ls []) := by
  obtain ⟨S, g, kk, bb, σ', φ', f', mc, ms, hM, hg, hG, hI, h0, hb0, hmc, hms⟩ := op_look l D τ B σ φ ad f ou hfl I (xs (6 * j + 1))
  have hp1 := I.pot
  have hp2 := hI.pot
  refine lv_aload_n E.x E.b d_law_252 rfl (lv_at hl 1 rfl) ?_
  refine lv_aload_n E.x E.b d_law_253 rfl (lv_at hl 0 rfl) ?_
  refine lv_iload E.x E.b d_law_254 (lv_at hl 4 rfl) ?_
  refine lv_iconst (v := 1) E.x E.b d_law_256 (by decide) ?_
  refine lv_iadd E.x E.b d_law_257 ?_
  refine wi_c (v := nI (6 * j + 1)) (n_add (6 * j) 1) ?_
  refine va_sld E.1 E.2.1 hX hbl hbA w.2.2 (vp_in_iff.mpr (n_inb (6 * j + 1) L (by omega) (by omega))) d_law_258 ?_
  refine wi_c (v := xs (6 * j + 1)) (congrArg xs (n_nat (6 * j + 1) (by omega))) ?_
  refine lv_aload_n E.x E.b d_law_259 rfl (lv_at hl 3 rfl) ?_
  refine gr_i E.C w (tq_runSW (n := 3) (hh := [(0, 9, 12, 19)]) (As := [.ref (ad 56), .int (xs (6 * j + 1)), .ref ou]) (rest := []) E.fix (hM _) E.w (tw_goodW k854) rfl rfl rfl ⟨Nat.le_of_ble_eq_true rfl, Nat.le_of_ble_eq_true rfl⟩ (E.w _ k0) (by decide +kernel) (E.w _ k852) (E.w _ k853) (psR E.C w [.ref (ad 56), .int (xs (6 * j + 1)), .ref ou]) rfl rfl hl.1 rfl (lv_room (Nat.le_of_ble_eq_true rfl)) d_law_260 ⟨show 200 + 3 * j + mc ≤ 622622 by omega, show 130000 + 6 * j + Pot σ + ms ≤ 7228240 by omega⟩) (fun r u H locs hr w => ?_)
  have hr : r = kk := hr
  rw [hr]
  refine W.widen (k := 200 + 3 * (j + 1)) (n := 130000 + 6 * (j + 1) + Pot σ') (by omega) (by omega) ?_
  have w : Wd s D A (wdM τ φ am ++ ([oc τ ou f'] ++ wdC τ σ' (g u))) H locs := w
  have hl : lv_has ls 7 [(0, .ref b), (1, .ref (g u 56)), (2, .ref (am 59)), (3, .ref ou), (4, .int (nI (6 * j)))] := by rw [hg u]; exact hl
  refine lv_istore (lv' := [(5, .int kk), (0, .ref b), (1, .ref (g u 56)), (2, .ref (am 59)), (3, .ref ou), (4, .int (nI (6 * j)))]) E.x E.b d_law_263 hl (by decide) rfl (fun ls hl => ?_)
  refine lv_aload_n E.x E.b d_law_265 rfl (lv_at hl 3 rfl) ?_
  refine lv_aload_n E.x E.b d_law_266 rfl (lv_at hl 1 rfl) ?_
  refine lv_iload E.x E.b d_law_267 (lv_at hl 5 rfl) ?_
  refine lv_iconst (v := 1) E.x E.b d_law_269 (by decide) ?_
  refine lv_iadd E.x E.b d_law_270 ?_
  refine wi_c (v := nI (6 * j + 1)) (n_add (6 * j) 1) ?_
  refine va_sld E.1 E.2.1 hX hbl hbA w.2.2 (vp_in_iff.mpr (n_inb (6 * j + 1) L (by omega) (by omega))) d_law_271 ?_
  refine wi_c (v := xs (6 * j + 1)) (congrArg xs (n_nat (6 * j + 1) (by omega))) ?_
  refine gl_i E.C w (va_runV (As := [.int (xs (6 * j + 1))]) (rest := []) E.fix (c_Mod_look l D τ B φ am (xs (6 * j + 1)) (φ', bb) hG _) (cwV 1 E.w (tw_pre (tw_good k1875) (l := [_, _, _, _]) (List.forall_mem_cons.mpr ⟨k1872, List.forall_mem_cons.mpr ⟨k1873, List.forall_mem_cons.mpr ⟨k1874, List.forall_mem_cons.mpr ⟨k14, fun _ h => absurd h List.not_mem_nil⟩⟩⟩⟩)) rfl rfl rfl (by decide +kernel) (E.rm (by decide) (by decide))) (pvL E.C w [.int (xs (6 * j + 1))] (q0 := 59) rfl rfl) rfl rfl hl.1 rfl (lv_room (Nat.le_of_ble_eq_true rfl)) d_law_272 ⟨show 200 + 3 * (j + 1) + 0 ≤ 622622 by omega, show 130000 + 6 * (j + 1) + Pot σ' + 0 ≤ 7228240 by omega⟩) (fun r u9 H locs hr w => ?_)
  refine W.widen (k := 200 + 3 * (j + 1)) (n := 130000 + 6 * (j + 1) + Pot σ') (by omega) (by omega) ?_
  have hr : r = bb := hr
  rw [hr]
  have w : Wd s D A (wdM τ φ' am ++ ([oc τ ou f'] ++ wdC τ σ' (g u))) H locs := w
  refine lv_istore (lv' := [(6, .int bb), (5, .int kk), (0, .ref b), (1, .ref (g u 56)), (2, .ref (am 59)), (3, .ref ou), (4, .int (nI (6 * j)))]) E.x E.b d_law_275 hl (by decide) rfl (fun ls hl => ?_)
  refine lv_aload_n E.x E.b d_law_277 rfl (lv_at hl 4 rfl) ?_
  refine gl_i E.C w (va_runV (As := []) (rest := []) E.fix (c_Mod_thrown l D τ B φ' am (φ'.1 0) rfl _) (cwV 0 E.w (tw_pre (tw_good k1826) (l := [_, _, _, _]) (List.forall_mem_cons.mpr ⟨k1823, List.forall_mem_cons.mpr ⟨k1824, List.forall_mem_cons.mpr ⟨k1825, List.forall_mem_cons.mpr ⟨k14, fun _ h => absurd h List.not_mem_nil⟩⟩⟩⟩)) rfl rfl rfl (by decide +kernel) (E.rm (by decide) (by decide))) (pvL E.C w [] (q0 := 59) rfl rfl) rfl rfl hl.1 rfl (lv_room (Nat.le_of_ble_eq_true rfl)) d_law_278 ⟨show 200 + 3 * (j + 1) + 0 ≤ 622622 by omega, show 130000 + 6 * (j + 1) + Pot σ' + 0 ≤ 7228240 by omega⟩) (fun r u9 H locs hr w => ?_)
  refine W.widen (k := 200 + 3 * (j + 1)) (n := 130000 + 6 * (j + 1) + Pot σ') (by omega) (by omega) ?_
  have hr : r = φ'.1 0 := hr
  rw [hr, h0]
  have w : Wd s D A (wdM τ φ' am ++ ([oc τ ou f'] ++ wdC τ σ' (g u))) H locs := w
  refine lv_iload E.x E.b d_law_281 (lv_at hl 1 rfl) ?_
  refine lv_icmp_eq (tgt := 288) E.x E.b d_law_283 (by decide) (fun c9 => ?_) (fun c9 => absurd rfl c9)
  refine lv_iload E.x E.b d_law_288 (lv_at hl 1 rfl) ?_
  refine lv_if_ne (tgt := 305) E.x E.b d_law_290 (by decide) (fun c9 => ?_) (fun c9 => ?_)
  · refine lv_goto (tgt := 847) E.x E.b d_law_305 (by decide) ?_
    exact K σ' φ' (g u) f' _ _ _ hI w (lv_sub hl [2, 3, 4, 5, 6] rfl)
  refine lv_aload_n E.x E.b d_law_293 rfl (lv_at hl 5 rfl) ?_
  refine lv_iconst (v := 0) E.x E.b d_law_294 (by decide) ?_
  refine va_lald E.1 E.2.1 E.K w.1 67 1 rfl rfl (vp_in_iff.mpr (by decide)) d_law_295 ?_
  refine wl_c (v := bb.toInt64) (hb0 c9) ?_
  refine lv_iload E.x E.b d_law_296 (lv_at hl 0 rfl) ?_
  refine lv_i2l (v := bb.toInt64) E.x E.b d_law_298 rfl ?_
  refine W.lcmp E.x E.b d_law_299 ?_
  refine wi_c (v := 0) (lgc_eq.mpr rfl) ?_
  refine lv_if_eq (tgt := 305) E.x E.b d_law_300 (by decide) (fun c8 => ?_) (fun c8 => absurd rfl c8)
  refine lv_goto (tgt := 847) E.x E.b d_law_305 (by decide) ?_
  exact K σ' φ' (g u) f' _ _ _ hI w (lv_sub hl [2, 3, 4, 5, 6] rfl)
set_option maxRecDepth 100000 in
set_option maxHeartbeats 4000000 in
theorem lc_feed {p : Program} {e : Env} {s : State} {m : MethodId} {below : List Frame} {meth : Method} {c : Code} (l : Launch) (hfl : l.stackTraces = false) {D : va_G} {τ : ClassId × ClassId × ClassId} {B : Nat} {A : Nat → Prop} {b L : Nat} {xs : Nat → Int32} {Q : State → Prop} (j : Nat) (σ φ : Sg) (ad am : Nat → Nat) (f : Nat → Int64) (ou : Nat) {H : Heap} {locs : List Loc} {ls : Array Slot} (E : Cx p room_1 s m #[.ref b] meth c code 7 "DrawingMachineLaw" 30 D τ B A) (hX : va_X b L xs s s.heap) (hbl : b < s.heap.size) (hbA : ¬ A b) (hL : L ≤ 3072) (hj : 6 * j + 6 ≤ L) (I : Inv σ φ) (w : Wd s D A (wdM τ φ am ++ ([oc τ ou f] ++ wdC τ σ ad)) H locs) (hl : lv_has ls 7 [(0, .ref b), (1, .ref (ad 56)), (2, .ref (am 59)), (3, .ref ou), (4, .int (nI (6 * j)))])
    (K : ∀ (σ φ : Sg) (ad : Nat → Nat) (f : Nat → Int64) (H : Heap) (locs : List Loc) (ls : Array Slot), Inv σ φ → Wd s D A (wdM τ φ am ++ ([oc τ ou f] ++ wdC τ σ ad)) H locs → lv_has ls 7 [(0, .ref b), (1, .ref (ad 56)), (2, .ref (am 59)), (3, .ref ou), (4, .int (nI (6 * j)))] → W p l e room_1 s m #[.ref b] below meth c H locs (200 + 3 * (j + 1)) (130000 + 6 * (j + 1) + Pot σ) Q (F0 m 847 ls [])) : W p l e room_1 s m #[.ref b] below meth c H locs (200 + 3 * j) (130000 + 6 * j + Pot σ) Q (F0 m 308 ls []) := by
  obtain ⟨S, g, kk, bb, σ', φ', f', mc, ms, hM, hg, hG, hI, h0, hb0, hmc, hms⟩ := op_feed l D τ B σ φ ad f ou hfl I (xs (6 * j + 1)) (xs (6 * j + 2)) (xs (6 * j + 3)) (xs (6 * j + 4)) (xs (6 * j + 5))
  have hp1 := I.pot
  have hp2 := hI.pot
  refine lv_aload_n E.x E.b d_law_308 rfl (lv_at hl 1 rfl) ?_
  refine lv_aload_n E.x E.b d_law_309 rfl (lv_at hl 0 rfl) ?_
  refine lv_iload E.x E.b d_law_310 (lv_at hl 4 rfl) ?_
  refine lv_iconst (v := 1) E.x E.b d_law_312 (by decide) ?_
  refine lv_iadd E.x E.b d_law_313 ?_
  refine wi_c (v := nI (6 * j + 1)) (n_add (6 * j) 1) ?_
  refine va_sld E.1 E.2.1 hX hbl hbA w.2.2 (vp_in_iff.mpr (n_inb (6 * j + 1) L (by omega) (by omega))) d_law_314 ?_
  refine wi_c (v := xs (6 * j + 1)) (congrArg xs (n_nat (6 * j + 1) (by omega))) ?_
  refine lv_aload_n E.x E.b d_law_315 rfl (lv_at hl 0 rfl) ?_
  refine lv_iload E.x E.b d_law_316 (lv_at hl 4 rfl) ?_
  refine lv_iconst (v := 2) E.x E.b d_law_318 (by decide) ?_
  refine lv_iadd E.x E.b d_law_319 ?_
  refine wi_c (v := nI (6 * j + 2)) (n_add (6 * j) 2) ?_
  refine va_sld E.1 E.2.1 hX hbl hbA w.2.2 (vp_in_iff.mpr (n_inb (6 * j + 2) L (by omega) (by omega))) d_law_320 ?_
  refine wi_c (v := xs (6 * j + 2)) (congrArg xs (n_nat (6 * j + 2) (by omega))) ?_
  refine lv_aload_n E.x E.b d_law_321 rfl (lv_at hl 0 rfl) ?_
  refine lv_iload E.x E.b d_law_322 (lv_at hl 4 rfl) ?_
  refine lv_iconst (v := 3) E.x E.b d_law_324 (by decide) ?_
  refine lv_iadd E.x E.b d_law_325 ?_
  refine wi_c (v := nI (6 * j + 3)) (n_add (6 * j) 3) ?_
  refine va_sld E.1 E.2.1 hX hbl hbA w.2.2 (vp_in_iff.mpr (n_inb (6 * j + 3) L (by omega) (by omega))) d_law_326 ?_
  refine wi_c (v := xs (6 * j + 3)) (congrArg xs (n_nat (6 * j + 3) (by omega))) ?_
  refine lv_aload_n E.x E.b d_law_327 rfl (lv_at hl 0 rfl) ?_
  refine lv_iload E.x E.b d_law_328 (lv_at hl 4 rfl) ?_
  refine lv_iconst (v := 4) E.x E.b d_law_330 (by decide) ?_
  refine lv_iadd E.x E.b d_law_331 ?_
  refine wi_c (v := nI (6 * j + 4)) (n_add (6 * j) 4) ?_
  refine va_sld E.1 E.2.1 hX hbl hbA w.2.2 (vp_in_iff.mpr (n_inb (6 * j + 4) L (by omega) (by omega))) d_law_332 ?_
  refine wi_c (v := xs (6 * j + 4)) (congrArg xs (n_nat (6 * j + 4) (by omega))) ?_
  refine lv_aload_n E.x E.b d_law_333 rfl (lv_at hl 0 rfl) ?_
  refine lv_iload E.x E.b d_law_334 (lv_at hl 4 rfl) ?_
  refine lv_iconst (v := 5) E.x E.b d_law_336 (by decide) ?_
  refine lv_iadd E.x E.b d_law_337 ?_
  refine wi_c (v := nI (6 * j + 5)) (n_add (6 * j) 5) ?_
  refine va_sld E.1 E.2.1 hX hbl hbA w.2.2 (vp_in_iff.mpr (n_inb (6 * j + 5) L (by omega) (by omega))) d_law_338 ?_
  refine wi_c (v := xs (6 * j + 5)) (congrArg xs (n_nat (6 * j + 5) (by omega))) ?_
  refine lv_aload_n E.x E.b d_law_339 rfl (lv_at hl 3 rfl) ?_
  refine gr_i E.C w (tq_runSW (n := 7) (hh := [(0, 16, 19, 29)]) (As := [.ref (ad 56), .int (xs (6 * j + 1)), .int (xs (6 * j + 2)), .int (xs (6 * j + 3)), .int (xs (6 * j + 4)), .int (xs (6 * j + 5)), .ref ou]) (rest := []) E.fix (hM _) E.w (tw_goodW k861) rfl rfl rfl ⟨Nat.le_of_ble_eq_true rfl, Nat.le_of_ble_eq_true rfl⟩ (E.w _ k0) (by decide +kernel) (E.w _ k859) (E.w _ k860) (psR E.C w [.ref (ad 56), .int (xs (6 * j + 1)), .int (xs (6 * j + 2)), .int (xs (6 * j + 3)), .int (xs (6 * j + 4)), .int (xs (6 * j + 5)), .ref ou]) rfl rfl hl.1 rfl (lv_room (Nat.le_of_ble_eq_true rfl)) d_law_340 ⟨show 200 + 3 * j + mc ≤ 622622 by omega, show 130000 + 6 * j + Pot σ + ms ≤ 7228240 by omega⟩) (fun r u H locs hr w => ?_)
  have hr : r = kk := hr
  rw [hr]
  refine W.widen (k := 200 + 3 * (j + 1)) (n := 130000 + 6 * (j + 1) + Pot σ') (by omega) (by omega) ?_
  have w : Wd s D A (wdM τ φ am ++ ([oc τ ou f'] ++ wdC τ σ' (g u))) H locs := w
  have hl : lv_has ls 7 [(0, .ref b), (1, .ref (g u 56)), (2, .ref (am 59)), (3, .ref ou), (4, .int (nI (6 * j)))] := by rw [hg u]; exact hl
  refine lv_istore (lv' := [(5, .int kk), (0, .ref b), (1, .ref (g u 56)), (2, .ref (am 59)), (3, .ref ou), (4, .int (nI (6 * j)))]) E.x E.b d_law_343 hl (by decide) rfl (fun ls hl => ?_)
  refine lv_aload_n E.x E.b d_law_345 rfl (lv_at hl 3 rfl) ?_
  refine lv_aload_n E.x E.b d_law_346 rfl (lv_at hl 1 rfl) ?_
  refine lv_iload E.x E.b d_law_347 (lv_at hl 5 rfl) ?_
  refine lv_iconst (v := 1) E.x E.b d_law_349 (by decide) ?_
  refine lv_iadd E.x E.b d_law_350 ?_
  refine wi_c (v := nI (6 * j + 1)) (n_add (6 * j) 1) ?_
  refine va_sld E.1 E.2.1 hX hbl hbA w.2.2 (vp_in_iff.mpr (n_inb (6 * j + 1) L (by omega) (by omega))) d_law_351 ?_
  refine wi_c (v := xs (6 * j + 1)) (congrArg xs (n_nat (6 * j + 1) (by omega))) ?_
  refine lv_aload_n E.x E.b d_law_352 rfl (lv_at hl 1 rfl) ?_
  refine lv_iload E.x E.b d_law_353 (lv_at hl 5 rfl) ?_
  refine lv_iconst (v := 2) E.x E.b d_law_355 (by decide) ?_
  refine lv_iadd E.x E.b d_law_356 ?_
  refine wi_c (v := nI (6 * j + 2)) (n_add (6 * j) 2) ?_
  refine va_sld E.1 E.2.1 hX hbl hbA w.2.2 (vp_in_iff.mpr (n_inb (6 * j + 2) L (by omega) (by omega))) d_law_357 ?_
  refine wi_c (v := xs (6 * j + 2)) (congrArg xs (n_nat (6 * j + 2) (by omega))) ?_
  refine lv_aload_n E.x E.b d_law_358 rfl (lv_at hl 1 rfl) ?_
  refine lv_iload E.x E.b d_law_359 (lv_at hl 5 rfl) ?_
  refine lv_iconst (v := 3) E.x E.b d_law_361 (by decide) ?_
  refine lv_iadd E.x E.b d_law_362 ?_
  refine wi_c (v := nI (6 * j + 3)) (n_add (6 * j) 3) ?_
  refine va_sld E.1 E.2.1 hX hbl hbA w.2.2 (vp_in_iff.mpr (n_inb (6 * j + 3) L (by omega) (by omega))) d_law_363 ?_
  refine wi_c (v := xs (6 * j + 3)) (congrArg xs (n_nat (6 * j + 3) (by omega))) ?_
  refine lv_aload_n E.x E.b d_law_364 rfl (lv_at hl 1 rfl) ?_
  refine lv_iload E.x E.b d_law_365 (lv_at hl 5 rfl) ?_
  refine lv_iconst (v := 4) E.x E.b d_law_367 (by decide) ?_
  refine lv_iadd E.x E.b d_law_368 ?_
  refine wi_c (v := nI (6 * j + 4)) (n_add (6 * j) 4) ?_
  refine va_sld E.1 E.2.1 hX hbl hbA w.2.2 (vp_in_iff.mpr (n_inb (6 * j + 4) L (by omega) (by omega))) d_law_369 ?_
  refine wi_c (v := xs (6 * j + 4)) (congrArg xs (n_nat (6 * j + 4) (by omega))) ?_
  refine lv_aload_n E.x E.b d_law_370 rfl (lv_at hl 1 rfl) ?_
  refine lv_iload E.x E.b d_law_371 (lv_at hl 5 rfl) ?_
  refine lv_iconst (v := 5) E.x E.b d_law_373 (by decide) ?_
  refine lv_iadd E.x E.b d_law_374 ?_
  refine wi_c (v := nI (6 * j + 5)) (n_add (6 * j) 5) ?_
  refine va_sld E.1 E.2.1 hX hbl hbA w.2.2 (vp_in_iff.mpr (n_inb (6 * j + 5) L (by omega) (by omega))) d_law_375 ?_
  refine wi_c (v := xs (6 * j + 5)) (congrArg xs (n_nat (6 * j + 5) (by omega))) ?_
  refine gl_i E.C w (va_runV (As := [.int (xs (6 * j + 1)), .int (xs (6 * j + 2)), .int (xs (6 * j + 3)), .int (xs (6 * j + 4)), .int (xs (6 * j + 5))]) (rest := []) E.fix (c_Mod_feed l D τ B φ am (xs (6 * j + 1)) (xs (6 * j + 2)) (xs (6 * j + 3)) (xs (6 * j + 4)) (xs (6 * j + 5)) (φ', bb) hG _) (cwV 5 E.w (tw_pre (tw_good k1879) (l := [_, _, _, _]) (List.forall_mem_cons.mpr ⟨k1876, List.forall_mem_cons.mpr ⟨k1877, List.forall_mem_cons.mpr ⟨k1878, List.forall_mem_cons.mpr ⟨k14, fun _ h => absurd h List.not_mem_nil⟩⟩⟩⟩)) rfl rfl rfl (by decide +kernel) (E.rm (by decide) (by decide))) (pvL E.C w [.int (xs (6 * j + 1)), .int (xs (6 * j + 2)), .int (xs (6 * j + 3)), .int (xs (6 * j + 4)), .int (xs (6 * j + 5))] (q0 := 59) rfl rfl) rfl rfl hl.1 rfl (lv_room (Nat.le_of_ble_eq_true rfl)) d_law_376 ⟨show 200 + 3 * (j + 1) + 0 ≤ 622622 by omega, show 130000 + 6 * (j + 1) + Pot σ' + 0 ≤ 7228240 by omega⟩) (fun r u9 H locs hr w => ?_)
  refine W.widen (k := 200 + 3 * (j + 1)) (n := 130000 + 6 * (j + 1) + Pot σ') (by omega) (by omega) ?_
  have hr : r = bb := hr
  rw [hr]
  have w : Wd s D A (wdM τ φ' am ++ ([oc τ ou f'] ++ wdC τ σ' (g u))) H locs := w
  refine lv_istore (lv' := [(6, .int bb), (5, .int kk), (0, .ref b), (1, .ref (g u 56)), (2, .ref (am 59)), (3, .ref ou), (4, .int (nI (6 * j)))]) E.x E.b d_law_379 hl (by decide) rfl (fun ls hl => ?_)
  refine lv_aload_n E.x E.b d_law_381 rfl (lv_at hl 4 rfl) ?_
  refine gl_i E.C w (va_runV (As := []) (rest := []) E.fix (c_Mod_thrown l D τ B φ' am (φ'.1 0) rfl _) (cwV 0 E.w (tw_pre (tw_good k1826) (l := [_, _, _, _]) (List.forall_mem_cons.mpr ⟨k1823, List.forall_mem_cons.mpr ⟨k1824, List.forall_mem_cons.mpr ⟨k1825, List.forall_mem_cons.mpr ⟨k14, fun _ h => absurd h List.not_mem_nil⟩⟩⟩⟩)) rfl rfl rfl (by decide +kernel) (E.rm (by decide) (by decide))) (pvL E.C w [] (q0 := 59) rfl rfl) rfl rfl hl.1 rfl (lv_room (Nat.le_of_ble_eq_true rfl)) d_law_382 ⟨show 200 + 3 * (j + 1) + 0 ≤ 622622 by omega, show 130000 + 6 * (j + 1) + Pot σ' + 0 ≤ 7228240 by omega⟩) (fun r u9 H locs hr w => ?_)
  refine W.widen (k := 200 + 3 * (j + 1)) (n := 130000 + 6 * (j + 1) + Pot σ') (by omega) (by omega) ?_
  have hr : r = φ'.1 0 := hr
  rw [hr, h0]
  have w : Wd s D A (wdM τ φ' am ++ ([oc τ ou f'] ++ wdC τ σ' (g u))) H locs := w
  refine lv_iload E.x E.b d_law_385 (lv_at hl 1 rfl) ?_
  refine lv_icmp_eq (tgt := 392) E.x E.b d_law_387 (by decide) (fun c9 => ?_) (fun c9 => absurd rfl c9)
  refine lv_iload E.x E.b d_law_392 (lv_at hl 1 rfl) ?_
  refine lv_if_ne (tgt := 409) E.x E.b d_law_394 (by decide) (fun c9 => ?_) (fun c9 => ?_)
  · refine lv_goto (tgt := 847) E.x E.b d_law_409 (by decide) ?_
    exact K σ' φ' (g u) f' _ _ _ hI w (lv_sub hl [2, 3, 4, 5, 6] rfl)
  refine lv_aload_n E.x E.b d_law_397 rfl (lv_at hl 5 rfl) ?_
  refine lv_iconst (v := 0) E.x E.b d_law_398 (by decide) ?_
  refine va_lald E.1 E.2.1 E.K w.1 67 1 rfl rfl (vp_in_iff.mpr (by decide)) d_law_399 ?_
  refine wl_c (v := bb.toInt64) (hb0 c9) ?_
  refine lv_iload E.x E.b d_law_400 (lv_at hl 0 rfl) ?_
  refine lv_i2l (v := bb.toInt64) E.x E.b d_law_402 rfl ?_
  refine W.lcmp E.x E.b d_law_403 ?_
  refine wi_c (v := 0) (lgc_eq.mpr rfl) ?_
  refine lv_if_eq (tgt := 409) E.x E.b d_law_404 (by decide) (fun c8 => ?_) (fun c8 => absurd rfl c8)
  refine lv_goto (tgt := 847) E.x E.b d_law_409 (by decide) ?_
  exact K σ' φ' (g u) f' _ _ _ hI w (lv_sub hl [2, 3, 4, 5, 6] rfl)
set_option maxRecDepth 100000 in
set_option maxHeartbeats 4000000 in
theorem lc_end {p : Program} {e : Env} {s : State} {m : MethodId} {below : List Frame} {meth : Method} {c : Code} (l : Launch) (hfl : l.stackTraces = false) {D : va_G} {τ : ClassId × ClassId × ClassId} {B : Nat} {A : Nat → Prop} {b L : Nat} {xs : Nat → Int32} {Q : State → Prop} (j : Nat) (σ φ : Sg) (ad am : Nat → Nat) (f : Nat → Int64) (ou : Nat) {H : Heap} {locs : List Loc} {ls : Array Slot} (E : Cx p room_1 s m #[.ref b] meth c code 7 "DrawingMachineLaw" 30 D τ B A) (hX : va_X b L xs s s.heap) (hbl : b < s.heap.size) (hbA : ¬ A b) (hL : L ≤ 3072) (hj : 6 * j + 6 ≤ L) (I : Inv σ φ) (w : Wd s D A (wdM τ φ am ++ ([oc τ ou f] ++ wdC τ σ ad)) H locs) (hl : lv_has ls 7 [(0, .ref b), (1, .ref (ad 56)), (2, .ref (am 59)), (3, .ref ou), (4, .int (nI (6 * j)))])
    (K : ∀ (σ φ : Sg) (ad : Nat → Nat) (f : Nat → Int64) (H : Heap) (locs : List Loc) (ls : Array Slot), Inv σ φ → Wd s D A (wdM τ φ am ++ ([oc τ ou f] ++ wdC τ σ ad)) H locs → lv_has ls 7 [(0, .ref b), (1, .ref (ad 56)), (2, .ref (am 59)), (3, .ref ou), (4, .int (nI (6 * j)))] → W p l e room_1 s m #[.ref b] below meth c H locs (200 + 3 * (j + 1)) (130000 + 6 * (j + 1) + Pot σ) Q (F0 m 847 ls [])) : W p l e room_1 s m #[.ref b] below meth c H locs (200 + 3 * j) (130000 + 6 * j + Pot σ) Q (F0 m 412 ls []) := by
  obtain ⟨S, g, kk, σ', φ', f', mc, ms, hM, hg, hG, hI, h0, hmc, hms⟩ := op_end l D τ B σ φ ad f ou hfl I (xs (6 * j + 1))
  have hp1 := I.pot
  have hp2 := hI.pot
  refine lv_aload_n E.x E.b d_law_412 rfl (lv_at hl 1 rfl) ?_
  refine lv_aload_n E.x E.b d_law_413 rfl (lv_at hl 0 rfl) ?_
  refine lv_iload E.x E.b d_law_414 (lv_at hl 4 rfl) ?_
  refine lv_iconst (v := 1) E.x E.b d_law_416 (by decide) ?_
  refine lv_iadd E.x E.b d_law_417 ?_
  refine wi_c (v := nI (6 * j + 1)) (n_add (6 * j) 1) ?_
  refine va_sld E.1 E.2.1 hX hbl hbA w.2.2 (vp_in_iff.mpr (n_inb (6 * j + 1) L (by omega) (by omega))) d_law_418 ?_
  refine wi_c (v := xs (6 * j + 1)) (congrArg xs (n_nat (6 * j + 1) (by omega))) ?_
  refine gr_i E.C w (tq_runSW (n := 2) (hh := [(0, 5, 8, 13)]) (As := [.ref (ad 56), .int (xs (6 * j + 1))]) (rest := []) E.fix (hM _) E.w (tw_goodW k902) rfl rfl rfl ⟨Nat.le_of_ble_eq_true rfl, Nat.le_of_ble_eq_true rfl⟩ (E.w _ k0) (by decide +kernel) (E.w _ k900) (E.w _ k901) (psR E.C w [.ref (ad 56), .int (xs (6 * j + 1))]) rfl rfl hl.1 rfl (lv_room (Nat.le_of_ble_eq_true rfl)) d_law_419 ⟨show 200 + 3 * j + mc ≤ 622622 by omega, show 130000 + 6 * j + Pot σ + ms ≤ 7228240 by omega⟩) (fun r u H locs hr w => ?_)
  have hr : r = kk := hr
  rw [hr]
  refine W.widen (k := 200 + 3 * (j + 1)) (n := 130000 + 6 * (j + 1) + Pot σ') (by omega) (by omega) ?_
  have w : Wd s D A (wdM τ φ am ++ ([oc τ ou f'] ++ wdC τ σ' (g u))) H locs := w
  have hl : lv_has ls 7 [(0, .ref b), (1, .ref (g u 56)), (2, .ref (am 59)), (3, .ref ou), (4, .int (nI (6 * j)))] := by rw [hg u]; exact hl
  refine lv_istore (lv' := [(5, .int kk), (0, .ref b), (1, .ref (g u 56)), (2, .ref (am 59)), (3, .ref ou), (4, .int (nI (6 * j)))]) E.x E.b d_law_422 hl (by decide) rfl (fun ls hl => ?_)
  refine lv_aload_n E.x E.b d_law_424 rfl (lv_at hl 3 rfl) ?_
  refine lv_aload_n E.x E.b d_law_425 rfl (lv_at hl 1 rfl) ?_
  refine lv_iload E.x E.b d_law_426 (lv_at hl 5 rfl) ?_
  refine lv_iconst (v := 1) E.x E.b d_law_428 (by decide) ?_
  refine lv_iadd E.x E.b d_law_429 ?_
  refine wi_c (v := nI (6 * j + 1)) (n_add (6 * j) 1) ?_
  refine va_sld E.1 E.2.1 hX hbl hbA w.2.2 (vp_in_iff.mpr (n_inb (6 * j + 1) L (by omega) (by omega))) d_law_430 ?_
  refine wi_c (v := xs (6 * j + 1)) (congrArg xs (n_nat (6 * j + 1) (by omega))) ?_
  refine gl_v E.C w (va_runV (As := [.int (xs (6 * j + 1))]) (rest := []) E.fix (c_Mod_end l D τ B φ am (xs (6 * j + 1)) φ' hG _) (cwV 1 E.w (tw_pre (tw_good k1887) (l := [_, _, _, _]) (List.forall_mem_cons.mpr ⟨k1884, List.forall_mem_cons.mpr ⟨k1885, List.forall_mem_cons.mpr ⟨k1886, List.forall_mem_cons.mpr ⟨k14, fun _ h => absurd h List.not_mem_nil⟩⟩⟩⟩)) rfl rfl rfl (by decide +kernel) (E.rm (by decide) (by decide))) (pvL E.C w [.int (xs (6 * j + 1))] (q0 := 59) rfl rfl) rfl rfl hl.1 rfl (lv_room (Nat.le_of_ble_eq_true rfl)) d_law_431 ⟨show 200 + 3 * (j + 1) + 0 ≤ 622622 by omega, show 130000 + 6 * (j + 1) + Pot σ' + 0 ≤ 7228240 by omega⟩) (fun u9 H locs hr w => ?_)
  refine W.widen (k := 200 + 3 * (j + 1)) (n := 130000 + 6 * (j + 1) + Pot σ') (by omega) (by omega) ?_
  have w : Wd s D A (wdM τ φ' am ++ ([oc τ ou f'] ++ wdC τ σ' (g u))) H locs := w
  refine lv_aload_n E.x E.b d_law_434 rfl (lv_at hl 3 rfl) ?_
  refine gl_i E.C w (va_runV (As := []) (rest := []) E.fix (c_Mod_thrown l D τ B φ' am (φ'.1 0) rfl _) (cwV 0 E.w (tw_pre (tw_good k1826) (l := [_, _, _, _]) (List.forall_mem_cons.mpr ⟨k1823, List.forall_mem_cons.mpr ⟨k1824, List.forall_mem_cons.mpr ⟨k1825, List.forall_mem_cons.mpr ⟨k14, fun _ h => absurd h List.not_mem_nil⟩⟩⟩⟩)) rfl rfl rfl (by decide +kernel) (E.rm (by decide) (by decide))) (pvL E.C w [] (q0 := 59) rfl rfl) rfl rfl hl.1 rfl (lv_room (Nat.le_of_ble_eq_true rfl)) d_law_435 ⟨show 200 + 3 * (j + 1) + 0 ≤ 622622 by omega, show 130000 + 6 * (j + 1) + Pot σ' + 0 ≤ 7228240 by omega⟩) (fun r u9 H locs hr w => ?_)
  refine W.widen (k := 200 + 3 * (j + 1)) (n := 130000 + 6 * (j + 1) + Pot σ') (by omega) (by omega) ?_
  have hr : r = φ'.1 0 := hr
  rw [hr, h0]
  have w : Wd s D A (wdM τ φ' am ++ ([oc τ ou f'] ++ wdC τ σ' (g u))) H locs := w
  refine lv_iload E.x E.b d_law_438 (lv_at hl 0 rfl) ?_
  refine lv_icmp_eq (tgt := 445) E.x E.b d_law_440 (by decide) (fun c9 => ?_) (fun c9 => absurd rfl c9)
  refine lv_goto (tgt := 847) E.x E.b d_law_445 (by decide) ?_
  exact K σ' φ' (g u) f' _ _ _ hI w (lv_sub hl [1, 2, 3, 4, 5] rfl)
set_option maxRecDepth 100000 in
set_option maxHeartbeats 4000000 in
theorem lc_run {p : Program} {e : Env} {s : State} {m : MethodId} {below : List Frame} {meth : Method} {c : Code} (l : Launch) (hfl : l.stackTraces = false) {D : va_G} {τ : ClassId × ClassId × ClassId} {B : Nat} {A : Nat → Prop} {b L : Nat} {xs : Nat → Int32} {Q : State → Prop} (j : Nat) (σ φ : Sg) (ad am : Nat → Nat) (f : Nat → Int64) (ou : Nat) {H : Heap} {locs : List Loc} {ls : Array Slot} (E : Cx p room_1 s m #[.ref b] meth c code 7 "DrawingMachineLaw" 30 D τ B A) (hX : va_X b L xs s s.heap) (hbl : b < s.heap.size) (hbA : ¬ A b) (hL : L ≤ 3072) (hj : 6 * j + 6 ≤ L) (I : Inv σ φ) (w : Wd s D A (wdM τ φ am ++ ([oc τ ou f] ++ wdC τ σ ad)) H locs) (hl : lv_has ls 7 [(0, .ref b), (1, .ref (ad 56)), (2, .ref (am 59)), (3, .ref ou), (4, .int (nI (6 * j)))])
    (K : ∀ (σ φ : Sg) (ad : Nat → Nat) (f : Nat → Int64) (H : Heap) (locs : List Loc) (ls : Array Slot), Inv σ φ → Wd s D A (wdM τ φ am ++ ([oc τ ou f] ++ wdC τ σ ad)) H locs → lv_has ls 7 [(0, .ref b), (1, .ref (ad 56)), (2, .ref (am 59)), (3, .ref ou), (4, .int (nI (6 * j)))] → W p l e room_1 s m #[.ref b] below meth c H locs (200 + 3 * (j + 1)) (130000 + 6 * (j + 1) + Pot σ) Q (F0 m 847 ls [])) : W p l e room_1 s m #[.ref b] below meth c H locs (200 + 3 * j) (130000 + 6 * j + Pot σ) Q (F0 m 487 ls []) := by
  obtain ⟨S, g, kk, bb, σ', φ', f', mc, ms, hM, hg, hG, hI, h0, hb0, hmc, hms⟩ := op_run l D τ B σ φ ad f ou hfl I (xs (6 * j + 1))
  have hp1 := I.pot
  have hp2 := hI.pot
  refine lv_aload_n E.x E.b d_law_487 rfl (lv_at hl 1 rfl) ?_
  refine lv_aload_n E.x E.b d_law_488 rfl (lv_at hl 0 rfl) ?_
  refine lv_iload E.x E.b d_law_489 (lv_at hl 4 rfl) ?_
  refine lv_iconst (v := 1) E.x E.b d_law_491 (by decide) ?_
  refine lv_iadd E.x E.b d_law_492 ?_
  refine wi_c (v := nI (6 * j + 1)) (n_add (6 * j) 1) ?_
  refine va_sld E.1 E.2.1 hX hbl hbA w.2.2 (vp_in_iff.mpr (n_inb (6 * j + 1) L (by omega) (by omega))) d_law_493 ?_
  refine wi_c (v := xs (6 * j + 1)) (congrArg xs (n_nat (6 * j + 1) (by omega))) ?_
  refine lv_aload_n E.x E.b d_law_494 rfl (lv_at hl 3 rfl) ?_
  refine gr_i E.C w (tq_runSW (n := 3) (hh := [(0, 9, 12, 13), (0, 9, 15, 38)]) (As := [.ref (ad 56), .int (xs (6 * j + 1)), .ref ou]) (rest := []) E.fix (hM _) E.w (tw_goodW k910) rfl rfl rfl ⟨Nat.le_of_ble_eq_true rfl, Nat.le_of_ble_eq_true rfl⟩ (E.w _ k0) (by decide +kernel) (E.w _ k908) (E.w _ k909) (psR E.C w [.ref (ad 56), .int (xs (6 * j + 1)), .ref ou]) rfl rfl hl.1 rfl (lv_room (Nat.le_of_ble_eq_true rfl)) d_law_495 ⟨show 200 + 3 * j + mc ≤ 622622 by omega, show 130000 + 6 * j + Pot σ + ms ≤ 7228240 by omega⟩) (fun r u H locs hr w => ?_)
  have hr : r = kk := hr
  rw [hr]
  refine W.widen (k := 200 + 3 * (j + 1)) (n := 130000 + 6 * (j + 1) + Pot σ') (by omega) (by omega) ?_
  have w : Wd s D A (wdM τ φ am ++ ([oc τ ou f'] ++ wdC τ σ' (g u))) H locs := w
  have hl : lv_has ls 7 [(0, .ref b), (1, .ref (g u 56)), (2, .ref (am 59)), (3, .ref ou), (4, .int (nI (6 * j)))] := by rw [hg u]; exact hl
  refine lv_istore (lv' := [(5, .int kk), (0, .ref b), (1, .ref (g u 56)), (2, .ref (am 59)), (3, .ref ou), (4, .int (nI (6 * j)))]) E.x E.b d_law_498 hl (by decide) rfl (fun ls hl => ?_)
  refine lv_aload_n E.x E.b d_law_500 rfl (lv_at hl 3 rfl) ?_
  refine lv_aload_n E.x E.b d_law_501 rfl (lv_at hl 1 rfl) ?_
  refine lv_iload E.x E.b d_law_502 (lv_at hl 5 rfl) ?_
  refine lv_iconst (v := 1) E.x E.b d_law_504 (by decide) ?_
  refine lv_iadd E.x E.b d_law_505 ?_
  refine wi_c (v := nI (6 * j + 1)) (n_add (6 * j) 1) ?_
  refine va_sld E.1 E.2.1 hX hbl hbA w.2.2 (vp_in_iff.mpr (n_inb (6 * j + 1) L (by omega) (by omega))) d_law_506 ?_
  refine wi_c (v := xs (6 * j + 1)) (congrArg xs (n_nat (6 * j + 1) (by omega))) ?_
  refine gl_i E.C w (va_runV (As := [.int (xs (6 * j + 1))]) (rest := []) E.fix (c_Mod_run l D τ B φ am (xs (6 * j + 1)) (φ', bb) hG _) (cwV 1 E.w (tw_pre (tw_good k1903) (l := [_, _, _, _]) (List.forall_mem_cons.mpr ⟨k1900, List.forall_mem_cons.mpr ⟨k1901, List.forall_mem_cons.mpr ⟨k1902, List.forall_mem_cons.mpr ⟨k14, fun _ h => absurd h List.not_mem_nil⟩⟩⟩⟩)) rfl rfl rfl (by decide +kernel) (E.rm (by decide) (by decide))) (pvL E.C w [.int (xs (6 * j + 1))] (q0 := 59) rfl rfl) rfl rfl hl.1 rfl (lv_room (Nat.le_of_ble_eq_true rfl)) d_law_507 ⟨show 200 + 3 * (j + 1) + 0 ≤ 622622 by omega, show 130000 + 6 * (j + 1) + Pot σ' + 0 ≤ 7228240 by omega⟩) (fun r u9 H locs hr w => ?_)
  refine W.widen (k := 200 + 3 * (j + 1)) (n := 130000 + 6 * (j + 1) + Pot σ') (by omega) (by omega) ?_
  have hr : r = bb := hr
  rw [hr]
  have w : Wd s D A (wdM τ φ' am ++ ([oc τ ou f'] ++ wdC τ σ' (g u))) H locs := w
  refine lv_istore (lv' := [(6, .int bb), (5, .int kk), (0, .ref b), (1, .ref (g u 56)), (2, .ref (am 59)), (3, .ref ou), (4, .int (nI (6 * j)))]) E.x E.b d_law_510 hl (by decide) rfl (fun ls hl => ?_)
  refine lv_aload_n E.x E.b d_law_512 rfl (lv_at hl 4 rfl) ?_
  refine gl_i E.C w (va_runV (As := []) (rest := []) E.fix (c_Mod_thrown l D τ B φ' am (φ'.1 0) rfl _) (cwV 0 E.w (tw_pre (tw_good k1826) (l := [_, _, _, _]) (List.forall_mem_cons.mpr ⟨k1823, List.forall_mem_cons.mpr ⟨k1824, List.forall_mem_cons.mpr ⟨k1825, List.forall_mem_cons.mpr ⟨k14, fun _ h => absurd h List.not_mem_nil⟩⟩⟩⟩)) rfl rfl rfl (by decide +kernel) (E.rm (by decide) (by decide))) (pvL E.C w [] (q0 := 59) rfl rfl) rfl rfl hl.1 rfl (lv_room (Nat.le_of_ble_eq_true rfl)) d_law_513 ⟨show 200 + 3 * (j + 1) + 0 ≤ 622622 by omega, show 130000 + 6 * (j + 1) + Pot σ' + 0 ≤ 7228240 by omega⟩) (fun r u9 H locs hr w => ?_)
  refine W.widen (k := 200 + 3 * (j + 1)) (n := 130000 + 6 * (j + 1) + Pot σ') (by omega) (by omega) ?_
  have hr : r = φ'.1 0 := hr
  rw [hr, h0]
  have w : Wd s D A (wdM τ φ' am ++ ([oc τ ou f'] ++ wdC τ σ' (g u))) H locs := w
  refine lv_iload E.x E.b d_law_516 (lv_at hl 1 rfl) ?_
  refine lv_icmp_eq (tgt := 523) E.x E.b d_law_518 (by decide) (fun c9 => ?_) (fun c9 => absurd rfl c9)
  refine lv_iload E.x E.b d_law_523 (lv_at hl 1 rfl) ?_
  refine lv_if_ne (tgt := 540) E.x E.b d_law_525 (by decide) (fun c9 => ?_) (fun c9 => ?_)
  · refine lv_goto (tgt := 847) E.x E.b d_law_540 (by decide) ?_
    exact K σ' φ' (g u) f' _ _ _ hI w (lv_sub hl [2, 3, 4, 5, 6] rfl)
  refine lv_aload_n E.x E.b d_law_528 rfl (lv_at hl 5 rfl) ?_
  refine lv_iconst (v := 0) E.x E.b d_law_529 (by decide) ?_
  refine va_lald E.1 E.2.1 E.K w.1 67 1 rfl rfl (vp_in_iff.mpr (by decide)) d_law_530 ?_
  refine wl_c (v := bb.toInt64) (hb0 c9) ?_
  refine lv_iload E.x E.b d_law_531 (lv_at hl 0 rfl) ?_
  refine lv_i2l (v := bb.toInt64) E.x E.b d_law_533 rfl ?_
  refine W.lcmp E.x E.b d_law_534 ?_
  refine wi_c (v := 0) (lgc_eq.mpr rfl) ?_
  refine lv_if_eq (tgt := 540) E.x E.b d_law_535 (by decide) (fun c8 => ?_) (fun c8 => absurd rfl c8)
  refine lv_goto (tgt := 847) E.x E.b d_law_540 (by decide) ?_
  exact K σ' φ' (g u) f' _ _ _ hI w (lv_sub hl [2, 3, 4, 5, 6] rfl)
set_option maxRecDepth 100000 in
set_option maxHeartbeats 4000000 in
theorem lc_about {p : Program} {e : Env} {s : State} {m : MethodId} {below : List Frame} {meth : Method} {c : Code} (l : Launch) (hfl : l.stackTraces = false) {D : va_G} {τ : ClassId × ClassId × ClassId} {B : Nat} {A : Nat → Prop} {b L : Nat} {xs : Nat → Int32} {Q : State → Prop} (j : Nat) (σ φ : Sg) (ad am : Nat → Nat) (f : Nat → Int64) (ou : Nat) {H : Heap} {locs : List Loc} {ls : Array Slot} (E : Cx p room_1 s m #[.ref b] meth c code 7 "DrawingMachineLaw" 30 D τ B A) (hX : va_X b L xs s s.heap) (hbl : b < s.heap.size) (hbA : ¬ A b) (hL : L ≤ 3072) (hj : 6 * j + 6 ≤ L) (I : Inv σ φ) (w : Wd s D A (wdM τ φ am ++ ([oc τ ou f] ++ wdC τ σ ad)) H locs) (hl : lv_has ls 7 [(0, .ref b), (1, .ref (ad 56)), (2, .ref (am 59)), (3, .ref ou), (4, .int (nI (6 * j)))])
    (K : ∀ (σ φ : Sg) (ad : Nat → Nat) (f : Nat → Int64) (H : Heap) (locs : List Loc) (ls : Array Slot), Inv σ φ → Wd s D A (wdM τ φ am ++ ([oc τ ou f] ++ wdC τ σ ad)) H locs → lv_has ls 7 [(0, .ref b), (1, .ref (ad 56)), (2, .ref (am 59)), (3, .ref ou), (4, .int (nI (6 * j)))] → W p l e room_1 s m #[.ref b] below meth c H locs (200 + 3 * (j + 1)) (130000 + 6 * (j + 1) + Pot σ) Q (F0 m 847 ls [])) : W p l e room_1 s m #[.ref b] below meth c H locs (200 + 3 * j) (130000 + 6 * j + Pot σ) Q (F0 m 543 ls []) := by
  obtain ⟨S, g, kk, bb, σ', φ', f', mc, ms, hM, hg, hG, hI, h0, hb0, hmc, hms⟩ := op_about l D τ B σ φ ad f ou hfl I (xs (6 * j + 1))
  have hp1 := I.pot
  have hp2 := hI.pot
  refine lv_aload_n E.x E.b d_law_543 rfl (lv_at hl 1 rfl) ?_
  refine lv_aload_n E.x E.b d_law_544 rfl (lv_at hl 0 rfl) ?_
  refine lv_iload E.x E.b d_law_545 (lv_at hl 4 rfl) ?_
  refine lv_iconst (v := 1) E.x E.b d_law_547 (by decide) ?_
  refine lv_iadd E.x E.b d_law_548 ?_
  refine wi_c (v := nI (6 * j + 1)) (n_add (6 * j) 1) ?_
  refine va_sld E.1 E.2.1 hX hbl hbA w.2.2 (vp_in_iff.mpr (n_inb (6 * j + 1) L (by omega) (by omega))) d_law_549 ?_
  refine wi_c (v := xs (6 * j + 1)) (congrArg xs (n_nat (6 * j + 1) (by omega))) ?_
  refine lv_aload_n E.x E.b d_law_550 rfl (lv_at hl 3 rfl) ?_
  refine gr_i E.C w (tq_runSW (n := 3) (hh := [(0, 9, 12, 13)]) (As := [.ref (ad 56), .int (xs (6 * j + 1)), .ref ou]) (rest := []) E.fix (hM _) E.w (tw_goodW k1378) rfl rfl rfl ⟨Nat.le_of_ble_eq_true rfl, Nat.le_of_ble_eq_true rfl⟩ (E.w _ k0) (by decide +kernel) (E.w _ k1376) (E.w _ k1377) (psR E.C w [.ref (ad 56), .int (xs (6 * j + 1)), .ref ou]) rfl rfl hl.1 rfl (lv_room (Nat.le_of_ble_eq_true rfl)) d_law_551 ⟨show 200 + 3 * j + mc ≤ 622622 by omega, show 130000 + 6 * j + Pot σ + ms ≤ 7228240 by omega⟩) (fun r u H locs hr w => ?_)
  have hr : r = kk := hr
  rw [hr]
  refine W.widen (k := 200 + 3 * (j + 1)) (n := 130000 + 6 * (j + 1) + Pot σ') (by omega) (by omega) ?_
  have w : Wd s D A (wdM τ φ am ++ ([oc τ ou f'] ++ wdC τ σ' (g u))) H locs := w
  have hl : lv_has ls 7 [(0, .ref b), (1, .ref (g u 56)), (2, .ref (am 59)), (3, .ref ou), (4, .int (nI (6 * j)))] := by rw [hg u]; exact hl
  refine lv_istore (lv' := [(5, .int kk), (0, .ref b), (1, .ref (g u 56)), (2, .ref (am 59)), (3, .ref ou), (4, .int (nI (6 * j)))]) E.x E.b d_law_554 hl (by decide) rfl (fun ls hl => ?_)
  refine lv_aload_n E.x E.b d_law_556 rfl (lv_at hl 3 rfl) ?_
  refine lv_aload_n E.x E.b d_law_557 rfl (lv_at hl 1 rfl) ?_
  refine lv_iload E.x E.b d_law_558 (lv_at hl 5 rfl) ?_
  refine lv_iconst (v := 1) E.x E.b d_law_560 (by decide) ?_
  refine lv_iadd E.x E.b d_law_561 ?_
  refine wi_c (v := nI (6 * j + 1)) (n_add (6 * j) 1) ?_
  refine va_sld E.1 E.2.1 hX hbl hbA w.2.2 (vp_in_iff.mpr (n_inb (6 * j + 1) L (by omega) (by omega))) d_law_562 ?_
  refine wi_c (v := xs (6 * j + 1)) (congrArg xs (n_nat (6 * j + 1) (by omega))) ?_
  refine gl_i E.C w (va_runV (As := [.int (xs (6 * j + 1))]) (rest := []) E.fix (c_Mod_about l D τ B φ am (xs (6 * j + 1)) (φ', bb) hG _) (cwV 1 E.w (tw_pre (tw_good k2488) (l := [_, _, _, _]) (List.forall_mem_cons.mpr ⟨k2485, List.forall_mem_cons.mpr ⟨k2486, List.forall_mem_cons.mpr ⟨k2487, List.forall_mem_cons.mpr ⟨k14, fun _ h => absurd h List.not_mem_nil⟩⟩⟩⟩)) rfl rfl rfl (by decide +kernel) (E.rm (by decide) (by decide))) (pvL E.C w [.int (xs (6 * j + 1))] (q0 := 59) rfl rfl) rfl rfl hl.1 rfl (lv_room (Nat.le_of_ble_eq_true rfl)) d_law_563 ⟨show 200 + 3 * (j + 1) + 0 ≤ 622622 by omega, show 130000 + 6 * (j + 1) + Pot σ' + 0 ≤ 7228240 by omega⟩) (fun r u9 H locs hr w => ?_)
  refine W.widen (k := 200 + 3 * (j + 1)) (n := 130000 + 6 * (j + 1) + Pot σ') (by omega) (by omega) ?_
  have hr : r = bb := hr
  rw [hr]
  have w : Wd s D A (wdM τ φ' am ++ ([oc τ ou f'] ++ wdC τ σ' (g u))) H locs := w
  refine lv_istore (lv' := [(6, .int bb), (5, .int kk), (0, .ref b), (1, .ref (g u 56)), (2, .ref (am 59)), (3, .ref ou), (4, .int (nI (6 * j)))]) E.x E.b d_law_566 hl (by decide) rfl (fun ls hl => ?_)
  refine lv_aload_n E.x E.b d_law_568 rfl (lv_at hl 4 rfl) ?_
  refine gl_i E.C w (va_runV (As := []) (rest := []) E.fix (c_Mod_thrown l D τ B φ' am (φ'.1 0) rfl _) (cwV 0 E.w (tw_pre (tw_good k1826) (l := [_, _, _, _]) (List.forall_mem_cons.mpr ⟨k1823, List.forall_mem_cons.mpr ⟨k1824, List.forall_mem_cons.mpr ⟨k1825, List.forall_mem_cons.mpr ⟨k14, fun _ h => absurd h List.not_mem_nil⟩⟩⟩⟩)) rfl rfl rfl (by decide +kernel) (E.rm (by decide) (by decide))) (pvL E.C w [] (q0 := 59) rfl rfl) rfl rfl hl.1 rfl (lv_room (Nat.le_of_ble_eq_true rfl)) d_law_569 ⟨show 200 + 3 * (j + 1) + 0 ≤ 622622 by omega, show 130000 + 6 * (j + 1) + Pot σ' + 0 ≤ 7228240 by omega⟩) (fun r u9 H locs hr w => ?_)
  refine W.widen (k := 200 + 3 * (j + 1)) (n := 130000 + 6 * (j + 1) + Pot σ') (by omega) (by omega) ?_
  have hr : r = φ'.1 0 := hr
  rw [hr, h0]
  have w : Wd s D A (wdM τ φ' am ++ ([oc τ ou f'] ++ wdC τ σ' (g u))) H locs := w
  refine lv_iload E.x E.b d_law_572 (lv_at hl 1 rfl) ?_
  refine lv_icmp_eq (tgt := 579) E.x E.b d_law_574 (by decide) (fun c9 => ?_) (fun c9 => absurd rfl c9)
  refine lv_iload E.x E.b d_law_579 (lv_at hl 1 rfl) ?_
  refine lv_if_ne (tgt := 596) E.x E.b d_law_581 (by decide) (fun c9 => ?_) (fun c9 => ?_)
  · refine lv_goto (tgt := 847) E.x E.b d_law_596 (by decide) ?_
    exact K σ' φ' (g u) f' _ _ _ hI w (lv_sub hl [2, 3, 4, 5, 6] rfl)
  refine lv_aload_n E.x E.b d_law_584 rfl (lv_at hl 5 rfl) ?_
  refine lv_iconst (v := 0) E.x E.b d_law_585 (by decide) ?_
  refine va_lald E.1 E.2.1 E.K w.1 67 1 rfl rfl (vp_in_iff.mpr (by decide)) d_law_586 ?_
  refine wl_c (v := bb.toInt64) (hb0 c9) ?_
  refine lv_iload E.x E.b d_law_587 (lv_at hl 0 rfl) ?_
  refine lv_i2l (v := bb.toInt64) E.x E.b d_law_589 rfl ?_
  refine W.lcmp E.x E.b d_law_590 ?_
  refine wi_c (v := 0) (lgc_eq.mpr rfl) ?_
  refine lv_if_eq (tgt := 596) E.x E.b d_law_591 (by decide) (fun c8 => ?_) (fun c8 => absurd rfl c8)
  refine lv_goto (tgt := 847) E.x E.b d_law_596 (by decide) ?_
  exact K σ' φ' (g u) f' _ _ _ hI w (lv_sub hl [2, 3, 4, 5, 6] rfl)
set_option maxRecDepth 100000 in
set_option maxHeartbeats 4000000 in
theorem lc_at {p : Program} {e : Env} {s : State} {m : MethodId} {below : List Frame} {meth : Method} {c : Code} (l : Launch) (hfl : l.stackTraces = false) {D : va_G} {τ : ClassId × ClassId × ClassId} {B : Nat} {A : Nat → Prop} {b L : Nat} {xs : Nat → Int32} {Q : State → Prop} (j : Nat) (σ φ : Sg) (ad am : Nat → Nat) (f : Nat → Int64) (ou : Nat) {H : Heap} {locs : List Loc} {ls : Array Slot} (E : Cx p room_1 s m #[.ref b] meth c code 7 "DrawingMachineLaw" 30 D τ B A) (hX : va_X b L xs s s.heap) (hbl : b < s.heap.size) (hbA : ¬ A b) (hL : L ≤ 3072) (hj : 6 * j + 6 ≤ L) (I : Inv σ φ) (w : Wd s D A (wdM τ φ am ++ ([oc τ ou f] ++ wdC τ σ ad)) H locs) (hl : lv_has ls 7 [(0, .ref b), (1, .ref (ad 56)), (2, .ref (am 59)), (3, .ref ou), (4, .int (nI (6 * j)))])
    (K : ∀ (σ φ : Sg) (ad : Nat → Nat) (f : Nat → Int64) (H : Heap) (locs : List Loc) (ls : Array Slot), Inv σ φ → Wd s D A (wdM τ φ am ++ ([oc τ ou f] ++ wdC τ σ ad)) H locs → lv_has ls 7 [(0, .ref b), (1, .ref (ad 56)), (2, .ref (am 59)), (3, .ref ou), (4, .int (nI (6 * j)))] → W p l e room_1 s m #[.ref b] below meth c H locs (200 + 3 * (j + 1)) (130000 + 6 * (j + 1) + Pot σ) Q (F0 m 847 ls [])) : W p l e room_1 s m #[.ref b] below meth c H locs (200 + 3 * j) (130000 + 6 * j + Pot σ) Q (F0 m 599 ls []) := by
  obtain ⟨S, g, kk, bb, σ', φ', f', mc, ms, hM, hg, hG, hI, h0, hb0, hmc, hms⟩ := op_at l D τ B σ φ ad f ou hfl I (xs (6 * j + 1)) (xs (6 * j + 2)) (xs (6 * j + 3))
  have hp1 := I.pot
  have hp2 := hI.pot
  refine lv_aload_n E.x E.b d_law_599 rfl (lv_at hl 1 rfl) ?_
  refine lv_aload_n E.x E.b d_law_600 rfl (lv_at hl 0 rfl) ?_
  refine lv_iload E.x E.b d_law_601 (lv_at hl 4 rfl) ?_
  refine lv_iconst (v := 1) E.x E.b d_law_603 (by decide) ?_
  refine lv_iadd E.x E.b d_law_604 ?_
  refine wi_c (v := nI (6 * j + 1)) (n_add (6 * j) 1) ?_
  refine va_sld E.1 E.2.1 hX hbl hbA w.2.2 (vp_in_iff.mpr (n_inb (6 * j + 1) L (by omega) (by omega))) d_law_605 ?_
  refine wi_c (v := xs (6 * j + 1)) (congrArg xs (n_nat (6 * j + 1) (by omega))) ?_
  refine lv_aload_n E.x E.b d_law_606 rfl (lv_at hl 0 rfl) ?_
  refine lv_iload E.x E.b d_law_607 (lv_at hl 4 rfl) ?_
  refine lv_iconst (v := 2) E.x E.b d_law_609 (by decide) ?_
  refine lv_iadd E.x E.b d_law_610 ?_
  refine wi_c (v := nI (6 * j + 2)) (n_add (6 * j) 2) ?_
  refine va_sld E.1 E.2.1 hX hbl hbA w.2.2 (vp_in_iff.mpr (n_inb (6 * j + 2) L (by omega) (by omega))) d_law_611 ?_
  refine wi_c (v := xs (6 * j + 2)) (congrArg xs (n_nat (6 * j + 2) (by omega))) ?_
  refine lv_aload_n E.x E.b d_law_612 rfl (lv_at hl 0 rfl) ?_
  refine lv_iload E.x E.b d_law_613 (lv_at hl 4 rfl) ?_
  refine lv_iconst (v := 3) E.x E.b d_law_615 (by decide) ?_
  refine lv_iadd E.x E.b d_law_616 ?_
  refine wi_c (v := nI (6 * j + 3)) (n_add (6 * j) 3) ?_
  refine va_sld E.1 E.2.1 hX hbl hbA w.2.2 (vp_in_iff.mpr (n_inb (6 * j + 3) L (by omega) (by omega))) d_law_617 ?_
  refine wi_c (v := xs (6 * j + 3)) (congrArg xs (n_nat (6 * j + 3) (by omega))) ?_
  refine lv_aload_n E.x E.b d_law_618 rfl (lv_at hl 3 rfl) ?_
  refine gr_i E.C w (tq_runSW (n := 5) (hh := [(0, 12, 15, 13), (0, 12, 19, 19)]) (As := [.ref (ad 56), .int (xs (6 * j + 1)), .int (xs (6 * j + 2)), .int (xs (6 * j + 3)), .ref ou]) (rest := []) E.fix (hM _) E.w (tw_goodW k1386) rfl rfl rfl ⟨Nat.le_of_ble_eq_true rfl, Nat.le_of_ble_eq_true rfl⟩ (E.w _ k0) (by decide +kernel) (E.w _ k1384) (E.w _ k1385) (psR E.C w [.ref (ad 56), .int (xs (6 * j + 1)), .int (xs (6 * j + 2)), .int (xs (6 * j + 3)), .ref ou]) rfl rfl hl.1 rfl (lv_room (Nat.le_of_ble_eq_true rfl)) d_law_619 ⟨show 200 + 3 * j + mc ≤ 622622 by omega, show 130000 + 6 * j + Pot σ + ms ≤ 7228240 by omega⟩) (fun r u H locs hr w => ?_)
  have hr : r = kk := hr
  rw [hr]
  refine W.widen (k := 200 + 3 * (j + 1)) (n := 130000 + 6 * (j + 1) + Pot σ') (by omega) (by omega) ?_
  have w : Wd s D A (wdM τ φ am ++ ([oc τ ou f'] ++ wdC τ σ' (g u))) H locs := w
  have hl : lv_has ls 7 [(0, .ref b), (1, .ref (g u 56)), (2, .ref (am 59)), (3, .ref ou), (4, .int (nI (6 * j)))] := by rw [hg u]; exact hl
  refine lv_istore (lv' := [(5, .int kk), (0, .ref b), (1, .ref (g u 56)), (2, .ref (am 59)), (3, .ref ou), (4, .int (nI (6 * j)))]) E.x E.b d_law_622 hl (by decide) rfl (fun ls hl => ?_)
  refine lv_aload_n E.x E.b d_law_624 rfl (lv_at hl 3 rfl) ?_
  refine lv_aload_n E.x E.b d_law_625 rfl (lv_at hl 1 rfl) ?_
  refine lv_iload E.x E.b d_law_626 (lv_at hl 5 rfl) ?_
  refine lv_iconst (v := 1) E.x E.b d_law_628 (by decide) ?_
  refine lv_iadd E.x E.b d_law_629 ?_
  refine wi_c (v := nI (6 * j + 1)) (n_add (6 * j) 1) ?_
  refine va_sld E.1 E.2.1 hX hbl hbA w.2.2 (vp_in_iff.mpr (n_inb (6 * j + 1) L (by omega) (by omega))) d_law_630 ?_
  refine wi_c (v := xs (6 * j + 1)) (congrArg xs (n_nat (6 * j + 1) (by omega))) ?_
  refine lv_aload_n E.x E.b d_law_631 rfl (lv_at hl 1 rfl) ?_
  refine lv_iload E.x E.b d_law_632 (lv_at hl 5 rfl) ?_
  refine lv_iconst (v := 2) E.x E.b d_law_634 (by decide) ?_
  refine lv_iadd E.x E.b d_law_635 ?_
  refine wi_c (v := nI (6 * j + 2)) (n_add (6 * j) 2) ?_
  refine va_sld E.1 E.2.1 hX hbl hbA w.2.2 (vp_in_iff.mpr (n_inb (6 * j + 2) L (by omega) (by omega))) d_law_636 ?_
  refine wi_c (v := xs (6 * j + 2)) (congrArg xs (n_nat (6 * j + 2) (by omega))) ?_
  refine lv_aload_n E.x E.b d_law_637 rfl (lv_at hl 1 rfl) ?_
  refine lv_iload E.x E.b d_law_638 (lv_at hl 5 rfl) ?_
  refine lv_iconst (v := 3) E.x E.b d_law_640 (by decide) ?_
  refine lv_iadd E.x E.b d_law_641 ?_
  refine wi_c (v := nI (6 * j + 3)) (n_add (6 * j) 3) ?_
  refine va_sld E.1 E.2.1 hX hbl hbA w.2.2 (vp_in_iff.mpr (n_inb (6 * j + 3) L (by omega) (by omega))) d_law_642 ?_
  refine wi_c (v := xs (6 * j + 3)) (congrArg xs (n_nat (6 * j + 3) (by omega))) ?_
  refine gl_i E.C w (va_runV (As := [.int (xs (6 * j + 1)), .int (xs (6 * j + 2)), .int (xs (6 * j + 3))]) (rest := []) E.fix (c_Mod_at l D τ B φ am (xs (6 * j + 1)) (xs (6 * j + 2)) (xs (6 * j + 3)) (φ', bb) hG _) (cwV 3 E.w (tw_pre (tw_good k2498) (l := [_, _, _, _]) (List.forall_mem_cons.mpr ⟨k2495, List.forall_mem_cons.mpr ⟨k2496, List.forall_mem_cons.mpr ⟨k2497, List.forall_mem_cons.mpr ⟨k14, fun _ h => absurd h List.not_mem_nil⟩⟩⟩⟩)) rfl rfl rfl (by decide +kernel) (E.rm (by decide) (by decide))) (pvL E.C w [.int (xs (6 * j + 1)), .int (xs (6 * j + 2)), .int (xs (6 * j + 3))] (q0 := 59) rfl rfl) rfl rfl hl.1 rfl (lv_room (Nat.le_of_ble_eq_true rfl)) d_law_643 ⟨show 200 + 3 * (j + 1) + 0 ≤ 622622 by omega, show 130000 + 6 * (j + 1) + Pot σ' + 0 ≤ 7228240 by omega⟩) (fun r u9 H locs hr w => ?_)
  refine W.widen (k := 200 + 3 * (j + 1)) (n := 130000 + 6 * (j + 1) + Pot σ') (by omega) (by omega) ?_
  have hr : r = bb := hr
  rw [hr]
  have w : Wd s D A (wdM τ φ' am ++ ([oc τ ou f'] ++ wdC τ σ' (g u))) H locs := w
  refine lv_istore (lv' := [(6, .int bb), (5, .int kk), (0, .ref b), (1, .ref (g u 56)), (2, .ref (am 59)), (3, .ref ou), (4, .int (nI (6 * j)))]) E.x E.b d_law_646 hl (by decide) rfl (fun ls hl => ?_)
  refine lv_aload_n E.x E.b d_law_648 rfl (lv_at hl 4 rfl) ?_
  refine gl_i E.C w (va_runV (As := []) (rest := []) E.fix (c_Mod_thrown l D τ B φ' am (φ'.1 0) rfl _) (cwV 0 E.w (tw_pre (tw_good k1826) (l := [_, _, _, _]) (List.forall_mem_cons.mpr ⟨k1823, List.forall_mem_cons.mpr ⟨k1824, List.forall_mem_cons.mpr ⟨k1825, List.forall_mem_cons.mpr ⟨k14, fun _ h => absurd h List.not_mem_nil⟩⟩⟩⟩)) rfl rfl rfl (by decide +kernel) (E.rm (by decide) (by decide))) (pvL E.C w [] (q0 := 59) rfl rfl) rfl rfl hl.1 rfl (lv_room (Nat.le_of_ble_eq_true rfl)) d_law_649 ⟨show 200 + 3 * (j + 1) + 0 ≤ 622622 by omega, show 130000 + 6 * (j + 1) + Pot σ' + 0 ≤ 7228240 by omega⟩) (fun r u9 H locs hr w => ?_)
  refine W.widen (k := 200 + 3 * (j + 1)) (n := 130000 + 6 * (j + 1) + Pot σ') (by omega) (by omega) ?_
  have hr : r = φ'.1 0 := hr
  rw [hr, h0]
  have w : Wd s D A (wdM τ φ' am ++ ([oc τ ou f'] ++ wdC τ σ' (g u))) H locs := w
  refine lv_iload E.x E.b d_law_652 (lv_at hl 1 rfl) ?_
  refine lv_icmp_eq (tgt := 659) E.x E.b d_law_654 (by decide) (fun c9 => ?_) (fun c9 => absurd rfl c9)
  refine lv_iload E.x E.b d_law_659 (lv_at hl 1 rfl) ?_
  refine lv_if_ne (tgt := 676) E.x E.b d_law_661 (by decide) (fun c9 => ?_) (fun c9 => ?_)
  · refine lv_goto (tgt := 847) E.x E.b d_law_676 (by decide) ?_
    exact K σ' φ' (g u) f' _ _ _ hI w (lv_sub hl [2, 3, 4, 5, 6] rfl)
  refine lv_aload_n E.x E.b d_law_664 rfl (lv_at hl 5 rfl) ?_
  refine lv_iconst (v := 0) E.x E.b d_law_665 (by decide) ?_
  refine va_lald E.1 E.2.1 E.K w.1 67 1 rfl rfl (vp_in_iff.mpr (by decide)) d_law_666 ?_
  refine wl_c (v := bb.toInt64) (hb0 c9) ?_
  refine lv_iload E.x E.b d_law_667 (lv_at hl 0 rfl) ?_
  refine lv_i2l (v := bb.toInt64) E.x E.b d_law_669 rfl ?_
  refine W.lcmp E.x E.b d_law_670 ?_
  refine wi_c (v := 0) (lgc_eq.mpr rfl) ?_
  refine lv_if_eq (tgt := 676) E.x E.b d_law_671 (by decide) (fun c8 => ?_) (fun c8 => absurd rfl c8)
  refine lv_goto (tgt := 847) E.x E.b d_law_676 (by decide) ?_
  exact K σ' φ' (g u) f' _ _ _ hI w (lv_sub hl [2, 3, 4, 5, 6] rfl)
set_option maxRecDepth 100000 in
set_option maxHeartbeats 4000000 in
theorem lc_sum {p : Program} {e : Env} {s : State} {m : MethodId} {below : List Frame} {meth : Method} {c : Code} (l : Launch) (hfl : l.stackTraces = false) {D : va_G} {τ : ClassId × ClassId × ClassId} {B : Nat} {A : Nat → Prop} {b L : Nat} {xs : Nat → Int32} {Q : State → Prop} (j : Nat) (σ φ : Sg) (ad am : Nat → Nat) (f : Nat → Int64) (ou : Nat) {H : Heap} {locs : List Loc} {ls : Array Slot} (E : Cx p room_1 s m #[.ref b] meth c code 7 "DrawingMachineLaw" 30 D τ B A) (hX : va_X b L xs s s.heap) (hbl : b < s.heap.size) (hbA : ¬ A b) (hL : L ≤ 3072) (hj : 6 * j + 6 ≤ L) (I : Inv σ φ) (w : Wd s D A (wdM τ φ am ++ ([oc τ ou f] ++ wdC τ σ ad)) H locs) (hl : lv_has ls 7 [(0, .ref b), (1, .ref (ad 56)), (2, .ref (am 59)), (3, .ref ou), (4, .int (nI (6 * j)))])
    (K : ∀ (σ φ : Sg) (ad : Nat → Nat) (f : Nat → Int64) (H : Heap) (locs : List Loc) (ls : Array Slot), Inv σ φ → Wd s D A (wdM τ φ am ++ ([oc τ ou f] ++ wdC τ σ ad)) H locs → lv_has ls 7 [(0, .ref b), (1, .ref (ad 56)), (2, .ref (am 59)), (3, .ref ou), (4, .int (nI (6 * j)))] → W p l e room_1 s m #[.ref b] below meth c H locs (200 + 3 * (j + 1)) (130000 + 6 * (j + 1) + Pot σ) Q (F0 m 847 ls [])) : W p l e room_1 s m #[.ref b] below meth c H locs (200 + 3 * j) (130000 + 6 * j + Pot σ) Q (F0 m 679 ls []) := by
  obtain ⟨S, g, kk, bb, σ', φ', f', mc, ms, hM, hg, hG, hI, h0, hb0, hmc, hms⟩ := op_sum l D τ B σ φ ad f ou hfl I (xs (6 * j + 1))
  have hp1 := I.pot
  have hp2 := hI.pot
  refine lv_aload_n E.x E.b d_law_679 rfl (lv_at hl 1 rfl) ?_
  refine lv_aload_n E.x E.b d_law_680 rfl (lv_at hl 0 rfl) ?_
  refine lv_iload E.x E.b d_law_681 (lv_at hl 4 rfl) ?_
  refine lv_iconst (v := 1) E.x E.b d_law_683 (by decide) ?_
  refine lv_iadd E.x E.b d_law_684 ?_
  refine wi_c (v := nI (6 * j + 1)) (n_add (6 * j) 1) ?_
  refine va_sld E.1 E.2.1 hX hbl hbA w.2.2 (vp_in_iff.mpr (n_inb (6 * j + 1) L (by omega) (by omega))) d_law_685 ?_
  refine wi_c (v := xs (6 * j + 1)) (congrArg xs (n_nat (6 * j + 1) (by omega))) ?_
  refine lv_aload_n E.x E.b d_law_686 rfl (lv_at hl 3 rfl) ?_
  refine gr_i E.C w (tq_runSW (n := 3) (hh := [(0, 9, 12, 13)]) (As := [.ref (ad 56), .int (xs (6 * j + 1)), .ref ou]) (rest := []) E.fix (hM _) E.w (tw_goodW k1395) rfl rfl rfl ⟨Nat.le_of_ble_eq_true rfl, Nat.le_of_ble_eq_true rfl⟩ (E.w _ k0) (by decide +kernel) (E.w _ k1393) (E.w _ k1394) (psR E.C w [.ref (ad 56), .int (xs (6 * j + 1)), .ref ou]) rfl rfl hl.1 rfl (lv_room (Nat.le_of_ble_eq_true rfl)) d_law_687 ⟨show 200 + 3 * j + mc ≤ 622622 by omega, show 130000 + 6 * j + Pot σ + ms ≤ 7228240 by omega⟩) (fun r u H locs hr w => ?_)
  have hr : r = kk := hr
  rw [hr]
  refine W.widen (k := 200 + 3 * (j + 1)) (n := 130000 + 6 * (j + 1) + Pot σ') (by omega) (by omega) ?_
  have w : Wd s D A (wdM τ φ am ++ ([oc τ ou f'] ++ wdC τ σ' (g u))) H locs := w
  have hl : lv_has ls 7 [(0, .ref b), (1, .ref (g u 56)), (2, .ref (am 59)), (3, .ref ou), (4, .int (nI (6 * j)))] := by rw [hg u]; exact hl
  refine lv_istore (lv' := [(5, .int kk), (0, .ref b), (1, .ref (g u 56)), (2, .ref (am 59)), (3, .ref ou), (4, .int (nI (6 * j)))]) E.x E.b d_law_690 hl (by decide) rfl (fun ls hl => ?_)
  refine lv_aload_n E.x E.b d_law_692 rfl (lv_at hl 3 rfl) ?_
  refine lv_aload_n E.x E.b d_law_693 rfl (lv_at hl 1 rfl) ?_
  refine lv_iload E.x E.b d_law_694 (lv_at hl 5 rfl) ?_
  refine lv_iconst (v := 1) E.x E.b d_law_696 (by decide) ?_
  refine lv_iadd E.x E.b d_law_697 ?_
  refine wi_c (v := nI (6 * j + 1)) (n_add (6 * j) 1) ?_
  refine va_sld E.1 E.2.1 hX hbl hbA w.2.2 (vp_in_iff.mpr (n_inb (6 * j + 1) L (by omega) (by omega))) d_law_698 ?_
  refine wi_c (v := xs (6 * j + 1)) (congrArg xs (n_nat (6 * j + 1) (by omega))) ?_
  refine gl_i E.C w (va_runV (As := [.int (xs (6 * j + 1))]) (rest := []) E.fix (c_Mod_sum l D τ B φ am (xs (6 * j + 1)) (φ', bb) hG _) (cwV 1 E.w (tw_pre (tw_good k2503) (l := [_, _, _, _]) (List.forall_mem_cons.mpr ⟨k2500, List.forall_mem_cons.mpr ⟨k2501, List.forall_mem_cons.mpr ⟨k2502, List.forall_mem_cons.mpr ⟨k14, fun _ h => absurd h List.not_mem_nil⟩⟩⟩⟩)) rfl rfl rfl (by decide +kernel) (E.rm (by decide) (by decide))) (pvL E.C w [.int (xs (6 * j + 1))] (q0 := 59) rfl rfl) rfl rfl hl.1 rfl (lv_room (Nat.le_of_ble_eq_true rfl)) d_law_699 ⟨show 200 + 3 * (j + 1) + 0 ≤ 622622 by omega, show 130000 + 6 * (j + 1) + Pot σ' + 0 ≤ 7228240 by omega⟩) (fun r u9 H locs hr w => ?_)
  refine W.widen (k := 200 + 3 * (j + 1)) (n := 130000 + 6 * (j + 1) + Pot σ') (by omega) (by omega) ?_
  have hr : r = bb := hr
  rw [hr]
  have w : Wd s D A (wdM τ φ' am ++ ([oc τ ou f'] ++ wdC τ σ' (g u))) H locs := w
  refine lv_istore (lv' := [(6, .int bb), (5, .int kk), (0, .ref b), (1, .ref (g u 56)), (2, .ref (am 59)), (3, .ref ou), (4, .int (nI (6 * j)))]) E.x E.b d_law_702 hl (by decide) rfl (fun ls hl => ?_)
  refine lv_aload_n E.x E.b d_law_704 rfl (lv_at hl 4 rfl) ?_
  refine gl_i E.C w (va_runV (As := []) (rest := []) E.fix (c_Mod_thrown l D τ B φ' am (φ'.1 0) rfl _) (cwV 0 E.w (tw_pre (tw_good k1826) (l := [_, _, _, _]) (List.forall_mem_cons.mpr ⟨k1823, List.forall_mem_cons.mpr ⟨k1824, List.forall_mem_cons.mpr ⟨k1825, List.forall_mem_cons.mpr ⟨k14, fun _ h => absurd h List.not_mem_nil⟩⟩⟩⟩)) rfl rfl rfl (by decide +kernel) (E.rm (by decide) (by decide))) (pvL E.C w [] (q0 := 59) rfl rfl) rfl rfl hl.1 rfl (lv_room (Nat.le_of_ble_eq_true rfl)) d_law_705 ⟨show 200 + 3 * (j + 1) + 0 ≤ 622622 by omega, show 130000 + 6 * (j + 1) + Pot σ' + 0 ≤ 7228240 by omega⟩) (fun r u9 H locs hr w => ?_)
  refine W.widen (k := 200 + 3 * (j + 1)) (n := 130000 + 6 * (j + 1) + Pot σ') (by omega) (by omega) ?_
  have hr : r = φ'.1 0 := hr
  rw [hr, h0]
  have w : Wd s D A (wdM τ φ' am ++ ([oc τ ou f'] ++ wdC τ σ' (g u))) H locs := w
  refine lv_iload E.x E.b d_law_708 (lv_at hl 1 rfl) ?_
  refine lv_icmp_eq (tgt := 715) E.x E.b d_law_710 (by decide) (fun c9 => ?_) (fun c9 => absurd rfl c9)
  refine lv_iload E.x E.b d_law_715 (lv_at hl 1 rfl) ?_
  refine lv_if_ne (tgt := 732) E.x E.b d_law_717 (by decide) (fun c9 => ?_) (fun c9 => ?_)
  · refine lv_goto (tgt := 847) E.x E.b d_law_732 (by decide) ?_
    exact K σ' φ' (g u) f' _ _ _ hI w (lv_sub hl [2, 3, 4, 5, 6] rfl)
  refine lv_aload_n E.x E.b d_law_720 rfl (lv_at hl 5 rfl) ?_
  refine lv_iconst (v := 0) E.x E.b d_law_721 (by decide) ?_
  refine va_lald E.1 E.2.1 E.K w.1 67 1 rfl rfl (vp_in_iff.mpr (by decide)) d_law_722 ?_
  refine wl_c (v := bb.toInt64) (hb0 c9) ?_
  refine lv_iload E.x E.b d_law_723 (lv_at hl 0 rfl) ?_
  refine lv_i2l (v := bb.toInt64) E.x E.b d_law_725 rfl ?_
  refine W.lcmp E.x E.b d_law_726 ?_
  refine wi_c (v := 0) (lgc_eq.mpr rfl) ?_
  refine lv_if_eq (tgt := 732) E.x E.b d_law_727 (by decide) (fun c8 => ?_) (fun c8 => absurd rfl c8)
  refine lv_goto (tgt := 847) E.x E.b d_law_732 (by decide) ?_
  exact K σ' φ' (g u) f' _ _ _ hI w (lv_sub hl [2, 3, 4, 5, 6] rfl)
set_option maxRecDepth 100000 in
set_option maxHeartbeats 4000000 in
theorem lc_query {p : Program} {e : Env} {s : State} {m : MethodId} {below : List Frame} {meth : Method} {c : Code} (l : Launch) (hfl : l.stackTraces = false) {D : va_G} {τ : ClassId × ClassId × ClassId} {B : Nat} {A : Nat → Prop} {b L : Nat} {xs : Nat → Int32} {Q : State → Prop} (j : Nat) (σ φ : Sg) (ad am : Nat → Nat) (f : Nat → Int64) (ou : Nat) {H : Heap} {locs : List Loc} {ls : Array Slot} (E : Cx p room_1 s m #[.ref b] meth c code 7 "DrawingMachineLaw" 30 D τ B A) (hX : va_X b L xs s s.heap) (hbl : b < s.heap.size) (hbA : ¬ A b) (hL : L ≤ 3072) (hj : 6 * j + 6 ≤ L) (I : Inv σ φ) (w : Wd s D A (wdM τ φ am ++ ([oc τ ou f] ++ wdC τ σ ad)) H locs) (hl : lv_has ls 7 [(0, .ref b), (1, .ref (ad 56)), (2, .ref (am 59)), (3, .ref ou), (4, .int (nI (6 * j)))])
    (K : ∀ (σ φ : Sg) (ad : Nat → Nat) (f : Nat → Int64) (H : Heap) (locs : List Loc) (ls : Array Slot), Inv σ φ → Wd s D A (wdM τ φ am ++ ([oc τ ou f] ++ wdC τ σ ad)) H locs → lv_has ls 7 [(0, .ref b), (1, .ref (ad 56)), (2, .ref (am 59)), (3, .ref ou), (4, .int (nI (6 * j)))] → W p l e room_1 s m #[.ref b] below meth c H locs (200 + 3 * (j + 1)) (130000 + 6 * (j + 1) + Pot σ) Q (F0 m 847 ls [])) : W p l e room_1 s m #[.ref b] below meth c H locs (200 + 3 * j) (130000 + 6 * j + Pot σ) Q (F0 m 735 ls []) := by
  obtain ⟨S, g, kk, bb, σ', φ', f', mc, ms, hM, hg, hG, hI, h0, hb0, hmc, hms⟩ := op_query l D τ B σ φ ad f ou hfl I (xs (6 * j + 1))
  have hp1 := I.pot
  have hp2 := hI.pot
  refine lv_aload_n E.x E.b d_law_735 rfl (lv_at hl 1 rfl) ?_
  refine lv_aload_n E.x E.b d_law_736 rfl (lv_at hl 0 rfl) ?_
  refine lv_iload E.x E.b d_law_737 (lv_at hl 4 rfl) ?_
  refine lv_iconst (v := 1) E.x E.b d_law_739 (by decide) ?_
  refine lv_iadd E.x E.b d_law_740 ?_
  refine wi_c (v := nI (6 * j + 1)) (n_add (6 * j) 1) ?_
  refine va_sld E.1 E.2.1 hX hbl hbA w.2.2 (vp_in_iff.mpr (n_inb (6 * j + 1) L (by omega) (by omega))) d_law_741 ?_
  refine wi_c (v := xs (6 * j + 1)) (congrArg xs (n_nat (6 * j + 1) (by omega))) ?_
  refine lv_aload_n E.x E.b d_law_742 rfl (lv_at hl 3 rfl) ?_
  refine gr_i E.C w (tq_runSW (n := 3) (hh := [(0, 9, 12, 13)]) (As := [.ref (ad 56), .int (xs (6 * j + 1)), .ref ou]) (rest := []) E.fix (hM _) E.w (tw_goodW k1403) rfl rfl rfl ⟨Nat.le_of_ble_eq_true rfl, Nat.le_of_ble_eq_true rfl⟩ (E.w _ k0) (by decide +kernel) (E.w _ k1401) (E.w _ k1402) (psR E.C w [.ref (ad 56), .int (xs (6 * j + 1)), .ref ou]) rfl rfl hl.1 rfl (lv_room (Nat.le_of_ble_eq_true rfl)) d_law_743 ⟨show 200 + 3 * j + mc ≤ 622622 by omega, show 130000 + 6 * j + Pot σ + ms ≤ 7228240 by omega⟩) (fun r u H locs hr w => ?_)
  have hr : r = kk := hr
  rw [hr]
  refine W.widen (k := 200 + 3 * (j + 1)) (n := 130000 + 6 * (j + 1) + Pot σ') (by omega) (by omega) ?_
  have w : Wd s D A (wdM τ φ am ++ ([oc τ ou f'] ++ wdC τ σ' (g u))) H locs := w
  have hl : lv_has ls 7 [(0, .ref b), (1, .ref (g u 56)), (2, .ref (am 59)), (3, .ref ou), (4, .int (nI (6 * j)))] := by rw [hg u]; exact hl
  refine lv_istore (lv' := [(5, .int kk), (0, .ref b), (1, .ref (g u 56)), (2, .ref (am 59)), (3, .ref ou), (4, .int (nI (6 * j)))]) E.x E.b d_law_746 hl (by decide) rfl (fun ls hl => ?_)
  refine lv_aload_n E.x E.b d_law_748 rfl (lv_at hl 3 rfl) ?_
  refine lv_aload_n E.x E.b d_law_749 rfl (lv_at hl 1 rfl) ?_
  refine lv_iload E.x E.b d_law_750 (lv_at hl 5 rfl) ?_
  refine lv_iconst (v := 1) E.x E.b d_law_752 (by decide) ?_
  refine lv_iadd E.x E.b d_law_753 ?_
  refine wi_c (v := nI (6 * j + 1)) (n_add (6 * j) 1) ?_
  refine va_sld E.1 E.2.1 hX hbl hbA w.2.2 (vp_in_iff.mpr (n_inb (6 * j + 1) L (by omega) (by omega))) d_law_754 ?_
  refine wi_c (v := xs (6 * j + 1)) (congrArg xs (n_nat (6 * j + 1) (by omega))) ?_
  refine gl_i E.C w (va_runV (As := [.int (xs (6 * j + 1))]) (rest := []) E.fix (c_Mod_query l D τ B φ am (xs (6 * j + 1)) (φ', bb) hG _) (cwV 1 E.w (tw_pre (tw_good k2512) (l := [_, _, _, _]) (List.forall_mem_cons.mpr ⟨k2509, List.forall_mem_cons.mpr ⟨k2510, List.forall_mem_cons.mpr ⟨k2511, List.forall_mem_cons.mpr ⟨k14, fun _ h => absurd h List.not_mem_nil⟩⟩⟩⟩)) rfl rfl rfl (by decide +kernel) (E.rm (by decide) (by decide))) (pvL E.C w [.int (xs (6 * j + 1))] (q0 := 59) rfl rfl) rfl rfl hl.1 rfl (lv_room (Nat.le_of_ble_eq_true rfl)) d_law_755 ⟨show 200 + 3 * (j + 1) + 0 ≤ 622622 by omega, show 130000 + 6 * (j + 1) + Pot σ' + 0 ≤ 7228240 by omega⟩) (fun r u9 H locs hr w => ?_)
  refine W.widen (k := 200 + 3 * (j + 1)) (n := 130000 + 6 * (j + 1) + Pot σ') (by omega) (by omega) ?_
  have hr : r = bb := hr
  rw [hr]
  have w : Wd s D A (wdM τ φ' am ++ ([oc τ ou f'] ++ wdC τ σ' (g u))) H locs := w
  refine lv_istore (lv' := [(6, .int bb), (5, .int kk), (0, .ref b), (1, .ref (g u 56)), (2, .ref (am 59)), (3, .ref ou), (4, .int (nI (6 * j)))]) E.x E.b d_law_758 hl (by decide) rfl (fun ls hl => ?_)
  refine lv_aload_n E.x E.b d_law_760 rfl (lv_at hl 4 rfl) ?_
  refine gl_i E.C w (va_runV (As := []) (rest := []) E.fix (c_Mod_thrown l D τ B φ' am (φ'.1 0) rfl _) (cwV 0 E.w (tw_pre (tw_good k1826) (l := [_, _, _, _]) (List.forall_mem_cons.mpr ⟨k1823, List.forall_mem_cons.mpr ⟨k1824, List.forall_mem_cons.mpr ⟨k1825, List.forall_mem_cons.mpr ⟨k14, fun _ h => absurd h List.not_mem_nil⟩⟩⟩⟩)) rfl rfl rfl (by decide +kernel) (E.rm (by decide) (by decide))) (pvL E.C w [] (q0 := 59) rfl rfl) rfl rfl hl.1 rfl (lv_room (Nat.le_of_ble_eq_true rfl)) d_law_761 ⟨show 200 + 3 * (j + 1) + 0 ≤ 622622 by omega, show 130000 + 6 * (j + 1) + Pot σ' + 0 ≤ 7228240 by omega⟩) (fun r u9 H locs hr w => ?_)
  refine W.widen (k := 200 + 3 * (j + 1)) (n := 130000 + 6 * (j + 1) + Pot σ') (by omega) (by omega) ?_
  have hr : r = φ'.1 0 := hr
  rw [hr, h0]
  have w : Wd s D A (wdM τ φ' am ++ ([oc τ ou f'] ++ wdC τ σ' (g u))) H locs := w
  refine lv_iload E.x E.b d_law_764 (lv_at hl 1 rfl) ?_
  refine lv_icmp_eq (tgt := 771) E.x E.b d_law_766 (by decide) (fun c9 => ?_) (fun c9 => absurd rfl c9)
  refine lv_iload E.x E.b d_law_771 (lv_at hl 1 rfl) ?_
  refine lv_if_ne (tgt := 788) E.x E.b d_law_773 (by decide) (fun c9 => ?_) (fun c9 => ?_)
  · refine lv_goto (tgt := 847) E.x E.b d_law_788 (by decide) ?_
    exact K σ' φ' (g u) f' _ _ _ hI w (lv_sub hl [2, 3, 4, 5, 6] rfl)
  refine lv_aload_n E.x E.b d_law_776 rfl (lv_at hl 5 rfl) ?_
  refine lv_iconst (v := 0) E.x E.b d_law_777 (by decide) ?_
  refine va_lald E.1 E.2.1 E.K w.1 67 1 rfl rfl (vp_in_iff.mpr (by decide)) d_law_778 ?_
  refine wl_c (v := bb.toInt64) (hb0 c9) ?_
  refine lv_iload E.x E.b d_law_779 (lv_at hl 0 rfl) ?_
  refine lv_i2l (v := bb.toInt64) E.x E.b d_law_781 rfl ?_
  refine W.lcmp E.x E.b d_law_782 ?_
  refine wi_c (v := 0) (lgc_eq.mpr rfl) ?_
  refine lv_if_eq (tgt := 788) E.x E.b d_law_783 (by decide) (fun c8 => ?_) (fun c8 => absurd rfl c8)
  refine lv_goto (tgt := 847) E.x E.b d_law_788 (by decide) ?_
  exact K σ' φ' (g u) f' _ _ _ hI w (lv_sub hl [2, 3, 4, 5, 6] rfl)
set_option maxRecDepth 100000 in
set_option maxHeartbeats 4000000 in
theorem lc_count {p : Program} {e : Env} {s : State} {m : MethodId} {below : List Frame} {meth : Method} {c : Code} (l : Launch) (hfl : l.stackTraces = false) {D : va_G} {τ : ClassId × ClassId × ClassId} {B : Nat} {A : Nat → Prop} {b L : Nat} {xs : Nat → Int32} {Q : State → Prop} (j : Nat) (σ φ : Sg) (ad am : Nat → Nat) (f : Nat → Int64) (ou : Nat) {H : Heap} {locs : List Loc} {ls : Array Slot} (E : Cx p room_1 s m #[.ref b] meth c code 7 "DrawingMachineLaw" 30 D τ B A) (hX : va_X b L xs s s.heap) (hbl : b < s.heap.size) (hbA : ¬ A b) (hL : L ≤ 3072) (hj : 6 * j + 6 ≤ L) (I : Inv σ φ) (w : Wd s D A (wdM τ φ am ++ ([oc τ ou f] ++ wdC τ σ ad)) H locs) (hl : lv_has ls 7 [(0, .ref b), (1, .ref (ad 56)), (2, .ref (am 59)), (3, .ref ou), (4, .int (nI (6 * j)))])
    (K : ∀ (σ φ : Sg) (ad : Nat → Nat) (f : Nat → Int64) (H : Heap) (locs : List Loc) (ls : Array Slot), Inv σ φ → Wd s D A (wdM τ φ am ++ ([oc τ ou f] ++ wdC τ σ ad)) H locs → lv_has ls 7 [(0, .ref b), (1, .ref (ad 56)), (2, .ref (am 59)), (3, .ref ou), (4, .int (nI (6 * j)))] → W p l e room_1 s m #[.ref b] below meth c H locs (200 + 3 * (j + 1)) (130000 + 6 * (j + 1) + Pot σ) Q (F0 m 847 ls [])) : W p l e room_1 s m #[.ref b] below meth c H locs (200 + 3 * j) (130000 + 6 * j + Pot σ) Q (F0 m 791 ls []) := by
  obtain ⟨S, g, kk, bb, σ', φ', f', mc, ms, hM, hg, hG, hI, h0, hb0, hmc, hms⟩ := op_count l D τ B σ φ ad f ou hfl I (xs (6 * j + 1))
  have hp1 := I.pot
  have hp2 := hI.pot
  refine lv_aload_n E.x E.b d_law_791 rfl (lv_at hl 1 rfl) ?_
  refine lv_aload_n E.x E.b d_law_792 rfl (lv_at hl 0 rfl) ?_
  refine lv_iload E.x E.b d_law_793 (lv_at hl 4 rfl) ?_
  refine lv_iconst (v := 1) E.x E.b d_law_795 (by decide) ?_
  refine lv_iadd E.x E.b d_law_796 ?_
  refine wi_c (v := nI (6 * j + 1)) (n_add (6 * j) 1) ?_
  refine va_sld E.1 E.2.1 hX hbl hbA w.2.2 (vp_in_iff.mpr (n_inb (6 * j + 1) L (by omega) (by omega))) d_law_797 ?_
  refine wi_c (v := xs (6 * j + 1)) (congrArg xs (n_nat (6 * j + 1) (by omega))) ?_
  refine lv_aload_n E.x E.b d_law_798 rfl (lv_at hl 3 rfl) ?_
  refine gr_i E.C w (tq_runSW (n := 3) (hh := [(0, 9, 12, 13)]) (As := [.ref (ad 56), .int (xs (6 * j + 1)), .ref ou]) (rest := []) E.fix (hM _) E.w (tw_goodW k1411) rfl rfl rfl ⟨Nat.le_of_ble_eq_true rfl, Nat.le_of_ble_eq_true rfl⟩ (E.w _ k0) (by decide +kernel) (E.w _ k1409) (E.w _ k1410) (psR E.C w [.ref (ad 56), .int (xs (6 * j + 1)), .ref ou]) rfl rfl hl.1 rfl (lv_room (Nat.le_of_ble_eq_true rfl)) d_law_799 ⟨show 200 + 3 * j + mc ≤ 622622 by omega, show 130000 + 6 * j + Pot σ + ms ≤ 7228240 by omega⟩) (fun r u H locs hr w => ?_)
  have hr : r = kk := hr
  rw [hr]
  refine W.widen (k := 200 + 3 * (j + 1)) (n := 130000 + 6 * (j + 1) + Pot σ') (by omega) (by omega) ?_
  have w : Wd s D A (wdM τ φ am ++ ([oc τ ou f'] ++ wdC τ σ' (g u))) H locs := w
  have hl : lv_has ls 7 [(0, .ref b), (1, .ref (g u 56)), (2, .ref (am 59)), (3, .ref ou), (4, .int (nI (6 * j)))] := by rw [hg u]; exact hl
  refine lv_istore (lv' := [(5, .int kk), (0, .ref b), (1, .ref (g u 56)), (2, .ref (am 59)), (3, .ref ou), (4, .int (nI (6 * j)))]) E.x E.b d_law_802 hl (by decide) rfl (fun ls hl => ?_)
  refine lv_aload_n E.x E.b d_law_804 rfl (lv_at hl 3 rfl) ?_
  refine lv_aload_n E.x E.b d_law_805 rfl (lv_at hl 1 rfl) ?_
  refine lv_iload E.x E.b d_law_806 (lv_at hl 5 rfl) ?_
  refine lv_iconst (v := 1) E.x E.b d_law_808 (by decide) ?_
  refine lv_iadd E.x E.b d_law_809 ?_
  refine wi_c (v := nI (6 * j + 1)) (n_add (6 * j) 1) ?_
  refine va_sld E.1 E.2.1 hX hbl hbA w.2.2 (vp_in_iff.mpr (n_inb (6 * j + 1) L (by omega) (by omega))) d_law_810 ?_
  refine wi_c (v := xs (6 * j + 1)) (congrArg xs (n_nat (6 * j + 1) (by omega))) ?_
  refine gl_i E.C w (va_runV (As := [.int (xs (6 * j + 1))]) (rest := []) E.fix (c_Mod_count l D τ B φ am (xs (6 * j + 1)) (φ', bb) hG _) (cwV 1 E.w (tw_pre (tw_good k2517) (l := [_, _, _, _]) (List.forall_mem_cons.mpr ⟨k2514, List.forall_mem_cons.mpr ⟨k2515, List.forall_mem_cons.mpr ⟨k2516, List.forall_mem_cons.mpr ⟨k14, fun _ h => absurd h List.not_mem_nil⟩⟩⟩⟩)) rfl rfl rfl (by decide +kernel) (E.rm (by decide) (by decide))) (pvL E.C w [.int (xs (6 * j + 1))] (q0 := 59) rfl rfl) rfl rfl hl.1 rfl (lv_room (Nat.le_of_ble_eq_true rfl)) d_law_811 ⟨show 200 + 3 * (j + 1) + 0 ≤ 622622 by omega, show 130000 + 6 * (j + 1) + Pot σ' + 0 ≤ 7228240 by omega⟩) (fun r u9 H locs hr w => ?_)
  refine W.widen (k := 200 + 3 * (j + 1)) (n := 130000 + 6 * (j + 1) + Pot σ') (by omega) (by omega) ?_
  have hr : r = bb := hr
  rw [hr]
  have w : Wd s D A (wdM τ φ' am ++ ([oc τ ou f'] ++ wdC τ σ' (g u))) H locs := w
  refine lv_istore (lv' := [(6, .int bb), (5, .int kk), (0, .ref b), (1, .ref (g u 56)), (2, .ref (am 59)), (3, .ref ou), (4, .int (nI (6 * j)))]) E.x E.b d_law_814 hl (by decide) rfl (fun ls hl => ?_)
  refine lv_aload_n E.x E.b d_law_816 rfl (lv_at hl 4 rfl) ?_
  refine gl_i E.C w (va_runV (As := []) (rest := []) E.fix (c_Mod_thrown l D τ B φ' am (φ'.1 0) rfl _) (cwV 0 E.w (tw_pre (tw_good k1826) (l := [_, _, _, _]) (List.forall_mem_cons.mpr ⟨k1823, List.forall_mem_cons.mpr ⟨k1824, List.forall_mem_cons.mpr ⟨k1825, List.forall_mem_cons.mpr ⟨k14, fun _ h => absurd h List.not_mem_nil⟩⟩⟩⟩)) rfl rfl rfl (by decide +kernel) (E.rm (by decide) (by decide))) (pvL E.C w [] (q0 := 59) rfl rfl) rfl rfl hl.1 rfl (lv_room (Nat.le_of_ble_eq_true rfl)) d_law_817 ⟨show 200 + 3 * (j + 1) + 0 ≤ 622622 by omega, show 130000 + 6 * (j + 1) + Pot σ' + 0 ≤ 7228240 by omega⟩) (fun r u9 H locs hr w => ?_)
  refine W.widen (k := 200 + 3 * (j + 1)) (n := 130000 + 6 * (j + 1) + Pot σ') (by omega) (by omega) ?_
  have hr : r = φ'.1 0 := hr
  rw [hr, h0]
  have w : Wd s D A (wdM τ φ' am ++ ([oc τ ou f'] ++ wdC τ σ' (g u))) H locs := w
  refine lv_iload E.x E.b d_law_820 (lv_at hl 1 rfl) ?_
  refine lv_icmp_eq (tgt := 827) E.x E.b d_law_822 (by decide) (fun c9 => ?_) (fun c9 => absurd rfl c9)
  refine lv_iload E.x E.b d_law_827 (lv_at hl 1 rfl) ?_
  refine lv_if_ne (tgt := 844) E.x E.b d_law_829 (by decide) (fun c9 => ?_) (fun c9 => ?_)
  · refine lv_goto (tgt := 847) E.x E.b d_law_844 (by decide) ?_
    exact K σ' φ' (g u) f' _ _ _ hI w (lv_sub hl [2, 3, 4, 5, 6] rfl)
  refine lv_aload_n E.x E.b d_law_832 rfl (lv_at hl 5 rfl) ?_
  refine lv_iconst (v := 0) E.x E.b d_law_833 (by decide) ?_
  refine va_lald E.1 E.2.1 E.K w.1 67 1 rfl rfl (vp_in_iff.mpr (by decide)) d_law_834 ?_
  refine wl_c (v := bb.toInt64) (hb0 c9) ?_
  refine lv_iload E.x E.b d_law_835 (lv_at hl 0 rfl) ?_
  refine lv_i2l (v := bb.toInt64) E.x E.b d_law_837 rfl ?_
  refine W.lcmp E.x E.b d_law_838 ?_
  refine wi_c (v := 0) (lgc_eq.mpr rfl) ?_
  refine lv_if_eq (tgt := 844) E.x E.b d_law_839 (by decide) (fun c8 => ?_) (fun c8 => absurd rfl c8)
  refine lv_goto (tgt := 847) E.x E.b d_law_844 (by decide) ?_
  exact K σ' φ' (g u) f' _ _ _ hI w (lv_sub hl [2, 3, 4, 5, 6] rfl)
set_option maxRecDepth 100000 in
set_option maxHeartbeats 4000000 in
theorem lc_begin0 {p : Program} {e : Env} {s : State} {m : MethodId} {below : List Frame} {meth : Method} {c : Code} (l : Launch) (hfl : l.stackTraces = false) {D : va_G} {τ : ClassId × ClassId × ClassId} {B : Nat} {A : Nat → Prop} {b L : Nat} {xs : Nat → Int32} {Q : State → Prop} (j : Nat) (σ φ : Sg) (ad am : Nat → Nat) (f : Nat → Int64) (ou : Nat) {H : Heap} {locs : List Loc} {ls : Array Slot} (E : Cx p room_1 s m #[.ref b] meth c code 7 "DrawingMachineLaw" 30 D τ B A) (hX : va_X b L xs s s.heap) (hbl : b < s.heap.size) (hbA : ¬ A b) (hL : L ≤ 3072) (hj : 6 * j + 6 ≤ L) (I : Inv σ φ) (w : Wd s D A (wdM τ φ am ++ ([oc τ ou f] ++ wdC τ σ ad)) H locs) (hl : lv_has ls 7 [(0, .ref b), (1, .ref (ad 56)), (2, .ref (am 59)), (3, .ref ou), (4, .int (nI (6 * j)))])
    (K : ∀ (σ φ : Sg) (ad : Nat → Nat) (f : Nat → Int64) (H : Heap) (locs : List Loc) (ls : Array Slot), Inv σ φ → Wd s D A (wdM τ φ am ++ ([oc τ ou f] ++ wdC τ σ ad)) H locs → lv_has ls 7 [(0, .ref b), (1, .ref (ad 56)), (2, .ref (am 59)), (3, .ref ou), (4, .int (nI (6 * j)))] → W p l e room_1 s m #[.ref b] below meth c H locs (200 + 3 * (j + 1)) (130000 + 6 * (j + 1) + Pot σ) Q (F0 m 847 ls [])) (hv : xs (6 * j + 1) = 0) : W p l e room_1 s m #[.ref b] below meth c H locs (200 + 3 * j) (130000 + 6 * j + Pot σ) Q (F0 m 448 ls []) := by
  obtain ⟨σ', φ', e1, e2, hI, e4⟩ := op_begin σ φ I 0
  have hp1 := I.pot
  have hp2 := hI.pot
  refine lv_aload_n E.x E.b d_law_448 rfl (lv_at hl 1 rfl) ?_
  refine lv_aload_n E.x E.b d_law_449 rfl (lv_at hl 0 rfl) ?_
  refine lv_iload E.x E.b d_law_450 (lv_at hl 4 rfl) ?_
  refine lv_iconst (v := 1) E.x E.b d_law_452 (by decide) ?_
  refine lv_iadd E.x E.b d_law_453 ?_
  refine wi_c (v := nI (6 * j + 1)) (n_add (6 * j) 1) ?_
  refine va_sld E.1 E.2.1 hX hbl hbA w.2.2 (vp_in_iff.mpr (n_inb (6 * j + 1) L (by omega) (by omega))) d_law_454 ?_
  refine wi_c (v := xs (6 * j + 1)) (congrArg xs (n_nat (6 * j + 1) (by omega))) ?_
  refine lv_if_eq (tgt := 462) E.x E.b d_law_455 (by decide) (fun c8 => ?_) (fun c8 => absurd hv c8)
  refine lv_iconst (v := 0) E.x E.b d_law_462 (by decide) ?_
  refine gr_v E.C (X := wdM τ φ am ++ [oc τ ou f]) (Y := wdC τ σ ad) (by rw [List.append_assoc]; exact w) (va_runV (As := [.int 0]) (rest := []) E.fix (c_DM_begin l D τ B σ ad 0 σ' e1 _) (cwV 1 E.w (tw_pre (tw_good k461) (l := [_, _, _, _]) (List.forall_mem_cons.mpr ⟨k458, List.forall_mem_cons.mpr ⟨k459, List.forall_mem_cons.mpr ⟨k460, List.forall_mem_cons.mpr ⟨k1, fun _ h => absurd h List.not_mem_nil⟩⟩⟩⟩)) rfl rfl rfl (by decide +kernel) (E.rm (by decide) (by decide))) (pvR E.C (X := wdM τ φ am ++ [oc τ ou f]) (Y := wdC τ σ ad) (by rw [List.append_assoc]; exact w) [.int 0] (q0 := 56) rfl rfl) rfl rfl hl.1 rfl (lv_room (Nat.le_of_ble_eq_true rfl)) d_law_463 ⟨show 200 + 3 * j + 0 ≤ 622622 by omega, show 130000 + 6 * j + Pot σ + 0 ≤ 7228240 by omega⟩) (fun u H locs hr w => ?_)
  refine W.widen (k := 200 + 3 * j) (n := 130000 + 6 * j + Pot σ) (by omega) (by omega) ?_
  have w : Wd s D A (wdM τ φ am ++ ([oc τ ou f] ++ wdC τ σ' ad)) H locs := by rw [← List.append_assoc]; exact w
  refine lv_aload_n E.x E.b d_law_466 rfl (lv_at hl 2 rfl) ?_
  refine lv_aload_n E.x E.b d_law_467 rfl (lv_at hl 0 rfl) ?_
  refine lv_iload E.x E.b d_law_468 (lv_at hl 4 rfl) ?_
  refine lv_iconst (v := 1) E.x E.b d_law_470 (by decide) ?_
  refine lv_iadd E.x E.b d_law_471 ?_
  refine wi_c (v := nI (6 * j + 1)) (n_add (6 * j) 1) ?_
  refine va_sld E.1 E.2.1 hX hbl hbA w.2.2 (vp_in_iff.mpr (n_inb (6 * j + 1) L (by omega) (by omega))) d_law_472 ?_
  refine wi_c (v := xs (6 * j + 1)) (congrArg xs (n_nat (6 * j + 1) (by omega))) ?_
  refine lv_if_eq (tgt := 480) E.x E.b d_law_473 (by decide) (fun c8 => ?_) (fun c8 => absurd hv c8)
  refine lv_iconst (v := 0) E.x E.b d_law_480 (by decide) ?_
  refine gl_v E.C w (va_runV (As := [.int 0]) (rest := []) E.fix (c_Mod_begin l D τ B φ am 0 φ' e2 _) (cwV 1 E.w (tw_pre (tw_good k1899) (l := [_, _, _, _]) (List.forall_mem_cons.mpr ⟨k1896, List.forall_mem_cons.mpr ⟨k1897, List.forall_mem_cons.mpr ⟨k1898, List.forall_mem_cons.mpr ⟨k14, fun _ h => absurd h List.not_mem_nil⟩⟩⟩⟩)) rfl rfl rfl (by decide +kernel) (E.rm (by decide) (by decide))) (pvL E.C w [.int 0] (q0 := 59) rfl rfl) rfl rfl hl.1 rfl (lv_room (Nat.le_of_ble_eq_true rfl)) d_law_481 ⟨show 200 + 3 * j + 0 ≤ 622622 by omega, show 130000 + 6 * j + Pot σ + 0 ≤ 7228240 by omega⟩) (fun u9 H locs hr w => ?_)
  refine W.widen (k := 200 + 3 * j) (n := 130000 + 6 * j + Pot σ) (by omega) (by omega) ?_
  have w : Wd s D A (wdM τ φ' am ++ ([oc τ ou f] ++ wdC τ σ' ad)) H locs := w
  refine lv_goto (tgt := 847) E.x E.b d_law_484 (by decide) ?_
  refine W.widen (k := 200 + 3 * (j + 1)) (n := 130000 + 6 * (j + 1) + Pot σ') (by omega) (by omega) ?_
  exact K σ' φ' ad f _ _ _ hI w (lv_sub hl [0, 1, 2, 3, 4] rfl)
set_option maxRecDepth 100000 in
set_option maxHeartbeats 4000000 in
theorem lc_begin1 {p : Program} {e : Env} {s : State} {m : MethodId} {below : List Frame} {meth : Method} {c : Code} (l : Launch) (hfl : l.stackTraces = false) {D : va_G} {τ : ClassId × ClassId × ClassId} {B : Nat} {A : Nat → Prop} {b L : Nat} {xs : Nat → Int32} {Q : State → Prop} (j : Nat) (σ φ : Sg) (ad am : Nat → Nat) (f : Nat → Int64) (ou : Nat) {H : Heap} {locs : List Loc} {ls : Array Slot} (E : Cx p room_1 s m #[.ref b] meth c code 7 "DrawingMachineLaw" 30 D τ B A) (hX : va_X b L xs s s.heap) (hbl : b < s.heap.size) (hbA : ¬ A b) (hL : L ≤ 3072) (hj : 6 * j + 6 ≤ L) (I : Inv σ φ) (w : Wd s D A (wdM τ φ am ++ ([oc τ ou f] ++ wdC τ σ ad)) H locs) (hl : lv_has ls 7 [(0, .ref b), (1, .ref (ad 56)), (2, .ref (am 59)), (3, .ref ou), (4, .int (nI (6 * j)))])
    (K : ∀ (σ φ : Sg) (ad : Nat → Nat) (f : Nat → Int64) (H : Heap) (locs : List Loc) (ls : Array Slot), Inv σ φ → Wd s D A (wdM τ φ am ++ ([oc τ ou f] ++ wdC τ σ ad)) H locs → lv_has ls 7 [(0, .ref b), (1, .ref (ad 56)), (2, .ref (am 59)), (3, .ref ou), (4, .int (nI (6 * j)))] → W p l e room_1 s m #[.ref b] below meth c H locs (200 + 3 * (j + 1)) (130000 + 6 * (j + 1) + Pot σ) Q (F0 m 847 ls [])) (hv : ¬ xs (6 * j + 1) = 0) : W p l e room_1 s m #[.ref b] below meth c H locs (200 + 3 * j) (130000 + 6 * j + Pot σ) Q (F0 m 448 ls []) := by
  obtain ⟨σ', φ', e1, e2, hI, e4⟩ := op_begin σ φ I 1
  have hp1 := I.pot
  have hp2 := hI.pot
  refine lv_aload_n E.x E.b d_law_448 rfl (lv_at hl 1 rfl) ?_
  refine lv_aload_n E.x E.b d_law_449 rfl (lv_at hl 0 rfl) ?_
  refine lv_iload E.x E.b d_law_450 (lv_at hl 4 rfl) ?_
  refine lv_iconst (v := 1) E.x E.b d_law_452 (by decide) ?_
  refine lv_iadd E.x E.b d_law_453 ?_
  refine wi_c (v := nI (6 * j + 1)) (n_add (6 * j) 1) ?_
  refine va_sld E.1 E.2.1 hX hbl hbA w.2.2 (vp_in_iff.mpr (n_inb (6 * j + 1) L (by omega) (by omega))) d_law_454 ?_
  refine wi_c (v := xs (6 * j + 1)) (congrArg xs (n_nat (6 * j + 1) (by omega))) ?_
  refine lv_if_eq (tgt := 462) E.x E.b d_law_455 (by decide) (fun c8 => absurd c8 hv) (fun c8 => ?_)
  refine lv_iconst (v := 1) E.x E.b d_law_458 (by decide) ?_
  refine lv_goto (tgt := 463) E.x E.b d_law_459 (by decide) ?_
  refine gr_v E.C (X := wdM τ φ am ++ [oc τ ou f]) (Y := wdC τ σ ad) (by rw [List.append_assoc]; exact w) (va_runV (As := [.int 1]) (rest := []) E.fix (c_DM_begin l D τ B σ ad 1 σ' e1 _) (cwV 1 E.w (tw_pre (tw_good k461) (l := [_, _, _, _]) (List.forall_mem_cons.mpr ⟨k458, List.forall_mem_cons.mpr ⟨k459, List.forall_mem_cons.mpr ⟨k460, List.forall_mem_cons.mpr ⟨k1, fun _ h => absurd h List.not_mem_nil⟩⟩⟩⟩)) rfl rfl rfl (by decide +kernel) (E.rm (by decide) (by decide))) (pvR E.C (X := wdM τ φ am ++ [oc τ ou f]) (Y := wdC τ σ ad) (by rw [List.append_assoc]; exact w) [.int 1] (q0 := 56) rfl rfl) rfl rfl hl.1 rfl (lv_room (Nat.le_of_ble_eq_true rfl)) d_law_463 ⟨show 200 + 3 * j + 0 ≤ 622622 by omega, show 130000 + 6 * j + Pot σ + 0 ≤ 7228240 by omega⟩) (fun u H locs hr w => ?_)
  refine W.widen (k := 200 + 3 * j) (n := 130000 + 6 * j + Pot σ) (by omega) (by omega) ?_
  have w : Wd s D A (wdM τ φ am ++ ([oc τ ou f] ++ wdC τ σ' ad)) H locs := by rw [← List.append_assoc]; exact w
  refine lv_aload_n E.x E.b d_law_466 rfl (lv_at hl 2 rfl) ?_
  refine lv_aload_n E.x E.b d_law_467 rfl (lv_at hl 0 rfl) ?_
  refine lv_iload E.x E.b d_law_468 (lv_at hl 4 rfl) ?_
  refine lv_iconst (v := 1) E.x E.b d_law_470 (by decide) ?_
  refine lv_iadd E.x E.b d_law_471 ?_
  refine wi_c (v := nI (6 * j + 1)) (n_add (6 * j) 1) ?_
  refine va_sld E.1 E.2.1 hX hbl hbA w.2.2 (vp_in_iff.mpr (n_inb (6 * j + 1) L (by omega) (by omega))) d_law_472 ?_
  refine wi_c (v := xs (6 * j + 1)) (congrArg xs (n_nat (6 * j + 1) (by omega))) ?_
  refine lv_if_eq (tgt := 480) E.x E.b d_law_473 (by decide) (fun c8 => absurd c8 hv) (fun c8 => ?_)
  refine lv_iconst (v := 1) E.x E.b d_law_476 (by decide) ?_
  refine lv_goto (tgt := 481) E.x E.b d_law_477 (by decide) ?_
  refine gl_v E.C w (va_runV (As := [.int 1]) (rest := []) E.fix (c_Mod_begin l D τ B φ am 1 φ' e2 _) (cwV 1 E.w (tw_pre (tw_good k1899) (l := [_, _, _, _]) (List.forall_mem_cons.mpr ⟨k1896, List.forall_mem_cons.mpr ⟨k1897, List.forall_mem_cons.mpr ⟨k1898, List.forall_mem_cons.mpr ⟨k14, fun _ h => absurd h List.not_mem_nil⟩⟩⟩⟩)) rfl rfl rfl (by decide +kernel) (E.rm (by decide) (by decide))) (pvL E.C w [.int 1] (q0 := 59) rfl rfl) rfl rfl hl.1 rfl (lv_room (Nat.le_of_ble_eq_true rfl)) d_law_481 ⟨show 200 + 3 * j + 0 ≤ 622622 by omega, show 130000 + 6 * j + Pot σ + 0 ≤ 7228240 by omega⟩) (fun u9 H locs hr w => ?_)
  refine W.widen (k := 200 + 3 * j) (n := 130000 + 6 * j + Pot σ) (by omega) (by omega) ?_
  have w : Wd s D A (wdM τ φ' am ++ ([oc τ ou f] ++ wdC τ σ' ad)) H locs := w
  refine lv_goto (tgt := 847) E.x E.b d_law_484 (by decide) ?_
  refine W.widen (k := 200 + 3 * (j + 1)) (n := 130000 + 6 * (j + 1) + Pot σ') (by omega) (by omega) ?_
  exact K σ' φ' ad f _ _ _ hI w (lv_sub hl [0, 1, 2, 3, 4] rfl)
