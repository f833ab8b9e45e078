theorem sub6 (L i : Nat) (hL : L ≤ 3072) (hi : i ≤ 4000) : (Int32.ofNat L - 6 < Int32.ofNat i) ↔ L < i + 6 := by
  have z : (6 : Int32).toInt = 6 := rfl
  rw [Int32.lt_iff_toInt_lt, i_sub _ _ (by rw [n_int L (by omega), z]; omega) (by rw [n_int L (by omega), z]; omega), n_int L (by omega), n_int i (by omega), z]
  omega
theorem and15 (x : Int32) : ∃ n : Nat, n < 16 ∧ x &&& 15 = Int32.ofNat n := by
  have h : (x &&& 15).toInt = x.toInt % 16 := b_and x 4 (by omega)
  have h1 : 0 ≤ (x &&& 15).toInt ∧ (x &&& 15).toInt < 16 := by rw [h]; omega
  obtain ⟨k, k1, k2⟩ := n_get (x &&& 15) (Int32.le_iff_toInt_le.mpr h1.1)
  refine ⟨k, ?_, k2⟩
  rw [k2, n_int k k1] at h1
  omega
set_option maxRecDepth 100000 in
set_option maxHeartbeats 4000000 in
theorem law_loop {p : Program} {e : Env} {s : State} {m : MethodId} {below : List Frame} {meth : Method} {c : Code} (l : Launch) (hfl : l.stackTraces = false) {D : va_G} {τ : ClassId × ClassId × ClassId} {B : Nat} {A : Nat → Prop} {b L : Nat} {xs : Nat → Int32} {Q : State → Prop} (am : Nat → Nat) (ou : Nat) (E : Cx p room_1 s m #[.ref b] meth c code 7 "DrawingMachineLaw" 30 D τ B A) (hX : va_X b L xs s s.heap) (hbl : b < s.heap.size) (hbA : ¬ A b) (hL : L ≤ 3072)
    (KX : ∀ (cells slots : Nat) (H : Heap) (locs : List Loc) (ls : Array Slot), cells ≤ 622622 → slots ≤ 7228240 → va_S A s.heap H locs → W p l e room_1 s m #[.ref b] below meth c H locs cells slots Q (F0 m 853 ls [])) : ∀ (k j : Nat) (σ φ : Sg) (ad : Nat → Nat) (f : Nat → Int64) (H : Heap) (locs : List Loc) (ls : Array Slot), L ≤ 6 * j + 6 * k → 6 * j ≤ L → Inv σ φ → Wd s D A (wdM τ φ am ++ ([oc τ ou f] ++ wdC τ σ ad)) H locs → lv_has ls 7 [(0, .ref b), (1, .ref (ad 56)), (2, .ref (am 59)), (3, .ref ou), (4, .int (nI (6 * j)))] → W p l e room_1 s m #[.ref b] below meth c H locs (200 + 3 * j) (130000 + 6 * j + Pot σ) Q (F0 m 23 ls []) := by
  have fin : ∀ (j : Nat) (σ φ : Sg) (H : Heap) (locs : List Loc) (ls : Array Slot), 6 * j ≤ L → Inv σ φ → va_S A s.heap H locs → W p l e room_1 s m #[.ref b] below meth c H locs (200 + 3 * j) (130000 + 6 * j + Pot σ) Q (F0 m 853 ls []) := by
    intro j σ φ H locs ls hj I hS
    have := I.pot
    exact KX _ _ _ _ _ (by omega) (by omega) hS
  intro k
  induction k with
  | zero =>
    intro j σ φ ad f H locs ls hk hj I w hl
    refine lv_iload E.x E.b d_law_23 (lv_at hl 4 rfl) ?_
    refine lv_aload_n E.x E.b d_law_25 rfl (lv_at hl 0 rfl) ?_
    refine va_slen E.1 E.2.1 hX hbl hbA w.2.2 d_law_26 ?_
    refine lv_bipush (v := 6) E.x E.b d_law_27 (by decide) ?_
    refine lv_isub E.x E.b d_law_29 ?_
    refine lv_icmp_gt (tgt := 853) E.x E.b d_law_30 (by decide) (fun c9 => ?_) (fun c9 => absurd ((sub6 L (6 * j) hL (by omega)).mpr (by omega)) c9)
    exact fin j σ φ H locs ls hj I w.2.2
  | succ k ih =>
    intro j σ φ ad f H locs ls hk hj I w hl
    refine lv_iload E.x E.b d_law_23 (lv_at hl 4 rfl) ?_
    refine lv_aload_n E.x E.b d_law_25 rfl (lv_at hl 0 rfl) ?_
    refine va_slen E.1 E.2.1 hX hbl hbA w.2.2 d_law_26 ?_
    refine lv_bipush (v := 6) E.x E.b d_law_27 (by decide) ?_
    refine lv_isub E.x E.b d_law_29 ?_
    refine lv_icmp_gt (tgt := 853) E.x E.b d_law_30 (by decide) (fun c9 => fin j σ φ H locs ls hj I w.2.2) (fun c9 => ?_)
    have h6 : 6 * j + 6 ≤ L := Nat.not_lt.mp (fun e => c9 ((sub6 L (6 * j) hL (by omega)).mpr e))
    have K : ∀ (σ φ : Sg) (ad : Nat → Nat) (f : Nat → Int64) (H : Heap) (locs : List Loc) (ls : Array Slot), Inv σ φ → Wd s D A (wdM τ φ am ++ ([oc τ ou f] ++ wdC τ σ ad)) H locs → lv_has ls 7 [(0, .ref b), (1, .ref (ad 56)), (2, .ref (am 59)), (3, .ref ou), (4, .int (nI (6 * j)))] → W p l e room_1 s m #[.ref b] below meth c H locs (200 + 3 * (j + 1)) (130000 + 6 * (j + 1) + Pot σ) Q (F0 m 847 ls []) := by
      intro σ φ ad f H locs ls I w hl
      refine lv_iinc (v := nI (6 * (j + 1))) (lv' := [(4, .int (nI (6 * (j + 1)))), (0, .ref b), (1, .ref (ad 56)), (2, .ref (am 59)), (3, .ref ou)]) E.x E.b d_law_847 hl (k := 4) rfl (n_add (6 * j) 6) (by decide) rfl (fun ls hl => ?_)
      refine lv_goto (tgt := 23) E.x E.b d_law_850 (by decide) ?_
      exact ih (j + 1) σ φ ad f _ _ _ (by omega) (by omega) I w (lv_sub hl [1, 2, 3, 4, 0] rfl)
    refine lv_aload_n E.x E.b d_law_33 rfl (lv_at hl 0 rfl) ?_
    refine lv_iload E.x E.b d_law_34 (lv_at hl 4 rfl) ?_
    refine va_sld E.1 E.2.1 hX hbl hbA w.2.2 (vp_in_iff.mpr (n_inb (6 * j) L (by omega) (by omega))) d_law_36 ?_
    refine wi_c (v := xs (6 * j)) (congrArg xs (n_nat (6 * j) (by omega))) ?_
    refine lv_bipush (v := 15) E.x E.b d_law_37 (by decide) ?_
    refine lv_iand E.x E.b d_law_39 ?_
    obtain ⟨n, hn, hv⟩ := and15 (xs (6 * j))
    refine wi_c (v := Int32.ofNat n) hv ?_
    rcases (show n = 0 ∨ n = 1 ∨ n = 2 ∨ n = 3 ∨ n = 4 ∨ n = 5 ∨ n = 6 ∨ n = 7 ∨ n = 8 ∨ n = 9 ∨ n = 10 ∨ n = 11 ∨ 12 ≤ n by omega) with rfl | rfl | rfl | rfl | rfl | rfl | rfl | rfl | rfl | rfl | rfl | rfl | h12
    · refine lv_tableIn (off := 64) (tgt := 104) E.x E.b d_law_40 (by decide) (by decide) (by decide) (by decide) ?_
      exact lc_frame l hfl j σ φ ad am f ou E hX hbl hbA hL h6 I w hl K
    · refine lv_tableIn (off := 144) (tgt := 184) E.x E.b d_law_40 (by decide) (by decide) (by decide) (by decide) ?_
      exact lc_word l hfl j σ φ ad am f ou E hX hbl hbA hL h6 I w hl K
    · refine lv_tableIn (off := 212) (tgt := 252) E.x E.b d_law_40 (by decide) (by decide) (by decide) (by decide) ?_
      exact lc_look l hfl j σ φ ad am f ou E hX hbl hbA hL h6 I w hl K
    · refine lv_tableIn (off := 268) (tgt := 308) E.x E.b d_law_40 (by decide) (by decide) (by decide) (by decide) ?_
      exact lc_feed l hfl j σ φ ad am f ou E hX hbl hbA hL h6 I w hl K
    · refine lv_tableIn (off := 372) (tgt := 412) E.x E.b d_law_40 (by decide) (by decide) (by decide) (by decide) ?_
      exact lc_end l hfl j σ φ ad am f ou E hX hbl hbA hL h6 I w hl K
    · refine lv_tableIn (off := 408) (tgt := 448) E.x E.b d_law_40 (by decide) (by decide) (by decide) (by decide) ?_
      by_cases hz : xs (6 * j + 1) = 0
      · exact lc_begin0 l hfl j σ φ ad am f ou E hX hbl hbA hL h6 I w hl K hz
      · exact lc_begin1 l hfl j σ φ ad am f ou E hX hbl hbA hL h6 I w hl K hz
    · refine lv_tableIn (off := 447) (tgt := 487) E.x E.b d_law_40 (by decide) (by decide) (by decide) (by decide) ?_
      exact lc_run l hfl j σ φ ad am f ou E hX hbl hbA hL h6 I w hl K
    · refine lv_tableIn (off := 503) (tgt := 543) E.x E.b d_law_40 (by decide) (by decide) (by decide) (by decide) ?_
      exact lc_about l hfl j σ φ ad am f ou E hX hbl hbA hL h6 I w hl K
    · refine lv_tableIn (off := 559) (tgt := 599) E.x E.b d_law_40 (by decide) (by decide) (by decide) (by decide) ?_
      exact lc_at l hfl j σ φ ad am f ou E hX hbl hbA hL h6 I w hl K
    · refine lv_tableIn (off := 639) (tgt := 679) E.x E.b d_law_40 (by decide) (by decide) (by decide) (by decide) ?_
      exact lc_sum l hfl j σ φ ad am f ou E hX hbl hbA hL h6 I w hl K
    · refine lv_tableIn (off := 695) (tgt := 735) E.x E.b d_law_40 (by decide) (by decide) (by decide) (by decide) ?_
      exact lc_query l hfl j σ φ ad am f ou E hX hbl hbA hL h6 I w hl K
    · refine lv_tableIn (off := 751) (tgt := 791) E.x E.b d_law_40 (by decide) (by decide) (by decide) (by decide) ?_
      exact lc_count l hfl j σ φ ad am f ou E hX hbl hbA hL h6 I w hl K
    · refine lv_tableOut (tgt := 847) E.x E.b d_law_40 (Or.inr (by rw [n_int n (by omega)]; omega)) (by decide) ?_
      refine W.widen (k := 200 + 3 * (j + 1)) (n := 130000 + 6 * (j + 1) + Pot σ) (by omega) (by omega) ?_
      exact K σ φ ad f _ _ _ I w hl
