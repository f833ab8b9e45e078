/-! a step of the course, on both sides -/
def Cou (σ τ : Sg) (sz : Nat) : Prop := (sz ≤ 4096) ∧ (sz ≤ σ.2.2.2.2 1) ∧ (σ.2.2.2.2 1 ≤ 4096) ∧ (σ.1 2 = Int32.ofNat sz) ∧ (τ.1 10 = Int32.ofNat sz) ∧ (∀ j, j < sz → τ.2.2.1 1 j = σ.2.2.1 7 j) ∧ (τ.1 13 = σ.1 9) ∧ (σ.1 9 = 0 ∨ σ.1 9 = 1) ∧ (τ.1 14 = σ.1 6) ∧ (τ.1 15 = σ.1 7) ∧ (τ.1 16 = σ.1 8) ∧ (τ.1 17 = σ.1 5) ∧ (rg (σ.1 5) 0 2000) ∧ (σ.1 9 = 0 → ∃ p d, Cur σ τ sz p d)
theorem Cou.z {σ τ : Sg} {sz : Nat} (a_ : Cou σ τ sz) : sz ≤ 4096 := a_.1
theorem Cou.zn {σ τ : Sg} {sz : Nat} (a_ : Cou σ τ sz) : sz ≤ σ.2.2.2.2 1 := a_.2.1
theorem Cou.n4 {σ τ : Sg} {sz : Nat} (a_ : Cou σ τ sz) : σ.2.2.2.2 1 ≤ 4096 := a_.2.2.1
theorem Cou.s1 {σ τ : Sg} {sz : Nat} (a_ : Cou σ τ sz) : σ.1 2 = Int32.ofNat sz := a_.2.2.2.1
theorem Cou.s2 {σ τ : Sg} {sz : Nat} (a_ : Cou σ τ sz) : τ.1 10 = Int32.ofNat sz := a_.2.2.2.2.1
theorem Cou.wd {σ τ : Sg} {sz : Nat} (a_ : Cou σ τ sz) : ∀ j, j < sz → τ.2.2.1 1 j = σ.2.2.1 7 j := a_.2.2.2.2.2.1
theorem Cou.ov {σ τ : Sg} {sz : Nat} (a_ : Cou σ τ sz) : τ.1 13 = σ.1 9 := a_.2.2.2.2.2.2.1
theorem Cou.ovr {σ τ : Sg} {sz : Nat} (a_ : Cou σ τ sz) : σ.1 9 = 0 ∨ σ.1 9 = 1 := a_.2.2.2.2.2.2.2.1
theorem Cou.re {σ τ : Sg} {sz : Nat} (a_ : Cou σ τ sz) : τ.1 14 = σ.1 6 := a_.2.2.2.2.2.2.2.2.1
theorem Cou.pl {σ τ : Sg} {sz : Nat} (a_ : Cou σ τ sz) : τ.1 15 = σ.1 7 := a_.2.2.2.2.2.2.2.2.2.1
theorem Cou.de {σ τ : Sg} {sz : Nat} (a_ : Cou σ τ sz) : τ.1 16 = σ.1 8 := a_.2.2.2.2.2.2.2.2.2.2.1
theorem Cou.dn {σ τ : Sg} {sz : Nat} (a_ : Cou σ τ sz) : τ.1 17 = σ.1 5 := a_.2.2.2.2.2.2.2.2.2.2.2.1
theorem Cou.dnr {σ τ : Sg} {sz : Nat} (a_ : Cou σ τ sz) : rg (σ.1 5) 0 2000 := a_.2.2.2.2.2.2.2.2.2.2.2.2.1
theorem Cou.cur {σ τ : Sg} {sz : Nat} (a_ : Cou σ τ sz) : σ.1 9 = 0 → ∃ p d, Cur σ τ sz p d := a_.2.2.2.2.2.2.2.2.2.2.2.2.2
theorem Ldd.tr {σ σ' τ τ' : Sg} {p pid st : Nat} (a : Ldd σ τ p pid st) (h1 : σ'.1 (22 + 3 * pid) = σ.1 (22 + 3 * pid)) (h2 : σ'.1 (24 + 3 * pid) = σ.1 (24 + 3 * pid)) (h3 : σ'.2.2.1 (21 + pid) = σ.2.2.1 (21 + pid)) (h4 : σ'.1 (23 + 3 * pid) = σ.1 (23 + 3 * pid))
    (g1 : τ'.2.2.1 (14 + 10 * p) = τ.2.2.1 (14 + 10 * p)) (g2 : τ'.2.2.1 (23 + 10 * p) = τ.2.2.1 (23 + 10 * p)) (g3 : τ'.1 (41 + 6 * p) = τ.1 (41 + 6 * p)) (g5 : τ'.1 st = τ.1 st) : Ldd σ' τ' p pid st := by
  obtain ⟨ω, N, a2, a3⟩ := a
  exact ⟨ω, N, a2.tr h1 h2 h3 g1 g2 g3, by rw [h4, g5]; exact a3⟩
theorem Cmd0.tr {σ τ τ' : Sg} {S : Nat → Int32} {w h sz p d K M : Nat} (a : Cmd0 σ τ S w h sz p d K M) (ht : Fr (fun c k => c == 0 && (k == 11 || k == 17)) τ τ') : Cmd0 σ τ' S w h sz p d K M := by
  refine ⟨a.at_, ?_, ?_, a.lie, fun e => ?_, a.deep⟩
  · rw [ht.1 19 rfl]; exact a.m19
  · rw [ht.2.2.1 3 rfl]; exact a.arg
  · obtain ⟨l1, l2⟩ := a.ldd e
    exact ⟨l1.tr rfl rfl rfl rfl (ht.2.2.1 _ rfl) (ht.2.2.1 _ rfl) (ht.1 _ rfl) (ht.1 _ rfl), l2.tr rfl rfl rfl rfl (ht.2.2.1 _ rfl) (ht.2.2.1 _ rfl) (ht.1 _ rfl) (ht.1 _ rfl)⟩
theorem do_all (σ τ : Sg) (w h sz p d K M : Nat) (b : Bas σ τ w h) (c : Cmd0 σ τ (Sr σ d) w h sz p d K M) (hz : sz ≤ 4096) (hn : sz ≤ σ.2.2.2.2 1) (hn4 : σ.2.2.2.2 1 ≤ 4096) (hp : σ.1 10 = Int32.ofNat p) (hd : σ.1 4 = Int32.ofNat d) (hd4 : d ≤ 4) (h57 : τ.2.2.1 57 0 = τ.2.2.1 4 1120 ∧ τ.2.2.1 57 2 = τ.2.2.1 4 1280) (h0 : K ≠ 0) (h23 : K ≠ 23) : Done σ τ w h K := by
  have hK := c.at_.2.1
  by_cases kk : kks K = true
  · exact do_keep σ τ _ w h sz p d K M b c kk
  have hKc : K = 1 ∨ K = 6 ∨ K = 7 ∨ K = 8 ∨ K = 17 ∨ K = 18 ∨ K = 19 ∨ K = 20 ∨ K = 21 ∨ K = 22 := by
    unfold kks at kk
    simp at kk
    omega
  rcases hKc with rfl | rfl | rfl | rfl | rfl | rfl | rfl | rfl | rfl | rfl
  · exact do_1 σ τ _ w h sz p d M b c
  · exact do_6 σ τ _ w h sz p d M b c
  · exact do_prog σ τ _ w h sz p d 0 M b (by omega) c h57
  · exact do_prog σ τ _ w h sz p d 1 M b (by omega) c h57
  · exact do_draw σ τ _ w h sz p d 17 M b c (Or.inl rfl)
  · exact do_draw σ τ _ w h sz p d 18 M b c (Or.inr rfl)
  · exact do_19 σ τ _ w h sz p d M b c
  · exact do_20 σ τ _ w h sz p d M b c
  · exact do_21 σ τ w h sz p d M b c hz hn hn4 hp hd hd4
  · exact do_22 σ τ _ w h sz p d M b c
theorem cDo_none (σ : Sg) (K : Nat) (hk : σ.1 3 = Int32.ofNat K) (h : K = 0 ∨ K = 23) : cDo σ = some (σ, 0) := by
  rw [cDo_carry σ K (by omega) ⟨by omega, by omega⟩ hk]
  unfold F_DM_carryOut F_DM_carryOut_211 F_Told_keep
  rw [hk]
  rcases h with rfl | rfl <;> rfl
theorem go_no (σ : Sg) (r : Int32) (hr : ¬ r = 0) : F_Cou_goOn σ r = some (sI (sI σ 6 r) 9 1) := by
  unfold F_Cou_goOn
  rw [if_neg hr, lt_def, lt_def]
theorem go_cmd (σ : Sg) (K : Nat) (hK : K < 26) (hk : σ.1 3 = Int32.ofNat K) (h0 : K ≠ 0) (h23 : K ≠ 23) : F_Cou_goOn σ 0 = some (sI (sI σ 5 (σ.1 5 + 1)) 10 (σ.1 10 + σ.1 11)) := by
  unfold F_Cou_goOn F_Cou_goOn_91 F_Cou_goOn_131 F_Cou_goOn_143
  rw [if_pos rfl, lt_def, lt_def]
  have e3 : (sI (sI σ 5 (σ.1 5 + 1)) 10 ((sI σ 5 (σ.1 5 + 1)).1 10 + (sI σ 5 (σ.1 5 + 1)).1 11)).1 3 = Int32.ofNat K := hk
  rw [e3, if_neg (fun e : Int32.ofNat K = 23 => h23 ((n_inj K 23 (by omega) (by omega)).mp e)), if_neg (fun e : Int32.ofNat K = 0 => h0 ((n_inj K 0 (by omega) (by omega)).mp e)), if_neg (fun e : Int32.ofNat K = 0 => h0 ((n_inj K 0 (by omega) (by omega)).mp e))]
  rfl
theorem go_end (σ : Sg) (hk : σ.1 3 = 0) (hd : σ.1 4 = 0) : F_Cou_goOn σ 0 = some (sI (sI (sI σ 5 (σ.1 5 + 1)) 10 (σ.1 10 + σ.1 11)) 9 1) := by
  unfold F_Cou_goOn F_Cou_goOn_91 F_Cou_goOn_131 F_Cou_goOn_143
  rw [if_pos rfl, lt_def, lt_def]
  have e3 : (sI (sI σ 5 (σ.1 5 + 1)) 10 ((sI σ 5 (σ.1 5 + 1)).1 10 + (sI σ 5 (σ.1 5 + 1)).1 11)).1 3 = 0 := hk
  have e4 : (sI (sI σ 5 (σ.1 5 + 1)) 10 ((sI σ 5 (σ.1 5 + 1)).1 10 + (sI σ 5 (σ.1 5 + 1)).1 11)).1 4 = 0 := hd
  rw [e3, if_neg (by decide), if_pos rfl, e4, if_pos (by decide), if_pos rfl, lt_def]
  rfl
theorem go_pop (σ : Sg) (d : Nat) (hk : σ.1 3 = 0) (hd : σ.1 4 = Int32.ofNat (d + 1)) (hd4 : d < 4) : F_Cou_goOn σ 0 = some (sI (sI (sI (sI σ 5 (σ.1 5 + 1)) 10 (σ.1 10 + σ.1 11)) 4 (Int32.ofNat d)) 10 (σ.2.2.1 6 d)) := by
  unfold F_Cou_goOn F_Cou_goOn_91 F_Cou_goOn_131 F_Cou_goOn_143
  rw [if_pos rfl, lt_def, lt_def]
  have e3 : (sI (sI σ 5 (σ.1 5 + 1)) 10 ((sI σ 5 (σ.1 5 + 1)).1 10 + (sI σ 5 (σ.1 5 + 1)).1 11)).1 3 = 0 := hk
  have e4 : (sI (sI σ 5 (σ.1 5 + 1)) 10 ((sI σ 5 (σ.1 5 + 1)).1 10 + (sI σ 5 (σ.1 5 + 1)).1 11)).1 4 = Int32.ofNat (d + 1) := hd
  have es : Int32.ofNat (d + 1) - 1 = Int32.ofNat d := by rw [← n_succ, Int32.add_sub_cancel]
  rw [e3, if_neg (by decide), if_pos rfl, e4, if_neg (show ¬ Int32.ofNat (d + 1) ≤ 0 from fun e => absurd ((n_le (d + 1) 0 (by omega) (by omega)).mp e) (by omega)), lt_def, es]
  have e5 : (sI (sI (sI σ 5 (σ.1 5 + 1)) 10 ((sI σ 5 (σ.1 5 + 1)).1 10 + (sI σ 5 (σ.1 5 + 1)).1 11)) 4 (Int32.ofNat d)).1 4 = Int32.ofNat d := rfl
  rw [e5, ck_pos (n_inb d 4 hd4 (by omega)), lt_def, n_nat d (by omega)]
  rfl
theorem go_call (σ : Sg) (d : Nat) (hk : σ.1 3 = 23) (hd : σ.1 4 = Int32.ofNat d) (hd4 : d < 4) : F_Cou_goOn σ 0 = some (sI (sI (sA (sI (sI σ 5 (σ.1 5 + 1)) 10 (σ.1 10 + σ.1 11)) 6 (upd (σ.2.2.1 6) d (σ.1 10 + σ.1 11))) 4 (Int32.ofNat (d + 1))) 10 (σ.2.2.1 5 0)) := by
  unfold F_Cou_goOn F_Cou_goOn_143
  rw [if_pos rfl, lt_def, lt_def]
  have e3 : (sI (sI σ 5 (σ.1 5 + 1)) 10 ((sI σ 5 (σ.1 5 + 1)).1 10 + (sI σ 5 (σ.1 5 + 1)).1 11)).1 3 = 23 := hk
  have e4 : (sI (sI σ 5 (σ.1 5 + 1)) 10 ((sI σ 5 (σ.1 5 + 1)).1 10 + (sI σ 5 (σ.1 5 + 1)).1 11)).1 4 = Int32.ofNat d := hd
  rw [e3, if_pos rfl, e4, if_neg (show ¬ (4 : Int32) ≤ Int32.ofNat d from fun e => absurd ((n_le 4 d (by omega) (by omega)).mp e) (by omega)), ck_pos (n_inb d 4 hd4 (by omega)), lt_def, n_nat d (by omega)]
  have e5 : ∀ g, (sA (sI (sI σ 5 (σ.1 5 + 1)) 10 ((sI σ 5 (σ.1 5 + 1)).1 10 + (sI σ 5 (σ.1 5 + 1)).1 11)) 6 g).1 4 = Int32.ofNat d := fun g => hd
  rw [e5, lt_def, lt_def, n_succ]
  rfl
