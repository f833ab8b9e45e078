/-! feed and frame, on both sides -/
theorem e_add (σ : Sg) (n : Nat) (x : Int32) (h : σ.1 2 = Int32.ofNat n) (hl : n < σ.2.2.2.2 1) (h4 : σ.2.2.2.2 1 ≤ 4096) : F_Cou_add σ x = some (sI (sA σ 7 (upd (σ.2.2.1 7) n x)) 2 (Int32.ofNat (n + 1))) := by
  unfold F_Cou_add F_Cou_add_32
  rw [show lenC σ 7 = σ.2.2.2.2 1 from rfl, h, if_neg (fun e => absurd ((n_le _ _ (by omega) (by omega)).mp e) (by omega)), ck_pos (n_inb n _ hl (by omega)), lt_def, n_nat n (by omega), lt_def, show (sA σ 7 (upd (σ.2.2.1 7) n x)).1 2 = Int32.ofNat n from h, n_succ]
theorem e_mput (τ : Sg) (n : Nat) (x : Int32) (h : τ.1 10 = Int32.ofNat n) (hn : n < 4096) : F_Cmd_put τ x = some (sI (sA (sI τ 7 0) 1 (upd (τ.2.2.1 1) n x)) 10 (Int32.ofNat (n + 1)), Int32.ofNat (n + 1)) := by
  unfold F_Cmd_put F_Cmd_put_16
  rw [h, if_neg (show ¬ Int32.ofNat n = 4096 from fun e => absurd ((n_inj n 4096 (by omega) (by omega)).mp e) (by omega)), cref0, bd_def, if_pos rfl, show (sI τ 7 0, (0 : Int32)).1.1 10 = Int32.ofNat n from h, ck_pos (n_inb n _ hn (by omega)), lt_def, n_nat n (by omega), lt_def, show (sA (sI τ 7 0, (0 : Int32)).1 1 (upd ((sI τ 7 0, (0 : Int32)).1.2.2.1 1) n x)).1 10 = Int32.ofNat n from h, n_succ]
  rfl
theorem Li_up (sz d : Nat) : Li sz d ≤ Li (sz + 1) d := by
  unfold Li
  by_cases c : d = 0
  · rw [if_pos c, if_pos c]; omega
  · rw [if_neg c, if_neg c]; omega
theorem a_put (σ τ : Sg) (w h sz : Nat) (x : Int32) (a : Rel σ τ w h sz) (hz : sz < σ.2.2.2.2 1) : ∃ σ' τ', F_Cou_add σ x = some σ' ∧ F_Cmd_put τ x = some (τ', Int32.ofNat (sz + 1)) ∧ Rel σ' τ' w h (sz + 1) ∧ τ'.1 0 = τ.1 0 ∧ σ'.2.2.2.2 = σ.2.2.2.2 := by
  have n4 := a.2.n4
  refine ⟨_, _, e_add σ sz x a.2.s1 hz n4, e_mput τ sz x a.2.s2 (by omega), ?_, rfl, rfl⟩
  have F1 : Fr pNe σ (sI (sA σ 7 (upd (σ.2.2.1 7) sz x)) 2 (Int32.ofNat (sz + 1))) := fr_sI (fr_sA Fr.rfl 7 _ rfl) 2 _ rfl
  have F2 : Fr qNe τ (sI (sA (sI τ 7 0) 1 (upd (τ.2.2.1 1) sz x)) 10 (Int32.ofNat (sz + 1))) := fr_sI (fr_sA (fr_sI Fr.rfl 7 _ rfl) 1 _ rfl) 10 _ rfl
  obtain ⟨p1, p2⟩ := a.1.prs F1 F2 (fun k hk => by
    show (if k = 2 then _ else σ.1 k) = _
    rw [if_neg (by omega)]) rfl
  refine ⟨a.1.neu F1 F2 a.1.kok a.1.kep a.1.oq a.1.oqr p1 p2 a.1.wrk, by omega, ?_, a.2.n4, rfl, rfl, fun j hj => ?_, a.2.ov, a.2.ovr, a.2.re, a.2.pl, a.2.de, a.2.dn, a.2.dnr, fun e => ?_⟩
  · show sz + 1 ≤ σ.2.2.2.2 1
    omega
  · show upd (τ.2.2.1 1) sz x j = upd (σ.2.2.1 7) sz x j
    by_cases c : j = sz
    · subst c; rw [upd_eq, upd_eq]
    · rw [upd_ne _ _ _ _ c, upd_ne _ _ _ _ c]; exact a.2.wd j (by omega)
  · obtain ⟨p, d, cu⟩ := a.2.cur e
    refine ⟨p, d, cu.p1, cu.p2, cu.d1, cu.d2, cu.d4, Nat.le_trans cu.pz (Li_up sz d), fun j hj => ?_⟩
    obtain ⟨q, q1, q2, q3⟩ := cu.rt j hj
    exact ⟨q, q1, q2, Nat.le_trans q3 (Li_up sz j)⟩
/-- five words are added, once there is room -/
def FD_feed (σ : Sg) (a b c d e : Int32) : Option (Sg × Int32) := bd (F_Cou_add σ a) (fun o1 => bd (F_Cou_add o1 b) (fun o2 => bd (F_Cou_add o2 c) (fun o3 => bd (F_Cou_add o3 d) (fun o4 => bd (F_Cou_add o4 e) (fun o5 => some (o5, o5.1 2))))))
theorem a_feed (σ τ : Sg) (w h sz : Nat) (a b c d e : Int32) (r : Rel σ τ w h sz) (hz : sz + 5 ≤ σ.2.2.2.2 1) : ∃ σ' τ' k, FD_feed σ a b c d e = some (σ', k) ∧ F_Mod_feed τ a b c d e = some (τ', k) ∧ Rel σ' τ' w h (sz + 5) ∧ τ'.1 0 = 0 ∧ σ'.2.2.2.2 = σ.2.2.2.2 := by
  have n4 := r.2.n4
  obtain ⟨σ1, τ1, c1, m1, r1, t1, e1⟩ := a_put σ (sI τ 0 0) w h sz a (r.no 0) (by omega)
  obtain ⟨σ2, τ2, c2, m2, r2, t2, e2⟩ := a_put σ1 τ1 w h (sz + 1) b r1 (by rw [e1]; omega)
  obtain ⟨σ3, τ3, c3, m3, r3, t3, e3⟩ := a_put σ2 τ2 w h (sz + 2) c r2 (by rw [e2, e1]; omega)
  obtain ⟨σ4, τ4, c4, m4, r4, t4, e4⟩ := a_put σ3 τ3 w h (sz + 3) d r3 (by rw [e3, e2, e1]; omega)
  obtain ⟨σ5, τ5, c5, m5, r5, t5, e5⟩ := a_put σ4 τ4 w h (sz + 4) e r4 (by rw [e4, e3, e2, e1]; omega)
  refine ⟨σ5, τ5, Int32.ofNat (sz + 5), ?_, ?_, r5, ?_, by rw [e5, e4, e3, e2, e1]⟩
  · unfold FD_feed
    rw [c1, bd_def, c2, bd_def, c3, bd_def, c4, bd_def, c5, bd_def, r5.2.s1]
  · unfold F_Mod_feed
    rw [r.2.s2, if_pos (show Int32.ofNat sz ≤ 4091 from (n_le sz 4091 (by omega) (by omega)).mpr (by omega))]
    unfold F_Mod_feed_19
    rw [mref0, bd_def, if_pos rfl, m1, bd_def, m2, bd_def, m3, bd_def, m4, bd_def, m5, bd_def]
  · rw [t5, t4, t3, t2, t1]; rfl
theorem a_feed_no (σ τ : Sg) (w h sz : Nat) (a b c d e : Int32) (r : Rel σ τ w h sz) (hz : ¬ sz + 5 ≤ 4096) : F_Mod_feed τ a b c d e = some (sI τ 0 1, 0) := by
  have z := r.2.z
  unfold F_Mod_feed
  rw [r.2.s2, if_neg (show ¬ Int32.ofNat sz ≤ 4091 from fun e => absurd ((n_le sz 4091 (by omega) (by omega)).mp e) (by omega))]
  unfold F_Mod_feed_19
  rw [mref1, bd_def, if_neg ne10]
/-- more room for the stream: its words stay -/
theorem Rel.room {σ τ : Sg} {w h sz : Nat} (a : Rel σ τ w h sz) (n : Nat) (f : Nat → Int32) (hn : sz ≤ n) (hm : n ≤ 4096) (hf : ∀ j, j < sz → f j = σ.2.2.1 7 j) : Rel (sN (sA σ 7 f) 1 n) τ w h sz := by
  have F1 : Fr pNe σ (sN (sA σ 7 f) 1 n) := fr_sN (fr_sA Fr.rfl 7 _ rfl) 1 _ rfl
  obtain ⟨p1, p2⟩ := a.1.prs F1 (Fr.rfl (p := qNe) (σ := τ)) (fun k hk => rfl) rfl
  refine ⟨a.1.neu F1 Fr.rfl a.1.kok a.1.kep a.1.oq a.1.oqr p1 p2 a.1.wrk, a.2.z, hn, hm, a.2.s1, a.2.s2, fun j hj => ?_, a.2.ov, a.2.ovr, a.2.re, a.2.pl, a.2.de, a.2.dn, a.2.dnr, fun e => ?_⟩
  · show τ.2.2.1 1 j = f j
    rw [hf j hj]; exact a.2.wd j hj
  · obtain ⟨p, d, cu⟩ := a.2.cur e
    exact ⟨p, d, cu.p1, cu.p2, cu.d1, cu.d2, cu.d4, cu.pz, cu.rt⟩
/-! frame -/
def qFm : Nat → Nat → Bool := fun c k => (c == 0 && (k == 0 || k == 1 || k == 2 || k == 7 || k == 8 || k == 9 || (28 ≤ k && k ≤ 32))) || (c == 2 && (k == 45 || k == 46 || k == 47))
theorem e_pframe (τ υ : Sg) (F : Fr qFm τ υ) : ∃ τ', L_Ptm_frame_83 100000 υ 0 = some τ' ∧ Fr (fun c k => c == 2 && (k == 45 || k == 46 || k == 47)) υ τ' ∧ (∀ j, j < 65536 → τ'.2.2.1 45 j = 0) ∧ (∀ j, j < 16384 → τ'.2.2.1 46 j = 0 ∧ τ'.2.2.1 47 j = 0) := by
  have l2 : ∀ (r k fuel : Nat) (φ : Sg), k + r = 65536 → r < fuel → Fr (fun c k => c == 2 && (k == 45 || k == 46 || k == 47)) υ φ → (∀ j, j < k → φ.2.2.1 45 j = 0) → (∀ j, j < 16384 → φ.2.2.1 46 j = 0 ∧ φ.2.2.1 47 j = 0) →
      ∃ τ', L_Ptm_frame_116 fuel φ (Int32.ofNat k) = some τ' ∧ Fr (fun c k => c == 2 && (k == 45 || k == 46 || k == 47)) υ τ' ∧ (∀ j, j < 65536 → τ'.2.2.1 45 j = 0) ∧ (∀ j, j < 16384 → τ'.2.2.1 46 j = 0 ∧ τ'.2.2.1 47 j = 0) := by
    intro r
    induction r with
    | zero =>
      intro k fuel φ hk hf G z1 z2
      have : k = 65536 := by omega
      subst this
      refine ⟨φ, ?_, G, z1, z2⟩
      rw [show fuel = (fuel - 1) + 1 by omega, L_Ptm_frame_116, if_pos (show (65536 : Int32) ≤ Int32.ofNat 65536 from (n_le 65536 65536 (by omega) (by omega)).mpr (by omega))]
    | succ r ih =>
      intro k fuel φ hk hf G z1 z2
      rw [show fuel = (fuel - 1) + 1 by omega, L_Ptm_frame_116, if_neg (show ¬ (65536 : Int32) ≤ Int32.ofNat k from fun e => absurd ((n_le 65536 k (by omega) (by omega)).mp e) (by omega)), ck_pos (n_inb k 65536 (by omega) (by omega)), lt_def, lt_def, n_nat k (by omega), n_succ]
      refine ih (k + 1) (fuel - 1) _ (by omega) (by omega) (fr_sA G 45 _ rfl) (fun j hj => ?_) (fun j hj => z2 j hj)
      show upd (φ.2.2.1 45) k 0 j = 0
      by_cases c : j = k
      · subst c; rw [upd_eq]
      · rw [upd_ne _ _ _ _ c]; exact z1 j (by omega)
  have l1 : ∀ (r k fuel : Nat) (φ : Sg), k + r = 16384 → r < fuel → Fr (fun c k => c == 2 && (k == 45 || k == 46 || k == 47)) υ φ → (∀ j, j < k → φ.2.2.1 46 j = 0 ∧ φ.2.2.1 47 j = 0) →
      ∃ τ', L_Ptm_frame_83 fuel φ (Int32.ofNat k) = some τ' ∧ Fr (fun c k => c == 2 && (k == 45 || k == 46 || k == 47)) υ τ' ∧ (∀ j, j < 65536 → τ'.2.2.1 45 j = 0) ∧ (∀ j, j < 16384 → τ'.2.2.1 46 j = 0 ∧ τ'.2.2.1 47 j = 0) := by
    intro r
    induction r with
    | zero =>
      intro k fuel φ hk hf G z2
      have : k = 16384 := by omega
      subst this
      rw [show fuel = (fuel - 1) + 1 by omega, L_Ptm_frame_83, if_pos (show (16384 : Int32) ≤ Int32.ofNat 16384 from (n_le 16384 16384 (by omega) (by omega)).mpr (by omega))]
      exact l2 65536 0 100000 φ (by omega) (by omega) G (fun j hj => absurd hj (by omega)) z2
    | succ r ih =>
      intro k fuel φ hk hf G z2
      rw [show fuel = (fuel - 1) + 1 by omega, L_Ptm_frame_83, if_neg (show ¬ (16384 : Int32) ≤ Int32.ofNat k from fun e => absurd ((n_le 16384 k (by omega) (by omega)).mp e) (by omega)), ck_pos (n_inb k 16384 (by omega) (by omega)), lt_def, ck_pos (n_inb k 16384 (by omega) (by omega)), lt_def, lt_def, n_nat k (by omega), n_succ]
      refine ih (k + 1) (fuel - 1) _ (by omega) (by omega) (fr_sA (fr_sA G 46 _ rfl) 47 _ rfl) (fun j hj => ?_)
      show upd (φ.2.2.1 46) k 0 j = 0 ∧ upd (φ.2.2.1 47) k 0 j = 0
      by_cases c : j = k
      · subst c; rw [upd_eq, upd_eq]; exact ⟨rfl, rfl⟩
      · rw [upd_ne _ _ _ _ c, upd_ne _ _ _ _ c]; exact z2 j (by omega)
  exact l1 16384 0 100000 υ (by omega) (by omega) Fr.rfl (fun j hj => absurd hj (by omega))
def sdOK (s : Int32) : Prop := s = 8 ∨ s = 16 ∨ s = 32 ∨ s = 64
def tls (w h s : Int32) : Int32 := (((w + s) - 1) / s) * (((h + s) - 1) / s)
theorem e_mframe (τ : Sg) (w h : Nat) (s : Int32) (hw : 1 ≤ w ∧ w ≤ 128) (hh : 1 ≤ h ∧ h ≤ 128) (hs : sdOK s) : ∃ τ', F_Mod_frame τ (Int32.ofNat w) (Int32.ofNat h) s = some (τ', tls (Int32.ofNat w) (Int32.ofNat h) s) ∧ Fr qFm τ τ' ∧ (∀ j, j < 65536 → τ'.2.2.1 45 j = 0) ∧ (∀ j, j < 16384 → τ'.2.2.1 46 j = 0 ∧ τ'.2.2.1 47 j = 0) ∧ τ'.1 0 = 0 ∧ τ'.1 1 = Int32.ofNat w ∧ τ'.1 2 = Int32.ofNat h ∧ τ'.1 8 = Int32.ofNat w ∧ τ'.1 9 = Int32.ofNat h ∧ τ'.1 29 = 0 ∧ τ'.1 30 = 0 ∧ τ'.1 31 = Int32.ofNat w ∧ τ'.1 32 = Int32.ofNat h := by
  have gw : (1 : Int32) ≤ Int32.ofNat w ∧ Int32.ofNat w ≤ 128 := ⟨(n_le 1 w (by omega) (by omega)).mpr hw.1, (n_le w 128 (by omega) (by omega)).mpr hw.2⟩
  have gh : (1 : Int32) ≤ Int32.ofNat h ∧ Int32.ofNat h ≤ 128 := ⟨(n_le 1 h (by omega) (by omega)).mpr hh.1, (n_le h 128 (by omega) (by omega)).mpr hh.2⟩
  have rw_ : rg (Int32.ofNat w) (1 : Int32).toInt (128 : Int32).toInt := ⟨Int32.le_iff_toInt_le.mp gw.1, Int32.le_iff_toInt_le.mp gw.2⟩
  have rh_ : rg (Int32.ofNat h) (1 : Int32).toInt (128 : Int32).toInt := ⟨Int32.le_iff_toInt_le.mp gh.1, Int32.le_iff_toInt_le.mp gh.2⟩
  have s0 : ¬ s = 0 := by rcases hs with q | q | q | q <;> rw [q] <;> decide
  let υ := sI (sI (sI (sI (sI (sI (sI (sI (sI (sI (sI τ 0 0) 1 (Int32.ofNat w)) 2 (Int32.ofNat h)) 7 0) 8 (Int32.ofNat w)) 9 (Int32.ofNat h)) 28 0) 29 0) 30 0) 31 (Int32.ofNat w)) 32 (Int32.ofNat h)
  have F : Fr qFm τ υ := fr_sI (fr_sI (fr_sI (fr_sI (fr_sI (fr_sI (fr_sI (fr_sI (fr_sI (fr_sI (fr_sI Fr.rfl 0 _ rfl) 1 _ rfl) 2 _ rfl) 7 _ rfl) 8 _ rfl) 9 _ rfl) 28 _ rfl) 29 _ rfl) 30 _ rfl) 31 _ rfl) 32 _ rfl
  obtain ⟨τ', l1, G, z1, z2⟩ := e_pframe τ υ F
  have e1 : F_Mod_frame τ (Int32.ofNat w) (Int32.ofNat h) s = F_Mod_frame_66 τ (Int32.ofNat w) (Int32.ofNat h) s 0 := by
    unfold F_Mod_frame
    rw [ei_mod _ 1 128 1 128 (by decide) (by decide), decide_eq_true gw, bd_def, if_neg bI_t, ei_mod _ 1 128 1 128 (by decide) (by decide), decide_eq_true gh, bd_def, if_neg bI_t]
    rcases hs with q | q | q | q <;> rw [q] <;> rfl
  refine ⟨τ', ?_, F.trans (G.weak (by intro c k; unfold qFm; grind)), z1, z2, G.1 0 rfl, G.1 1 rfl, G.1 2 rfl, G.1 8 rfl, G.1 9 rfl, G.1 29 rfl, G.1 30 rfl, G.1 31 rfl, G.1 32 rfl⟩
  rw [e1]
  unfold F_Mod_frame_66
  rw [mref0, bd_def, if_pos rfl, lt_def, lt_def]
  unfold F_Cmd_frame
  rw [ei_cmd _ 1 128 1 128 (by decide) (by decide), decide_eq_true gw, bd_def, if_neg bI_t, ei_cmd _ 1 128 1 128 (by decide) (by decide), decide_eq_true gh, bd_def, if_neg bI_t]
  unfold F_Cmd_frame_30
  rw [cref0, bd_def, if_pos rfl, lt_def, lt_def, bd_def]
  unfold F_Ptm_frame
  rw [e_Ptm_in _ 1 128 rw_, bd_def, if_neg (by decide), e_Ptm_in _ 1 128 rh_, bd_def, if_neg (by decide), e_Ptm_in 0 0 1023 ⟨by decide, by decide⟩, bd_def, if_neg (by decide), bd_def, if_neg (by decide)]
  unfold F_Ptm_frame_51
  rw [e_Ptm_ok, bd_def, if_pos rfl, lt_def, lt_def, lt_def, lt_def]
  show bd (L_Ptm_frame_83 100000 υ 0) _ = _
  rw [l1, bd_def, ck_pos s0, ck_pos s0]
  rfl
def pFm : Nat → Nat → Bool := fun c k => (c == 0 && (k == 0 || k == 1)) || (c == 2 && (k == 2 || k == 3 || k == 4)) || (c == 4 && k == 0)
theorem a_frame (σ σ' τ : Sg) (w0 h0 sz w h : Nat) (s : Int32) (a : Rel σ τ w0 h0 sz) (hw : 1 ≤ w ∧ w ≤ 128) (hh : 1 ≤ h ∧ h ≤ 128) (hs : sdOK s) (F : Fr pFm σ σ') (c0 : σ'.1 0 = Int32.ofNat w) (c1 : σ'.1 1 = Int32.ofNat h) (cap : w * h ≤ σ'.2.2.2.2 0) (cap2 : σ'.2.2.2.2 0 ≤ 16384)
    (z2 : ∀ i, i < w * h → σ'.2.2.1 2 i = 0) (z3 : ∀ i, i < w * h → σ'.2.2.1 3 i = 0) (z4 : ∀ i, i < w * h → σ'.2.2.1 4 i = 0) : ∃ τ', F_Mod_frame τ (Int32.ofNat w) (Int32.ofNat h) s = some (τ', tls (Int32.ofNat w) (Int32.ofNat h) s) ∧ Rel σ' τ' w h sz ∧ τ'.1 0 = 0 := by
  obtain ⟨τ', e, G, y1, y2, t0, t1, t2, t8, t9, t29, t30, t31, t32⟩ := e_mframe τ w h s hw hh hs
  refine ⟨τ', e, ⟨?_, a.2.same F G (by decide) (by decide)⟩, t0⟩
  have I0 : ∀ i, i < 3 → σ'.1 (22 + 3 * i) = σ.1 (22 + 3 * i) ∧ σ'.1 (24 + 3 * i) = σ.1 (24 + 3 * i) ∧ σ'.2.2.1 (21 + i) = σ.2.2.1 (21 + i) ∧ σ'.1 (23 + 3 * i) = σ.1 (23 + 3 * i) := by
    intro i hi
    have : i = 0 ∨ i = 1 ∨ i = 2 := by omega
    rcases this with rfl | rfl | rfl <;> exact ⟨F.1 _ rfl, F.1 _ rfl, F.2.2.1 _ rfl, F.1 _ rfl⟩
  have b := a.1
  have b1 := I0 _ b.ids.1.1
  have b2 := I0 _ b.ids.1.2.1
  have e1 : σ'.2.2.1 1 = σ.2.2.1 1 := F.2.2.1 1 rfl
  have by0 : ∀ k, k < 4 → byt 0 k = 0 := by decide
  refine ⟨⟨hw, hh, c0, c1, t31, t32, t29, t30, cap, cap2, fun i hi k hk => ?_, fun i hi => ?_, fun i hi => ?_⟩, ?_, by rw [e1]; exact b.kok, by rw [e1]; exact b.kep.tr G rfl, t1, t2, t8, t9, ?_, ?_, ?_, ?_, ?_, ?_, ?_, ?_, ?_, ?_, ?_, ?_⟩
  · rw [z2 i hi, by0 k hk]; exact y1 _ (by omega)
  · rw [z3 i hi]; exact (y2 i (by omega)).1
  · rw [z4 i hi]; exact ⟨(y2 i (by omega)).2, by decide, by decide⟩
  · rw [G.2.2.1 0 rfl, F.2.2.1 0 rfl]; exact b.mem
  · rw [G.1 18 rfl, F.1 15 rfl]; exact b.oq
  · rw [F.1 15 rfl]; exact b.oqr
  · rw [F.2.2.1 10 rfl]; exact b.zer
  · rw [G.2.2.1 56 rfl, F.2.2.1 29 rfl]; exact b.cnt
  · rw [G.2.2.1 55 rfl, F.2.2.1 30 rfl]; exact b.qry
  · rw [F.2.2.2.2 5 rfl, F.2.2.2.2 6 rfl]; exact b.n56
  · rw [F.2.2.2.2 2 rfl, F.2.2.2.2 3 rfl, F.2.2.2.2 4 rfl]; exact b.ids
  · rw [F.2.2.2.2 2 rfl]; exact b.pr1.tr b1.1 b1.2.1 b1.2.2.1 b1.2.2.2 (G.2.2.1 _ rfl) (G.2.2.1 _ rfl) (G.1 _ rfl) (by rw [G.2.2.1 4 rfl]) (G.1 _ rfl)
  · rw [F.2.2.2.2 3 rfl]; exact b.pr2.tr b2.1 b2.2.1 b2.2.2.1 b2.2.2.2 (G.2.2.1 _ rfl) (G.2.2.1 _ rfl) (G.1 _ rfl) (by rw [G.2.2.1 4 rfl]) (G.1 _ rfl)
  · rw [G.1 3 rfl, F.1 12 rfl]; exact b.fau
  · rw [G.1 4 rfl, F.1 13 rfl]; exact b.fap
  · rw [G.2.1 0 rfl, F.2.1 0 rfl]; exact b.wrk
theorem a_frame_no (τ : Sg) (x y s : Int32) (g : ¬ ((1 ≤ x ∧ x ≤ 128) ∧ (1 ≤ y ∧ y ≤ 128) ∧ sdOK s)) : F_Mod_frame τ x y s = some (sI τ 0 1, 0) := by
  have e52 : F_Mod_frame_52 τ x y s = some (sI τ 0 1, 0) := by
    unfold F_Mod_frame_52 F_Mod_frame_53 F_Mod_frame_66
    rw [if_pos rfl, mref1, bd_def, if_neg ne10]
  unfold F_Mod_frame
  rw [ei_mod _ 1 128 1 128 (by decide) (by decide), bd_def]
  by_cases gx : 1 ≤ x ∧ x ≤ 128
  · rw [decide_eq_true gx, if_neg bI_t, ei_mod _ 1 128 1 128 (by decide) (by decide), bd_def]
    by_cases gy : 1 ≤ y ∧ y ≤ 128
    · rw [decide_eq_true gy, if_neg bI_t, if_neg (fun e => g ⟨gx, gy, Or.inl e⟩), if_neg (fun e => g ⟨gx, gy, Or.inr (Or.inl e)⟩), if_neg (fun e => g ⟨gx, gy, Or.inr (Or.inr (Or.inl e))⟩), if_neg (fun e => g ⟨gx, gy, Or.inr (Or.inr (Or.inr e))⟩)]
      exact e52
    · rw [decide_eq_false gy, if_pos bI_f]; exact e52
  · rw [decide_eq_false gx, if_pos bI_f]; exact e52
