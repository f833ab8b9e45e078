/-! UNIFORMS, QUERY, COPY and STORE -/
theorem t_ku : ∀ j, j < 245 → (42 ≤ j ∧ j < 170) ∨ km j < 800 ∨ 960 ≤ km j := by decide +kernel
theorem km_u (j : Nat) (h1 : 42 ≤ j) (h2 : j < 170) : km j = 800 + 5 * ((j - 42) / 4) + 1 + (j - 42) % 4 := by
  unfold km
  rw [if_neg (by omega), if_neg (by omega), if_neg (by omega), if_pos h2]
theorem k_any (j : Nat) (h1 : 42 ≤ j) (h2 : j < 170) (x : Int32) : rg x (klo j) (khi j) := by
  have e1 : klo j = -2147483648 := by
    unfold klo
    rw [if_neg (by omega), if_neg (by omega), if_neg (by omega), if_neg (by omega), if_neg (by omega), if_pos h2]
  have e2 : khi j = 2147483647 := by
    unfold khi
    rw [if_neg (by omega), if_neg (by omega), if_neg (by omega), if_neg (by omega), if_neg (by omega), if_pos h2]
  have := i_rng x
  rw [e1, e2]
  exact ⟨by omega, by omega⟩
theorem e_uniM (τ : Sg) (n0 n1 n2 : Nat) (h0 : n0 + n1 ≤ 32) (h2 : 4 * n1 = 0 ∨ n2 + 4 * n1 ≤ 4096) (hn2 : n2 ≤ 1048576) (m0 : τ.2.2.1 3 0 = Int32.ofNat n0) (m1 : τ.2.2.1 3 1 = Int32.ofNat n1) (m2 : τ.2.2.1 3 2 = Int32.ofNat n2) :
    ∃ τ', L_Cmd_perform_208 100000 τ 0 = some τ' ∧ Fr (fun c k => c == 2 && k == 4) τ τ' ∧ (∀ e, e < 4 * n1 → τ'.2.2.1 4 (km (42 + 4 * n0 + e)) = τ.2.2.1 0 (n2 + e)) ∧ (∀ j, j < 245 → (j < 42 + 4 * n0 ∨ 42 + 4 * n0 + 4 * n1 ≤ j) → τ'.2.2.1 4 (km j) = τ.2.2.1 4 (km j)) ∧ (∀ q, (q < 800 ∨ 960 ≤ q) → τ'.2.2.1 4 q = τ.2.2.1 4 q) := by
  have lp : ∀ (e k f : Nat) (υ : Sg), k + e = 4 * n1 → e < f → Fr (fun c k => c == 2 && k == 4) τ υ → (∀ e, e < k → υ.2.2.1 4 (km (42 + 4 * n0 + e)) = τ.2.2.1 0 (n2 + e)) → (∀ j, j < 245 → (j < 42 + 4 * n0 ∨ 42 + 4 * n0 + k ≤ j) → υ.2.2.1 4 (km j) = τ.2.2.1 4 (km j)) → (∀ q, (q < 800 ∨ 960 ≤ q) → υ.2.2.1 4 q = τ.2.2.1 4 q) →
      ∃ τ', L_Cmd_perform_208 f υ (Int32.ofNat k) = some τ' ∧ Fr (fun c k => c == 2 && k == 4) τ τ' ∧ (∀ e, e < 4 * n1 → τ'.2.2.1 4 (km (42 + 4 * n0 + e)) = τ.2.2.1 0 (n2 + e)) ∧ (∀ j, j < 245 → (j < 42 + 4 * n0 ∨ 42 + 4 * n0 + 4 * n1 ≤ j) → τ'.2.2.1 4 (km j) = τ.2.2.1 4 (km j)) ∧ (∀ q, (q < 800 ∨ 960 ≤ q) → τ'.2.2.1 4 q = τ.2.2.1 4 q) := by
    intro e
    induction e with
    | zero =>
      intro k f υ he hf F h1 h2 h3
      have : k = 4 * n1 := by omega
      subst this
      refine ⟨υ, ?_, F, h1, h2, h3⟩
      rw [show f = (f - 1) + 1 by omega, L_Cmd_perform_208, F.2.2.1 3 rfl, m1, show (4 * Int32.ofNat n1 : Int32) = Int32.ofNat (4 * n1) from n_mul 4 n1, if_pos ((n_le _ _ (by omega) (by omega)).mpr (by omega))]
      rfl
    | succ e ih =>
      intro k f υ he hf F h1 h2 h3
      have eR : F_Cmd_rowOf 5 (Int32.ofNat (n0 + k / 4)) = some (Int32.ofNat (800 + (n0 + k / 4) * 5)) := by
        unfold F_Cmd_rowOf
        rw [show F_Cmd_count 5 = some (Int32.ofNat 5) from rfl, bd_def, n_mul, show (160 * 5 : Int32) = Int32.ofNat 800 from rfl, n_add]
      have ek : 800 + (n0 + k / 4) * 5 + 1 + k % 4 = km (42 + 4 * n0 + k) := by rw [km_u _ (by omega) (by omega)]; omega
      rw [show f = (f - 1) + 1 by omega, L_Cmd_perform_208, F.2.2.1 3 rfl, m0, m1, m2, show (4 * Int32.ofNat n1 : Int32) = Int32.ofNat (4 * n1) from n_mul 4 n1, if_neg (fun e => absurd ((n_le _ _ (by omega) (by omega)).mp e) (by omega)),
        show (Int32.ofNat k / 4 : Int32) = Int32.ofNat (k / 4) from n_div k 4 (by omega) (by omega) (by omega), n_add, eR, bd_def, n_add, ck_pos (n_inb _ 4096 (by omega) (by omega)), show irem (Int32.ofNat k) 4 = Int32.ofNat (k % 4) from n_rem k 4 (by omega) (by omega) (by omega), n_succ, n_add, ck_pos (n_inb _ 4160 (by omega) (by omega)), lt_def, lt_def, n_nat _ (by omega), n_nat _ (by omega), n_succ, ek, F.2.2.1 0 rfl]
      refine ih (k + 1) (f - 1) _ (by omega) (by omega) (fr_sA F 4 _ rfl) (fun e he => ?_) (fun j hj hq => ?_) (fun q hq => ?_)
      · show upd (υ.2.2.1 4) (km (42 + 4 * n0 + k)) (τ.2.2.1 0 (n2 + k)) _ = _
        by_cases c : e = k
        · subst c; rw [upd_eq]
        · rw [upd_ne _ _ _ _ (by rw [km_u _ (by omega) (by omega), km_u _ (by omega) (by omega)]; omega)]; exact h1 e (by omega)
      · show upd (υ.2.2.1 4) (km (42 + 4 * n0 + k)) (τ.2.2.1 0 (n2 + k)) _ = _
        rw [upd_ne]
        · exact h2 j hj (by omega)
        · rw [km_u (42 + 4 * n0 + k) (by omega) (by omega)]
          rcases t_ku j hj with t | t | t
          · rw [km_u j t.1 t.2]; omega
          · omega
          · omega
      · show upd (υ.2.2.1 4) (km (42 + 4 * n0 + k)) (τ.2.2.1 0 (n2 + k)) _ = _
        rw [upd_ne]
        · exact h3 q hq
        · rw [km_u (42 + 4 * n0 + k) (by omega) (by omega)]; omega
  exact lp (4 * n1) 0 100000 τ (by omega) (by omega) Fr.rfl (fun e he => by omega) (fun j _ _ => rfl) (fun q _ => rfl)
theorem do_6 (σ τ : Sg) (S : Nat → Int32) (w h sz p d M : Nat) (b : Bas σ τ w h) (c : Cmd0 σ τ S w h sz p d 6 M) : Done σ τ w h 6 := by
  obtain ⟨-, hK, -, h4, h5, -, hk, -, h9⟩ := id c.at_
  have av := allv_rg c.at_
  have hM : M = 3 := h5
  have ae : ∀ j, j < 3 → τ.2.2.1 3 j = σ.2.2.1 5 j := fun j hj => by rw [c.arg j (by omega), h9 j hj]
  obtain ⟨x0, -, y0⟩ := rgN (av 0 (by decide)) (by decide)
  obtain ⟨x1, -, y1⟩ := rgN (av 1 (by decide)) (by decide)
  obtain ⟨x2, -, y2⟩ := rgN (av 2 (by decide)) (by decide)
  have y0' : _ ≤ (31 : Int) := y0
  have y1' : _ ≤ (32 : Int) := y1
  have y2' : _ ≤ (1048576 : Int) := y2
  have l := c.lie.1 rfl
  simp only at l
  generalize (σ.2.2.1 5 0).toNatClampNeg = n0 at *
  generalize (σ.2.2.1 5 1).toNatClampNeg = n1 at *
  generalize (σ.2.2.1 5 2).toNatClampNeg = n2 at *
  obtain ⟨τ', g1, g2, g3, g4, g5⟩ := e_uniM τ n0 n1 n2 l.1 l.2 (by omega) (by rw [ae 0 (by omega), x0]) (by rw [ae 1 (by omega), x1]) (by rw [ae 2 (by omega), x2])
  have eC : cDo σ = bd (F_Told_keepUniforms σ (σ.2.2.1 5 0) (σ.2.2.1 5 1) 0 (σ.2.2.1 5 2)) (fun o41 => some (o41, 0)) := by
    rw [cDo_carry σ 6 hK (by decide) hk]
    unfold F_DM_carryOut
    rw [hk]
    rfl
  rw [x0, x1, x2] at eC
  unfold F_Told_keepUniforms F_Told_keepUniforms_23 at eC
  rw [ck_pos (by decide)] at eC
  by_cases z : n1 = 0
  · rw [if_pos (show Int32.ofNat n1 ≤ 0 by rw [z]; decide)] at eC
    have e1 : L_Cmd_perform_208 100000 τ 0 = some τ := by
      rw [show (100000 : Nat) = 99999 + 1 from rfl, L_Cmd_perform_208, ae 1 (by omega), x1, z, if_pos (by decide)]; rfl
    exact ⟨σ, 0, τ, τ, 1, eC, e1, rfl, b, Fr.rfl, Or.inl ⟨rfl, rfl, Fr.rfl⟩⟩
  · have hck : cpok (Int32.ofNat n2) (Int32.ofNat (42 + 4 * n0)) (Int32.ofNat (4 * n1)) 4096 245 := cpok_n _ _ _ _ _ (by omega) (by omega) (by omega) (by omega)
    rw [if_neg (show ¬ Int32.ofNat n1 ≤ 0 from fun e => z (by have := (n_le n1 0 (by omega) (by omega)).mp e; omega)), show (4 * Int32.ofNat n0 : Int32) = Int32.ofNat (4 * n0) from n_mul 4 n0, show (4 * Int32.ofNat n1 : Int32) = Int32.ofNat (4 * n1) from n_mul 4 n1, show (42 + Int32.ofNat (4 * n0) : Int32) = Int32.ofNat (42 + 4 * n0) from n_add 42 _, show lenC σ 0 = 4096 from rfl, ck_pos hck, lt_def, n_nat _ (by omega), n_nat _ (by omega), n_nat _ (by omega), bd_def] at eC
    refine ⟨_, 0, τ', τ', 1, eC, g1, rfl, ?_, (fr_sA Fr.rfl 1 _ rfl : Fr (fun c k => c == 2 && k == 1) σ _).weak (wKs _ (by decide)), Or.inl ⟨rfl, rfl, g2.weak (vKs _ (by decide))⟩⟩
    refine b.kept g2 (g5 _ (by omega)) (g5 _ (by omega)) (fun j hj => ?_) (fun j hj => ?_)
    · unfold va_cpy
      by_cases q : 42 + 4 * n0 ≤ j ∧ j < 42 + 4 * n0 + 4 * n1
      · exact k_any j (by omega) (by omega) _
      · rw [if_neg q]; exact b.kok j hj
    · unfold va_cpy
      by_cases q : 42 + 4 * n0 ≤ j ∧ j < 42 + 4 * n0 + 4 * n1
      · have g := g3 (j - (42 + 4 * n0)) (by omega)
        rw [show 42 + 4 * n0 + (j - (42 + 4 * n0)) = j by omega] at g
        rw [if_pos q, g, b.mem]
      · rw [if_neg q, g4 j hj (by omega)]; exact b.kep j hj
theorem do_20 (σ τ : Sg) (S : Nat → Int32) (w h sz p d M : Nat) (b : Bas σ τ w h) (c : Cmd0 σ τ S w h sz p d 20 M) : Done σ τ w h 20 := by
  obtain ⟨-, hK, -, h4, h5, -, hk, -, h9⟩ := id c.at_
  have av := allv_rg c.at_
  have hM : M = 6 := h5
  have ae : ∀ j, j < 6 → τ.2.2.1 3 j = σ.2.2.1 5 j := fun j hj => by rw [c.arg j (by omega), h9 j hj]
  obtain ⟨x0, -, -⟩ := rgN (av 0 (by decide)) (by decide)
  obtain ⟨x1, -, -⟩ := rgN (av 1 (by decide)) (by decide)
  obtain ⟨x2, z2, -⟩ := rgN (av 2 (by decide)) (by decide)
  obtain ⟨x3, -, -⟩ := rgN (av 3 (by decide)) (by decide)
  obtain ⟨x4, -, -⟩ := rgN (av 4 (by decide)) (by decide)
  obtain ⟨x5, -, y5⟩ := rgN (av 5 (by decide)) (by decide)
  have z2' : (1 : Int) ≤ _ := z2
  have y5' : _ ≤ (2 : Int) := y5
  have l := c.lie.2.2.1 rfl
  simp only at l
  obtain ⟨g, g1, g2⟩ := e_copy σ τ w h _ _ _ _ _ _ b.pic (σ.2.2.1 0) rfl b.mem b.mw (by omega) l.1 l.2.1 l.2.2 (by omega) x0 x1 x2 x3 x4 x5 (by rw [ae 0 (by omega)]; exact x0) (by rw [ae 1 (by omega)]; exact x1) (by rw [ae 2 (by omega)]; exact x2) (by rw [ae 3 (by omega)]; exact x3) (by rw [ae 4 (by omega)]; exact x4) (by rw [ae 5 (by omega)]; exact x5)
  have F1 : Fr (fun c k => c == 2 && k == 0) σ (sA σ 0 g) := fr_sA Fr.rfl 0 g rfl
  have F2 : Fr (fun c k => c == 2 && k == 0) τ (sA τ 0 g) := fr_sA Fr.rfl 0 g rfl
  refine ⟨sA σ 0 g, 0, τ, sA τ 0 g, 1, ?_, perf_keep τ τ 20 hK (by decide) (no_keep τ 20 hK (by decide) (by decide) (by decide)), ?_, ?_, F1.weak (wKs _ (by decide)), Or.inl ⟨rfl, rfl, F2.weak (vKs _ (by decide))⟩⟩
  · rw [cDo_carry σ 20 hK (by decide) hk]
    unfold F_DM_carryOut
    rw [hk]
    show bd (F_DM_copyBack σ) _ = _
    rw [g1]; rfl
  · show bd (F_Mod_copy τ) _ = _
    rw [g2]; rfl
  · exact b.tr F1 F2 (by decide) (by decide) (b.pic.tr F1 F2 (by decide) (by decide)) rfl b.zer b.cnt b.qry b.n56 b.wrk
theorem e_storM (τ : Sg) (n0 n1 : Nat) (v : Nat → Int32) (h1 : n1 ≤ 256) (h0 : n1 = 0 ∨ n0 + n1 ≤ 4096) (hn0 : n0 ≤ 1048576) (m0 : τ.2.2.1 3 0 = Int32.ofNat n0) (m1 : τ.2.2.1 3 1 = Int32.ofNat n1) (mv : ∀ j, j < n1 → τ.2.2.1 3 (2 + j) = v j) :
    ∃ τ', L_Cmd_perform_166 100000 τ 0 = some τ' ∧ Fr (fun c k => c == 2 && k == 0) τ τ' ∧ τ'.2.2.1 0 = fun q => if n0 ≤ q ∧ q < n0 + n1 then v (q - n0) else τ.2.2.1 0 q := by
  have lp : ∀ (e k f : Nat) (υ : Sg), k + e = n1 → e < f → Fr (fun c k => c == 2 && k == 0) τ υ → (υ.2.2.1 0 = fun q => if n0 ≤ q ∧ q < n0 + k then v (q - n0) else τ.2.2.1 0 q) →
      ∃ τ', L_Cmd_perform_166 f υ (Int32.ofNat k) = some τ' ∧ Fr (fun c k => c == 2 && k == 0) τ τ' ∧ τ'.2.2.1 0 = fun q => if n0 ≤ q ∧ q < n0 + n1 then v (q - n0) else τ.2.2.1 0 q := by
    intro e
    induction e with
    | zero =>
      intro k f υ he hf F h2
      have hkn : k = n1 := by omega
      rw [hkn] at h2
      refine ⟨υ, ?_, F, h2⟩
      rw [show f = (f - 1) + 1 by omega, L_Cmd_perform_166, F.2.2.1 3 rfl, m1, if_pos ((n_le _ _ (by omega) (by omega)).mpr (by omega))]
      rfl
    | succ e ih =>
      intro k f υ he hf F h2
      rw [show f = (f - 1) + 1 by omega, L_Cmd_perform_166, F.2.2.1 3 rfl, m0, m1, if_neg (fun e => absurd ((n_le _ _ (by omega) (by omega)).mp e) (by omega)), show (2 + Int32.ofNat k : Int32) = Int32.ofNat (2 + k) from n_add 2 k, ck_pos (n_inb _ 300 (by omega) (by omega)), n_add, ck_pos (n_inb _ 4096 (by omega) (by omega)), lt_def, lt_def, n_nat _ (by omega), n_nat _ (by omega), n_succ, mv k (by omega)]
      refine ih (k + 1) (f - 1) _ (by omega) (by omega) (fr_sA F 0 _ rfl) ?_
      show upd (υ.2.2.1 0) (n0 + k) (v k) = _
      funext q
      rw [h2]
      by_cases cq : q = n0 + k
      · subst cq; rw [upd_eq, if_pos (by omega), show n0 + k - n0 = k by omega]
      · rw [upd_ne _ _ _ _ cq]
        by_cases c2 : n0 ≤ q ∧ q < n0 + k
        · rw [if_pos c2, if_pos (by omega)]
        · rw [if_neg c2, if_neg (by omega)]
  exact lp n1 0 100000 τ (by omega) (by omega) Fr.rfl (by funext q; rw [if_neg (by omega)])
theorem do_21 (σ τ : Sg) (w h sz p d M : Nat) (b : Bas σ τ w h) (c : Cmd0 σ τ (Sr σ d) w h sz p d 21 M) (hz : sz ≤ 4096) (hn : sz ≤ σ.2.2.2.2 1) (hn4 : σ.2.2.2.2 1 ≤ 4096) (hp : σ.1 10 = Int32.ofNat p) (hd : σ.1 4 = Int32.ofNat d) (hd4 : d ≤ 4) : Done σ τ w h 21 := by
  obtain ⟨-, hK, -, h4, h5, -, hk, -, h9⟩ := id c.at_
  have hL := Li_le sz d hz
  have av := allv_rg c.at_
  obtain ⟨x0, -, y0⟩ := rgN (av 0 (by decide)) (by decide)
  obtain ⟨x1, -, y1⟩ := rgN (av 1 (by decide)) (by decide)
  have y0' : _ ≤ (1048576 : Int) := y0
  have y1' : _ ≤ (256 : Int) := y1
  have l := c.lie.2.2.2.1 rfl
  simp only at l
  have s2 : Sr σ d (p + 2) = σ.2.2.1 5 1 := (h9 1 (by decide)).symm
  have hM : M = 2 + (σ.2.2.1 5 1).toNatClampNeg := by
    rw [h5, s2]
    show 2 + mor 21 (σ.2.2.1 5 1) = _
    unfold mor
    have nz : ¬ σ.2.2.1 5 1 < 0 := fun e => by
      have h1 := (av 1 (by decide)).1
      have h1' : (0 : Int) ≤ _ := h1
      have := Int32.lt_iff_toInt_lt.mp e
      have z : (0 : Int32).toInt = 0 := rfl
      omega
    have le : σ.2.2.1 5 1 ≤ 256 := Int32.le_iff_toInt_le.mpr (av 1 (by decide)).2
    rw [if_pos rfl, if_neg nz, if_pos le]
  have ae : ∀ j, j < 2 → τ.2.2.1 3 j = σ.2.2.1 5 j := fun j hj => by rw [c.arg j (by omega), h9 j hj]
  generalize (σ.2.2.1 5 0).toNatClampNeg = n0 at *
  generalize (σ.2.2.1 5 1).toNatClampNeg = n1 at *
  obtain ⟨τ', g1, g2, g3⟩ := e_storM τ n0 n1 (fun j => Sr σ d (p + 3 + j)) (by omega) l (by omega) (by rw [ae 0 (by omega), x0]) (by rw [ae 1 (by omega), x1]) (fun j hj => by rw [c.arg (2 + j) (by omega), show p + 1 + (2 + j) = p + 3 + j by omega])
  have eC : cDo σ = bd (F_Cou_putWords σ (σ.2.2.1 5 0) (σ.2.2.1 5 1)) (fun o41 => some (o41, 0)) := by
    rw [cDo_carry σ 21 hK (by decide) hk]
    unfold F_DM_carryOut
    rw [hk]
    rfl
  rw [x0, x1] at eC
  have key : ∀ μ, (∀ q, μ q = if n0 ≤ q ∧ q < n0 + n1 then Sr σ d (p + 3 + (q - n0)) else σ.2.2.1 0 q) → Bas (sA σ 0 μ) τ' w h := by
    intro μ hμ
    have F1 : Fr (fun c k => c == 2 && k == 0) σ (sA σ 0 μ) := fr_sA Fr.rfl 0 μ rfl
    refine b.tr F1 g2 (by decide) (by decide) (b.pic.tr F1 g2 (by decide) (by decide)) ?_ b.zer ?_ ?_ b.n56 ?_
    · rw [g3, b.mem]
      funext q
      exact (hμ q).symm
    · rw [g2.2.2.1 56 rfl]; exact b.cnt
    · rw [g2.2.2.1 55 rfl]; exact b.qry
    · rw [g2.2.1 0 rfl]; exact b.wrk
  unfold F_Cou_putWords F_Cou_putWords_23 at eC
  by_cases z : n1 = 0
  · rw [if_pos (show Int32.ofNat n1 ≤ 0 by rw [z]; decide), bd_def] at eC
    refine ⟨σ, 0, τ', τ', 1, eC, g1, rfl, ?_, Fr.rfl, Or.inl ⟨rfl, rfl, g2.weak (vKs _ (by decide))⟩⟩
    have k := key (σ.2.2.1 0) (fun q => by rw [if_neg (by omega)])
    have e : ∀ f, f = σ.2.2.1 0 → sA σ 0 f = σ := by
      intro f hf
      subst hf
      show (σ.1, σ.2.1, (fun j => if j = 0 then σ.2.2.1 0 else σ.2.2.1 j), σ.2.2.2) = σ
      have : (fun j => if j = 0 then σ.2.2.1 0 else σ.2.2.1 j) = σ.2.2.1 := by
        funext j
        by_cases q : j = 0
        · rw [if_pos q, q]
        · rw [if_neg q]
      rw [this]
    rw [e _ rfl] at k
    exact k
  · let ar : Nat := if d = 0 then 7 else 0
    have e1 : F_Cou_source σ = some ar := by
      unfold F_Cou_source F_Cou_source_18
      rw [hd]
      by_cases q : d = 0
      · rw [if_pos ((dz4 d hd4).mpr q)]; show _ = some (if d = 0 then 7 else 0); rw [if_pos q]; rfl
      · rw [if_neg (fun e => q ((dz4 d hd4).mp e))]; show _ = some (if d = 0 then 7 else 0); rw [if_neg q]; rfl
    have e2 : ar < 47 ∧ σ.2.2.1 ar = Sr σ d ∧ Li sz d ≤ lenC σ ar ∧ lenC σ ar ≤ 4096 := by
      show (if d = 0 then 7 else 0) < 47 ∧ σ.2.2.1 (if d = 0 then 7 else 0) = Sr σ d ∧ Li sz d ≤ lenC σ (if d = 0 then 7 else 0) ∧ lenC σ (if d = 0 then 7 else 0) ≤ 4096
      unfold Sr Li
      by_cases q : d = 0
      · rw [if_pos q, if_pos q, if_pos q]
        exact ⟨by omega, rfl, hn, hn4⟩
      · rw [if_neg q, if_neg q, if_neg q]
        exact ⟨by omega, rfl, Nat.le_refl _, Nat.le_refl _⟩
    obtain ⟨e3, e4, e5, e6⟩ := e2
    have hck : cpok (Int32.ofNat (p + 3)) (Int32.ofNat n0) (Int32.ofNat n1) (lenC σ ar) 4096 := cpok_n _ _ _ _ _ (by omega) (by omega) (by omega) (by omega)
    rw [if_neg (show ¬ Int32.ofNat n1 ≤ 0 from fun e => z (by have := (n_le n1 0 (by omega) (by omega)).mp e; omega)), e1, bd_def, lt_def, ck_pos e3, hp, show (Int32.ofNat p + 3 : Int32) = Int32.ofNat (p + 3) from n_add p 3, ck_pos hck, lt_def, n_nat _ (by omega), n_nat _ (by omega), n_nat _ (by omega), e4, bd_def] at eC
    exact ⟨_, 0, τ', τ', 1, eC, g1, rfl, key _ (fun q => rfl), (fr_sA Fr.rfl 0 _ rfl : Fr (fun c k => c == 2 && k == 0) σ _).weak (wKs _ (by decide)), Or.inl ⟨rfl, rfl, g2.weak (vKs _ (by decide))⟩⟩
