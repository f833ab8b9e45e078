/-! both processors side by side: the run -/
theorem i_pred (x : Nat) (h : x < 256) (h1 : 1 ≤ x) : Int32.ofNat x - 1 = Int32.ofNat (x - 1) := by
  have : Int32.ofNat x = Int32.ofNat (x - 1) + 1 := by rw [n_succ]; congr 1; omega
  rw [this]; grind
theorem i_predn (x : Nat) (h : x < 256) (h1 : 1 ≤ x) : Int32.ofNat x + (-1) = Int32.ofNat (x - 1) := by
  have : Int32.ofNat x = Int32.ofNat (x - 1) + 1 := by rw [n_succ]; congr 1; omega
  rw [this]; grind
theorem i_le0 (x : Nat) (h : x < 256) : Int32.ofNat x ≤ 0 ↔ x = 0 := by
  rw [show (0 : Int32) = Int32.ofNat 0 from rfl, n_le _ _ (by omega) (by omega)]; omega
theorem sim (ω : Nat → Int32) (N : Nat) (rd : Nat → Prop) (μ κ : Nat → Int32) (pid p : Nat) (hpid : pid < 3) (hp : p < 2) (hN : N ≤ 256) (hk : TxOK κ) (ok : ∀ i, i < N → insOK ω N rd i) :
    ∀ f i l σ τ st done, phi ω N i l ≤ f → st + phi ω N i l ≤ 65536 → i < N → Sim ω N rd μ κ pid p i l σ τ → ∀ n m, f < n → f < m →
      ∃ oC oM, L_Pro_follow_32 n σ pid (Int32.ofNat (stk ω i).length) (Int32.ofNat i) (Int32.ofNat st) = some oC ∧ L_Shm_run_61 m τ p done (Int32.ofNat i) = some oM ∧ Fr pFol σ oC.1 ∧ Fr (pRun p) τ oM.1 ∧ BR p rd (oC.1.2.2.1 10) oM.1 ∧ ((oC.2 = 1 ∧ oM.1.1 (45 + 6 * p) = 0) ∨ (oC.2 = 0 ∧ oM.1.1 (45 + 6 * p) = 1)) := by
  intro f
  induction f with
  | zero =>
    intro i l σ τ st done hf _ hi
    have := phi_pos ω N i l hi
    omega
  | succ f ih =>
    intro i l σ τ st done hf hst hi hS n m hn hm
    have hpos := phi_pos ω N i l hi
    obtain ⟨n, rfl⟩ : ∃ x, n = x + 1 := ⟨n - 1, by omega⟩
    obtain ⟨m, rfl⟩ : ∃ x, m = x + 1 := ⟨m - 1, by omega⟩
    obtain ⟨⟨c1, c2, c3, c4, c5, c6⟩, ⟨d1, d2, d3, d4, d5, d6, d7⟩⟩ := hS
    have oki := ok i hi
    obtain ⟨σ1, x1, x2, x3, x4, x5⟩ := e_fol ω N rd σ pid i st n (Int32.ofNat (stk ω i).length) hpid hN hi (by omega) c1 c2 oki
    obtain ⟨τ1, y1, y2, y3, y4, y5, y6⟩ := e_run ω N rd (σ.2.2.1 10) τ p i m done hp hN hi d1 oki d6
    have fR : Fr (pRun p) τ τ1 := y2.weak (by intro c k; simp only [pRun]; grind)
    have fF : Fr pFol σ σ1 := x2.weak (by intro c k; simp only [pFol]; grind)
    have hst1 : Int32.ofNat st + 1 = Int32.ofNat (st + 1) := n_succ st
    obtain ⟨k1, ⟨k2, k3, k4'⟩, k5, k6, k7', k8, k9, k10, k11⟩ := oki
    rw [x1, y1]
    -- what goes on
    have cont : ∀ (i2 : Nat) (l2 : Nat → Nat) (σ2 τ2 : Sg), Fr pFol σ σ2 → Fr (pRun p) τ τ2 → phi ω N i2 l2 + 1 ≤ phi ω N i l → i2 < N → StkC (σ2.2.2.1 15) (σ2.2.2.1 16) l2 (stk ω i2) → (stk ω i2).length ≤ 4 → (∀ b, b ∈ stk ω i2 → τ2.2.2.1 (22 + 10 * p) b = Int32.ofNat (l2 b) ∧ 1 ≤ l2 b ∧ l2 b ≤ 255) → BR p rd (σ2.2.2.1 10) τ2 → τ2.1 (45 + 6 * p) = 0 →
        ∃ oC oM, L_Pro_follow_32 n σ2 pid (Int32.ofNat (stk ω i2).length) (Int32.ofNat i2) (Int32.ofNat (st + 1)) = some oC ∧ L_Shm_run_61 m τ2 p (done + 1) (Int32.ofNat i2) = some oM ∧ Fr pFol σ oC.1 ∧ Fr (pRun p) τ oM.1 ∧ BR p rd (oC.1.2.2.1 10) oM.1 ∧ ((oC.2 = 1 ∧ oM.1.1 (45 + 6 * p) = 0) ∨ (oC.2 = 0 ∧ oM.1.1 (45 + 6 * p) = 1)) := by
      intro i2 l2 σ2 τ2 fa fb hph hi2 hstk hlen hleft hB hkill
      have w1 : Sim ω N rd μ κ pid p i2 l2 σ2 τ2 := by
        refine ⟨⟨?_, ?_, ?_, ?_, hstk, hlen⟩, ⟨?_, ?_, ?_, ?_, hleft, hB, hkill⟩⟩
        · rw [fa.1 _ (by simp [pFol])]; exact c1
        · intro j hj; rw [fa.2.2.1 _ (by first | (simp [pFol]; done) | (simp [pFol]; omega))]; exact c2 j hj
        · rw [fa.2.2.1 _ (by decide)]; exact c3
        · rw [fa.2.2.1 _ (by decide)]; exact c4
        · intro j hj; rw [fb.2.2.1 _ (by first | (simp [pRun]; done) | (simp [pRun]; omega))]; exact d1 j hj
        · rw [fb.2.2.1 _ (by first | (simp [pRun]; done) | (simp [pRun]; omega))]; exact d2
        · exact d3.fr (fb.2.2.1 _ (by first | (simp [pRun]; done) | (simp [pRun]; omega))) (fb.2.2.1 _ (by first | (simp [pRun]; done) | (simp [pRun]; omega)))
        · intro j hj b r e; rw [fb.2.2.1 _ (by first | (simp [pRun]; done) | (simp [pRun]; omega))]; exact d4 j hj b r e
      obtain ⟨oC, oM, z1, z2, z3, z4, z5, z6⟩ := ih i2 l2 σ2 τ2 (st + 1) (done + 1) (by omega) (by omega) hi2 w1 n m (by omega) (by omega)
      exact ⟨oC, oM, z1, z2, fa.trans z3, fb.trans z4, z5, z6⟩
    have f64 : ∀ (υ : Sg) (d y : Int32), F_Pro_follow_364 (L_Pro_follow_32 n) υ pid d y (Int32.ofNat st) = L_Pro_follow_32 n υ pid d y (Int32.ofNat (st + 1)) := fun υ d y => by unfold F_Pro_follow_364; rw [ck_pos hpid, lt_def, hst1]
    have f326 : ∀ (υ : Sg) (v y : Int32), F_Shm_run_326 (L_Shm_run_61 m) υ p v y = L_Shm_run_61 m υ p v y := fun υ v y => by unfold F_Shm_run_326; rw [ck_pos hp]
    have B1 : BR p rd (σ.2.2.1 10) τ1 := d6.fr (y2.2.2.1 _ (by first | (simp; done) | (simp; omega))) (y2.2.2.1 _ (by first | (simp; done) | (simp; omega))) (y2.2.2.1 _ (by first | (simp; done) | (simp; omega))) (y2.2.2.1 _ (by first | (simp; done) | (simp; omega)))
    have t45 : τ1.1 (45 + 6 * p) = 0 := by rw [y2.1 _ (by first | (simp; done) | (simp; omega))]; exact d7
    have t22 : τ1.2.2.1 (22 + 10 * p) = τ.2.2.1 (22 + 10 * p) := y2.2.2.1 _ (by first | (simp; done) | (simp; omega))
    have s15 : σ1.2.2.1 15 = σ.2.2.1 15 := x2.2.2.1 _ (by decide)
    have s16 : σ1.2.2.1 16 = σ.2.2.1 16 := x2.2.2.1 _ (by decide)
    have s10 : σ1.2.2.1 10 = σ.2.2.1 10 := x2.2.2.1 _ (by decide)
    have cases : kdN ω i = 0 ∨ hasT (kdN ω i) = true ∨ kdN ω i = 34 ∨ kdN ω i = 35 ∨ kdN ω i = 36 ∨ kdN ω i = 37 ∨ kdN ω i = 38 := by
      simp [hasT]; omega
    rcases cases with hc | hc | hc | hc | hc | hc | hc
    · -- the end
      rw [hc, if_pos rfl]
      refine ⟨(σ1, 1), (τ1, done + 1), rfl, rfl, fF, fR, ?_, Or.inl ⟨rfl, t45⟩⟩
      show BR p rd (σ1.2.2.1 10) τ1
      rw [s10]; exact B1
    · -- a target is set
      have hne : kdN ω i ≠ 0 ∧ kdN ω i ≠ 34 ∧ kdN ω i ≠ 35 := by simp [hasT] at hc; omega
      have hs : stk ω (i + 1) = stk ω i := by simp only [stk]; rw [if_neg hne.2.1, if_neg hne.2.2]
      rw [if_neg hne.1, if_pos hc]
      obtain ⟨σ2, u1, u2, u3⟩ := fol_T μ κ n σ σ1 pid (kdN ω i) (nmN ω i) (Int32.ofNat (stk ω i).length) (Int32.ofNat (i + 1)) (Int32.ofNat st) (ω (3 * i)) (srcV (σ.2.2.1 10) (s1N ω i)) (srcV (σ.2.2.1 10) (s2N ω i)) (srcV (σ.2.2.1 10) (s3N ω i)) hpid hc k10 (k6 hc) c3 c4 hk x2 x3 x4 x5
      have hre : reck (kdN ω i) = true ∨ ((kdN ω i = 32 ∨ kdN ω i = 33) ∧ nmN ω i < 4) := by
        by_cases h : kdN ω i = 32 ∨ kdN ω i = 33
        · exact Or.inr ⟨h, k10 h⟩
        · left; simp [hasT] at hc; simp [reck]; omega
      obtain ⟨τ2, v1, v2, v3⟩ := e_put p rd μ κ (σ.2.2.1 10) τ1 (ω (3 * i)) (kdN ω i) (nmN ω i) (srcV (σ.2.2.1 10) (s1N ω i)) (srcV (σ.2.2.1 10) (s2N ω i)) (srcV (σ.2.2.1 10) (s3N ω i)) hp (k6 hc) hre (by rw [y2.2.2.1 _ (by first | (simp; done) | (simp; omega))]; exact d2) B1 hk (d3.fr (y2.2.2.1 _ (by first | (simp; done) | (simp; omega))) (y2.2.2.1 _ (by first | (simp; done) | (simp; omega)))) y3 y4 y5 y6
      have v2' : Fr (pRun p) τ1 τ2 := v2.weak (by intro c k; simp only [pRun, pPut]; grind)
      rw [u1, v1, bd_def, run142_T _ _ _ _ _ _ hp hc, hst1]
      have := cont (i + 1) l σ2 τ2 (u2.weak (by intro c k; simp only [pFol]; grind)) (fR.trans v2') (phi_go ω N i (i + 1) l hi (by omega) hs) (by omega) (by rw [hs, u2.2.2.1 15 (by decide), u2.2.2.1 16 (by decide)]; exact c5) (by rw [hs]; exact c6) (fun b hb => by rw [hs] at hb; rw [v2.2.2.1 _ (by first | (simp [pPut]; done) | (simp [pPut]; omega)), t22]; exact d5 b hb) (by rw [u3]; exact v3) (by rw [v2.1 _ (by first | (simp [pPut]; done) | (simp [pPut]; omega))]; exact t45)
      rw [hs] at this
      exact this
    · -- a loop is gone into
      obtain ⟨q1, q2, q3⟩ := k8 hc
      have hs : stk ω (i + 1) = i :: stk ω i := by simp only [stk]; rw [if_pos hc]
      rw [hc, if_neg (by decide), if_neg (by decide)]
      have hin : ∀ b, b ∈ stk ω i → b ≠ i := fun b hb e => by have := stk_lt ω i b hb; omega
      have eC : folD n σ1 pid (Int32.ofNat (stk ω i).length) (Int32.ofNat (i + 1)) (Int32.ofNat st) (ω (3 * i)) (Int32.ofNat (nmN ω i)) (Int32.ofNat 34) = L_Pro_follow_32 n (sA (sA σ1 15 (upd (σ1.2.2.1 15) (stk ω i).length (Int32.ofNat (i + 1)))) 16 (upd (σ1.2.2.1 16) (stk ω i).length (Int32.ofNat (nmN ω i)))) pid (Int32.ofNat ((stk ω i).length + 1)) (Int32.ofNat (i + 1)) (Int32.ofNat (st + 1)) := by
        show ck (inb (Int32.ofNat (stk ω i).length) 4) _ = _
        rw [ck_pos (n_inb _ 4 q3 (by omega)), lt_def, ck_pos (n_inb _ 4 q3 (by omega)), lt_def, lt_def, n_nat _ (by omega), f64, n_succ]; rfl
      have eM : F_Shm_run_142 (L_Shm_run_61 m) τ1 p (done + 1) (Int32.ofNat i) (Int32.ofNat 34) = L_Shm_run_61 m (sA τ1 (22 + 10 * p) (upd (τ1.2.2.1 (22 + 10 * p)) i (Int32.ofNat (nmN ω i)))) p (done + 1) (Int32.ofNat (i + 1)) := by
        have hl : lenM τ1 (22 + 10 * p) = 256 := by
          have : p = 0 ∨ p = 1 := by omega
          rcases this with rfl | rfl <;> rfl
        unfold F_Shm_run_142
        rw [ck_pos hp, lt_def, if_pos (by decide), hl, ck_pos (n_inb i 256 (by omega) (by omega)), lt_def, n_nat _ (by omega), f326, n_succ, y3]
      rw [eC, eM]
      have := cont (i + 1) (fun b => if b = i then nmN ω i else l b) (sA (sA σ1 15 (upd (σ1.2.2.1 15) (stk ω i).length (Int32.ofNat (i + 1)))) 16 (upd (σ1.2.2.1 16) (stk ω i).length (Int32.ofNat (nmN ω i)))) (sA τ1 (22 + 10 * p) (upd (τ1.2.2.1 (22 + 10 * p)) i (Int32.ofNat (nmN ω i)))) (fr_sA (fr_sA fF _ _ (by decide)) _ _ (by decide)) (fr_sA fR _ _ (by simp [pRun])) (phi_in ω N i l hi hc q1) (by omega) (by
          rw [hs]
          refine ⟨?_, ?_, StkC_ext (σ.2.2.1 15) (σ.2.2.1 16) _ _ l _ _ (fun k hk => ?_) (fun k hk => ?_) (fun b hb => if_neg (hin b hb)) c5⟩
          · rw [sA_3, if_neg (by decide), sA_3, if_pos rfl, upd_eq]
          · rw [sA_3, if_pos rfl, upd_eq]; simp
          · rw [sA_3, if_neg (by decide), sA_3, if_pos rfl, upd_ne _ _ _ _ (by omega), s15]
          · rw [sA_3, if_pos rfl, upd_ne _ _ _ _ (by omega), s16]) (by rw [hs]; simp; omega) (fun b hb => by
          rw [hs] at hb
          rw [sA_3, if_pos rfl]
          rcases List.mem_cons.mp hb with hb | hb
          · subst hb; rw [upd_eq, if_pos rfl]; exact ⟨rfl, q1, q2⟩
          · rw [upd_ne _ _ _ _ (hin b hb), if_neg (hin b hb), t22]; exact d5 b hb) (by
          rw [sA_3, if_neg (by decide), sA_3, if_neg (by decide), s10]
          exact B1.fr (by rw [sA_3, if_neg (by omega)]) (by rw [sA_3, if_neg (by omega)]) (by rw [sA_3, if_neg (by omega)]) (by rw [sA_3, if_neg (by omega)])) t45
      rw [hs] at this
      exact this
    · -- a loop's end
      have hne := k9 hc
      rw [hc, if_neg (by decide), if_neg (by decide)]
      cases hsi : stk ω i with
      | nil => exact absurd hsi hne
      | cons b r =>
        have hbm : b ∈ stk ω i := by rw [hsi]; exact List.mem_cons_self
        obtain ⟨hr, hkb, hbi⟩ := stk_head ω i b r hsi
        rw [hsi] at c5 c6
        obtain ⟨p1, p2, p3⟩ := c5
        have hlen : r.length < 4 := by simp at c6; omega
        obtain ⟨e1, e2, e3⟩ := d5 b hbm
        have hl : ∀ υ : Sg, lenM υ (22 + 10 * p) = 256 ∧ lenM υ (23 + 10 * p) = 256 := by
          intro υ
          have : p = 0 ∨ p = 1 := by omega
          rcases this with rfl | rfl <;> exact ⟨rfl, rfl⟩
        have hbr : ∀ c, c ∈ r → c ≠ b := fun c hc' e => by rw [hr] at hc'; have := stk_lt ω b c hc'; omega
        have o1 : τ1.2.2.1 (23 + 10 * p) i = Int32.ofNat b := by rw [y2.2.2.1 _ (by first | (simp; done) | (simp; omega))]; exact d4 i hi b r hsi
        have ln : Int32.ofNat (b :: r).length - 1 = Int32.ofNat r.length := by rw [i_pred _ (by first | (simp; done) | (simp; omega)) (by simp)]; simp
        have ln2 : Int32.ofNat (b :: r).length + (-1) = Int32.ofNat r.length := by rw [i_predn _ (by first | (simp; done) | (simp; omega)) (by simp)]; simp
        have lb : Int32.ofNat (l b) - 1 = Int32.ofNat (l b - 1) := i_pred _ (by omega) e2
        have eC : folD n σ1 pid (Int32.ofNat (b :: r).length) (Int32.ofNat (i + 1)) (Int32.ofNat st) (ω (3 * i)) (Int32.ofNat (nmN ω i)) (Int32.ofNat 35) = (if l b - 1 = 0 then L_Pro_follow_32 n (sA σ1 16 (upd (σ1.2.2.1 16) r.length (Int32.ofNat (l b - 1)))) pid (Int32.ofNat r.length) (Int32.ofNat (i + 1)) (Int32.ofNat (st + 1)) else L_Pro_follow_32 n (sA σ1 16 (upd (σ1.2.2.1 16) r.length (Int32.ofNat (l b - 1)))) pid (Int32.ofNat (b :: r).length) (Int32.ofNat (b + 1)) (Int32.ofNat (st + 1))) := by
          unfold folD
          rw [if_neg (by decide), if_neg (by decide), if_neg (by decide), if_neg (by decide), if_pos (by decide)]
          simp only [lt, ln, ln2, ck_pos (n_inb r.length 4 hlen (by omega)), n_nat r.length (by omega), s16, p2, lb, sA_3, if_true, upd_eq, Nat.reduceEqDiff, reduceIte, s15, p1, f64]
          have h0 := i_le0 (l b - 1) (by omega)
          by_cases z : l b - 1 = 0
          · rw [if_pos (h0.mpr z), if_pos z]
          · rw [if_neg (fun h => z (h0.mp h)), if_neg z]
        have eM : F_Shm_run_142 (L_Shm_run_61 m) τ1 p (done + 1) (Int32.ofNat i) (Int32.ofNat 35) = (if l b - 1 = 0 then L_Shm_run_61 m (sA τ1 (22 + 10 * p) (upd (τ1.2.2.1 (22 + 10 * p)) b (Int32.ofNat (l b - 1)))) p (done + 1) (Int32.ofNat (i + 1)) else L_Shm_run_61 m (sA τ1 (22 + 10 * p) (upd (τ1.2.2.1 (22 + 10 * p)) b (Int32.ofNat (l b - 1)))) p (done + 1) (Int32.ofNat (b + 1))) := by
          unfold F_Shm_run_142 F_Shm_run_235
          have hi256 : i < 256 := by omega
          have hb256 : b < 256 := by omega
          rw [ck_pos hp, lt_def, if_neg (by decide), if_pos (by decide)]
          simp only [lt, (hl _).1, (hl _).2, ck_pos (n_inb i 256 hi256 (by omega)), n_nat i (by omega), o1, ck_pos (n_inb b 256 hb256 (by omega)), n_nat b (by omega), t22, e1, lb, sA_3, if_true, upd_eq, f326, ck_pos hp, n_succ]
          have h0 := i_le0 (l b - 1) (by omega)
          by_cases z : l b - 1 = 0
          · rw [if_pos (h0.mpr z), if_pos z]
          · rw [if_neg (fun h => z (h0.mp h)), if_neg z]
        rw [eC, eM]
        have hB2 : BR p rd ((sA σ1 16 (upd (σ1.2.2.1 16) r.length (Int32.ofNat (l b - 1)))).2.2.1 10) (sA τ1 (22 + 10 * p) (upd (τ1.2.2.1 (22 + 10 * p)) b (Int32.ofNat (l b - 1)))) := by
          rw [sA_3, if_neg (by decide), s10]
          exact B1.fr (by rw [sA_3, if_neg (by omega)]) (by rw [sA_3, if_neg (by omega)]) (by rw [sA_3, if_neg (by omega)]) (by rw [sA_3, if_neg (by omega)])
        by_cases z : l b - 1 = 0
        · rw [if_pos z, if_pos z]
          have hs : stk ω (i + 1) = r := by simp only [stk]; rw [if_neg (by omega), if_pos hc, hsi]; rfl
          have := cont (i + 1) l (sA σ1 16 (upd (σ1.2.2.1 16) r.length (Int32.ofNat (l b - 1)))) (sA τ1 (22 + 10 * p) (upd (τ1.2.2.1 (22 + 10 * p)) b (Int32.ofNat (l b - 1)))) (fr_sA fF _ _ (by decide)) (fr_sA fR _ _ (by simp [pRun])) (phi_out ω N i b r l l hi hc hsi (fun _ _ => rfl)) (by have := k11; omega) (by
              rw [hs]
              refine StkC_ext (σ.2.2.1 15) (σ.2.2.1 16) _ _ l _ _ (fun k hk => ?_) (fun k hk => ?_) (fun _ _ => rfl) p3
              · rw [sA_3, if_neg (by decide), s15]
              · rw [sA_3, if_pos rfl, upd_ne _ _ _ _ (by omega), s16]) (by rw [hs]; omega) (fun c hc' => by
              rw [hs] at hc'
              rw [sA_3, if_pos rfl, upd_ne _ _ _ _ (hbr c hc'), t22]
              exact d5 c (by rw [hsi]; exact List.mem_cons_of_mem _ hc')) hB2 t45
          rw [hs] at this
          exact this
        · rw [if_neg z, if_neg z]
          have hs : stk ω (b + 1) = b :: r := by rw [hr]; simp only [stk]; rw [if_pos hkb]
          have := cont (b + 1) (fun c => if c = b then l b - 1 else l c) (sA σ1 16 (upd (σ1.2.2.1 16) r.length (Int32.ofNat (l b - 1)))) (sA τ1 (22 + 10 * p) (upd (τ1.2.2.1 (22 + 10 * p)) b (Int32.ofNat (l b - 1)))) (fr_sA fF _ _ (by decide)) (fr_sA fR _ _ (by simp [pRun])) (phi_again ω N i b r l hi hsi (by omega)) (by omega) (by
              rw [hs]
              refine ⟨?_, ?_, StkC_ext (σ.2.2.1 15) (σ.2.2.1 16) _ _ l _ _ (fun k hk => ?_) (fun k hk => ?_) (fun c hc' => if_neg (hbr c hc')) p3⟩
              · rw [sA_3, if_neg (by decide), s15]; exact p1
              · rw [sA_3, if_pos rfl, upd_eq]; simp
              · rw [sA_3, if_neg (by decide), s15]
              · rw [sA_3, if_pos rfl, upd_ne _ _ _ _ (by omega), s16]) (by rw [hs]; exact c6) (fun c hc' => by
              rw [hs] at hc'
              rw [sA_3, if_pos rfl]
              rcases List.mem_cons.mp hc' with h | h
              · subst h; rw [upd_eq, if_pos rfl]; exact ⟨rfl, by omega, by omega⟩
              · rw [upd_ne _ _ _ _ (hbr c h), if_neg (hbr c h), t22]; exact d5 c (by rw [hsi]; exact List.mem_cons_of_mem _ h)) hB2 t45
          rw [hs] at this
          exact this
    · -- a skip if not above
      obtain ⟨q1, q2, q3⟩ := k7' (Or.inl hc)
      have hs : stk ω (i + 1) = stk ω i := by simp only [stk]; rw [if_neg (by omega), if_neg (by omega)]
      rw [hc, if_neg (by decide), if_neg (by decide)]
      have hs1 : 1 ≤ (tb_SOURCES (kdN ω i)).toNatClampNeg := (srcs _ (by omega)).2.2.2.2 (Or.inl hc)
      have a0 := x3 hs1 0 (by omega)
      have b0 := y4 0 (by omega)
      have eC : folD n σ1 pid (Int32.ofNat (stk ω i).length) (Int32.ofNat (i + 1)) (Int32.ofNat st) (ω (3 * i)) (Int32.ofNat (nmN ω i)) (Int32.ofNat 36) = L_Pro_follow_32 n σ1 pid (Int32.ofNat (stk ω i).length) (if 0 < srcV (σ.2.2.1 10) (s1N ω i) 0 then Int32.ofNat (i + 1) else Int32.ofNat (nmN ω i)) (Int32.ofNat (st + 1)) := by
        show (if 0 < σ1.2.2.1 11 0 then _ else _) = _
        rw [a0]
        unfold F_Pro_follow_259
        rw [ck_pos hpid, ck_pos hpid, f64, f64]
        split <;> rfl
      have hl : lenM τ1 (20 + 10 * p) = 12 := by
        have : p = 0 ∨ p = 1 := by omega
        rcases this with rfl | rfl <;> rfl
      have eM : F_Shm_run_142 (L_Shm_run_61 m) τ1 p (done + 1) (Int32.ofNat i) (Int32.ofNat 36) = L_Shm_run_61 m τ1 p (done + 1) (if 0 < srcV (σ.2.2.1 10) (s1N ω i) 0 then Int32.ofNat (i + 1) else Int32.ofNat (nmN ω i)) := by
        unfold F_Shm_run_142 F_Shm_run_258
        rw [ck_pos hp, lt_def, if_neg (by decide), if_neg (by decide), if_pos (by decide), hl, ck_pos (show inb 0 12 by decide), b0, ck_pos hp, ck_pos hp, f326, f326, n_succ, y3]
        split <;> rfl
      rw [eC, eM]
      have hB2 : BR p rd (σ1.2.2.1 10) τ1 := by rw [s10]; exact B1
      by_cases z : 0 < srcV (σ.2.2.1 10) (s1N ω i) 0
      · rw [if_pos z]
        have := cont (i + 1) l σ1 τ1 fF fR (phi_go ω N i (i + 1) l hi (by omega) hs) (by omega) (by rw [hs, s15, s16]; exact c5) (by rw [hs]; exact c6) (fun b hb => by rw [hs] at hb; rw [t22]; exact d5 b hb) hB2 t45
        rw [hs] at this
        exact this
      · rw [if_neg z]
        have := cont (nmN ω i) l σ1 τ1 fF fR (phi_go ω N i (nmN ω i) l hi q1 q3) q2 (by rw [q3, s15, s16]; exact c5) (by rw [q3]; exact c6) (fun b hb => by rw [q3] at hb; rw [t22]; exact d5 b hb) hB2 t45
        rw [q3] at this
        exact this
    · -- a skip
      obtain ⟨q1, q2, q3⟩ := k7' (Or.inr hc)
      rw [hc, if_neg (by decide), if_neg (by decide)]
      have eC : folD n σ1 pid (Int32.ofNat (stk ω i).length) (Int32.ofNat (i + 1)) (Int32.ofNat st) (ω (3 * i)) (Int32.ofNat (nmN ω i)) (Int32.ofNat 37) = L_Pro_follow_32 n σ1 pid (Int32.ofNat (stk ω i).length) (Int32.ofNat (nmN ω i)) (Int32.ofNat (st + 1)) := by
        show F_Pro_follow_364 (L_Pro_follow_32 n) σ1 pid _ _ _ = _
        rw [f64]
      have eM : F_Shm_run_142 (L_Shm_run_61 m) τ1 p (done + 1) (Int32.ofNat i) (Int32.ofNat 37) = L_Shm_run_61 m τ1 p (done + 1) (Int32.ofNat (nmN ω i)) := by
        unfold F_Shm_run_142
        rw [ck_pos hp, lt_def, if_neg (by decide), if_neg (by decide), if_neg (by decide), if_pos (by decide), lt_def, f326, y3]
      rw [eC, eM]
      have hB2 : BR p rd (σ1.2.2.1 10) τ1 := by rw [s10]; exact B1
      have := cont (nmN ω i) l σ1 τ1 fF fR (phi_go ω N i (nmN ω i) l hi q1 q3) q2 (by rw [q3, s15, s16]; exact c5) (by rw [q3]; exact c6) (fun b hb => by rw [q3] at hb; rw [t22]; exact d5 b hb) hB2 t45
      rw [q3] at this
      exact this
    · -- a kill
      have hs : stk ω (i + 1) = stk ω i := by simp only [stk]; rw [if_neg (by omega), if_neg (by omega)]
      rw [hc, if_neg (by decide), if_neg (by decide)]
      have hs1 : 1 ≤ (tb_SOURCES (kdN ω i)).toNatClampNeg := (srcs _ (by omega)).2.2.2.2 (Or.inr hc)
      have a0 := x3 hs1
      have hl : lenM τ1 (20 + 10 * p) = 12 := by
        have : p = 0 ∨ p = 1 := by omega
        rcases this with rfl | rfl <;> rfl
      generalize hg : srcV (σ.2.2.1 10) (s1N ω i) = g at *
      have eC : folD n σ1 pid (Int32.ofNat (stk ω i).length) (Int32.ofNat (i + 1)) (Int32.ofNat st) (ω (3 * i)) (Int32.ofNat (nmN ω i)) (Int32.ofNat 38) = if g 0 < 0 ∨ g 1 < 0 ∨ g 2 < 0 ∨ g 3 < 0 then some (σ1, 0) else L_Pro_follow_32 n σ1 pid (Int32.ofNat (stk ω i).length) (Int32.ofNat (i + 1)) (Int32.ofNat (st + 1)) := by
        show (if 0 ≤ ((((σ1.2.2.1 11 0) ||| (σ1.2.2.1 11 1)) ||| (σ1.2.2.1 11 2)) ||| (σ1.2.2.1 11 3)) then _ else _) = _
        rw [a0 0 (by omega), a0 1 (by omega), a0 2 (by omega), a0 3 (by omega), f64]
        by_cases z : g 0 < 0 ∨ g 1 < 0 ∨ g 2 < 0 ∨ g 3 < 0
        · rw [if_neg (by rw [i_or4]; exact fun h => h z), if_pos z]
        · rw [if_pos (by rw [i_or4]; exact z), if_neg z]
      have e314 : ∀ s : Int32, (s = 0 ∨ s = 1) → F_Shm_run_314 (L_Shm_run_61 m) τ1 p (done + 1) (Int32.ofNat (i + 1)) p s = if s = 0 then L_Shm_run_61 m (sI τ1 (45 + 6 * p) s) p (done + 1) (Int32.ofNat (i + 1)) else some (sI τ1 (45 + 6 * p) s, done + 1) := by
        intro s hs'
        unfold F_Shm_run_314
        rw [ck_pos hp, ck_pos hp, ck_pos hs', lt_def, sI_1, if_pos rfl, f326]
      have eM : F_Shm_run_142 (L_Shm_run_61 m) τ1 p (done + 1) (Int32.ofNat i) (Int32.ofNat 38) = if g 0 < 0 ∨ g 1 < 0 ∨ g 2 < 0 ∨ g 3 < 0 then some (sI τ1 (45 + 6 * p) 1, done + 1) else L_Shm_run_61 m (sI τ1 (45 + 6 * p) 0) p (done + 1) (Int32.ofNat (i + 1)) := by
        have e9 : F_Shm_run_309 (L_Shm_run_61 m) τ1 p (done + 1) (Int32.ofNat (i + 1)) p = some (sI τ1 (45 + 6 * p) 1, done + 1) := by
          unfold F_Shm_run_309
          rw [ck_pos hp, ck_pos hp, e314 1 (Or.inr rfl), if_neg (by decide)]
        unfold F_Shm_run_142
        rw [ck_pos hp, lt_def, if_neg (by decide), if_neg (by decide), if_neg (by decide), if_neg (by decide), if_pos (by decide), hl, ck_pos (show inb 0 12 by decide), ck_pos (show inb 1 12 by decide), ck_pos (show inb 2 12 by decide), ck_pos (show inb 3 12 by decide), y4 0 (by omega), y4 1 (by omega), y4 2 (by omega), y4 3 (by omega), n_succ, e9, e314 0 (Or.inl rfl), if_pos rfl]
        by_cases z0 : g 0 < 0
        · rw [if_pos z0, if_pos (Or.inl z0)]
        · rw [if_neg z0]
          by_cases z1 : g 1 < 0
          · rw [if_pos z1, if_pos (Or.inr (Or.inl z1))]
          · rw [if_neg z1]
            by_cases z2 : g 2 < 0
            · rw [if_pos z2, if_pos (Or.inr (Or.inr (Or.inl z2)))]
            · rw [if_neg z2]
              by_cases z3 : g 3 < 0
              · rw [if_neg (show ¬ 0 ≤ g 3 by grind), if_pos (Or.inr (Or.inr (Or.inr z3)))]
              · rw [if_pos (show 0 ≤ g 3 by grind), if_neg]
                intro h
                rcases h with h | h | h | h <;> contradiction
      rw [eC, eM]
      by_cases z : g 0 < 0 ∨ g 1 < 0 ∨ g 2 < 0 ∨ g 3 < 0
      · rw [if_pos z, if_pos z]
        refine ⟨_, _, rfl, rfl, fF, fr_sI fR _ _ (by simp [pRun]), ?_, Or.inr ⟨rfl, ?_⟩⟩
        · show BR p rd (σ1.2.2.1 10) _
          rw [s10]; exact B1
        · show (sI τ1 (45 + 6 * p) 1).1 (45 + 6 * p) = 1
          rw [sI_1, if_pos rfl]
      · rw [if_neg z, if_neg z]
        have := cont (i + 1) l σ1 (sI τ1 (45 + 6 * p) 0) fF (fr_sI fR _ _ (by simp [pRun])) (phi_go ω N i (i + 1) l hi (by omega) hs) (by omega) (by rw [hs, s15, s16]; exact c5) (by rw [hs]; exact c6) (fun b hb => by rw [hs] at hb; rw [sI_2, t22]; exact d5 b hb) (by rw [s10]; exact B1) (by rw [sI_1, if_pos rfl])
        rw [hs] at this
        exact this
