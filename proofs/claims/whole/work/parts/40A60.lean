/-! what an instruction may be, in both -/
def bI (b : Bool) : Int32 := if b then 1 else 0
theorem bI_ok (b : Bool) : bI b = 0 ∨ bI b = 1 := by cases b <;> decide
theorem bI_0 (b : Bool) : bI b = 0 ↔ b = false := by cases b <;> decide
def okS (b : Bool) (s : Nat) : Bool := if b then (if s % 4 = 0 then decide (s / 4 % 32 ≤ 15) else if s % 4 = 1 then decide (s / 4 % 32 ≤ 7) else if s % 4 = 2 then true else decide (s / 4 % 32 = 0)) else s == 0
theorem okS_src (b : Bool) (s : Nat) (h : s < 65536) (ho : okS b s = true) : srcOK s := by
  unfold okS at ho
  refine ⟨h, ?_, ?_, ?_⟩ <;> intro h4 <;> cases b <;> simp_all
theorem e_sourceMayBe (b : Bool) (s : Nat) (hs : s < 65536) : F_Chk_sourceMayBe (bI b) (Int32.ofNat s) = some (bI (okS b s)) := by
  have hn : s / 4 % 32 < 32 := Nat.mod_lt _ (by omega)
  have h4 : s % 4 < 4 := Nat.mod_lt _ (by omega)
  cases b
  · show (if Int32.ofNat s = 0 then some 1 else some 0) = some (bI (s == 0))
    by_cases c : s = 0
    · subst c; rfl
    · rw [if_neg (show ¬ Int32.ofNat s = 0 from fun h => c ((n_inj s 0 (by omega) (by omega)).mp h))]
      have : (s == 0) = false := by simp [c]
      rw [this]; rfl
  · have key : ∀ f, f < 4 → ∀ n, n < 32 → (if Int32.ofNat f = 0 then (if 15 < Int32.ofNat n then (F_Chk_sourceMayBe_63 0) else (F_Chk_sourceMayBe_63 1)) else (if Int32.ofNat f = 1 then (if 7 < Int32.ofNat n then (F_Chk_sourceMayBe_75 0) else (F_Chk_sourceMayBe_75 1)) else (if Int32.ofNat f = 2 then (some 1) else (if Int32.ofNat n = 0 then (F_Chk_sourceMayBe_87 1) else (F_Chk_sourceMayBe_87 0))))) = some (bI (if f = 0 then decide (n ≤ 15) else if f = 1 then decide (n ≤ 7) else if f = 2 then true else decide (n = 0))) := by decide
    unfold F_Chk_sourceMayBe
    rw [if_neg (show ¬ bI true = 0 by decide), lt_def, lt_def, sf_num s hs, sf_file s hs]
    exact key _ h4 _ hn
theorem e_badSource (b : Bool) (s : Nat) (hs : s < 65536) : F_Shm_badSource (Int32.ofNat s) (bI b) = some (bI (!okS b s)) := by
  have hn : s / 4 % 32 < 32 := Nat.mod_lt _ (by omega)
  have h4 : s % 4 < 4 := Nat.mod_lt _ (by omega)
  cases b
  · show (if Int32.ofNat s = 0 then some 0 else some 1) = some (bI (!(s == 0)))
    by_cases c : s = 0
    · subst c; rfl
    · rw [if_neg (show ¬ Int32.ofNat s = 0 from fun h => c ((n_inj s 0 (by omega) (by omega)).mp h))]
      have : (s == 0) = false := by simp [c]
      rw [this]; rfl
  · have key : ∀ f, f < 4 → ∀ n, n < 32 → (if Int32.ofNat f = 0 then (if 15 < Int32.ofNat n then (F_Shm_badSource_55) else (F_Shm_badSource_35 (Int32.ofNat f) (Int32.ofNat n))) else (F_Shm_badSource_35 (Int32.ofNat f) (Int32.ofNat n))) = some (bI (!(if f = 0 then decide (n ≤ 15) else if f = 1 then decide (n ≤ 7) else if f = 2 then true else decide (n = 0)))) := by decide
    unfold F_Shm_badSource
    rw [if_neg (show ¬ bI true = 0 by decide), lt_def, lt_def, sm_num s hs, sf_file s hs]
    exact key _ h4 _ hn
/-- the sources of an instruction with m of them -/
def okSS (m : Nat) (w1 w2 : Int32) : Bool := okS (decide (1 ≤ m)) (un w1 % 65536) && (okS (decide (2 ≤ m)) (un w1 / 65536) && (okS (decide (3 ≤ m)) (un w2 % 65536) && un w2 / 65536 == 0))
theorem m3 : ∀ m, m < 4 → ∀ k, k < 4 → ((Int32.ofNat m < Int32.ofNat k ↔ m < k) ∧ (Int32.ofNat m ≤ Int32.ofNat k ↔ m ≤ k)) := by decide
theorem e_sourcesMayBe (m : Nat) (w1 w2 : Int32) (hm : m ≤ 3) : F_Chk_sourcesMayBe (Int32.ofNat m) w1 w2 = some (bI (okSS m w1 w2)) := by
  have u1 := un_lt w1
  have u2 := un_lt w2
  have a1 := e_sourceMayBe (decide (1 ≤ m)) (un w1 % 65536) (by omega)
  have a2 := e_sourceMayBe (decide (2 ≤ m)) (un w1 / 65536) (by omega)
  have a3 := e_sourceMayBe (decide (3 ≤ m)) (un w2 % 65536) (by omega)
  have e50 : ∀ b : Bool, b = decide (3 ≤ m) → F_Chk_sourcesMayBe_50 w2 (bI b) = some (bI (okS (decide (3 ≤ m)) (un w2 % 65536) && un w2 / 65536 == 0)) := by
    intro b hb; subst hb
    unfold F_Chk_sourcesMayBe_50 F_Chk_sourcesMayBe_71 F_Chk_sourcesMayBe_72
    rw [w_s1, a3, bd_def, w_s2]
    cases okS (decide (3 ≤ m)) (un w2 % 65536)
    · rfl
    · rw [if_neg (show ¬ bI true = 0 by decide)]
      by_cases c : un w2 / 65536 = 0
      · rw [c]; rfl
      · rw [if_neg (show ¬ Int32.ofNat (un w2 / 65536) = 0 from fun h => c ((n_inj _ 0 (by omega) (by omega)).mp h))]
        have : (un w2 / 65536 == 0) = false := by simp [c]
        rw [this]; rfl
  have e30 : ∀ b : Bool, b = decide (2 ≤ m) → F_Chk_sourcesMayBe_30 (Int32.ofNat m) w1 w2 (bI b) = some (bI (okS (decide (2 ≤ m)) (un w1 / 65536) && (okS (decide (3 ≤ m)) (un w2 % 65536) && un w2 / 65536 == 0))) := by
    intro b hb; subst hb
    unfold F_Chk_sourcesMayBe_30 F_Chk_sourcesMayBe_71 F_Chk_sourcesMayBe_72
    rw [w_s2, a2, bd_def]
    cases okS (decide (2 ≤ m)) (un w1 / 65536)
    · rfl
    · rw [if_neg (show ¬ bI true = 0 by decide), Bool.true_and]
      by_cases c : m < 3
      · rw [if_pos (show Int32.ofNat m < 3 from (m3 m (by omega) 3 (by omega)).1.mpr c)]; exact e50 false (by simp; omega)
      · rw [if_neg (show ¬ Int32.ofNat m < 3 from fun h => c ((m3 m (by omega) 3 (by omega)).1.mp h))]; exact e50 true (by simp; omega)
  have e10 : ∀ b : Bool, b = decide (1 ≤ m) → F_Chk_sourcesMayBe_10 (Int32.ofNat m) w1 w2 (bI b) = some (bI (okSS m w1 w2)) := by
    intro b hb; subst hb
    unfold F_Chk_sourcesMayBe_10 F_Chk_sourcesMayBe_71 F_Chk_sourcesMayBe_72 okSS
    rw [w_s1, a1, bd_def]
    cases okS (decide (1 ≤ m)) (un w1 % 65536)
    · rfl
    · rw [if_neg (show ¬ bI true = 0 by decide), Bool.true_and]
      by_cases c : m < 2
      · rw [if_pos (show Int32.ofNat m < 2 from (m3 m (by omega) 2 (by omega)).1.mpr c)]; exact e30 false (by simp; omega)
      · rw [if_neg (show ¬ Int32.ofNat m < 2 from fun h => c ((m3 m (by omega) 2 (by omega)).1.mp h))]; exact e30 true (by simp; omega)
  unfold F_Chk_sourcesMayBe
  by_cases c : m < 1
  · rw [if_pos (show Int32.ofNat m < 1 from (m3 m (by omega) 1 (by omega)).1.mpr c)]; exact e10 false (by simp; omega)
  · rw [if_neg (show ¬ Int32.ofNat m < 1 from fun h => c ((m3 m (by omega) 1 (by omega)).1.mp h))]; exact e10 true (by simp; omega)
theorem e_Shm_sources : ∀ m, m < 41 → F_Shm_sources (Int32.ofNat m) = some (Int32.ofNat (tb_SOURCES m).toNatClampNeg) := by decide
theorem e_badSources (ω : Nat → Int32) (N a : Nat) (σ : Sg) (i : Nat) (ha : a < 58) (hl : lenM σ a = 768) (hN : N ≤ 256) (hi : i < N) (hw : ∀ j, j < 3 * N → σ.2.2.1 a j = ω j) (hk : kdN ω i ≤ 40) :
    F_Shm_badSources σ a (Int32.ofNat i) = some (bI (!okSS (tb_SOURCES (kdN ω i)).toNatClampNeg (ω (3 * i + 1)) (ω (3 * i + 2)))) := by
  obtain ⟨a1, a2, a3, a4⟩ := i256 i (by omega)
  obtain ⟨-, -, b3, -⟩ := srcs (kdN ω i) (by omega)
  obtain ⟨s1, s2, s3⟩ := e_sourceOf ω N a σ i ha hl hN hi hw
  generalize hm : (tb_SOURCES (kdN ω i)).toNatClampNeg = m at b3
  have u1 := un_lt (ω (3 * i + 1))
  have u2 := un_lt (ω (3 * i + 2))
  have c1 := e_badSource (decide (1 ≤ m)) (s1N ω i) (by unfold s1N; omega)
  have c2 := e_badSource (decide (2 ≤ m)) (s2N ω i) (by unfold s2N; omega)
  have c3 := e_badSource (decide (3 ≤ m)) (s3N ω i % 65536) (by omega)
  have bad : ∀ n k, k < 4 → 4 ≤ n + k → L_Shm_badSources_31 (n + 1) σ a (Int32.ofNat i) (Int32.ofNat m) 1 (Int32.ofNat k) = some 1 := by
    intro n
    induction n with
    | zero => intro k h1 h2; omega
    | succ n ih =>
      intro k h1 h2
      rw [L_Shm_badSources_31, ck_pos ha]
      by_cases c : k = 3
      · subst c; rw [if_pos (by decide), ck_pos (by decide)]
      · rw [if_neg (by rw [show (3 : Int32) = Int32.ofNat 3 from rfl, n_le _ _ (by omega) (by omega)]; omega), if_neg (by decide)]
        unfold F_Shm_badSources_65 F_Shm_badSources_70
        rw [ck_pos ha, ck_pos ha, lt_def, n_succ]
        exact ih (k + 1) (by omega) (by omega)
  have step : ∀ (n k s : Nat) (b : Bool) (o : Bool), k < 3 → 4 ≤ n + (k + 1) → F_Shm_sourceOf σ a (Int32.ofNat i) (Int32.ofNat k) = some (Int32.ofNat s) → b = decide (k + 1 ≤ m) → F_Shm_badSource (Int32.ofNat s) (bI b) = some (bI (!o)) → L_Shm_badSources_31 (n + 1 + 1) σ a (Int32.ofNat i) (Int32.ofNat m) 0 (Int32.ofNat k) = if o then L_Shm_badSources_31 (n + 1) σ a (Int32.ofNat i) (Int32.ofNat m) 0 (Int32.ofNat (k + 1)) else some 1 := by
    intro n k s b o hk3 hn hs hb hbad
    rw [L_Shm_badSources_31, ck_pos ha, if_neg (by rw [show (3 : Int32) = Int32.ofNat 3 from rfl, n_le _ _ (by omega) (by omega)]; omega), if_pos rfl, hs, bd_def]
    have e59 : F_Shm_badSources_59 (L_Shm_badSources_31 (n + 1)) σ a (Int32.ofNat i) (Int32.ofNat m) (Int32.ofNat k) (Int32.ofNat s) (bI b) = if o then L_Shm_badSources_31 (n + 1) σ a (Int32.ofNat i) (Int32.ofNat m) 0 (Int32.ofNat (k + 1)) else some 1 := by
      unfold F_Shm_badSources_59 F_Shm_badSources_65 F_Shm_badSources_70
      rw [ck_pos ha, hbad, bd_def, ck_pos ha, ck_pos ha, lt_def, lt_def, n_succ]
      cases o
      · rw [if_neg (show ¬ bI (!false) = 0 by decide), bad n (k + 1) (by omega) hn, ck_pos ha]; rfl
      · rfl
    by_cases c : m ≤ k
    · have hb0 : b = false := by rw [hb]; simp; omega
      rw [if_pos ((m3 m (by omega) k (by omega)).2.mpr c)]
      rw [hb0] at e59; exact e59
    · have hb1 : b = true := by rw [hb]; simp; omega
      rw [if_neg (fun h => c ((m3 m (by omega) k (by omega)).2.mp h))]
      rw [hb1] at e59; exact e59
  unfold F_Shm_badSources
  rw [ck_pos ha, e_kindOf ω N a σ i ha hl hN hi hw, bd_def, e_Shm_sources _ (by omega), bd_def, a1, a3, hl, ck_pos (n_inb _ 768 (by omega) (by omega)), n_nat _ (by omega), hw _ (by omega), w_s2, hm]
  unfold F_Shm_badSources_27
  rw [ck_pos ha, ck_pos ha]
  by_cases c : un (ω (3 * i + 2)) / 65536 = 0
  · rw [c, if_pos (show Int32.ofNat 0 = 0 from rfl)]
    rw [show (100000 : Nat) = 99998 + 1 + 1 from rfl]
    rw [show (L_Shm_badSources_31 (99998 + 1 + 1) σ a (Int32.ofNat i) (Int32.ofNat m) 0 0) = _ from step 99998 0 (s1N ω i) _ _ (by omega) (by omega) s1 rfl c1]
    rw [show L_Shm_badSources_31 (99998 + 1) σ a (Int32.ofNat i) (Int32.ofNat m) 0 (Int32.ofNat (0 + 1)) = _ from step 99997 1 (s2N ω i) _ _ (by omega) (by omega) s2 rfl c2]
    rw [show L_Shm_badSources_31 (99997 + 1) σ a (Int32.ofNat i) (Int32.ofNat m) 0 (Int32.ofNat (1 + 1)) = _ from step 99996 2 (s3N ω i % 65536) _ _ (by omega) (by omega) s3 rfl c3]
    have last : L_Shm_badSources_31 (99996 + 1) σ a (Int32.ofNat i) (Int32.ofNat m) 0 (Int32.ofNat (2 + 1)) = some 0 := by
      rw [L_Shm_badSources_31, ck_pos ha, if_pos (by decide), ck_pos (by decide)]
    rw [last]
    unfold okSS
    show _ = some (bI (!(okS (decide (1 ≤ m)) (s1N ω i) && (okS (decide (2 ≤ m)) (s2N ω i) && (okS (decide (3 ≤ m)) (s3N ω i % 65536) && un (ω (3 * i + 2)) / 65536 == 0)))))
    rw [c]
    cases okS (decide (1 ≤ m)) (s1N ω i) <;> cases okS (decide (2 ≤ m)) (s2N ω i) <;> cases okS (decide (3 ≤ m)) (s3N ω i % 65536) <;> rfl
  · rw [if_neg (show ¬ Int32.ofNat (un (ω (3 * i + 2)) / 65536) = 0 from fun h => c ((n_inj _ 0 (by omega) (by omega)).mp h))]
    rw [show L_Shm_badSources_31 100000 σ a (Int32.ofNat i) (Int32.ofNat m) 1 0 = some 1 from bad 99999 0 (by omega) (by omega)]
    have hz : (un (ω (3 * i + 2)) / 65536 == 0) = false := by simp [c]
    unfold okSS
    rw [hz]; simp [bI]
