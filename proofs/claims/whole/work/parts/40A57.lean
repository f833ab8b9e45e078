/-! both processors side by side -/
theorem i_neg_msb (x : Int32) : x < 0 ↔ x.toBitVec.msb = true := by
  rw [Int32.lt_iff_toInt_lt]
  show x.toBitVec.toInt < 0 ↔ _
  rw [BitVec.toInt_eq_msb_cond]
  have := x.toBitVec.isLt
  split
  · simp_all; omega
  · simp_all
theorem i_or_neg (x y : Int32) : (x ||| y) < 0 ↔ (x < 0 ∨ y < 0) := by
  rw [i_neg_msb, i_neg_msb, i_neg_msb]
  show (x.toBitVec ||| y.toBitVec).msb = true ↔ _
  rw [BitVec.msb_or]
  cases x.toBitVec.msb <;> cases y.toBitVec.msb <;> simp
theorem i_or4 (a b c d : Int32) : 0 ≤ (((a ||| b) ||| c) ||| d) ↔ ¬ (a < 0 ∨ b < 0 ∨ c < 0 ∨ d < 0) := by
  have h : 0 ≤ (((a ||| b) ||| c) ||| d) ↔ ¬ ((((a ||| b) ||| c) ||| d) < 0) := by
    constructor <;> intro h <;> grind
  rw [h, i_or_neg, i_or_neg, i_or_neg]
  simp only [or_assoc]
def StkC (f g : Nat → Int32) (l : Nat → Nat) : List Nat → Prop
  | [] => True
  | b :: r => f r.length = Int32.ofNat (b + 1) ∧ g r.length = Int32.ofNat (l b) ∧ StkC f g l r
theorem StkC_ext (f g f' g' : Nat → Int32) (l l' : Nat → Nat) (L : List Nat) (hf : ∀ k, k < L.length → f' k = f k) (hg : ∀ k, k < L.length → g' k = g k) (hl : ∀ b, b ∈ L → l' b = l b) (h : StkC f g l L) : StkC f' g' l' L := by
  induction L with
  | nil => trivial
  | cons b r ih =>
    obtain ⟨h1, h2, h3⟩ := h
    refine ⟨?_, ?_, ih (fun k hk => hf k (by simp; omega)) (fun k hk => hg k (by simp; omega)) (fun c hc => hl c (List.mem_cons_of_mem _ hc)) h3⟩
    · rw [hf _ (by simp), h1]
    · rw [hg _ (by simp), h2, hl b List.mem_cons_self]
theorem setT_ext (β : Nat → Int32) (W : Nat) (r r' : Nat → Int32) (h : ∀ k, k < 4 → r k = r' k) : setT β W r = setT β W r' := by
  funext j
  unfold setT
  by_cases c : (tgA W ≤ j ∧ j < tgA W + 4) ∧ W / 2 ^ (12 + (j - tgA W)) % 2 = 1
  · rw [if_pos c, if_pos c, h _ (by omega)]
  · rw [if_neg c, if_neg c]
def pFol : Nat → Nat → Bool := fun c k => c == 2 && (10 ≤ k && k ≤ 20)
def pRun (p : Nat) : Nat → Nat → Bool := fun c k => (c == 0 && (k == 20 || k == 44 + 6 * p || k == 45 + 6 * p)) || (c == 2 && ((7 ≤ k && k ≤ 13) || k == 16 + 10 * p || k == 18 + 10 * p || k == 20 + 10 * p || k == 21 + 10 * p || k == 22 + 10 * p))
def Sim (ω : Nat → Int32) (N : Nat) (rd : Nat → Prop) (μ κ : Nat → Int32) (pid p i : Nat) (l : Nat → Nat) (σ τ : Sg) : Prop :=
  (σ.1 (22 + 3 * pid) = Int32.ofNat N ∧ (∀ j, j < 3 * N → σ.2.2.1 (21 + pid) j = ω j) ∧ σ.2.2.1 0 = μ ∧ σ.2.2.1 1 = κ ∧ StkC (σ.2.2.1 15) (σ.2.2.1 16) l (stk ω i) ∧ (stk ω i).length ≤ 4)
  ∧ ((∀ j, j < 3 * N → τ.2.2.1 (14 + 10 * p) j = ω j) ∧ τ.2.2.1 0 = μ ∧ TxRel κ τ ∧ (∀ j, j < N → ∀ b r, stk ω j = b :: r → τ.2.2.1 (23 + 10 * p) j = Int32.ofNat b) ∧ (∀ b, b ∈ stk ω i → τ.2.2.1 (22 + 10 * p) b = Int32.ofNat (l b) ∧ 1 ≤ l b ∧ l b ≤ 255) ∧ BR p rd (σ.2.2.1 10) τ ∧ τ.1 (45 + 6 * p) = 0)
theorem run142_T (rc : Sg → Nat → Int32 → Int32 → Option (Sg × Int32)) (σ : Sg) (p i m : Nat) (v : Int32) (hp : p < 2) (hm : hasT m = true) : F_Shm_run_142 rc σ p v (Int32.ofNat i) (Int32.ofNat m) = rc σ p v (Int32.ofNat (i + 1)) := by
  have n6 : ∀ j, 34 ≤ j → j ≤ 38 → ¬ (Int32.ofNat m = Int32.ofNat j) := fun j h1 h2 e => by
    simp [hasT] at hm
    have := (n_inj m j (by omega) (by omega)).mp e
    omega
  unfold F_Shm_run_142 F_Shm_run_326
  rw [ck_pos hp, lt_def, n_succ, if_neg (show ¬ Int32.ofNat m = 34 from n6 34 (by omega) (by omega)), if_neg (show ¬ Int32.ofNat m = 35 from n6 35 (by omega) (by omega)), if_neg (show ¬ Int32.ofNat m = 36 from n6 36 (by omega) (by omega)), if_neg (show ¬ Int32.ofNat m = 37 from n6 37 (by omega) (by omega)), if_neg (show ¬ Int32.ofNat m = 38 from n6 38 (by omega) (by omega)), ck_pos hp]
theorem folD_R (n : Nat) (σ : Sg) (pid : Nat) (d y v w nm : Int32) (m : Nat) (hm : reck m = true) : folD n σ pid d y v w nm (Int32.ofNat m) = bd (F_Pro_reckon σ (Int32.ofNat m)) (fun o78 => bd (F_Pro_setTarget o78 w) (fun o79 => F_Pro_follow_364 (L_Pro_follow_32 n) o79 pid d y v)) := by
  have n6 : ∀ j, (j = 0 ∨ (32 ≤ j ∧ j ≤ 38)) → ¬ (Int32.ofNat m = Int32.ofNat j) := fun j h e => by
    simp [reck] at hm
    have := (n_inj m j (by omega) (by omega)).mp e
    omega
  unfold folD
  rw [if_neg (show ¬ Int32.ofNat m = 0 from n6 0 (by omega)), if_neg (show ¬ Int32.ofNat m = 32 from n6 32 (by omega)), if_neg (show ¬ Int32.ofNat m = 33 from n6 33 (by omega)), if_neg (show ¬ Int32.ofNat m = 34 from n6 34 (by omega)), if_neg (show ¬ Int32.ofNat m = 35 from n6 35 (by omega)), if_neg (show ¬ Int32.ofNat m = 36 from n6 36 (by omega)), if_neg (show ¬ Int32.ofNat m = 37 from n6 37 (by omega)), if_neg (show ¬ Int32.ofNat m = 38 from n6 38 (by omega))]
/-- an instruction with a target, in the class -/
theorem fol_T (μ κ : Nat → Int32) (n : Nat) (σ σ1 : Sg) (pid m nm : Nat) (d y v w : Int32) (a b c : Nat → Int32) (hp : pid < 3) (hm : hasT m = true) (hnm : (m = 32 ∨ m = 33) → nm < 4) (ht : tgOK (un w)) (h0 : σ.2.2.1 0 = μ) (h1 : σ.2.2.1 1 = κ) (hk : TxOK κ)
    (hF : Fr (fun c k => c == 2 && (11 ≤ k && k ≤ 13)) σ σ1) (ha : 1 ≤ (tb_SOURCES m).toNatClampNeg → ∀ k, k < 4 → σ1.2.2.1 11 k = a k) (hb : 2 ≤ (tb_SOURCES m).toNatClampNeg → ∀ k, k < 4 → σ1.2.2.1 12 k = b k) (hc : 3 ≤ (tb_SOURCES m).toNatClampNeg → ∀ k, k < 4 → σ1.2.2.1 13 k = c k) :
    ∃ σ2, folD n σ1 pid d y v w (Int32.ofNat nm) (Int32.ofNat m) = L_Pro_follow_32 n σ2 pid d y (v + 1) ∧ Fr (fun c k => c == 2 && ((10 ≤ k && k ≤ 14) || (17 ≤ k && k ≤ 20))) σ σ2 ∧ σ2.2.2.1 10 = setT (σ.2.2.1 10) (un w) (opv μ (σ.2.2.1 10) (rdt μ κ nm (a 0) (a 1) (if m = 33 then a 2 else 0)) m a b c) := by
  have m40 : m < 41 := by simp [hasT] at hm; omega
  have hs1 := (srcs m m40).2.2.2.1 hm
  have g0 : σ1.2.2.1 0 = μ := (hF.2.2.1 0 (by decide)).trans h0
  have g1 : σ1.2.2.1 1 = κ := (hF.2.2.1 1 (by decide)).trans h1
  have g10 : σ1.2.2.1 10 = σ.2.2.1 10 := hF.2.2.1 10 (by decide)
  have f64 : ∀ τ : Sg, F_Pro_follow_364 (L_Pro_follow_32 n) τ pid d y v = L_Pro_follow_32 n τ pid d y (v + 1) := fun τ => by unfold F_Pro_follow_364; rw [ck_pos hp, lt_def]
  have hF' : Fr (fun c k => c == 2 && ((10 ≤ k && k ≤ 14) || (17 ≤ k && k ≤ 20))) σ σ1 := hF.weak (by intro c k; grind)
  by_cases hr : reck m = true
  · rw [folD_R n σ1 pid d y v w _ m hr, e_reckon μ (σ.2.2.1 10) (rdt μ κ nm (a 0) (a 1) (if m = 33 then a 2 else 0)) σ1 m hr g0 g10, bd_def, e_setTarget _ w ht, bd_def, f64]
    refine ⟨_, rfl, fr_sA (fr_sA hF' _ _ (by decide)) _ _ (by decide), ?_⟩
    rw [sA_3, if_pos rfl, sA_3, if_neg (by decide), g10]
    apply setT_ext
    intro k hk4
    rw [sA_3, if_pos rfl, rowset_get0 _ _ _ _ hk4]
    exact opv_ext _ _ _ _ _ _ _ _ _ _ _ hk4 (ha hs1) hb hc (by omega)
  · have hm2 : m = 32 ∨ m = 33 := by simp [hasT] at hm; simp [reck] at hr; omega
    have a0 := ha hs1 0 (by omega)
    have a1 := ha hs1 1 (by omega)
    have a2 := ha hs1 2 (by omega)
    obtain ⟨σt, t1, t2, t3⟩ := e_read μ κ σ1 nm (a 0) (a 1) (if m = 33 then a 2 else 0) (hnm hm2) hk g0 g1
    have e : folD n σ1 pid d y v w (Int32.ofNat nm) (Int32.ofNat m) = bd (F_Tex_read σ1 (Int32.ofNat nm) (a 0) (a 1) (if m = 33 then a 2 else 0) 14) (fun o42 => bd (F_Pro_setTarget o42 w) (fun o43 => F_Pro_follow_364 (L_Pro_follow_32 n) o43 pid d y v)) := by
      rcases hm2 with rfl | rfl
      · show F_Pro_follow_301 (L_Pro_follow_32 n) σ1 pid d y v w (Int32.ofNat nm) (Int32.ofNat 32) = _
        unfold F_Pro_follow_301 F_Pro_follow_336
        rw [ck_pos hp, if_neg (by decide), ck_pos hp, a0, a1]; rfl
      · show F_Pro_follow_301 (L_Pro_follow_32 n) σ1 pid d y v w (Int32.ofNat nm) (Int32.ofNat 33) = _
        unfold F_Pro_follow_301 F_Pro_follow_336
        rw [ck_pos hp, if_pos (by decide), ck_pos hp, a0, a1, a2]; rfl
    rw [e, t1, bd_def, e_setTarget _ w ht, bd_def, f64]
    have t2' : Fr (fun c k => c == 2 && ((10 ≤ k && k ≤ 14) || (17 ≤ k && k ≤ 20))) σ1 σt := t2.weak (by intro c k; grind)
    refine ⟨_, rfl, fr_sA (hF'.trans t2') _ _ (by decide), ?_⟩
    rw [sA_3, if_pos rfl, t2.2.2.1 10 (by decide), g10]
    apply setT_ext
    intro k hk4
    rw [t3 k hk4]
    rcases hm2 with rfl | rfl <;> rfl
