/-! one step of the class's processor -/
def s1N (ω : Nat → Int32) (i : Nat) : Nat := un (ω (3 * i + 1)) % 65536
def s2N (ω : Nat → Int32) (i : Nat) : Nat := un (ω (3 * i + 1)) / 65536
def s3N (ω : Nat → Int32) (i : Nat) : Nat := un (ω (3 * i + 2))
def hasT (m : Nat) : Bool := (1 ≤ m && m ≤ 33) || m == 39 || m == 40
def insOK (ω : Nat → Int32) (N : Nat) (rd : Nat → Prop) (i : Nat) : Prop :=
  kdN ω i ≤ 40 ∧ (srcOK (s1N ω i) ∧ srcOK (s2N ω i) ∧ srcOK (s3N ω i)) ∧ ((s1N ω i % 4 = 1 → rd (s1N ω i / 4 % 32)) ∧ (s2N ω i % 4 = 1 → rd (s2N ω i / 4 % 32)) ∧ (s3N ω i % 4 = 1 → rd (s3N ω i / 4 % 32)))
  ∧ (hasT (kdN ω i) = true → tgOK (un (ω (3 * i)))) ∧ ((kdN ω i = 36 ∨ kdN ω i = 37) → i < nmN ω i ∧ nmN ω i < N ∧ stk ω (nmN ω i) = stk ω i)
  ∧ (kdN ω i = 34 → 1 ≤ nmN ω i ∧ nmN ω i ≤ 255 ∧ (stk ω i).length < 4) ∧ (kdN ω i = 35 → stk ω i ≠ []) ∧ ((kdN ω i = 32 ∨ kdN ω i = 33) → nmN ω i < 4) ∧ (kdN ω i = 0 ↔ i + 1 = N)
theorem nm_lt (ω : Nat → Int32) (i : Nat) : nmN ω i < 32768 := by
  have := un_lt (ω (3 * i)); unfold nmN; omega
theorem w_kd (w : Int32) : w &&& 63 = Int32.ofNat (un w % 64) := b_mask w 6 (by omega)
theorem w_nm (w : Int32) : ushr w 17 = Int32.ofNat (un w / 131072) := b_ushr w 17 (by omega)
theorem w_s1 (w : Int32) : w &&& 65535 = Int32.ofNat (un w % 65536) := b_mask w 16 (by omega)
theorem w_s2 (w : Int32) : ushr w 16 = Int32.ofNat (un w / 65536) := b_ushr w 16 (by omega)
theorem i256 : ∀ i, i < 256 → ((3 * Int32.ofNat i) = Int32.ofNat (3 * i) ∧ Int32.ofNat (3 * i) + 1 = Int32.ofNat (3 * i + 1) ∧ Int32.ofNat (3 * i) + 2 = Int32.ofNat (3 * i + 2) ∧ Int32.ofNat i + 1 = Int32.ofNat (i + 1)) := by
  intro i hi
  refine ⟨?_, ?_, ?_, n_succ i⟩
  · rw [show (3 : Int32) = Int32.ofNat 3 from rfl, n_mul]
  · exact n_succ _
  · rw [show (2 : Int32) = Int32.ofNat 2 from rfl, n_add]
theorem srcs : ∀ m, m < 41 → (inb (Int32.ofNat m) 41 ∧ tb_SOURCES (Int32.ofNat m).toNatClampNeg = Int32.ofNat (tb_SOURCES m).toNatClampNeg ∧ (tb_SOURCES m).toNatClampNeg ≤ 3 ∧ (hasT m = true → 1 ≤ (tb_SOURCES m).toNatClampNeg) ∧ ((m = 36 ∨ m = 38) → 1 ≤ (tb_SOURCES m).toNatClampNeg)) := by decide
/-- what comes after the sources were read -/
def folD (n : Nat) (o55 : Sg) (v1 : Nat) (v2 y56 v4 y48 y49 y50 : Int32) : Option (Sg × Int32) :=
  if y50 = 0 then (some (o55, 1)) else (if y50 = 32 then (F_Pro_follow_301 (L_Pro_follow_32 n) o55 v1 v2 y56 v4 y48 y49 y50) else (if y50 = 33 then (F_Pro_follow_301 (L_Pro_follow_32 n) o55 v1 v2 y56 v4 y48 y49 y50) else (if y50 = 34 then (ck (inb v2 4) (lt (sA o55 15 (upd (o55.2.2.1 15) v2.toNatClampNeg y56)) (fun σ62 => ck (inb v2 4) (lt (sA σ62 16 (upd (σ62.2.2.1 16) v2.toNatClampNeg y49)) (fun σ64 => lt (v2 + 1) (fun y65 => F_Pro_follow_364 (L_Pro_follow_32 n) σ64 v1 y65 y56 v4)))))) else (if y50 = 35 then (lt (v2 - 1) (fun y67 => ck (inb y67 4) (ck (inb y67 4) (lt (sA o55 16 (upd (o55.2.2.1 16) y67.toNatClampNeg ((o55.2.2.1 16 y67.toNatClampNeg) - 1))) (fun σ70 => ck (inb (v2 - 1) 4) (if (σ70.2.2.1 16 (v2 - 1).toNatClampNeg) ≤ 0 then (lt (v2 + (-1)) (fun y72 => F_Pro_follow_364 (L_Pro_follow_32 n) σ70 v1 y72 y56 v4)) else (ck (inb (v2 - 1) 4) (lt (σ70.2.2.1 15 (v2 - 1).toNatClampNeg) (fun y74 => F_Pro_follow_364 (L_Pro_follow_32 n) σ70 v1 v2 y74 v4))))))))) else (if y50 = 36 then (if 0 < (o55.2.2.1 11 0) then (F_Pro_follow_259 (L_Pro_follow_32 n) o55 v1 v2 v4 y56) else (F_Pro_follow_259 (L_Pro_follow_32 n) o55 v1 v2 v4 y49)) else (if y50 = 37 then (F_Pro_follow_364 (L_Pro_follow_32 n) o55 v1 v2 y49 v4) else (if y50 = 38 then (if 0 ≤ ((((o55.2.2.1 11 0) ||| (o55.2.2.1 11 1)) ||| (o55.2.2.1 11 2)) ||| (o55.2.2.1 11 3)) then (F_Pro_follow_364 (L_Pro_follow_32 n) o55 v1 v2 y56 v4) else (some (o55, 0))) else (bd (F_Pro_reckon o55 y50) (fun o78 => bd (F_Pro_setTarget o78 y48) (fun o79 => F_Pro_follow_364 (L_Pro_follow_32 n) o79 v1 v2 y56 v4))))))))))
theorem e_fol (ω : Nat → Int32) (N : Nat) (rd : Nat → Prop) (σ : Sg) (pid i st n : Nat) (d : Int32) (hp : pid < 3) (hN : N ≤ 256) (hi : i < N) (hs : st < 65536) (hm : σ.1 (22 + 3 * pid) = Int32.ofNat N) (hw : ∀ j, j < 3 * N → σ.2.2.1 (21 + pid) j = ω j) (ok : insOK ω N rd i) :
    ∃ σ1, L_Pro_follow_32 (n + 1) σ pid d (Int32.ofNat i) (Int32.ofNat st) = folD n σ1 pid d (Int32.ofNat (i + 1)) (Int32.ofNat st) (ω (3 * i)) (Int32.ofNat (nmN ω i)) (Int32.ofNat (kdN ω i)) ∧ Fr (fun c k => c == 2 && (11 ≤ k && k ≤ 13)) σ σ1
      ∧ (1 ≤ (tb_SOURCES (kdN ω i)).toNatClampNeg → ∀ k, k < 4 → σ1.2.2.1 11 k = srcV (σ.2.2.1 10) (s1N ω i) k) ∧ (2 ≤ (tb_SOURCES (kdN ω i)).toNatClampNeg → ∀ k, k < 4 → σ1.2.2.1 12 k = srcV (σ.2.2.1 10) (s2N ω i) k) ∧ (3 ≤ (tb_SOURCES (kdN ω i)).toNatClampNeg → ∀ k, k < 4 → σ1.2.2.1 13 k = srcV (σ.2.2.1 10) (s3N ω i) k) := by
  obtain ⟨hk, ⟨h1, h2, h3⟩, -⟩ := ok
  obtain ⟨a1, a2, a3, a4⟩ := i256 i (by omega)
  obtain ⟨b1, b2, b3, -⟩ := srcs (kdN ω i) (by omega)
  have hl : lenC σ (21 + 1 * pid) = 768 := by
    have : pid = 0 ∨ pid = 1 ∨ pid = 2 := by omega
    rcases this with rfl | rfl | rfl <;> rfl
  have e21 : 21 + 1 * pid = 21 + pid := by omega
  obtain ⟨σ1, s1, s2, s3⟩ := e_readSources σ (tb_SOURCES (kdN ω i)).toNatClampNeg (s1N ω i) (s2N ω i) (s3N ω i) (ω (3 * i + 1)) (ω (3 * i + 2)) b3 h1 h2 h3 (w_s1 _) (w_s2 _) (by unfold s3N; exact (ofNat_un _).symm)
  refine ⟨σ1, ?_, s2, s3⟩
  have k0 : ω (3 * i) &&& 63 = Int32.ofNat (kdN ω i) := w_kd _
  have k1 : ushr (ω (3 * i)) 17 = Int32.ofNat (nmN ω i) := w_nm _
  rw [L_Pro_follow_32, ck_pos hp, if_neg (by rw [show (65536 : Int32) = Int32.ofNat 65536 from rfl, n_le _ _ (by omega) (by omega)]; omega), hm, if_neg (by rw [n_le _ _ (by omega) (by omega)]; omega), hl, a1, ck_pos (n_inb _ 768 (by omega) (by omega)), n_nat _ (by omega), e21, hw _ (by omega)]
  simp only [lt, k0, k1, ck_pos b1, b2, a2, a3, a4, ck_pos (n_inb (3 * i + 1) 768 (by omega) (by omega)), ck_pos (n_inb (3 * i + 2) 768 (by omega) (by omega)), n_nat (3 * i + 1) (by omega), n_nat (3 * i + 2) (by omega), hw (3 * i + 1) (by omega), hw (3 * i + 2) (by omega), s1, bd_def]
  rfl
/-! one step of the reference's -/
theorem e_kindOf (ω : Nat → Int32) (N a : Nat) (σ : Sg) (i : Nat) (ha : a < 58) (hl : lenM σ a = 768) (hN : N ≤ 256) (hi : i < N) (hw : ∀ j, j < 3 * N → σ.2.2.1 a j = ω j) : F_Shm_kindOf σ a (Int32.ofNat i) = some (Int32.ofNat (kdN ω i)) := by
  obtain ⟨a1, a2, a3, a4⟩ := i256 i (by omega)
  unfold F_Shm_kindOf
  rw [ck_pos ha, a1, hl, ck_pos (n_inb _ 768 (by omega) (by omega)), n_nat _ (by omega), hw _ (by omega), w_kd]; rfl
theorem e_numberOf (ω : Nat → Int32) (N a : Nat) (σ : Sg) (i : Nat) (ha : a < 58) (hl : lenM σ a = 768) (hN : N ≤ 256) (hi : i < N) (hw : ∀ j, j < 3 * N → σ.2.2.1 a j = ω j) : F_Shm_numberOf σ a (Int32.ofNat i) = some (Int32.ofNat (nmN ω i)) := by
  obtain ⟨a1, a2, a3, a4⟩ := i256 i (by omega)
  unfold F_Shm_numberOf
  rw [ck_pos ha, a1, hl, ck_pos (n_inb _ 768 (by omega) (by omega)), n_nat _ (by omega), hw _ (by omega), w_nm]; rfl
theorem e_sourceOf (ω : Nat → Int32) (N a : Nat) (σ : Sg) (i : Nat) (ha : a < 58) (hl : lenM σ a = 768) (hN : N ≤ 256) (hi : i < N) (hw : ∀ j, j < 3 * N → σ.2.2.1 a j = ω j) :
    F_Shm_sourceOf σ a (Int32.ofNat i) 0 = some (Int32.ofNat (s1N ω i)) ∧ F_Shm_sourceOf σ a (Int32.ofNat i) 1 = some (Int32.ofNat (s2N ω i)) ∧ F_Shm_sourceOf σ a (Int32.ofNat i) 2 = some (Int32.ofNat (s3N ω i % 65536)) := by
  obtain ⟨a1, a2, a3, a4⟩ := i256 i (by omega)
  unfold F_Shm_sourceOf F_Shm_sourceOf_45
  simp only [ck_pos ha, a1, a2, a3, hl, ck_pos (n_inb (3 * i + 1) 768 (by omega) (by omega)), ck_pos (n_inb (3 * i + 2) 768 (by omega) (by omega)), n_nat (3 * i + 1) (by omega), n_nat (3 * i + 2) (by omega), hw (3 * i + 1) (by omega), hw (3 * i + 2) (by omega), w_s1, w_s2]
  exact ⟨rfl, rfl, rfl⟩
theorem e_hasTarget (m : Nat) (h : m ≤ 40) : F_Shm_hasTarget (Int32.ofNat m) = some (if hasT m = true then 1 else 0) := by
  have : ∀ m, m < 41 → F_Shm_hasTarget (Int32.ofNat m) = some (if hasT m = true then 1 else 0) := by decide
  exact this m (by omega)
/-- what the reference does once the sources were taken -/
theorem e_run (ω : Nat → Int32) (N : Nat) (rd : Nat → Prop) (β : Nat → Int32) (σ : Sg) (p i n : Nat) (done : Int32) (hp : p < 2) (hN : N ≤ 256) (hi : i < N) (hw : ∀ j, j < 3 * N → σ.2.2.1 (14 + 10 * p) j = ω j) (ok : insOK ω N rd i) (hB : BR p rd β σ) :
    ∃ σ1, L_Shm_run_61 (n + 1) σ p done (Int32.ofNat i) = (if kdN ω i = 0 then some (σ1, done + 1) else if hasT (kdN ω i) = true then bd (F_Shm_put σ1 p (ω (3 * i)) (Int32.ofNat (kdN ω i))) (fun o75 => F_Shm_run_142 (L_Shm_run_61 n) o75 p (done + 1) (Int32.ofNat i) (Int32.ofNat (kdN ω i))) else F_Shm_run_142 (L_Shm_run_61 n) σ1 p (done + 1) (Int32.ofNat i) (Int32.ofNat (kdN ω i)))
      ∧ Fr (fun c k => (c == 0 && k == 44 + 6 * p) || (c == 2 && k == 20 + 10 * p)) σ σ1 ∧ σ1.1 (44 + 6 * p) = Int32.ofNat (nmN ω i)
      ∧ (∀ k, k < 4 → σ1.2.2.1 (20 + 10 * p) k = srcV β (s1N ω i) k) ∧ (∀ k, k < 4 → σ1.2.2.1 (20 + 10 * p) (4 + k) = srcV β (s2N ω i) k) ∧ (∀ k, k < 4 → σ1.2.2.1 (20 + 10 * p) (8 + k) = srcV β (s3N ω i) k) := by
  obtain ⟨hk, ⟨h1, h2, h3⟩, ⟨r1, r2, r3⟩, -⟩ := ok
  have hl : ∀ τ : Sg, lenM τ (14 + 10 * p) = 768 := by
    intro τ
    have : p = 0 ∨ p = 1 := by omega
    rcases this with rfl | rfl <;> rfl
  have ha : 14 + 10 * p < 58 := by omega
  have hs3 : s3N ω i % 65536 = s3N ω i := Nat.mod_eq_of_lt h3.1
  have t0 := e_take p rd β σ (s1N ω i) 0 hp (by omega) h1 r1 hB
  generalize hσa : sA σ (20 + 10 * p) (rowset (σ.2.2.1 (20 + 10 * p)) (4 * 0) 4 (srcV β (s1N ω i))) = σa at t0
  have fa : ∀ k, k ≠ 20 + 10 * p → σa.2.2.1 k = σ.2.2.1 k := fun k hk => by rw [← hσa, sA_3, if_neg hk]
  have hBa : BR p rd β σa := hB.fr (fa _ (by omega)) (fa _ (by omega)) (fa _ (by omega)) (fa _ (by omega))
  have hwa : ∀ j, j < 3 * N → σa.2.2.1 (14 + 10 * p) j = ω j := fun j hj => by rw [fa _ (by omega)]; exact hw j hj
  have t1 := e_take p rd β σa (s2N ω i) 1 hp (by omega) h2 r2 hBa
  generalize hσb : sA σa (20 + 10 * p) (rowset (σa.2.2.1 (20 + 10 * p)) (4 * 1) 4 (srcV β (s2N ω i))) = σb at t1
  have fb : ∀ k, k ≠ 20 + 10 * p → σb.2.2.1 k = σa.2.2.1 k := fun k hk => by rw [← hσb, sA_3, if_neg hk]
  have hBb : BR p rd β σb := hBa.fr (fb _ (by omega)) (fb _ (by omega)) (fb _ (by omega)) (fb _ (by omega))
  have hwb : ∀ j, j < 3 * N → σb.2.2.1 (14 + 10 * p) j = ω j := fun j hj => by rw [fb _ (by omega)]; exact hwa j hj
  have t2 := e_take p rd β σb (s3N ω i) 2 hp (by omega) h3 r3 hBb
  generalize hσc : sA σb (20 + 10 * p) (rowset (σb.2.2.1 (20 + 10 * p)) (4 * 2) 4 (srcV β (s3N ω i))) = σc at t2
  have fc : ∀ k, k ≠ 20 + 10 * p → σc.2.2.1 k = σb.2.2.1 k := fun k hk => by rw [← hσc, sA_3, if_neg hk]
  have hwc : ∀ j, j < 3 * N → σc.2.2.1 (14 + 10 * p) j = ω j := fun j hj => by rw [fc _ (by omega)]; exact hwb j hj
  refine ⟨sI σc (44 + 6 * p) (Int32.ofNat (nmN ω i)), ?_, ?_, ?_, ?_, ?_, ?_⟩
  · rw [L_Shm_run_61, ck_pos hp, e_kindOf ω N _ σ i ha (hl σ) hN hi hw, bd_def, lt_def]
    rw [L_Shm_run_76, ck_pos hp, if_neg (by decide), (e_sourceOf ω N _ σ i ha (hl σ) hN hi hw).1, bd_def, show (0 : Int32) = Int32.ofNat 0 from rfl, t0, bd_def, lt_def]
    rw [L_Shm_run_76, ck_pos hp, if_neg (by decide), show Int32.ofNat 0 + 1 = 1 from rfl, (e_sourceOf ω N _ σa i ha (hl σa) hN hi hwa).2.1, bd_def, show F_Shm_take σa p (Int32.ofNat (s2N ω i)) 1 = some σb from t1, bd_def, lt_def]
    rw [L_Shm_run_76, ck_pos hp, if_neg (by decide), show (1 : Int32) + 1 = 2 from rfl, (e_sourceOf ω N _ σb i ha (hl σb) hN hi hwb).2.2, bd_def, hs3, show F_Shm_take σb p (Int32.ofNat (s3N ω i)) 2 = some σc from t2, bd_def, lt_def]
    rw [L_Shm_run_76, ck_pos hp, if_pos (by decide), e_numberOf ω N _ σc i ha (hl σc) hN hi hwc, bd_def, lt_def]
    by_cases c0 : kdN ω i = 0
    · rw [if_pos c0, if_pos (by rw [c0]; rfl)]
    · rw [if_neg c0, if_neg (show ¬ Int32.ofNat (kdN ω i) = 0 from fun h => c0 ((n_inj _ 0 (by omega) (by omega)).mp h)), e_hasTarget _ hk, bd_def]
      by_cases c1 : hasT (kdN ω i) = true
      · obtain ⟨a1, a2, a3, a4⟩ := i256 i (by omega)
        rw [if_pos c1, if_pos c1, if_neg (by decide), (hl _), a1, ck_pos (n_inb _ 768 (by omega) (by omega)), n_nat _ (by omega), sI_2, hwc _ (by omega)]
      · rw [if_neg c1, if_neg c1, if_pos (by decide)]
  · refine fr_sI ?_ _ _ (by simp)
    rw [← hσc, ← hσb, ← hσa]
    exact fr_sA (fr_sA (fr_sA Fr.rfl _ _ (by simp)) _ _ (by simp)) _ _ (by simp)
  · rw [sI_1, if_pos rfl]
  · intro k hk
    rw [sI_2, ← hσc, sA_3, if_pos rfl, rowset_out _ _ _ _ _ (by omega), ← hσb, sA_3, if_pos rfl, rowset_out _ _ _ _ _ (by omega), ← hσa, sA_3, if_pos rfl]
    have := rowset_get (σ.2.2.1 (20 + 10 * p)) (4 * 0) 4 (srcV β (s1N ω i)) k hk
    rw [show 4 * 0 + k = k by omega] at this
    exact this
  · intro k hk
    rw [sI_2, ← hσc, sA_3, if_pos rfl, rowset_out _ _ _ _ _ (by omega), ← hσb, sA_3, if_pos rfl]
    exact rowset_get _ (4 * 1) 4 _ k hk
  · intro k hk
    rw [sI_2, ← hσc, sA_3, if_pos rfl]
    exact rowset_get _ (4 * 2) 4 _ k hk
