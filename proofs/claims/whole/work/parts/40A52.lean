/-! sources -/
def fat (f : Nat) : Nat := if f = 0 then 0 else if f = 1 then 64 else if f = 2 then 96 else 224
def srcI (s k : Nat) : Nat := fat (s % 4) + 4 * (s / 4 % 32) + s / 2 ^ (7 + 2 * k) % 4
def srcV (β : Nat → Int32) (s k : Nat) : Int32 := if s / 32768 = 0 then β (srcI s k) else -β (srcI s k)
def srcOK (s : Nat) : Prop := s < 65536 ∧ (s % 4 = 0 → s / 4 % 32 ≤ 15) ∧ (s % 4 = 1 → s / 4 % 32 ≤ 7) ∧ (s % 4 = 3 → s / 4 % 32 = 0)
theorem src_lt (s k : Nat) (h : srcOK s) : srcI s k < 260 := by
  obtain ⟨h0, h1, h2, h3⟩ := h
  unfold srcI fat
  have h4 : s / 2 ^ (7 + 2 * k) % 4 < 4 := Nat.mod_lt _ (by omega)
  have h5 : s % 4 < 4 := Nat.mod_lt _ (by omega)
  have h6 : s / 4 % 32 < 32 := Nat.mod_lt _ (by omega)
  split
  · have := h1 (by assumption); omega
  · split
    · have := h2 (by assumption); omega
    · split
      · omega
      · have := h3 (by omega); omega
theorem un_small (s : Nat) (h : s < 4294967296) : un (Int32.ofNat s) = s := by rw [un_ofNat, Nat.mod_eq_of_lt h]
theorem sf_num (s : Nat) (h : s < 65536) : (ushr (Int32.ofNat s) 2) &&& 31 = Int32.ofNat (s / 4 % 32) := by
  have := u_field (Int32.ofNat s) 2 5 (by omega) (by omega)
  rw [un_small s (by omega)] at this
  exact this
theorem sf_file (s : Nat) (h : s < 65536) : Int32.ofNat s &&& 3 = Int32.ofNat (s % 4) := by
  have := b_mask (Int32.ofNat s) 2 (by omega)
  rw [un_small s (by omega)] at this
  exact this
theorem ix7 : ∀ k, k < 4 → (7 + (2 * Int32.ofNat k) = Int32.ofNat (7 + 2 * k) ∧ (7 + (2 * Int32.ofNat k)) &&& 31 = Int32.ofNat (7 + 2 * k)) := by decide
theorem sf_part (s k : Nat) (h : s < 65536) (hk : k < 4) : (ushr (Int32.ofNat s) (7 + (2 * Int32.ofNat k))) &&& 3 = Int32.ofNat (s / 2 ^ (7 + 2 * k) % 4) := by
  rw [(ix7 k hk).1]
  have := u_field (Int32.ofNat s) (7 + 2 * k) 2 (by omega) (by omega)
  rw [un_small s (by omega)] at this
  exact this
theorem sf_neg (s : Nat) (h : s < 65536) : ushr (Int32.ofNat s) 15 = Int32.ofNat (s / 32768) := by
  have := b_ushr (Int32.ofNat s) 15 (by omega)
  rw [un_small s (by omega)] at this
  exact this
theorem sf_at : ∀ f, f < 4 → (inb (Int32.ofNat f) 4 ∧ tb_FILE_AT (Int32.ofNat f).toNatClampNeg = Int32.ofNat (fat f)) := by decide
theorem e_readSource (σ : Sg) (s ar : Nat) (hs : srcOK s) (har : ar = 11 ∨ ar = 12 ∨ ar = 13) :
    F_Pro_readSource σ (Int32.ofNat s) ar = some (sA σ ar (rowset (σ.2.2.1 ar) 0 4 (srcV (σ.2.2.1 10) s))) := by
  have ha : ar < 47 := by omega
  have hl : lenC σ ar = 4 := by rcases har with rfl | rfl | rfl <;> rfl
  have hne : 10 ≠ ar := by omega
  obtain ⟨f1, f2⟩ := sf_at (s % 4) (Nat.mod_lt _ (by omega))
  have h0 := hs.1
  have main : ∀ t : Int32, (t = 0 ↔ s / 32768 = 0) → F_Pro_readSource_29 σ (Int32.ofNat s) ar (Int32.ofNat (fat (s % 4) + 4 * (s / 4 % 32))) t = some (sA σ ar (rowset (σ.2.2.1 ar) 0 4 (srcV (σ.2.2.1 10) s))) := by
    intro t ht
    unfold F_Pro_readSource_29
    rw [ck_pos ha]
    refine fill_loop (fun n σ v => L_Pro_readSource_34 n σ (Int32.ofNat s) ar (Int32.ofNat (fat (s % 4) + 4 * (s / 4 % 32))) t v) σ ar 0 4 0 (srcV (σ.2.2.1 10) s) _ (fun n k hk => ?_) (fun n => ?_) 100000 (by decide)
    · obtain ⟨b1, b2, b3, b4, b5⟩ := ix4 k hk
      have hlt := src_lt s k hs
      simp only [Nat.zero_add]
      rw [L_Pro_readSource_34, ck_pos ha, if_neg b3, sf_part s k h0 hk, n_add]
      unfold srcI at hlt
      rw [ck_pos (n_inb _ 260 hlt (by omega)), lt_def, n_nat _ (by omega)]
      unfold F_Pro_readSource_76
      simp only [ck_pos ha, lenC_sA, hl, ck_pos b2, lt, b1, b4, sA_sA, sA_3, if_true, if_neg hne]
      unfold srcV srcI
      by_cases c : t = 0
      · rw [if_pos c, if_pos (ht.mp c)]
      · rw [if_neg c, if_neg (fun h => c (ht.mpr h))]
    · have h4 : (4 : Int32) ≤ Int32.ofNat (0 + 4) := by decide
      simp only [L_Pro_readSource_34, ck_pos ha, if_pos h4]
  unfold F_Pro_readSource
  rw [ck_pos ha, sf_file s h0, ck_pos f1, f2, sf_num s h0, sf_neg s h0, show (4 : Int32) = Int32.ofNat 4 from rfl, n_mul, n_add, lt_def]
  by_cases c : s / 32768 = 0
  · rw [if_pos (by rw [c]; rfl)]; exact main 0 ⟨fun _ => c, fun _ => rfl⟩
  · rw [if_neg (by intro h; exact c ((n_inj _ 0 (by omega) (by omega)).mp h))]
    exact main 1 ⟨fun h => absurd h (by decide), fun h => absurd h c⟩
theorem e_readSources (σ : Sg) (m s1 s2 s3 : Nat) (w1 w2 : Int32) (hm : m ≤ 3) (h1 : srcOK s1) (h2 : srcOK s2) (h3 : srcOK s3) (e1 : w1 &&& 65535 = Int32.ofNat s1) (e2 : ushr w1 16 = Int32.ofNat s2) (e3 : w2 = Int32.ofNat s3) :
    ∃ σ', F_Pro_readSources σ (Int32.ofNat m) w1 w2 = some σ' ∧ Fr (fun c k => c == 2 && (11 ≤ k && k ≤ 13)) σ σ' ∧ (1 ≤ m → ∀ k, k < 4 → σ'.2.2.1 11 k = srcV (σ.2.2.1 10) s1 k) ∧ (2 ≤ m → ∀ k, k < 4 → σ'.2.2.1 12 k = srcV (σ.2.2.1 10) s2 k) ∧ (3 ≤ m → ∀ k, k < 4 → σ'.2.2.1 13 k = srcV (σ.2.2.1 10) s3 k) := by
  have hc : m = 0 ∨ m = 1 ∨ m = 2 ∨ m = 3 := by omega
  simp only [F_Pro_readSources_48, F_Pro_readSources_34, F_Pro_readSources_17, F_Pro_readSources, e1, e2, e3, e_readSource σ s1 11 h1 (Or.inl rfl), bd_def]
  rcases hc with rfl | rfl | rfl | rfl
  · refine ⟨σ, rfl, Fr.rfl, ?_, ?_, ?_⟩ <;> intro h <;> omega
  · refine ⟨sA σ 11 (rowset (σ.2.2.1 11) 0 4 (srcV (σ.2.2.1 10) s1)), rfl, fr_sA Fr.rfl _ _ (by decide), fun _ k hk => ?_, ?_, ?_⟩
    · rw [sA_3, if_pos rfl, rowset_get0 _ _ _ _ hk]
    · intro h; omega
    · intro h; omega
  · have q2 := e_readSource (sA σ 11 (rowset (σ.2.2.1 11) 0 4 (srcV (σ.2.2.1 10) s1))) s2 12 h2 (Or.inr (Or.inl rfl))
    refine ⟨sA (sA σ 11 (rowset (σ.2.2.1 11) 0 4 (srcV (σ.2.2.1 10) s1))) 12 (rowset (σ.2.2.1 12) 0 4 (srcV (σ.2.2.1 10) s2)), ?_, fr_sA (fr_sA Fr.rfl 11 _ (by decide)) 12 _ (by decide), fun _ k hk => ?_, fun _ k hk => ?_, ?_⟩
    · show bd (F_Pro_readSource (sA σ 11 (rowset (σ.2.2.1 11) 0 4 (srcV (σ.2.2.1 10) s1))) (Int32.ofNat s2) 12) (fun o5 => if Int32.ofNat 2 < 3 then some o5 else _) = _
      rw [q2, bd_def, if_pos (by decide)]; rfl
    · rw [sA_3, if_neg (by decide), sA_3, if_pos rfl, rowset_get0 _ _ _ _ hk]
    · rw [sA_3, if_pos rfl, rowset_get0 _ _ _ _ hk]
    · intro h; omega
  · have q2 := e_readSource (sA σ 11 (rowset (σ.2.2.1 11) 0 4 (srcV (σ.2.2.1 10) s1))) s2 12 h2 (Or.inr (Or.inl rfl))
    have q3 := e_readSource (sA (sA σ 11 (rowset (σ.2.2.1 11) 0 4 (srcV (σ.2.2.1 10) s1))) 12 (rowset (σ.2.2.1 12) 0 4 (srcV (σ.2.2.1 10) s2))) s3 13 h3 (Or.inr (Or.inr rfl))
    refine ⟨sA (sA (sA σ 11 (rowset (σ.2.2.1 11) 0 4 (srcV (σ.2.2.1 10) s1))) 12 (rowset (σ.2.2.1 12) 0 4 (srcV (σ.2.2.1 10) s2))) 13 (rowset (σ.2.2.1 13) 0 4 (srcV (σ.2.2.1 10) s3)), ?_, fr_sA (fr_sA (fr_sA Fr.rfl 11 _ (by decide)) 12 _ (by decide)) 13 _ (by decide), fun _ k hk => ?_, fun _ k hk => ?_, fun _ k hk => ?_⟩
    · show bd (F_Pro_readSource (sA σ 11 (rowset (σ.2.2.1 11) 0 4 (srcV (σ.2.2.1 10) s1))) (Int32.ofNat s2) 12) (fun o5 => if Int32.ofNat 3 < 3 then some o5 else bd (F_Pro_readSource o5 (Int32.ofNat s3) 13) (fun o4 => some o4)) = _
      rw [q2, bd_def, if_neg (by decide)]
      exact (congrArg (fun e => bd e (fun o4 => some o4)) q3)
    · rw [sA_3, if_neg (by decide), sA_3, if_neg (by decide), sA_3, if_pos rfl, rowset_get0 _ _ _ _ hk]
    · rw [sA_3, if_neg (by decide), sA_3, if_pos rfl, rowset_get0 _ _ _ _ hk]
    · rw [sA_3, if_pos rfl, rowset_get0 _ _ _ _ hk]
/-! the reference's bank -/
def BR (p : Nat) (rd : Nat → Prop) (β : Nat → Int32) (σ : Sg) : Prop := (∀ j, j < 64 → σ.2.2.1 (16 + 10 * p) j = β j) ∧ (∀ j, j < 32 → rd (j / 4) → σ.2.2.1 (17 + 10 * p) j = β (64 + j)) ∧ (∀ j, j < 128 → σ.2.2.1 (19 + 10 * p) j = β (96 + j)) ∧ (∀ j, j < 4 → β (224 + j) = 0) ∧ (∀ j, j < 32 → σ.2.2.1 (18 + 10 * p) j = β (228 + j))
theorem BR.fr {p : Nat} {rd : Nat → Prop} {β : Nat → Int32} {σ σ' : Sg} (h : BR p rd β σ) (h1 : σ'.2.2.1 (16 + 10 * p) = σ.2.2.1 (16 + 10 * p)) (h2 : σ'.2.2.1 (17 + 10 * p) = σ.2.2.1 (17 + 10 * p)) (h3 : σ'.2.2.1 (18 + 10 * p) = σ.2.2.1 (18 + 10 * p)) (h4 : σ'.2.2.1 (19 + 10 * p) = σ.2.2.1 (19 + 10 * p)) : BR p rd β σ' := by
  unfold BR
  rw [h1, h2, h3, h4]
  exact h
theorem sm_num (s : Nat) (h : s < 65536) : (Int32.ofNat s >>> 2) &&& 31 = Int32.ofNat (s / 4 % 32) := by
  have := b_field (Int32.ofNat s) 2 5 (by omega) (by omega)
  rw [un_small s (by omega)] at this
  exact this
theorem sm_part (s k : Nat) (h : s < 65536) (hk : k < 4) : (Int32.ofNat s >>> ((7 + (2 * Int32.ofNat k)) &&& 31)) &&& 3 = Int32.ofNat (s / 2 ^ (7 + 2 * k) % 4) := by
  rw [(ix7 k hk).2]
  have := b_field (Int32.ofNat s) (7 + 2 * k) 2 (by omega) (by omega)
  rw [un_small s (by omega)] at this
  exact this
theorem sm_neg (s : Nat) (h : s < 65536) : (Int32.ofNat s >>> 15) &&& 1 = Int32.ofNat (s / 32768) := by
  have := b_field (Int32.ofNat s) 15 1 (by omega) (by omega)
  rw [un_small s (by omega)] at this
  rw [show (15 : Int32) = Int32.ofNat 15 from rfl, show (1 : Int32) = Int32.ofNat (2 ^ 1 - 1) from rfl, this]
  congr 1
  omega
theorem t12 : ∀ t, t < 3 → ∀ k, k < 4 → ((4 * Int32.ofNat t) + Int32.ofNat k = Int32.ofNat (4 * t + k)) := by decide
theorem fill_loop' {β : Type} (L : Nat → Sg → Int32 → Option β) (σ : Sg) (a c N : Nat) (g : Nat → Int32) (R : Option β)
    (hs : ∀ n k, k < N → L (n + 1) (sA σ a (rowset (σ.2.2.1 a) c k g)) (Int32.ofNat k) = L n (sA σ a (upd (rowset (σ.2.2.1 a) c k g) (c + k) (g k))) (Int32.ofNat (k + 1)))
    (he : ∀ n, L (n + 1) (sA σ a (rowset (σ.2.2.1 a) c N g)) (Int32.ofNat N) = R) (fuel : Nat) (hf : N < fuel) : L fuel σ 0 = R := by
  refine fill_loop L σ a c N 0 g R (fun n k hk => ?_) (fun n => ?_) fuel hf
  · have := hs n k hk
    simp only [Nat.zero_add]
    exact this
  · have := he n
    simp only [Nat.zero_add]
    exact this
theorem e_take (p : Nat) (rd : Nat → Prop) (β : Nat → Int32) (σ : Sg) (s t : Nat) (hp : p < 2) (ht : t < 3) (hs : srcOK s) (hr : s % 4 = 1 → rd (s / 4 % 32)) (hB : BR p rd β σ) :
    F_Shm_take σ p (Int32.ofNat s) (Int32.ofNat t) = some (sA σ (20 + 10 * p) (rowset (σ.2.2.1 (20 + 10 * p)) (4 * t) 4 (srcV β s))) := by
  have h0 := hs.1
  have hl : ∀ τ : Sg, lenM τ (16 + 10 * p) = 64 ∧ lenM τ (17 + 10 * p) = 32 ∧ lenM τ (19 + 10 * p) = 128 ∧ lenM τ (20 + 10 * p) = 12 := by
    intro τ
    have : p = 0 ∨ p = 1 := by omega
    rcases this with rfl | rfl <;> exact ⟨rfl, rfl, rfl, rfl⟩
  have hlt : 20 + 10 * p < 58 := by omega
  unfold F_Shm_take
  rw [ck_pos hp, lt_def, sm_num s h0]
  refine fill_loop' (fun n σ v => L_Shm_take_10 n σ p (Int32.ofNat s) (Int32.ofNat t) (Int32.ofNat (s / 4 % 32)) v) σ (20 + 10 * p) (4 * t) 4 (srcV β s) _ (fun n k hk => ?_) (fun n => ?_) 100000 (by decide)
  · obtain ⟨b1, b2, b3, b4, b5⟩ := ix4 k hk
    have hsl := src_lt s k hs
    have h4 : s / 2 ^ (7 + 2 * k) % 4 < 4 := Nat.mod_lt _ (by omega)
    have h5 : s % 4 < 4 := Nat.mod_lt _ (by omega)
    have h6 : s / 4 % 32 < 32 := Nat.mod_lt _ (by omega)
    generalize hσ : sA σ (20 + 10 * p) (rowset (σ.2.2.1 (20 + 10 * p)) (4 * t) k (srcV β s)) = τ
    have f1 : τ.2.2.1 (16 + 10 * p) = σ.2.2.1 (16 + 10 * p) := by rw [← hσ, sA_3, if_neg (by omega)]
    have f2 : τ.2.2.1 (17 + 10 * p) = σ.2.2.1 (17 + 10 * p) := by rw [← hσ, sA_3, if_neg (by omega)]
    have f3 : τ.2.2.1 (19 + 10 * p) = σ.2.2.1 (19 + 10 * p) := by rw [← hσ, sA_3, if_neg (by omega)]
    have f4 : τ.2.2.1 (20 + 10 * p) = rowset (σ.2.2.1 (20 + 10 * p)) (4 * t) k (srcV β s) := by rw [← hσ, sA_3, if_pos rfl]
    have main : ∀ v : Int32, v = β (srcI s k) → F_Shm_take_100 (L_Shm_take_10 n) τ p (Int32.ofNat s) (Int32.ofNat t) (Int32.ofNat (s / 4 % 32)) (Int32.ofNat k) v = L_Shm_take_10 n (sA σ (20 + 10 * p) (upd (rowset (σ.2.2.1 (20 + 10 * p)) (4 * t) k (srcV β s)) (4 * t + k) (srcV β s k))) p (Int32.ofNat s) (Int32.ofNat t) (Int32.ofNat (s / 4 % 32)) (Int32.ofNat (k + 1)) := by
      intro v hv
      have zz : ∀ x : Int32, 0 - x = -x := fun x => by grind
      unfold F_Shm_take_100 F_Shm_take_129
      rw [sm_neg s h0, t12 t ht k hk, (hl τ).2.2.2]
      simp only [ck_pos hp, ck_pos hlt, ck_pos (n_inb (4 * t + k) 12 (by omega) (by omega)), n_nat (4 * t + k) (by omega), lt, b4, f4, zz, hv]
      unfold srcV
      rw [← hσ, sA_sA, sA_sA]
      by_cases c : s / 32768 = 0
      · rw [if_neg (by rw [c]; decide), if_pos c]
      · have c1 : s / 32768 = 1 := by omega
        rw [if_pos (by rw [c1]; rfl), if_neg c]
    rw [L_Shm_take_10, ck_pos hp, if_neg b3, sm_part s k h0 hk, show (4 : Int32) = Int32.ofNat 4 from rfl, n_mul, n_add, sf_file s h0]
    simp only [lt, (hl τ).1, (hl τ).2.1, (hl τ).2.2.1, f1, f2, f3, n_nat (4 * (s / 4 % 32) + s / 2 ^ (7 + 2 * k) % 4) (by omega)]
    have c4 : s % 4 = 0 ∨ s % 4 = 1 ∨ s % 4 = 2 ∨ s % 4 = 3 := by omega
    rcases c4 with c | c | c | c
    · have hn := hs.2.1 c
      rw [if_pos (by rw [c]; rfl), ck_pos (n_inb _ 64 (by omega) (by omega)), hB.1 _ (by omega)]
      exact main _ (by unfold srcI fat; rw [if_pos c]; congr 1; omega)
    · have hn := hs.2.2.1 c
      rw [if_neg (by rw [c]; decide), if_pos (by rw [c]; rfl), ck_pos (n_inb _ 32 (by omega) (by omega)), hB.2.1 _ (by omega) (by
        have : (4 * (s / 4 % 32) + s / 2 ^ (7 + 2 * k) % 4) / 4 = s / 4 % 32 := by omega
        rw [this]; exact hr c)]
      exact main _ (by unfold srcI fat; rw [if_neg (by omega), if_pos c]; congr 1; omega)
    · rw [if_neg (by rw [c]; decide), if_neg (by rw [c]; decide), if_pos (by rw [c]; rfl), ck_pos (n_inb _ 128 (by omega) (by omega)), hB.2.2.1 _ (by omega)]
      exact main _ (by unfold srcI fat; rw [if_neg (by omega), if_neg (by omega), if_pos c]; congr 1; omega)
    · have hn := hs.2.2.2 c
      rw [if_neg (by rw [c]; decide), if_neg (by rw [c]; decide), if_neg (by rw [c]; decide)]
      refine main _ ?_
      unfold srcI fat
      rw [if_neg (by omega), if_neg (by omega), if_neg (by omega), hn, Nat.mul_zero, Nat.add_zero]
      exact (hB.2.2.2.1 _ h4).symm
  · have h4 : (4 : Int32) ≤ Int32.ofNat 4 := by decide
    simp only [L_Shm_take_10, ck_pos hp, if_pos h4]
