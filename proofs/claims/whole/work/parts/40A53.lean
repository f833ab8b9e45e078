/-! targets -/
def tgA (W : Nat) : Nat := if W / 64 % 4 = 0 then 4 * (W / 256 % 16) else 228 + 4 * (W / 256 % 16)
def clp (W : Nat) (v : Int32) : Int32 := if W / 65536 % 2 = 0 then v else wn v 0 65536
def setT (β : Nat → Int32) (W : Nat) (r : Nat → Int32) : Nat → Int32 := fun j => if (tgA W ≤ j ∧ j < tgA W + 4) ∧ W / 2 ^ (12 + (j - tgA W)) % 2 = 1 then clp W (r (j - tgA W)) else β j
def tgOK (W : Nat) : Prop := W / 64 % 4 ≤ 1 ∧ (W / 64 % 4 = 1 → W / 256 % 16 ≤ 7)
theorem setT_row (β : Nat → Int32) (W : Nat) (r : Nat → Int32) : rowset β (tgA W) 4 (fun k => if W / 2 ^ (12 + k) % 2 = 1 then clp W (r k) else β (tgA W + k)) = setT β W r := by
  funext j
  unfold rowset setT
  by_cases h : tgA W ≤ j ∧ j < tgA W + 4
  · rw [if_pos h]
    show (if W / 2 ^ (12 + (j - tgA W)) % 2 = 1 then clp W (r (j - tgA W)) else β (tgA W + (j - tgA W))) = _
    by_cases h2 : W / 2 ^ (12 + (j - tgA W)) % 2 = 1
    · rw [if_pos h2, if_pos ⟨h, h2⟩]
    · rw [if_neg h2, if_neg (fun g => h2 g.2)]; congr 1; omega
  · rw [if_neg h, if_neg (fun g => h g.1)]
theorem ix12 : ∀ k, k < 4 → (12 + Int32.ofNat k = Int32.ofNat (12 + k) ∧ (12 + Int32.ofNat k) &&& 31 = Int32.ofNat (12 + k)) := by decide
theorem upd_same (f : Nat → Int32) (k : Nat) (x : Int32) (h : f k = x) : upd f k x = f := by
  funext j; unfold upd; split
  · subst_vars; rfl
  · rfl
theorem e_setTarget (σ : Sg) (w : Int32) (ht : tgOK (un w)) : F_Pro_setTarget σ w = some (sA σ 10 (setT (σ.2.2.1 10) (un w) (σ.2.2.1 14))) := by
  have q1 : ((ushr w 6) &&& 3) = Int32.ofNat (un w / 64 % 4) := u_field w 6 2 (by omega) (by omega)
  have q2 : ((ushr w 8) &&& 15) = Int32.ofNat (un w / 256 % 16) := u_field w 8 4 (by omega) (by omega)
  have q3 : ((ushr w 16) &&& 1) = Int32.ofNat (un w / 65536 % 2) := u_field w 16 1 (by omega) (by omega)
  have hb2 : un w / 65536 % 2 < 2 := Nat.mod_lt _ (by omega)
  have h16 : un w / 256 % 16 < 16 := Nat.mod_lt _ (by omega)
  have hat : tgA (un w) + 3 < 260 := by
    unfold tgA; unfold tgOK at ht
    split
    · omega
    · have := ht.2 (by omega); omega
  rw [← setT_row]
  have main : ∀ t : Int32, (t = 0 ↔ un w / 65536 % 2 = 0) → F_Pro_setTarget_41 σ w (Int32.ofNat (tgA (un w))) t = some (sA σ 10 (rowset (σ.2.2.1 10) (tgA (un w)) 4 (fun k => if un w / 2 ^ (12 + k) % 2 = 1 then clp (un w) (σ.2.2.1 14 k) else σ.2.2.1 10 (tgA (un w) + k)))) := by
    intro t htt
    unfold F_Pro_setTarget_41
    refine fill_loop' (fun n σ v => L_Pro_setTarget_45 n σ w (Int32.ofNat (tgA (un w))) t v) σ 10 (tgA (un w)) 4 (fun k => if un w / 2 ^ (12 + k) % 2 = 1 then clp (un w) (σ.2.2.1 14 k) else σ.2.2.1 10 (tgA (un w) + k)) _ (fun n k hk => ?_) (fun n => ?_) 100000 (by decide)
    · obtain ⟨b1, b2, b3, b4, b5⟩ := ix4 k hk
      have q4 : ((ushr w (12 + Int32.ofNat k)) &&& 1) = Int32.ofNat (un w / 2 ^ (12 + k) % 2) := by
        rw [(ix12 k hk).1]; exact u_field w (12 + k) 1 (by omega) (by omega)
      rw [L_Pro_setTarget_45, if_neg b3, q4]
      unfold F_Pro_setTarget_99 F_Pro_setTarget_100
      simp only [lt, b1, b4, ck_pos b2, n_add, ck_pos (n_inb (tgA (un w) + k) 260 (by omega) (by omega)), n_nat (tgA (un w) + k) (by omega), e_within32, bd_def, sA_sA, sA_3, if_true, Nat.reduceEqDiff, reduceIte]
      have hb3 : un w / 2 ^ (12 + k) % 2 < 2 := Nat.mod_lt _ (by omega)
      by_cases c : un w / 2 ^ (12 + k) % 2 = 1
      · rw [if_neg (by rw [c]; decide), if_pos c]
        unfold clp
        by_cases d : t = 0
        · rw [if_pos d, if_pos (htt.mp d)]
        · rw [if_neg d, if_neg (fun h => d (htt.mpr h))]
      · have c0 : un w / 2 ^ (12 + k) % 2 = 0 := by omega
        rw [if_pos (by rw [c0]; rfl), if_neg c, upd_same]
        exact rowset_out _ _ _ _ _ (Or.inr (Nat.le_refl _))
    · have h4 : (4 : Int32) ≤ Int32.ofNat 4 := by decide
      simp only [L_Pro_setTarget_45, if_pos h4]
  have m16 : ∀ b : Nat, tgA (un w) = b + 4 * (un w / 256 % 16) → F_Pro_setTarget_16 σ w (Int32.ofNat b) = some (sA σ 10 (rowset (σ.2.2.1 10) (tgA (un w)) 4 (fun k => if un w / 2 ^ (12 + k) % 2 = 1 then clp (un w) (σ.2.2.1 14 k) else σ.2.2.1 10 (tgA (un w) + k)))) := by
    intro b hb
    unfold F_Pro_setTarget_16
    rw [q2, q3, show (4 : Int32) = Int32.ofNat 4 from rfl, n_mul, n_add, lt_def, ← hb]
    by_cases c : un w / 65536 % 2 = 0
    · rw [if_pos (by rw [c]; rfl)]; exact main 0 ⟨fun _ => c, fun _ => rfl⟩
    · have c1 : un w / 65536 % 2 = 1 := by omega
      rw [if_neg (by rw [c1]; decide)]; exact main 1 ⟨fun h => absurd h (by decide), fun h => absurd h c⟩
  unfold F_Pro_setTarget
  rw [q1]
  by_cases c : un w / 64 % 4 = 0
  · rw [if_pos (by rw [c]; rfl)]; exact m16 0 (by unfold tgA; rw [if_pos c]; omega)
  · have c1 : un w / 64 % 4 = 1 := by have := ht.1; omega
    rw [if_neg (by rw [c1]; decide)]; exact m16 228 (by unfold tgA; rw [if_neg c])
/-! the reference's parts -/
theorem e_Shm_word (σ : Sg) (p : Nat) (x : Int32) (hp : p < 2) : F_Shm_word σ p x = some (wd (σ.2.2.1 0) x.toInt64) := by
  unfold F_Shm_word F_Shm_word_20 F_Shm_word_21 wd
  rw [ck_pos hp]
  have h0 : (0 : Int64) ≤ x.toInt64 ↔ 0 ≤ x := by rw [Int64.le_iff_toInt_le, Int32.le_iff_toInt_le, l_ext]; rfl
  have h1 : x.toInt64 < 4096 ↔ x < 4096 := by rw [Int64.lt_iff_toInt_lt, Int32.lt_iff_toInt_lt, l_ext]; rfl
  have h2 : x.toInt64.toInt32 = x := Int32.toInt32_toInt64 x
  by_cases c0 : x < 0
  · rw [if_pos c0, if_neg (by rw [h0, h1]; grind)]
  · rw [if_neg c0]
    by_cases c1 : 4096 ≤ x
    · rw [if_pos c1, if_neg (by rw [h0, h1]; grind)]
    · rw [if_neg c1, if_pos (by rw [h0, h1]; grind), ck_pos (i_inb (n := 4096) (by grind) (show x < Int32.ofNat 4096 from (show x < 4096 by grind)) (by omega)), h2]
theorem rd12 : ∀ k, k < 4 → (inb (Int32.ofNat k) 12 ∧ inb (4 + Int32.ofNat k) 12 ∧ inb (8 + Int32.ofNat k) 12 ∧ (4 + Int32.ofNat k).toNatClampNeg = 4 + k ∧ (8 + Int32.ofNat k).toNatClampNeg = 8 + k) := by decide
theorem crs : ∀ k, k < 3 → (inb (irem (Int32.ofNat k + 1) 3) 12 ∧ inb (4 + irem (Int32.ofNat k + 2) 3) 12 ∧ inb (irem (Int32.ofNat k + 2) 3) 12 ∧ inb (4 + irem (Int32.ofNat k + 1) 3) 12) := by decide
theorem uni : ∀ n, n < 32 → ∀ k, k < 4 → (inb ((4 * Int32.ofNat n) + Int32.ofNat k) 128 ∧ ((4 * Int32.ofNat n) + Int32.ofNat k).toNatClampNeg = 4 * n + k) := by decide
theorem e_Shm_more (p : Nat) (μ β tx : Nat → Int32) (σ : Sg) (m k : Nat) (hp : p < 2) (hm : (22 ≤ m ∧ m ≤ 31) ∨ m = 39 ∨ m = 40) (hk : k < 4) (h0 : σ.2.2.1 0 = μ) (hB : ∀ j, j < 128 → σ.2.2.1 (19 + 10 * p) j = β (96 + j)) :
    F_Shm_more σ p (Int32.ofNat m) (Int32.ofNat k) = some (σ, opv μ β tx m (fun j => σ.2.2.1 (20 + 10 * p) j) (fun j => σ.2.2.1 (20 + 10 * p) (4 + j)) (fun j => σ.2.2.1 (20 + 10 * p) (8 + j)) k) := by
  obtain ⟨b1, b2, b3, b4, b5⟩ := ix4 k hk
  obtain ⟨r1, r2, r3, r4, r5⟩ := rd12 k hk
  have hl : lenM σ (20 + 10 * p) = 12 ∧ lenM σ (19 + 10 * p) = 128 := by
    have : p = 0 ∨ p = 1 := by omega
    rcases this with rfl | rfl <;> exact ⟨rfl, rfl⟩
  have i12 : ∀ j, j < 12 → inb (Int32.ofNat j) 12 := fun j h => n_inb j 12 h (by omega)
  unfold F_Shm_more
  rw [ck_pos hp, hl.1, hl.2, ck_pos r1, lt_def, ck_pos r2, lt_def, ck_pos (show inb 0 12 from i12 0 (by omega)), lt_def, b1, r4]
  have h : m = 22 ∨ m = 23 ∨ m = 24 ∨ m = 25 ∨ m = 26 ∨ m = 27 ∨ m = 28 ∨ m = 29 ∨ m = 30 ∨ m = 31 ∨ m = 39 ∨ m = 40 := by omega
  rcases h with rfl | rfl | rfl | rfl | rfl | rfl | rfl | rfl | rfl | rfl | rfl | rfl
  · have hc : k = 0 ∨ k = 1 ∨ k = 2 ∨ k = 3 := by omega
    rw [if_pos (show Int32.ofNat 22 = 22 from rfl)]
    simp only [lt, F_Shm_more_182, e_Shm_product, bd_def]
    rcases hc with rfl | rfl | rfl | rfl
    · obtain ⟨c1, c2, c3, c4⟩ := crs 0 (by omega)
      rw [ck_pos c1, ck_pos c2, ck_pos c3, ck_pos c4]; rfl
    · obtain ⟨c1, c2, c3, c4⟩ := crs 1 (by omega)
      rw [ck_pos c1, ck_pos c2, ck_pos c3, ck_pos c4]; rfl
    · obtain ⟨c1, c2, c3, c4⟩ := crs 2 (by omega)
      rw [ck_pos c1, ck_pos c2, ck_pos c3, ck_pos c4]; rfl
    · rfl
  · rfl
  · rfl
  · rfl
  · rfl
  · rfl
  · rfl
  · rfl
  · have v : opv μ β tx 30 (fun j => σ.2.2.1 (20 + 10 * p) j) (fun j => σ.2.2.1 (20 + 10 * p) (4 + j)) (fun j => σ.2.2.1 (20 + 10 * p) (8 + j)) k = if (0 : Int32) ≤ (σ.2.2.1 (20 + 10 * p) 0 >>> 16 : Int32) ∧ (σ.2.2.1 (20 + 10 * p) 0 >>> 16 : Int32) < 32 then β (96 + 4 * (σ.2.2.1 (20 + 10 * p) 0 >>> 16).toNatClampNeg + k) else 0 := rfl
    rw [v]
    generalize (σ.2.2.1 (20 + 10 * p) 0 >>> 16 : Int32) = q
    show (if q < 0 then (F_Shm_more_252 σ) else (if 32 ≤ q then (F_Shm_more_252 σ) else (ck (inb ((4 * q) + Int32.ofNat k) 128) (F_Shm_more_253 σ (σ.2.2.1 (19 + 10 * p) ((4 * q) + Int32.ofNat k).toNatClampNeg))))) = _
    unfold F_Shm_more_252 F_Shm_more_253
    by_cases c0 : q < 0
    · rw [if_pos c0, if_neg (by grind)]
    · rw [if_neg c0]
      by_cases c1 : 32 ≤ q
      · rw [if_pos c1, if_neg (by grind)]
      · rw [if_neg c1, if_pos (by grind)]
        obtain ⟨n, hn, rfl⟩ := n_get q (by grind)
        have hn32 : n < 32 := by have h2 : Int32.ofNat n < 32 := by grind
                                 exact (n_lt n 32 hn (by omega)).mp h2
        obtain ⟨d1, d2⟩ := uni n hn32 k hk
        rw [ck_pos d1, d2, hB _ (by omega), n_nat n hn, Nat.add_assoc]
  · show bd (F_Shm_word σ p _) _ = some (σ, wd μ _)
    rw [e_Shm_word σ p _ hp, h0]; rfl
  · rfl
  · rfl
theorem e_Shm_moreT (p : Nat) (σ : Sg) (m : Nat) (k : Int32) (hp : p < 2) (hm : m = 32 ∨ m = 33) (hk : ∃ j, j < 4 ∧ k = Int32.ofNat j) :
    F_Shm_more σ p (Int32.ofNat m) k = F_Shm_more_273 σ p (Int32.ofNat m) k := by
  obtain ⟨j, hj, rfl⟩ := hk
  obtain ⟨r1, r2, r3, r4, r5⟩ := rd12 j hj
  have hl : lenM σ (20 + 10 * p) = 12 := by
    have : p = 0 ∨ p = 1 := by omega
    rcases this with rfl | rfl <;> rfl
  have i12 : ∀ j, j < 12 → inb (Int32.ofNat j) 12 := fun j h => n_inb j 12 h (by omega)
  unfold F_Shm_more
  rw [ck_pos hp, hl, ck_pos r1, lt_def, ck_pos r2, lt_def, ck_pos (show inb 0 12 from i12 0 (by omega)), lt_def]
  rcases hm with rfl | rfl <;> rfl
theorem e_Shm_part (p : Nat) (μ β tx : Nat → Int32) (σ : Sg) (m k : Nat) (hp : p < 2) (hm : reck m = true) (hk : k < 4) (h0 : σ.2.2.1 0 = μ) (hB : ∀ j, j < 128 → σ.2.2.1 (19 + 10 * p) j = β (96 + j)) :
    F_Shm_part σ p (Int32.ofNat m) (Int32.ofNat k) = some (σ, opv μ β tx m (fun j => σ.2.2.1 (20 + 10 * p) j) (fun j => σ.2.2.1 (20 + 10 * p) (4 + j)) (fun j => σ.2.2.1 (20 + 10 * p) (8 + j)) k) := by
  obtain ⟨b1, b2, b3, b4, b5⟩ := ix4 k hk
  obtain ⟨r1, r2, r3, r4, r5⟩ := rd12 k hk
  have hl : lenM σ (20 + 10 * p) = 12 ∧ lenM σ (19 + 10 * p) = 128 := by
    have : p = 0 ∨ p = 1 := by omega
    rcases this with rfl | rfl <;> exact ⟨rfl, rfl⟩
  have i12 : ∀ j, j < 12 → inb (Int32.ofNat j) 12 := fun j h => n_inb j 12 h (by omega)
  unfold F_Shm_part
  rw [ck_pos hp, hl.1, ck_pos r1, lt_def, ck_pos r2, lt_def, ck_pos r3, lt_def, ck_pos (show inb 0 12 from i12 0 (by omega)), lt_def, b1, r4, r5]
  have h : m = 1 ∨ m = 2 ∨ m = 3 ∨ m = 4 ∨ m = 5 ∨ m = 6 ∨ m = 7 ∨ m = 8 ∨ m = 9 ∨ m = 10 ∨ m = 11 ∨ m = 12 ∨ m = 13 ∨ m = 14 ∨ m = 15 ∨ m = 16 ∨ m = 17 ∨ m = 18 ∨ m = 19 ∨ m = 20 ∨ m = 21 ∨ (22 ≤ m) := by
    simp [reck] at hm; omega
  rcases h with rfl | rfl | rfl | rfl | rfl | rfl | rfl | rfl | rfl | rfl | rfl | rfl | rfl | rfl | rfl | rfl | rfl | rfl | rfl | rfl | rfl | h
  · rfl
  · rfl
  · rfl
  · rfl
  · rfl
  · rfl
  · rfl
  · show (if _ then _ else _) = some (σ, if _ then _ else _)
    simp only [F_Shm_part_292]; grind
  · show (if _ then _ else _) = some (σ, if _ then _ else _)
    simp only [F_Shm_part_305]; grind
  · show (if _ then _ else _) = some (σ, if _ then _ else _)
    simp only [F_Shm_part_327]; grind
  · rfl
  · rfl
  · show bd (F_Shm_oneBy _) _ = some (σ, oneB _)
    rw [e_Shm_oneBy]; rfl
  · show (if 0 < σ.2.2.1 (20 + 10 * p) 0 then (ck (¬ (σ.2.2.1 (20 + 10 * p) 0).toInt64 = 0) (bd (F_Shm_greatest (281474976710656 / (σ.2.2.1 (20 + 10 * p) 0).toInt64)) (fun o107 => F_Shm_part_364 σ o107))) else (F_Shm_part_364 σ 2147483647)) = some (σ, if 0 < σ.2.2.1 (20 + 10 * p) 0 then rtv _ else 2147483647)
    by_cases c : 0 < σ.2.2.1 (20 + 10 * p) 0
    · rw [if_pos c, if_pos c, ck_pos (ext_ne _ (by grind)), (e_rootOf _).2]; rfl
    · rw [if_neg c, if_neg c]; rfl
  · show (if 0 ≤ σ.2.2.1 (20 + 10 * p) 0 then (bd (F_Shm_greatest (65536 * (σ.2.2.1 (20 + 10 * p) 0).toInt64)) (fun o109 => F_Shm_part_384 σ o109)) else (F_Shm_part_384 σ 0)) = some (σ, if 0 ≤ σ.2.2.1 (20 + 10 * p) 0 then rtv _ else 0)
    by_cases c : 0 ≤ σ.2.2.1 (20 + 10 * p) 0
    · rw [if_pos c, if_pos c, (e_rootOf _).2]; rfl
    · rw [if_neg c, if_neg c]; rfl
  · show (if _ then _ else _) = some (σ, if _ then _ else _)
    simp only [F_Shm_part_397]; grind
  · show (if _ then _ else _) = some (σ, if _ then _ else _)
    simp only [F_Shm_part_410]; grind
  · show (if _ then _ else _) = some (σ, if _ then _ else _)
    simp only [F_Shm_part_423]; grind
  · show (if _ then _ else _) = some (σ, if _ then _ else _)
    simp only [F_Shm_part_436]; grind
  · show (if _ then _ else _) = some (σ, if _ then _ else _)
    simp only [F_Shm_part_448]; grind
  · rfl
  · have h2 : m = 22 ∨ m = 23 ∨ m = 24 ∨ m = 25 ∨ m = 26 ∨ m = 27 ∨ m = 28 ∨ m = 29 ∨ m = 30 ∨ m = 31 ∨ m = 39 ∨ m = 40 := by
      simp [reck] at hm; omega
    have key := e_Shm_more p μ β tx σ m k hp (by omega) hk h0 hB
    rcases h2 with rfl | rfl | rfl | rfl | rfl | rfl | rfl | rfl | rfl | rfl | rfl | rfl
    all_goals
      show bd (F_Shm_more σ p (Int32.ofNat _) (Int32.ofNat k)) (fun o117 => some (o117.1, o117.2)) = _
      rw [key]; rfl
theorem e_Shm_partT (p : Nat) (σ : Sg) (m k : Nat) (hp : p < 2) (hm : m = 32 ∨ m = 33) (hk : k < 4) :
    F_Shm_part σ p (Int32.ofNat m) (Int32.ofNat k) = bd (F_Shm_sampled σ p (Int32.ofNat m) (Int32.ofNat k)) (fun o => some (o.1, o.2)) := by
  obtain ⟨r1, r2, r3, r4, r5⟩ := rd12 k hk
  have hl : lenM σ (20 + 10 * p) = 12 := by
    have : p = 0 ∨ p = 1 := by omega
    rcases this with rfl | rfl <;> rfl
  have i12 : ∀ j, j < 12 → inb (Int32.ofNat j) 12 := fun j h => n_inb j 12 h (by omega)
  have key := e_Shm_moreT p σ m (Int32.ofNat k) hp hm ⟨k, hk, rfl⟩
  unfold F_Shm_more_273 at key
  rw [ck_pos hp] at key
  have id2 : ∀ e : Option (Sg × Int32), bd (bd e (fun o => some (o.1, o.2))) (fun o => some (o.1, o.2)) = bd e (fun o => some (o.1, o.2)) := by
    intro e; cases e <;> rfl
  unfold F_Shm_part
  rw [ck_pos hp, hl, ck_pos r1, lt_def, ck_pos r2, lt_def, ck_pos r3, lt_def, ck_pos (show inb 0 12 from i12 0 (by omega)), lt_def]
  rcases hm with rfl | rfl
  all_goals
    show bd (F_Shm_more σ p (Int32.ofNat _) (Int32.ofNat k)) (fun o117 => some (o117.1, o117.2)) = _
    rw [key, id2]
