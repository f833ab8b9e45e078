/-! the reference's put -/
/-- what an instruction with a target changes, in the reference -/
def pPut (p : Nat) : Nat → Nat → Bool := fun c k => (c == 0 && k == 20) || (c == 2 && ((7 ≤ k && k ≤ 13) || k == 16 + 10 * p || k == 18 + 10 * p || k == 21 + 10 * p))
theorem setT_out (β : Nat → Int32) (W : Nat) (r : Nat → Int32) (j : Nat) (h : j < tgA W ∨ tgA W + 4 ≤ j) : setT β W r j = β j := by
  unfold setT; rw [if_neg (by omega)]
theorem e_put66 (p : Nat) (rd : Nat → Prop) (β r : Nat → Int32) (σ : Sg) (w : Int32) (hp : p < 2) (ht : tgOK (un w)) (hB : BR p rd β σ) (hr : ∀ k, k < 4 → σ.2.2.1 (21 + 10 * p) k = clp (un w) (r k)) :
    ∃ σ', L_Shm_put_66 100000 σ p w 0 = some σ' ∧ Fr (pPut p) σ σ' ∧ BR p rd (setT β (un w) r) σ' := by
  have q1 : ((w >>> 6) &&& 3) = Int32.ofNat (un w / 64 % 4) := b_field w 6 2 (by omega) (by omega)
  have q2 : ((w >>> 8) &&& 15) = Int32.ofNat (un w / 256 % 16) := b_field w 8 4 (by omega) (by omega)
  have h16 : un w / 256 % 16 < 16 := Nat.mod_lt _ (by omega)
  have hl : ∀ τ : Sg, lenM τ (16 + 10 * p) = 64 ∧ lenM τ (18 + 10 * p) = 32 ∧ lenM τ (21 + 10 * p) = 4 := by
    intro τ
    have : p = 0 ∨ p = 1 := by omega
    rcases this with rfl | rfl <;> exact ⟨rfl, rfl, rfl⟩
  obtain ⟨B1, B2, B3, B4, B5⟩ := hB
  by_cases c : un w / 64 % 4 = 0
  · have tg : tgA (un w) = 4 * (un w / 256 % 16) := by unfold tgA; rw [if_pos c]
    refine ⟨sA σ (16 + 10 * p) (rowset (σ.2.2.1 (16 + 10 * p)) (4 * (un w / 256 % 16)) 4 (fun k => if un w / 2 ^ (12 + k) % 2 = 1 then clp (un w) (r k) else σ.2.2.1 (16 + 10 * p) (4 * (un w / 256 % 16) + k))), ?_, fr_sA Fr.rfl _ _ (by simp [pPut]), ?_⟩
    · refine fill_loop' (fun n σ v => L_Shm_put_66 n σ p w v) σ (16 + 10 * p) (4 * (un w / 256 % 16)) 4 (fun k => if un w / 2 ^ (12 + k) % 2 = 1 then clp (un w) (r k) else σ.2.2.1 (16 + 10 * p) (4 * (un w / 256 % 16) + k)) _ (fun n k hk => ?_) (fun n => ?_) 100000 (by decide)
      · obtain ⟨b1, b2, b3, b4, b5⟩ := ix4 k hk
        have q4 : ((w >>> ((12 + Int32.ofNat k) &&& 31)) &&& 1) = Int32.ofNat (un w / 2 ^ (12 + k) % 2) := by
          rw [(ix12 k hk).2]; exact b_field w (12 + k) 1 (by omega) (by omega)
        rw [L_Shm_put_66, ck_pos hp, if_neg b3, q4, q1, q2]
        unfold F_Shm_put_134
        rw [show (4 : Int32) = Int32.ofNat 4 from rfl, n_mul, n_add]
        have hne : ¬ (21 + 10 * p = 16 + 10 * p) := by omega
        simp only [lt, b1, b4, ck_pos hp, (hl _).1, (hl _).2.1, (hl _).2.2, ck_pos b2, ck_pos (n_inb (4 * (un w / 256 % 16) + k) 64 (by omega) (by omega)), n_nat (4 * (un w / 256 % 16) + k) (by omega), sA_sA, sA_3, if_true, if_neg hne, hr k hk]
        have hb3 : un w / 2 ^ (12 + k) % 2 < 2 := Nat.mod_lt _ (by omega)
        by_cases d : un w / 2 ^ (12 + k) % 2 = 1
        · rw [if_pos (by rw [d]; rfl), if_pos (by rw [c]; rfl), if_pos d]
        · have d0 : un w / 2 ^ (12 + k) % 2 = 0 := by omega
          rw [if_neg (by rw [d0]; decide), if_neg d, upd_same]
          exact rowset_out _ _ _ _ _ (Or.inr (Nat.le_refl _))
      · have h4 : (4 : Int32) ≤ Int32.ofNat 4 := by decide
        simp only [L_Shm_put_66, ck_pos hp, if_pos h4]
    · refine ⟨fun j hj => ?_, fun j hj hrd => ?_, fun j hj => ?_, fun j hj => ?_, fun j hj => ?_⟩
      · rw [sA_3, if_pos rfl, ← setT_row, tg]
        unfold rowset
        split
        · show (if _ then _ else _) = (if _ then _ else _)
          split
          · rfl
          · exact B1 _ (by omega)
        · exact B1 j hj
      · rw [sA_3, if_neg (by omega), B2 j hj hrd, setT_out]; omega
      · rw [sA_3, if_neg (by omega), B3 j hj, setT_out]; omega
      · rw [setT_out, B4 j hj]; omega
      · rw [sA_3, if_neg (by omega), B5 j hj, setT_out]; omega
  · have c1 : un w / 64 % 4 = 1 := by have := ht.1; omega
    have t7 := ht.2 c1
    have tg : tgA (un w) = 228 + 4 * (un w / 256 % 16) := by unfold tgA; rw [if_neg c]
    refine ⟨sA σ (18 + 10 * p) (rowset (σ.2.2.1 (18 + 10 * p)) (4 * (un w / 256 % 16)) 4 (fun k => if un w / 2 ^ (12 + k) % 2 = 1 then clp (un w) (r k) else σ.2.2.1 (18 + 10 * p) (4 * (un w / 256 % 16) + k))), ?_, fr_sA Fr.rfl _ _ (by simp [pPut]), ?_⟩
    · refine fill_loop' (fun n σ v => L_Shm_put_66 n σ p w v) σ (18 + 10 * p) (4 * (un w / 256 % 16)) 4 (fun k => if un w / 2 ^ (12 + k) % 2 = 1 then clp (un w) (r k) else σ.2.2.1 (18 + 10 * p) (4 * (un w / 256 % 16) + k)) _ (fun n k hk => ?_) (fun n => ?_) 100000 (by decide)
      · obtain ⟨b1, b2, b3, b4, b5⟩ := ix4 k hk
        have q4 : ((w >>> ((12 + Int32.ofNat k) &&& 31)) &&& 1) = Int32.ofNat (un w / 2 ^ (12 + k) % 2) := by
          rw [(ix12 k hk).2]; exact b_field w (12 + k) 1 (by omega) (by omega)
        rw [L_Shm_put_66, ck_pos hp, if_neg b3, q4, q1, q2]
        unfold F_Shm_put_134
        rw [show (4 : Int32) = Int32.ofNat 4 from rfl, n_mul, n_add]
        have hne : ¬ (21 + 10 * p = 18 + 10 * p) := by omega
        simp only [lt, b1, b4, ck_pos hp, (hl _).1, (hl _).2.1, (hl _).2.2, ck_pos b2, ck_pos (n_inb (4 * (un w / 256 % 16) + k) 32 (by omega) (by omega)), n_nat (4 * (un w / 256 % 16) + k) (by omega), sA_sA, sA_3, if_true, if_neg hne, hr k hk]
        have hb3 : un w / 2 ^ (12 + k) % 2 < 2 := Nat.mod_lt _ (by omega)
        by_cases d : un w / 2 ^ (12 + k) % 2 = 1
        · rw [if_pos (by rw [d]; rfl), if_neg (by rw [c1]; decide), if_pos d]
        · have d0 : un w / 2 ^ (12 + k) % 2 = 0 := by omega
          rw [if_neg (by rw [d0]; decide), if_neg d, upd_same]
          exact rowset_out _ _ _ _ _ (Or.inr (Nat.le_refl _))
      · have h4 : (4 : Int32) ≤ Int32.ofNat 4 := by decide
        simp only [L_Shm_put_66, ck_pos hp, if_pos h4]
    · refine ⟨fun j hj => ?_, fun j hj hrd => ?_, fun j hj => ?_, fun j hj => ?_, fun j hj => ?_⟩
      · rw [sA_3, if_neg (by omega), B1 j hj, setT_out]; omega
      · rw [sA_3, if_neg (by omega), B2 j hj hrd, setT_out]; omega
      · rw [sA_3, if_neg (by omega), B3 j hj, setT_out]; omega
      · rw [setT_out, B4 j hj]; omega
      · rw [sA_3, if_pos rfl, ← setT_row, tg]
        unfold rowset
        by_cases h9 : 4 * (un w / 256 % 16) ≤ j ∧ j < 4 * (un w / 256 % 16) + 4
        · rw [if_pos h9, if_pos (by omega)]
          show (if _ then _ else _) = (if _ then _ else _)
          rw [show 228 + j - (228 + 4 * (un w / 256 % 16)) = j - 4 * (un w / 256 % 16) by omega]
          split
          · rfl
          · rw [B5 _ (by omega)]; congr 1; omega
        · rw [if_neg h9, if_neg (by omega), B5 j hj]
theorem e_clp (w v : Int32) {α : Type} (F : Int32 → α) : (if ((w >>> 16) &&& 1) = 0 then F v else (if 0 ≤ v then (if v ≤ 65536 then F v else F 65536) else F 0)) = F (clp (un w) v) := by
  have q3 : ((w >>> 16) &&& 1) = Int32.ofNat (un w / 65536 % 2) := b_field w 16 1 (by omega) (by omega)
  have hb2 : un w / 65536 % 2 < 2 := Nat.mod_lt _ (by omega)
  rw [q3]
  unfold clp wn
  by_cases c : un w / 65536 % 2 = 0
  · rw [if_pos (by rw [c]; rfl), if_pos c]
  · have c1 : un w / 65536 % 2 = 1 := by omega
    rw [if_neg (by rw [c1]; decide), if_neg c]
    by_cases d0 : 0 ≤ v
    · rw [if_pos d0, if_neg (show ¬ v < 0 by grind)]
      by_cases d1 : v ≤ 65536
      · rw [if_pos d1, if_neg (show ¬ 65536 < v by grind)]
      · rw [if_neg d1, if_pos (show 65536 < v by grind)]
    · rw [if_neg d0, if_pos (show v < 0 by grind)]
theorem opv_ext (μ β tx : Nat → Int32) (m : Nat) (a b c a' b' c' : Nat → Int32) (k : Nat) (hk : k < 4) (h1 : ∀ j, j < 4 → a j = a' j) (h2 : 2 ≤ (tb_SOURCES m).toNatClampNeg → ∀ j, j < 4 → b j = b' j) (h3 : 3 ≤ (tb_SOURCES m).toNatClampNeg → ∀ j, j < 4 → c j = c' j) (hm : m ≤ 40) : opv μ β tx m a b c k = opv μ β tx m a' b' c' k := by
  have e0 := h1 0 (by omega)
  have e1 := h1 1 (by omega)
  have e2 := h1 2 (by omega)
  have e3 := h1 3 (by omega)
  have ek := h1 k hk
  have h : m = 0 ∨ m = 1 ∨ m = 2 ∨ m = 3 ∨ m = 4 ∨ m = 5 ∨ m = 6 ∨ m = 7 ∨ m = 8 ∨ m = 9 ∨ m = 10 ∨ m = 11 ∨ m = 12 ∨ m = 13 ∨ m = 14 ∨ m = 15 ∨ m = 16 ∨ m = 17 ∨ m = 18 ∨ m = 19 ∨ m = 20 ∨ m = 21 ∨ m = 22 ∨ m = 23 ∨ m = 24 ∨ m = 25 ∨ m = 26 ∨ m = 27 ∨ m = 28 ∨ m = 29 ∨ m = 30 ∨ m = 31 ∨ m = 32 ∨ m = 33 ∨ m = 34 ∨ m = 35 ∨ m = 36 ∨ m = 37 ∨ m = 38 ∨ m = 39 ∨ m = 40 := by omega
  rcases h with rfl | rfl | rfl | rfl | rfl | rfl | rfl | rfl | rfl | rfl | rfl | rfl | rfl | rfl | rfl | rfl | rfl | rfl | rfl | rfl | rfl | rfl | rfl | rfl | rfl | rfl | rfl | rfl | rfl | rfl | rfl | rfl | rfl | rfl | rfl | rfl | rfl | rfl | rfl | rfl | rfl
  all_goals
    try (have f := h2 (by decide); have f0 := f 0 (by omega); have f1 := f 1 (by omega); have f2 := f 2 (by omega); have f3 := f 3 (by omega); have fk := f k hk)
    try (have g := h3 (by decide); have gk := g k hk)
    simp only [opv, *]
theorem e_put (p : Nat) (rd : Nat → Prop) (μ κ β : Nat → Int32) (σ : Sg) (w : Int32) (m nm : Nat) (a b c : Nat → Int32) (hp : p < 2) (ht : tgOK (un w)) (hm : reck m = true ∨ ((m = 32 ∨ m = 33) ∧ nm < 4)) (h0 : σ.2.2.1 0 = μ) (hB : BR p rd β σ) (hk : TxOK κ) (hr : TxRel κ σ) (hn : σ.1 (44 + 6 * p) = Int32.ofNat nm)
    (ha : ∀ k, k < 4 → σ.2.2.1 (20 + 10 * p) k = a k) (hb : ∀ k, k < 4 → σ.2.2.1 (20 + 10 * p) (4 + k) = b k) (hc : ∀ k, k < 4 → σ.2.2.1 (20 + 10 * p) (8 + k) = c k) :
    ∃ σ', F_Shm_put σ p w (Int32.ofNat m) = some σ' ∧ Fr (pPut p) σ σ' ∧ BR p rd (setT β (un w) (opv μ β (rdt μ κ nm (a 0) (a 1) (if m = 33 then a 2 else 0)) m a b c)) σ' := by
  have hl : ∀ τ : Sg, lenM τ (21 + 10 * p) = 4 ∧ lenM τ (20 + 10 * p) = 12 := by
    intro τ
    have : p = 0 ∨ p = 1 := by omega
    rcases this with rfl | rfl <;> exact ⟨rfl, rfl⟩
  have h58 : 21 + 10 * p < 58 := by omega
  unfold F_Shm_put
  rw [ck_pos hp]
  have step : ∀ (n k : Nat) (τ τ' : Sg) (v : Int32), k < 4 → F_Shm_part τ p (Int32.ofNat m) (Int32.ofNat k) = some (τ', v) → L_Shm_put_2 (n + 1) τ p w (Int32.ofNat m) (Int32.ofNat k) = L_Shm_put_2 n (sA τ' (21 + 10 * p) (upd (τ'.2.2.1 (21 + 10 * p)) k (clp (un w) v))) p w (Int32.ofNat m) (Int32.ofNat (k + 1)) := by
    intro n k τ τ' v hk4 hpart
    obtain ⟨b1, b2, b3, b4, b5⟩ := ix4 k hk4
    rw [L_Shm_put_2, ck_pos hp, if_neg b3, hpart, bd_def]
    rw [e_clp w v (fun x => F_Shm_put_57 (L_Shm_put_2 n) τ' p w (Int32.ofNat m) (Int32.ofNat k) (21 + 10 * p) (Int32.ofNat k) x)]
    unfold F_Shm_put_57
    simp only [ck_pos hp, ck_pos h58, (hl _).1, ck_pos b2, lt, b1, b4]
  have last : ∀ (n : Nat) (τ : Sg), L_Shm_put_2 (n + 1) τ p w (Int32.ofNat m) (Int32.ofNat 4) = L_Shm_put_66 100000 τ p w 0 := by
    intro n τ
    rw [L_Shm_put_2, ck_pos hp, if_pos (by decide)]
  rcases hm with hm | ⟨hm, hnm⟩
  · have m40 : m ≤ 40 := by simp [reck] at hm; omega
    have key : L_Shm_put_2 100000 σ p w (Int32.ofNat m) 0 = L_Shm_put_66 100000 (sA σ (21 + 10 * p) (rowset (σ.2.2.1 (21 + 10 * p)) 0 4 (fun k => clp (un w) (opv μ β (rdt μ κ nm (a 0) (a 1) (if m = 33 then a 2 else 0)) m a b c k)))) p w 0 := by
      refine fill_loop' (fun n σ v => L_Shm_put_2 n σ p w (Int32.ofNat m) v) σ (21 + 10 * p) 0 4 (fun k => clp (un w) (opv μ β (rdt μ κ nm (a 0) (a 1) (if m = 33 then a 2 else 0)) m a b c k)) _ (fun n k hk4 => ?_) (fun n => last n _) 100000 (by decide)
      have q := e_Shm_part p μ β (rdt μ κ nm (a 0) (a 1) (if m = 33 then a 2 else 0)) (sA σ (21 + 10 * p) (rowset (σ.2.2.1 (21 + 10 * p)) 0 k (fun k => clp (un w) (opv μ β (rdt μ κ nm (a 0) (a 1) (if m = 33 then a 2 else 0)) m a b c k)))) m k hp hm hk4 (by rw [sA_3, if_neg (by omega)]; exact h0) (fun j hj => by rw [sA_3, if_neg (by omega)]; exact hB.2.2.1 j hj)
      rw [opv_ext μ β _ m _ _ _ a b c k hk4 (fun j hj => by rw [sA_3, if_neg (by omega)]; exact ha j hj) (fun _ j hj => by rw [sA_3, if_neg (by omega)]; exact hb j hj) (fun _ j hj => by rw [sA_3, if_neg (by omega)]; exact hc j hj) m40] at q
      have := step n k _ _ _ hk4 q
      rw [this, sA_sA, sA_3, if_pos rfl, Nat.zero_add]
    rw [key]
    obtain ⟨σ', s1, s2, s3⟩ := e_put66 p rd β (opv μ β (rdt μ κ nm (a 0) (a 1) (if m = 33 then a 2 else 0)) m a b c) (sA σ (21 + 10 * p) (rowset (σ.2.2.1 (21 + 10 * p)) 0 4 (fun k => clp (un w) (opv μ β (rdt μ κ nm (a 0) (a 1) (if m = 33 then a 2 else 0)) m a b c k)))) w hp ht
      (hB.fr (by rw [sA_3, if_neg (by omega)]) (by rw [sA_3, if_neg (by omega)]) (by rw [sA_3, if_neg (by omega)]) (by rw [sA_3, if_neg (by omega)])) (fun k hk4 => by rw [sA_3, if_pos rfl, rowset_get0 _ _ _ _ hk4])
    exact ⟨σ', s1, (fr_sA Fr.rfl (21 + 10 * p) _ (by simp [pPut])).trans s2, s3⟩
  · have wT : ∀ c k, pPut p c k = false → pT c k = false := by intro c k; simp only [pPut, pT]; grind
    have hv : ∀ k, opv μ β (rdt μ κ nm (a 0) (a 1) (if m = 33 then a 2 else 0)) m a b c k = rdt μ κ nm (a 0) (a 1) (if m = 33 then a 2 else 0) k := by
      intro k; rcases hm with rfl | rfl <;> rfl
    obtain ⟨⟨σ1, v1⟩, s1, s2, s3⟩ := e_Txm_read μ κ σ nm (a 0) (a 1) (if m = 33 then a 2 else 0) hnm hk hr h0
    have i12 : ∀ j, j < 12 → inb (Int32.ofNat j) 12 := fun j h => n_inb j 12 h (by omega)
    have p44 : ∀ (τ : Sg) (k : Nat), k < 4 → F_Shm_sampled_44 τ p (Int32.ofNat k) = some (sI τ 20 0, τ.2.2.1 7 k) := by
      intro τ k hk4
      unfold F_Shm_sampled_44
      rw [ck_pos hp, e_Txm_also τ k hk4, bd_def]
    have part0 : F_Shm_part σ p (Int32.ofNat m) (Int32.ofNat 0) = some (sI σ1 20 0, rdt μ κ nm (a 0) (a 1) (if m = 33 then a 2 else 0) 0) := by
      rw [e_Shm_partT p σ m 0 hp hm (by omega)]
      have : F_Shm_sampled σ p (Int32.ofNat m) (Int32.ofNat 0) = some (sI σ1 20 0, rdt μ κ nm (a 0) (a 1) (if m = 33 then a 2 else 0) 0) := by
        unfold F_Shm_sampled
        rw [ck_pos hp, if_pos (show Int32.ofNat 0 = 0 from rfl), (hl σ).2, ck_pos (show inb 0 12 from i12 0 (by omega)), ck_pos (show inb 1 12 from i12 1 (by omega))]
        unfold F_Shm_sampled_40
        rw [hn, ha 0 (by omega), ha 1 (by omega)]
        have p0 := p44 σ1 0 (by omega)
        rcases hm with rfl | rfl
        · rw [if_neg (show ¬ (32 = 33) by decide)] at s1 s3 ⊢
          rw [if_neg (show ¬ Int32.ofNat 32 = 33 by decide), ck_pos hp, s1, bd_def, p0, s3 0 (by omega)]
        · rw [if_pos rfl] at s1 s3 ⊢
          rw [if_pos (show Int32.ofNat 33 = 33 by decide), ck_pos (show inb 2 12 from i12 2 (by omega)), ha 2 (by omega), ck_pos hp, s1, bd_def, p0, s3 0 (by omega)]
      rw [this]; rfl
    have partk : ∀ (τ : Sg) (k : Nat), 0 < k → k < 4 → F_Shm_part τ p (Int32.ofNat m) (Int32.ofNat k) = some (sI τ 20 0, τ.2.2.1 7 k) := by
      intro τ k hk0 hk4
      rw [e_Shm_partT p τ m k hp hm hk4]
      unfold F_Shm_sampled
      rw [ck_pos hp, if_neg (fun h => by have := (n_inj k 0 (by omega) (by omega)).mp h; omega), p44 τ k hk4]
      rfl
    rw [show (0 : Int32) = Int32.ofNat 0 from rfl, step 99999 0 σ _ _ (by omega) part0]
    rw [step 99998 1 _ _ _ (by omega) (partk _ 1 (by omega) (by omega)), step 99997 2 _ _ _ (by omega) (partk _ 2 (by omega) (by omega)), step 99996 3 _ _ _ (by omega) (partk _ 3 (by omega) (by omega)), last]
    have n7 : ¬ (7 = 21 + 10 * p) := by omega
    simp only [sA_3, sI_2, if_true, if_neg n7]
    have f7 : ∀ k, k < 4 → σ1.2.2.1 7 k = rdt μ κ nm (a 0) (a 1) (if m = 33 then a 2 else 0) k := s3
    rw [f7 1 (by omega), f7 2 (by omega), f7 3 (by omega), four_upd _ _ _ _ _ (fun k => clp (un w) (rdt μ κ nm (a 0) (a 1) (if m = 33 then a 2 else 0) k)) rfl rfl rfl rfl]
    have hB1 : BR p rd β σ1 := hB.fr (s2.2.2.1 _ (by simp [pT]; omega)) (s2.2.2.1 _ (by simp [pT]; omega)) (s2.2.2.1 _ (by simp [pT]; omega)) (s2.2.2.1 _ (by simp [pT]; omega))
    generalize hτ : sA (sI (sA (sI (sA (sI (sA (sI σ1 20 0) (21 + 10 * p) _) 20 0) (21 + 10 * p) _) 20 0) (21 + 10 * p) _) 20 0) (21 + 10 * p) _ = τ
    have t1 : ∀ k, k ≠ 21 + 10 * p → τ.2.2.1 k = σ1.2.2.1 k := by
      intro k hk; rw [← hτ]; simp only [sA_3, sI_2, if_neg hk]
    have t2 : τ.2.2.1 (21 + 10 * p) = rowset (σ1.2.2.1 (21 + 10 * p)) 0 4 (fun k => clp (un w) (rdt μ κ nm (a 0) (a 1) (if m = 33 then a 2 else 0) k)) := by
      rw [← hτ]; simp only [sA_3, if_true]
    have t3 : Fr (pPut p) σ1 τ := by
      rw [← hτ]
      have h20 : pPut p 0 20 = true := by simp [pPut]
      have h21 : pPut p 2 (21 + 10 * p) = true := by simp [pPut]
      exact fr_sA (fr_sI (fr_sA (fr_sI (fr_sA (fr_sI (fr_sA (fr_sI Fr.rfl _ _ h20) _ _ h21) _ _ h20) _ _ h21) _ _ h20) _ _ h21) _ _ h20) _ _ h21
    obtain ⟨σ', u1, u2, u3⟩ := e_put66 p rd β (opv μ β (rdt μ κ nm (a 0) (a 1) (if m = 33 then a 2 else 0)) m a b c) τ w hp ht
      (hB1.fr (t1 _ (by omega)) (t1 _ (by omega)) (t1 _ (by omega)) (t1 _ (by omega))) (fun k hk4 => by rw [t2, rowset_get0 _ _ _ _ hk4, hv k])
    exact ⟨σ', u1, ((s2.weak wT).trans t3).trans u2, u3⟩
