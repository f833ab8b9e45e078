/-! a place is drawn -/
def pDC : Nat → Nat → Bool := fun c k => c == 2 && (k == 2 || k == 3 || k == 4)
def pDM : Nat → Nat → Bool := fun c k => (c == 0 && k == 28) || (c == 2 && (k == 45 || k == 46 || k == 47 || k == 52 || k == 53 || k == 54))
def p53 : Nat → Nat → Bool := fun c k => c == 2 && (k == 53 || k == 54)
theorem e_answer (τ : Sg) (r : Nat) (hr : r < 4) : ∃ τ', F_Ptm_answer τ (Int32.ofNat r) = some (τ', Int32.ofNat r) ∧ Fr (fun c k => c == 2 && k == 52) τ τ' := by
  unfold F_Ptm_answer
  rw [ck_pos (n_inb r 4 hr (by omega)), ck_pos (n_inb r 4 hr (by omega)), lt_def]
  exact ⟨_, rfl, fr_sA Fr.rfl 52 _ rfl⟩
theorem e_load4 (τ : Sg) (i : Nat) (hi : i < 16384) (o : Nat → Int32) (s : Int32) (ho : ∀ k, k < 4 → F_Ptm_byteOf (o k) = some (byt s k)) :
    ∃ τ', L_Ptm_draw_224 100000 τ (o 0) (o 1) (o 2) (o 3) (Int32.ofNat i) 0 = L_Ptm_draw_302 100000 τ' (Int32.ofNat i) 0 ∧ Fr p53 τ τ' ∧ (∀ j, j < 4 → τ'.2.2.1 53 j = byt s j) ∧ (∀ j, j < 4 → τ'.2.2.1 54 j = τ.2.2.1 45 (4 * i + j)) := by
  have st : ∀ (n k : Nat) (υ : Sg), k < 4 → (Fr p53 τ υ ∧ (∀ j, j < k → υ.2.2.1 53 j = byt s j) ∧ (∀ j, j < k → υ.2.2.1 54 j = τ.2.2.1 45 (4 * i + j))) →
      ∃ υ', L_Ptm_draw_224 (n + 1) υ (o 0) (o 1) (o 2) (o 3) (Int32.ofNat i) (Int32.ofNat k) = L_Ptm_draw_224 n υ' (o 0) (o 1) (o 2) (o 3) (Int32.ofNat i) (Int32.ofNat (k + 1)) ∧ (Fr p53 τ υ' ∧ (∀ j, j < k + 1 → υ'.2.2.1 53 j = byt s j) ∧ (∀ j, j < k + 1 → υ'.2.2.1 54 j = τ.2.2.1 45 (4 * i + j))) := by
    intro n k υ hk ⟨u1, u2, u3⟩
    have e : L_Ptm_draw_224 (n + 1) υ (o 0) (o 1) (o 2) (o 3) (Int32.ofNat i) (Int32.ofNat k) = F_Ptm_draw_270 (L_Ptm_draw_224 n) υ (o 0) (o 1) (o 2) (o 3) (Int32.ofNat i) (Int32.ofNat k) (Int32.ofNat k) (o k) := by
      have : k = 0 ∨ k = 1 ∨ k = 2 ∨ k = 3 := by omega
      rcases this with rfl | rfl | rfl | rfl <;> rfl
    refine ⟨sA (sA υ 53 (upd (υ.2.2.1 53) k (byt s k))) 54 (upd (υ.2.2.1 54) k (υ.2.2.1 45 (4 * i + k))), ?_, fr_sA (fr_sA u1 53 _ rfl) 54 _ rfl, ?_, ?_⟩
    · rw [e, F_Ptm_draw_270, ho k hk, bd_def, ck_pos (n_inb k 4 hk (by omega)), lt_def, show (4 * Int32.ofNat i : Int32) = Int32.ofNat (4 * i) from n_mul 4 i, n_add, ck_pos (n_inb _ 65536 (by omega) (by omega)), ck_pos (n_inb k 4 hk (by omega)), lt_def, lt_def, n_succ, n_nat k (by omega), n_nat _ (by omega)]
      rfl
    · intro j hj
      show upd (υ.2.2.1 53) k (byt s k) j = _
      by_cases c : j = k
      · subst c; rw [upd_eq]
      · rw [upd_ne _ _ _ _ c]; exact u2 j (by omega)
    · intro j hj
      show upd (υ.2.2.1 54) k (υ.2.2.1 45 (4 * i + k)) j = _
      by_cases c : j = k
      · subst c; rw [upd_eq, u1.2.2.1 45 (by decide)]
      · rw [upd_ne _ _ _ _ c]; exact u3 j (by omega)
  obtain ⟨τ1, a1, b1⟩ := st 99999 0 τ (by omega) ⟨Fr.rfl, fun j hj => by omega, fun j hj => by omega⟩
  obtain ⟨τ2, a2, b2⟩ := st 99998 1 τ1 (by omega) b1
  obtain ⟨τ3, a3, b3⟩ := st 99997 2 τ2 (by omega) b2
  obtain ⟨τ4, a4, b4⟩ := st 99996 3 τ3 (by omega) b3
  refine ⟨τ4, ?_, b4.1, b4.2.1, b4.2.2⟩
  rw [show L_Ptm_draw_224 100000 τ (o 0) (o 1) (o 2) (o 3) (Int32.ofNat i) 0 = L_Ptm_draw_224 (99999 + 1) τ (o 0) (o 1) (o 2) (o 3) (Int32.ofNat i) (Int32.ofNat 0) from rfl, a1, a2, a3, a4]
  rfl
theorem rvC_fr (τ τ' : Sg) (h : Fr (fun c k => c == 2 && k == 45) τ τ') (k : Nat) : rvC τ' k = rvC τ k := by
  have f : ∀ (m x : Int32), F_Ptm_factor τ' m x = F_Ptm_factor τ m x := by
    intro m x
    unfold F_Ptm_factor F_Ptm_factor_235
    rw [h.2.2.1 53 rfl, h.2.2.1 54 rfl, h.2.2.1 51 rfl]
  have L : ∀ n x y z, L_Ptm_bits_4 n τ' x y z = L_Ptm_bits_4 n τ x y z := by
    intro n
    induction n with
    | zero => intro x y z; rfl
    | succ n ih =>
      intro x y z
      unfold L_Ptm_bits_4
      rw [h.2.2.1 53 rfl, h.2.2.1 54 rfl, h.1 38 rfl]
      simp only [ih]
  unfold rvC
  rw [h.1 38 rfl, h.1 36 rfl, h.2.2.1 53 rfl]
  simp only [F_Ptm_blended_188, F_Ptm_blended_157, F_Ptm_blended_27, F_Ptm_blended_10, F_Ptm_blended, F_Ptm_bits, f, L, h.2.2.1 53 rfl, h.2.2.1 54 rfl, h.2.2.1 50 rfl, h.1 36 rfl, h.1 37 rfl]
theorem e_fin (σ τ : Sg) (w h i : Nat) (a : PicR σ τ w h) (t : TesR σ τ) (hi : i < w * h) (s : Int32) (o : Nat → Int32) (ho : ∀ k, k < 4 → F_Ptm_byteOf (o k) = some (byt s k)) :
    ∃ σ' τ', F_Pic_drawPlace_190 σ s (Int32.ofNat i) = some (σ', 3) ∧ L_Ptm_draw_224 100000 τ (o 0) (o 1) (o 2) (o 3) (Int32.ofNat i) 0 = some (τ', 3) ∧ PicR σ' τ' w h ∧ Fr pDC σ σ' ∧ Fr pDM τ τ' := by
  have hcap := a.cap
  have hcap2 := a.cap2
  obtain ⟨m, m1, m2⟩ := rg_n (b := 15) t.mar (by omega)
  obtain ⟨b, b1, b2⟩ := e_channelBits m (by omega)
  obtain ⟨τ1, l1, l2, l3, l4⟩ := e_load4 τ i (by omega) o s ho
  have t1 : TesR σ τ1 := t.tr (p := fun _ _ => false) Fr.rfl l2 rfl (by decide)
  have a1 : PicR σ τ1 w h := a.tr (p := fun _ _ => false) Fr.rfl l2 (by decide) (by decide)
  have B : Blo σ τ1 s (σ.2.2.1 2 i) := ⟨l3, fun j hj => by rw [l4 j hj]; exact a.col i hi j hj, t1.co⟩
  obtain ⟨c, c1, c2⟩ := e_newColour σ τ1 s (σ.2.2.1 2 i) B t1.bl t1.lo t1.lor.1 t1.lor.2
  have hl : inb (Int32.ofNat i) (lenC σ 2) := n_inb i _ (show i < σ.2.2.2.2 0 by omega) (by omega)
  have hb : ∀ k, k < 4 → bn ((σ.2.2.1 2 i &&& (b ^^^ (-1))) ||| (c &&& b)) k = if m / 2 ^ k % 2 = 1 then bn c k else bn (σ.2.2.1 2 i) k := by
    intro k hk
    rw [bn_mix _ _ _ k hk (by rw [b2 k hk]; split <;> simp), b2 k hk]
    by_cases e : m / 2 ^ k % 2 = 1
    · rw [if_pos e, if_pos rfl, if_pos e]
    · rw [if_neg e, if_neg (by omega), if_neg e]
  generalize hC : (σ.2.2.1 2 i &&& (b ^^^ (-1))) ||| (c &&& b) = C at hb
  have st : ∀ (n k : Nat) (υ : Sg), k < 4 → (Fr (fun c k => c == 2 && k == 45) τ1 υ ∧ (∀ j, j < k → υ.2.2.1 45 (4 * i + j) = byt C j) ∧ (∀ q, (q < 4 * i ∨ 4 * i + k ≤ q) → υ.2.2.1 45 q = τ1.2.2.1 45 q)) →
      ∃ υ', L_Ptm_draw_302 (n + 1) υ (Int32.ofNat i) (Int32.ofNat k) = L_Ptm_draw_302 n υ' (Int32.ofNat i) (Int32.ofNat (k + 1)) ∧ (Fr (fun c k => c == 2 && k == 45) τ1 υ' ∧ (∀ j, j < k + 1 → υ'.2.2.1 45 (4 * i + j) = byt C j) ∧ (∀ q, (q < 4 * i ∨ 4 * i + (k + 1) ≤ q) → υ'.2.2.1 45 q = τ1.2.2.1 45 q)) := by
    intro n k υ hk ⟨u1, u2, u3⟩
    have hkk := n_inb k 4 hk (by omega)
    have hkn := n_nat k (by omega)
    have e : L_Ptm_draw_302 (n + 1) υ (Int32.ofNat i) (Int32.ofNat k) = F_Ptm_draw_347 (L_Ptm_draw_302 n) υ (Int32.ofNat i) (Int32.ofNat k) (byt c k) := by
      have r := c2 k hk
      rw [← rvC_fr τ1 υ u1 k] at r
      unfold rvC at r
      rw [L_Ptm_draw_302, if_neg (show ¬ (4 : Int32) ≤ Int32.ofNat k from fun e => absurd ((n_le 4 k (by omega) (by omega)).mp e) (by omega))]
      by_cases d1 : υ.1 38 < 0
      · rw [if_pos d1] at r ⊢
        by_cases d2 : υ.1 36 < 0
        · rw [if_pos d2] at r ⊢
          rw [ck_pos hkk, hkn, Option.some.inj r]
        · rw [if_neg d2] at r ⊢
          rw [r, bd_def]
      · rw [if_neg d1] at r ⊢
        rw [r, bd_def]
    have e2 : F_Ptm_draw_347 (L_Ptm_draw_302 n) υ (Int32.ofNat i) (Int32.ofNat k) (byt c k) = F_Ptm_draw_385 (L_Ptm_draw_302 n) υ (Int32.ofNat i) (Int32.ofNat k) (Int32.ofNat (4 * i + k)) (byt C k) := by
      unfold F_Ptm_draw_347
      rw [u1.1 39 rfl, t1.ma, m2, mask_bit m k (by omega) hk, show (4 * Int32.ofNat i : Int32) = Int32.ofNat (4 * i) from n_mul 4 i, n_add, byt_eq C, hb k hk]
      by_cases d : m / 2 ^ k % 2 = 1
      · rw [if_pos (by rw [d]; rfl), if_pos d]; rfl
      · rw [if_neg (show ¬ Int32.ofNat (m / 2 ^ k % 2) = 1 from fun e => d ((n_inj _ 1 (by omega) (by omega)).mp e)), if_neg d, ck_pos hkk, hkn, u1.2.2.1 54 rfl, B.d k hk]; rfl
    refine ⟨sA υ 45 (upd (υ.2.2.1 45) (4 * i + k) (byt C k)), ?_, fr_sA u1 45 _ rfl, ?_, ?_⟩
    · rw [e, e2]
      unfold F_Ptm_draw_385
      rw [ck_pos (n_inb _ 65536 (by omega) (by omega)), lt_def, lt_def, n_succ, n_nat _ (by omega)]
    · intro j hj
      show upd (υ.2.2.1 45) (4 * i + k) (byt C k) (4 * i + j) = _
      by_cases c : j = k
      · subst c; rw [upd_eq]
      · rw [upd_ne _ _ _ _ (by omega)]; exact u2 j (by omega)
    · intro q hq
      show upd (υ.2.2.1 45) (4 * i + k) (byt C k) q = _
      rw [upd_ne _ _ _ _ (by omega)]; exact u3 q (by omega)
  obtain ⟨τ2, s2, v2⟩ := st 99999 0 τ1 (by omega) ⟨Fr.rfl, fun j hj => by omega, fun q _ => rfl⟩
  obtain ⟨τ3, s3, v3⟩ := st 99998 1 τ2 (by omega) v2
  obtain ⟨τ4, s4, v4⟩ := st 99997 2 τ3 (by omega) v3
  obtain ⟨τ5, s5, v5⟩ := st 99996 3 τ4 (by omega) v4
  obtain ⟨τ6, z1, z2⟩ := e_answer τ5 3 (by omega)
  have q1 : PicR (sA σ 2 (upd (σ.2.2.1 2) i C)) τ5 w h := by
    have q0 := a1.set2 i C (τ5.2.2.1 45) v5.2.1 v5.2.2
    refine q0.tr (p := fun _ _ => false) Fr.rfl (q := fun _ _ => false) ?_ (by decide) (by decide)
    exact ⟨fun k _ => v5.1.1 k rfl, fun k _ => v5.1.2.1 k rfl, fun k _ => by
      rw [sA_3]
      by_cases c : k = 45
      · subst c; rw [if_pos rfl]
      · rw [if_neg c]; exact v5.1.2.2.1 k (by simp [c]), fun k _ => v5.1.2.2.2.1 k rfl, fun k _ => v5.1.2.2.2.2 k rfl⟩
  refine ⟨sA σ 2 (upd (σ.2.2.1 2) i C), τ6, ?_, ?_, ?_, fr_sA Fr.rfl 2 _ rfl, ?_⟩
  · unfold F_Pic_drawPlace_190
    rw [m2, b1, bd_def, ck_pos hl, ck_pos hl, n_nat i (by omega), c1, bd_def, ck_pos hl, lt_def, hC]
  · rw [l1, show L_Ptm_draw_302 100000 τ1 (Int32.ofNat i) 0 = L_Ptm_draw_302 (99999 + 1) τ1 (Int32.ofNat i) (Int32.ofNat 0) from rfl, s2, s3, s4, s5, L_Ptm_draw_302, if_pos (by decide), show (3 : Int32) = Int32.ofNat 3 from rfl, z1, bd_def]
  · exact q1.tr (p := fun _ _ => false) Fr.rfl z2 (by decide) (by decide)
  · refine Fr.trans (l2.weak ?_) (Fr.trans (v5.1.weak ?_) (z2.weak ?_))
    · intro c k; unfold pDM p53; grind
    · intro c k; unfold pDM; grind
    · intro c k; unfold pDM; grind
