/-! the next command is fetched: the class -/
def Cur (σ τ : Sg) (sz p d : Nat) : Prop := (σ.1 10 = Int32.ofNat p) ∧ (τ.1 11 = Int32.ofNat p) ∧ (σ.1 4 = Int32.ofNat d) ∧ (τ.1 12 = Int32.ofNat d) ∧ (d ≤ 4) ∧ (p ≤ Li sz d) ∧ (∀ j, j < d → ∃ q, σ.2.2.1 6 j = Int32.ofNat q ∧ τ.2.2.1 2 j = Int32.ofNat q ∧ q ≤ Li sz j)
theorem Cur.p1 {σ τ : Sg} {sz p d : Nat} (a_ : Cur σ τ sz p d) : σ.1 10 = Int32.ofNat p := a_.1
theorem Cur.p2 {σ τ : Sg} {sz p d : Nat} (a_ : Cur σ τ sz p d) : τ.1 11 = Int32.ofNat p := a_.2.1
theorem Cur.d1 {σ τ : Sg} {sz p d : Nat} (a_ : Cur σ τ sz p d) : σ.1 4 = Int32.ofNat d := a_.2.2.1
theorem Cur.d2 {σ τ : Sg} {sz p d : Nat} (a_ : Cur σ τ sz p d) : τ.1 12 = Int32.ofNat d := a_.2.2.2.1
theorem Cur.d4 {σ τ : Sg} {sz p d : Nat} (a_ : Cur σ τ sz p d) : d ≤ 4 := a_.2.2.2.2.1
theorem Cur.pz {σ τ : Sg} {sz p d : Nat} (a_ : Cur σ τ sz p d) : p ≤ Li sz d := a_.2.2.2.2.2.1
theorem Cur.rt {σ τ : Sg} {sz p d : Nat} (a_ : Cur σ τ sz p d) : ∀ j, j < d → ∃ q, σ.2.2.1 6 j = Int32.ofNat q ∧ τ.2.2.1 2 j = Int32.ofNat q ∧ q ≤ Li sz j := a_.2.2.2.2.2.2
def pFe : Nat → Nat → Bool := fun c k => (c == 0 && (k == 3 || k == 7 || k == 8 || k == 11)) || (c == 2 && k == 5)
def allv (S : Nat → Int32) (K p : Nat) : Prop := ∀ j, j < na K → okv K j (S (p + 1 + j))
/-- what a fetch finds: r, and the command -/
def FeS (σ' : Sg) (S : Nat → Int32) (L p d : Nat) (done r : Int32) : Prop :=
  (¬ done < 2000 ∧ r = 7) ∨ (done < 2000 ∧ L ≤ p ∧ d = 0 ∧ r = 0 ∧ σ'.1 3 = 0 ∧ σ'.1 11 = 0) ∨ (done < 2000 ∧ L ≤ p ∧ d ≠ 0 ∧ r = 1) ∨
  (done < 2000 ∧ p < L ∧ ¬ (0 ≤ (S p).toInt ∧ (S p).toInt ≤ 25) ∧ r = 2) ∨
  (done < 2000 ∧ p < L ∧ ∃ K, K < 26 ∧ S p = Int32.ofNat K ∧ ((L ≤ p + na K ∧ r = 1) ∨ (p + na K < L ∧ L ≤ p + (na K + mor K (S (p + 2))) ∧ r = 1) ∨ (p + (na K + mor K (S (p + 2))) < L ∧ ¬ allv S K p ∧ r = 3) ∨
    (p + (na K + mor K (S (p + 2))) < L ∧ allv S K p ∧ r = 0 ∧ σ'.1 3 = Int32.ofNat K ∧ σ'.1 11 = Int32.ofNat (1 + (na K + mor K (S (p + 2)))) ∧ ∀ j, j < na K → σ'.2.2.1 5 j = S (p + 1 + j))))
theorem e_within256 (v : Int32) : F_DM_within v.toInt64 0 256 = some (Int32.ofNat (mor 21 v)) := by
  unfold F_DM_within F_DM_within_24 mor
  have z : (0 : Int32).toInt64.toInt = 0 := rfl
  have y : (256 : Int32).toInt64.toInt = 256 := rfl
  have z' : (0 : Int32).toInt = 0 := rfl
  have y' : (256 : Int32).toInt = 256 := rfl
  rw [if_pos rfl]
  have g1 : ((0 : Int32).toInt64 ≤ v.toInt64) ↔ ¬ v < 0 := by rw [Int64.le_iff_toInt_le, z, l_ext, Int32.lt_iff_toInt_lt, z']; omega
  have g2 : (v.toInt64 ≤ (256 : Int32).toInt64) ↔ v ≤ 256 := by rw [Int64.le_iff_toInt_le, y, l_ext, Int32.le_iff_toInt_le, y']
  by_cases c : v < 0
  · rw [if_neg (fun e => (g1.mp e) c), if_pos c]; rfl
  · rw [if_pos (g1.mpr c), if_neg c]
    by_cases c2 : v ≤ 256
    · rw [if_pos (g2.mpr c2), if_pos c2, n_of v c]; simp
    · rw [if_neg (fun e => c2 (g2.mp e)), if_neg c2]; rfl
theorem e_fetchC (σ : Sg) (sz p d : Nat) (hz : sz ≤ 4096) (hn : sz ≤ σ.2.2.2.2 1) (hn4 : σ.2.2.2.2 1 ≤ 4096) (hs : σ.1 2 = Int32.ofNat sz) (hp : σ.1 10 = Int32.ofNat p) (hd : σ.1 4 = Int32.ofNat d) (hd4 : d ≤ 4) (hpz : p ≤ Li sz d) :
    ∃ σ' r, F_Cou_fetch σ = some (σ', r) ∧ Fr pFe σ σ' ∧ σ'.1 7 = Int32.ofNat p ∧ σ'.1 8 = Int32.ofNat d ∧ FeS σ' (Sr σ d) (Li sz d) p d (σ.1 5) r := by
  have hl := Li_le sz d hz
  unfold F_Cou_fetch
  rw [lt_def, lt_def, hp, show (sI σ 7 (Int32.ofNat p)).1 4 = σ.1 4 from rfl, hd]
  generalize hσ0 : sI (sI σ 7 (Int32.ofNat p)) 8 (Int32.ofNat d) = σ0
  have F0 : Fr pFe σ σ0 := by rw [← hσ0]; exact fr_sI (fr_sI Fr.rfl 7 _ rfl) 8 _ rfl
  have i7 : σ0.1 7 = Int32.ofNat p := by rw [← hσ0]; rfl
  have i8 : σ0.1 8 = Int32.ofNat d := by rw [← hσ0]; rfl
  have i10 : σ0.1 10 = Int32.ofNat p := by rw [F0.1 10 rfl]; exact hp
  rw [F0.1 5 rfl]
  by_cases c7 : σ.1 5 < 2000
  rotate_left
  · rw [if_neg c7]
    exact ⟨σ0, 7, rfl, F0, i7, i8, Or.inl ⟨c7, rfl⟩⟩
  rw [if_pos c7]
  let ar : Nat := if d = 0 then 7 else 0
  have har : ar < 47 := by show (if d = 0 then 7 else 0) < 47; split <;> omega
  have e1 : F_Cou_source σ0 = some ar := by
    unfold F_Cou_source F_Cou_source_18
    rw [F0.1 4 rfl, hd]
    by_cases c : d = 0
    · rw [if_pos ((dz4 d hd4).mpr c)]; show _ = some (if d = 0 then 7 else 0); rw [if_pos c]; rfl
    · rw [if_neg (fun e => c ((dz4 d hd4).mp e))]; show _ = some (if d = 0 then 7 else 0); rw [if_neg c]; rfl
  have e2 : F_Cou_limit σ0 = some (Int32.ofNat (Li sz d)) := by
    unfold F_Cou_limit F_Cou_limit_17 Li
    rw [F0.1 4 rfl, hd, F0.1 2 rfl, hs]
    by_cases c : d = 0
    · rw [if_pos ((dz4 d hd4).mpr c), if_pos c]
    · rw [if_neg (fun e => c ((dz4 d hd4).mp e)), if_neg c]; rfl
  have e3 : ∀ υ : Sg, Fr pFe σ υ → υ.2.2.1 ar = Sr σ d ∧ Li sz d ≤ lenC υ ar ∧ lenC υ ar ≤ 4096 := by
    intro υ F
    show υ.2.2.1 (if d = 0 then 7 else 0) = Sr σ d ∧ Li sz d ≤ lenC υ (if d = 0 then 7 else 0) ∧ lenC υ (if d = 0 then 7 else 0) ≤ 4096
    unfold Sr Li
    by_cases c : d = 0
    · rw [if_pos c, if_pos c, if_pos c]
      refine ⟨F.2.2.1 7 rfl, ?_, ?_⟩
      · show sz ≤ υ.2.2.2.2 1; rw [F.2.2.2.2 1 rfl]; exact hn
      · show υ.2.2.2.2 1 ≤ 4096; rw [F.2.2.2.2 1 rfl]; exact hn4
    · rw [if_neg c, if_neg c, if_neg c]
      exact ⟨F.2.2.1 0 rfl, Nat.le_refl _, Nat.le_refl _⟩
  obtain ⟨s1, s2, s3⟩ := e3 σ0 F0
  rw [e1, bd_def, lt_def, ck_pos har, e2, bd_def, i10]
  by_cases cp : p < Li sz d
  rotate_left
  · rw [if_neg (fun e => cp ((n_lt _ _ (by omega) (by omega)).mp e)), lt_def, lt_def]
    have F1 : Fr pFe σ (sI (sI σ0 3 0) 11 0) := fr_sI (fr_sI F0 3 0 rfl) 11 0 rfl
    rw [F1.1 4 rfl, hd]
    unfold F_Cou_fetch_69
    by_cases c : d = 0
    · refine ⟨sI (sI σ0 3 0) 11 0, 0, ?_, F1, i7, i8, Or.inr (Or.inl ⟨c7, by omega, c, rfl, rfl, rfl⟩)⟩
      rw [if_pos (by rw [c]; decide)]
    · refine ⟨sI (sI σ0 3 0) 11 0, 1, ?_, F1, i7, i8, Or.inr (Or.inr (Or.inl ⟨c7, by omega, c, rfl⟩))⟩
      rw [if_neg (fun e : Int32.ofNat d ≤ 0 => c (by have := (n_le d 0 (by omega) (by omega)).mp e; omega))]
  rw [if_pos ((n_lt _ _ (by omega) (by omega)).mpr cp), ck_pos (n_inb p _ (by omega) (by omega)), n_nat p (by omega), s1, lt_def]
  generalize hv : Sr σ d p = v
  have F1 : Fr pFe σ (sI σ0 3 v) := fr_sI F0 3 v rfl
  rw [show (sI σ0 3 v).1 3 = v from rfl]
  have z : (0 : Int32).toInt = 0 := rfl
  have z25 : (25 : Int32).toInt = 25 := rfl
  have bad : ¬ (0 ≤ v.toInt ∧ v.toInt ≤ 25) → ∃ σ' r, F_Cou_fetch_96 (sI σ0 3 v) = some (σ', r) ∧ Fr pFe σ σ' ∧ σ'.1 7 = Int32.ofNat p ∧ σ'.1 8 = Int32.ofNat d ∧ FeS σ' (Sr σ d) (Li sz d) p d (σ.1 5) r := fun h => ⟨_, 2, rfl, F1, i7, i8, Or.inr (Or.inr (Or.inr (Or.inl ⟨c7, cp, by rw [hv]; exact h, rfl⟩)))⟩
  by_cases b1 : v < 0
  · rw [if_pos b1]
    exact bad (fun h => by have := Int32.lt_iff_toInt_lt.mp b1; omega)
  rw [if_neg b1]
  by_cases b2 : v ≤ 25
  rotate_left
  · rw [if_neg b2]
    exact bad (fun h => b2 (Int32.le_iff_toInt_le.mpr (by omega)))
  rw [if_pos b2]
  obtain ⟨K, hK⟩ : ∃ K, v.toNatClampNeg = K := ⟨_, rfl⟩
  have vK : v = Int32.ofNat K := by rw [← hK, n_of v b1]
  have hK26 : K < 26 := by
    have h1 := Int32.le_iff_toInt_le.mp b2
    have : v.toNatClampNeg = v.toInt.toNat := rfl
    omega
  obtain ⟨t1, -, t3, -⟩ := t_args K hK26
  rw [vK, ck_pos (n_inb K 26 hK26 (by omega)), n_nat K (by omega), t1, lt_def, show (1 + Int32.ofNat (na K) : Int32) = Int32.ofNat (1 + na K) from n_add 1 _]
  generalize hσ1 : sI (sI σ0 3 (Int32.ofNat K)) 11 (Int32.ofNat (1 + na K)) = σ1
  have F1 : Fr pFe σ σ1 := by rw [← hσ1]; exact fr_sI (fr_sI F0 3 _ rfl) 11 _ rfl
  have j3 : σ1.1 3 = Int32.ofNat K := by rw [← hσ1]; rfl
  have j7 : σ1.1 7 = Int32.ofNat p := by rw [← hσ1]; exact i7
  have j8 : σ1.1 8 = Int32.ofNat d := by rw [← hσ1]; exact i8
  have j10 : σ1.1 10 = Int32.ofNat p := by rw [F1.1 10 rfl]; exact hp
  have j11 : σ1.1 11 = Int32.ofNat (1 + na K) := by rw [← hσ1]; rfl
  rw [j10, j11, n_add]
  have SK : Sr σ d p = Int32.ofNat K := by rw [hv]; exact vK
  by_cases cl : p + (1 + na K) ≤ Li sz d
  rotate_left
  · rw [if_neg (fun e => cl ((n_le _ _ (by omega) (by omega)).mp e))]
    exact ⟨σ1, 1, rfl, F1, j7, j8, Or.inr (Or.inr (Or.inr (Or.inr ⟨c7, cp, K, hK26, SK, Or.inl ⟨by omega, rfl⟩⟩)))⟩
  rw [if_pos ((n_le _ _ (by omega) (by omega)).mpr cl), j3]
  -- the second half
  have half : ∀ (υ : Sg), Fr pFe σ υ → υ.1 3 = Int32.ofNat K → υ.1 7 = Int32.ofNat p → υ.1 8 = Int32.ofNat d → υ.1 11 = Int32.ofNat (1 + (na K + mor K (Sr σ d (p + 2)))) →
      ∃ σ' r, F_Cou_fetch_161 υ ar (Int32.ofNat (Li sz d)) = some (σ', r) ∧ Fr pFe σ σ' ∧ σ'.1 7 = Int32.ofNat p ∧ σ'.1 8 = Int32.ofNat d ∧ FeS σ' (Sr σ d) (Li sz d) p d (σ.1 5) r := by
    intro υ F k3 k7 k8 k11
    have hm := mor_le K (Sr σ d (p + 2))
    generalize hM : mor K (Sr σ d (p + 2)) = M at *
    obtain ⟨s1, s2, s3⟩ := e3 υ F
    unfold F_Cou_fetch_161
    rw [ck_pos har, F.1 10 rfl, hp, k11, n_add, k3]
    by_cases cm : p + (1 + (na K + M)) ≤ Li sz d
    rotate_left
    · rw [if_neg (fun e => cm ((n_le _ _ (by omega) (by omega)).mp e))]
      exact ⟨υ, 1, rfl, F, k7, k8, Or.inr (Or.inr (Or.inr (Or.inr ⟨c7, cp, K, hK26, SK, Or.inr (Or.inl ⟨by omega, by rw [hM]; omega, rfl⟩)⟩)))⟩
    rw [if_pos ((n_le _ _ (by omega) (by omega)).mpr cm), ck_pos (n_inb K 26 hK26 (by omega)), n_nat K (by omega), t1, n_succ, ck_pos (show cpok (Int32.ofNat (p + 1)) 0 (Int32.ofNat (na K)) (lenC υ ar) 8 from cpok_n (p + 1) 0 (na K) _ 8 (by omega) (by omega) (by omega) (by omega)), lt_def, n_nat (p + 1) (by omega), n_nat (na K) (by omega), s1, show (0 : Int32).toNatClampNeg = 0 from rfl]
    generalize hυ : sA υ 5 (va_cpy (Sr σ d) (υ.2.2.1 5) (p + 1) 0 (na K)) = υ1
    have F2 : Fr pFe σ υ1 := by rw [← hυ]; exact fr_sA F 5 _ rfl
    have l3 : υ1.1 3 = Int32.ofNat K := by rw [← hυ]; exact k3
    have l7 : υ1.1 7 = Int32.ofNat p := by rw [← hυ]; exact k7
    have l8 : υ1.1 8 = Int32.ofNat d := by rw [← hυ]; exact k8
    have l11 : υ1.1 11 = Int32.ofNat (1 + (na K + M)) := by rw [← hυ]; exact k11
    have l5 : ∀ j, j < na K → υ1.2.2.1 5 j = Sr σ d (p + 1 + j) := by
      intro j hj
      rw [← hυ]
      show va_cpy (Sr σ d) (υ.2.2.1 5) (p + 1) 0 (na K) j = _
      unfold va_cpy
      rw [if_pos (by omega)]; rfl
    obtain ⟨b, hb1, hb2⟩ := e_valC υ1 K hK26 l3
    have hb3 : b = true ↔ allv (Sr σ d) K p := hb2.trans ⟨fun h j hj => by rw [← l5 j hj]; exact h j hj, fun h j hj => by rw [l5 j hj]; exact h j hj⟩
    rw [hb1, bd_def]
    unfold F_Cou_fetch_211
    cases b with
    | false =>
      rw [if_pos (show bI false = 0 from rfl)]
      exact ⟨υ1, 3, rfl, F2, l7, l8, Or.inr (Or.inr (Or.inr (Or.inr ⟨c7, cp, K, hK26, SK, Or.inr (Or.inr (Or.inl ⟨by rw [hM]; omega, fun h => Bool.noConfusion (hb3.mpr h), rfl⟩))⟩)))⟩
    | true =>
      rw [if_neg (show ¬ bI true = 0 by decide)]
      exact ⟨υ1, 0, rfl, F2, l7, l8, Or.inr (Or.inr (Or.inr (Or.inr ⟨c7, cp, K, hK26, SK, Or.inr (Or.inr (Or.inr ⟨by rw [hM]; omega, hb3.mp rfl, rfl, l3, by rw [hM]; exact l11, l5⟩))⟩)))⟩
  by_cases c21 : K = 21
  · subst c21
    obtain ⟨s1, s2, s3⟩ := e3 σ1 F1
    rw [if_pos (show Int32.ofNat 21 = 21 from rfl), show (Int32.ofNat p + 2 : Int32) = Int32.ofNat (p + 2) from n_add p 2, ck_pos (n_inb (p + 2) _ (by have : na 21 = 2 := rfl; omega) (by omega)), n_nat (p + 2) (by omega), s1, e_within256, bd_def, lt_def, show (Int32.ofNat (1 + na 21) + Int32.ofNat (mor 21 (Sr σ d (p + 2))) : Int32) = _ from n_add _ _]
    exact half _ (fr_sI F1 11 _ rfl) j3 j7 j8 (by rw [← Nat.add_assoc]; rfl)
  · rw [if_neg (fun e : Int32.ofNat K = 21 => c21 ((n_inj K 21 (by omega) (by omega)).mp e))]
    refine half σ1 F1 j3 j7 j8 ?_
    rw [j11, show mor K (Sr σ d (p + 2)) = 0 from if_neg c21, Nat.add_zero]
