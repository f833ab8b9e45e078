/-! the course: what is read -/
def Sr (σ : Sg) (d : Nat) : Nat → Int32 := if d = 0 then σ.2.2.1 7 else σ.2.2.1 0
def Li (sz d : Nat) : Nat := if d = 0 then sz else 4096
theorem Li_le (sz d : Nat) (h : sz ≤ 4096) : Li sz d ≤ 4096 := by unfold Li; split <;> omega
def RdOK (τ : Sg) (sz d : Nat) (S : Nat → Int32) : Prop := (sz ≤ 4096) ∧ (τ.1 10 = Int32.ofNat sz) ∧ (d ≤ 4) ∧ (τ.1 12 = Int32.ofNat d) ∧ (∀ x, x < Li sz d → (if d = 0 then τ.2.2.1 1 x else τ.2.2.1 0 x) = S x)
theorem RdOK.z {τ : Sg} {sz d : Nat} {S : Nat → Int32} (a_ : RdOK τ sz d S) : sz ≤ 4096 := a_.1
theorem RdOK.s {τ : Sg} {sz d : Nat} {S : Nat → Int32} (a_ : RdOK τ sz d S) : τ.1 10 = Int32.ofNat sz := a_.2.1
theorem RdOK.d4 {τ : Sg} {sz d : Nat} {S : Nat → Int32} (a_ : RdOK τ sz d S) : d ≤ 4 := a_.2.2.1
theorem RdOK.dd {τ : Sg} {sz d : Nat} {S : Nat → Int32} (a_ : RdOK τ sz d S) : τ.1 12 = Int32.ofNat d := a_.2.2.2.1
theorem RdOK.w {τ : Sg} {sz d : Nat} {S : Nat → Int32} (a_ : RdOK τ sz d S) : ∀ x, x < Li sz d → (if d = 0 then τ.2.2.1 1 x else τ.2.2.1 0 x) = S x := a_.2.2.2.2
theorem RdOK.tr {q : Nat → Nat → Bool} {τ τ' : Sg} {sz d : Nat} {S : Nat → Int32} (a : RdOK τ sz d S) (h : Fr q τ τ') (h1 : q 0 10 = false) (h2 : q 0 12 = false) (h3 : q 2 1 = false) (h4 : q 2 0 = false) : RdOK τ' sz d S :=
  ⟨a.z, by rw [h.1 10 h1]; exact a.s, a.d4, by rw [h.1 12 h2]; exact a.dd, by rw [h.2.2.1 1 h3, h.2.2.1 0 h4]; exact a.w⟩
theorem dz4 (d : Nat) (h : d ≤ 4) : (Int32.ofNat d = 0) ↔ d = 0 := by
  have : d = 0 ∨ d = 1 ∨ d = 2 ∨ d = 3 ∨ d = 4 := by omega
  rcases this with rfl | rfl | rfl | rfl | rfl <;> decide
theorem e_isThere {τ : Sg} {sz d : Nat} {S : Nat → Int32} (a : RdOK τ sz d S) (x : Nat) (hx : x < 1000000) : F_Cmd_isThere τ (Int32.ofNat x) = some (bI (decide (x < Li sz d))) := by
  have hz := a.z
  unfold F_Cmd_isThere F_Cmd_isThere_18 F_Cmd_isThere_26
  rw [a.dd, a.s]
  unfold Li
  by_cases c : d = 0
  · rw [if_pos ((dz4 d a.d4).mpr c), if_pos c]
    by_cases e : x < sz
    · rw [if_neg (fun h => absurd ((n_le sz x (by omega) (by omega)).mp h) (by omega)), decide_eq_true e]; rfl
    · rw [if_pos ((n_le sz x (by omega) (by omega)).mpr (by omega)), decide_eq_false e]; rfl
  · rw [if_neg (fun h => c ((dz4 d a.d4).mp h)), if_neg c]
    by_cases e : x < 4096
    · rw [if_neg (fun h : (4096 : Int32) ≤ Int32.ofNat x => absurd ((n_le 4096 x (by omega) (by omega)).mp h) (by omega)), decide_eq_true e]; rfl
    · rw [if_pos (show (4096 : Int32) ≤ Int32.ofNat x from (n_le 4096 x (by omega) (by omega)).mpr (by omega)), decide_eq_false e]; rfl
theorem e_cread {τ : Sg} {sz d : Nat} {S : Nat → Int32} (a : RdOK τ sz d S) (x : Nat) (hx : x < Li sz d) : F_Cmd_read τ (Int32.ofNat x) = some (S x) := by
  have hz := Li_le sz d a.z
  have w := a.w x hx
  unfold F_Cmd_read F_Cmd_read_22
  rw [a.dd, ck_pos (n_inb x 4096 (by omega) (by omega)), ck_pos (n_inb x 4096 (by omega) (by omega)), n_nat x (by omega)]
  by_cases c : d = 0
  · rw [if_pos ((dz4 d a.d4).mpr c)]; rw [if_pos c] at w; rw [w]
  · rw [if_neg (fun h => c ((dz4 d a.d4).mp h))]; rw [if_neg c] at w; rw [w]
theorem t_count : ∀ K, K < 26 → F_Cmd_count (Int32.ofNat K) = some (Int32.ofNat (na K)) := by decide +kernel
/-- more words of a STORE -/
def mor (K : Nat) (v : Int32) : Nat := if K = 21 then (if v < 0 then 0 else if v ≤ 256 then v.toNatClampNeg else 256) else 0
theorem mor_le (K : Nat) (v : Int32) : mor K v ≤ 256 := by
  unfold mor
  split
  · split
    · omega
    · split
      · have h := Int32.le_iff_toInt_le.mp ‹v ≤ 256›
        have z : (256 : Int32).toInt = 256 := rfl
        have : v.toNatClampNeg = v.toInt.toNat := rfl
        omega
      · omega
  · omega
theorem n_of (v : Int32) (h : ¬ v < 0) : Int32.ofNat v.toNatClampNeg = v := by
  have h0 : ¬ v.toInt < 0 := fun e => h (Int32.lt_iff_toInt_lt.mpr e)
  have hr := i_rng v
  apply Int32.toInt_inj.mp
  have : v.toNatClampNeg = v.toInt.toNat := rfl
  rw [n_int _ (by omega)]
  omega
theorem e_length {τ : Sg} {sz d : Nat} {S : Nat → Int32} (a : RdOK τ sz d S) (K p : Nat) (hK : K < 26) (hp : p ≤ 4096) (hat : τ.1 11 = Int32.ofNat p) (hl : p + na K < Li sz d) : F_Cmd_length τ (Int32.ofNat K) = some (Int32.ofNat (na K + mor K (S (p + 2)))) := by
  unfold F_Cmd_length F_Cmd_length_54 F_Cmd_length_55
  rw [t_count K hK, hat, bd_def, show (Int32.ofNat p + 2 : Int32) = Int32.ofNat (p + 2) from n_add p 2, e_isThere a (p + 2) (by omega)]
  by_cases c : K = 21
  · subst c
    rw [if_pos (show Int32.ofNat 21 = 21 from rfl), bd_def, decide_eq_true (show p + 2 < Li sz d from hl), if_neg (show ¬ bI true = 0 by decide), e_cread a (p + 2) hl, bd_def]
    unfold mor
    rw [if_pos rfl]
    by_cases c1 : S (p + 2) < 0
    · rw [if_neg (fun e : (0 : Int32) ≤ S (p + 2) => absurd c1 (Int32.not_lt.mpr e)), if_pos c1]; rfl
    · rw [if_pos (Int32.not_lt.mp c1), if_neg c1]
      by_cases c2 : S (p + 2) ≤ 256
      · rw [if_pos c2, if_pos c2]
        show some (Int32.ofNat 2 + S (p + 2)) = _
        rw [← n_add, n_of _ c1]; rfl
      · rw [if_neg c2, if_neg c2]; rfl
  · rw [if_neg (fun e : Int32.ofNat K = 21 => c ((n_inj K 21 (by omega) (by omega)).mp e))]
    unfold mor
    rw [if_neg c]
    show some (Int32.ofNat (na K) + 0) = _
    rw [Int32.add_zero, Nat.add_zero]
