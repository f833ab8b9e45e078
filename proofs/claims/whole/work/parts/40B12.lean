/-! the next command is looked at: the reference -/
def CmdAt (σ' : Sg) (S : Nat → Int32) (L p K M : Nat) : Prop := p < L ∧ K < 26 ∧ S p = Int32.ofNat K ∧ p + M < L ∧ M = na K + mor K (S (p + 2)) ∧ allv S K p ∧ σ'.1 3 = Int32.ofNat K ∧ σ'.1 11 = Int32.ofNat (1 + M) ∧ ∀ j, j < na K → σ'.2.2.1 5 j = S (p + 1 + j)
theorem e_length0 {τ : Sg} {sz d : Nat} {S : Nat → Int32} (a : RdOK τ sz d S) (K p : Nat) (hK : K < 26) (hp : p ≤ 4096) (hat : τ.1 11 = Int32.ofNat p) (hl : Li sz d ≤ p + na K) : F_Cmd_length τ (Int32.ofNat K) = some (Int32.ofNat (na K)) := by
  unfold F_Cmd_length F_Cmd_length_54 F_Cmd_length_55
  rw [t_count K hK, hat, bd_def, show (Int32.ofNat p + 2 : Int32) = Int32.ofNat (p + 2) from n_add p 2, e_isThere a (p + 2) (by omega)]
  by_cases c : K = 21
  · subst c
    rw [if_pos (show Int32.ofNat 21 = 21 from rfl), bd_def, decide_eq_false (show ¬ p + 2 < Li sz d from by have : na 21 = 2 := rfl; omega), if_pos (show bI false = 0 from rfl)]; rfl
  · rw [if_neg (fun e : Int32.ofNat K = 21 => c ((n_inj K 21 (by omega) (by omega)).mp e)), Int32.add_zero]
theorem e_lookM {τ : Sg} {sz d : Nat} {S : Nat → Int32} (a : RdOK τ sz d S) (p : Nat) (hat : τ.1 11 = Int32.ofNat p) (hpz : p ≤ Li sz d) (hdn : rg (τ.1 17) 0 2000) (σ' : Sg) (r : Int32) (h : FeS σ' S (Li sz d) p d (τ.1 17) r) :
    ((r = 1 ∨ r = 2 ∨ r = 3 ∨ r = 7) ∧ ∃ τ', F_Cmd_look τ = some (τ', r) ∧ Fr qLk τ τ') ∨
    (r = 0 ∧ (Li sz d = p ∧ d = 0 ∧ σ'.1 3 = 0 ∧ σ'.1 11 = 0 ∧ τ.1 17 < 2000) ∧ F_Cmd_look τ = some (sI τ 19 0, 0)) ∨
    (r = 0 ∧ τ.1 17 < 2000 ∧ ∃ K M, CmdAt σ' S (Li sz d) p K M ∧ ∃ τ', F_Cmd_look τ = lkE τ' (Int32.ofNat K) true ∧ Fr qLk τ τ' ∧ τ'.1 19 = Int32.ofNat M ∧ ∀ j, j < M → τ'.2.2.1 3 j = S (p + 1 + j)) := by
  have hz := a.z
  have hl := Li_le sz d hz
  -- the first question
  have q1 : F_Cmd_look τ = F_Cmd_look_23 τ (bI (decide (d = 0 ∧ p = sz))) := by
    unfold F_Cmd_look F_Cmd_look_22
    rw [a.dd, hat, a.s]
    by_cases c : d = 0
    · rw [if_pos ((dz4 d a.d4).mpr c)]
      by_cases e : p = sz
      · rw [if_pos (by rw [e]), decide_eq_true ⟨c, e⟩]; rfl
      · rw [if_neg (fun h => e ((n_inj p sz (by omega) (by omega)).mp h)), decide_eq_false (fun h => e h.2)]; rfl
    · rw [if_neg (fun e => c ((dz4 d a.d4).mp e)), decide_eq_false (fun h => c h.1)]; rfl
  rw [q1]
  unfold F_Cmd_look_23
  have z0 : (2000 : Int32).toInt = 2000 := rfl
  rcases h with ⟨h1, h2⟩ | h
  · refine Or.inl ⟨Or.inr (Or.inr (Or.inr h2)), τ, ?_, Fr.rfl⟩
    have : τ.1 17 = 2000 := Int32.toInt_inj.mp (by have h3 := hdn.2; have h4 : ¬ (τ.1 17).toInt < 2000 := fun e => h1 (Int32.lt_iff_toInt_lt.mpr (by rw [z0]; exact e)); rw [z0]; omega)
    rw [if_pos this, h2]
  have h7 : τ.1 17 < 2000 := by rcases h with h | h | h | h <;> exact h.1
  have n7 : ¬ τ.1 17 = 2000 := fun e => by rw [e] at h7; exact absurd h7 (by decide)
  rw [if_neg n7]
  rcases h with ⟨-, h2, h3, h4, h5, h6⟩ | h
  · have hp : p = sz := by unfold Li at h2 hpz; rw [if_pos h3] at h2 hpz; omega
    refine Or.inr (Or.inl ⟨h4, ⟨by omega, h3, h5, h6, h7⟩, ?_⟩)
    rw [decide_eq_true ⟨h3, hp⟩, if_neg (show ¬ bI true = 0 by decide), lt_def]
  rcases h with ⟨-, h2, h3, h4⟩ | h
  · refine Or.inl ⟨Or.inl h4, τ, ?_, Fr.rfl⟩
    rw [decide_eq_false (fun e => h3 e.1), if_pos (show bI false = 0 from rfl), hat, e_isThere a p (by omega), bd_def, decide_eq_false (by omega), if_pos (show bI false = 0 from rfl), h4]
  have hp : p < Li sz d := by rcases h with h | h <;> exact h.2.1
  have ne : ¬ (d = 0 ∧ p = sz) := fun e => by have h1 := e.1; have h2 := e.2; unfold Li at hp; rw [if_pos h1] at hp; omega
  rw [decide_eq_false ne, if_pos (show bI false = 0 from rfl), hat, e_isThere a p (by omega), bd_def, decide_eq_true hp, if_neg (show ¬ bI true = 0 by decide), e_cread a p hp, bd_def, show F_Cmd_in (S p).toInt64 0 25 = some (bI (decide ((0 : Int) ≤ (S p).toInt ∧ (S p).toInt ≤ 25))) from e_cin (S p) 0 25 (by omega) (by omega), bd_def]
  rcases h with ⟨-, -, h3, h4⟩ | ⟨-, -, K, hK, hS, h⟩
  · refine Or.inl ⟨Or.inr (Or.inl h4), τ, ?_, Fr.rfl⟩
    rw [decide_eq_false h3, if_pos (show bI false = 0 from rfl), h4]
  rw [decide_eq_true (show 0 ≤ (S p).toInt ∧ (S p).toInt ≤ 25 by rw [hS, n_int K (by omega)]; omega), if_neg (show ¬ bI true = 0 by decide), hS]
  have h8 := (t_args K hK).2.2.1
  rcases h with ⟨h2, h4⟩ | h
  · refine Or.inl ⟨Or.inl h4, τ, ?_, Fr.rfl⟩
    rw [e_length0 a K p hK (by omega) hat h2, bd_def, n_add, e_isThere a _ (by omega), bd_def, decide_eq_false (by omega), if_pos (show bI false = 0 from rfl), h4]
  have hpn : p + na K < Li sz d := by rcases h with h | h | h <;> omega
  have hM := mor_le K (S (p + 2))
  rw [e_length a K p hK (by omega) hat hpn, bd_def, n_add]
  rcases h with ⟨-, h2, h4⟩ | h
  · refine Or.inl ⟨Or.inl h4, τ, ?_, Fr.rfl⟩
    rw [e_isThere a _ (by omega), bd_def, decide_eq_false (by omega), if_pos (show bI false = 0 from rfl), h4]
  have hpm : p + (na K + mor K (S (p + 2))) < Li sz d := by rcases h with h | h <;> exact h.1
  rw [e_isThere a _ (by omega), bd_def, decide_eq_true hpm, if_neg (show ¬ bI true = 0 by decide)]
  obtain ⟨τ', b, g1, g2, g3, g4⟩ := e_valM a K p (na K + mor K (S (p + 2))) hK hat hpm (by omega) (fun e => by rw [show mor K (S (p + 2)) = 0 from if_neg e]; rfl) (by omega)
  have F : Fr qLk τ (sI τ' 19 (Int32.ofNat (na K + mor K (S (p + 2))))) := fr_sI g2 19 _ rfl
  rw [g1]
  rcases h with ⟨-, h3, h4⟩ | ⟨-, h3, h4, h5, h6, h9⟩
  · refine Or.inl ⟨Or.inr (Or.inr (Or.inl h4)), _, ?_, F⟩
    cases b with
    | true => exact absurd (g4.mp rfl) h3
    | false => rw [h4]; rfl
  · cases b with
    | false => exact Bool.noConfusion (g4.mpr h3)
    | true => exact Or.inr (Or.inr ⟨h4, h7, K, na K + mor K (S (p + 2)), ⟨hp, hK, hS, hpm, rfl, h3, h5, h6, h9⟩, _, rfl, F, rfl, g3⟩)
