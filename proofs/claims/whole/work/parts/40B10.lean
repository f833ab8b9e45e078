/-! the values of a command, on both sides -/
def okv (K j : Nat) (v : Int32) : Prop := j < na K → vlo K j ≤ v.toInt ∧ v.toInt ≤ vhi K j
def qLk : Nat → Nat → Bool := fun c k => (c == 0 && k == 19) || (c == 2 && k == 3)
theorem bI_e0 (b : Bool) : (bI b = 0) ↔ b = false := by cases b <;> decide
theorem e_valC (σ : Sg) (K : Nat) (hK : K < 26) (hk : σ.1 3 = Int32.ofNat K) : ∃ b : Bool, F_Cou_valuesMayBe σ = some (bI b) ∧ (b = true ↔ ∀ j, j < na K → okv K j (σ.2.2.1 5 j)) := by
  obtain ⟨t1, t2, t3, t4⟩ := t_args K hK
  have lp : ∀ (d k f : Nat), k + d = na K → d < f → ∃ b : Bool, L_Cou_valuesMayBe_11 f σ (Int32.ofNat (baL.getD K 0)) (Int32.ofNat k) = some (bI b) ∧ (b = true ↔ ∀ j, k ≤ j → j < na K → okv K j (σ.2.2.1 5 j)) := by
    intro d
    induction d with
    | zero =>
      intro k f hd hf
      refine ⟨true, ?_, fun _ j h1 h2 => by omega, fun _ => rfl⟩
      rw [show f = (f - 1) + 1 by omega, L_Cou_valuesMayBe_11, hk, ck_pos (n_inb K 26 hK (by omega)), n_nat K (by omega), t1, if_pos ((n_le _ _ (by omega) (by omega)).mpr (by omega))]; rfl
    | succ d ih =>
      intro k f hd hf
      obtain ⟨b, ib, ic⟩ := ih (k + 1) (f - 1) (by omega) (by omega)
      obtain ⟨u1, u2⟩ := t_lohi (baL.getD K 0 + k) (by omega)
      have g1 : (σ.2.2.1 5 k < tb_LEAST (baL.getD K 0 + k)) ↔ (σ.2.2.1 5 k).toInt < vlo K k := by rw [Int32.lt_iff_toInt_lt, u1]; rfl
      have g2 : (σ.2.2.1 5 k ≤ tb_MOST (baL.getD K 0 + k)) ↔ (σ.2.2.1 5 k).toInt ≤ vhi K k := by rw [Int32.le_iff_toInt_le, u2]; rfl
      have hh : ∀ P : Prop, (¬ okv K k (σ.2.2.1 5 k)) → ((false = true) ↔ ∀ j, k ≤ j → j < na K → okv K j (σ.2.2.1 5 j)) := fun _ h => ⟨fun e => (by cases e), fun e => absurd (e k (by omega) (by omega)) h⟩
      rw [show f = (f - 1) + 1 by omega, L_Cou_valuesMayBe_11, hk, ck_pos (n_inb K 26 hK (by omega)), n_nat K (by omega), t1, if_neg (fun e => absurd ((n_le _ _ (by omega) (by omega)).mp e) (by omega)), ck_pos (n_inb k 8 (by omega) (by omega)), n_add, ck_pos (n_inb _ 86 (by omega) (by omega)), n_nat k (by omega), n_nat _ (by omega)]
      by_cases c1 : (σ.2.2.1 5 k).toInt < vlo K k
      · rw [if_pos (g1.mpr c1)]
        exact ⟨false, rfl, hh True (fun e => by have := (e (by omega)).1; omega)⟩
      · rw [if_neg (fun e => c1 (g1.mp e)), ck_pos (n_inb k 8 (by omega) (by omega)), ck_pos (n_inb _ 86 (by omega) (by omega))]
        by_cases c2 : (σ.2.2.1 5 k).toInt ≤ vhi K k
        · rw [if_pos (g2.mpr c2), lt_def, n_succ]
          refine ⟨b, ib, ic.trans ⟨fun h j h1 h2 => ?_, fun h j h1 h2 => h j (by omega) h2⟩⟩
          by_cases e : j = k
          · subst e; exact fun _ => ⟨by omega, c2⟩
          · exact h j (by omega) h2
        · rw [if_neg (fun e => c2 (g2.mp e))]
          exact ⟨false, rfl, hh True (fun e => by have := (e (by omega)).2; omega)⟩
  obtain ⟨b, h1, h2⟩ := lp (na K) 0 100000 (by omega) (by omega)
  refine ⟨b, ?_, h2.trans ⟨fun h j hj => h j (by omega) hj, fun h j _ hj => h j hj⟩⟩
  unfold F_Cou_valuesMayBe
  rw [hk, ck_pos (n_inb K 26 hK (by omega)), n_nat K (by omega), t2, lt_def]
  exact h1
def lkE (σ : Sg) (K : Int32) (b : Bool) : Option (Sg × Int32) := if bI b = (0 : Int32) then (F_Cmd_look_211 σ 3) else (bd (F_Cmd_liesRight σ K) (fun o18 => if o18 = (0 : Int32) then (F_Cmd_look_211 σ 5) else (bd (F_Cmd_fitsState σ K) (fun o19 => if o19 = (0 : Int32) then (F_Cmd_look_211 σ 6) else (F_Cmd_look_211 σ 0)))))
theorem e_valM {τ : Sg} {sz d : Nat} {S : Nat → Int32} (a : RdOK τ sz d S) (K p m : Nat) (hK : K < 26) (hat : τ.1 11 = Int32.ofNat p) (hm : p + m < Li sz d) (hna : na K ≤ m) (h21 : K ≠ 21 → m = na K) (hm3 : m < 300) :
    ∃ τ' b, L_Cmd_look_111 100000 τ (Int32.ofNat K) (Int32.ofNat m) 1 0 = lkE (sI τ' 19 (Int32.ofNat m)) (Int32.ofNat K) b ∧ Fr qLk τ τ' ∧ (∀ j, j < m → τ'.2.2.1 3 j = S (p + 1 + j)) ∧ (b = true ↔ ∀ j, j < na K → okv K j (S (p + 1 + j))) := by
  have hl := Li_le sz d a.z
  have lp : ∀ (e k f : Nat) (υ : Sg) (b : Bool), k + e = m → e < f → Fr qLk τ υ → (∀ j, j < k → υ.2.2.1 3 j = S (p + 1 + j)) → (b = true ↔ ∀ j, j < k → okv K j (S (p + 1 + j))) →
      ∃ τ' b', L_Cmd_look_111 f υ (Int32.ofNat K) (Int32.ofNat m) (bI b) (Int32.ofNat k) = lkE (sI τ' 19 (Int32.ofNat m)) (Int32.ofNat K) b' ∧ Fr qLk τ τ' ∧ (∀ j, j < m → τ'.2.2.1 3 j = S (p + 1 + j)) ∧ (b' = true ↔ ∀ j, j < m → okv K j (S (p + 1 + j))) := by
    intro e
    induction e with
    | zero =>
      intro k f υ b he hf F h1 h2
      have : k = m := by omega
      subst this
      refine ⟨υ, b, ?_, F, h1, h2⟩
      rw [show f = (f - 1) + 1 by omega, L_Cmd_look_111, if_pos ((n_le _ _ (by omega) (by omega)).mpr (by omega)), lt_def]
      rfl
    | succ e ih =>
      intro k f υ b he hf F h1 h2
      have r := e_cread (a.tr F rfl rfl rfl rfl) (p + 1 + k) (by omega)
      have hat' : υ.1 11 = Int32.ofNat p := by rw [F.1 11 rfl]; exact hat
      have F' : Fr qLk τ (sA υ 3 (upd (υ.2.2.1 3) k (S (p + 1 + k)))) := fr_sA F 3 _ rfl
      have h1' : ∀ j, j < k + 1 → (sA υ 3 (upd (υ.2.2.1 3) k (S (p + 1 + k)))).2.2.1 3 j = S (p + 1 + j) := by
        intro j hj
        show upd (υ.2.2.1 3) k (S (p + 1 + k)) j = _
        by_cases c : j = k
        · subst c; rw [upd_eq]
        · rw [upd_ne _ _ _ _ c]; exact h1 j (by omega)
      rw [show f = (f - 1) + 1 by omega, L_Cmd_look_111, if_neg (fun e => absurd ((n_le _ _ (by omega) (by omega)).mp e) (by omega)), hat', n_succ, n_add, r, bd_def, ck_pos (n_inb k 300 (by omega) (by omega)), lt_def, n_nat k (by omega)]
      cases b with
      | false =>
        rw [if_pos (show bI false = 0 from rfl)]
        unfold F_Cmd_look_162 F_Cmd_look_163
        rw [lt_def, n_succ]
        refine ih (k + 1) (f - 1) _ false (by omega) (by omega) F' h1' ⟨fun e => (by cases e), fun h => h2.mpr (fun j hj => h j (by omega))⟩
      | true =>
        rw [if_neg (by decide), ck_pos (n_inb k 300 (by omega) (by omega))]
        have ev : (sA υ 3 (upd (υ.2.2.1 3) k (S (p + 1 + k)))).2.2.1 3 k = S (p + 1 + k) := h1' k (by omega)
        rw [ev]
        have q : ∃ b' : Bool, F_Cmd_may (Int32.ofNat K) (Int32.ofNat k) (S (p + 1 + k)) = some (bI b') ∧ (b' = true ↔ okv K k (S (p + 1 + k))) := by
          by_cases c : k < na K
          · refine ⟨_, e_may K k _ hK c, ?_⟩
            rw [decide_eq_true_iff]
            exact ⟨fun h _ => h, fun h => h c⟩
          · have c21 : K = 21 := Classical.byContradiction fun hn => by have := h21 hn; omega
            exact ⟨true, may_more K k _ (by omega) c21 (by omega), fun _ hk => absurd hk c, fun _ => rfl⟩
        obtain ⟨b', q1, q2⟩ := q
        rw [q1, bd_def]
        have e1 : ∀ b' : Bool, (if bI b' = (0 : Int32) then (F_Cmd_look_162 (L_Cmd_look_111 (f - 1)) (sA υ 3 (upd (υ.2.2.1 3) k (S (p + 1 + k)))) (Int32.ofNat K) (Int32.ofNat m) (Int32.ofNat k)) else (F_Cmd_look_163 (L_Cmd_look_111 (f - 1)) (sA υ 3 (upd (υ.2.2.1 3) k (S (p + 1 + k)))) (Int32.ofNat K) (Int32.ofNat m) (Int32.ofNat k) 1)) = L_Cmd_look_111 (f - 1) (sA υ 3 (upd (υ.2.2.1 3) k (S (p + 1 + k)))) (Int32.ofNat K) (Int32.ofNat m) (bI b') (Int32.ofNat (k + 1)) := by
          intro b'
          unfold F_Cmd_look_162 F_Cmd_look_163
          cases b'
          · rw [if_pos (show bI false = 0 from rfl), lt_def, n_succ]; rfl
          · rw [if_neg (by decide), lt_def, n_succ]; rfl
        rw [e1]
        refine ih (k + 1) (f - 1) _ b' (by omega) (by omega) F' h1' (q2.trans ⟨fun h j hj => ?_, fun h => h k (by omega)⟩)
        by_cases c : j = k
        · subst c; exact h
        · exact h2.mp rfl j (by omega)
  obtain ⟨τ', b, g1, g2, g3, g4⟩ := lp m 0 100000 τ true (by omega) (by omega) Fr.rfl (fun j hj => by omega) ⟨fun _ j hj => by omega, fun _ => rfl⟩
  refine ⟨τ', b, g1, g2, g3, g4.trans ⟨fun h j hj => h j (by omega), fun h j hj hj2 => h j hj2 hj2⟩⟩
