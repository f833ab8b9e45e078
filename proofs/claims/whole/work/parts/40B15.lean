/-! a command is refused, or it may be done: both sides -/
theorem rgN {v : Int32} {a b : Int} (h : rg v a b) (h0 : 0 ≤ a) : v = Int32.ofNat v.toNatClampNeg ∧ a ≤ (v.toNatClampNeg : Int) ∧ (v.toNatClampNeg : Int) ≤ b := by
  have h1 := h.1
  have h2 := h.2
  have : v.toNatClampNeg = v.toInt.toNat := rfl
  refine ⟨(n_of v (fun e => ?_)).symm, by omega, by omega⟩
  have := Int32.lt_iff_toInt_lt.mp e
  have z : (0 : Int32).toInt = 0 := rfl
  omega
def Lie (w h K : Nat) (n : Nat → Nat) : Prop :=
  (K = 6 → n 0 + n 1 ≤ 32 ∧ (4 * n 1 = 0 ∨ n 2 + 4 * n 1 ≤ 4096)) ∧ ((K = 7 ∨ K = 8) → n 0 + 3 * n 1 ≤ 4096) ∧ (K = 20 → n 0 + n 2 ≤ w ∧ n 1 + n 3 ≤ h ∧ n 4 + n 2 * n 3 ≤ 4096) ∧ (K = 21 → n 1 = 0 ∨ n 0 + n 1 ≤ 4096) ∧ (K = 23 → n 0 < 4096)
theorem e_lies (σ τ : Sg) (w h K : Nat) (hK : K < 26) (hw : w ≤ 128) (hh : h ≤ 128) (hk : σ.1 3 = Int32.ofNat K) (e0 : σ.1 0 = Int32.ofNat w) (e1 : σ.1 1 = Int32.ofNat h) (f0 : τ.1 8 = Int32.ofNat w) (f1 : τ.1 9 = Int32.ofNat h)
    (av : ∀ j, j < na K → rg (σ.2.2.1 5 j) (vlo K j) (vhi K j)) (ae : ∀ j, j < na K → τ.2.2.1 3 j = σ.2.2.1 5 j) :
    ∃ x : Bool, F_DM_placesAreThere σ = some (bI x) ∧ F_Cmd_liesRight τ (Int32.ofNat K) = some (bI x) ∧ (x = true → Lie w h K (fun j => (σ.2.2.1 5 j).toNatClampNeg)) := by
  by_cases c6 : K = 6
  · subst c6
    obtain ⟨x0, -, y0⟩ := rgN (av 0 (by decide)) (by decide)
    obtain ⟨x1, -, y1⟩ := rgN (av 1 (by decide)) (by decide)
    obtain ⟨x2, -, y2⟩ := rgN (av 2 (by decide)) (by decide)
    have y0' : _ ≤ (31 : Int) := y0
    have y1' : _ ≤ (32 : Int) := y1
    have y2' : _ ≤ (1048576 : Int) := y2
    obtain ⟨g1, g2⟩ := lies_6 σ τ _ _ _ (by omega) (by omega) (by omega) hk x0 x1 x2 (by rw [ae 0 (by decide)]; exact x0) (by rw [ae 1 (by decide)]; exact x1) (by rw [ae 2 (by decide)]; exact x2)
    refine ⟨_, g1, g2, fun e => ⟨fun _ => of_decide_eq_true e, fun e => by omega, fun e => by omega, fun e => by omega, fun e => by omega⟩⟩
  by_cases c7 : K = 7 ∨ K = 8
  · have q : na K = 2 ∧ vlo K 0 = 0 ∧ vhi K 0 = 1048576 ∧ vlo K 1 = 1 ∧ vhi K 1 = 256 := by rcases c7 with rfl | rfl <;> decide
    obtain ⟨q1, q2, q3, q4, q5⟩ := q
    obtain ⟨x0, -, y0⟩ := rgN (av 0 (by omega)) (by omega)
    obtain ⟨x1, z1, y1⟩ := rgN (av 1 (by omega)) (by omega)
    obtain ⟨g1, g2⟩ := lies_78 σ τ K _ _ c7 (by omega) (by omega) hk x0 x1 (by rw [ae 0 (by omega)]; exact x0) (by rw [ae 1 (by omega)]; exact x1)
    refine ⟨_, g1, g2, fun e => ⟨fun e => by omega, fun _ => ?_, fun e => by omega, fun e => by omega, fun e => by omega⟩⟩
    have := of_decide_eq_true e
    show (σ.2.2.1 5 0).toNatClampNeg + 3 * (σ.2.2.1 5 1).toNatClampNeg ≤ 4096
    omega
  by_cases c20 : K = 20
  · subst c20
    obtain ⟨x0, -, y0⟩ := rgN (av 0 (by decide)) (by decide)
    obtain ⟨x1, -, y1⟩ := rgN (av 1 (by decide)) (by decide)
    obtain ⟨x2, z2, y2⟩ := rgN (av 2 (by decide)) (by decide)
    obtain ⟨x3, z3, y3⟩ := rgN (av 3 (by decide)) (by decide)
    obtain ⟨x4, -, y4⟩ := rgN (av 4 (by decide)) (by decide)
    have y0' : _ ≤ (127 : Int) := y0
    have y1' : _ ≤ (127 : Int) := y1
    have y2' : _ ≤ (128 : Int) := y2
    have y3' : _ ≤ (128 : Int) := y3
    have y4' : _ ≤ (1048576 : Int) := y4
    have z2' : (1 : Int) ≤ _ := z2
    have z3' : (1 : Int) ≤ _ := z3
    obtain ⟨g1, g2⟩ := lies_20 σ τ w h _ _ _ _ _ hw hh (by omega) (by omega) (by omega) (by omega) (by omega) hk e0 e1 f0 f1 x0 x1 x2 x3 x4 (by rw [ae 0 (by decide)]; exact x0) (by rw [ae 1 (by decide)]; exact x1) (by rw [ae 2 (by decide)]; exact x2) (by rw [ae 3 (by decide)]; exact x3) (by rw [ae 4 (by decide)]; exact x4)
    refine ⟨_, g1, g2, fun e => ⟨fun e => by omega, fun e => by omega, fun _ => ?_, fun e => by omega, fun e => by omega⟩⟩
    have q := of_decide_eq_true e
    refine ⟨q.1, q.2.1, ?_⟩
    rcases q.2.2 with q | q
    · rcases Nat.mul_eq_zero.mp q with q | q <;> omega
    · exact q
  by_cases c21 : K = 21
  · subst c21
    obtain ⟨x0, -, y0⟩ := rgN (av 0 (by decide)) (by decide)
    obtain ⟨x1, -, y1⟩ := rgN (av 1 (by decide)) (by decide)
    have y0' : _ ≤ (1048576 : Int) := y0
    have y1' : _ ≤ (256 : Int) := y1
    obtain ⟨g1, g2⟩ := lies_21 σ τ _ _ (by omega) (by omega) hk x0 x1 (by rw [ae 0 (by decide)]; exact x0) (by rw [ae 1 (by decide)]; exact x1)
    refine ⟨_, g1, g2, fun e => ⟨fun e => by omega, fun e => by omega, fun e => by omega, fun _ => of_decide_eq_true e, fun e => by omega⟩⟩
  by_cases c23 : K = 23
  · subst c23
    obtain ⟨x0, -, y0⟩ := rgN (av 0 (by decide)) (by decide)
    have y0' : _ ≤ (1048576 : Int) := y0
    obtain ⟨g1, g2⟩ := lies_23 σ τ _ (by omega) hk x0 (by rw [ae 0 (by decide)]; exact x0)
    refine ⟨_, g1, g2, fun e => ⟨fun e => by omega, fun e => by omega, fun e => by omega, fun e => by omega, fun _ => of_decide_eq_true e⟩⟩
  obtain ⟨g1, g2⟩ := lies_no σ τ K hK ⟨c6, fun e => c7 (Or.inl e), fun e => c7 (Or.inr e), c20, c21, c23⟩ hk
  exact ⟨true, g1, g2, fun _ => ⟨fun e => absurd e c6, fun e => absurd e c7, fun e => absurd e c20, fun e => absurd e c21, fun e => absurd e c23⟩⟩
/-- what both sides know of the command that they are to do -/
def Cmd0 (σ τ : Sg) (S : Nat → Int32) (w h sz p d K M : Nat) : Prop := (CmdAt σ S (Li sz d) p K M) ∧ (τ.1 19 = Int32.ofNat M) ∧ (∀ j, j < M → τ.2.2.1 3 j = S (p + 1 + j)) ∧ (Lie w h K (fun j => (σ.2.2.1 5 j).toNatClampNeg)) ∧ ((K = 17 ∨ K = 18) → Ldd σ τ 0 (σ.2.2.2.2 2) 5 ∧ Ldd σ τ 1 (σ.2.2.2.2 3) 6) ∧ (K = 23 → d < 4)
theorem Cmd0.at_ {σ τ : Sg} {S : Nat → Int32} {w h sz p d K M : Nat} (a_ : Cmd0 σ τ S w h sz p d K M) : CmdAt σ S (Li sz d) p K M := a_.1
theorem Cmd0.m19 {σ τ : Sg} {S : Nat → Int32} {w h sz p d K M : Nat} (a_ : Cmd0 σ τ S w h sz p d K M) : τ.1 19 = Int32.ofNat M := a_.2.1
theorem Cmd0.arg {σ τ : Sg} {S : Nat → Int32} {w h sz p d K M : Nat} (a_ : Cmd0 σ τ S w h sz p d K M) : ∀ j, j < M → τ.2.2.1 3 j = S (p + 1 + j) := a_.2.2.1
theorem Cmd0.lie {σ τ : Sg} {S : Nat → Int32} {w h sz p d K M : Nat} (a_ : Cmd0 σ τ S w h sz p d K M) : Lie w h K (fun j => (σ.2.2.1 5 j).toNatClampNeg) := a_.2.2.2.1
theorem Cmd0.ldd {σ τ : Sg} {S : Nat → Int32} {w h sz p d K M : Nat} (a_ : Cmd0 σ τ S w h sz p d K M) : (K = 17 ∨ K = 18) → Ldd σ τ 0 (σ.2.2.2.2 2) 5 ∧ Ldd σ τ 1 (σ.2.2.2.2 3) 6 := a_.2.2.2.2.1
theorem Cmd0.deep {σ τ : Sg} {S : Nat → Int32} {w h sz p d K M : Nat} (a_ : Cmd0 σ τ S w h sz p d K M) : K = 23 → d < 4 := a_.2.2.2.2.2
theorem allv_rg {σ : Sg} {S : Nat → Int32} {L p K M : Nat} (h : CmdAt σ S L p K M) : ∀ j, j < na K → rg (σ.2.2.1 5 j) (vlo K j) (vhi K j) := by
  intro j hj
  obtain ⟨-, -, -, -, -, h1, -, -, h2⟩ := h
  rw [h2 j hj]; exact h1 j hj hj
theorem ref_eq (σ : Sg) (σ' : Sg) (hf : F_Cou_fetch σ = some (σ', 0)) (x y : Bool) (h1 : F_DM_placesAreThere σ' = some (bI x)) (h2 : F_DM_stateAllows σ' = some (bI y)) : F_DM_refusal σ = some (σ', if x then (if y then 0 else 6) else 5) := by
  unfold F_DM_refusal F_DM_refusal_21 F_DM_refusal_35
  rw [hf, bd_def, if_pos rfl, h1, bd_def]
  cases x
  · rfl
  · rw [if_neg (show ¬ bI true = 0 by decide), if_pos rfl, h2, bd_def]
    cases y <;> rfl
theorem lk_eq (τ : Sg) (K : Int32) (x y : Bool) (h1 : F_Cmd_liesRight τ K = some (bI x)) (h2 : F_Cmd_fitsState τ K = some (bI y)) : lkE τ K true = some (τ, if x then (if y then 0 else 6) else 5) := by
  unfold lkE F_Cmd_look_211
  rw [if_neg (show ¬ bI true = 0 by decide), h1, bd_def]
  cases x
  · rfl
  · rw [if_neg (show ¬ bI true = 0 by decide), h2, bd_def]
    cases y <;> rfl
theorem cP_Fe : cP pFe = true := by decide
theorem cQ_Lk : cQ qLk = true := by decide
theorem e_refusal (σ τ : Sg) (w h sz p d : Nat) (b : Bas σ τ w h) (c : Cur σ τ sz p d) (hz : sz ≤ 4096) (hn : sz ≤ σ.2.2.2.2 1) (hn4 : σ.2.2.2.2 1 ≤ 4096) (hs : σ.1 2 = Int32.ofNat sz) (rd : RdOK τ sz d (Sr σ d)) (hdn : τ.1 17 = σ.1 5) (hdr : rg (σ.1 5) 0 2000) :
    ∃ σ' r, F_DM_refusal σ = some (σ', r) ∧ Fr pFe σ σ' ∧ σ'.1 7 = Int32.ofNat p ∧ σ'.1 8 = Int32.ofNat d ∧
    (((r = 1 ∨ r = 2 ∨ r = 3 ∨ r = 5 ∨ r = 6 ∨ r = 7) ∧ ∃ τ', F_Cmd_look τ = some (τ', r) ∧ Fr qLk τ τ') ∨
    (r = 0 ∧ (Li sz d = p ∧ d = 0 ∧ σ'.1 3 = 0 ∧ σ'.1 11 = 0 ∧ σ.1 5 < 2000) ∧ F_Cmd_look τ = some (sI τ 19 0, 0)) ∨
    (r = 0 ∧ σ.1 5 < 2000 ∧ ∃ K M τ', F_Cmd_look τ = some (τ', 0) ∧ Fr qLk τ τ' ∧ Cmd0 σ' τ' (Sr σ d) w h sz p d K M)) := by
  obtain ⟨σ', r, hf, F, i7, i8, hS⟩ := e_fetchC σ sz p d hz hn hn4 hs c.p1 c.d1 c.d4 c.pz
  rw [← hdn] at hS hdr
  rcases e_lookM rd p c.p2 c.pz hdr σ' r hS with ⟨h1, τ', h2, h3⟩ | ⟨h1, h2, h3⟩ | ⟨h1, h7, K, M, hc, τ', h2, h3, h4, h5⟩
  · refine ⟨σ', r, ?_, F, i7, i8, Or.inl ⟨?_, τ', h2, h3⟩⟩
    · unfold F_DM_refusal F_DM_refusal_21 F_DM_refusal_35
      have : ¬ r = 0 := by rcases h1 with h | h | h | h <;> rw [h] <;> decide
      rw [hf, bd_def, if_neg this, if_neg this]
    · rcases h1 with h | h | h | h
      · exact Or.inl h
      · exact Or.inr (Or.inl h)
      · exact Or.inr (Or.inr (Or.inl h))
      · exact Or.inr (Or.inr (Or.inr (Or.inr (Or.inr h))))
  · subst h1
    rw [hdn] at h2
    refine ⟨σ', 0, ?_, F, i7, i8, Or.inr (Or.inl ⟨rfl, h2, h3⟩)⟩
    have e1 : F_DM_placesAreThere σ' = some (bI true) := by unfold F_DM_placesAreThere; rw [h2.2.2.1]; rfl
    have e2 : F_DM_stateAllows σ' = some (bI true) := by unfold F_DM_stateAllows; rw [h2.2.2.1]; rfl
    exact ref_eq σ σ' hf true true e1 e2
  · subst h1
    rw [hdn] at h7
    have b' : Bas σ' τ' w h := b.same F h3 cP_Fe cQ_Lk
    obtain ⟨k1, k2, k3, k4, k5, k6, k8, k9, k10⟩ := id hc
    have ae : ∀ j, j < na K → τ'.2.2.1 3 j = σ'.2.2.1 5 j := fun j hj => by rw [h5 j (by omega), k10 j hj]
    obtain ⟨x, x1, x2, x3⟩ := e_lies σ' τ' w h K k2 b.pic.w1.2 b.pic.h1.2 k8 b'.pic.cw b'.pic.ch b'.cw b'.ch (allv_rg hc) ae
    obtain ⟨y, y1, y2, y3⟩ := e_fits σ' τ' w h K d b' k2 k8 (by rw [F.1 4 rfl]; exact c.d1) (by rw [h3.1 12 rfl]; exact c.d2) c.d4 (fun e => by subst e; exact ⟨ae 0 (by decide), ae 1 (by decide)⟩)
    have g1 := ref_eq σ σ' hf x y x1 y1
    have g2 := lk_eq τ' _ x y x2 y2
    rw [← h2] at g2
    cases x
    · exact ⟨σ', 5, g1, F, i7, i8, Or.inl ⟨Or.inr (Or.inr (Or.inr (Or.inl rfl))), τ', g2, h3⟩⟩
    · cases y
      · exact ⟨σ', 6, g1, F, i7, i8, Or.inl ⟨Or.inr (Or.inr (Or.inr (Or.inr (Or.inl rfl)))), τ', g2, h3⟩⟩
      · exact ⟨σ', 0, g1, F, i7, i8, Or.inr (Or.inr ⟨rfl, h7, K, M, τ', g2, h3, hc, h4, h5, x3 rfl, (y3 rfl).1, (y3 rfl).2⟩)⟩
