/-! what both sides hold between commands -/
def PrR (σ τ : Sg) (p pid row st : Nat) : Prop := (σ.1 (22 + 3 * pid) = 0 ∧ τ.2.2.1 4 row = -1) ∨ (0 ≤ (τ.2.2.1 4 row).toInt ∧ ∃ ω N, Loaded ω N (rdb (σ.1 (24 + 3 * pid))) pid p σ τ ∧ σ.1 (23 + 3 * pid) = τ.1 st)
def Bas (σ τ : Sg) (w h : Nat) : Prop := (PicR σ τ w h) ∧ (τ.2.2.1 0 = σ.2.2.1 0) ∧ (KOK (σ.2.2.1 1)) ∧ (KepR (σ.2.2.1 1) τ) ∧ (τ.1 1 = Int32.ofNat w) ∧ (τ.1 2 = Int32.ofNat h) ∧ (τ.1 8 = Int32.ofNat w) ∧ (τ.1 9 = Int32.ofNat h) ∧ (τ.1 18 = σ.1 15) ∧ (rg (σ.1 15) (-1) 7) ∧ (∀ j, j < 4 → σ.2.2.1 10 (224 + j) = 0) ∧ (∀ j, j < 9 → τ.2.2.1 56 j = σ.2.2.1 29 j) ∧ (∀ j, j < 8 → τ.2.2.1 55 j = σ.2.2.1 30 j) ∧ (σ.2.2.2.2 5 < 2 ∧ σ.2.2.2.2 6 < 2 ∧ σ.2.2.2.2 5 ≠ σ.2.2.2.2 6) ∧ ((σ.2.2.2.2 2 < 3 ∧ σ.2.2.2.2 3 < 3 ∧ σ.2.2.2.2 4 < 3) ∧ σ.2.2.2.2 2 ≠ σ.2.2.2.2 3 ∧ σ.2.2.2.2 2 ≠ σ.2.2.2.2 4 ∧ σ.2.2.2.2 3 ≠ σ.2.2.2.2 4) ∧ (PrR σ τ 0 (σ.2.2.2.2 2) 1120 5) ∧ (PrR σ τ 1 (σ.2.2.2.2 3) 1280 6) ∧ (τ.1 3 = σ.1 12) ∧ (τ.1 4 = σ.1 13) ∧ (τ.2.1 0 = σ.2.1 0)
theorem Bas.pic {σ τ : Sg} {w h : Nat} (a_ : Bas σ τ w h) : PicR σ τ w h := a_.1
theorem Bas.mem {σ τ : Sg} {w h : Nat} (a_ : Bas σ τ w h) : τ.2.2.1 0 = σ.2.2.1 0 := a_.2.1
theorem Bas.kok {σ τ : Sg} {w h : Nat} (a_ : Bas σ τ w h) : KOK (σ.2.2.1 1) := a_.2.2.1
theorem Bas.kep {σ τ : Sg} {w h : Nat} (a_ : Bas σ τ w h) : KepR (σ.2.2.1 1) τ := a_.2.2.2.1
theorem Bas.mw {σ τ : Sg} {w h : Nat} (a_ : Bas σ τ w h) : τ.1 1 = Int32.ofNat w := a_.2.2.2.2.1
theorem Bas.mh {σ τ : Sg} {w h : Nat} (a_ : Bas σ τ w h) : τ.1 2 = Int32.ofNat h := a_.2.2.2.2.2.1
theorem Bas.cw {σ τ : Sg} {w h : Nat} (a_ : Bas σ τ w h) : τ.1 8 = Int32.ofNat w := a_.2.2.2.2.2.2.1
theorem Bas.ch {σ τ : Sg} {w h : Nat} (a_ : Bas σ τ w h) : τ.1 9 = Int32.ofNat h := a_.2.2.2.2.2.2.2.1
theorem Bas.oq {σ τ : Sg} {w h : Nat} (a_ : Bas σ τ w h) : τ.1 18 = σ.1 15 := a_.2.2.2.2.2.2.2.2.1
theorem Bas.oqr {σ τ : Sg} {w h : Nat} (a_ : Bas σ τ w h) : rg (σ.1 15) (-1) 7 := a_.2.2.2.2.2.2.2.2.2.1
theorem Bas.zer {σ τ : Sg} {w h : Nat} (a_ : Bas σ τ w h) : ∀ j, j < 4 → σ.2.2.1 10 (224 + j) = 0 := a_.2.2.2.2.2.2.2.2.2.2.1
theorem Bas.cnt {σ τ : Sg} {w h : Nat} (a_ : Bas σ τ w h) : ∀ j, j < 9 → τ.2.2.1 56 j = σ.2.2.1 29 j := a_.2.2.2.2.2.2.2.2.2.2.2.1
theorem Bas.qry {σ τ : Sg} {w h : Nat} (a_ : Bas σ τ w h) : ∀ j, j < 8 → τ.2.2.1 55 j = σ.2.2.1 30 j := a_.2.2.2.2.2.2.2.2.2.2.2.2.1
theorem Bas.n56 {σ τ : Sg} {w h : Nat} (a_ : Bas σ τ w h) : σ.2.2.2.2 5 < 2 ∧ σ.2.2.2.2 6 < 2 ∧ σ.2.2.2.2 5 ≠ σ.2.2.2.2 6 := a_.2.2.2.2.2.2.2.2.2.2.2.2.2.1
theorem Bas.ids {σ τ : Sg} {w h : Nat} (a_ : Bas σ τ w h) : (σ.2.2.2.2 2 < 3 ∧ σ.2.2.2.2 3 < 3 ∧ σ.2.2.2.2 4 < 3) ∧ σ.2.2.2.2 2 ≠ σ.2.2.2.2 3 ∧ σ.2.2.2.2 2 ≠ σ.2.2.2.2 4 ∧ σ.2.2.2.2 3 ≠ σ.2.2.2.2 4 := a_.2.2.2.2.2.2.2.2.2.2.2.2.2.2.1
theorem Bas.pr1 {σ τ : Sg} {w h : Nat} (a_ : Bas σ τ w h) : PrR σ τ 0 (σ.2.2.2.2 2) 1120 5 := a_.2.2.2.2.2.2.2.2.2.2.2.2.2.2.2.1
theorem Bas.pr2 {σ τ : Sg} {w h : Nat} (a_ : Bas σ τ w h) : PrR σ τ 1 (σ.2.2.2.2 3) 1280 6 := a_.2.2.2.2.2.2.2.2.2.2.2.2.2.2.2.2.1
theorem Bas.fau {σ τ : Sg} {w h : Nat} (a_ : Bas σ τ w h) : τ.1 3 = σ.1 12 := a_.2.2.2.2.2.2.2.2.2.2.2.2.2.2.2.2.2.1
theorem Bas.fap {σ τ : Sg} {w h : Nat} (a_ : Bas σ τ w h) : τ.1 4 = σ.1 13 := a_.2.2.2.2.2.2.2.2.2.2.2.2.2.2.2.2.2.2.1
theorem Bas.wrk {σ τ : Sg} {w h : Nat} (a_ : Bas σ τ w h) : τ.2.1 0 = σ.2.1 0 := a_.2.2.2.2.2.2.2.2.2.2.2.2.2.2.2.2.2.2.2
theorem PrR.tr {σ σ' τ τ' : Sg} {p pid row st : Nat} (a : PrR σ τ p pid row st) (h1 : σ'.1 (22 + 3 * pid) = σ.1 (22 + 3 * pid)) (h2 : σ'.1 (24 + 3 * pid) = σ.1 (24 + 3 * pid)) (h3 : σ'.2.2.1 (21 + pid) = σ.2.2.1 (21 + pid)) (h4 : σ'.1 (23 + 3 * pid) = σ.1 (23 + 3 * pid))
    (g1 : τ'.2.2.1 (14 + 10 * p) = τ.2.2.1 (14 + 10 * p)) (g2 : τ'.2.2.1 (23 + 10 * p) = τ.2.2.1 (23 + 10 * p)) (g3 : τ'.1 (41 + 6 * p) = τ.1 (41 + 6 * p)) (g4 : τ'.2.2.1 4 row = τ.2.2.1 4 row) (g5 : τ'.1 st = τ.1 st) : PrR σ' τ' p pid row st := by
  rcases a with ⟨a1, a2⟩ | ⟨a1, ω, N, a2, a3⟩
  · exact Or.inl ⟨by rw [h1]; exact a1, by rw [g4]; exact a2⟩
  · exact Or.inr ⟨by rw [g4]; exact a1, ω, N, a2.tr h1 h2 h3 g1 g2 g3, by rw [h4, g5]; exact a3⟩
def bP (p : Nat → Nat → Bool) : Bool := ([12, 13, 15, 22, 23, 24, 25, 26, 27, 28, 29, 30].all fun k => !p 0 k) && ([1, 21, 22, 23].all fun k => !p 2 k) && ([2, 3, 4].all fun k => !p 4 k)
def bQ (q : Nat → Nat → Bool) : Bool := ([1, 2, 3, 4, 5, 6, 8, 9, 18, 41, 47].all fun k => !q 0 k) && ([4, 14, 23, 24, 33].all fun k => !q 2 k)
theorem Bas.tr {p q : Nat → Nat → Bool} {σ σ' τ τ' : Sg} {w h : Nat} (a : Bas σ τ w h) (hs : Fr p σ σ') (ht : Fr q τ τ') (hp : bP p = true) (hq : bQ q = true) (pic : PicR σ' τ' w h) (mem : τ'.2.2.1 0 = σ'.2.2.1 0) (zer : ∀ j, j < 4 → σ'.2.2.1 10 (224 + j) = 0) (cnt : ∀ j, j < 9 → τ'.2.2.1 56 j = σ'.2.2.1 29 j) (qry : ∀ j, j < 8 → τ'.2.2.1 55 j = σ'.2.2.1 30 j)
    (n56 : σ'.2.2.2.2 5 < 2 ∧ σ'.2.2.2.2 6 < 2 ∧ σ'.2.2.2.2 5 ≠ σ'.2.2.2.2 6) (wrk : τ'.2.1 0 = σ'.2.1 0) : Bas σ' τ' w h := by
  unfold bP at hp
  unfold bQ at hq
  rw [Bool.and_eq_true, Bool.and_eq_true] at hp
  rw [Bool.and_eq_true] at hq
  obtain ⟨⟨p0, p2⟩, p4⟩ := hp
  obtain ⟨q0, q2⟩ := hq
  have P0 : ∀ k ∈ [12, 13, 15, 22, 23, 24, 25, 26, 27, 28, 29, 30], σ'.1 k = σ.1 k := fun k hk => hs.1 k (al_f p0 k hk)
  have P2 : ∀ k ∈ [1, 21, 22, 23], σ'.2.2.1 k = σ.2.2.1 k := fun k hk => hs.2.2.1 k (al_f p2 k hk)
  have P4 : ∀ k ∈ [2, 3, 4], σ'.2.2.2.2 k = σ.2.2.2.2 k := fun k hk => hs.2.2.2.2 k (al_f p4 k hk)
  have Q0 : ∀ k ∈ [1, 2, 3, 4, 5, 6, 8, 9, 18, 41, 47], τ'.1 k = τ.1 k := fun k hk => ht.1 k (al_f q0 k hk)
  have Q2 : ∀ k ∈ [4, 14, 23, 24, 33], τ'.2.2.1 k = τ.2.2.1 k := fun k hk => ht.2.2.1 k (al_f q2 k hk)
  have I0 : ∀ i, i < 3 → σ'.1 (22 + 3 * i) = σ.1 (22 + 3 * i) ∧ σ'.1 (24 + 3 * i) = σ.1 (24 + 3 * i) ∧ σ'.2.2.1 (21 + i) = σ.2.2.1 (21 + i) ∧ σ'.1 (23 + 3 * i) = σ.1 (23 + 3 * i) := by
    intro i hi
    have : i = 0 ∨ i = 1 ∨ i = 2 := by omega
    rcases this with rfl | rfl | rfl <;> exact ⟨P0 _ (by decide), P0 _ (by decide), P2 _ (by decide), P0 _ (by decide)⟩
  have e1 : σ'.2.2.1 1 = σ.2.2.1 1 := P2 1 (by decide)
  have n2 := P4 2 (by decide)
  have n3 := P4 3 (by decide)
  have n4 := P4 4 (by decide)
  have b1 := I0 _ a.ids.1.1
  have b2 := I0 _ a.ids.1.2.1
  refine ⟨pic, mem, by rw [e1]; exact a.kok, ?_, ?_, ?_, ?_, ?_, ?_, ?_, zer, cnt, qry, n56, ?_, ?_, ?_, ?_, ?_, wrk⟩
  · rw [e1]; unfold KepR; rw [Q2 4 (by decide)]; exact a.kep
  · rw [Q0 1 (by decide)]; exact a.mw
  · rw [Q0 2 (by decide)]; exact a.mh
  · rw [Q0 8 (by decide)]; exact a.cw
  · rw [Q0 9 (by decide)]; exact a.ch
  · rw [Q0 18 (by decide), P0 15 (by decide)]; exact a.oq
  · rw [P0 15 (by decide)]; exact a.oqr
  · rw [n2, n3, n4]; exact a.ids
  · rw [n2]; exact a.pr1.tr b1.1 b1.2.1 b1.2.2.1 b1.2.2.2 (Q2 _ (by decide)) (Q2 _ (by decide)) (Q0 _ (by decide)) (by rw [Q2 4 (by decide)]) (Q0 _ (by decide))
  · rw [n3]; exact a.pr2.tr b2.1 b2.2.1 b2.2.2.1 b2.2.2.2 (Q2 _ (by decide)) (Q2 _ (by decide)) (Q0 _ (by decide)) (by rw [Q2 4 (by decide)]) (Q0 _ (by decide))
  · rw [Q0 3 (by decide), P0 12 (by decide)]; exact a.fau
  · rw [Q0 4 (by decide), P0 13 (by decide)]; exact a.fap
def pDr : Nat → Nat → Bool := fun c k => pDl c k || (c == 1 && k == 0)
def qDr : Nat → Nat → Bool := fun c k => qDl c k || (c == 1 && k == 0)
theorem wDl : ∀ a b, pDr a b = false → pDl a b = false := by intro a b; unfold pDr; grind
theorem vDl : ∀ a b, qDr a b = false → qDl a b = false := by intro a b; unfold qDr; grind
theorem bP_dr : bP pDr = true := by decide
theorem bQ_dr : bQ qDr = true := by decide
/-- a DRAW or a DRAW by index -/
theorem e_drawCmd (σ τ : Sg) (w h mode many : Nat) (ix : Bool) (b : Bas σ τ w h) (a : Arg σ τ ix) (hm : mode ≤ 2) (hy : many ≤ 4096) (g0 : σ.2.2.1 5 0 = Int32.ofNat mode) (g2 : σ.2.2.1 5 2 = Int32.ofNat many) (m0 : τ.2.2.1 3 0 = Int32.ofNat mode) (m2 : τ.2.2.1 3 2 = Int32.ofNat many)
    (ω1 ω2 : Nat → Int32) (N1 N2 : Nat) (l1 : Loaded ω1 N1 (rdb (σ.1 (24 + 3 * σ.2.2.2.2 2))) (σ.2.2.2.2 2) 0 σ τ) (s1 : σ.1 (23 + 3 * σ.2.2.2.2 2) = τ.1 5) (l2 : Loaded ω2 N2 (rdb (σ.1 (24 + 3 * σ.2.2.2.2 3))) (σ.2.2.2.2 3) 1 σ τ) (s2 : σ.1 (23 + 3 * σ.2.2.2.2 3) = τ.1 6) :
    (F_Drw_draw σ (σ.2.2.2.2 2) (σ.2.2.2.2 3) = some (σ, 8) ∧ ∃ τ', F_Mod_isMuch τ = some (τ', 1) ∧ Bas σ τ' w h ∧ Fr qDr τ τ') ∨
    (∃ σ' τ1 τ', F_Drw_draw σ (σ.2.2.2.2 2) (σ.2.2.2.2 3) = some (σ', 0) ∧ F_Mod_isMuch τ = some (τ1, 0) ∧ F_Mod_draw τ1 (τ1.2.2.1 3 0) (τ1.2.2.1 3 2) (bI ix) = some τ' ∧ Bas σ' τ' w h ∧ Fr pDr σ σ' ∧ Fr qDr τ τ') := by
  have i1 := b.ids.1.1
  have i2 := b.ids.1.2.1
  have htr : trN mode many ≤ 4096 := by unfold trN; split <;> omega
  unfold F_Drw_draw F_Mod_isMuch
  rw [ck_pos i1, ck_pos i2, lt_def, g0, g2, e_triangles mode many hm hy, bd_def, m0, m2, e_Vwm_triangles τ mode many hm hy, bd_def, s1, s2, b.pic.cw, b.pic.ch]
  rw [show (sI τ 21 0).1 5 = τ.1 5 from rfl, show (sI τ 21 0).1 6 = τ.1 6 from rfl, show (sI τ 21 0).1 1 = τ.1 1 from rfl, show (sI τ 21 0).1 2 = τ.1 2 from rfl, show (sI τ 21 0).2.1 0 = τ.2.1 0 from rfl, b.mw, b.mh, b.wrk]
  simp only [lt_def]
  generalize hW : (Int32.ofNat (trN mode many)).toInt64 * (3 * (τ.1 5).toInt64 + (Int32.ofNat w).toInt64 * (Int32.ofNat h).toInt64 * (τ.1 6).toInt64) = W
  by_cases c : σ.2.1 0 + W ≤ 8388608
  · right
    rw [if_pos c, if_pos c]
    have hck : cpok 42 96 128 245 260 := by decide
    rw [ck_pos hck]
    -- the class begins to draw
    let σ0 := sA (sJ σ 0 (σ.2.1 0 + W)) 10 (va_cpy ((sJ σ 0 (σ.2.1 0 + W)).2.2.1 1) ((sJ σ 0 (σ.2.1 0 + W)).2.2.1 10) (42 : Int32).toNatClampNeg (96 : Int32).toNatClampNeg (128 : Int32).toNatClampNeg)
    let τ0 := sJ (sI τ 21 0) 0 (σ.2.1 0 + W)
    have eI : F_Mod_isMuch_75 (sI τ 21 0) W 0 = some (τ0, 0) := by
      unfold F_Mod_isMuch_75 F_Mod_isMuch_96
      rw [if_pos rfl, lt_def, ck_pos (Or.inl rfl), show (sI τ 21 0).2.1 0 = τ.2.1 0 from rfl, b.wrk]
    have F0 : Fr pDr σ σ0 := fr_sA (fr_sJ Fr.rfl 0 _ rfl) 10 _ rfl
    have G0 : Fr qDr τ τ0 := fr_sJ (fr_sI Fr.rfl 21 0 rfl) 0 _ rfl
    have k0 : σ0.2.2.1 1 = σ.2.2.1 1 := F0.2.2.1 1 rfl
    have K0 : KepR (σ0.2.2.1 1) τ0 := by rw [k0]; exact b.kep.tr G0 rfl
    obtain ⟨τ1, e1, e2, e3, e4, e5, e6, e7, e8, e9, e10⟩ := e_settle σ0 τ0 K0 (by rw [k0]; exact b.kok)
    have G1 : Fr qDr τ τ1 := G0.trans (e2.weak (fun a b h => vSe a b (vDl a b h)))
    have g2' : Fr (fun c k => c == 0 && k == 21) τ1 (sI τ1 21 0) := fr_sI Fr.rfl 21 0 rfl
    have G2 : Fr qDr τ (sI τ1 21 0) := fr_sI G1 21 0 rfl
    have un : ∀ j, j < 128 → σ0.2.2.1 10 (96 + j) = σ.2.2.1 1 (42 + j) := fun j hj => by
      show va_cpy (σ.2.2.1 1) (σ.2.2.1 10) 42 96 128 (96 + j) = _
      unfold va_cpy
      rw [if_pos (by omega), show 42 + (96 + j - 96) = 42 + j by omega]
    have ze : ∀ j, j < 4 → σ0.2.2.1 10 (224 + j) = 0 := fun j hj => by
      show va_cpy (σ.2.2.1 1) (σ.2.2.1 10) 42 96 128 (224 + j) = _
      unfold va_cpy
      rw [if_neg (by omega)]
      exact b.zer j hj
    have pc : PicR σ0 τ1 w h := b.pic.tr (p := fun c k => (c == 1 && k == 0) || (c == 2 && k == 10)) (q := fun c k => qSe c k || (c == 0 && k == 21) || (c == 1 && k == 0)) (fr_sA (fr_sJ Fr.rfl 0 _ rfl) 10 _ rfl) ((fr_sJ (fr_sI Fr.rfl 21 0 rfl) 0 _ rfl).trans (e2.weak (by intro a b; grind))) (by decide) (by decide)
    have D1 : Drw σ0 τ1 w h ω1 ω2 N1 N2 (σ.2.2.2.2 2) (σ.2.2.2.2 3) := by
      refine ⟨pc, e3, ?_, by rw [k0]; exact TxOK_of b.kok, e4, e5, by rw [k0]; exact VwOK_of b.kok, e6, e7, e8, by rw [k0]; exact b.kok 215 (by omega), ?_, ?_, ?_, ?_, ?_, ?_, ?_, ?_, ze, ?_, ?_⟩
      · rw [G1.2.2.1 0 rfl, F0.2.2.1 0 rfl]; exact b.mem
      · exact l1.tr (F0.1 _ (by unfold pDr pDl pTr pPx pCn pMk; simp; omega)) (F0.1 _ (by unfold pDr pDl pTr pPx pCn pMk; simp; omega)) (F0.2.2.1 _ (by unfold pDr pDl pTr pPx pCn pMk; simp; omega)) (G1.2.2.1 _ (by decide)) (G1.2.2.1 _ (by decide)) (G1.1 _ (by decide))
      · exact l2.tr (F0.1 _ (by unfold pDr pDl pTr pPx pCn pMk; simp; omega)) (F0.1 _ (by unfold pDr pDl pTr pPx pCn pMk; simp; omega)) (F0.2.2.1 _ (by unfold pDr pDl pTr pPx pCn pMk; simp; omega)) (G1.2.2.1 _ (by decide)) (G1.2.2.1 _ (by decide)) (G1.1 _ (by decide))
      · rw [G1.1 1 rfl]; exact b.mw
      · rw [G1.1 2 rfl]; exact b.mh
      · rw [G1.1 18 rfl, F0.1 15 rfl]; exact b.oq
      · rw [F0.1 15 rfl]; exact b.oqr
      · intro j hj; rw [e9 j hj, k0, un j hj]
      · intro j hj; rw [e10 j hj, k0, un j hj]
      · have x1 : τ1.2.2.1 56 = τ.2.2.1 56 := by rw [e2.2.2.1 56 rfl]; rfl
        have x2 : σ0.2.2.1 29 = σ.2.2.1 29 := rfl
        rw [x1, x2]; exact b.cnt
      · have x1 : τ1.2.2.1 55 = τ.2.2.1 55 := by rw [e2.2.2.1 55 rfl]; rfl
        have x2 : σ0.2.2.1 30 = σ.2.2.1 30 := rfl
        rw [x1, x2]; exact b.qry
    have D2 : Drw σ0 (sI τ1 21 0) w h ω1 ω2 N1 N2 (σ.2.2.2.2 2) (σ.2.2.2.2 3) :=
      D1.tr (p := fun _ _ => false) Fr.rfl g2' rfl rfl (D1.pic.tr (p := fun _ _ => false) Fr.rfl g2' (by decide) (by decide)) (fun j hj => rfl) D1.zer D1.cnt D1.qry
    have A2 : Arg σ0 (sI τ1 21 0) ix := a.tr F0 G2 rfl rfl rfl
    have n56 : σ0.2.2.2.2 5 < 2 ∧ σ0.2.2.2.2 6 < 2 ∧ σ0.2.2.2.2 5 ≠ σ0.2.2.2.2 6 := b.n56
    obtain ⟨σ3, τ3, q1, q2, q3, q4, q5, q6⟩ := e_drawloop mode (trN mode many) ix w h ω1 ω2 N1 N2 (σ.2.2.2.2 2) (σ.2.2.2.2 3) hm htr (trN mode many) 0 100000 100000 σ0 (sI τ1 21 0) (by omega) (by omega) (by omega) D2 A2 n56
    refine ⟨σ3, τ0, τ3, q1, eI, ?_, ?_, F0.trans (q5.weak wDl), G2.trans (q6.weak vDl)⟩
    · unfold F_Mod_draw
      rw [e1, bd_def, show τ0.2.2.1 3 = τ.2.2.1 3 from rfl, m0, m2, e_Vwm_triangles τ1 mode many hm hy, bd_def]
      exact q2
    · refine b.tr (F0.trans (q5.weak wDl)) (G2.trans (q6.weak vDl)) bP_dr bQ_dr q3.pic q3.mem q3.zer q3.cnt q3.qry q4 ?_
      rw [q5.2.1 0 rfl, q6.2.1 0 rfl]
      show τ1.2.1 0 = σ.2.1 0 + W
      rw [e2.2.1 0 rfl]
      rfl
  · left
    rw [if_neg c, if_neg c]
    refine ⟨rfl, sJ (sI τ 21 0) 0 (τ.2.1 0), ?_, ?_, fr_sJ (fr_sI Fr.rfl 21 0 rfl) 0 _ rfl⟩
    · unfold F_Mod_isMuch_75 F_Mod_isMuch_96
      rw [if_neg (by decide), lt_def, ck_pos (Or.inr rfl)]
      rfl
    · have g : Fr (fun c k => (c == 0 && k == 21) || (c == 1 && k == 0)) τ (sJ (sI τ 21 0) 0 (τ.2.1 0)) := fr_sJ (fr_sI Fr.rfl 21 0 rfl) 0 _ rfl
      exact b.tr (p := fun _ _ => false) Fr.rfl g rfl rfl (b.pic.tr (p := fun _ _ => false) Fr.rfl g (by decide) (by decide)) b.mem b.zer b.cnt b.qry b.n56 b.wrk
