/-! a place of a triangle, on both sides -/
def pPx : Nat → Nat → Bool := fun c k => (c == 1 && k == 3) || (c == 2 && ((2 ≤ k && k ≤ 4) || (10 ≤ k && k ≤ 20) || k == 29 || k == 30)) || (c == 3 && (k == 5 || k == 6))
def qPx : Nat → Nat → Bool := fun c k => (c == 0 && (k == 20 || k == 28 || k == 46 || k == 50 || k == 51)) || (c == 2 && ((7 ≤ k && k ≤ 13) || (26 ≤ k && k ≤ 28) || (30 ≤ k && k ≤ 32) || (45 ≤ k && k ≤ 47) || (52 ≤ k && k ≤ 56))) || (c == 3 && k == 0)
def Tri (X Y D Q : Nat → Int32) (V : Nat → Nat → Int32) (k c : Nat) (σ τ : Sg) : Prop := (1 ≤ k ∧ k ≤ 6) ∧ (XyOK X) ∧ (XyOK Y) ∧ (QOK Q) ∧ (∀ j, j < 3 → rg (D j) 0 16777215) ∧ (EdC X Y 3 σ) ∧ (σ.2.1 2 = Int64.ofInt (aWh X Y)) ∧ (WhoC X Y k σ) ∧ (∀ j, j < 3 → σ.2.2.1 26 (ci k j) = D j) ∧ (∀ j, j < 3 → σ.2.2.1 27 (ci k j) = Q j) ∧ (∀ q, q < 32 → ∀ j, j < 3 → σ.2.2.1 (31 + 8 * c + ci k j) q = V q j) ∧ (σ.2.2.2.2 5 = c) ∧ (c < 2) ∧ (RasM X Y τ) ∧ (∀ j, j < 3 → τ.2.2.1 42 j = D j) ∧ (∀ j, j < 3 → τ.2.2.1 43 j = Q j) ∧ (∀ q, q < 28 → ∀ j, j < 3 → τ.2.2.1 44 (28 * j + q) = V (4 + q) j)
theorem Tri.hk {X Y D Q : Nat → Int32} {V : Nat → Nat → Int32} {k c : Nat} {σ τ : Sg} (a_ : Tri X Y D Q V k c σ τ) : 1 ≤ k ∧ k ≤ 6 := a_.1
theorem Tri.hX {X Y D Q : Nat → Int32} {V : Nat → Nat → Int32} {k c : Nat} {σ τ : Sg} (a_ : Tri X Y D Q V k c σ τ) : XyOK X := a_.2.1
theorem Tri.hY {X Y D Q : Nat → Int32} {V : Nat → Nat → Int32} {k c : Nat} {σ τ : Sg} (a_ : Tri X Y D Q V k c σ τ) : XyOK Y := a_.2.2.1
theorem Tri.hQ {X Y D Q : Nat → Int32} {V : Nat → Nat → Int32} {k c : Nat} {σ τ : Sg} (a_ : Tri X Y D Q V k c σ τ) : QOK Q := a_.2.2.2.1
theorem Tri.hD {X Y D Q : Nat → Int32} {V : Nat → Nat → Int32} {k c : Nat} {σ τ : Sg} (a_ : Tri X Y D Q V k c σ τ) : ∀ j, j < 3 → rg (D j) 0 16777215 := a_.2.2.2.2.1
theorem Tri.ed {X Y D Q : Nat → Int32} {V : Nat → Nat → Int32} {k c : Nat} {σ τ : Sg} (a_ : Tri X Y D Q V k c σ τ) : EdC X Y 3 σ := a_.2.2.2.2.2.1
theorem Tri.ar {X Y D Q : Nat → Int32} {V : Nat → Nat → Int32} {k c : Nat} {σ τ : Sg} (a_ : Tri X Y D Q V k c σ τ) : σ.2.1 2 = Int64.ofInt (aWh X Y) := a_.2.2.2.2.2.2.1
theorem Tri.who {X Y D Q : Nat → Int32} {V : Nat → Nat → Int32} {k c : Nat} {σ τ : Sg} (a_ : Tri X Y D Q V k c σ τ) : WhoC X Y k σ := a_.2.2.2.2.2.2.2.1
theorem Tri.dC {X Y D Q : Nat → Int32} {V : Nat → Nat → Int32} {k c : Nat} {σ τ : Sg} (a_ : Tri X Y D Q V k c σ τ) : ∀ j, j < 3 → σ.2.2.1 26 (ci k j) = D j := a_.2.2.2.2.2.2.2.2.1
theorem Tri.qC {X Y D Q : Nat → Int32} {V : Nat → Nat → Int32} {k c : Nat} {σ τ : Sg} (a_ : Tri X Y D Q V k c σ τ) : ∀ j, j < 3 → σ.2.2.1 27 (ci k j) = Q j := a_.2.2.2.2.2.2.2.2.2.1
theorem Tri.vC {X Y D Q : Nat → Int32} {V : Nat → Nat → Int32} {k c : Nat} {σ τ : Sg} (a_ : Tri X Y D Q V k c σ τ) : ∀ q, q < 32 → ∀ j, j < 3 → σ.2.2.1 (31 + 8 * c + ci k j) q = V q j := a_.2.2.2.2.2.2.2.2.2.2.1
theorem Tri.n5 {X Y D Q : Nat → Int32} {V : Nat → Nat → Int32} {k c : Nat} {σ τ : Sg} (a_ : Tri X Y D Q V k c σ τ) : σ.2.2.2.2 5 = c := a_.2.2.2.2.2.2.2.2.2.2.2.1
theorem Tri.c2 {X Y D Q : Nat → Int32} {V : Nat → Nat → Int32} {k c : Nat} {σ τ : Sg} (a_ : Tri X Y D Q V k c σ τ) : c < 2 := a_.2.2.2.2.2.2.2.2.2.2.2.2.1
theorem Tri.ras {X Y D Q : Nat → Int32} {V : Nat → Nat → Int32} {k c : Nat} {σ τ : Sg} (a_ : Tri X Y D Q V k c σ τ) : RasM X Y τ := a_.2.2.2.2.2.2.2.2.2.2.2.2.2.1
theorem Tri.dM {X Y D Q : Nat → Int32} {V : Nat → Nat → Int32} {k c : Nat} {σ τ : Sg} (a_ : Tri X Y D Q V k c σ τ) : ∀ j, j < 3 → τ.2.2.1 42 j = D j := a_.2.2.2.2.2.2.2.2.2.2.2.2.2.2.1
theorem Tri.qM {X Y D Q : Nat → Int32} {V : Nat → Nat → Int32} {k c : Nat} {σ τ : Sg} (a_ : Tri X Y D Q V k c σ τ) : ∀ j, j < 3 → τ.2.2.1 43 j = Q j := a_.2.2.2.2.2.2.2.2.2.2.2.2.2.2.2.1
theorem Tri.vM {X Y D Q : Nat → Int32} {V : Nat → Nat → Int32} {k c : Nat} {σ τ : Sg} (a_ : Tri X Y D Q V k c σ τ) : ∀ q, q < 28 → ∀ j, j < 3 → τ.2.2.1 44 (28 * j + q) = V (4 + q) j := a_.2.2.2.2.2.2.2.2.2.2.2.2.2.2.2.2
def tP (p : Nat → Nat → Bool) : Prop := p 1 2 = false ∧ p 2 26 = false ∧ p 2 27 = false ∧ p 2 28 = false ∧ (∀ k, 31 ≤ k → k ≤ 46 → p 2 k = false) ∧ p 3 1 = false ∧ p 3 2 = false ∧ p 3 3 = false ∧ p 3 4 = false ∧ p 4 5 = false
def tQ (q : Nat → Nat → Bool) : Prop := q 2 40 = false ∧ q 2 41 = false ∧ q 2 42 = false ∧ q 2 43 = false ∧ q 2 44 = false
theorem Tri.tr {p q : Nat → Nat → Bool} {σ σ' τ τ' : Sg} {X Y D Q : Nat → Int32} {V : Nat → Nat → Int32} {k c : Nat} (a : Tri X Y D Q V k c σ τ) (hs : Fr p σ σ') (ht : Fr q τ τ') (hp : tP p) (hq : tQ q) : Tri X Y D Q V k c σ' τ' := by
  obtain ⟨p1, p2, p3, p4, p5, p6, p7, p8, p9, p10⟩ := hp
  obtain ⟨q1, q2, q3, q4, q5⟩ := hq
  refine ⟨a.hk, a.hX, a.hY, a.hQ, a.hD, ?_, ?_, ?_, ?_, ?_, ?_, ?_, a.c2, ?_, ?_, ?_, ?_⟩
  · have := a.ed; unfold EdC at this ⊢; rw [hs.2.2.2.1 1 p6, hs.2.2.2.1 2 p7, hs.2.2.2.1 3 p8, hs.2.2.2.1 4 p9]; exact this
  · rw [hs.2.1 2 p1]; exact a.ar
  · have := a.who; unfold WhoC at this ⊢; rw [hs.2.2.1 28 p4]; exact this
  · rw [hs.2.2.1 26 p2]; exact a.dC
  · rw [hs.2.2.1 27 p3]; exact a.qC
  · intro q hq j hj
    have h1 := ci_lt k j a.hk.2 hj
    have h2 := a.c2
    rw [hs.2.2.1 _ (p5 _ (by omega) (by omega))]; exact a.vC q hq j hj
  · rw [hs.2.2.2.2 5 p10]; exact a.n5
  · have := a.ras; unfold RasM at this ⊢; rw [ht.2.2.1 40 q1, ht.2.2.1 41 q2]; exact this
  · rw [ht.2.2.1 42 q3]; exact a.dM
  · rw [ht.2.2.1 43 q4]; exact a.qM
  · rw [ht.2.2.1 44 q5]; exact a.vM
theorem tP_px : tP pPx := ⟨rfl, rfl, rfl, rfl, fun k h1 h2 => by unfold pPx; simp; omega, rfl, rfl, rfl, rfl, rfl⟩
theorem tQ_px : tQ qPx := ⟨rfl, rfl, rfl, rfl, rfl⟩
/-- the reference's ins of a place -/
theorem e_values (X Y D Q : Nat → Int32) (V : Nat → Nat → Int32) (f : Nat → Nat) (s : Nat) (τ : Sg) (v1 v2 v3 v4 : Int32) (hT : 0 < shT f s) (hTb : shT f s < 1610612736) (hS : ∀ j, j < 3 → τ.2.2.2.1 0 j = Int64.ofNat (f j / 2 ^ s)) (hV : ∀ q, q < 28 → ∀ j, j < 3 → τ.2.2.1 44 (28 * j + q) = V (4 + q) j) :
    ∃ n, L_Mod_place_78 100000 τ v1 v2 v3 v4 0 = L_Mod_place_78 (n + 1) (sA τ 27 (rowset (τ.2.2.1 27) 4 28 (fun k => vlv f s (V (4 + k))))) v1 v2 v3 v4 28 := by
  refine ⟨99971, ?_⟩
  have st : ∀ (k n : Nat), k < 28 → L_Mod_place_78 (n + 1) (sA τ 27 (rowset (τ.2.2.1 27) 4 k (fun k => vlv f s (V (4 + k))))) v1 v2 v3 v4 (Int32.ofNat k) = L_Mod_place_78 n (sA τ 27 (rowset (τ.2.2.1 27) 4 (k + 1) (fun k => vlv f s (V (4 + k))))) v1 v2 v3 v4 (Int32.ofNat (k + 1)) := by
    intro k n hk
    rw [L_Mod_place_78, if_neg (show ¬ (28 : Int32) ≤ Int32.ofNat k from fun e => absurd ((n_le 28 k (by omega) (by omega)).mp e) (by omega)),
      e_value f s k (V (4 + k)) (sA τ 27 (rowset (τ.2.2.1 27) 4 k (fun k => vlv f s (V (4 + k))))) hk hT hTb (fun j hj => hS j hj) (fun j hj => hV k hk j hj), bd_def,
      show (4 + Int32.ofNat k : Int32) = Int32.ofNat (4 + k) from n_add 4 k, ck_pos (n_inb _ 32 (by omega) (by omega)), lt_def, lt_def, n_succ, n_nat _ (by omega), sA_sA, sA_3, if_pos rfl, ← rowset_succ]
  have lp : ∀ d k n, k + d = 28 → n = 99972 + d → L_Mod_place_78 n (sA τ 27 (rowset (τ.2.2.1 27) 4 k (fun k => vlv f s (V (4 + k))))) v1 v2 v3 v4 (Int32.ofNat k) = L_Mod_place_78 99972 (sA τ 27 (rowset (τ.2.2.1 27) 4 28 (fun k => vlv f s (V (4 + k))))) v1 v2 v3 v4 28 := by
    intro d
    induction d with
    | zero =>
      intro k n hk hn
      have : k = 28 := by omega
      subst this
      subst hn
      rfl
    | succ d ih =>
      intro k n hk hn
      rw [show n = (99972 + d) + 1 by omega, st k _ (by omega)]
      exact ih (k + 1) _ (by omega) rfl
  have z := lp 28 0 100000 (by omega) (by omega)
  rw [rowset_zero, sA_self] at z
  exact z
theorem cnt_up' {f g : Nat → Int32} {n : Nat} (q : Nat) (hq : q < n) (h : ∀ j, j < n → g j = f j) : ∀ j, j < n → upd g q (g q + 1) j = upd f q (f q + 1) j := by
  intro j hj
  unfold upd
  by_cases d : j = q
  · rw [if_pos d, if_pos d, h q hq]
  · rw [if_neg d, if_neg d, h j hj]
theorem e_tally (σ τ : Sg) (w h : Nat) (ω1 ω2 : Nat → Int32) (N1 N2 i1 i2 r : Nat) (a : Drw σ τ w h ω1 ω2 N1 N2 i1 i2) (hr : r < 4) :
    ∃ σ' τ', F_Drw_tally σ (Int32.ofNat r) = some σ' ∧ (lt (3 + Int32.ofNat r) (fun y24 => ck (inb y24 9) (ck (inb y24 9) (lt (sA τ 56 (upd (τ.2.2.1 56) y24.toNatClampNeg ((τ.2.2.1 56 y24.toNatClampNeg) + 1))) (fun σ27 => if Int32.ofNat r = 3 then (if (σ27.1 18) < 0 then (F_Mod_place_223 σ27) else (lt (σ27.1 18) (fun y28 => ck (inb y28 8) (ck (inb y28 8) (lt (sA σ27 55 (upd (σ27.2.2.1 55) y28.toNatClampNeg ((σ27.2.2.1 55 y28.toNatClampNeg) + 1))) (fun σ31 => F_Mod_place_223 σ31)))))) else (F_Mod_place_223 σ27)))))) = some τ' ∧
      Drw σ' τ' w h ω1 ω2 N1 N2 i1 i2 ∧ Fr (fun c k => c == 2 && (k == 29 || k == 30)) σ σ' ∧ Fr (fun c k => c == 2 && (k == 55 || k == 56)) τ τ' := by
  unfold F_Drw_tally F_Drw_tally_38 F_Mod_place_223
  have h9 := n_inb (3 + r) 9 (by omega) (by omega)
  simp only [show (3 + Int32.ofNat r : Int32) = Int32.ofNat (3 + r) from n_add 3 r, lt_def, ck_pos h9, n_nat (3 + r) (by omega)]
  have f1 : Fr (fun c k => c == 2 && (k == 29 || k == 30)) σ (sA σ 29 (upd (σ.2.2.1 29) (3 + r) (σ.2.2.1 29 (3 + r) + 1))) := fr_sA Fr.rfl 29 _ rfl
  have g1 : Fr (fun c k => c == 2 && (k == 55 || k == 56)) τ (sA τ 56 (upd (τ.2.2.1 56) (3 + r) (τ.2.2.1 56 (3 + r) + 1))) := fr_sA Fr.rfl 56 _ rfl
  have D1 : Drw (sA σ 29 (upd (σ.2.2.1 29) (3 + r) (σ.2.2.1 29 (3 + r) + 1))) (sA τ 56 (upd (τ.2.2.1 56) (3 + r) (τ.2.2.1 56 (3 + r) + 1))) w h ω1 ω2 N1 N2 i1 i2 :=
    a.tr f1 g1 rfl rfl (a.pic.tr f1 g1 (by decide) (by decide)) (fun j hj => rfl) a.zer (cnt_up' (3 + r) (by omega) a.cnt) a.qry
  generalize sA σ 29 (upd (σ.2.2.1 29) (3 + r) (σ.2.2.1 29 (3 + r) + 1)) = σ1 at D1 f1
  generalize sA τ 56 (upd (τ.2.2.1 56) (3 + r) (τ.2.2.1 56 (3 + r) + 1)) = τ1 at D1 g1
  by_cases c : r = 3
  · simp only [if_pos (show Int32.ofNat r = 3 by rw [c]; rfl), D1.oq]
    by_cases d : σ1.1 15 < 0
    · rw [if_pos ((rg_m1 D1.oqr).mpr d), if_pos d]
      exact ⟨σ1, τ1, rfl, rfl, D1, f1, g1⟩
    · rw [if_neg (fun e => d ((rg_m1 D1.oqr).mp e)), if_neg d]
      have d0 : 0 ≤ (σ1.1 15).toInt := by
        refine Classical.byContradiction fun e => d (Int32.lt_iff_toInt_lt.mpr ?_)
        show (σ1.1 15).toInt < 0
        omega
      obtain ⟨q, q1, q2⟩ := rg_n (b := 7) ⟨d0, D1.oqr.2⟩ (by omega)
      have h8 := n_inb q 8 (by omega) (by omega)
      simp only [q2, ck_pos h8, n_nat q (by omega)]
      have f2 : Fr (fun c k => c == 2 && (k == 29 || k == 30)) σ1 (sA σ1 30 (upd (σ1.2.2.1 30) q (σ1.2.2.1 30 q + 1))) := fr_sA Fr.rfl 30 _ rfl
      have g2 : Fr (fun c k => c == 2 && (k == 55 || k == 56)) τ1 (sA τ1 55 (upd (τ1.2.2.1 55) q (τ1.2.2.1 55 q + 1))) := fr_sA Fr.rfl 55 _ rfl
      exact ⟨_, _, rfl, rfl, D1.tr f2 g2 rfl rfl (D1.pic.tr f2 g2 (by decide) (by decide)) (fun j hj => rfl) D1.zer D1.cnt (cnt_up' q (by omega) D1.qry), f1.trans f2, g1.trans g2⟩
  · rw [if_neg (show ¬ Int32.ofNat r = 3 from fun e => c ((n_inj r 3 (by omega) (by omega)).mp e)), if_neg (show ¬ Int32.ofNat r = 3 from fun e => c ((n_inj r 3 (by omega) (by omega)).mp e))]
    exact ⟨σ1, τ1, rfl, rfl, D1, f1, g1⟩
