/-! pictures and tests of both sides -/
def PicR (σ τ : Sg) (w h : Nat) : Prop := (1 ≤ w ∧ w ≤ 128) ∧ (1 ≤ h ∧ h ≤ 128) ∧ (σ.1 0 = Int32.ofNat w) ∧ (σ.1 1 = Int32.ofNat h) ∧ (τ.1 31 = Int32.ofNat w) ∧ (τ.1 32 = Int32.ofNat h) ∧ (τ.1 29 = 0) ∧ (τ.1 30 = 0) ∧ (w * h ≤ σ.2.2.2.2 0) ∧ (σ.2.2.2.2 0 ≤ 16384) ∧ (∀ i, i < w * h → ∀ k, k < 4 → τ.2.2.1 45 (4 * i + k) = byt (σ.2.2.1 2 i) k) ∧ (∀ i, i < w * h → τ.2.2.1 46 i = σ.2.2.1 3 i) ∧ (∀ i, i < w * h → τ.2.2.1 47 i = σ.2.2.1 4 i ∧ 0 ≤ (σ.2.2.1 4 i).toInt ∧ (σ.2.2.1 4 i).toInt ≤ 255)
theorem PicR.w1 {σ τ : Sg} {w h : Nat} (a_ : PicR σ τ w h) : 1 ≤ w ∧ w ≤ 128 := a_.1
theorem PicR.h1 {σ τ : Sg} {w h : Nat} (a_ : PicR σ τ w h) : 1 ≤ h ∧ h ≤ 128 := a_.2.1
theorem PicR.cw {σ τ : Sg} {w h : Nat} (a_ : PicR σ τ w h) : σ.1 0 = Int32.ofNat w := a_.2.2.1
theorem PicR.ch {σ τ : Sg} {w h : Nat} (a_ : PicR σ τ w h) : σ.1 1 = Int32.ofNat h := a_.2.2.2.1
theorem PicR.mw {σ τ : Sg} {w h : Nat} (a_ : PicR σ τ w h) : τ.1 31 = Int32.ofNat w := a_.2.2.2.2.1
theorem PicR.mh {σ τ : Sg} {w h : Nat} (a_ : PicR σ τ w h) : τ.1 32 = Int32.ofNat h := a_.2.2.2.2.2.1
theorem PicR.x0 {σ τ : Sg} {w h : Nat} (a_ : PicR σ τ w h) : τ.1 29 = 0 := a_.2.2.2.2.2.2.1
theorem PicR.y0 {σ τ : Sg} {w h : Nat} (a_ : PicR σ τ w h) : τ.1 30 = 0 := a_.2.2.2.2.2.2.2.1
theorem PicR.cap {σ τ : Sg} {w h : Nat} (a_ : PicR σ τ w h) : w * h ≤ σ.2.2.2.2 0 := a_.2.2.2.2.2.2.2.2.1
theorem PicR.cap2 {σ τ : Sg} {w h : Nat} (a_ : PicR σ τ w h) : σ.2.2.2.2 0 ≤ 16384 := a_.2.2.2.2.2.2.2.2.2.1
theorem PicR.col {σ τ : Sg} {w h : Nat} (a_ : PicR σ τ w h) : ∀ i, i < w * h → ∀ k, k < 4 → τ.2.2.1 45 (4 * i + k) = byt (σ.2.2.1 2 i) k := a_.2.2.2.2.2.2.2.2.2.2.1
theorem PicR.dep {σ τ : Sg} {w h : Nat} (a_ : PicR σ τ w h) : ∀ i, i < w * h → τ.2.2.1 46 i = σ.2.2.1 3 i := a_.2.2.2.2.2.2.2.2.2.2.2.1
theorem PicR.ste {σ τ : Sg} {w h : Nat} (a_ : PicR σ τ w h) : ∀ i, i < w * h → τ.2.2.1 47 i = σ.2.2.1 4 i ∧ 0 ≤ (σ.2.2.1 4 i).toInt ∧ (σ.2.2.1 4 i).toInt ≤ 255 := a_.2.2.2.2.2.2.2.2.2.2.2.2
def rg (x : Int32) (a b : Int) : Prop := a ≤ x.toInt ∧ x.toInt ≤ b
def TesR (σ τ : Sg) : Prop := (τ.1 33 = if σ.2.2.1 1 8 < σ.2.2.1 1 6 then 0 else 1) ∧ (∀ j, j < 4 → τ.2.2.1 48 j = σ.2.2.1 1 (6 + j)) ∧ (τ.1 34 = σ.2.2.1 1 190) ∧ (rg (σ.2.2.1 1 190) (-1) 7) ∧ (τ.1 35 = if σ.2.2.1 1 191 = 1 then 1 else 0) ∧ (∀ j, j < 14 → τ.2.2.1 49 j = σ.2.2.1 1 (192 + j)) ∧ (∀ n, n < 2 → rg (σ.2.2.1 1 (192 + 7 * n)) (-1) 7 ∧ rg (σ.2.2.1 1 (193 + 7 * n)) 0 255 ∧ rg (σ.2.2.1 1 (194 + 7 * n)) 0 255 ∧ rg (σ.2.2.1 1 (195 + 7 * n)) 0 255 ∧ rg (σ.2.2.1 1 (196 + 7 * n)) 0 7 ∧ rg (σ.2.2.1 1 (197 + 7 * n)) 0 7 ∧ rg (σ.2.2.1 1 (198 + 7 * n)) 0 7) ∧ (Bls σ τ) ∧ (∀ j, j < 4 → τ.2.2.1 51 j = byt (σ.2.2.1 1 212) j) ∧ (τ.1 38 = σ.2.2.1 1 213) ∧ (rg (σ.2.2.1 1 213) (-1) 15) ∧ (τ.1 39 = σ.2.2.1 1 214) ∧ (rg (σ.2.2.1 1 214) 0 15)
theorem TesR.sc {σ τ : Sg} (a_ : TesR σ τ) : τ.1 33 = if σ.2.2.1 1 8 < σ.2.2.1 1 6 then 0 else 1 := a_.1
theorem TesR.sc4 {σ τ : Sg} (a_ : TesR σ τ) : ∀ j, j < 4 → τ.2.2.1 48 j = σ.2.2.1 1 (6 + j) := a_.2.1
theorem TesR.dt {σ τ : Sg} (a_ : TesR σ τ) : τ.1 34 = σ.2.2.1 1 190 := a_.2.2.1
theorem TesR.dtr {σ τ : Sg} (a_ : TesR σ τ) : rg (σ.2.2.1 1 190) (-1) 7 := a_.2.2.2.1
theorem TesR.dw {σ τ : Sg} (a_ : TesR σ τ) : τ.1 35 = if σ.2.2.1 1 191 = 1 then 1 else 0 := a_.2.2.2.2.1
theorem TesR.st {σ τ : Sg} (a_ : TesR σ τ) : ∀ j, j < 14 → τ.2.2.1 49 j = σ.2.2.1 1 (192 + j) := a_.2.2.2.2.2.1
theorem TesR.str {σ τ : Sg} (a_ : TesR σ τ) : ∀ n, n < 2 → rg (σ.2.2.1 1 (192 + 7 * n)) (-1) 7 ∧ rg (σ.2.2.1 1 (193 + 7 * n)) 0 255 ∧ rg (σ.2.2.1 1 (194 + 7 * n)) 0 255 ∧ rg (σ.2.2.1 1 (195 + 7 * n)) 0 255 ∧ rg (σ.2.2.1 1 (196 + 7 * n)) 0 7 ∧ rg (σ.2.2.1 1 (197 + 7 * n)) 0 7 ∧ rg (σ.2.2.1 1 (198 + 7 * n)) 0 7 := a_.2.2.2.2.2.2.1
theorem TesR.bl {σ τ : Sg} (a_ : TesR σ τ) : Bls σ τ := a_.2.2.2.2.2.2.2.1
theorem TesR.co {σ τ : Sg} (a_ : TesR σ τ) : ∀ j, j < 4 → τ.2.2.1 51 j = byt (σ.2.2.1 1 212) j := a_.2.2.2.2.2.2.2.2.1
theorem TesR.lo {σ τ : Sg} (a_ : TesR σ τ) : τ.1 38 = σ.2.2.1 1 213 := a_.2.2.2.2.2.2.2.2.2.1
theorem TesR.lor {σ τ : Sg} (a_ : TesR σ τ) : rg (σ.2.2.1 1 213) (-1) 15 := a_.2.2.2.2.2.2.2.2.2.2.1
theorem TesR.ma {σ τ : Sg} (a_ : TesR σ τ) : τ.1 39 = σ.2.2.1 1 214 := a_.2.2.2.2.2.2.2.2.2.2.2.1
theorem TesR.mar {σ τ : Sg} (a_ : TesR σ τ) : rg (σ.2.2.1 1 214) 0 15 := a_.2.2.2.2.2.2.2.2.2.2.2.2
theorem PicR.tr {p q : Nat → Nat → Bool} {σ σ' τ τ' : Sg} {w h : Nat} (a : PicR σ τ w h) (hs : Fr p σ σ') (ht : Fr q τ τ')
    (hp : p 0 0 = false ∧ p 0 1 = false ∧ p 2 2 = false ∧ p 2 3 = false ∧ p 2 4 = false ∧ p 4 0 = false)
    (hq : q 0 29 = false ∧ q 0 30 = false ∧ q 0 31 = false ∧ q 0 32 = false ∧ q 2 45 = false ∧ q 2 46 = false ∧ q 2 47 = false) : PicR σ' τ' w h := by
  obtain ⟨p1, p2, p3, p4, p5, p6⟩ := hp
  obtain ⟨q1, q2, q3, q4, q5, q6, q7⟩ := hq
  exact ⟨a.w1, a.h1, by rw [hs.1 0 p1]; exact a.cw, by rw [hs.1 1 p2]; exact a.ch, by rw [ht.1 31 q3]; exact a.mw, by rw [ht.1 32 q4]; exact a.mh, by rw [ht.1 29 q1]; exact a.x0, by rw [ht.1 30 q2]; exact a.y0,
    by rw [hs.2.2.2.2 0 p6]; exact a.cap, by rw [hs.2.2.2.2 0 p6]; exact a.cap2, by rw [hs.2.2.1 2 p3, ht.2.2.1 45 q5]; exact a.col, by rw [hs.2.2.1 3 p4, ht.2.2.1 46 q6]; exact a.dep, by rw [hs.2.2.1 4 p5, ht.2.2.1 47 q7]; exact a.ste⟩
theorem TesR.tr {p q : Nat → Nat → Bool} {σ σ' τ τ' : Sg} (a : TesR σ τ) (hs : Fr p σ σ') (ht : Fr q τ τ')
    (hp : p 2 1 = false)
    (hq : q 0 33 = false ∧ q 0 34 = false ∧ q 0 35 = false ∧ q 0 36 = false ∧ q 0 37 = false ∧ q 0 38 = false ∧ q 0 39 = false ∧ q 2 48 = false ∧ q 2 49 = false ∧ q 2 50 = false ∧ q 2 51 = false) : TesR σ' τ' := by
  obtain ⟨q1, q2, q3, q4, q5, q6, q7, q8, q9, q10, q11⟩ := hq
  have e := hs.2.2.1 1 hp
  refine ⟨?_, ?_, ?_, ?_, ?_, ?_, ?_, ⟨?_, ?_, ?_, ?_⟩, ?_, ?_, ?_, ?_, ?_⟩
  · rw [e, ht.1 33 q1]; exact a.sc
  · rw [e, ht.2.2.1 48 q8]; exact a.sc4
  · rw [e, ht.1 34 q2]; exact a.dt
  · rw [e]; exact a.dtr
  · rw [e, ht.1 35 q3]; exact a.dw
  · rw [e, ht.2.2.1 49 q9]; exact a.st
  · rw [e]; exact a.str
  · rw [e, ht.2.2.1 50 q10]; exact a.bl.f
  · rw [e]; exact a.bl.fr
  · rw [e, ht.1 36 q4]; exact a.bl.e
  · rw [e, ht.1 37 q5]; exact a.bl.e2
  · rw [e, ht.2.2.1 51 q11]; exact a.co
  · rw [e, ht.1 38 q6]; exact a.lo
  · rw [e]; exact a.lor
  · rw [e, ht.1 39 q7]; exact a.ma
  · rw [e]; exact a.mar
theorem PicR.set4 {σ τ : Sg} {w h : Nat} (a : PicR σ τ w h) (i : Nat) (v : Int32) (hv : rg v 0 255) : PicR (sA σ 4 (upd (σ.2.2.1 4) i v)) (sA τ 47 (upd (τ.2.2.1 47) i v)) w h := by
  refine ⟨a.w1, a.h1, a.cw, a.ch, a.mw, a.mh, a.x0, a.y0, a.cap, a.cap2, a.col, a.dep, fun j hj => ?_⟩
  show upd (τ.2.2.1 47) i v j = upd (σ.2.2.1 4) i v j ∧ 0 ≤ (upd (σ.2.2.1 4) i v j).toInt ∧ (upd (σ.2.2.1 4) i v j).toInt ≤ 255
  by_cases c : j = i
  · subst c; rw [upd_eq, upd_eq]; exact ⟨rfl, hv⟩
  · rw [upd_ne _ _ _ _ c, upd_ne _ _ _ _ c]; exact a.ste j hj
theorem PicR.set3 {σ τ : Sg} {w h : Nat} (a : PicR σ τ w h) (i : Nat) (v : Int32) : PicR (sA σ 3 (upd (σ.2.2.1 3) i v)) (sA τ 46 (upd (τ.2.2.1 46) i v)) w h := by
  refine ⟨a.w1, a.h1, a.cw, a.ch, a.mw, a.mh, a.x0, a.y0, a.cap, a.cap2, a.col, fun j hj => ?_, a.ste⟩
  show upd (τ.2.2.1 46) i v j = upd (σ.2.2.1 3) i v j
  by_cases c : j = i
  · subst c; rw [upd_eq, upd_eq]
  · rw [upd_ne _ _ _ _ c, upd_ne _ _ _ _ c]; exact a.dep j hj
theorem PicR.set2 {σ τ : Sg} {w h : Nat} (a : PicR σ τ w h) (i : Nat) (v : Int32) (g : Nat → Int32) (hg : ∀ k, k < 4 → g (4 * i + k) = byt v k) (hg2 : ∀ q, (q < 4 * i ∨ 4 * i + 4 ≤ q) → g q = τ.2.2.1 45 q) : PicR (sA σ 2 (upd (σ.2.2.1 2) i v)) (sA τ 45 g) w h := by
  refine ⟨a.w1, a.h1, a.cw, a.ch, a.mw, a.mh, a.x0, a.y0, a.cap, a.cap2, fun j hj k hk => ?_, a.dep, a.ste⟩
  show g (4 * j + k) = byt (upd (σ.2.2.1 2) i v j) k
  by_cases c : j = i
  · subst c; rw [upd_eq]; exact hg k hk
  · rw [upd_ne _ _ _ _ c, hg2 _ (by omega)]; exact a.col j hj k hk
theorem upd_self (f : Nat → Int32) (i : Nat) : upd f i (f i) = f := by
  funext j; unfold upd; split
  · subst_vars; rfl
  · rfl
theorem rg_n {x : Int32} {b : Nat} (h : rg x 0 b) (hb : b < 2147483648) : ∃ n : Nat, n ≤ b ∧ x = Int32.ofNat n := by
  obtain ⟨h0, h1⟩ := h
  refine ⟨x.toInt.toNat, by omega, i_inj _ _ ?_⟩
  rw [n_int _ (by omega)]; omega
theorem mix_rng (s m w : Int32) (hs : rg s 0 255) (hm : rg m 0 255) : rg ((s &&& (w ^^^ (-1))) ||| (m &&& w)) 0 255 := by
  obtain ⟨a, ha, rfl⟩ := rg_n (b := 255) hs (by omega)
  obtain ⟨b, hb, rfl⟩ := rg_n (b := 255) hm (by omega)
  have e : un ((Int32.ofNat a &&& (w ^^^ (-1))) ||| (Int32.ofNat b &&& w)) < 2 ^ 8 := by
    rw [un_or, un_and, un_and, un_ofNat, un_ofNat, Nat.mod_eq_of_lt (show a < 4294967296 by omega), Nat.mod_eq_of_lt (show b < 4294967296 by omega)]
    exact Nat.or_lt_two_pow (Nat.lt_of_le_of_lt Nat.and_le_left (by omega)) (Nat.lt_of_le_of_lt Nat.and_le_left (by omega))
  generalize ((Int32.ofNat a &&& (w ^^^ (-1))) ||| (Int32.ofNat b &&& w)) = x at e
  rw [← ofNat_un x]
  unfold rg
  rw [n_int _ (by omega)]
  omega
/-- what a place's deed does, on both sides -/
theorem e_act (σ τ : Sg) (w h i n q : Nat) (a : PicR σ τ w h) (t : TesR σ τ) (hi : i < w * h) (hn : n < 2) (hq : 4 ≤ q ∧ q ≤ 6) :
    ∃ v, rg v 0 255 ∧ F_Pic_doDeed σ (Int32.ofNat i) (Int32.ofNat (192 + 7 * n)) (σ.2.2.1 1 (192 + 7 * n + q)) = some (sA σ 4 (upd (σ.2.2.1 4) i v)) ∧
      F_Ptm_act τ (Int32.ofNat i) (Int32.ofNat n) (Int32.ofNat q) = some (sA τ 47 (upd (τ.2.2.1 47) i v)) := by
  have hcap := a.cap
  have hcap2 := a.cap2
  obtain ⟨s1, s2, s3⟩ := a.ste i hi
  obtain ⟨r0, r1, r2, r3, r4, r5, r6⟩ := t.str n hn
  have rq : rg (σ.2.2.1 1 (192 + 7 * n + q)) 0 7 := by
    have : q = 4 ∨ q = 5 ∨ q = 6 := by omega
    rcases this with rfl | rfl | rfl
    · rw [show 192 + 7 * n + 4 = 196 + 7 * n by omega]; exact r4
    · rw [show 192 + 7 * n + 5 = 197 + 7 * n by omega]; exact r5
    · rw [show 192 + 7 * n + 6 = 198 + 7 * n by omega]; exact r6
  have e0 : τ.2.2.1 49 (7 * n) = σ.2.2.1 1 (192 + 7 * n) := t.st _ (by omega)
  have e1 : τ.2.2.1 49 (7 * n + 1) = σ.2.2.1 1 (193 + 7 * n) := by rw [t.st _ (by omega), show 192 + (7 * n + 1) = 193 + 7 * n by omega]
  have e3 : τ.2.2.1 49 (7 * n + 3) = σ.2.2.1 1 (195 + 7 * n) := by rw [t.st _ (by omega), show 192 + (7 * n + 3) = 195 + 7 * n by omega]
  have eq : τ.2.2.1 49 (7 * n + q) = σ.2.2.1 1 (192 + 7 * n + q) := by rw [t.st _ (by omega), show 192 + (7 * n + q) = 192 + 7 * n + q by omega]
  unfold F_Pic_doDeed F_Ptm_act F_Ptm_act_57
  simp only [lt_def]
  rw [show (7 * Int32.ofNat n : Int32) = Int32.ofNat (7 * n) from n_mul 7 n, show (Int32.ofNat (192 + 7 * n) + 3 : Int32) = Int32.ofNat (195 + 7 * n) by rw [show (3 : Int32) = Int32.ofNat 3 from rfl, n_add]; congr 1; omega,
    show (Int32.ofNat (192 + 7 * n) + 1 : Int32) = Int32.ofNat (193 + 7 * n) by rw [show (1 : Int32) = Int32.ofNat 1 from rfl, n_add]; congr 1; omega, n_add, show (Int32.ofNat (7 * n) + 1 : Int32) = Int32.ofNat (7 * n + 1) from n_succ _, show (Int32.ofNat (7 * n) + 3 : Int32) = Int32.ofNat (7 * n + 3) from n_add _ 3]
  rw [ck_pos (n_inb (192 + 7 * n) 245 (by omega) (by omega)), ck_pos (n_inb (7 * n) 14 (by omega) (by omega)), n_nat (192 + 7 * n) (by omega), n_nat (7 * n) (by omega), n_nat i (by omega), n_nat (193 + 7 * n) (by omega), n_nat (195 + 7 * n) (by omega), n_nat (7 * n + 1) (by omega), n_nat (7 * n + 3) (by omega), n_nat (7 * n + q) (by omega), e0, e1, e3, eq, s1]
  by_cases c : 0 ≤ σ.2.2.1 1 (192 + 7 * n)
  · rw [if_pos c, if_neg (show ¬ σ.2.2.1 1 (192 + 7 * n) < 0 by grind)]
    obtain ⟨v, v1, v2, v3, v4⟩ := e_deed (σ.2.2.1 1 (192 + 7 * n + q)) (σ.2.2.1 4 i) (σ.2.2.1 1 (193 + 7 * n)) rq.1 rq.2 s2 s3 r1.1 r1.2
    refine ⟨_, mix_rng (σ.2.2.1 4 i) v (σ.2.2.1 1 (195 + 7 * n)) ⟨s2, s3⟩ ⟨v3, v4⟩, ?_, ?_⟩
    · have hl : inb (Int32.ofNat i) (lenC σ 4) := n_inb i _ (show i < σ.2.2.2.2 0 by omega) (by omega)
      rw [ck_pos (n_inb _ 245 (by omega) (by omega)), ck_pos hl, ck_pos (n_inb _ 245 (by omega) (by omega)), v1, bd_def, ck_pos hl, ck_pos hl]
    · unfold F_Ptm_writeStencil
      have hl : inb (Int32.ofNat i) 16384 := n_inb i _ (by omega) (by omega)
      rw [ck_pos (n_inb _ 14 (by omega) (by omega)), ck_pos hl, ck_pos (n_inb _ 14 (by omega) (by omega)), v2, bd_def, ck_pos (n_inb _ 14 (by omega) (by omega)), ck_pos hl, ck_pos hl, lt_def, bd_def, n_nat i (by omega), s1]
  · rw [if_neg c, if_pos (show σ.2.2.1 1 (192 + 7 * n) < 0 by grind)]
    refine ⟨σ.2.2.1 4 i, ⟨s2, s3⟩, ?_, ?_⟩
    · rw [upd_self, sA_self]
    · rw [← s1, upd_self, sA_self]
theorem e_open (σ τ : Sg) (w h x y : Nat) (a : PicR σ τ w h) (t : TesR σ τ) (hx : x < w) (hy : y < h) : ∃ o, F_Told_isOpen σ (Int32.ofNat x) (Int32.ofNat y) = some o ∧ F_Ptm_isOpen τ (Int32.ofNat x) (Int32.ofNat y) = some o := by
  have w1 := a.w1
  have h1 := a.h1
  have inF : F_Ptm_isInFrame τ (Int32.ofNat x) (Int32.ofNat y) = some 1 := by
    simp only [F_Ptm_isInFrame_47, F_Ptm_isInFrame_46, F_Ptm_isInFrame, a.x0, a.y0, a.mw, a.mh]
    rw [if_neg (show ¬ Int32.ofNat x < 0 from fun e => absurd ((n_lt x 0 (by omega) (by omega)).mp e) (by omega)), show (0 + Int32.ofNat w : Int32) = Int32.ofNat w from by rw [show (0 : Int32) = Int32.ofNat 0 from rfl, n_add, Nat.zero_add],
      if_neg (fun e => absurd ((n_le w x (by omega) (by omega)).mp e) (by omega)), if_neg (show ¬ Int32.ofNat y < 0 from fun e => absurd ((n_lt y 0 (by omega) (by omega)).mp e) (by omega)), show (0 + Int32.ofNat h : Int32) = Int32.ofNat h from by rw [show (0 : Int32) = Int32.ofNat 0 from rfl, n_add, Nat.zero_add],
      if_neg (fun e => absurd ((n_le h y (by omega) (by omega)).mp e) (by omega))]
    rfl
  have c0 : τ.2.2.1 48 0 = σ.2.2.1 1 6 := t.sc4 0 (by omega)
  have c1 : τ.2.2.1 48 1 = σ.2.2.1 1 7 := t.sc4 1 (by omega)
  have c2 : τ.2.2.1 48 2 = σ.2.2.1 1 8 := t.sc4 2 (by omega)
  have c3 : τ.2.2.1 48 3 = σ.2.2.1 1 9 := t.sc4 3 (by omega)
  simp only [F_Told_isOpen_61, F_Told_isOpen_60, F_Told_isOpen_56, F_Told_isOpen, F_Ptm_isOpen_71, F_Ptm_isOpen_70, F_Ptm_isOpen_52, F_Ptm_isOpen_51, F_Ptm_isOpen_47, F_Ptm_isOpen, inF, bd_def, c0, c1, c2, c3, t.sc, lt_def, ck_true, ck_pos (show ((0 : Int32) = 0 ∨ (0 : Int32) = 1) from Or.inl rfl), ck_pos (show ((1 : Int32) = 0 ∨ (1 : Int32) = 1) from Or.inr rfl), if_neg (show ¬ (1 : Int32) = 0 by decide)]
  by_cases d : σ.2.2.1 1 8 < σ.2.2.1 1 6
  · simp only [if_pos d]
    exact ⟨1, rfl, by simp [ck]⟩
  · simp only [if_neg d, if_neg (show ¬ (1 : Int32) = 0 by decide)]
    by_cases d1 : Int32.ofNat x < σ.2.2.1 1 6
    · simp only [if_pos d1]; exact ⟨0, rfl, rfl⟩
    · simp only [if_neg d1]
      by_cases d2 : σ.2.2.1 1 8 ≤ Int32.ofNat x
      · simp only [if_pos d2]; exact ⟨0, rfl, by simp [ck]⟩
      · simp only [if_neg d2]
        by_cases d3 : Int32.ofNat y < σ.2.2.1 1 7
        · simp only [if_pos d3]; exact ⟨0, rfl, rfl⟩
        · simp only [if_neg d3]
          by_cases d4 : σ.2.2.1 1 9 ≤ Int32.ofNat y
          · simp only [if_pos d4, if_neg (show ¬ Int32.ofNat y < σ.2.2.1 1 9 by grind)]; exact ⟨0, rfl, rfl⟩
          · simp only [if_neg d4, if_pos (show Int32.ofNat y < σ.2.2.1 1 9 by grind)]; exact ⟨1, rfl, rfl⟩
