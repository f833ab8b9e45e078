/-! the state allows a command, on both sides; nothing of the machine moved -/
def cP (p : Nat → Nat → Bool) : Bool := bP p && (!p 0 0 && !p 0 1 && !p 1 0 && !p 2 0 && !p 2 2 && !p 2 3 && !p 2 4 && !p 2 10 && !p 2 29 && !p 2 30 && !p 4 0 && !p 4 5 && !p 4 6)
def cQ (q : Nat → Nat → Bool) : Bool := bQ q && (!q 0 29 && !q 0 30 && !q 0 31 && !q 0 32 && !q 1 0 && !q 2 0 && !q 2 45 && !q 2 46 && !q 2 47 && !q 2 55 && !q 2 56)
theorem nt {b : Bool} (h : (!b) = true) : b = false := by cases b <;> first | rfl | cases h
theorem Bas.same {p q : Nat → Nat → Bool} {σ σ' τ τ' : Sg} {w h : Nat} (a : Bas σ τ w h) (hs : Fr p σ σ') (ht : Fr q τ τ') (hp : cP p = true) (hq : cQ q = true) : Bas σ' τ' w h := by
  unfold cP at hp
  unfold cQ at hq
  simp only [Bool.and_eq_true] at hp hq
  obtain ⟨hp1, ⟨⟨⟨⟨⟨⟨⟨⟨⟨⟨⟨⟨p1, p2⟩, p3⟩, p4⟩, p5⟩, p6⟩, p7⟩, p8⟩, p9⟩, p10⟩, p11⟩, p12⟩, p13⟩⟩ := hp
  obtain ⟨hq1, ⟨⟨⟨⟨⟨⟨⟨⟨⟨⟨q1, q2⟩, q3⟩, q4⟩, q5⟩, q6⟩, q7⟩, q8⟩, q9⟩, q10⟩, q11⟩⟩ := hq
  refine a.tr hs ht hp1 hq1 ?_ ?_ ?_ ?_ ?_ ?_ ?_
  · have b := a.pic
    refine ⟨b.w1, b.h1, ?_, ?_, ?_, ?_, ?_, ?_, ?_, ?_, ?_, ?_, ?_⟩
    · rw [hs.1 0 (nt p1)]; exact b.cw
    · rw [hs.1 1 (nt p2)]; exact b.ch
    · rw [ht.1 31 (nt q3)]; exact b.mw
    · rw [ht.1 32 (nt q4)]; exact b.mh
    · rw [ht.1 29 (nt q1)]; exact b.x0
    · rw [ht.1 30 (nt q2)]; exact b.y0
    · rw [hs.2.2.2.2 0 (nt p11)]; exact b.cap
    · rw [hs.2.2.2.2 0 (nt p11)]; exact b.cap2
    · rw [ht.2.2.1 45 (nt q7), hs.2.2.1 2 (nt p5)]; exact b.col
    · rw [ht.2.2.1 46 (nt q8), hs.2.2.1 3 (nt p6)]; exact b.dep
    · rw [ht.2.2.1 47 (nt q9), hs.2.2.1 4 (nt p7)]; exact b.ste
  · rw [ht.2.2.1 0 (nt q6), hs.2.2.1 0 (nt p4)]; exact a.mem
  · rw [hs.2.2.1 10 (nt p8)]; exact a.zer
  · rw [ht.2.2.1 56 (nt q11), hs.2.2.1 29 (nt p9)]; exact a.cnt
  · rw [ht.2.2.1 55 (nt q10), hs.2.2.1 30 (nt p10)]; exact a.qry
  · rw [hs.2.2.2.2 5 (nt p12), hs.2.2.2.2 6 (nt p13)]; exact a.n56
  · rw [ht.2.1 0 (nt q5), hs.2.1 0 (nt p3)]; exact a.wrk
def Ldd (σ τ : Sg) (p pid st : Nat) : Prop := ∃ ω N, Loaded ω N (rdb (σ.1 (24 + 3 * pid))) pid p σ τ ∧ σ.1 (23 + 3 * pid) = τ.1 st
theorem row7 : F_Cmd_rowOf 7 0 = some (Int32.ofNat 1120) ∧ F_Cmd_rowOf 8 0 = some (Int32.ofNat 1280) := by decide
theorem PrR.q {σ τ : Sg} {p pid row st : Nat} (a : PrR σ τ p pid row st) : (σ.1 (22 + 3 * pid) ≤ 0 ∧ τ.2.2.1 4 row < 0) ∨ (¬ σ.1 (22 + 3 * pid) ≤ 0 ∧ ¬ τ.2.2.1 4 row < 0 ∧ Ldd σ τ p pid st) := by
  rcases a with ⟨a1, a2⟩ | ⟨a1, ω, N, a2, a3⟩
  · left
    rw [a1, a2]; exact ⟨by decide, by decide⟩
  · right
    obtain ⟨⟨n1, n2, -, -⟩, ⟨-, m1, -⟩, -⟩ := id a2
    refine ⟨?_, fun e => ?_, ω, N, a2, a3⟩
    · rw [m1]; exact fun e : Int32.ofNat N ≤ 0 => absurd ((n_le N 0 (by omega) (by omega)).mp e) (by omega)
    · have := Int32.lt_iff_toInt_lt.mp e
      have z : (0 : Int32).toInt = 0 := rfl
      omega
theorem e_fits (σ τ : Sg) (w h K d : Nat) (b : Bas σ τ w h) (hK : K < 26) (hk : σ.1 3 = Int32.ofNat K) (hd : σ.1 4 = Int32.ofNat d) (hd2 : τ.1 12 = Int32.ofNat d) (hd4 : d ≤ 4) (ha : K = 19 → τ.2.2.1 3 0 = σ.2.2.1 5 0 ∧ τ.2.2.1 3 1 = σ.2.2.1 5 1) :
    ∃ x : Bool, F_DM_stateAllows σ = some (bI x) ∧ F_Cmd_fitsState τ (Int32.ofNat K) = some (bI x) ∧ (x = true → ((K = 17 ∨ K = 18) → Ldd σ τ 0 (σ.2.2.2.2 2) 5 ∧ Ldd σ τ 1 (σ.2.2.2.2 3) 6) ∧ (K = 23 → d < 4)) := by
  by_cases c1 : K = 17 ∨ K = 18
  · have x1 : F_DM_stateAllows σ = F_DM_stateAllows_56 σ := by
      unfold F_DM_stateAllows; rw [hk]; rcases c1 with rfl | rfl <;> rfl
    have x2 : F_Cmd_fitsState τ (Int32.ofNat K) = F_Cmd_fitsState_44 τ := by
      rcases c1 with rfl | rfl <;> rfl
    rw [x1, x2]
    unfold F_DM_stateAllows_56 F_Cmd_fitsState_44 F_DM_stateAllows_80 F_DM_stateAllows_81 F_Cmd_fitsState_76 F_Cmd_fitsState_77
    rw [lt_def, ck_pos b.ids.1.1, row7.1, bd_def, ck_pos (n_inb 1120 4160 (by omega) (by omega)), n_nat 1120 (by omega), lt_def, ck_pos b.ids.1.2.1, row7.2, bd_def, ck_pos (n_inb 1280 4160 (by omega) (by omega)), n_nat 1280 (by omega)]
    rcases b.pr1.q with ⟨g1, g2⟩ | ⟨g1, g2, g3⟩
    · rw [if_pos g1, if_pos g2]
      exact ⟨false, rfl, rfl, fun e => by cases e⟩
    · rw [if_neg g1, if_neg g2]
      rcases b.pr2.q with ⟨k1, k2⟩ | ⟨k1, k2, k3⟩
      · rw [if_pos k1, if_pos k2]
        exact ⟨false, rfl, rfl, fun e => by cases e⟩
      · rw [if_neg k1, if_neg k2]
        exact ⟨true, rfl, rfl, fun _ => ⟨fun _ => ⟨g3, k3⟩, fun e => by omega⟩⟩
  by_cases c2 : K = 19
  · obtain ⟨a0, a1⟩ := ha c2
    subst c2
    have x1 : F_DM_stateAllows σ = (if (σ.2.2.1 5 1) = 1 then (F_DM_stateAllows_103 σ (σ.1 15) (-1)) else (F_DM_stateAllows_103 σ (σ.1 15) (σ.2.2.1 5 0))) := by
      unfold F_DM_stateAllows; rw [hk]; rfl
    have x2 : F_Cmd_fitsState τ (Int32.ofNat 19) = (if (τ.2.2.1 3 1) = (1 : Int32) then (if (τ.1 18) = (-1) then (F_Cmd_fitsState_122 τ 1) else (F_Cmd_fitsState_122 τ 0)) else (if (τ.1 18) = (τ.2.2.1 3 0) then (F_Cmd_fitsState_122 τ 1) else (F_Cmd_fitsState_122 τ 0))) := rfl
    rw [x1, x2, a0, a1, b.oq]
    unfold F_DM_stateAllows_103 F_DM_stateAllows_111 F_Cmd_fitsState_122
    by_cases e1 : σ.2.2.1 5 1 = 1
    · rw [if_pos e1]
      by_cases e2 : σ.1 15 = -1
      · rw [if_pos e2]; exact ⟨true, rfl, rfl, fun _ => ⟨fun e => by omega, fun e => by omega⟩⟩
      · rw [if_neg e2]; exact ⟨false, rfl, rfl, fun e => by cases e⟩
    · rw [if_neg e1]
      by_cases e2 : σ.1 15 = σ.2.2.1 5 0
      · rw [if_pos e2]; exact ⟨true, rfl, rfl, fun _ => ⟨fun e => by omega, fun e => by omega⟩⟩
      · rw [if_neg e2]; exact ⟨false, rfl, rfl, fun e => by cases e⟩
  by_cases c3 : K = 23
  · subst c3
    have x1 : F_DM_stateAllows σ = (if 4 ≤ (σ.1 4) then (F_DM_stateAllows_128 σ 0) else (F_DM_stateAllows_128 σ 1)) := by
      unfold F_DM_stateAllows; rw [hk]; rfl
    have x2 : F_Cmd_fitsState τ (Int32.ofNat 23) = (if (4 : Int32) ≤ (τ.1 12) then (F_Cmd_fitsState_136 τ 0) else (F_Cmd_fitsState_136 τ 1)) := rfl
    rw [x1, x2, hd, hd2]
    have g : ((4 : Int32) ≤ Int32.ofNat d) ↔ 4 ≤ d := n_le 4 d (by omega) (by omega)
    by_cases e : 4 ≤ d
    · rw [if_pos (g.mpr e), if_pos (g.mpr e)]; exact ⟨false, rfl, rfl, fun e => by cases e⟩
    · rw [if_neg (fun q => e (g.mp q)), if_neg (fun q => e (g.mp q))]; exact ⟨true, rfl, rfl, fun _ => ⟨fun e => by omega, fun _ => by omega⟩⟩
  refine ⟨true, ?_, ?_, fun _ => ⟨fun e => absurd e c1, fun e => absurd e c3⟩⟩
  · unfold F_DM_stateAllows
    rw [hk]
    have hKc : K = 0 ∨ K = 1 ∨ K = 2 ∨ K = 3 ∨ K = 4 ∨ K = 5 ∨ K = 6 ∨ K = 7 ∨ K = 8 ∨ K = 9 ∨ K = 10 ∨ K = 11 ∨ K = 12 ∨ K = 13 ∨ K = 14 ∨ K = 15 ∨ K = 16 ∨ K = 20 ∨ K = 21 ∨ K = 22 ∨ K = 24 ∨ K = 25 := by omega
    rcases hKc with rfl | rfl | rfl | rfl | rfl | rfl | rfl | rfl | rfl | rfl | rfl | rfl | rfl | rfl | rfl | rfl | rfl | rfl | rfl | rfl | rfl | rfl <;> rfl
  · have hKc : K = 0 ∨ K = 1 ∨ K = 2 ∨ K = 3 ∨ K = 4 ∨ K = 5 ∨ K = 6 ∨ K = 7 ∨ K = 8 ∨ K = 9 ∨ K = 10 ∨ K = 11 ∨ K = 12 ∨ K = 13 ∨ K = 14 ∨ K = 15 ∨ K = 16 ∨ K = 20 ∨ K = 21 ∨ K = 22 ∨ K = 24 ∨ K = 25 := by omega
    rcases hKc with rfl | rfl | rfl | rfl | rfl | rfl | rfl | rfl | rfl | rfl | rfl | rfl | rfl | rfl | rfl | rfl | rfl | rfl | rfl | rfl | rfl | rfl <;> rfl
