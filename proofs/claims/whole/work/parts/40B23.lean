/-! a step, on both sides -/
def pGo : Nat → Nat → Bool := fun c k => (c == 0 && (k == 4 || k == 5 || k == 6 || k == 9 || k == 10)) || (c == 2 && k == 6)
def qGo : Nat → Nat → Bool := fun c k => (c == 0 && (k == 7 || (11 ≤ k && k ≤ 17) || k == 19)) || (c == 2 && (k == 2 || k == 57))
theorem cP_Go : cP pGo = true := by decide
theorem cQ_Go : cQ qGo = true := by decide
def StepR (σ τ : Sg) (w h sz : Nat) : Prop := ∃ σ0 r0 σ1 r σ2 τ2 ok, F_DM_refusal σ = some (σ0, r0) ∧ ((¬ r0 = 0 ∧ σ1 = σ0 ∧ r = r0) ∨ (r0 = 0 ∧ cDo σ0 = some (σ1, r))) ∧ F_Cou_goOn σ1 r = some σ2 ∧ F_Mod_step τ = some (τ2, ok) ∧ Bas σ2 τ2 w h ∧ Cou σ2 τ2 sz ∧ τ2.1 0 = τ.1 0 ∧ (σ2.2.2.2.2 0 = σ.2.2.2.2 0 ∧ σ2.2.2.2.2 1 = σ.2.2.2.2 1) ∧ ((r = 0 ∧ ok = 1 ∧ σ2.1 5 = σ.1 5 + 1 ∧ σ.1 5 < 2000) ∨ (ok = 0 ∧ σ2.1 9 = 1 ∧ σ2.1 5 = σ.1 5))
theorem dn_up {x : Int32} (h : rg x 0 2000) (h2 : x < 2000) : rg (x + 1) 0 2000 := by
  have h3 := Int32.lt_iff_toInt_lt.mp h2
  have z : (2000 : Int32).toInt = 2000 := rfl
  obtain ⟨x0, x1, x2⟩ := rgN h (by omega)
  generalize x.toNatClampNeg = n at *
  subst x0
  rw [n_int n (by omega), z] at h3
  rw [n_succ]
  exact ⟨by rw [n_int _ (by omega)]; omega, by rw [n_int _ (by omega)]; omega⟩
theorem e_step (σ τ : Sg) (w h sz : Nat) (b : Bas σ τ w h) (c : Cou σ τ sz) (h9 : σ.1 9 = 0) : StepR σ τ w h sz := by
  obtain ⟨p, d, cu⟩ := c.cur h9
  have hz := c.z
  have hL := Li_le sz d hz
  have hpz := cu.pz
  obtain ⟨τ4, sv, F4, v0, -, v2, -⟩ := e_save τ
  have b4 : Bas σ τ4 w h := b.same (p := fun _ _ => false) Fr.rfl F4 (by decide) (by decide)
  have i13 : τ4.1 13 = 0 := by rw [F4.1 13 rfl, c.ov, h9]
  have i11 : τ4.1 11 = Int32.ofNat p := by rw [F4.1 11 rfl, cu.p2]
  have i12 : τ4.1 12 = Int32.ofNat d := by rw [F4.1 12 rfl, cu.d2]
  let τa := sI (sI (sI τ4 7 0) 15 (τ4.1 11)) 16 (τ4.1 12)
  have Fa : Fr (fun c k => c == 0 && (k == 7 || k == 15 || k == 16)) τ4 τa := fr_sI (fr_sI (fr_sI Fr.rfl 7 _ rfl) 15 _ rfl) 16 _ rfl
  have ba : Bas σ τa w h := b4.same (p := fun _ _ => false) Fr.rfl Fa (by decide) (by decide)
  have a10 : τa.1 10 = Int32.ofNat sz := by rw [Fa.1 10 rfl, F4.1 10 rfl]; exact c.s2
  have a11 : τa.1 11 = Int32.ofNat p := by rw [Fa.1 11 rfl]; exact i11
  have a12 : τa.1 12 = Int32.ofNat d := by rw [Fa.1 12 rfl]; exact i12
  have a15 : τa.1 15 = Int32.ofNat p := i11
  have a16 : τa.1 16 = Int32.ofNat d := i12
  have a17 : τa.1 17 = σ.1 5 := by rw [Fa.1 17 rfl, F4.1 17 rfl]; exact c.dn
  have aw : τa.2.2.1 1 = τ.2.2.1 1 := by rw [Fa.2.2.1 1 rfl, F4.2.2.1 1 rfl]
  have ar : τa.2.2.1 2 = τ.2.2.1 2 := by rw [Fa.2.2.1 2 rfl, F4.2.2.1 2 rfl]
  have a0 : τa.1 0 = τ.1 0 := by rw [Fa.1 0 rfl, F4.1 0 rfl]
  have ca : Cur σ τa sz p d := ⟨cu.p1, a11, cu.d1, a12, cu.d4, cu.pz, by rw [ar]; exact cu.rt⟩
  have rd : RdOK τa sz d (Sr σ d) := by
    refine ⟨hz, a10, cu.d4, a12, fun x hx => ?_⟩
    unfold Sr
    unfold Li at hx
    by_cases e : d = 0
    · rw [if_pos e, if_pos e, aw]; rw [if_pos e] at hx; exact c.wd x hx
    · rw [if_neg e, if_neg e, ba.mem]
  obtain ⟨σ0, r0, hr, F0, j7, j8, hcs⟩ := e_refusal σ τa w h sz p d ba ca hz c.zn c.n4 c.s1 rd a17 c.dnr
  have n1 : σ0.2.2.2.2 1 = σ.2.2.2.2 1 := F0.2.2.2.2 1 rfl
  have n0 : σ0.2.2.2.2 0 = σ.2.2.2.2 0 := F0.2.2.2.2 0 rfl
  have w7 : σ0.2.2.1 7 = σ.2.2.1 7 := F0.2.2.1 7 rfl
  rcases hcs with ⟨h1, τ', h2, h3⟩ | ⟨h1, ⟨e1, e2, e3, e4, e5⟩, h3⟩ | ⟨h1, h7, K, M, τ', h2, h3, hc⟩
  · -- refused
    have nr : ¬ r0 = 0 := by rcases h1 with q | q | q | q | q | q <;> rw [q] <;> decide
    have nr' : ¬ r0 ≤ 0 := by rcases h1 with q | q | q | q | q | q <;> rw [q] <;> decide
    have nx := next_no τ4 τ' r0 i13 h2 nr'
    have G : Fr (fun c k => qLk c k || (c == 0 && (k == 13 || k == 14))) τa (sI (sI (sI τ' 14 r0) 13 1) 19 0) := fr_sI (fr_sI (fr_sI (h3.weak (by intro a b; grind)) 14 _ rfl) 13 _ rfl) 19 _ rfl
    have FG : Fr (fun c k => pFe c k || (c == 0 && (k == 6 || k == 9))) σ (sI (sI σ0 6 r0) 9 1) := fr_sI (fr_sI (F0.weak (by intro a b; grind)) 6 _ rfl) 9 _ rfl
    refine ⟨σ0, r0, σ0, r0, _, _, 0, hr, Or.inl ⟨nr, rfl, rfl⟩, go_no σ0 r0 nr, ?_, ba.same FG G (by decide) (by decide), ?_, ?_, ⟨FG.2.2.2.2 0 rfl, FG.2.2.2.2 1 rfl⟩, Or.inr ⟨rfl, rfl, ?_⟩⟩
    · rw [sv, nx, bd_def]; rfl
    · refine ⟨hz, ?_, ?_, ?_, ?_, ?_, rfl, Or.inr rfl, rfl, ?_, ?_, ?_, ?_, fun e => absurd (show (1 : Int32) = 0 from e) (by decide)⟩
      · show sz ≤ σ0.2.2.2.2 1; rw [n1]; exact c.zn
      · show σ0.2.2.2.2 1 ≤ 4096; rw [n1]; exact c.n4
      · rw [FG.1 2 rfl]; exact c.s1
      · rw [G.1 10 rfl]; exact a10
      · rw [G.2.2.1 1 rfl, FG.2.2.1 7 rfl, aw]; exact c.wd
      · rw [G.1 15 rfl, a15]; exact j7.symm
      · rw [G.1 16 rfl, a16]; exact j8.symm
      · rw [G.1 17 rfl, FG.1 5 rfl]; exact a17
      · rw [FG.1 5 rfl]; exact c.dnr
    · rw [G.1 0 rfl]; exact a0
    · rw [FG.1 5 rfl]
  · -- the end of the stream
    subst h1
    have nx := next_end τ4 _ sz i13 h3 (by show τa.1 12 = 0; rw [a12, e2]; rfl) (by show τa.1 11 = τa.1 10; rw [a11, a10]; unfold Li at e1; rw [if_pos e2] at e1; rw [e1])
    have k4 : σ0.1 4 = 0 := by rw [F0.1 4 rfl, cu.d1, e2]; rfl
    have g0 := go_end σ0 e3 k4
    have G : Fr (fun c k => c == 0 && (k == 11 || k == 13 || k == 17 || k == 19)) τa (sI (sI (sI (sI τa 19 0) 17 ((sI τa 19 0).1 17 + 1)) 11 ((sI τa 19 0).1 11)) 13 1) := fr_sI (fr_sI (fr_sI (fr_sI Fr.rfl 19 _ rfl) 17 _ rfl) 11 _ rfl) 13 _ rfl
    have FG : Fr (fun c k => pFe c k || pGo c k) σ (sI (sI (sI σ0 5 (σ0.1 5 + 1)) 10 (σ0.1 10 + σ0.1 11)) 9 1) := fr_sI (fr_sI (fr_sI (F0.weak (by intro a b; grind)) 5 _ rfl) 10 _ rfl) 9 _ rfl
    have q5 : (sI (sI (sI σ0 5 (σ0.1 5 + 1)) 10 (σ0.1 10 + σ0.1 11)) 9 1).1 5 = σ.1 5 + 1 := by show σ0.1 5 + 1 = _; rw [F0.1 5 rfl]
    refine ⟨σ0, 0, σ0, 0, _, _, 1, hr, Or.inr ⟨rfl, cDo_none σ0 0 e3 (Or.inl rfl)⟩, g0, ?_, ba.same FG G (by decide) (by decide), ?_, ?_, ⟨FG.2.2.2.2 0 rfl, FG.2.2.2.2 1 rfl⟩, Or.inl ⟨rfl, rfl, q5, e5⟩⟩
    · rw [sv, nx, bd_def]; rfl
    · refine ⟨hz, ?_, ?_, ?_, ?_, ?_, rfl, Or.inr rfl, ?_, ?_, ?_, ?_, ?_, fun e => absurd (show (1 : Int32) = 0 from e) (by decide)⟩
      · show sz ≤ σ0.2.2.2.2 1; rw [n1]; exact c.zn
      · show σ0.2.2.2.2 1 ≤ 4096; rw [n1]; exact c.n4
      · rw [FG.1 2 rfl]; exact c.s1
      · rw [G.1 10 rfl]; exact a10
      · rw [G.2.2.1 1 rfl, FG.2.2.1 7 rfl, aw]; exact c.wd
      · rw [G.1 14 rfl, Fa.1 14 rfl, F4.1 14 rfl]; show τ.1 14 = σ0.1 6; rw [F0.1 6 rfl]; exact c.re
      · rw [G.1 15 rfl, a15]; exact j7.symm
      · rw [G.1 16 rfl, a16]; exact j8.symm
      · rw [q5]; show τa.1 17 + 1 = _; rw [a17]
      · rw [q5]; exact dn_up c.dnr e5
    · rw [G.1 0 rfl]; exact a0
  · -- a command
    subst h1
    obtain ⟨t1, t2, t3, t4, t5, -, t8, t9, t10⟩ := id hc.at_
    have rd' : RdOK τ' sz d (Sr σ d) := rd.tr h3 rfl rfl rfl rfl
    have b11 : τ'.1 11 = Int32.ofNat p := by rw [h3.1 11 rfl]; exact a11
    have nx := next_cmd τ4 τ' sz p d K M (Sr σ d) i13 h2 rd' b11 t1 t3 hc.m19
    generalize hτp : sI (sI τ' 17 (τ'.1 17 + 1)) 11 (Int32.ofNat (p + 1 + M)) = τp at nx
    have Fp : Fr (fun c k => c == 0 && (k == 11 || k == 17)) τ' τp := by rw [← hτp]; exact fr_sI (fr_sI Fr.rfl 17 _ rfl) 11 _ rfl
    have p11 : τp.1 11 = Int32.ofNat (p + 1 + M) := by rw [← hτp]; rfl
    have p17 : τp.1 17 = σ.1 5 + 1 := by rw [← hτp]; show τ'.1 17 + 1 = _; rw [h3.1 17 rfl, a17]
    have Gp : Fr (fun c k => qLk c k || (c == 0 && (k == 11 || k == 17))) τa τp := (h3.weak (by intro a b; grind)).trans (Fp.weak (by intro a b; grind))
    have bp : Bas σ0 τp w h := ba.same F0 Gp (by decide) (by decide)
    have hS : Sr σ d = Sr σ0 d := by unfold Sr; rw [w7, F0.2.2.1 0 rfl]
    have cp := hc.tr Fp
    rw [hS] at cp
    have k10 : σ0.1 10 = Int32.ofNat p := by rw [F0.1 10 rfl]; exact cu.p1
    have k4 : σ0.1 4 = Int32.ofNat d := by rw [F0.1 4 rfl]; exact cu.d1
    have k5 : σ0.1 5 = σ.1 5 := F0.1 5 rfl
    have k57 : τp.2.2.1 57 0 = τp.2.2.1 4 1120 ∧ τp.2.2.1 57 2 = τp.2.2.1 4 1280 := by
      rw [Gp.2.2.1 57 rfl, Gp.2.2.1 4 rfl, Fa.2.2.1 57 rfl, Fa.2.2.1 4 rfl, F4.2.2.1 4 rfl]; exact ⟨v0, v2⟩
    have epos : Int32.ofNat p + Int32.ofNat (1 + M) = Int32.ofNat (p + 1 + M) := by rw [n_add, Nat.add_assoc]
    have sf : F_Mod_step τ = bd (bd (F_Cmd_perform τp (Int32.ofNat K)) (fun o => some (o, Int32.ofNat K))) rDo := by rw [sv, nx]
    -- facts that any course end needs
    have fin : ∀ (σ2 τ2 : Sg) (P : Nat → Nat → Bool) (Q : Nat → Nat → Bool), Fr P σ0 σ2 → Fr Q τp τ2 → (P 4 1 = false ∧ P 0 2 = false ∧ P 2 7 = false ∧ P 0 7 = false ∧ P 0 8 = false) → (Q 0 10 = false ∧ Q 2 1 = false ∧ Q 0 15 = false ∧ Q 0 16 = false ∧ Q 0 0 = false) → τ2.1 13 = σ2.1 9 → (σ2.1 9 = 0 ∨ σ2.1 9 = 1) → τ2.1 14 = σ2.1 6 → τ2.1 17 = σ2.1 5 → rg (σ2.1 5) 0 2000 → (σ2.1 9 = 0 → ∃ p d, Cur σ2 τ2 sz p d) → Cou σ2 τ2 sz ∧ τ2.1 0 = τ.1 0 := by
      intro σ2 τ2 P Q hP hQ ⟨u1, u2, u3, u4, u5⟩ ⟨x1, x2, x3, x4, x5⟩ y1 y2 y3 y4 y5 y6
      refine ⟨⟨hz, ?_, ?_, ?_, ?_, ?_, y1, y2, y3, ?_, ?_, y4, y5, y6⟩, ?_⟩
      · rw [hP.2.2.2.2 1 u1, n1]; exact c.zn
      · rw [hP.2.2.2.2 1 u1, n1]; exact c.n4
      · rw [hP.1 2 u2, F0.1 2 rfl]; exact c.s1
      · rw [hQ.1 10 x1, Gp.1 10 rfl]; exact a10
      · rw [hQ.2.2.1 1 x2, hP.2.2.1 7 u3, Gp.2.2.1 1 rfl, aw, w7]; exact c.wd
      · rw [hQ.1 15 x3, Gp.1 15 rfl, a15, hP.1 7 u4]; exact j7.symm
      · rw [hQ.1 16 x4, Gp.1 16 rfl, a16, hP.1 8 u5]; exact j8.symm
      · rw [hQ.1 0 x5, Gp.1 0 rfl]; exact a0
    have p14 : τp.1 14 = σ.1 6 := by rw [Gp.1 14 rfl, Fa.1 14 rfl, F4.1 14 rfl]; exact c.re
    have p13 : τp.1 13 = 0 := by rw [Gp.1 13 rfl, Fa.1 13 rfl]; exact i13
    have p12 : τp.1 12 = Int32.ofNat d := by rw [Gp.1 12 rfl]; exact a12
    have p2 : τp.2.2.1 2 = τ.2.2.1 2 := by rw [Gp.2.2.1 2 rfl]; exact ar
    have l6 : σ0.2.2.1 6 = σ.2.2.1 6 := F0.2.2.1 6 rfl
    have l9 : σ0.1 9 = 0 := by rw [F0.1 9 rfl]; exact h9
    by_cases z0 : K = 0
    · -- END
      subst z0
      have hM : M = 0 := t5
      rw [hM] at t9
      by_cases zd : d = 0
      · have g0 := go_end σ0 t8 (by rw [k4, zd]; rfl)
        have G : Fr (fun c k => c == 0 && k == 13) τp (sI τp 13 1) := fr_sI Fr.rfl 13 _ rfl
        have FG : Fr pGo σ0 (sI (sI (sI σ0 5 (σ0.1 5 + 1)) 10 (σ0.1 10 + σ0.1 11)) 9 1) := fr_sI (fr_sI (fr_sI Fr.rfl 5 _ rfl) 10 _ rfl) 9 _ rfl
        have q5 : (sI (sI (sI σ0 5 (σ0.1 5 + 1)) 10 (σ0.1 10 + σ0.1 11)) 9 1).1 5 = σ.1 5 + 1 := by show σ0.1 5 + 1 = _; rw [k5]
        obtain ⟨c1, c2⟩ := fin _ _ _ _ FG G (by decide) (by decide) rfl (Or.inr rfl) (by show τp.1 14 = σ0.1 6; rw [p14, F0.1 6 rfl]) (by rw [q5]; exact p17) (by rw [q5]; exact dn_up c.dnr h7) (fun e => absurd (show (1 : Int32) = 0 from e) (by decide))
        refine ⟨σ0, 0, σ0, 0, _, _, 1, hr, Or.inr ⟨rfl, cDo_none σ0 0 t8 (Or.inl rfl)⟩, g0, ?_, bp.same FG G (by decide) (by decide), c1, c2, ⟨by rw [FG.2.2.2.2 0 rfl, n0], by rw [FG.2.2.2.2 1 rfl, n1]⟩, Or.inl ⟨rfl, rfl, q5, h7⟩⟩
        have pf : F_Cmd_perform τp (Int32.ofNat 0) = some (sI τp 13 1) := by
          unfold F_Cmd_perform F_Cmd_perform_65 F_Cmd_perform_272
          rw [if_pos (show Int32.ofNat 0 = 0 from rfl), p12, zd, if_pos (show Int32.ofNat 0 = 0 from rfl), ck_pos (Or.inr rfl), lt_def, show (sI τp 13 1).1 12 = τp.1 12 from rfl, p12, zd, if_pos (by decide)]
        rw [sf, pf]; rfl
      · obtain ⟨e, he⟩ : ∃ e, d = e + 1 := ⟨d - 1, by omega⟩
        subst he
        have d4 := cu.d4
        obtain ⟨qr, r1, r2, r3⟩ := cu.rt e (by omega)
        have g0 := go_pop σ0 e t8 k4 (by omega)
        have G : Fr (fun c k => c == 0 && (k == 11 || k == 12 || k == 13)) τp (sI (sI (sI τp 13 0) 12 (Int32.ofNat e)) 11 (τp.2.2.1 2 e)) := fr_sI (fr_sI (fr_sI Fr.rfl 13 _ rfl) 12 _ rfl) 11 _ rfl
        have FG : Fr pGo σ0 (sI (sI (sI (sI σ0 5 (σ0.1 5 + 1)) 10 (σ0.1 10 + σ0.1 11)) 4 (Int32.ofNat e)) 10 (σ0.2.2.1 6 e)) := fr_sI (fr_sI (fr_sI (fr_sI Fr.rfl 5 _ rfl) 10 _ rfl) 4 _ rfl) 10 _ rfl
        have q5 : (sI (sI (sI (sI σ0 5 (σ0.1 5 + 1)) 10 (σ0.1 10 + σ0.1 11)) 4 (Int32.ofNat e)) 10 (σ0.2.2.1 6 e)).1 5 = σ.1 5 + 1 := by show σ0.1 5 + 1 = _; rw [k5]
        obtain ⟨c1, c2⟩ := fin _ _ _ _ FG G (by decide) (by decide) (by show (0 : Int32) = σ0.1 9; exact l9.symm) (Or.inl l9) (by show τp.1 14 = σ0.1 6; rw [p14, F0.1 6 rfl]) (by rw [q5]; exact p17) (by rw [q5]; exact dn_up c.dnr h7) (fun _ => ⟨qr, e, by show σ0.2.2.1 6 e = _; rw [l6]; exact r1, by show τp.2.2.1 2 e = _; rw [p2]; exact r2, rfl, rfl, by omega, r3, fun j hj => by
          obtain ⟨x, x1, x2, x3⟩ := cu.rt j (by omega)
          exact ⟨x, by show σ0.2.2.1 6 j = _; rw [l6]; exact x1, by show τp.2.2.1 2 j = _; rw [p2]; exact x2, x3⟩⟩)
        refine ⟨σ0, 0, σ0, 0, _, _, 1, hr, Or.inr ⟨rfl, cDo_none σ0 0 t8 (Or.inl rfl)⟩, g0, ?_, bp.same FG G (by decide) (by decide), c1, c2, ⟨by rw [FG.2.2.2.2 0 rfl, n0], by rw [FG.2.2.2.2 1 rfl, n1]⟩, Or.inl ⟨rfl, rfl, q5, h7⟩⟩
        have es : Int32.ofNat (e + 1) - 1 = Int32.ofNat e := by rw [← n_succ, Int32.add_sub_cancel]
        have pf : F_Cmd_perform τp (Int32.ofNat 0) = some (sI (sI (sI τp 13 0) 12 (Int32.ofNat e)) 11 (τp.2.2.1 2 e)) := by
          unfold F_Cmd_perform F_Cmd_perform_65 F_Cmd_perform_272
          rw [if_pos (show Int32.ofNat 0 = 0 from rfl), p12, if_neg (show ¬ Int32.ofNat (e + 1) = 0 from fun q => absurd ((n_inj (e + 1) 0 (by omega) (by omega)).mp q) (by omega)), ck_pos (Or.inl rfl), lt_def, show (sI τp 13 0).1 12 = τp.1 12 from rfl, p12, if_neg (show ¬ Int32.ofNat (e + 1) ≤ 0 from fun q => absurd ((n_le (e + 1) 0 (by omega) (by omega)).mp q) (by omega)), lt_def, es, show (sI (sI τp 13 0) 12 (Int32.ofNat e)).1 12 = Int32.ofNat e from rfl, ck_pos (n_inb e 4 (by omega) (by omega)), lt_def, n_nat e (by omega)]
          rfl
        rw [sf, pf]; rfl
    by_cases z23 : K = 23
    · -- CALL
      subst z23
      have hM : M = 1 := t5
      have dd := hc.deep rfl
      have av := allv_rg hc.at_
      obtain ⟨x0, -, -⟩ := rgN (av 0 (by decide)) (by decide)
      have l23 := hc.lie.2.2.2.2 rfl
      simp only at l23
      have g0 := go_call σ0 d t8 k4 dd
      rw [k10, t9, epos] at g0
      have m0 : τp.2.2.1 3 0 = σ0.2.2.1 5 0 := by rw [Fp.2.2.1 3 rfl, hc.arg 0 (by omega), t10 0 (by decide)]
      have G : Fr (fun c k => (c == 0 && (k == 11 || k == 12)) || (c == 2 && k == 2)) τp (sI (sI (sA τp 2 (upd (τp.2.2.1 2) d (Int32.ofNat (p + 1 + M)))) 12 (Int32.ofNat (d + 1))) 11 (σ0.2.2.1 5 0)) := fr_sI (fr_sI (fr_sA Fr.rfl 2 _ rfl) 12 _ rfl) 11 _ rfl
      have FG : Fr pGo σ0 (sI (sI (sA (sI (sI σ0 5 (σ0.1 5 + 1)) 10 (Int32.ofNat (p + 1 + M))) 6 (upd (σ0.2.2.1 6) d (Int32.ofNat (p + 1 + M)))) 4 (Int32.ofNat (d + 1))) 10 (σ0.2.2.1 5 0)) := fr_sI (fr_sI (fr_sA (fr_sI (fr_sI Fr.rfl 5 _ rfl) 10 _ rfl) 6 _ rfl) 4 _ rfl) 10 _ rfl
      have q5 : (sI (sI (sA (sI (sI σ0 5 (σ0.1 5 + 1)) 10 (Int32.ofNat (p + 1 + M))) 6 (upd (σ0.2.2.1 6) d (Int32.ofNat (p + 1 + M)))) 4 (Int32.ofNat (d + 1))) 10 (σ0.2.2.1 5 0)).1 5 = σ.1 5 + 1 := by show σ0.1 5 + 1 = _; rw [k5]
      obtain ⟨c1, c2⟩ := fin _ _ _ _ FG G (by decide) (by decide) (by show τp.1 13 = σ0.1 9; rw [p13, l9]) (Or.inl l9) (by show τp.1 14 = σ0.1 6; rw [p14, F0.1 6 rfl]) (by rw [q5]; exact p17) (by rw [q5]; exact dn_up c.dnr h7) (fun _ => ⟨(σ0.2.2.1 5 0).toNatClampNeg, d + 1, x0, x0, rfl, rfl, by omega, by unfold Li; rw [if_neg (by omega)]; omega, fun j hj => by
          by_cases cj : j = d
          · subst cj
            refine ⟨p + 1 + M, ?_, ?_, by omega⟩
            · show upd (σ0.2.2.1 6) j (Int32.ofNat (p + 1 + M)) j = _; rw [upd_eq]
            · show upd (τp.2.2.1 2) j (Int32.ofNat (p + 1 + M)) j = _; rw [upd_eq]
          · obtain ⟨x, x1, x2, x3⟩ := cu.rt j (by omega)
            refine ⟨x, ?_, ?_, x3⟩
            · show upd (σ0.2.2.1 6) d (Int32.ofNat (p + 1 + M)) j = _; rw [upd_ne _ _ _ _ cj, l6]; exact x1
            · show upd (τp.2.2.1 2) d (Int32.ofNat (p + 1 + M)) j = _; rw [upd_ne _ _ _ _ cj, p2]; exact x2⟩)
      refine ⟨σ0, 0, σ0, 0, _, _, 1, hr, Or.inr ⟨rfl, cDo_none σ0 23 t8 (Or.inr rfl)⟩, g0, ?_, bp.same FG G (by decide) (by decide), c1, c2, ⟨by rw [FG.2.2.2.2 0 rfl, n0], by rw [FG.2.2.2.2 1 rfl, n1]⟩, Or.inl ⟨rfl, rfl, q5, h7⟩⟩
      have pf : F_Cmd_perform τp (Int32.ofNat 23) = some (sI (sI (sA τp 2 (upd (τp.2.2.1 2) d (Int32.ofNat (p + 1 + M)))) 12 (Int32.ofNat (d + 1))) 11 (σ0.2.2.1 5 0)) := by
        show ck (inb (τp.1 12) 4) (lt (sA τp 2 (upd (τp.2.2.1 2) (τp.1 12).toNatClampNeg (τp.1 11))) (fun σ47 => lt (sI σ47 12 ((σ47.1 12) + 1)) (fun σ48 => lt (sI σ48 11 (σ48.2.2.1 3 0)) (fun σ49 => F_Cmd_perform_272 σ49)))) = _
        rw [p12, ck_pos (n_inb d 4 dd (by omega)), n_nat d (by omega), p11, lt_def, show (sA τp 2 (upd (τp.2.2.1 2) d (Int32.ofNat (p + 1 + M)))).1 12 = τp.1 12 from rfl, p12, n_succ, lt_def, show (sI (sA τp 2 (upd (τp.2.2.1 2) d (Int32.ofNat (p + 1 + M)))) 12 (Int32.ofNat (d + 1))).2.2.1 3 0 = τp.2.2.1 3 0 from rfl, m0, lt_def]
        rfl
      rw [sf, pf]; rfl
    -- any other
    obtain ⟨σ1, r, τ1, τ2, ok, d1, d2, d3, d5, d6, d7⟩ := do_all σ0 τp w h sz p d K M bp cp hz (by rw [n1]; exact c.zn) (by rw [n1]; exact c.n4) k10 k4 cu.d4 k57 z0 z23
    have sf2 : F_Mod_step τ = some (τ2, ok) := by rw [sf, d2, bd_def]; exact d3
    rcases d7 with ⟨rfl, rfl, G⟩ | ⟨nr, rfl, G, g13, g14, g17⟩
    · have g0 := go_cmd σ1 K t2 (by rw [d6.1 3 rfl]; exact t8) z0 z23
      rw [d6.1 5 rfl, d6.1 10 rfl, d6.1 11 rfl, k5, k10, t9, epos] at g0
      have FG : Fr (fun c k => pKs c k || (c == 0 && (k == 5 || k == 10))) σ0 (sI (sI σ1 5 (σ.1 5 + 1)) 10 (Int32.ofNat (p + 1 + M))) := fr_sI (fr_sI (d6.weak (by intro a b; grind)) 5 _ rfl) 10 _ rfl
      have FG' : Fr pGo σ1 (sI (sI σ1 5 (σ.1 5 + 1)) 10 (Int32.ofNat (p + 1 + M))) := fr_sI (fr_sI Fr.rfl 5 _ rfl) 10 _ rfl
      obtain ⟨c1, c2⟩ := fin _ _ _ _ FG G (by decide) (by decide) (by rw [G.1 13 rfl, p13, FG.1 9 rfl, l9]) (Or.inl (by rw [FG.1 9 rfl, l9])) (by rw [G.1 14 rfl, p14, FG.1 6 rfl, F0.1 6 rfl]) (by rw [G.1 17 rfl]; exact p17) (dn_up c.dnr h7) (fun _ => ⟨p + 1 + M, d, rfl, by rw [G.1 11 rfl]; exact p11, by rw [FG.1 4 rfl]; exact k4, by rw [G.1 12 rfl]; exact p12, cu.d4, by omega, fun j hj => by
          obtain ⟨x, x1, x2, x3⟩ := cu.rt j hj
          exact ⟨x, by rw [FG.2.2.1 6 rfl, l6]; exact x1, by rw [G.2.2.1 2 rfl, p2]; exact x2, x3⟩⟩)
      exact ⟨σ0, 0, σ1, 0, _, _, 1, hr, Or.inr ⟨rfl, d1⟩, g0, sf2, d5.same (q := fun _ _ => false) FG' Fr.rfl (by decide) (by decide), c1, c2, ⟨by rw [FG.2.2.2.2 0 rfl, n0], by rw [FG.2.2.2.2 1 rfl, n1]⟩, Or.inl ⟨rfl, rfl, rfl, h7⟩⟩
    · have nr0 : ¬ r = 0 := by rcases nr with q | q <;> rw [q] <;> decide
      have g0 := go_no σ1 r nr0
      have FG : Fr (fun c k => pKs c k || (c == 0 && (k == 6 || k == 9))) σ0 (sI (sI σ1 6 r) 9 1) := fr_sI (fr_sI (d6.weak (by intro a b; grind)) 6 _ rfl) 9 _ rfl
      have FG' : Fr pGo σ1 (sI (sI σ1 6 r) 9 1) := fr_sI (fr_sI Fr.rfl 6 _ rfl) 9 _ rfl
      have q5 : (sI (sI σ1 6 r) 9 1).1 5 = σ.1 5 := by rw [FG.1 5 rfl, k5]
      obtain ⟨c1, c2⟩ := fin _ _ _ _ FG G (by decide) (by decide) (by rw [g13]; rfl) (Or.inr rfl) (by rw [g14]; rfl) (by rw [q5, g17, p17, Int32.add_sub_cancel]) (by rw [q5]; exact c.dnr) (fun e => absurd (show (1 : Int32) = 0 from e) (by decide))
      exact ⟨σ0, 0, σ1, r, _, _, 0, hr, Or.inr ⟨rfl, d1⟩, g0, sf2, d5.same (q := fun _ _ => false) FG' Fr.rfl (by decide) (by decide), c1, c2, ⟨by rw [FG.2.2.2.2 0 rfl, n0], by rw [FG.2.2.2.2 1 rfl, n1]⟩, Or.inr ⟨rfl, rfl, q5⟩⟩
