/-! a command is done: the reference's course of it -/
def rDo (o49 : Sg × Int32) : Option (Sg × Int32) := if o49.2 = (-1) then (some (o49.1, 0)) else (if o49.2 = 0 then (F_Mod_step_309 o49.1) else (if o49.2 = 1 then (bd (F_Mod_settle o49.1) (fun o53 => bd (F_Ptm_clear o53 (o53.2.2.1 3 0) (o53.2.2.1 3 1) (o53.2.2.1 3 2) (o53.2.2.1 3 3)) (fun o54 => some (o54.1, 1)))) else (if o49.2 = 2 then (F_Mod_step_309 o49.1) else (if o49.2 = 3 then (F_Mod_step_309 o49.1) else (if o49.2 = 4 then (F_Mod_step_309 o49.1) else (if o49.2 = 5 then (F_Mod_step_309 o49.1) else (if o49.2 = 6 then (F_Mod_step_309 o49.1) else (if o49.2 = 7 then (bd (F_Mod_program o49.1 0 0) (fun o61 => ck (o61.2 = 0 ∨ o61.2 = 1) (some (o61.1, o61.2)))) else (if o49.2 = 8 then (bd (F_Mod_program o49.1 1 1) (fun o64 => ck (o64.2 = 0 ∨ o64.2 = 1) (some (o64.1, o64.2)))) else (if o49.2 = 9 then (F_Mod_step_309 o49.1) else (if o49.2 = 10 then (F_Mod_step_309 o49.1) else (if o49.2 = 11 then (F_Mod_step_309 o49.1) else (if o49.2 = 12 then (F_Mod_step_309 o49.1) else (if o49.2 = 13 then (F_Mod_step_309 o49.1) else (if o49.2 = 14 then (F_Mod_step_309 o49.1) else (if o49.2 = 15 then (F_Mod_step_309 o49.1) else (if o49.2 = 16 then (F_Mod_step_309 o49.1) else (if o49.2 = 17 then (F_Mod_step_224 o49.1 o49.2) else (if o49.2 = 18 then (F_Mod_step_224 o49.1 o49.2) else (if o49.2 = 19 then (if (o49.1.2.2.1 3 1) = (1 : Int32) then (ck (inb (o49.1.2.2.1 3 0) 8) (lt (sA o49.1 55 (upd (o49.1.2.2.1 55) (o49.1.2.2.1 3 0).toNatClampNeg 0)) (fun σ78 => F_Mod_step_301 σ78))) else (F_Mod_step_301 o49.1)) else (if o49.2 = 20 then (bd (F_Mod_copy o49.1) (fun o80 => some (o80, 1))) else (F_Mod_step_309 o49.1))))))))))))))))))))))
theorem e_save (τ : Sg) : ∃ τ4, F_Mod_step τ = bd (F_Cmd_next τ4) rDo ∧ Fr (fun c k => c == 2 && k == 57) τ τ4 ∧ τ4.2.2.1 57 0 = τ.2.2.1 4 1120 ∧ τ4.2.2.1 57 1 = τ.2.2.1 4 1121 ∧ τ4.2.2.1 57 2 = τ.2.2.1 4 1280 ∧ τ4.2.2.1 57 3 = τ.2.2.1 4 1281 := by
  have k7 : ∀ υ : Sg, ∀ e, e < 2 → F_Mod_kept υ 7 0 (Int32.ofNat e) = some (υ.2.2.1 4 (1120 + e)) := fun υ e he => e_kept υ 7 0 e 2 rfl (by omega)
  have k8 : ∀ υ : Sg, ∀ e, e < 2 → F_Mod_kept υ 8 0 (Int32.ofNat e) = some (υ.2.2.1 4 (1280 + e)) := fun υ e he => e_kept υ 8 0 e 2 rfl (by omega)
  refine ⟨sA τ 57 (upd (upd (upd (upd (τ.2.2.1 57) 0 (τ.2.2.1 4 1120)) 1 (τ.2.2.1 4 1121)) 2 (τ.2.2.1 4 1280)) 3 (τ.2.2.1 4 1281)), ?_, fr_sA Fr.rfl 57 _ rfl, rfl, rfl, rfl, rfl⟩
  unfold F_Mod_step
  rw [show (100000 : Nat) = 99995 + 1 + 1 + 1 + 1 + 1 from rfl, L_Mod_step_2, if_neg (by decide), if_neg (by decide)]
  unfold F_Mod_step_25
  rw [show irem 0 2 = Int32.ofNat 0 from by decide, k7 τ 0 (by omega), bd_def, ck_pos (by decide), lt_def, lt_def, L_Mod_step_2, if_neg (by decide), if_neg (by decide)]
  unfold F_Mod_step_25
  rw [show irem (0 + 1) 2 = Int32.ofNat 1 from by decide, k7 _ 1 (by omega), bd_def, ck_pos (by decide), lt_def, lt_def, L_Mod_step_2, if_neg (by decide), if_pos (by decide)]
  unfold F_Mod_step_25
  rw [show irem (0 + 1 + 1) 2 = Int32.ofNat 0 from by decide, k8 _ 0 (by omega), bd_def, ck_pos (by decide), lt_def, lt_def, L_Mod_step_2, if_neg (by decide), if_pos (by decide)]
  unfold F_Mod_step_25
  rw [show irem (0 + 1 + 1 + 1) 2 = Int32.ofNat 1 from by decide, k8 _ 1 (by omega), bd_def, ck_pos (by decide), lt_def, lt_def, L_Mod_step_2, if_pos (by decide)]
  rw [show (0 : Int32).toNatClampNeg = 0 from rfl, show (0 + 1 : Int32).toNatClampNeg = 1 from rfl, show (0 + 1 + 1 : Int32).toNatClampNeg = 2 from rfl, show (0 + 1 + 1 + 1 : Int32).toNatClampNeg = 3 from rfl]
  simp only [sA_3, if_true, sA_sA]
  rfl
/-! the next command, of the reference -/
theorem next_no (τ τ' : Sg) (r : Int32) (h13 : τ.1 13 = 0) (hl : F_Cmd_look (sI (sI (sI τ 7 0) 15 (τ.1 11)) 16 (τ.1 12)) = some (τ', r)) (hr : ¬ r ≤ 0) : F_Cmd_next τ = some (sI (sI (sI τ' 14 r) 13 1) 19 0, -1) := by
  unfold F_Cmd_next F_Cmd_refuse F_Cmd_refuse_10
  rw [h13, if_pos rfl, lt_def, ck_pos (Or.inl rfl), bd_def, if_pos rfl, lt_def, lt_def]
  show bd (F_Cmd_look (sI (sI (sI τ 7 0) 15 (τ.1 11)) 16 (τ.1 12))) _ = _
  rw [hl, bd_def, if_neg hr, lt_def, lt_def, lt_def]
/-- a command that is there -/
theorem next_cmd (τ τ' : Sg) (sz p d K M : Nat) (S : Nat → Int32) (h13 : τ.1 13 = 0) (hl : F_Cmd_look (sI (sI (sI τ 7 0) 15 (τ.1 11)) 16 (τ.1 12)) = some (τ', 0)) (rd : RdOK τ' sz d S) (hat : τ'.1 11 = Int32.ofNat p) (hp : p < Li sz d) (hS : S p = Int32.ofNat K) (hM : τ'.1 19 = Int32.ofNat M) :
    F_Cmd_next τ = bd (F_Cmd_perform (sI (sI τ' 17 (τ'.1 17 + 1)) 11 (Int32.ofNat (p + 1 + M))) (Int32.ofNat K)) (fun o => some (o, Int32.ofNat K)) := by
  unfold F_Cmd_next F_Cmd_refuse F_Cmd_refuse_10
  rw [h13, if_pos rfl, lt_def, ck_pos (Or.inl rfl), bd_def, if_pos rfl, lt_def, lt_def]
  show bd (F_Cmd_look (sI (sI (sI τ 7 0) 15 (τ.1 11)) 16 (τ.1 12))) _ = _
  have hz := rd.z
  have hL := Li_le sz d hz
  rw [hl, bd_def, if_pos (show (0 : Int32) ≤ 0 by decide), lt_def]
  have F1 : Fr (fun c k => c == 0 && k == 17) τ' (sI τ' 17 (τ'.1 17 + 1)) := fr_sI Fr.rfl 17 _ rfl
  have rd1 := rd.tr F1 rfl rfl rfl rfl
  have e88 : F_Cmd_next_88 (sI τ' 17 (τ'.1 17 + 1)) 0 = bd (F_Cmd_perform (sI (sI τ' 17 (τ'.1 17 + 1)) 11 (Int32.ofNat (p + 1 + M))) (Int32.ofNat K)) (fun o => some (o, Int32.ofNat K)) := by
    unfold F_Cmd_next_88 F_Cmd_next_105 F_Cmd_next_129
    rw [if_pos rfl, show (sI τ' 17 (τ'.1 17 + 1)).1 11 = τ'.1 11 from rfl, hat, e_cread rd1 p hp, bd_def, if_pos rfl, lt_def, show (sI τ' 17 (τ'.1 17 + 1)).1 19 = τ'.1 19 from rfl, hM, n_succ, n_add, hS]
  rw [show (sI τ' 17 (τ'.1 17 + 1)).1 12 = τ'.1 12 from rfl, rd.dd, show (sI τ' 17 (τ'.1 17 + 1)).1 11 = τ'.1 11 from rfl, hat, show (sI τ' 17 (τ'.1 17 + 1)).1 10 = τ'.1 10 from rfl, rd.s]
  unfold F_Cmd_next_87
  rw [e88]
  by_cases c : d = 0
  · rw [if_pos ((dz4 d rd.d4).mpr c)]
    have : p ≠ sz := by unfold Li at hp; rw [if_pos c] at hp; omega
    rw [if_neg (fun e => this ((n_inj p sz (by omega) (by omega)).mp e))]
  · rw [if_neg (fun e => c ((dz4 d rd.d4).mp e))]
/-- the end of the stream -/
theorem next_end (τ τ' : Sg) (sz : Nat) (h13 : τ.1 13 = 0) (hl : F_Cmd_look (sI (sI (sI τ 7 0) 15 (τ.1 11)) 16 (τ.1 12)) = some (τ', 0)) (hd : τ'.1 12 = 0) (hat : τ'.1 11 = τ'.1 10) :
    F_Cmd_next τ = some (sI (sI (sI τ' 17 (τ'.1 17 + 1)) 11 (τ'.1 11)) 13 1, 0) := by
  unfold F_Cmd_next F_Cmd_refuse F_Cmd_refuse_10
  rw [h13, if_pos rfl, lt_def, ck_pos (Or.inl rfl), bd_def, if_pos rfl, lt_def, lt_def]
  show bd (F_Cmd_look (sI (sI (sI τ 7 0) 15 (τ.1 11)) 16 (τ.1 12))) _ = _
  rw [hl, bd_def, if_pos (show (0 : Int32) ≤ 0 by decide), lt_def, show (sI τ' 17 (τ'.1 17 + 1)).1 12 = τ'.1 12 from rfl, hd, if_pos rfl, show (sI τ' 17 (τ'.1 17 + 1)).1 11 = τ'.1 11 from rfl, show (sI τ' 17 (τ'.1 17 + 1)).1 10 = τ'.1 10 from rfl, if_pos hat]
  unfold F_Cmd_next_88 F_Cmd_next_105 F_Cmd_next_129
  rw [if_neg (by decide), if_neg (by decide), lt_def]
  unfold F_Cmd_perform F_Cmd_perform_65 F_Cmd_perform_272
  rw [if_pos rfl, show (sI (sI τ' 17 (τ'.1 17 + 1)) 11 ((sI τ' 17 (τ'.1 17 + 1)).1 11)).1 12 = τ'.1 12 from rfl, hd, if_pos rfl, ck_pos (Or.inr rfl), lt_def]
  rw [show (sI (sI (sI τ' 17 (τ'.1 17 + 1)) 11 ((sI τ' 17 (τ'.1 17 + 1)).1 11)) 13 1).1 12 = τ'.1 12 from rfl, hd, if_pos (by decide), bd_def]
  rfl
