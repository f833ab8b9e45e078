/-! what an instruction sets its target to -/
def opv (μ β tx : Nat → Int32) (m : Nat) (a b c : Nat → Int32) (k : Nat) : Int32 :=
  match m with
  | 1 => a k
  | 2 => a k + b k
  | 3 => a k - b k
  | 4 => prd (a k) (b k)
  | 5 => prd (a k) (b k) + c k
  | 6 => prd (a 0) (b 0) + prd (a 1) (b 1) + prd (a 2) (b 2)
  | 7 => prd (a 0) (b 0) + prd (a 1) (b 1) + prd (a 2) (b 2) + prd (a 3) (b 3)
  | 8 => if a k < b k then a k else b k
  | 9 => if b k < a k then a k else b k
  | 10 => if a k = -2147483648 then 2147483647 else if a k < 0 then -a k else a k
  | 11 => a k &&& -65536
  | 12 => a k &&& 65535
  | 13 => oneB (a 0)
  | 14 => if 0 < a 0 then rtv (281474976710656 / (a 0).toInt64) else 2147483647
  | 15 => if 0 ≤ a 0 then rtv (65536 * (a 0).toInt64) else 0
  | 16 => if a k < b k then 65536 else 0
  | 17 => if a k < b k then 0 else 65536
  | 18 => if a k = b k then 65536 else 0
  | 19 => if a k = b k then 0 else 65536
  | 20 => if 0 ≤ a k then b k else c k
  | 21 => prd (a k) (b k - c k) + c k
  | 22 => if k = 0 then prd (a 1) (b 2) - prd (a 2) (b 1) else if k = 1 then prd (a 2) (b 0) - prd (a 0) (b 2) else if k = 2 then prd (a 0) (b 1) - prd (a 1) (b 0) else 0
  | 23 => a k &&& b k
  | 24 => a k ||| b k
  | 25 => a k ^^^ b k
  | 26 => a k ^^^ -1
  | 27 => a k <<< ((b k &&& 31) &&& 31)
  | 28 => a k >>> ((b k &&& 31) &&& 31)
  | 29 => ushr (a k) (b k &&& 31)
  | 30 => if (0 : Int32) ≤ (a 0 >>> 16 : Int32) ∧ (a 0 >>> 16 : Int32) < 32 then β (96 + 4 * (a 0 >>> 16).toNatClampNeg + k) else 0
  | 31 => wd μ (((a 0 >>> 16 : Int32) + Int32.ofNat k).toInt64)
  | 32 => tx k
  | 33 => tx k
  | 39 => a k >>> 16
  | 40 => a k <<< 16
  | _ => 0
/-- the kinds whose parts are reckoned apart -/
def byPart (m : Nat) : Bool := (1 ≤ m && m ≤ 5) || (8 ≤ m && m ≤ 12) || (16 ≤ m && m ≤ 21) || (23 ≤ m && m ≤ 29) || m == 39 || m == 40
theorem e_part (μ β tx : Nat → Int32) (m : Nat) (hm : byPart m = true) (x y z : Int32) (a b c : Nat → Int32) (k : Nat) (ha : a k = x) (hb : b k = y) (hc : c k = z) : F_Pro_part (Int32.ofNat m) x y z = some (opv μ β tx m a b c k) := by
  have h : m = 1 ∨ m = 2 ∨ m = 3 ∨ m = 4 ∨ m = 5 ∨ m = 8 ∨ m = 9 ∨ m = 10 ∨ m = 11 ∨ m = 12 ∨ m = 16 ∨ m = 17 ∨ m = 18 ∨ m = 19 ∨ m = 20 ∨ m = 21 ∨ m = 23 ∨ m = 24 ∨ m = 25 ∨ m = 26 ∨ m = 27 ∨ m = 28 ∨ m = 29 ∨ m = 39 ∨ m = 40 := by
    simp [byPart] at hm
    omega
  subst ha hb hc
  rcases h with rfl | rfl | rfl | rfl | rfl | rfl | rfl | rfl | rfl | rfl | rfl | rfl | rfl | rfl | rfl | rfl | rfl | rfl | rfl | rfl | rfl | rfl | rfl | rfl | rfl
  all_goals first
    | rfl
    | (show (if _ then _ else _) = some (if _ then _ else _)
       simp only [F_Pro_part_311, F_Pro_part_301, F_Pro_part_289, F_Pro_part_277, F_Pro_part_265, F_Pro_part_243, F_Pro_part_221, F_Pro_part_210]
       grind)
theorem e_dot (σ : Sg) : F_Pro_dotProduct σ 3 = some (prd (σ.2.2.1 11 0) (σ.2.2.1 12 0) + prd (σ.2.2.1 11 1) (σ.2.2.1 12 1) + prd (σ.2.2.1 11 2) (σ.2.2.1 12 2)) ∧ F_Pro_dotProduct σ 4 = some (prd (σ.2.2.1 11 0) (σ.2.2.1 12 0) + prd (σ.2.2.1 11 1) (σ.2.2.1 12 1) + prd (σ.2.2.1 11 2) (σ.2.2.1 12 2) + prd (σ.2.2.1 11 3) (σ.2.2.1 12 3)) := by
  have z : ∀ x : Int32, 0 + x = x := fun x => by grind
  constructor
  · unfold F_Pro_dotProduct
    rw [L_Pro_dotProduct_4, if_neg (by decide), ck_pos (by decide), ck_pos (by decide), e_product, bd_def, lt_def, lt_def]
    rw [L_Pro_dotProduct_4, if_neg (by decide), ck_pos (by decide), ck_pos (by decide), e_product, bd_def, lt_def, lt_def]
    rw [L_Pro_dotProduct_4, if_neg (by decide), ck_pos (by decide), ck_pos (by decide), e_product, bd_def, lt_def, lt_def]
    rw [L_Pro_dotProduct_4, if_pos (by decide), z]
    rfl
  · unfold F_Pro_dotProduct
    rw [L_Pro_dotProduct_4, if_neg (by decide), ck_pos (by decide), ck_pos (by decide), e_product, bd_def, lt_def, lt_def]
    rw [L_Pro_dotProduct_4, if_neg (by decide), ck_pos (by decide), ck_pos (by decide), e_product, bd_def, lt_def, lt_def]
    rw [L_Pro_dotProduct_4, if_neg (by decide), ck_pos (by decide), ck_pos (by decide), e_product, bd_def, lt_def, lt_def]
    rw [L_Pro_dotProduct_4, if_neg (by decide), ck_pos (by decide), ck_pos (by decide), e_product, bd_def, lt_def, lt_def]
    rw [L_Pro_dotProduct_4, if_pos (by decide), z]
    rfl
theorem four_upd (f : Nat → Int32) (x0 x1 x2 x3 : Int32) (g : Nat → Int32) (h0 : g 0 = x0) (h1 : g 1 = x1) (h2 : g 2 = x2) (h3 : g 3 = x3) : upd (upd (upd (upd f 0 x0) 1 x1) 2 x2) 3 x3 = rowset f 0 4 g := by
  funext j
  unfold upd rowset
  have : j = 0 ∨ j = 1 ∨ j = 2 ∨ j = 3 ∨ 4 ≤ j := by omega
  rcases this with rfl | rfl | rfl | rfl | h
  · simp [h0]
  · simp [h1]
  · simp [h2]
  · simp [h3]
  · rw [if_neg (by omega), if_neg (by omega), if_neg (by omega), if_neg (by omega), if_neg (by omega)]
theorem e_cross (μ β tx : Nat → Int32) (σ : Sg) : F_Pro_crossProduct σ = some (sA σ 14 (rowset (σ.2.2.1 14) 0 4 (opv μ β tx 22 (σ.2.2.1 11) (σ.2.2.1 12) (σ.2.2.1 13)))) := by
  simp only [F_Pro_crossProduct, e_product, bd_def, lt, sA_sA, sA_3, if_true, Nat.reduceEqDiff, reduceIte]
  congr 2
  exact four_upd _ _ _ _ _ _ rfl rfl rfl rfl
theorem u32 : ∀ k, k < 32 → (cpok (96 + (4 * Int32.ofNat k)) 0 4 260 4 ∧ (96 + (4 * Int32.ofNat k)).toNatClampNeg = 96 + 4 * k) := by decide
theorem e_readUniform (μ β tx : Nat → Int32) (σ : Sg) (hb : σ.2.2.1 10 = β) : F_Pro_readUniform σ ((σ.2.2.1 11 0) >>> 16) = some (sA σ 14 (rowset (σ.2.2.1 14) 0 4 (opv μ β tx 30 (σ.2.2.1 11) (σ.2.2.1 12) (σ.2.2.1 13)))) := by
  unfold F_Pro_readUniform F_Pro_readUniform_32 F_Pro_readUniform_37
  simp only [e_fill4, bd_def]
  have v : ∀ k, opv μ β tx 30 (σ.2.2.1 11) (σ.2.2.1 12) (σ.2.2.1 13) k = if (0 : Int32) ≤ (σ.2.2.1 11 0 >>> 16 : Int32) ∧ (σ.2.2.1 11 0 >>> 16 : Int32) < 32 then β (96 + 4 * (σ.2.2.1 11 0 >>> 16).toNatClampNeg + k) else 0 := fun _ => rfl
  generalize (σ.2.2.1 11 0 >>> 16 : Int32) = q at v ⊢
  by_cases h0 : q < 0
  · rw [if_pos h0]; congr 2; apply rowset_ext; intro k _; rw [v, if_neg (by grind)]
  · rw [if_neg h0]
    by_cases h1 : 32 ≤ q
    · rw [if_pos h1]; congr 2; apply rowset_ext; intro k _; rw [v, if_neg (by grind)]
    · rw [if_neg h1]
      obtain ⟨n, hn, rfl⟩ := n_get q (by grind)
      have hn32 : n < 32 := by have h2 : Int32.ofNat n < 32 := by grind
                               exact (n_lt n 32 hn (by omega)).mp h2
      obtain ⟨c1, c2⟩ := u32 n hn32
      rw [ck_pos c1, lt_def, c2]
      congr 2
      funext j
      show (if 0 ≤ j ∧ j < 0 + 4 then σ.2.2.1 10 (96 + 4 * n + (j - 0)) else _) = (if 0 ≤ j ∧ j < 0 + 4 then _ else _)
      split
      · rw [v, if_pos (by grind), n_nat n hn, hb]
      · rfl
theorem e_reckon254 (μ β tx : Nat → Int32) (σ : Sg) (hm : σ.2.2.1 0 = μ) : L_Pro_reckon_254 100000 σ 0 = some (sA σ 14 (rowset (σ.2.2.1 14) 0 4 (opv μ β tx 31 (σ.2.2.1 11) (σ.2.2.1 12) (σ.2.2.1 13)))) := by
  refine fill_loop (fun n σ v => L_Pro_reckon_254 n σ v) σ 14 0 4 0 (opv μ β tx 31 (σ.2.2.1 11) (σ.2.2.1 12) (σ.2.2.1 13)) _ (fun n k hk => ?_) (fun n => ?_) 100000 (by decide)
  · obtain ⟨b1, b2, b3, b4, b5⟩ := ix4 k hk
    simp only [Nat.zero_add]
    rw [L_Pro_reckon_254, if_neg b3, e_wordOf, bd_def, ck_pos b2]
    simp only [lt, b1, b4, sA_sA, sA_3, if_true, Nat.reduceEqDiff, reduceIte, hm]
    rfl
  · have h4 : (4 : Int32) ≤ Int32.ofNat (0 + 4) := by decide
    simp only [L_Pro_reckon_254, if_pos h4]
    rfl
theorem e_reckon293 (μ β tx : Nat → Int32) (σ : Sg) (m : Nat) (hm : byPart m = true) : F_Pro_reckon_293 σ (Int32.ofNat m) = some (sA σ 14 (rowset (σ.2.2.1 14) 0 4 (opv μ β tx m (σ.2.2.1 11) (σ.2.2.1 12) (σ.2.2.1 13)))) := by
  unfold F_Pro_reckon_293
  refine fill_loop (fun n σ v => L_Pro_reckon_295 n σ (Int32.ofNat m) v) σ 14 0 4 0 (opv μ β tx m (σ.2.2.1 11) (σ.2.2.1 12) (σ.2.2.1 13)) _ (fun n k hk => ?_) (fun n => ?_) 100000 (by decide)
  · obtain ⟨b1, b2, b3, b4, b5⟩ := ix4 k hk
    simp only [Nat.zero_add]
    rw [L_Pro_reckon_295, if_neg b3, ck_pos b2, ck_pos b2, ck_pos b2, e_part μ β tx m hm _ _ _ (σ.2.2.1 11) (σ.2.2.1 12) (σ.2.2.1 13) k (by rw [b1]; rfl) (by rw [b1]; rfl) (by rw [b1]; rfl), bd_def, ck_pos b2]
    simp only [lt, b1, b4, sA_sA, sA_3, if_true]
  · have h4 : (4 : Int32) ≤ Int32.ofNat (0 + 4) := by decide
    simp only [L_Pro_reckon_295, if_pos h4]
    rfl
/-- the kinds with a target, textures apart -/
def reck (m : Nat) : Bool := (1 ≤ m && m ≤ 31) || m == 39 || m == 40
theorem e_reckon (μ β tx : Nat → Int32) (σ : Sg) (m : Nat) (hm : reck m = true) (h0 : σ.2.2.1 0 = μ) (hb : σ.2.2.1 10 = β) :
    F_Pro_reckon σ (Int32.ofNat m) = some (sA σ 14 (rowset (σ.2.2.1 14) 0 4 (opv μ β tx m (σ.2.2.1 11) (σ.2.2.1 12) (σ.2.2.1 13)))) := by
  by_cases hp : byPart m = true
  · have h9 := e_reckon293 μ β tx σ m hp
    have hne : m ≠ 6 ∧ m ≠ 7 ∧ m ≠ 13 ∧ m ≠ 14 ∧ m ≠ 15 ∧ m ≠ 22 ∧ m ≠ 30 ∧ m ≠ 31 ∧ m < 41 := by simp [byPart] at hp; omega
    have n6 : ∀ j, j < 41 → m ≠ j → ¬ (Int32.ofNat m = Int32.ofNat j) := fun j hj h e => h ((n_inj m j (by omega) (by omega)).mp e)
    unfold F_Pro_reckon
    rw [if_neg (show ¬ Int32.ofNat m = 6 from n6 6 (by omega) (by omega)), if_neg (show ¬ Int32.ofNat m = 7 from n6 7 (by omega) (by omega))]
    simp only [h9]
    rw [if_neg (show ¬ Int32.ofNat m = 13 from n6 13 (by omega) (by omega)), if_neg (show ¬ Int32.ofNat m = 14 from n6 14 (by omega) (by omega)), if_neg (show ¬ Int32.ofNat m = 15 from n6 15 (by omega) (by omega)), if_neg (show ¬ Int32.ofNat m = 22 from n6 22 (by omega) (by omega)), if_neg (show ¬ Int32.ofNat m = 30 from n6 30 (by omega) (by omega)), if_neg (show ¬ Int32.ofNat m = 31 from n6 31 (by omega) (by omega))]
    simp only [ite_self]
  · have h : m = 6 ∨ m = 7 ∨ m = 13 ∨ m = 14 ∨ m = 15 ∨ m = 22 ∨ m = 30 ∨ m = 31 := by
      simp [byPart] at hp; simp [reck] at hm; omega
    rcases h with rfl | rfl | rfl | rfl | rfl | rfl | rfl | rfl
    · show bd (F_Pro_dotProduct σ 3) (fun o65 => bd (F_Pro_setAll σ o65) (fun o66 => F_Pro_reckon_334 o66)) = _
      rw [(e_dot σ).1, bd_def, e_fill4, bd_def]; rfl
    · show bd (F_Pro_dotProduct σ 4) (fun o65 => bd (F_Pro_setAll σ o65) (fun o66 => F_Pro_reckon_334 o66)) = _
      rw [(e_dot σ).2, bd_def, e_fill4, bd_def]; rfl
    · show bd (F_Pro_oneBy (σ.2.2.1 11 0)) (fun o76 => bd (F_Pro_setAll σ o76) (fun o77 => F_Pro_reckon_334 o77)) = _
      rw [e_oneBy, bd_def, e_fill4, bd_def]; rfl
    · show (if 0 < (σ.2.2.1 11 0) then (ck (¬ ((σ.2.2.1 11 0).toInt64) = 0) (bd (F_Pro_rootOf (281474976710656 / ((σ.2.2.1 11 0).toInt64))) (fun o80 => F_Pro_reckon_189 σ o80))) else (F_Pro_reckon_189 σ 2147483647)) = _
      have v : opv μ β tx 14 (σ.2.2.1 11) (σ.2.2.1 12) (σ.2.2.1 13) = fun _ => if 0 < σ.2.2.1 11 0 then rtv (281474976710656 / (σ.2.2.1 11 0).toInt64) else 2147483647 := rfl
      rw [v]
      by_cases c : 0 < σ.2.2.1 11 0
      · rw [if_pos c, ck_pos (ext_ne _ (by grind)), (e_rootOf _).1, bd_def]; unfold F_Pro_reckon_189; rw [e_fill4, bd_def]; simp only [if_pos c]; rfl
      · rw [if_neg c]; unfold F_Pro_reckon_189; rw [e_fill4, bd_def]; simp only [if_neg c]; rfl
    · show (if 0 ≤ (σ.2.2.1 11 0) then (bd (F_Pro_rootOf (65536 * ((σ.2.2.1 11 0).toInt64))) (fun o82 => F_Pro_reckon_223 σ o82)) else (F_Pro_reckon_223 σ 0)) = _
      have v : opv μ β tx 15 (σ.2.2.1 11) (σ.2.2.1 12) (σ.2.2.1 13) = fun _ => if 0 ≤ σ.2.2.1 11 0 then rtv (65536 * (σ.2.2.1 11 0).toInt64) else 0 := rfl
      rw [v]
      by_cases c : 0 ≤ σ.2.2.1 11 0
      · rw [if_pos c, (e_rootOf _).1, bd_def]; unfold F_Pro_reckon_223; rw [e_fill4, bd_def]; simp only [if_pos c]; rfl
      · rw [if_neg c]; unfold F_Pro_reckon_223; rw [e_fill4, bd_def]; simp only [if_neg c]; rfl
    · show bd (F_Pro_crossProduct σ) (fun o90 => F_Pro_reckon_334 o90) = _
      rw [e_cross μ β tx, bd_def]; rfl
    · show bd (F_Pro_readUniform σ ((σ.2.2.1 11 0) >>> 16)) (fun o99 => F_Pro_reckon_334 o99) = _
      rw [e_readUniform μ β tx σ hb, bd_def]; rfl
    · show L_Pro_reckon_254 100000 σ 0 = _
      exact e_reckon254 μ β tx σ h0
