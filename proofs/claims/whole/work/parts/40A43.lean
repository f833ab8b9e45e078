/-! what stays -/
def Fr (p : Nat → Nat → Bool) (σ τ : Sg) : Prop := (∀ k, p 0 k = false → τ.1 k = σ.1 k) ∧ (∀ k, p 1 k = false → τ.2.1 k = σ.2.1 k) ∧ (∀ k, p 2 k = false → τ.2.2.1 k = σ.2.2.1 k) ∧ (∀ k, p 3 k = false → τ.2.2.2.1 k = σ.2.2.2.1 k) ∧ (∀ k, p 4 k = false → τ.2.2.2.2 k = σ.2.2.2.2 k)
theorem Fr.rfl {p : Nat → Nat → Bool} {σ : Sg} : Fr p σ σ := ⟨fun _ _ => Eq.refl _, fun _ _ => Eq.refl _, fun _ _ => Eq.refl _, fun _ _ => Eq.refl _, fun _ _ => Eq.refl _⟩
theorem Fr.trans {p : Nat → Nat → Bool} {σ τ υ : Sg} (h1 : Fr p σ τ) (h2 : Fr p τ υ) : Fr p σ υ :=
  ⟨fun k h => (h2.1 k h).trans (h1.1 k h), fun k h => (h2.2.1 k h).trans (h1.2.1 k h), fun k h => (h2.2.2.1 k h).trans (h1.2.2.1 k h), fun k h => (h2.2.2.2.1 k h).trans (h1.2.2.2.1 k h), fun k h => (h2.2.2.2.2 k h).trans (h1.2.2.2.2 k h)⟩
theorem Fr.weak {p q : Nat → Nat → Bool} {σ τ : Sg} (h1 : Fr p σ τ) (h : ∀ c k, q c k = false → p c k = false) : Fr q σ τ :=
  ⟨fun k g => h1.1 k (h _ _ g), fun k g => h1.2.1 k (h _ _ g), fun k g => h1.2.2.1 k (h _ _ g), fun k g => h1.2.2.2.1 k (h _ _ g), fun k g => h1.2.2.2.2 k (h _ _ g)⟩
theorem fr_sA {p : Nat → Nat → Bool} {σ τ : Sg} (h1 : Fr p σ τ) (a : Nat) (f : Nat → Int32) (h : p 2 a = true) : Fr p σ (sA τ a f) :=
  h1.trans ⟨fun _ _ => Eq.refl _, fun _ _ => Eq.refl _, fun k g => (by rw [sA_3, if_neg]; intro e; rw [e, h] at g; cases g), fun _ _ => Eq.refl _, fun _ _ => Eq.refl _⟩
theorem fr_sI {p : Nat → Nat → Bool} {σ τ : Sg} (h1 : Fr p σ τ) (a : Nat) (f : Int32) (h : p 0 a = true) : Fr p σ (sI τ a f) :=
  h1.trans ⟨fun k g => (by rw [sI_1, if_neg]; intro e; rw [e, h] at g; cases g), fun _ _ => Eq.refl _, fun _ _ => Eq.refl _, fun _ _ => Eq.refl _, fun _ _ => Eq.refl _⟩
theorem fr_sJ {p : Nat → Nat → Bool} {σ τ : Sg} (h1 : Fr p σ τ) (a : Nat) (f : Int64) (h : p 1 a = true) : Fr p σ (sJ τ a f) :=
  h1.trans ⟨fun _ _ => Eq.refl _, fun k g => (by rw [sJ_2, if_neg]; intro e; rw [e, h] at g; cases g), fun _ _ => Eq.refl _, fun _ _ => Eq.refl _, fun _ _ => Eq.refl _⟩
theorem fr_sB {p : Nat → Nat → Bool} {σ τ : Sg} (h1 : Fr p σ τ) (a : Nat) (f : Nat → Int64) (h : p 3 a = true) : Fr p σ (sB τ a f) :=
  h1.trans ⟨fun _ _ => Eq.refl _, fun _ _ => Eq.refl _, fun _ _ => Eq.refl _, fun k g => (by rw [sB_4, if_neg]; intro e; rw [e, h] at g; cases g), fun _ _ => Eq.refl _⟩
theorem fr_sN {p : Nat → Nat → Bool} {σ τ : Sg} (h1 : Fr p σ τ) (a n : Nat) (h : p 4 a = true) : Fr p σ (sN τ a n) :=
  h1.trans ⟨fun _ _ => Eq.refl _, fun _ _ => Eq.refl _, fun _ _ => Eq.refl _, fun _ _ => Eq.refl _, fun k g => (by rw [sN_5, if_neg]; intro e; rw [e, h] at g; cases g)⟩
/-- a row between c and c + N is set, place by place -/
def rowset (f : Nat → Int32) (c N : Nat) (g : Nat → Int32) : Nat → Int32 := fun j => if c ≤ j ∧ j < c + N then g (j - c) else f j
theorem rowset_zero (f : Nat → Int32) (c : Nat) (g : Nat → Int32) : rowset f c 0 g = f := by
  funext j; unfold rowset; rw [if_neg (by omega)]
theorem rowset_succ (f : Nat → Int32) (c N : Nat) (g : Nat → Int32) : upd (rowset f c N g) (c + N) (g N) = rowset f c (N + 1) g := by
  funext j; unfold rowset upd
  by_cases h : j = c + N
  · subst h; rw [if_pos rfl, if_pos (by omega)]; congr 1; omega
  · rw [if_neg h]
    show (if c ≤ j ∧ j < c + N then g (j - c) else f j) = _
    by_cases h2 : c ≤ j ∧ j < c + N
    · rw [if_pos h2, if_pos (by omega)]
    · rw [if_neg h2, if_neg (by omega)]
theorem fill_loop {β : Type} (L : Nat → Sg → Int32 → Option β) (σ : Sg) (a c N i0 : Nat) (g : Nat → Int32) (R : Option β)
    (hs : ∀ n k, k < N → L (n + 1) (sA σ a (rowset (σ.2.2.1 a) c k g)) (Int32.ofNat (i0 + k)) = L n (sA σ a (upd (rowset (σ.2.2.1 a) c k g) (c + k) (g k))) (Int32.ofNat (i0 + (k + 1))))
    (he : ∀ n, L (n + 1) (sA σ a (rowset (σ.2.2.1 a) c N g)) (Int32.ofNat (i0 + N)) = R) (fuel : Nat) (hf : N < fuel) : L fuel σ (Int32.ofNat i0) = R := by
  have h1 : ∀ k, k ≤ N → ∀ m, fuel = m + k → L fuel σ (Int32.ofNat i0) = L m (sA σ a (rowset (σ.2.2.1 a) c k g)) (Int32.ofNat (i0 + k)) := by
    intro k
    induction k with
    | zero =>
      intro _ m hm
      rw [rowset_zero, sA_self, hm]; rfl
    | succ k ih =>
      intro hk m hm
      rw [ih (by omega) (m + 1) (by omega), hs m k (by omega), rowset_succ]
  rw [h1 N (Nat.le_refl N) (fuel - N - 1 + 1) (by omega)]
  exact he _
theorem rowset_get (f : Nat → Int32) (c N : Nat) (g : Nat → Int32) (j : Nat) (h : j < N) : rowset f c N g (c + j) = g j := by
  unfold rowset; rw [if_pos (by omega)]; congr 1; omega
theorem rowset_get0 (f : Nat → Int32) (N : Nat) (g : Nat → Int32) (j : Nat) (h : j < N) : rowset f 0 N g j = g j := by
  unfold rowset; rw [if_pos (by omega)]; congr 1
theorem rowset_out (f : Nat → Int32) (c N : Nat) (g : Nat → Int32) (j : Nat) (h : j < c ∨ c + N ≤ j) : rowset f c N g j = f j := by
  unfold rowset; rw [if_neg (by omega)]
theorem upd_eq (f : Nat → Int32) (k : Nat) (x : Int32) : upd f k x k = x := by unfold upd; rw [if_pos rfl]
theorem upd_ne (f : Nat → Int32) (k : Nat) (x : Int32) (j : Nat) (h : j ≠ k) : upd f k x j = f j := by unfold upd; rw [if_neg h]
