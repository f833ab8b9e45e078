/-! a program's loops -/
def kdN (ω : Nat → Int32) (i : Nat) : Nat := un (ω (3 * i)) % 64
def nmN (ω : Nat → Int32) (i : Nat) : Nat := un (ω (3 * i)) / 131072
/-- the loops that are open ahead of instruction i, the innermost first -/
def stk (ω : Nat → Int32) : Nat → List Nat
  | 0 => []
  | i + 1 => if kdN ω i = 34 then i :: stk ω i else if kdN ω i = 35 then (stk ω i).tail else stk ω i
theorem stk_lt (ω : Nat → Int32) (j : Nat) : ∀ b, b ∈ stk ω j → b < j := by
  induction j with
  | zero => intro b h; cases h
  | succ j ih =>
    intro b h
    simp only [stk] at h
    split at h
    · rcases List.mem_cons.mp h with h | h
      · omega
      · have := ih b h; omega
    · split at h
      · have := ih b (List.mem_of_mem_tail h); omega
      · have := ih b h; omega
/-- what lies under an open loop is what was open ahead of it -/
theorem stk_split (ω : Nat → Int32) (j : Nat) : ∀ b, b ∈ stk ω j → ∃ inner, stk ω j = inner ++ b :: stk ω b ∧ (∀ c, c ∈ inner → b < c) ∧ kdN ω b = 34 := by
  induction j with
  | zero => intro b h; cases h
  | succ j ih =>
    intro b h
    simp only [stk] at h ⊢
    split at h
    · rename_i hk
      rw [if_pos hk]
      rcases List.mem_cons.mp h with h | h
      · subst h; exact ⟨[], rfl, fun c hc => (List.not_mem_nil hc).elim, hk⟩
      · obtain ⟨inner, e, hi, hb⟩ := ih b h
        refine ⟨j :: inner, by rw [e]; rfl, fun c hc => ?_, hb⟩
        rcases List.mem_cons.mp hc with hc | hc
        · subst hc; exact stk_lt ω c b h
        · exact hi c hc
    · rename_i hk
      rw [if_neg hk]
      split at h
      · rename_i hk2
        rw [if_pos hk2]
        obtain ⟨inner, e, hi, hb⟩ := ih b (List.mem_of_mem_tail h)
        cases inner with
        | nil =>
          rw [e] at h
          have := stk_lt ω b b h
          omega
        | cons c inner => exact ⟨inner, by rw [e]; rfl, fun d hd => hi d (List.mem_cons_of_mem _ hd), hb⟩
      · rename_i hk2
        rw [if_neg hk2]
        exact ih b h
theorem stk_head (ω : Nat → Int32) (j b : Nat) (rest : List Nat) (h : stk ω j = b :: rest) : rest = stk ω b ∧ kdN ω b = 34 ∧ b < j := by
  have hb : b ∈ stk ω j := by rw [h]; exact List.mem_cons_self
  obtain ⟨inner, e, hi, hk⟩ := stk_split ω j b hb
  refine ⟨?_, hk, stk_lt ω j b hb⟩
  rw [h] at e
  cases inner with
  | nil => exact (List.cons.inj e).2
  | cons c inner =>
    have := (List.cons.inj e).1
    have := hi c List.mem_cons_self
    omega
/-- a loop that is no longer open is never open again -/
theorem stk_gone (ω : Nat → Int32) (b i : Nat) (hb : b < i) (hn : b ∉ stk ω i) : ∀ d, b ∉ stk ω (i + d) := by
  intro d
  induction d with
  | zero => exact hn
  | succ d ih =>
    intro h
    rw [← Nat.add_assoc] at h
    simp only [stk] at h
    split at h
    · rcases List.mem_cons.mp h with h | h
      · omega
      · exact ih h
    · split at h
      · exact ih (List.mem_of_mem_tail h)
      · exact ih h
theorem stk_mid (ω : Nat → Int32) (b i j : Nat) (hb : b ∈ stk ω i) (h1 : b < j) (h2 : j ≤ i) : b ∈ stk ω j := by
  refine Classical.byContradiction fun hn => ?_
  have := stk_gone ω b j h1 hn (i - j)
  rw [show j + (i - j) = i by omega] at this
  exact this hb
/-! how often an instruction is still done at most -/
def opn (ω : Nat → Int32) (i : Nat) : Nat → Bool := fun b => decide (b ∈ stk ω i)
theorem opn_t {ω : Nat → Int32} {i b : Nat} (h : b ∈ stk ω i) : opn ω i b = true := decide_eq_true h
theorem opn_f {ω : Nat → Int32} {i b : Nat} (h : ¬ b ∈ stk ω i) : ¬ opn ω i b = true := fun e => h (of_decide_eq_true e)
theorem opn_e {ω : Nat → Int32} {i j b : Nat} (h : b ∈ stk ω i ↔ b ∈ stk ω j) : opn ω i b = opn ω j b := by unfold opn; simp only [h]
def qv (ω : Nat → Int32) (op : Nat → Bool) (l : Nat → Nat) : List Nat → Nat
  | [] => 0
  | b :: r => qv ω op l r * nmN ω b + (if op b then l b - 1 else 0)
def wv (ω : Nat → Int32) (op : Nat → Bool) : List Nat → Nat
  | [] => 1
  | b :: r => wv ω op r * (if op b then 1 else nmN ω b)
def vis (ω : Nat → Int32) (i : Nat) (l : Nat → Nat) (j : Nat) : Nat := qv ω (opn ω i) l (stk ω j) + (if i ≤ j then wv ω (opn ω i) (stk ω j) else 0)
def ssum (f : Nat → Nat) : Nat → Nat
  | 0 => 0
  | n + 1 => ssum f n + f n
theorem ssum_le (f g : Nat → Nat) (N : Nat) (h : ∀ j, j < N → f j ≤ g j) : ssum f N ≤ ssum g N := by
  induction N with
  | zero => exact Nat.le_refl _
  | succ N ih =>
    have := ih (fun j hj => h j (by omega))
    have := h N (by omega)
    simp only [ssum]; omega
theorem ssum_lt (f g : Nat → Nat) (N i : Nat) (hi : i < N) (h : ∀ j, j < N → f j ≤ g j) (h2 : f i + 1 ≤ g i) : ssum f N + 1 ≤ ssum g N := by
  induction N with
  | zero => omega
  | succ N ih =>
    simp only [ssum]
    by_cases c : i = N
    · subst c
      have := ssum_le f g i (fun j hj => h j (by omega))
      omega
    · have := ih (by omega) (fun j hj => h j (by omega))
      have := h N (by omega)
      omega
def phi (ω : Nat → Int32) (N i : Nat) (l : Nat → Nat) : Nat := ssum (vis ω i l) N
theorem wv_open (ω : Nat → Int32) (op : Nat → Bool) (L : List Nat) (h : ∀ b, b ∈ L → op b = true) : wv ω op L = 1 := by
  induction L with
  | nil => rfl
  | cons b r ih =>
    simp only [wv]
    rw [ih (fun c hc => h c (List.mem_cons_of_mem _ hc)), if_pos (h b List.mem_cons_self)]
theorem vis_self (ω : Nat → Int32) (i : Nat) (l : Nat → Nat) : vis ω i l i = qv ω (opn ω i) l (stk ω i) + 1 := by
  unfold vis
  rw [if_pos (Nat.le_refl i), wv_open ω _ _ (fun b hb => opn_t hb)]
/-- the same loops stay open and the next instruction lies further on -/
theorem phi_go (ω : Nat → Int32) (N i i' : Nat) (l : Nat → Nat) (hi : i < N) (h : i < i') (hs : stk ω i' = stk ω i) : phi ω N i' l + 1 ≤ phi ω N i l := by
  have hv : ∀ j, vis ω i' l j = qv ω (opn ω i) l (stk ω j) + (if i' ≤ j then wv ω (opn ω i) (stk ω j) else 0) := by
    intro j
    have ho : opn ω i' = opn ω i := by unfold opn; rw [hs]
    unfold vis; rw [ho]
  refine ssum_lt _ _ N i hi (fun j hj => ?_) ?_
  · rw [hv]
    unfold vis
    by_cases c : i' ≤ j
    · rw [if_pos c, if_pos (by omega)]; exact Nat.le_refl _
    · rw [if_neg c]; omega
  · rw [hv, vis_self, if_neg (by omega)]; omega
theorem qv_ext (ω : Nat → Int32) (o1 o2 : Nat → Bool) (l1 l2 : Nat → Nat) (L : List Nat) (h : ∀ b, b ∈ L → o1 b = o2 b) (hl : ∀ b, b ∈ L → l1 b = l2 b) : qv ω o1 l1 L = qv ω o2 l2 L := by
  induction L with
  | nil => rfl
  | cons b r ih =>
    simp only [qv]
    rw [ih (fun c hc => h c (List.mem_cons_of_mem _ hc)) (fun c hc => hl c (List.mem_cons_of_mem _ hc)), hl b List.mem_cons_self]
    have := h b List.mem_cons_self
    simp only [this]
theorem wv_ext (ω : Nat → Int32) (o1 o2 : Nat → Bool) (L : List Nat) (h : ∀ b, b ∈ L → o1 b = o2 b) : wv ω o1 L = wv ω o2 L := by
  induction L with
  | nil => rfl
  | cons b r ih =>
    simp only [wv]
    rw [ih (fun c hc => h c (List.mem_cons_of_mem _ hc))]
    have := h b List.mem_cons_self
    simp only [this]
/-- the numbers of the loops of a list, multiplied -/
def pr (ω : Nat → Int32) : List Nat → Nat
  | [] => 1
  | b :: r => pr ω r * nmN ω b
theorem qv_inner (ω : Nat → Int32) (op : Nat → Bool) (l : Nat → Nat) (inner L : List Nat) (h : ∀ c, c ∈ inner → ¬ op c = true) : qv ω op l (inner ++ L) = qv ω op l L * pr ω inner := by
  induction inner with
  | nil => simp [pr]
  | cons c r ih =>
    simp only [List.cons_append, qv, pr]
    rw [ih (fun d hd => h d (List.mem_cons_of_mem _ hd)), if_neg (h c List.mem_cons_self), Nat.add_zero, Nat.mul_assoc]
theorem wv_inner (ω : Nat → Int32) (op : Nat → Bool) (inner L : List Nat) (h : ∀ c, c ∈ inner → ¬ op c = true) : wv ω op (inner ++ L) = wv ω op L * pr ω inner := by
  induction inner with
  | nil => simp [pr]
  | cons c r ih =>
    simp only [List.cons_append, wv, pr]
    rw [ih (fun d hd => h d (List.mem_cons_of_mem _ hd)), if_neg (h c List.mem_cons_self), Nat.mul_assoc]
/-- a loop is gone into -/
theorem phi_in (ω : Nat → Int32) (N i : Nat) (l : Nat → Nat) (hi : i < N) (hk : kdN ω i = 34) (hn : 1 ≤ nmN ω i) : phi ω N (i + 1) (fun b => if b = i then nmN ω i else l b) + 1 ≤ phi ω N i l := by
  have hs : stk ω (i + 1) = i :: stk ω i := by simp only [stk, if_pos hk]
  have key : ∀ j, vis ω (i + 1) (fun b => if b = i then nmN ω i else l b) j ≤ vis ω i l j ∧ (i ∉ stk ω j → vis ω (i + 1) (fun b => if b = i then nmN ω i else l b) j = qv ω (opn ω i) l (stk ω j) + (if i + 1 ≤ j then wv ω (opn ω i) (stk ω j) else 0)) := by
    intro j
    have hout : i ∉ stk ω j → vis ω (i + 1) (fun b => if b = i then nmN ω i else l b) j = qv ω (opn ω i) l (stk ω j) + (if i + 1 ≤ j then wv ω (opn ω i) (stk ω j) else 0) := by
      intro hj
      unfold vis
      have hne : ∀ b, b ∈ stk ω j → b ≠ i := fun b hb e => hj (e ▸ hb)
      rw [qv_ext ω (opn ω (i + 1)) (opn ω i) _ l (stk ω j) (fun b hb => opn_e (by rw [hs, List.mem_cons]; exact ⟨fun h => h.resolve_left (hne b hb), Or.inr⟩)) (fun b hb => by rw [if_neg (hne b hb)]), wv_ext ω (opn ω (i + 1)) (opn ω i) (stk ω j) (fun b hb => opn_e (by rw [hs, List.mem_cons]; exact ⟨fun h => h.resolve_left (hne b hb), Or.inr⟩))]
    refine ⟨?_, hout⟩
    by_cases hj : i ∈ stk ω j
    · have hij := stk_lt ω j i hj
      obtain ⟨inner, e, hin, -⟩ := stk_split ω j i hj
      have h1 : ∀ c, c ∈ inner → ¬ c ∈ stk ω i := fun c hc h => by have := stk_lt ω i c h; have := hin c hc; omega
      have h2 : ∀ c, c ∈ inner → ¬ c ∈ stk ω (i + 1) := fun c hc h => by
        rw [hs] at h
        rcases List.mem_cons.mp h with h | h
        · have := hin c hc; omega
        · exact h1 c hc h
      unfold vis
      rw [if_pos (by omega), if_pos (by omega), e, qv_inner ω (opn ω (i + 1)) _ inner _ (fun c hc => opn_f (h2 c hc)), wv_inner ω (opn ω (i + 1)) inner _ (fun c hc => opn_f (h2 c hc)), qv_inner ω (opn ω i) _ inner _ (fun c hc => opn_f (h1 c hc)), wv_inner ω (opn ω i) inner _ (fun c hc => opn_f (h1 c hc)), ← Nat.add_mul, ← Nat.add_mul]
      apply Nat.mul_le_mul_right
      have hi2 : ¬ i ∈ stk ω i := fun h => by have := stk_lt ω i i h; omega
      simp only [qv, wv]
      rw [if_neg (opn_f hi2), if_neg (opn_f hi2), if_pos (opn_t (show i ∈ stk ω (i + 1) by rw [hs]; exact List.mem_cons_self)), if_pos (opn_t (show i ∈ stk ω (i + 1) by rw [hs]; exact List.mem_cons_self))]
      rw [qv_ext ω (opn ω (i + 1)) (opn ω i) _ l (stk ω i) (fun b hb => opn_e (by rw [hs, List.mem_cons]; exact ⟨fun _ => hb, Or.inr⟩)) (fun b hb => by rw [if_neg (fun (e : b = i) => hi2 (e ▸ hb))])]
      rw [wv_open ω (opn ω (i + 1)) (stk ω i) (fun b hb => opn_t (by rw [hs]; exact List.mem_cons_of_mem _ hb)), wv_open ω (opn ω i) (stk ω i) (fun b hb => opn_t hb)]
      simp only [if_true]
      omega
    · rw [hout hj]
      unfold vis
      by_cases c : i + 1 ≤ j
      · rw [if_pos c, if_pos (by omega)]; exact Nat.le_refl _
      · rw [if_neg c]; omega
  refine ssum_lt _ _ N i hi (fun j hj => (key j).1) ?_
  rw [(key i).2 (fun h => by have := stk_lt ω i i h; omega), vis_self, if_neg (by omega)]
  omega
/-- a loop is begun once more -/
theorem phi_again (ω : Nat → Int32) (N i b : Nat) (rest : List Nat) (l : Nat → Nat) (hi : i < N) (hs : stk ω i = b :: rest) (hl : 2 ≤ l b) : phi ω N (b + 1) (fun c => if c = b then l b - 1 else l c) + 1 ≤ phi ω N i l := by
  obtain ⟨hr, hkb, hbi⟩ := stk_head ω i b rest hs
  have hb1 : stk ω (b + 1) = stk ω i := by rw [hs, hr]; simp only [stk, if_pos hkb]
  have hbm : b ∈ stk ω i := by rw [hs]; exact List.mem_cons_self
  have key : ∀ j, vis ω (b + 1) (fun c => if c = b then l b - 1 else l c) j ≤ vis ω i l j ∧ (b ∈ stk ω j → vis ω (b + 1) (fun c => if c = b then l b - 1 else l c) j = qv ω (opn ω i) l (stk ω j)) := by
    intro j
    have hin : b ∈ stk ω j → vis ω (b + 1) (fun c => if c = b then l b - 1 else l c) j = qv ω (opn ω i) l (stk ω j) := by
      intro hj
      have hbj := stk_lt ω j b hj
      obtain ⟨inner, e, hin, -⟩ := stk_split ω j b hj
      have h1 : ∀ c, c ∈ inner → ¬ c ∈ stk ω i := fun c hc h => by
        rw [hs, hr] at h
        rcases List.mem_cons.mp h with h | h
        · have := hin c hc; omega
        · have := stk_lt ω b c h; have := hin c hc; omega
      have h2 : ∀ c, c ∈ inner → ¬ c ∈ stk ω (b + 1) := fun c hc => by rw [hb1]; exact h1 c hc
      have hb2 : ¬ b ∈ stk ω b := fun h => by have := stk_lt ω b b h; omega
      unfold vis
      rw [if_pos (by omega), e, qv_inner ω (opn ω (b + 1)) _ inner _ (fun c hc => opn_f (h2 c hc)), wv_inner ω (opn ω (b + 1)) inner _ (fun c hc => opn_f (h2 c hc)), qv_inner ω (opn ω i) _ inner _ (fun c hc => opn_f (h1 c hc)), ← Nat.add_mul]
      congr 1
      simp only [qv, wv]
      rw [if_pos (opn_t hbm), if_pos (opn_t (show b ∈ stk ω (b + 1) by rw [hb1]; exact hbm)), if_pos (opn_t (show b ∈ stk ω (b + 1) by rw [hb1]; exact hbm))]
      rw [qv_ext ω (opn ω (b + 1)) (opn ω i) _ l (stk ω b) (fun c _ => opn_e (by rw [hb1])) (fun c hc => by rw [if_neg (fun (e : c = b) => hb2 (e ▸ hc))])]
      rw [wv_open ω (opn ω (b + 1)) (stk ω b) (fun c hc => opn_t (by rw [hb1, hs, hr]; exact List.mem_cons_of_mem _ hc))]
      simp only [if_true]
      omega
    refine ⟨?_, hin⟩
    by_cases hj : b ∈ stk ω j
    · rw [hin hj]; unfold vis; omega
    · unfold vis
      have hne : ∀ c, c ∈ stk ω j → c ≠ b := fun c hc e => hj (e ▸ hc)
      rw [qv_ext ω (opn ω (b + 1)) (opn ω i) _ l (stk ω j) (fun c _ => opn_e (by rw [hb1])) (fun c hc => by rw [if_neg (hne c hc)]), wv_ext ω (opn ω (b + 1)) (opn ω i) (stk ω j) (fun c _ => opn_e (by rw [hb1]))]
      by_cases c : b + 1 ≤ j
      · have : i ≤ j := by
          refine Classical.byContradiction fun h => hj (stk_mid ω b i j hbm (by omega) (by omega))
        rw [if_pos c, if_pos this]; exact Nat.le_refl _
      · rw [if_neg c]; omega
  refine ssum_lt _ _ N i hi (fun j hj => (key j).1) ?_
  rw [(key i).2 hbm, vis_self]; omega
/-- a loop is left -/
theorem phi_out (ω : Nat → Int32) (N i b : Nat) (rest : List Nat) (l l' : Nat → Nat) (hi : i < N) (hk : kdN ω i = 35) (hs : stk ω i = b :: rest) (hl' : ∀ c, c ≠ b → l' c = l c) : phi ω N (i + 1) l' + 1 ≤ phi ω N i l := by
  obtain ⟨hr, hkb, hbi⟩ := stk_head ω i b rest hs
  have h35 : stk ω (i + 1) = stk ω b := by
    simp only [stk]; rw [if_neg (by omega), if_pos hk, hs]; exact hr
  have hbm : b ∈ stk ω i := by rw [hs]; exact List.mem_cons_self
  have hb2 : ¬ b ∈ stk ω b := fun h => by have := stk_lt ω b b h; omega
  have gone : ∀ j, i < j → ¬ b ∈ stk ω j := by
    intro j hj
    have := stk_gone ω b (i + 1) (by omega) (by rw [h35]; exact hb2) (j - (i + 1))
    rw [show i + 1 + (j - (i + 1)) = j by omega] at this
    exact this
  have key : ∀ j, vis ω (i + 1) l' j ≤ qv ω (opn ω i) l (stk ω j) + (if i + 1 ≤ j then wv ω (opn ω i) (stk ω j) else 0) := by
    intro j
    by_cases hj : b ∈ stk ω j
    · have hji : ¬ i + 1 ≤ j := fun h => gone j (by omega) hj
      obtain ⟨inner, e, hin, -⟩ := stk_split ω j b hj
      have h1 : ∀ c, c ∈ inner → ¬ c ∈ stk ω i := fun c hc h => by
        rw [hs, hr] at h
        rcases List.mem_cons.mp h with h | h
        · have := hin c hc; omega
        · have := stk_lt ω b c h; have := hin c hc; omega
      have h2 : ∀ c, c ∈ inner → ¬ c ∈ stk ω (i + 1) := fun c hc h => by
        rw [h35] at h
        have := stk_lt ω b c h; have := hin c hc; omega
      unfold vis
      rw [if_neg hji, if_neg hji, e, qv_inner ω (opn ω (i + 1)) _ inner _ (fun c hc => opn_f (h2 c hc)), qv_inner ω (opn ω i) _ inner _ (fun c hc => opn_f (h1 c hc))]
      apply Nat.add_le_add_right
      apply Nat.mul_le_mul_right
      simp only [qv]
      rw [if_neg (opn_f (show ¬ b ∈ stk ω (i + 1) by rw [h35]; exact hb2))]
      rw [qv_ext ω (opn ω (i + 1)) (opn ω i) l' l (stk ω b) (fun c hc => opn_e (by rw [h35, hs, hr, List.mem_cons]; exact ⟨fun _ => Or.inr hc, fun _ => hc⟩)) (fun c hc => hl' c (fun (e : c = b) => hb2 (e ▸ hc)))]
      omega
    · have hne : ∀ c, c ∈ stk ω j → c ≠ b := fun c hc e => hj (e ▸ hc)
      have ho : ∀ c, c ∈ stk ω j → (c ∈ stk ω (i + 1) ↔ c ∈ stk ω i) := fun c hc => by
        rw [h35, hs, hr, List.mem_cons]
        exact ⟨Or.inr, fun h => h.resolve_left (hne c hc)⟩
      unfold vis
      rw [qv_ext ω (opn ω (i + 1)) (opn ω i) l' l (stk ω j) (fun c hc => opn_e (ho c hc)) (fun c hc => hl' c (hne c hc)), wv_ext ω (opn ω (i + 1)) (opn ω i) (stk ω j) (fun c hc => opn_e (ho c hc))]
      exact Nat.le_refl _
  refine ssum_lt _ _ N i hi (fun j hj => Nat.le_trans (key j) ?_) (Nat.le_trans (Nat.add_le_add_right (key i) 1) ?_)
  · unfold vis
    by_cases c : i + 1 ≤ j
    · rw [if_pos c, if_pos (by omega)]; exact Nat.le_refl _
    · rw [if_neg c]; omega
  · rw [vis_self, if_neg (by omega)]; omega
theorem phi_pos (ω : Nat → Int32) (N i : Nat) (l : Nat → Nat) (hi : i < N) : 1 ≤ phi ω N i l := by
  have := ssum_lt (fun _ => 0) (vis ω i l) N i hi (fun j _ => Nat.zero_le _) (by rw [vis_self]; omega)
  unfold phi; omega
/-- all the steps -/
def stp (ω : Nat → Int32) (N : Nat) : Nat := ssum (fun j => pr ω (stk ω j)) N
theorem phi_start (ω : Nat → Int32) (N : Nat) (l : Nat → Nat) : phi ω N 0 l = stp ω N := by
  have h : ∀ L : List Nat, qv ω (opn ω 0) l L = 0 ∧ wv ω (opn ω 0) L = pr ω L := by
    intro L
    induction L with
    | nil => exact ⟨rfl, rfl⟩
    | cons b r ih =>
      simp only [qv, wv, pr, ih.1, ih.2]
      have : ¬ b ∈ stk ω 0 := fun h => by cases h
      rw [if_neg (opn_f this), if_neg (opn_f this)]
      exact ⟨by omega, rfl⟩
  unfold phi stp
  congr 1
  funext j
  unfold vis
  rw [(h _).1, (h _).2, if_pos (Nat.zero_le j), Nat.zero_add]
