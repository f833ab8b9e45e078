theorem z01 {x : Int32} (h1 : ¬ x < 0) (h2 : ¬ 1 ≤ x) : x = 0 := by
  have a1 := Int32.not_lt.mp h1
  have a2 := Int32.not_le.mp h2
  rw [Int32.le_iff_toInt_le] at a1
  rw [Int32.lt_iff_toInt_lt] at a2
  have b1 : (0 : Int32).toInt = 0 := by decide
  have b2 : (1 : Int32).toInt = 1 := by decide
  rw [b1] at a1
  rw [b2] at a2
  apply Int32.toInt_inj.mp
  rw [b1]
  omega
section WK
variable {p : Program} {l : Launch} {e : Env} {R : Room} {s : State} {m : MethodId} {args : Array Value} {below : List Frame} {meth : Method} {c : Code} {H : Heap} {locs : List Loc} {cells slots : Nat} {Q : State → Prop}
variable {cc : ByteArray} {pc : Nat} {ls : Array Slot} {rest : List Value} {D : va_G} {cI cL : ClassId} {B : Nat} {A : Nat → Prop}
theorem wkept0 (hexec : p.tables.exec = Jvm.exec) (hb : c.code = cc) {t : Nat} {f : Nat → Value} (hT : va_T .int t 26 f (fun q => B ≤ q) s s.heap) (h0 : f 0 = .int (-1)) (hC : wC D cI cL B A s) (hS : va_S A s.heap H locs) (hdg : decode cc pc = .ok (.iaload, 1))
    (k : W p l e R s m args below meth c H locs cells slots Q (F0 m (pc + 1) ls (.int (-1) :: rest))) : W p l e R s m args below meth c H locs cells slots Q (F0 m pc ls (.int 0 :: .ref t :: rest)) := by
  obtain ⟨cell, g1, g2, g3, g4, g5, g6, g7⟩ := hT
  refine W.iald (v := .int (-1)) hexec hb (a := t) (cell := cell) (j := 0) ?_ g2 g3 ?_ ?_ rfl rfl hdg k
  · rw [hS.2.1 t (Array.getElem?_eq_some_iff.mp g1).1 (fun h => g7 (hC.2.2.2.2.1 _ h))]
    exact g1
  · intro h
    rcases h with h | h
    · exact absurd h (by decide)
    · have : (0 : Int32).toNatClampNeg = 0 := by decide
      omega
  · show cell.slots[(0 : Int32).toNatClampNeg]? = _
    rw [show (0 : Int32).toNatClampNeg = 0 by decide, g6 0 (by omega), h0]
end WK
theorem sd_nz {sd : Int32} (h : sd = 8 ∨ sd = 16 ∨ sd = 32 ∨ sd = 64) : ¬ sd = 0 := by
  rcases h with h | h | h | h <;> rw [h] <;> decide
theorem mn_le {n : Nat} (h : n ≤ 16384) : (if (16384 : Int32) < nI n then (16384 : Int32) else nI n) = nI n := if_neg (nI_nlt (a := 16384) (b := n) h (by omega))
theorem out08 {x : Int32} (h : x < 0 ∨ 8 < x) : x.toInt < 0 ∨ 8 < x.toInt := by
  rcases h with h | h
  · left
    have h1 := Int32.lt_iff_toInt_lt.mp h
    rwa [show (0 : Int32).toInt = 0 by decide] at h1
  · right
    have h1 := Int32.lt_iff_toInt_lt.mp h
    rwa [show (8 : Int32).toInt = 8 by decide] at h1
