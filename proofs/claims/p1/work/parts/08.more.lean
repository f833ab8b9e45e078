section WM
variable {p : Program} {l : Launch} {e : Env} {R : Room} {s : State} {m : MethodId} {args : Array Value} {below : List Frame} {meth : Method} {c : Code} {H : Heap} {locs : List Loc} {cells slots : Nat} {Q : State → Prop}
variable {cc : ByteArray} {pc : Nat} {ls : Array Slot} {rest : List Value} {D : va_G} {cI cL : ClassId} {B : Nat} {A : Nat → Prop} {ws : va_W}
theorem wmulti (hexec : p.tables.exec = Jvm.exec) (hb : c.code = cc) {own : String} {index : Nat} (hown : s.vm.findClass own = some m.cls) (hclink : (Cond.classLink own index "[[I").before args s = true) (harr : (Cond.arrayClass .int).before args s = true) (hC : wC D cI cL B A s) (hP : va_P D classes ws H) (hS : va_S A s.heap H locs)
    {k n : Nat} {x y : Int32} (ex : x = nI n) (ey : y = nI k) (hk : k ≤ 65536) (hn : n ≤ 65536) (hk0 : 0 < k) (hdg : decode cc pc = .ok (.multianewarray index 2, 4)) (hcells : cells + (1 + k) ≤ R.cells) (hslots : slots + (k + k * n) ≤ R.slots)
    (kk : ∀ (q : Nat) (H1 : Heap), va_P D classes ws H1 → va_S A s.heap H1 locs → W p l e R s m args below meth c H1 locs (cells + (1 + k)) (slots + (k + k * n)) Q (F0 m (pc + 4) ls (.ref q :: rest))) : W p l e R s m args below meth c H locs cells slots Q (F0 m pc ls (.int x :: .int y :: rest)) := by
  subst ex; subst ey
  refine tq_multi hexec hb hown hclink hC.2.1.2 harr hk hn hk0 hdg hcells hslots hS.1 (fun H1 z1 z2 => kk H.size H1 (hP.kept (fun k x hx => z2 x.1 ((hP k x hx).lt))) ⟨Nat.le_trans hS.1 (by omega), fun x h1 h2 => (z2 x (Nat.lt_of_lt_of_le h1 hS.1)).trans (hS.2.1 x h1 h2), hS.2.2⟩)
end WM
