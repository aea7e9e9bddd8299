/-! ===== the law's rounds: what they stand on ===== -/
abbrev rmL : Room := { frames := 9, cells := 42, slots := 380, locals := 356 }
def LB (p : Program) (s : State) (m : MethodId) (c : Code) (b L : Nat) (xs : Nat → Int32) : Prop := p.tables.exec = Jvm.exec ∧ c.code = cL_law ∧ c.maxLocals = 4 ∧ s.vm.findClass RL = some m.cls ∧ (∀ w ∈ wsL_law, w.before #[Value.ref b] s = true) ∧ va_X b L xs s s.heap ∧ b < s.heap.size
def lawA (tf tt : Nat) (A : Nat → Prop) (s : State) : Prop := va_Z "BestBeast" "LAW_FROM" "[C" (.ref tf) A s s.heap ∧ va_T .char tf 5 (fun j => .int (nI (loF j))) A s s.heap ∧ va_Z "BestBeast" "LAW_TO" "[C" (.ref tt) A s s.heap ∧ va_T .char tt 5 (fun j => .int (nI (hiF j))) A s s.heap
theorem lawA.at {tf tt : Nat} {A : Nat → Prop} {s U : State} {H : Heap} {locs : List Loc} (h : lawA tf tt A s) (hS : va_S A s.heap H locs) (hU : U.heap = H) (hW : s.WarmedH U.vm) : lawE tf tt U := by
  unfold lawE
  rw [hU]
  have hf : ∀ q : Nat, (fun _ : Nat => False) q → A q := fun _ z => absurd z id
  exact ⟨((h.1.kept hS.2.1).moved hW.alike).narrow hf, ((h.2.1.kept hS.2.1).moved hW.alike).narrow hf, ((h.2.2.1.kept hS.2.1).moved hW.alike).narrow hf, ((h.2.2.2.kept hS.2.1).moved hW.alike).narrow hf⟩
theorem cmp_self (x : Int64) : lg_cmp x x = 0 := by
  unfold lg_cmp
  rw [if_neg (fun h => by have h2 := Int64.lt_iff_toInt_lt.mp h; omega), if_pos rfl]
section ZL
variable {p : Program} {l : Launch} {e : Env} {R : Room} {s : State} {m : MethodId} {args : Array Value} {below : List Frame} {meth : Method} {c : Code} {H : Heap} {locs : List Loc} {cells slots : Nat} {Q : State → Prop}
variable {cc : ByteArray} {pc : Nat} {ls : Array Slot} {rest : List Value} {A : Nat → Prop} {H0 : Heap}
theorem z_sld (hexec : p.tables.exec = Jvm.exec) (hb : c.code = cc) {b L : Nat} {xs : Nat → Int32} (hX : va_X b L xs s H0) (hbl : b < H0.size) (hbA : ¬ A b) (hS : va_S A H0 H locs) (j : Nat) (hj : j < L) (hL : L ≤ 2048) (hdg : decode cc pc = .ok (.iaload, 1))
    (kk : W p l e R s m args below meth c H locs cells slots Q (F0 m (pc + 1) ls (.int (xs j) :: rest))) : W p l e R s m args below meth c H locs cells slots Q (F0 m pc ls (.int (nI j) :: .ref b :: rest)) := by
  refine va_sld hexec hb hX hbl hbA hS (vp_in_nI hj (by omega)) hdg ?_
  rw [nI_clamp (by omega)]
  exact kk
end ZL
