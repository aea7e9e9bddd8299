/-! ===== base: the two rows that are written out; long answers ===== -/
def loF (k : Nat) : Nat := if k = 3 then 59 else 48
def hiF (k : Nat) : Nat := if k < 2 then 51 else if k = 2 then 53 else if k = 3 then 59 else 57
def lawE (tf tt : Nat) (U : State) : Prop := va_Z "BestBeast" "LAW_FROM" "[C" (.ref tf) (fun _ => False) U U.heap ∧ va_T .char tf 5 (fun j => .int (nI (loF j))) (fun _ => False) U U.heap ∧ va_Z "BestBeast" "LAW_TO" "[C" (.ref tt) (fun _ => False) U U.heap ∧ va_T .char tt 5 (fun j => .int (nI (hiF j))) (fun _ => False) U U.heap
theorem lawE.calling {tf tt : Nat} (U : State) (g : JFrame) (mk : MethodId) (a : Array Value) (h : lawE tf tt U) : lawE tf tt (U.calling g mk a) := ⟨va_Z.moved (u := U) (Vm.Alike.refl U.vm) h.1, va_T.moved (u := U) (Vm.Alike.refl U.vm) h.2.1, va_Z.moved (u := U) (Vm.Alike.refl U.vm) h.2.2.1, va_T.moved (u := U) (Vm.Alike.refl U.vm) h.2.2.2⟩
theorem lawE.at {tf tt : Nat} {s U : State} {H : Heap} (h : lawE tf tt s) (hH : H = s.heap) (hU : U.heap = H) (hW : s.WarmedH U.vm) : lawE tf tt U := by
  subst hH
  unfold lawE
  rw [hU]
  exact ⟨va_Z.moved hW.alike h.1, va_T.moved hW.alike h.2.1, va_Z.moved hW.alike h.2.2.1, va_T.moved hW.alike h.2.2.2⟩
/-- how much of the page is a law's: so many letters, each at its place -/
def goodP (k : Nat) (c : Int32) : Prop := k < 5 ∧ inP (loF k) (hiF k) c
noncomputable def faultR (P : Nat → Int32) : Nat → Nat
  | 0 => 0
  | k + 1 => zif (faultR P k = k ∧ goodP k (P k)) (k + 1) (faultR P k)
theorem faultR_le (P : Nat → Int32) : ∀ k : Nat, faultR P k ≤ k
  | 0 => Nat.le_refl _
  | k + 1 => by
    rw [faultR]
    by_cases h : faultR P k = k ∧ goodP k (P k)
    · rw [zif_t h]; exact Nat.le_refl _
    · rw [zif_f h]; exact Nat.le_succ_of_le (faultR_le P k)
theorem faultR_y {P : Nat → Int32} {k : Nat} (h : faultR P k = k) (c : goodP k (P k)) : faultR P (k + 1) = k + 1 := by rw [faultR, zif_t ⟨h, c⟩]
theorem faultR_stop {P : Nat → Int32} {k : Nat} (h : faultR P k = k) (c : ¬ goodP k (P k)) : ∀ m : Nat, k < m → faultR P m = k
  | 0, hm => absurd hm (by omega)
  | m + 1, hm => by
    rcases Nat.lt_or_ge k m with h1 | h1
    · have ih := faultR_stop h c m h1
      rw [faultR, ih, zif_f (fun z => absurd z.1 (by omega))]
    · obtain rfl : k = m := by omega
      rw [faultR, zif_f (fun z => c z.2), h]
theorem faultR_5 {P : Nat → Int32} (h : faultR P 5 = 5) : ∀ i, i < 5 → goodP i (P i) := by
  have key : ∀ m : Nat, faultR P m = m → ∀ i, i < m → goodP i (P i) := by
    intro m
    induction m with
    | zero => intro _ i hi; exact absurd hi (by omega)
    | succ m ih =>
      intro hm i hi
      rw [faultR] at hm
      by_cases c : faultR P m = m ∧ goodP m (P m)
      · rcases Nat.lt_succ_iff_lt_or_eq.mp hi with h1 | rfl
        · exact ih c.1 i h1
        · exact c.2
      · rw [zif_f c] at hm
        have := faultR_le P m
        omega
  exact key 5 h
noncomputable def letterF (P ξ : Nat → Int32) (n : Nat) (code : Int32) : Int32 × (Nat → Int32) × (Nat → Int32) := zif (inP 1 126 code) (if n = 8 then (-104, P, ξ) else (nI (n + 1), upd P n code, upd ξ 0 (nI (n + 1)))) (-102, P, ξ)
def lawS (σ : St) (P : Nat → Int32) : St := up2 (up2 (up2 (up2 σ 0 0 (P 0 - nI 48)) 0 1 (P 1 - nI 48)) 0 2 (P 2 - nI 48)) 0 3 (P 4 - nI 48)
noncomputable def lawF (σ : St) (P ξ : Nat → Int32) (n : Nat) : Int32 × St × (Nat → Int32) := zif (n = 5 ∧ faultR P 5 = 5) (ξ 1 + nI 1, lawS σ P, upd (upd ξ 0 (nI 0)) 1 (ξ 1 + nI 1)) (-103, σ, ξ)
theorem rollP_iff {k : Int32} : ((-1) ≤ k ∧ k ≤ nI 1) ↔ (k = -1 ∨ inP 0 1 k) := by
  have m1 : (-1 : Int32).toInt = -1 := by decide
  constructor
  · rintro ⟨h1, h2⟩
    have p1 := Int32.le_iff_toInt_le.mp h1
    rw [m1] at p1
    rcases Int.lt_or_le k.toInt 0 with h | h
    · left
      apply Int32.toInt_inj.mp
      rw [m1]; omega
    · right
      refine (inP_iff (by decide) (by decide)).mp ⟨?_, h2⟩
      rw [Int32.le_iff_toInt_le, nI_toInt (by decide)]
      exact h
  · rintro (rfl | ⟨j, h1, h2, rfl⟩)
    · exact ⟨Int32.le_refl _, by decide⟩
    · refine ⟨?_, nI_le h2 (by decide)⟩
      rw [Int32.le_iff_toInt_le, nI_toInt (by omega), m1]
      omega
def vpL (post : Int64 → Prop) : Array Value → State → Outcome → State → Prop := fun _ st o t => ∃ r : Int64, o = .returned (some (.long r)) ∧ post r ∧ t.heap = st.heap
theorem z_pureL {l : Launch} {y : MethodName} {ws ws' : List Cond} {rm : Room} {cc : ByteArray} {maxL : Nat} {av : List Value} {B : State → Prop} {post : Int64 → Prop} (hy : plainName y.cls = true) (hw : ws = Cond.code y cc maxL (some .long) :: ws') (hlen : (lg_sl av).length ≤ maxL)
    (body : ∀ (p : Program) (e : Env) (s : State) (m : MethodId) (below : List Frame) (meth : Method) (c : Code) (Q : State → Prop) (ls : Array Slot), p.tables.exec = Jvm.exec → c.code = cc → c.maxLocals = maxL → s.vm.findClass y.cls = some m.cls → (∀ w ∈ ws, w.before av.toArray s = true) → B s →
      (∀ (v : Int64) (pc : Nat) (ls : Array Slot), decode cc pc = .ok (.lreturn, 1) → post v → W p l e rm s m av.toArray below meth c s.heap [] 0 0 Q (F0 m pc ls [.long v])) →
      lv_has ls maxL (lv_args 0 av) → W p l e rm s m av.toArray below meth c s.heap [] 0 0 Q (F0 m 0 ls [])) : Met l y ws rm (va_Pc av B) (vpL post) 0 0 (fun _ => False) := by
  refine Met.ofW (cc := cc) (maxL := maxL) (ret := some .long) hy hw ?_
  intro p e s m args below meth c s₁ Bd hml hv
  obtain ⟨rfl, hB⟩ := hv
  have hts := atoms_spec (ws := ws) Bd.pre
  have hown : s.vm.findClass y.cls = some m.cls := findClass_of_methodNamed Bd.named
  have hl := lv_entry av (n := maxL) hlen
  rw [lg_entry_eq]
  refine body p e s m below meth c _ _ Bd.exec Bd.bytes hml hown hts hB ?_ hl
  intro v pc ls hd hp
  exact W.lret Bd.exec Bd.bytes Bd.returns (fun t ht hW => ⟨v, rfl, hp, ht⟩) (fun q h => by cases h) hd Bd.notSynchronized
section ZE
variable {p : Program} {l : Launch} {e : Env} {R : Room} {s : State} {m : MethodId} {args : Array Value} {below : List Frame} {meth : Method} {c : Code} {H : Heap} {locs : List Loc} {cells slots : Nat} {Q : State → Prop}
variable {cc : ByteArray} {pc : Nat} {ls : Array Slot} {rest : List Value} {D : va_G} {cl : List vw_C}
variable {y : MethodName} {bytes : ByteArray} {maxL nL n index : Nat} {ret : Option FieldType} {ws2 : List Cond} {rm : Room} {Ts : List Cond} {own C : String} {b : Addr} {As st0 : List Value} {wc : va_W} {tc : List (ClassId × FieldType)}
theorem z_callVE {post : Int32 → Prop} {E : State → Prop} (S : CallFix p m c cc nL s args Ts own) (hM : Met l y ws2 rm (va_Pc (Value.ref b :: As) (fun U => (va_P D cl wc U.heap ∧ va_K D cl tc U) ∧ E U)) (vp_Si post) 0 0 (fun _ => False)) (cw : CallW R s args own C index y bytes maxL ret ws2 rm 0 0 n)
    (hEb : ∀ (U : State) (g : JFrame) (mk : MethodId) (a : Array Value), E U → E (U.calling g mk a)) (hEs : ∀ U : State, U.heap = H → s.WarmedH U.vm → E U)
    (hP : va_P D cl wc H) (hK : va_K D cl tc s) (hrec : ∃ cell : Cell, H[b]? = some cell ∧ cell.vm.isStatics = false ∧ s.vm.findClass C = some cell.cls) (hn : As.length = n) (hsz : ls.size = nL) (hst : st0 = As.reverse ++ .ref b :: rest) (hcat : (rest.map fun v => v.category).sum ≤ 8) (hcs : cells ≤ R.cells ∧ slots ≤ R.slots) (hdg : decode cc pc = .ok (.invokevirtual index, 3))
    (kk : ∀ r : Int32, post r → W p l e R s m args below meth c H locs cells slots Q (F0 m (pc + 3) ls (.int r :: rest))) : W p l e R s m args below meth c H locs cells slots Q (F0 m pc ls st0) := by
  intro T hT X
  have hr := va_runV (below := below) (e := e) (meth := meth) (locs := locs) (cells := cells) (slots := slots) (H := H) (g := F0 m pc ls st0) (rest := rest) S hM cw ⟨fun a U g mk q => ⟨q.1, ⟨q.2.1.1, va_K.moved (u := U) (U := U.calling g mk a) (Vm.Alike.refl U.vm) q.2.1.2⟩, hEb U g mk a q.2.2⟩, hrec, fun U hU hW => ⟨rfl, ⟨by rw [hU]; exact hP, va_K.moved hW.alike hK⟩, hEs U hU hW⟩⟩ rfl hn hsz hst (lv_room hcat) hdg hcs
  obtain ⟨v, st₀, t, T', L, h0, X', hL, e1, e2, ⟨r, hv, hp, hh⟩, st⟩ := hr T hT X
  cases hv
  obtain ⟨t2, a1, b1⟩ := kk r hp T' (by rw [e1, hh, h0]) (Stand.forget X' (fun q h => (hL q h).elim))
  exact ⟨t2, st t2 a1, b1⟩
theorem z_callVL {post : Int64 → Prop} (S : CallFix p m c cc nL s args Ts own) (hM : Met l y ws2 rm (va_Pc (Value.ref b :: As) (fun U => va_P D cl wc U.heap ∧ va_K D cl tc U)) (vpL post) 0 0 (fun _ => False)) (cw : CallW R s args own C index y bytes maxL ret ws2 rm 0 0 n)
    (hP : va_P D cl wc H) (hK : va_K D cl tc s) (hrec : ∃ cell : Cell, H[b]? = some cell ∧ cell.vm.isStatics = false ∧ s.vm.findClass C = some cell.cls) (hn : As.length = n) (hsz : ls.size = nL) (hst : st0 = As.reverse ++ .ref b :: rest) (hcat : (rest.map fun v => v.category).sum ≤ 8) (hcs : cells ≤ R.cells ∧ slots ≤ R.slots) (hdg : decode cc pc = .ok (.invokevirtual index, 3))
    (kk : ∀ r : Int64, post r → W p l e R s m args below meth c H locs cells slots Q (F0 m (pc + 3) ls (.long r :: rest))) : W p l e R s m args below meth c H locs cells slots Q (F0 m pc ls st0) := by
  intro T hT X
  have hr := va_runV (below := below) (e := e) (meth := meth) (locs := locs) (cells := cells) (slots := slots) (H := H) (g := F0 m pc ls st0) (rest := rest) S hM cw ⟨z_blind, hrec, fun U hU hW => ⟨rfl, by rw [hU]; exact hP, va_K.moved hW.alike hK⟩⟩ rfl hn hsz hst (lv_room hcat) hdg hcs
  obtain ⟨v, st₀, t, T', L, h0, X', hL, e1, e2, ⟨r, hv, hp, hh⟩, st⟩ := hr T hT X
  cases hv
  obtain ⟨t2, a1, b1⟩ := kk r hp T' (by rw [e1, hh, h0]) (Stand.forget X' (fun q h => (hL q h).elim))
  exact ⟨t2, st t2 a1, b1⟩
end ZE
