/-! ===== what is made: new cells ===== -/
theorem z_arr {args : Array Value} {s : State} {ty : FieldType} (h : (Cond.arrayClass ty).before args s = true) : ∃ cA : ClassId, ArrOfT s cA ty ∧ s.vm.findClass ("[" ++ ty.toString) = some cA := by
  obtain ⟨cA, kA, comp, h1, h2, h3⟩ := Cond.arrayClass_spec h
  exact ⟨cA, fun n z => ⟨fun k h => (by cases h), kA, h2, comp, h3⟩, h1⟩
def adr : List Nat → Nat → Nat
  | [], _ => 0
  | a :: _, 0 => a
  | _ :: t, i + 1 => adr t i
def st0 : St := fun i j => match i with
  | 0 => (match j with
    | 0 => nI 1
    | 1 => nI 1
    | 2 => nI 1
    | _ => 0)
  | _ => 0
def kv0 (i : Nat) : Int32 := match i with
  | 0 => (-1)
  | _ => 0
theorem st0_in (i j : Nat) : st0 (i + 1) j = 0 := rfl
theorem men0 : menOf st0 = fun _ => 0 := by
  funext j
  rw [menOf_eq]
  exact st0_in _ _
theorem rows0 : rowsOf st0 = fun _ => 0 := by
  funext j
  rw [rowsOf_eq, show j % 5 + 5 = (j % 5 + 4) + 1 by omega]
  exact st0_in _ _
section ZN
variable {p : Program} {l : Launch} {e : Env} {R : Room} {s : State} {m : MethodId} {args : Array Value} {below : List Frame} {meth : Method} {c : Code} {H : Heap} {locs : List Loc} {cells slots : Nat} {Q : State → Prop}
variable {cc : ByteArray} {pc : Nat} {ls : Array Slot} {rest : List Value} {D : va_G} {cl : List vw_C} {A : Nat → Prop} {ws : va_W} {H0 : Heap} {tys : List (ClassId × FieldType)}
theorem z_newa (hexec : p.tables.exec = Jvm.exec) (hb : c.code = cc) {atype : ArrayType} (harr : (Cond.arrayClass (newarray.typeOf atype)).before args s = true) {ty : FieldType} (hty : newarray.typeOf atype = ty) (hK : va_K D cl tys s) (hP : va_P D cl ws H) (hD : va_D A ws) (hS : va_S A H0 H locs) (hA : ∀ q, H0.size ≤ q → A q)
    (k : Nat) {cA0 : ClassId} (hk : tys[k]? = some (cA0, ty)) (hra : ∀ cA : ClassId, va_RA s cA ty → s.vm.findClass ("[" ++ ty.toString) = some cA) (N : Nat) (hN : N < 100) (hdv : defaultValue ty = .int 0) (hcb : componentBytes ty ≤ 8) (hcells : cells + 1 ≤ R.cells) (hslots : slots + N ≤ R.slots) (hdg : decode cc pc = .ok (.newarray atype, 2))
    (kk : ∀ (q : Nat) (H1 : Heap), va_P D cl (ws ++ [(q, .inl (cA0, N, .inl (fun _ => 0)))]) H1 → va_D A (ws ++ [(q, .inl (cA0, N, .inl (fun _ => 0)))]) → va_S A H0 H1 locs →
      W p l e R s m args below meth c H1 locs (cells + 1) (slots + N) Q (F0 m (pc + 2) ls (.ref q :: rest))) : W p l e R s m args below meth c H locs cells slots Q (F0 m pc ls (.int (nI N) :: rest)) := by
  refine va_newa (a0 := (N, .inl (fun _ => 0))) hexec hb harr hty hK hP hD hS hA (fun cA => by rw [hdv]; rfl) (fun h => by have h9 := Int32.lt_iff_toInt_lt.mp h; rw [nI_toInt (by omega), Int32.toInt_zero] at h9; omega) (nI_clamp (by omega)) (Nat.le_trans (Nat.mul_le_mul (Nat.le_of_lt hN) hcb) (by decide)) hcells hslots hdg (fun q cA H1 hK1 hP1 hD1 hS1 => ?_)
  have h1 := hra _ (hK1.2 tys.length (cA, ty) (by simp)).2
  have h2 := hra _ (hK.2 k _ hk).2
  have e1 : cA = cA0 := Option.some.inj (h1.symm.trans h2)
  subst e1
  exact kk q H1 hP1 hD1 hS1
variable {y : MethodName} {bytes : ByteArray} {maxL nL n index mc ms : Nat} {ret : Option FieldType} {ws2 : List Cond} {rm : Room} {Ts : List Cond} {own host : String} {As st9 : List Value} {b : Nat} {wc : va_W} {tc : List (ClassId × FieldType)}
theorem z_made {S : Type} {post : S → Prop} {wd : S → va_W} (hr : va_Run p l e R s m args below meth c H locs cells slots mc ms (F0 m pc ls st9) rest (va_Qv post (zPost D cl tc wc H.size wd) (va_A wc H.size) (Value.ref b :: As).toArray) (va_A wc H.size))
    (hP : va_P D cl ws H) (hD : va_D A ws) (hS : va_S A H0 H locs) (hA : ∀ q, H0.size ≤ q → A q) (isC isR : List Nat) (hC : isC.map (fun i => ws[i]?) = wc.map some) (hnC : va_nd isC = true) (hR : isR.all (fun i => decide (i < ws.length)) = true) (hnR : va_nd isR = true) (hdis : ∀ i ∈ isR, i ∉ isC)
    (kk : ∀ (u : S) (H1 : Heap) (locs1 : List Loc), post u → va_P D cl (isR.filterMap (fun i => ws[i]?) ++ wd u) H1 → va_D A (isR.filterMap (fun i => ws[i]?) ++ wd u) → va_S A H0 H1 locs1 → W p l e R s m args below meth c H1 locs1 (cells + mc) (slots + ms) Q (F0 m (pc + 3) ls rest)) : W p l e R s m args below meth c H locs cells slots Q (F0 m pc ls st9) := by
  have hF := va_free (wc := wc) hD hS hA isC hC
  refine va_callv hr hS (fun q _ h => hF q h) hF (fun u t H1 locs1 ht hvm hp hB hz1 hk1 hS1 => ?_)
  obtain ⟨hP1, hK1, hD1⟩ := hB
  rw [ht] at hP1
  obtain ⟨hP2, hD2⟩ := va_join (wr := isR.filterMap (fun i => ws[i]?)) (w1 := wd u) hP hD isC isR hC (z_inR hR) hnR hdis hk1 hF hP1 hD1
  exact kk u H1 locs1 hp hP2 hD2 hS1
theorem z_pre {B : State → Prop} {av : List Value} (hBs : ∀ U : State, U.heap = H → s.WarmedH U.vm → B U) (hP : va_P D cl ws H) (hD : va_D A ws) (hK : va_K D cl tc s) (isC : List Nat) (hC : isC.map (fun i => ws[i]?) = wc.map some) (hnC : va_nd isC = true) : ∀ U : State, U.heap = H → s.WarmedH U.vm → va_Pc av (zPre D cl tc wc H.size B) av.toArray U := by
  intro U hU hW
  have hPc : va_P D cl wc H := by
    intro k q hk
    have h1 : (isC.map (fun i => ws[i]?))[k]? = some (some q) := by rw [hC, List.getElem?_map, hk]; rfl
    rw [List.getElem?_map] at h1
    cases hi : isC[k]? with
    | none => rw [hi] at h1; cases h1
    | some i => rw [hi] at h1; exact hP i q (Option.some.inj h1)
  have hDc : va_D A wc := hD.sub isC hnC hC
  exact ⟨rfl, by rw [hU], by rw [hU]; exact hPc, va_K.moved hW.alike hK, hDc.weaken (fun _ _ _ _ => trivial), hBs U hU hW⟩
/-- a nest mate's constructor -/
theorem z_initN {S : Type} {post : S → Prop} {wd : S → va_W} {B : State → Prop} (SS : CallFix p m c cc nL s args Ts own) (hM : Met l y ws2 rm (va_Pc (Value.ref b :: As) (zPre D cl tc wc H.size B)) (va_Qv post (zPost D cl tc wc H.size wd) (va_A wc H.size)) mc ms (va_A wc H.size)) (cw : va_CN R s args own index y host bytes maxL none ws2 rm mc ms n ∧ y.name = "<init>" ∧ (Cond.instanceMethod y).before args s = true) (hBb : ∀ (U : State) (g : JFrame) (mk : MethodId) (a : Array Value), B U → B (U.calling g mk a)) (hBs : ∀ U : State, U.heap = H → s.WarmedH U.vm → B U)
    (hP : va_P D cl ws H) (hD : va_D A ws) (hK : va_K D cl tc s) (hS : va_S A H0 H locs) (hA : ∀ q, H0.size ≤ q → A q) (isC isR : List Nat) (hC : isC.map (fun i => ws[i]?) = wc.map some) (hnC : va_nd isC = true) (hR : isR.all (fun i => decide (i < ws.length)) = true) (hnR : va_nd isR = true) (hdis : ∀ i ∈ isR, i ∉ isC) (hn : As.length = n) (hsz : ls.size = nL) (hst : st9 = As.reverse ++ .ref b :: rest) (hcat : (rest.map fun v => v.category).sum ≤ 8) (hcs : cells + mc ≤ R.cells ∧ slots + ms ≤ R.slots) (hdg : decode cc pc = .ok (.invokespecial index, 3))
    (kk : ∀ (u : S) (H1 : Heap) (locs1 : List Loc), post u → va_P D cl (isR.filterMap (fun i => ws[i]?) ++ wd u) H1 → va_D A (isR.filterMap (fun i => ws[i]?) ++ wd u) → va_S A H0 H1 locs1 → W p l e R s m args below meth c H1 locs1 (cells + mc) (slots + ms) Q (F0 m (pc + 3) ls rest)) : W p l e R s m args below meth c H locs cells slots Q (F0 m pc ls st9) :=
  z_made (va_runIN (below := below) (e := e) (meth := meth) (locs := locs) (cells := cells) (slots := slots) (H := H) (g := F0 m pc ls st9) (rest := rest) SS hM cw ⟨z_blindW hBb, z_pre hBs hP hD hK isC hC hnC⟩ rfl hn hsz hst (lv_room hcat) hdg hcs) hP hD hS hA isC isR hC hnC hR hnR hdis kk
/-- a constructor that all may call -/
theorem z_initB {S : Type} {post : S → Prop} {wd : S → va_W} {B : State → Prop} (SS : CallFix p m c cc nL s args Ts own) (hM : Met l y ws2 rm (va_Pc (Value.ref b :: As) (zPre D cl tc wc H.size B)) (va_Qv post (zPost D cl tc wc H.size wd) (va_A wc H.size)) mc ms (va_A wc H.size)) (cw : CallB R s args own index y bytes maxL none ws2 rm mc ms n ∧ y.name = "<init>" ∧ (Cond.instanceMethod y).before args s = true) (hBb : ∀ (U : State) (g : JFrame) (mk : MethodId) (a : Array Value), B U → B (U.calling g mk a)) (hBs : ∀ U : State, U.heap = H → s.WarmedH U.vm → B U)
    (hP : va_P D cl ws H) (hD : va_D A ws) (hK : va_K D cl tc s) (hS : va_S A H0 H locs) (hA : ∀ q, H0.size ≤ q → A q) (isC isR : List Nat) (hC : isC.map (fun i => ws[i]?) = wc.map some) (hnC : va_nd isC = true) (hR : isR.all (fun i => decide (i < ws.length)) = true) (hnR : va_nd isR = true) (hdis : ∀ i ∈ isR, i ∉ isC) (hn : As.length = n) (hsz : ls.size = nL) (hst : st9 = As.reverse ++ .ref b :: rest) (hcat : (rest.map fun v => v.category).sum ≤ 8) (hcs : cells + mc ≤ R.cells ∧ slots + ms ≤ R.slots) (hdg : decode cc pc = .ok (.invokespecial index, 3))
    (kk : ∀ (u : S) (H1 : Heap) (locs1 : List Loc), post u → va_P D cl (isR.filterMap (fun i => ws[i]?) ++ wd u) H1 → va_D A (isR.filterMap (fun i => ws[i]?) ++ wd u) → va_S A H0 H1 locs1 → W p l e R s m args below meth c H1 locs1 (cells + mc) (slots + ms) Q (F0 m (pc + 3) ls rest)) : W p l e R s m args below meth c H locs cells slots Q (F0 m pc ls st9) :=
  z_made (va_runI (below := below) (e := e) (meth := meth) (locs := locs) (cells := cells) (slots := slots) (H := H) (g := F0 m pc ls st9) (rest := rest) SS hM cw ⟨z_blindW hBb, z_pre hBs hP hD hK isC hC hnC⟩ rfl hn hsz hst (lv_room hcat) hdg hcs) hP hD hS hA isC isR hC hnC hR hnR hdis kk
end ZN
def nestE (U : State) : Prop := va_Nw (.methodLinkNest RX2 9 yX1_init RX2) U ∧ va_Nw (.methodLinkNest RX2 24 yX0_init RX2) U
theorem nestE.calling (U : State) (g : JFrame) (mk : MethodId) (a : Array Value) (h : nestE U) : nestE (U.calling g mk a) := ⟨va_Nw.same rfl rfl h.1, va_Nw.same rfl rfl h.2⟩
theorem nestE.warm {s U : State} (hW : s.WarmedH U.vm) (h : nestE s) : nestE U := ⟨va_Nw.warmM hW h.1, va_Nw.warmM hW h.2⟩
section ZNI
variable {p : Program} {l : Launch} {e : Env} {R : Room} {s : State} {m : MethodId} {args : Array Value} {below : List Frame} {meth : Method} {c : Code} {H : Heap} {locs : List Loc} {cells slots : Nat} {Q : State → Prop}
variable {cc : ByteArray} {pc : Nat} {ls : Array Slot} {rest : List Value} {D : va_G} {cl : List vw_C} {A : Nat → Prop} {ws : va_W} {H0 : Heap} {tys : List (ClassId × FieldType)}
theorem z_newaI (hexec : p.tables.exec = Jvm.exec) (hb : c.code = cc) (harr : (Cond.arrayClass .int).before args s = true) (hK : va_K D cl tys s) (hP : va_P D cl ws H) (hD : va_D A ws) (hS : va_S A H0 H locs) (hA : ∀ q, H0.size ≤ q → A q)
    (k : Nat) {cA0 : ClassId} (hk : tys[k]? = some (cA0, .int)) (N : Nat) (hN : N < 100) (hcells : cells + 1 ≤ R.cells) (hslots : slots + N ≤ R.slots) (hdg : decode cc pc = .ok (.newarray .int, 2))
    (kk : ∀ (q : Nat) (H1 : Heap), va_P D cl (ws ++ [(q, .inl (cA0, N, .inl (fun _ => 0)))]) H1 → va_D A (ws ++ [(q, .inl (cA0, N, .inl (fun _ => 0)))]) → va_S A H0 H1 locs →
      W p l e R s m args below meth c H1 locs (cells + 1) (slots + N) Q (F0 m (pc + 2) ls (.ref q :: rest))) : W p l e R s m args below meth c H locs cells slots Q (F0 m pc ls (.int (nI N) :: rest)) :=
  z_newa (atype := .int) (ty := .int) hexec hb harr rfl hK hP hD hS hA k hk (fun _ h => h) N hN rfl (by decide) hcells hslots hdg kk
theorem z_newaZ (hexec : p.tables.exec = Jvm.exec) (hb : c.code = cc) (harr : (Cond.arrayClass .boolean).before args s = true) (hK : va_K D cl tys s) (hP : va_P D cl ws H) (hD : va_D A ws) (hS : va_S A H0 H locs) (hA : ∀ q, H0.size ≤ q → A q)
    (k : Nat) {cA0 : ClassId} (hk : tys[k]? = some (cA0, .boolean)) (N : Nat) (hN : N < 100) (hcells : cells + 1 ≤ R.cells) (hslots : slots + N ≤ R.slots) (hdg : decode cc pc = .ok (.newarray .boolean, 2))
    (kk : ∀ (q : Nat) (H1 : Heap), va_P D cl (ws ++ [(q, .inl (cA0, N, .inl (fun _ => 0)))]) H1 → va_D A (ws ++ [(q, .inl (cA0, N, .inl (fun _ => 0)))]) → va_S A H0 H1 locs →
      W p l e R s m args below meth c H1 locs (cells + 1) (slots + N) Q (F0 m (pc + 2) ls (.ref q :: rest))) : W p l e R s m args below meth c H locs cells slots Q (F0 m pc ls (.int (nI N) :: rest)) :=
  z_newa (atype := .boolean) (ty := .boolean) hexec hb harr rfl hK hP hD hS hA k hk (fun _ h => h) N hN rfl (by decide) hcells hslots hdg kk
end ZNI
