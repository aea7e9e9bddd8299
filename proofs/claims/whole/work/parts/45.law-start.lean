/-! ===== the law: what its start gives ===== -/
theorem st_at {args : Array Value} {s : State} {n : String} {tm : Term} {f : Nat → Nat} {A : Nat → Prop} (etm : tm = .static "BestBeast" n "[C") (hl : (Cond.laysStatic "BestBeast" n "[C").before args s = true) (hini : (Cond.initialized "BestBeast").before args s = true) (harr : (Cond.arrayOf tm .char).before args s = true) (hlen : (Cond.eq (.length tm) (.int 5)).before args s = true) (h0 : (Cond.eq (.elem tm (.int 0)) (.int (nI (f 0)))).before args s = true) (h1 : (Cond.eq (.elem tm (.int 1)) (.int (nI (f 1)))).before args s = true) (h2 : (Cond.eq (.elem tm (.int 2)) (.int (nI (f 2)))).before args s = true) (h3 : (Cond.eq (.elem tm (.int 3)) (.int (nI (f 3)))).before args s = true) (h4 : (Cond.eq (.elem tm (.int 4)) (.int (nI (f 4)))).before args s = true) (hA : ∀ a : Nat, a < s.heap.size → ¬ A a) : ∃ t : Nat, va_Z "BestBeast" n "[C" (.ref t) A s s.heap ∧ va_T .char t 5 (fun j => .int (nI (f j))) A s s.heap := by
  obtain ⟨t, et, hT⟩ := va_Tof (N := 5) (f := fun j => .int (nI (f j))) (A := A) (by decide) harr (va_eqt hlen) (fun j hj => by
    rcases (show j = 0 ∨ j = 1 ∨ j = 2 ∨ j = 3 ∨ j = 4 by omega) with rfl | rfl | rfl | rfl | rfl
    · exact va_eqt h0
    · exact va_eqt h1
    · exact va_eqt h2
    · exact va_eqt h3
    · exact va_eqt h4) hA
  subst etm
  exact ⟨t, va_Zof hl hini et hA, hT⟩
theorem lawA_of {args : Array Value} {s : State} {A : Nat → Prop} (hts : ∀ w ∈ lw_tbl, w.before args s = true) (hini : (Cond.initialized "BestBeast").before args s = true) (hgv : (Jvm.Cond.and given_1 narrow_1).before args s = true) (hA : ∀ a : Nat, a < s.heap.size → ¬ A a) : ∃ tf tt : Nat, lawA tf tt A s := by
  have hg := flat_of_before _ hgv
  obtain ⟨tl, al, bl⟩ := st_at (n := "LAW_FROM") (tm := .static "BestBeast" "LAW_FROM" "[C") (f := loF) (A := A) rfl (hts _ (List.mem_of_getElem? (i := 177) (by decide +kernel))) hini (hg _ (by decide +kernel)) (hg _ (by decide +kernel)) (hg _ (by decide +kernel)) (hg _ (by decide +kernel)) (hg _ (by decide +kernel)) (hg _ (by decide +kernel)) (hg _ (by decide +kernel)) hA
  obtain ⟨th, ah, bh⟩ := st_at (n := "LAW_TO") (tm := .static "BestBeast" "LAW_TO" "[C") (f := hiF) (A := A) rfl (hts _ (List.mem_of_getElem? (i := 179) (by decide +kernel))) hini (hg _ (by decide +kernel)) (hg _ (by decide +kernel)) (hg _ (by decide +kernel)) (hg _ (by decide +kernel)) (hg _ (by decide +kernel)) (hg _ (by decide +kernel)) (hg _ (by decide +kernel)) hA
  exact ⟨tl, th, al, bl, ah, bh⟩
theorem nestE_of {args : Array Value} {s : State} (hts : ∀ w ∈ lw_tbl, w.before args s = true) : nestE s := ⟨va_Nw.of rfl (hts _ (List.mem_of_getElem? (i := 46) (by decide +kernel))), va_Nw.of rfl (hts _ (List.mem_of_getElem? (i := 123) (by decide +kernel)))⟩
theorem known_of {args : Array Value} {s : State} (hT : ∀ w ∈ wsL_law, w.before args s = true) (w1 : ∀ w ∈ wsL_law_r1, w.before args s = true) (w2 : ∀ w ∈ wsL_law_r2, w.before args s = true) : ∃ (dC : Nat → ClassId) (dI : Nat → Nat → Nat) (cI cZ : ClassId), va_K (dC, dI) vwCl (tyIZ cI cZ) s := by
  obtain ⟨c0, iS0, hKn0⟩ := u_known (C := RX0) (T := TX0) (N := 1) (n := 1) hT inlX0 (w1 (.instantiable RX0 1) (List.mem_of_getElem? (i := 19) rfl))
  obtain ⟨c1, iS1, hKn1⟩ := u_known (C := RX1) (T := TX1) (N := 17) (n := 17) hT inlX1 (w1 (.instantiable RX1 17) (List.mem_of_getElem? (i := 13) rfl))
  obtain ⟨c2, iS2, hKn2⟩ := u_known (C := RX2) (T := TX2) (N := 8) (n := 8) hT inlX2 (w1 (.instantiable RX2 8) (List.mem_of_getElem? (i := 1) rfl))
  obtain ⟨c3, iS3, hKn3⟩ := u_known (C := RX3) (T := TX3) (N := 24) (n := 24) hT inlX3 (w1 (.instantiable RX3 24) (List.mem_of_getElem? (i := 4) rfl))
  obtain ⟨cI, hI1, hI2⟩ := z_arr (w1 (.arrayClass .int) (List.mem_of_getElem? (i := 22) rfl))
  obtain ⟨cZ, hZ1, hZ2⟩ := z_arr (w2 (.arrayClass .boolean) (List.mem_of_getElem? (i := 14) rfl))
  refine ⟨fun k => if k = 0 then c0 else if k = 1 then c1 else if k = 2 then c2 else c3, fun k => if k = 0 then iS0 else if k = 1 then iS1 else if k = 2 then iS2 else iS3, cI, cZ, ?_, ?_⟩
  · intro k q hq
    match k, hq with
    | 0, hq => cases hq; exact hKn0
    | 1, hq => cases hq; exact hKn1
    | 2, hq => cases hq; exact hKn2
    | 3, hq => cases hq; exact hKn3
    | k + 4, hq => simp [vwCl] at hq
  · intro k q hq
    match k, hq with
    | 0, hq => cases hq; exact ⟨hI1, hI2⟩
    | 1, hq => cases hq; exact ⟨hZ1, hZ2⟩
    | k + 2, hq => simp [tyIZ] at hq
set_option maxHeartbeats 4000000 in
set_option maxRecDepth 100000 in
/-- THE LAW, from its entry -/
theorem whole_start {p : Program} {e : Env} {s : State} {m : MethodId} {below : List Frame} {meth : Method} {c : Code} (l : Launch) (hflags : l.flags = flags0) {b L : Nat} {xs : Nat → Int32} (hL : L ≤ 2048) (C0 : lw_At p s m meth c b L xs) : W p l e room_1 s m #[Value.ref b] below meth c s.heap [] 0 0 (lw_Z below #[Value.ref b] s) (entryFrame m ([Value.ref b] : List Value).toArray 4) := by
  obtain ⟨hx, hb, hr, hml, hown, hts, hX, hbl, hlocks, hgv⟩ := id C0
  have hA : ∀ q : Nat, s.heap.size ≤ q → (fun q : Nat => s.heap.size ≤ q) q := fun _ h => h
  have hnA : ∀ a : Nat, a < s.heap.size → ¬ (fun q : Nat => s.heap.size ≤ q) a := fun a h => Nat.not_le.mpr h
  have w1 : ∀ w ∈ wsL_law_r1, w.before #[Value.ref b] s = true := fun w h => hts w (in_wsL_law_r1 w h)
  have w2 : ∀ w ∈ wsL_law_r2, w.before #[Value.ref b] s = true := fun w h => hts w (in_wsL_law_r2 w h)
  have w3 : ∀ w ∈ wsL_law_r3, w.before #[Value.ref b] s = true := fun w h => hts w (in_wsL_law_r3 w h)
  have hT : ∀ w ∈ wsL_law, w.before #[Value.ref b] s = true := fun w h => hts w (wsL_law_in w h)
  have hN : nestE s := nestE_of hts
  obtain ⟨tf, tt, hE⟩ := lawA_of (A := fun q : Nat => s.heap.size ≤ q) hts (w1 (.initialized RX2) (List.mem_of_getElem? (i := 2) rfl)) hgv hnA
  obtain ⟨dC, dI, cI, cZ, hK⟩ := known_of hT w1 w2
  have hS : va_S (fun q : Nat => s.heap.size ≤ q) s.heap s.heap [] := va_S.rf
  have hP : va_P (dC, dI) vwCl [] s.heap := fun k q h => by simp at h
  have hD : va_D (fun q : Nat => s.heap.size ≤ q) [] := ⟨fun i j p q h => by simp at h, fun k q h => by simp at h⟩
  have hl := lv_entry ([.ref b]) (n := 4) (Nat.le_of_ble_eq_true rfl)
  rw [lg_entry_eq]
  generalize (lg_sl ([.ref b]) ++ List.replicate (4 - (lg_sl ([.ref b])).length) Slot.unset).toArray = ls at hl ⊢
  have hl : lv_has ls 4 [(0, .ref b)] := hl
  refine va_new (ci := 2) (fs := [.null, .null, .null, .null, .null, .int 0, .int 0, .int 0]) (C := RX2) (T := TX2) (N := 8) hx hb hT inlX2 tyX2 tyX2_ok hown (w1 (.classLink RL 7 RX2) (List.mem_of_getElem? (i := 0) rfl)) (w1 (.instantiable RX2 8) (List.mem_of_getElem? (i := 1) rfl)) (w1 (.initialized RX2) (List.mem_of_getElem? (i := 2) rfl)) hK hP hD hS hA rfl (fun j hj => by rcases (show j = 0 ∨ j = 1 ∨ j = 2 ∨ j = 3 ∨ j = 4 ∨ j = 5 ∨ j = 6 ∨ j = 7 by omega) with rfl | rfl | rfl | rfl | rfl | rfl | rfl | rfl <;> rfl) (Nat.le_of_ble_eq_true rfl) (Nat.le_of_ble_eq_true rfl) dL_law_0 (fun q0 H hP hD hS => ?_)
  have hP : va_P (dC, dI) vwCl [(q0, .inr (2, [.null, .null, .null, .null, .null, .int 0, .int 0, .int 0]))] H := hP
  have hD : va_D (fun q : Nat => s.heap.size ≤ q) [(q0, .inr (2, [.null, .null, .null, .null, .null, .int 0, .int 0, .int 0]))] := hD
  refine lv_dup hx hb dL_law_3 rfl ?_
  refine z_initB (As := []) (rest := [.ref q0]) ⟨hx, hb, hml, hown, hT⟩ (c_X2_init l dC dI cI cZ q0 _) (cwI 0 hT gL_law_X2_init rfl rfl rfl (w1 (.initialized RX2) (List.mem_of_getElem? (i := 2) rfl)) (w1 (.methodLink RL 9 yX2_init) (List.mem_of_getElem? (i := 6) rfl)) (w1 (.instanceMethod yX2_init) (List.mem_of_getElem? (i := 7) rfl)) rfl (by decide +kernel) ⟨Nat.le_of_ble_eq_true rfl, Nat.le_of_ble_eq_true rfl⟩) nestE.calling (fun U hU hW => nestE.warm hW hN) hP hD hK hS hA [0] [] rfl rfl rfl rfl (by decide) rfl hl.1 rfl (Nat.le_of_ble_eq_true rfl) ⟨Nat.le_of_ble_eq_true rfl, Nat.le_of_ble_eq_true rfl⟩ dL_law_4 (fun u H locs hr1 hP hD hS => ?_)
  obtain ⟨xd, ma, ka, ta⟩ := u
  obtain rfl : xd 0 = q0 := hr1
  have hP : va_P (dC, dI) vwCl (xo xd ma ka ta (fun _ => 0) 0 :: (xd 1, .inl (cI, 8, .inl (fun _ => 0))) :: (xd 2, .inr (0, [.int 0])) :: (mw cI cZ ma st0 ++ mw cI cZ ka st0 ++ mw cI cZ ta st0)) H := hP
  have hD : va_D (fun q : Nat => s.heap.size ≤ q) (xo xd ma ka ta (fun _ => 0) 0 :: (xd 1, .inl (cI, 8, .inl (fun _ => 0))) :: (xd 2, .inr (0, [.int 0])) :: (mw cI cZ ma st0 ++ mw cI cZ ka st0 ++ mw cI cZ ta st0)) := hD
  refine lv_astore_n (lv' := [(1, .ref (xd 0)), (0, .ref b)]) hx hb dL_law_7 rfl hl (by decide) rfl (fun ls hl => ?_)
  refine va_new (ci := 3) (fs := [.null, .int 0, .int 0, .int 0, .int 0, .int 0, .int 0, .int 0, .int 0, .int 0, .int 0, .null, .null, .int 0, .null, .null, .int 0, .int 0, .int 0, .int 0, .null, .null, .null, .long 0]) (C := RX3) (T := TX3) (N := 24) hx hb hT inlX3 tyX3 tyX3_ok hown (w1 (.classLink RL 10 RX3) (List.mem_of_getElem? (i := 3) rfl)) (w1 (.instantiable RX3 24) (List.mem_of_getElem? (i := 4) rfl)) (w1 (.initialized RX3) (List.mem_of_getElem? (i := 5) rfl)) hK hP hD hS hA rfl (fun j hj => by rcases (show j = 0 ∨ j = 1 ∨ j = 2 ∨ j = 3 ∨ j = 4 ∨ j = 5 ∨ j = 6 ∨ j = 7 ∨ j = 8 ∨ j = 9 ∨ j = 10 ∨ j = 11 ∨ j = 12 ∨ j = 13 ∨ j = 14 ∨ j = 15 ∨ j = 16 ∨ j = 17 ∨ j = 18 ∨ j = 19 ∨ j = 20 ∨ j = 21 ∨ j = 22 ∨ j = 23 by omega) with rfl | rfl | rfl | rfl | rfl | rfl | rfl | rfl | rfl | rfl | rfl | rfl | rfl | rfl | rfl | rfl | rfl | rfl | rfl | rfl | rfl | rfl | rfl | rfl <;> rfl) (Nat.le_of_ble_eq_true rfl) (Nat.le_of_ble_eq_true rfl) dL_law_8 (fun q8 H hP hD hS => ?_)
  have hP : va_P (dC, dI) vwCl ((xo xd ma ka ta (fun _ => 0) 0 :: (xd 1, .inl (cI, 8, .inl (fun _ => 0))) :: (xd 2, .inr (0, [.int 0])) :: (mw cI cZ ma st0 ++ mw cI cZ ka st0 ++ mw cI cZ ta st0)) ++ [(q8, .inr (3, [.null, .int 0, .int 0, .int 0, .int 0, .int 0, .int 0, .int 0, .int 0, .int 0, .int 0, .null, .null, .int 0, .null, .null, .int 0, .int 0, .int 0, .int 0, .null, .null, .null, .long 0]))]) H := hP
  have hD : va_D (fun q : Nat => s.heap.size ≤ q) ((xo xd ma ka ta (fun _ => 0) 0 :: (xd 1, .inl (cI, 8, .inl (fun _ => 0))) :: (xd 2, .inr (0, [.int 0])) :: (mw cI cZ ma st0 ++ mw cI cZ ka st0 ++ mw cI cZ ta st0)) ++ [(q8, .inr (3, [.null, .int 0, .int 0, .int 0, .int 0, .int 0, .int 0, .int 0, .int 0, .int 0, .int 0, .null, .null, .int 0, .null, .null, .int 0, .int 0, .int 0, .int 0, .null, .null, .null, .long 0]))]) := hD
  refine lv_dup hx hb dL_law_11 rfl ?_
  refine z_initB (As := []) (rest := [.ref q8]) ⟨hx, hb, hml, hown, hT⟩ (c_X3_init l dC dI cI cZ q8 _) (cwI 0 hT gL_law_X3_init rfl rfl rfl (w1 (.initialized RX3) (List.mem_of_getElem? (i := 5) rfl)) (w3 (.methodLink RL 12 yX3_init) (List.mem_of_getElem? (i := 4) rfl)) (w3 (.instanceMethod yX3_init) (List.mem_of_getElem? (i := 5) rfl)) rfl (by decide +kernel) ⟨Nat.le_of_ble_eq_true rfl, Nat.le_of_ble_eq_true rfl⟩) (fun _ _ _ _ q => q) (fun _ _ _ => trivial) hP hD hK hS hA [33] [0, 1, 2, 3, 4, 5, 6, 7, 8, 9, 10, 11, 12, 13, 14, 15, 16, 17, 18, 19, 20, 21, 22, 23, 24, 25, 26, 27, 28, 29, 30, 31, 32] rfl rfl rfl rfl (by decide) rfl hl.1 rfl (Nat.le_of_ble_eq_true rfl) ⟨Nat.le_of_ble_eq_true rfl, Nat.le_of_ble_eq_true rfl⟩ dL_law_12 (fun bd H locs hr2 hP hD hS => ?_)
  obtain rfl : bd 0 = q8 := hr2
  have hP : va_P (dC, dI) vwCl (WL cI cZ xd ma ka ta bd st0 st0 st0 (fun _ => 0) (fun _ => 0) 0 0 st0 (fun _ => 0) (fun _ => 0) 0 kv0 0 (fun _ => 0) (fun _ => 0) (fun _ => 0) (fun _ => 0) (fun _ => 0)) H := hP
  have hD : va_D (fun q : Nat => s.heap.size ≤ q) (WL cI cZ xd ma ka ta bd st0 st0 st0 (fun _ => 0) (fun _ => 0) 0 0 st0 (fun _ => 0) (fun _ => 0) 0 kv0 0 (fun _ => 0) (fun _ => 0) (fun _ => 0) (fun _ => 0) (fun _ => 0)) := hD
  refine lv_astore_n (lv' := [(2, .ref (bd 0)), (1, .ref (xd 0)), (0, .ref b)]) hx hb dL_law_15 rfl hl (by decide) rfl (fun ls hl => ?_)
  refine lv_iconst (v := nI 0) hx hb dL_law_16 (by decide) ?_
  refine lv_istore_n (lv' := [(3, .int (nI 0)), (2, .ref (bd 0)), (1, .ref (xd 0)), (0, .ref b)]) hx hb dL_law_17 rfl hl (by decide) rfl (fun ls hl => ?_)
  have hLI : LI 0 st0 st0 (fun _ => 0) kv0 (fun _ => 0) (fun _ => 0) (fun _ => 0) 0 := ⟨st0_ok, ⟨0, by decide, rfl⟩, fun _ _ => Or.inl rfl, Or.inl ⟨rfl, rfl⟩⟩
  refine W.widen (k := 42) (n := 380) (Nat.le_of_ble_eq_true rfl) (Nat.le_of_ble_eq_true rfl) ?_
  exact lw_loop l hL C0 hK hE (L + 1) 0 0 (Nat.le_refl 0) (Nat.zero_le L) (by omega) st0 st0 st0 (fun _ => 0) (fun _ => 0) 0 0 0 kv0 0 (fun _ => 0) (fun _ => 0) (fun _ => 0) (fun _ => 0) (fun _ => 0) ls H locs hLI hP hD hS (lv_sub hl [0, 3, 2, 1] rfl)
