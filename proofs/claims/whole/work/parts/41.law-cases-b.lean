/-! ===== the law: one round, the others ===== -/
set_option maxHeartbeats 1000000 in
set_option maxRecDepth 100000 in
theorem lw_c12 (l : Launch) {p : Program} {e : Env} {s : State} {m : MethodId} {below : List Frame} {meth : Method} {c : Code} {Q : State → Prop} {b L : Nat} {xs : Nat → Int32} (X : LB p s m c b L xs) {A : Nat → Prop} (hA : ∀ q, s.heap.size ≤ q → A q) (hbA : ¬ A b) {dC : Nat → ClassId} {dI : Nat → Nat → Nat} {cI cZ : ClassId} (hK : va_K (dC, dI) vwCl (tyIZ cI cZ) s) {tf tt : Nat} (hE : lawA tf tt A s) {xd ma ka ta bd : Nat → Nat} {y i : Nat} (hy : y < 2 ^ 20) (hi4 : i + 4 ≤ L) (hL : L ≤ 2048) {σ κ ρ : St} {P ξ : Nat → Int32} {hi sd sd2 : Int32} {kv : Nat → Int32} {hh : Int64} {sm sr fm fr fl : Nat → Int32} (hLI : LI y σ κ ξ kv fm fr fl hi) {ls : Array Slot} {H : Heap} {locs : List Loc} (hP : va_P (dC, dI) vwCl (WL cI cZ xd ma ka ta bd σ κ ρ P ξ hi sd σ P ξ sd2 kv hh sm sr fm fr fl) H) (hD : va_D A (WL cI cZ xd ma ka ta bd σ κ ρ P ξ hi sd σ P ξ sd2 kv hh sm sr fm fr fl)) (hS : va_S A s.heap H locs) (hl : lv_has ls 4 [(3, .int (nI i)), (0, .ref b), (1, .ref (xd 0)), (2, .ref (bd 0))])
    (kk : lawK p l e s m b below meth c Q dC dI cI cZ A xd ma ka ta bd y i) : W p l e rmL s m #[Value.ref b] below meth c H locs 42 380 Q (F0 m 456 ls []) := by
  obtain ⟨hx, hb, hml, hown, hts, hX, hbl⟩ := X
  obtain ⟨⟨⟨Hn, B, Lc, C, V, M, hI⟩, hyr⟩, ⟨n, hn8, hn0⟩, -⟩ := id hLI
  refine lv_aload_n hx hb dL_law_456 rfl (lv_at hl 2 rfl) ?_
  have hD0 := hD
  refine z_callQi (As := []) (rest := []) ⟨hx, hb, hml, hown, hts⟩ (c_X2_year l dC dI cI cZ xd ma ka ta σ Hn B Lc C V M hI ξ hi _) (cwV 0 hts gL_law_X2_year rfl rfl rfl (by decide +kernel) ⟨Nat.le_of_ble_eq_true rfl, Nat.le_of_ble_eq_true rfl⟩) (fun _ _ _ _ q => q) (fun _ _ _ => trivial) hP hD hK hS hA [0, 3, 4, 5, 6, 7, 8, 9, 10, 11, 12] [1, 2, 13, 14, 15, 16, 17, 18, 19, 20, 21, 22, 23, 24, 25, 26, 27, 28, 29, 30, 31, 32, 33, 34, 35, 36, 37, 38, 39, 40, 41] rfl (by decide +kernel) (by rw [WL_len]; decide +kernel) (by decide +kernel) (by decide +kernel) (va_recv hK hP (ci := 2) (q0 := 0) rfl rfl) rfl hl.1 rfl (Nat.le_of_ble_eq_true rfl) ⟨Nat.le_of_ble_eq_true rfl, Nat.le_of_ble_eq_true rfl⟩ dL_law_457 (fun r u1 H locs hr hP hD hS => ?_)
  obtain ⟨rfl, rfl⟩ := hr
  have hP : va_P (dC, dI) vwCl (WL cI cZ xd ma ka ta bd (up2 σ 0 6 (σ 0 6 + nI 1)) κ ρ P ξ hi sd σ P ξ sd2 kv hh sm sr fm fr fl) H := z_back (isC := [0, 3, 4, 5, 6, 7, 8, 9, 10, 11, 12]) hP rfl 42 (WL_len ..) (by decide +kernel)
  have hD : va_D A (WL cI cZ xd ma ka ta bd (up2 σ 0 6 (σ 0 6 + nI 1)) κ ρ P ξ hi sd σ P ξ sd2 kv hh sm sr fm fr fl) := z_adr hD0 rfl
  refine lv_aload_n hx hb dL_law_460 rfl (lv_at hl 3 rfl) ?_
  have hD0 := hD
  refine z_callQi (As := []) (rest := [.int (σ 0 6 + nI 1)]) ⟨hx, hb, hml, hown, hts⟩ (c_X3_year l dC dI cI cZ bd σ Hn B Lc C V M hI ξ sd2 kv hh _) (cwV 0 hts gL_law_X3_year rfl rfl rfl (by decide +kernel) ⟨Nat.le_of_ble_eq_true rfl, Nat.le_of_ble_eq_true rfl⟩) (fun _ _ _ _ q => q) (fun _ _ _ => trivial) hP hD hK hS hA [33, 35, 36] [0, 1, 2, 3, 4, 5, 6, 7, 8, 9, 10, 11, 12, 13, 14, 15, 16, 17, 18, 19, 20, 21, 22, 23, 24, 25, 26, 27, 28, 29, 30, 31, 32, 34, 37, 38, 39, 40, 41] rfl (by decide +kernel) (by rw [WL_len]; decide +kernel) (by decide +kernel) (by decide +kernel) (va_recv hK hP (ci := 3) (q0 := 33) rfl rfl) rfl hl.1 rfl (Nat.le_of_ble_eq_true rfl) ⟨Nat.le_of_ble_eq_true rfl, Nat.le_of_ble_eq_true rfl⟩ dL_law_461 (fun r u2 H locs hr hP hD hS => ?_)
  obtain ⟨rfl, rfl⟩ := hr
  have hP : va_P (dC, dI) vwCl (WL cI cZ xd ma ka ta bd (up2 σ 0 6 (σ 0 6 + nI 1)) κ ρ P ξ hi sd (up2 σ 0 6 (σ 0 6 + nI 1)) P ξ sd2 kv hh sm sr fm fr fl) H := z_back (isC := [33, 35, 36]) hP rfl 42 (WL_len ..) (by decide +kernel)
  have hD : va_D A (WL cI cZ xd ma ka ta bd (up2 σ 0 6 (σ 0 6 + nI 1)) κ ρ P ξ hi sd (up2 σ 0 6 (σ 0 6 + nI 1)) P ξ sd2 kv hh sm sr fm fr fl) := z_adr hD0 rfl
  refine lv_icmp_eq (tgt := 750) hx hb dL_law_464 (by decide) (fun _ => ?_) (fun z9 => absurd rfl z9)
  exact kk (up2 σ 0 6 (σ 0 6 + nI 1)) κ ρ P ξ hi sd sd2 kv hh sm sr fm fr fl ls _ _ (hLI.with (ok_year hI hyr) hLI.2.1) hP hD hS hl
set_option maxHeartbeats 1000000 in
set_option maxRecDepth 100000 in
theorem lw_c13 (l : Launch) {p : Program} {e : Env} {s : State} {m : MethodId} {below : List Frame} {meth : Method} {c : Code} {Q : State → Prop} {b L : Nat} {xs : Nat → Int32} (X : LB p s m c b L xs) {A : Nat → Prop} (hA : ∀ q, s.heap.size ≤ q → A q) (hbA : ¬ A b) {dC : Nat → ClassId} {dI : Nat → Nat → Nat} {cI cZ : ClassId} (hK : va_K (dC, dI) vwCl (tyIZ cI cZ) s) {tf tt : Nat} (hE : lawA tf tt A s) {xd ma ka ta bd : Nat → Nat} {y i : Nat} (hy : y < 2 ^ 20) (hi4 : i + 4 ≤ L) (hL : L ≤ 2048) {σ κ ρ : St} {P ξ : Nat → Int32} {hi sd sd2 : Int32} {kv : Nat → Int32} {hh : Int64} {sm sr fm fr fl : Nat → Int32} (hLI : LI y σ κ ξ kv fm fr fl hi) {ls : Array Slot} {H : Heap} {locs : List Loc} (hP : va_P (dC, dI) vwCl (WL cI cZ xd ma ka ta bd σ κ ρ P ξ hi sd σ P ξ sd2 kv hh sm sr fm fr fl) H) (hD : va_D A (WL cI cZ xd ma ka ta bd σ κ ρ P ξ hi sd σ P ξ sd2 kv hh sm sr fm fr fl)) (hS : va_S A s.heap H locs) (hl : lv_has ls 4 [(3, .int (nI i)), (0, .ref b), (1, .ref (xd 0)), (2, .ref (bd 0))])
    (kk : lawK p l e s m b below meth c Q dC dI cI cZ A xd ma ka ta bd y i) : W p l e rmL s m #[Value.ref b] below meth c H locs 42 380 Q (F0 m 469 ls []) := by
  obtain ⟨hx, hb, hml, hown, hts, hX, hbl⟩ := X
  obtain ⟨⟨⟨Hn, B, Lc, C, V, M, hI⟩, hyr⟩, ⟨n, hn8, hn0⟩, -⟩ := id hLI
  refine lv_aload_n hx hb dL_law_469 rfl (lv_at hl 2 rfl) ?_
  refine lv_aload_n hx hb dL_law_470 rfl (lv_at hl 1 rfl) ?_
  refine lv_iload_n hx hb dL_law_471 rfl (lv_at hl 0 rfl) ?_
  refine lv_iconst (v := nI 1) hx hb dL_law_472 (by decide) ?_
  refine z_iadd (v := nI (i + 1)) hx hb dL_law_473 (nI_add _ _) ?_
  refine z_sld hx hb hX hbl hbA hS (i + 1) (by omega) hL dL_law_474 ?_
  refine lv_aload_n hx hb dL_law_475 rfl (lv_at hl 1 rfl) ?_
  refine lv_iload_n hx hb dL_law_476 rfl (lv_at hl 0 rfl) ?_
  refine lv_iconst (v := nI 2) hx hb dL_law_477 (by decide) ?_
  refine z_iadd (v := nI (i + 2)) hx hb dL_law_478 (nI_add _ _) ?_
  refine z_sld hx hb hX hbl hbA hS (i + 2) (by omega) hL dL_law_479 ?_
  refine z_callV (As := [.int (xs (i + 1)), .int (xs (i + 2))]) (rest := []) ⟨hx, hb, hml, hown, hts⟩ (c_X2_safe l dC dI cI cZ xd ma ka ta σ Hn B Lc C V M hI ξ hi (xs (i + 1)) (xs (i + 2))) (cwV 2 hts gL_law_X2_safe rfl rfl rfl (by decide +kernel) ⟨Nat.le_of_ble_eq_true rfl, Nat.le_of_ble_eq_true rfl⟩) (hP.sub [0, 3, 4, 5, 6, 7, 8, 9, 10, 11, 12] rfl) hK (va_recv hK hP (ci := 2) (q0 := 0) rfl rfl) rfl hl.1 rfl (Nat.le_of_ble_eq_true rfl) ⟨Nat.le_of_ble_eq_true rfl, Nat.le_of_ble_eq_true rfl⟩ dL_law_480 (fun r hr => ?_)
  obtain rfl := hr
  refine lv_aload_n hx hb dL_law_483 rfl (lv_at hl 3 rfl) ?_
  refine lv_aload_n hx hb dL_law_484 rfl (lv_at hl 1 rfl) ?_
  refine lv_iload_n hx hb dL_law_485 rfl (lv_at hl 0 rfl) ?_
  refine lv_iconst (v := nI 1) hx hb dL_law_486 (by decide) ?_
  refine z_iadd (v := nI (i + 1)) hx hb dL_law_487 (nI_add _ _) ?_
  refine z_sld hx hb hX hbl hbA hS (i + 1) (by omega) hL dL_law_488 ?_
  refine lv_aload_n hx hb dL_law_489 rfl (lv_at hl 1 rfl) ?_
  refine lv_iload_n hx hb dL_law_490 rfl (lv_at hl 0 rfl) ?_
  refine lv_iconst (v := nI 2) hx hb dL_law_491 (by decide) ?_
  refine z_iadd (v := nI (i + 2)) hx hb dL_law_492 (nI_add _ _) ?_
  refine z_sld hx hb hX hbl hbA hS (i + 2) (by omega) hL dL_law_493 ?_
  refine z_callV (As := [.int (xs (i + 1)), .int (xs (i + 2))]) (rest := [.int (safeF σ Hn B (xs (i + 1)) (xs (i + 2)))]) ⟨hx, hb, hml, hown, hts⟩ (c_X3_safe l dC dI cI cZ bd σ Hn B Lc C V M hI ξ (σ 0 7) sd2 kv hh (xs (i + 1)) (xs (i + 2))) (cwV 2 hts gL_law_X3_safe rfl rfl rfl (by decide +kernel) ⟨Nat.le_of_ble_eq_true rfl, Nat.le_of_ble_eq_true rfl⟩) (hP.sub [33, 35, 36] rfl) hK (va_recv hK hP (ci := 3) (q0 := 33) rfl rfl) rfl hl.1 rfl (Nat.le_of_ble_eq_true rfl) ⟨Nat.le_of_ble_eq_true rfl, Nat.le_of_ble_eq_true rfl⟩ dL_law_494 (fun r hr => ?_)
  obtain rfl := hr
  refine lv_icmp_eq (tgt := 750) hx hb dL_law_497 (by decide) (fun _ => ?_) (fun z9 => absurd rfl z9)
  exact kk σ κ ρ P ξ hi sd sd2 kv hh sm sr fm fr fl ls _ _ (hLI.mono (Nat.le_succ y)) hP hD hS hl
set_option maxHeartbeats 1000000 in
set_option maxRecDepth 100000 in
theorem lw_c14 (l : Launch) {p : Program} {e : Env} {s : State} {m : MethodId} {below : List Frame} {meth : Method} {c : Code} {Q : State → Prop} {b L : Nat} {xs : Nat → Int32} (X : LB p s m c b L xs) {A : Nat → Prop} (hA : ∀ q, s.heap.size ≤ q → A q) (hbA : ¬ A b) {dC : Nat → ClassId} {dI : Nat → Nat → Nat} {cI cZ : ClassId} (hK : va_K (dC, dI) vwCl (tyIZ cI cZ) s) {tf tt : Nat} (hE : lawA tf tt A s) {xd ma ka ta bd : Nat → Nat} {y i : Nat} (hy : y < 2 ^ 20) (hi4 : i + 4 ≤ L) (hL : L ≤ 2048) {σ κ ρ : St} {P ξ : Nat → Int32} {hi sd sd2 : Int32} {kv : Nat → Int32} {hh : Int64} {sm sr fm fr fl : Nat → Int32} (hLI : LI y σ κ ξ kv fm fr fl hi) {ls : Array Slot} {H : Heap} {locs : List Loc} (hP : va_P (dC, dI) vwCl (WL cI cZ xd ma ka ta bd σ κ ρ P ξ hi sd σ P ξ sd2 kv hh sm sr fm fr fl) H) (hD : va_D A (WL cI cZ xd ma ka ta bd σ κ ρ P ξ hi sd σ P ξ sd2 kv hh sm sr fm fr fl)) (hS : va_S A s.heap H locs) (hl : lv_has ls 4 [(3, .int (nI i)), (0, .ref b), (1, .ref (xd 0)), (2, .ref (bd 0))])
    (kk : lawK p l e s m b below meth c Q dC dI cI cZ A xd ma ka ta bd y i) : W p l e rmL s m #[Value.ref b] below meth c H locs 42 380 Q (F0 m 502 ls []) := by
  obtain ⟨hx, hb, hml, hown, hts, hX, hbl⟩ := X
  obtain ⟨⟨⟨Hn, B, Lc, C, V, M, hI⟩, hyr⟩, ⟨n, hn8, hn0⟩, -⟩ := id hLI
  refine lv_aload_n hx hb dL_law_502 rfl (lv_at hl 2 rfl) ?_
  refine lv_aload_n hx hb dL_law_503 rfl (lv_at hl 1 rfl) ?_
  refine lv_iload_n hx hb dL_law_504 rfl (lv_at hl 0 rfl) ?_
  refine lv_iconst (v := nI 1) hx hb dL_law_505 (by decide) ?_
  refine z_iadd (v := nI (i + 1)) hx hb dL_law_506 (nI_add _ _) ?_
  refine z_sld hx hb hX hbl hbA hS (i + 1) (by omega) hL dL_law_507 ?_
  refine lv_aload_n hx hb dL_law_508 rfl (lv_at hl 1 rfl) ?_
  refine lv_iload_n hx hb dL_law_509 rfl (lv_at hl 0 rfl) ?_
  refine lv_iconst (v := nI 2) hx hb dL_law_510 (by decide) ?_
  refine z_iadd (v := nI (i + 2)) hx hb dL_law_511 (nI_add _ _) ?_
  refine z_sld hx hb hX hbl hbA hS (i + 2) (by omega) hL dL_law_512 ?_
  refine z_callV (As := [.int (xs (i + 1)), .int (xs (i + 2))]) (rest := []) ⟨hx, hb, hml, hown, hts⟩ (c_X2_giving l dC dI cI cZ xd ma ka ta σ Hn B Lc C V M hI ξ hi (xs (i + 1)) (xs (i + 2))) (cwV 2 hts gL_law_X2_giving rfl rfl rfl (by decide +kernel) ⟨Nat.le_of_ble_eq_true rfl, Nat.le_of_ble_eq_true rfl⟩) (hP.sub [0, 3, 4, 5, 6, 7, 8, 9, 10, 11, 12] rfl) hK (va_recv hK hP (ci := 2) (q0 := 0) rfl rfl) rfl hl.1 rfl (Nat.le_of_ble_eq_true rfl) ⟨Nat.le_of_ble_eq_true rfl, Nat.le_of_ble_eq_true rfl⟩ dL_law_513 (fun r hr => ?_)
  obtain rfl := hr
  refine lv_aload_n hx hb dL_law_516 rfl (lv_at hl 3 rfl) ?_
  refine lv_aload_n hx hb dL_law_517 rfl (lv_at hl 1 rfl) ?_
  refine lv_iload_n hx hb dL_law_518 rfl (lv_at hl 0 rfl) ?_
  refine lv_iconst (v := nI 1) hx hb dL_law_519 (by decide) ?_
  refine z_iadd (v := nI (i + 1)) hx hb dL_law_520 (nI_add _ _) ?_
  refine z_sld hx hb hX hbl hbA hS (i + 1) (by omega) hL dL_law_521 ?_
  refine lv_aload_n hx hb dL_law_522 rfl (lv_at hl 1 rfl) ?_
  refine lv_iload_n hx hb dL_law_523 rfl (lv_at hl 0 rfl) ?_
  refine lv_iconst (v := nI 2) hx hb dL_law_524 (by decide) ?_
  refine z_iadd (v := nI (i + 2)) hx hb dL_law_525 (nI_add _ _) ?_
  refine z_sld hx hb hX hbl hbA hS (i + 2) (by omega) hL dL_law_526 ?_
  refine z_callV (As := [.int (xs (i + 1)), .int (xs (i + 2))]) (rest := [.int (givingF σ Hn B (xs (i + 1)) (xs (i + 2)))]) ⟨hx, hb, hml, hown, hts⟩ (c_X3_giving l dC dI cI cZ bd σ Hn B Lc C V M hI ξ (σ 0 7) sd2 kv hh (xs (i + 1)) (xs (i + 2))) (cwV 2 hts gL_law_X3_giving rfl rfl rfl (by decide +kernel) ⟨Nat.le_of_ble_eq_true rfl, Nat.le_of_ble_eq_true rfl⟩) (hP.sub [33, 35, 36] rfl) hK (va_recv hK hP (ci := 3) (q0 := 33) rfl rfl) rfl hl.1 rfl (Nat.le_of_ble_eq_true rfl) ⟨Nat.le_of_ble_eq_true rfl, Nat.le_of_ble_eq_true rfl⟩ dL_law_527 (fun r hr => ?_)
  obtain rfl := hr
  refine lv_icmp_eq (tgt := 750) hx hb dL_law_530 (by decide) (fun _ => ?_) (fun z9 => absurd rfl z9)
  exact kk σ κ ρ P ξ hi sd sd2 kv hh sm sr fm fr fl ls _ _ (hLI.mono (Nat.le_succ y)) hP hD hS hl
set_option maxHeartbeats 1000000 in
set_option maxRecDepth 100000 in
theorem lw_c15 (l : Launch) {p : Program} {e : Env} {s : State} {m : MethodId} {below : List Frame} {meth : Method} {c : Code} {Q : State → Prop} {b L : Nat} {xs : Nat → Int32} (X : LB p s m c b L xs) {A : Nat → Prop} (hA : ∀ q, s.heap.size ≤ q → A q) (hbA : ¬ A b) {dC : Nat → ClassId} {dI : Nat → Nat → Nat} {cI cZ : ClassId} (hK : va_K (dC, dI) vwCl (tyIZ cI cZ) s) {tf tt : Nat} (hE : lawA tf tt A s) {xd ma ka ta bd : Nat → Nat} {y i : Nat} (hy : y < 2 ^ 20) (hi4 : i + 4 ≤ L) (hL : L ≤ 2048) {σ κ ρ : St} {P ξ : Nat → Int32} {hi sd sd2 : Int32} {kv : Nat → Int32} {hh : Int64} {sm sr fm fr fl : Nat → Int32} (hLI : LI y σ κ ξ kv fm fr fl hi) {ls : Array Slot} {H : Heap} {locs : List Loc} (hP : va_P (dC, dI) vwCl (WL cI cZ xd ma ka ta bd σ κ ρ P ξ hi sd σ P ξ sd2 kv hh sm sr fm fr fl) H) (hD : va_D A (WL cI cZ xd ma ka ta bd σ κ ρ P ξ hi sd σ P ξ sd2 kv hh sm sr fm fr fl)) (hS : va_S A s.heap H locs) (hl : lv_has ls 4 [(3, .int (nI i)), (0, .ref b), (1, .ref (xd 0)), (2, .ref (bd 0))])
    (kk : lawK p l e s m b below meth c Q dC dI cI cZ A xd ma ka ta bd y i) : W p l e rmL s m #[Value.ref b] below meth c H locs 42 380 Q (F0 m 535 ls []) := by
  obtain ⟨hx, hb, hml, hown, hts, hX, hbl⟩ := X
  obtain ⟨⟨⟨Hn, B, Lc, C, V, M, hI⟩, hyr⟩, ⟨n, hn8, hn0⟩, -⟩ := id hLI
  refine lv_aload_n hx hb dL_law_535 rfl (lv_at hl 2 rfl) ?_
  refine lv_aload_n hx hb dL_law_536 rfl (lv_at hl 1 rfl) ?_
  refine lv_iload_n hx hb dL_law_537 rfl (lv_at hl 0 rfl) ?_
  refine lv_iconst (v := nI 1) hx hb dL_law_538 (by decide) ?_
  refine z_iadd (v := nI (i + 1)) hx hb dL_law_539 (nI_add _ _) ?_
  refine z_sld hx hb hX hbl hbA hS (i + 1) (by omega) hL dL_law_540 ?_
  refine lv_aload_n hx hb dL_law_541 rfl (lv_at hl 1 rfl) ?_
  refine lv_iload_n hx hb dL_law_542 rfl (lv_at hl 0 rfl) ?_
  refine lv_iconst (v := nI 2) hx hb dL_law_543 (by decide) ?_
  refine z_iadd (v := nI (i + 2)) hx hb dL_law_544 (nI_add _ _) ?_
  refine z_sld hx hb hX hbl hbA hS (i + 2) (by omega) hL dL_law_545 ?_
  refine lv_aload_n hx hb dL_law_546 rfl (lv_at hl 1 rfl) ?_
  refine lv_iload_n hx hb dL_law_547 rfl (lv_at hl 0 rfl) ?_
  refine lv_iconst (v := nI 3) hx hb dL_law_548 (by decide) ?_
  refine z_iadd (v := nI (i + 3)) hx hb dL_law_549 (nI_add _ _) ?_
  refine z_sld hx hb hX hbl hbA hS (i + 3) (by omega) hL dL_law_550 ?_
  refine z_callV (As := [.int (xs (i + 1)), .int (xs (i + 2)), .int (xs (i + 3))]) (rest := []) ⟨hx, hb, hml, hown, hts⟩ (c_X2_mean l dC dI cI cZ xd ma ka ta σ Hn B Lc C V M hI ξ hi (xs (i + 1)) (xs (i + 2)) (xs (i + 3))) (cwV 3 hts gL_law_X2_mean rfl rfl rfl (by decide +kernel) ⟨Nat.le_of_ble_eq_true rfl, Nat.le_of_ble_eq_true rfl⟩) (hP.sub [0, 3, 4, 5, 6, 7, 8, 9, 10, 11, 12] rfl) hK (va_recv hK hP (ci := 2) (q0 := 0) rfl rfl) rfl hl.1 rfl (Nat.le_of_ble_eq_true rfl) ⟨Nat.le_of_ble_eq_true rfl, Nat.le_of_ble_eq_true rfl⟩ dL_law_551 (fun r hr => ?_)
  obtain rfl := hr
  refine lv_aload_n hx hb dL_law_554 rfl (lv_at hl 3 rfl) ?_
  refine lv_aload_n hx hb dL_law_555 rfl (lv_at hl 1 rfl) ?_
  refine lv_iload_n hx hb dL_law_556 rfl (lv_at hl 0 rfl) ?_
  refine lv_iconst (v := nI 1) hx hb dL_law_557 (by decide) ?_
  refine z_iadd (v := nI (i + 1)) hx hb dL_law_558 (nI_add _ _) ?_
  refine z_sld hx hb hX hbl hbA hS (i + 1) (by omega) hL dL_law_559 ?_
  refine lv_aload_n hx hb dL_law_560 rfl (lv_at hl 1 rfl) ?_
  refine lv_iload_n hx hb dL_law_561 rfl (lv_at hl 0 rfl) ?_
  refine lv_iconst (v := nI 2) hx hb dL_law_562 (by decide) ?_
  refine z_iadd (v := nI (i + 2)) hx hb dL_law_563 (nI_add _ _) ?_
  refine z_sld hx hb hX hbl hbA hS (i + 2) (by omega) hL dL_law_564 ?_
  refine lv_aload_n hx hb dL_law_565 rfl (lv_at hl 1 rfl) ?_
  refine lv_iload_n hx hb dL_law_566 rfl (lv_at hl 0 rfl) ?_
  refine lv_iconst (v := nI 3) hx hb dL_law_567 (by decide) ?_
  refine z_iadd (v := nI (i + 3)) hx hb dL_law_568 (nI_add _ _) ?_
  refine z_sld hx hb hX hbl hbA hS (i + 3) (by omega) hL dL_law_569 ?_
  refine z_callV (As := [.int (xs (i + 1)), .int (xs (i + 2)), .int (xs (i + 3))]) (rest := [.int (meanF σ Hn B (xs (i + 1)) (xs (i + 2)) (xs (i + 3)))]) ⟨hx, hb, hml, hown, hts⟩ (c_X3_mean l dC dI cI cZ bd σ Hn B Lc C V M hI ξ (σ 0 7) sd2 kv hh (xs (i + 1)) (xs (i + 2)) (xs (i + 3))) (cwV 3 hts gL_law_X3_mean rfl rfl rfl (by decide +kernel) ⟨Nat.le_of_ble_eq_true rfl, Nat.le_of_ble_eq_true rfl⟩) (hP.sub [33, 35, 36] rfl) hK (va_recv hK hP (ci := 3) (q0 := 33) rfl rfl) rfl hl.1 rfl (Nat.le_of_ble_eq_true rfl) ⟨Nat.le_of_ble_eq_true rfl, Nat.le_of_ble_eq_true rfl⟩ dL_law_570 (fun r hr => ?_)
  obtain rfl := hr
  refine lv_icmp_eq (tgt := 750) hx hb dL_law_573 (by decide) (fun _ => ?_) (fun z9 => absurd rfl z9)
  exact kk σ κ ρ P ξ hi sd sd2 kv hh sm sr fm fr fl ls _ _ (hLI.mono (Nat.le_succ y)) hP hD hS hl
set_option maxHeartbeats 1000000 in
set_option maxRecDepth 100000 in
theorem lw_c16 (l : Launch) {p : Program} {e : Env} {s : State} {m : MethodId} {below : List Frame} {meth : Method} {c : Code} {Q : State → Prop} {b L : Nat} {xs : Nat → Int32} (X : LB p s m c b L xs) {A : Nat → Prop} (hA : ∀ q, s.heap.size ≤ q → A q) (hbA : ¬ A b) {dC : Nat → ClassId} {dI : Nat → Nat → Nat} {cI cZ : ClassId} (hK : va_K (dC, dI) vwCl (tyIZ cI cZ) s) {tf tt : Nat} (hE : lawA tf tt A s) {xd ma ka ta bd : Nat → Nat} {y i : Nat} (hy : y < 2 ^ 20) (hi4 : i + 4 ≤ L) (hL : L ≤ 2048) {σ κ ρ : St} {P ξ : Nat → Int32} {hi sd sd2 : Int32} {kv : Nat → Int32} {hh : Int64} {sm sr fm fr fl : Nat → Int32} (hLI : LI y σ κ ξ kv fm fr fl hi) {ls : Array Slot} {H : Heap} {locs : List Loc} (hP : va_P (dC, dI) vwCl (WL cI cZ xd ma ka ta bd σ κ ρ P ξ hi sd σ P ξ sd2 kv hh sm sr fm fr fl) H) (hD : va_D A (WL cI cZ xd ma ka ta bd σ κ ρ P ξ hi sd σ P ξ sd2 kv hh sm sr fm fr fl)) (hS : va_S A s.heap H locs) (hl : lv_has ls 4 [(3, .int (nI i)), (0, .ref b), (1, .ref (xd 0)), (2, .ref (bd 0))])
    (kk : lawK p l e s m b below meth c Q dC dI cI cZ A xd ma ka ta bd y i) : W p l e rmL s m #[Value.ref b] below meth c H locs 42 380 Q (F0 m 578 ls []) := by
  obtain ⟨hx, hb, hml, hown, hts, hX, hbl⟩ := X
  obtain ⟨⟨⟨Hn, B, Lc, C, V, M, hI⟩, hyr⟩, ⟨n, hn8, hn0⟩, -⟩ := id hLI
  refine lv_aload_n hx hb dL_law_578 rfl (lv_at hl 2 rfl) ?_
  refine lv_aload_n hx hb dL_law_579 rfl (lv_at hl 1 rfl) ?_
  refine lv_iload_n hx hb dL_law_580 rfl (lv_at hl 0 rfl) ?_
  refine lv_iconst (v := nI 1) hx hb dL_law_581 (by decide) ?_
  refine z_iadd (v := nI (i + 1)) hx hb dL_law_582 (nI_add _ _) ?_
  refine z_sld hx hb hX hbl hbA hS (i + 1) (by omega) hL dL_law_583 ?_
  refine lv_aload_n hx hb dL_law_584 rfl (lv_at hl 1 rfl) ?_
  refine lv_iload_n hx hb dL_law_585 rfl (lv_at hl 0 rfl) ?_
  refine lv_iconst (v := nI 2) hx hb dL_law_586 (by decide) ?_
  refine z_iadd (v := nI (i + 2)) hx hb dL_law_587 (nI_add _ _) ?_
  refine z_sld hx hb hX hbl hbA hS (i + 2) (by omega) hL dL_law_588 ?_
  have hD0 := hD
  refine z_callQi (As := [.int (xs (i + 1)), .int (xs (i + 2))]) (rest := []) ⟨hx, hb, hml, hown, hts⟩ (c_X2_roll l dC dI cI cZ xd ma ka ta σ Hn B Lc C V M hI ξ hi (xs (i + 1)) (xs (i + 2)) _) (cwV 2 hts gL_law_X2_roll rfl rfl rfl (by decide +kernel) ⟨Nat.le_of_ble_eq_true rfl, Nat.le_of_ble_eq_true rfl⟩) (fun _ _ _ _ q => q) (fun _ _ _ => trivial) hP hD hK hS hA [0, 3, 4, 5, 6, 7, 8, 9, 10, 11, 12] [1, 2, 13, 14, 15, 16, 17, 18, 19, 20, 21, 22, 23, 24, 25, 26, 27, 28, 29, 30, 31, 32, 33, 34, 35, 36, 37, 38, 39, 40, 41] rfl (by decide +kernel) (by rw [WL_len]; decide +kernel) (by decide +kernel) (by decide +kernel) (va_recv hK hP (ci := 2) (q0 := 0) rfl rfl) rfl hl.1 rfl (Nat.le_of_ble_eq_true rfl) ⟨Nat.le_of_ble_eq_true rfl, Nat.le_of_ble_eq_true rfl⟩ dL_law_589 (fun r u1 H locs hr hP hD hS => ?_)
  obtain ⟨rfl, rfl⟩ := hr
  have hP : va_P (dC, dI) vwCl (WL cI cZ xd ma ka ta bd ((rollF σ B (xs (i + 1)) (xs (i + 2))).2) κ ρ P ξ hi sd σ P ξ sd2 kv hh sm sr fm fr fl) H := z_back (isC := [0, 3, 4, 5, 6, 7, 8, 9, 10, 11, 12]) hP rfl 42 (WL_len ..) (by decide +kernel)
  have hD : va_D A (WL cI cZ xd ma ka ta bd ((rollF σ B (xs (i + 1)) (xs (i + 2))).2) κ ρ P ξ hi sd σ P ξ sd2 kv hh sm sr fm fr fl) := z_adr hD0 rfl
  refine lv_aload_n hx hb dL_law_592 rfl (lv_at hl 3 rfl) ?_
  refine lv_aload_n hx hb dL_law_593 rfl (lv_at hl 1 rfl) ?_
  refine lv_iload_n hx hb dL_law_594 rfl (lv_at hl 0 rfl) ?_
  refine lv_iconst (v := nI 1) hx hb dL_law_595 (by decide) ?_
  refine z_iadd (v := nI (i + 1)) hx hb dL_law_596 (nI_add _ _) ?_
  refine z_sld hx hb hX hbl hbA hS (i + 1) (by omega) hL dL_law_597 ?_
  refine lv_aload_n hx hb dL_law_598 rfl (lv_at hl 1 rfl) ?_
  refine lv_iload_n hx hb dL_law_599 rfl (lv_at hl 0 rfl) ?_
  refine lv_iconst (v := nI 2) hx hb dL_law_600 (by decide) ?_
  refine z_iadd (v := nI (i + 2)) hx hb dL_law_601 (nI_add _ _) ?_
  refine z_sld hx hb hX hbl hbA hS (i + 2) (by omega) hL dL_law_602 ?_
  have hD0 := hD
  refine z_callQi (As := [.int (xs (i + 1)), .int (xs (i + 2))]) (rest := [.int ((rollF σ B (xs (i + 1)) (xs (i + 2))).1)]) ⟨hx, hb, hml, hown, hts⟩ (c_X3_roll l dC dI cI cZ bd σ Hn B Lc C V M hI ξ sd2 kv hh (xs (i + 1)) (xs (i + 2)) _) (cwV 2 hts gL_law_X3_roll rfl rfl rfl (by decide +kernel) ⟨Nat.le_of_ble_eq_true rfl, Nat.le_of_ble_eq_true rfl⟩) (fun _ _ _ _ q => q) (fun _ _ _ => trivial) hP hD hK hS hA [33, 35, 36] [0, 1, 2, 3, 4, 5, 6, 7, 8, 9, 10, 11, 12, 13, 14, 15, 16, 17, 18, 19, 20, 21, 22, 23, 24, 25, 26, 27, 28, 29, 30, 31, 32, 34, 37, 38, 39, 40, 41] rfl (by decide +kernel) (by rw [WL_len]; decide +kernel) (by decide +kernel) (by decide +kernel) (va_recv hK hP (ci := 3) (q0 := 33) rfl rfl) rfl hl.1 rfl (Nat.le_of_ble_eq_true rfl) ⟨Nat.le_of_ble_eq_true rfl, Nat.le_of_ble_eq_true rfl⟩ dL_law_603 (fun r u2 H locs hr hP hD hS => ?_)
  obtain ⟨rfl, rfl⟩ := hr
  have hP : va_P (dC, dI) vwCl (WL cI cZ xd ma ka ta bd ((rollF σ B (xs (i + 1)) (xs (i + 2))).2) κ ρ P ξ hi sd ((rollF σ B (xs (i + 1)) (xs (i + 2))).2) P ξ sd2 kv hh sm sr fm fr fl) H := z_back (isC := [33, 35, 36]) hP rfl 42 (WL_len ..) (by decide +kernel)
  have hD : va_D A (WL cI cZ xd ma ka ta bd ((rollF σ B (xs (i + 1)) (xs (i + 2))).2) κ ρ P ξ hi sd ((rollF σ B (xs (i + 1)) (xs (i + 2))).2) P ξ sd2 kv hh sm sr fm fr fl) := z_adr hD0 rfl
  refine lv_icmp_eq (tgt := 750) hx hb dL_law_606 (by decide) (fun _ => ?_) (fun z9 => absurd rfl z9)
  exact kk ((rollF σ B (xs (i + 1)) (xs (i + 2))).2) κ ρ P ξ hi sd sd2 kv hh sm sr fm fr fl ls _ _ (hLI.with ((ok_roll hI hyr _ _).mono (Nat.le_succ y)) hLI.2.1) hP hD hS hl
set_option maxHeartbeats 1000000 in
set_option maxRecDepth 100000 in
theorem lw_c17 (l : Launch) {p : Program} {e : Env} {s : State} {m : MethodId} {below : List Frame} {meth : Method} {c : Code} {Q : State → Prop} {b L : Nat} {xs : Nat → Int32} (X : LB p s m c b L xs) {A : Nat → Prop} (hA : ∀ q, s.heap.size ≤ q → A q) (hbA : ¬ A b) {dC : Nat → ClassId} {dI : Nat → Nat → Nat} {cI cZ : ClassId} (hK : va_K (dC, dI) vwCl (tyIZ cI cZ) s) {tf tt : Nat} (hE : lawA tf tt A s) {xd ma ka ta bd : Nat → Nat} {y i : Nat} (hy : y < 2 ^ 20) (hi4 : i + 4 ≤ L) (hL : L ≤ 2048) {σ κ ρ : St} {P ξ : Nat → Int32} {hi sd sd2 : Int32} {kv : Nat → Int32} {hh : Int64} {sm sr fm fr fl : Nat → Int32} (hLI : LI y σ κ ξ kv fm fr fl hi) {ls : Array Slot} {H : Heap} {locs : List Loc} (hP : va_P (dC, dI) vwCl (WL cI cZ xd ma ka ta bd σ κ ρ P ξ hi sd σ P ξ sd2 kv hh sm sr fm fr fl) H) (hD : va_D A (WL cI cZ xd ma ka ta bd σ κ ρ P ξ hi sd σ P ξ sd2 kv hh sm sr fm fr fl)) (hS : va_S A s.heap H locs) (hl : lv_has ls 4 [(3, .int (nI i)), (0, .ref b), (1, .ref (xd 0)), (2, .ref (bd 0))])
    (kk : lawK p l e s m b below meth c Q dC dI cI cZ A xd ma ka ta bd y i) : W p l e rmL s m #[Value.ref b] below meth c H locs 42 380 Q (F0 m 611 ls []) := by
  obtain ⟨hx, hb, hml, hown, hts, hX, hbl⟩ := X
  obtain ⟨⟨⟨Hn, B, Lc, C, V, M, hI⟩, hyr⟩, ⟨n, hn8, hn0⟩, -⟩ := id hLI
  refine lv_aload_n hx hb dL_law_611 rfl (lv_at hl 2 rfl) ?_
  refine lv_aload_n hx hb dL_law_612 rfl (lv_at hl 1 rfl) ?_
  refine lv_iload_n hx hb dL_law_613 rfl (lv_at hl 0 rfl) ?_
  refine lv_iconst (v := nI 1) hx hb dL_law_614 (by decide) ?_
  refine z_iadd (v := nI (i + 1)) hx hb dL_law_615 (nI_add _ _) ?_
  refine z_sld hx hb hX hbl hbA hS (i + 1) (by omega) hL dL_law_616 ?_
  refine lv_aload_n hx hb dL_law_617 rfl (lv_at hl 1 rfl) ?_
  refine lv_iload_n hx hb dL_law_618 rfl (lv_at hl 0 rfl) ?_
  refine lv_iconst (v := nI 2) hx hb dL_law_619 (by decide) ?_
  refine z_iadd (v := nI (i + 2)) hx hb dL_law_620 (nI_add _ _) ?_
  refine z_sld hx hb hX hbl hbA hS (i + 2) (by omega) hL dL_law_621 ?_
  have hD0 := hD
  refine z_callQi (As := [.int (xs (i + 1)), .int (xs (i + 2))]) (rest := []) ⟨hx, hb, hml, hown, hts⟩ (c_X2_whose l dC dI cI cZ xd ma ka ta σ Hn B Lc C V M hI ξ hi ρ (xs (i + 1)) (xs (i + 2)) _) (cwV 2 hts gL_law_X2_whose rfl rfl rfl (by decide +kernel) ⟨Nat.le_of_ble_eq_true rfl, Nat.le_of_ble_eq_true rfl⟩) (fun _ _ _ _ q => q) (fun _ _ _ => trivial) hP hD hK hS hA [0, 3, 4, 5, 6, 7, 8, 9, 10, 11, 12, 23, 24, 25, 26, 27, 28, 29, 30, 31, 32] [1, 2, 13, 14, 15, 16, 17, 18, 19, 20, 21, 22, 33, 34, 35, 36, 37, 38, 39, 40, 41] rfl (by decide +kernel) (by rw [WL_len]; decide +kernel) (by decide +kernel) (by decide +kernel) (va_recv hK hP (ci := 2) (q0 := 0) rfl rfl) rfl hl.1 rfl (Nat.le_of_ble_eq_true rfl) ⟨Nat.le_of_ble_eq_true rfl, Nat.le_of_ble_eq_true rfl⟩ dL_law_622 (fun r u1 H locs hr hP hD hS => ?_)
  obtain rfl := hr
  have hP : va_P (dC, dI) vwCl (WL cI cZ xd ma ka ta bd σ κ u1 P ξ hi sd σ P ξ sd2 kv hh sm sr fm fr fl) H := z_back2 (mid := WL cI cZ xd ma ka ta bd σ κ ρ P ξ hi sd σ P ξ sd2 kv hh sm sr fm fr fl) (isC := [0, 3, 4, 5, 6, 7, 8, 9, 10, 11, 12, 23, 24, 25, 26, 27, 28, 29, 30, 31, 32]) hP 42 (WL_len ..) (by decide +kernel) [0, 3, 4, 5, 6, 7, 8, 9, 10, 11, 12] [23, 24, 25, 26, 27, 28, 29, 30, 31, 32] ([xo xd ma ka ta ξ hi] ++ mw cI cZ ma σ) (mw cI cZ ta u1) rfl rfl rfl rfl rfl
  have hD : va_D A (WL cI cZ xd ma ka ta bd σ κ u1 P ξ hi sd σ P ξ sd2 kv hh sm sr fm fr fl) := z_adr hD0 rfl
  refine lv_aload_n hx hb dL_law_625 rfl (lv_at hl 3 rfl) ?_
  refine lv_aload_n hx hb dL_law_626 rfl (lv_at hl 1 rfl) ?_
  refine lv_iload_n hx hb dL_law_627 rfl (lv_at hl 0 rfl) ?_
  refine lv_iconst (v := nI 1) hx hb dL_law_628 (by decide) ?_
  refine z_iadd (v := nI (i + 1)) hx hb dL_law_629 (nI_add _ _) ?_
  refine z_sld hx hb hX hbl hbA hS (i + 1) (by omega) hL dL_law_630 ?_
  refine lv_aload_n hx hb dL_law_631 rfl (lv_at hl 1 rfl) ?_
  refine lv_iload_n hx hb dL_law_632 rfl (lv_at hl 0 rfl) ?_
  refine lv_iconst (v := nI 2) hx hb dL_law_633 (by decide) ?_
  refine z_iadd (v := nI (i + 2)) hx hb dL_law_634 (nI_add _ _) ?_
  refine z_sld hx hb hX hbl hbA hS (i + 2) (by omega) hL dL_law_635 ?_
  have hD0 := hD
  refine z_callQi (As := [.int (xs (i + 1)), .int (xs (i + 2))]) (rest := [.int (whoseF σ Hn B (xs (i + 1)) (xs (i + 2)))]) ⟨hx, hb, hml, hown, hts⟩ (c_X3_whose l dC dI cI cZ bd σ Hn B Lc C V M hI ξ sd2 kv hh (xs (i + 1)) (xs (i + 2)) _) (cwV 2 hts gL_law_X3_whose rfl rfl rfl (by decide +kernel) ⟨Nat.le_of_ble_eq_true rfl, Nat.le_of_ble_eq_true rfl⟩) (fun _ _ _ _ q => q) (fun _ _ _ => trivial) hP hD hK hS hA [33, 35, 36] [0, 1, 2, 3, 4, 5, 6, 7, 8, 9, 10, 11, 12, 13, 14, 15, 16, 17, 18, 19, 20, 21, 22, 23, 24, 25, 26, 27, 28, 29, 30, 31, 32, 34, 37, 38, 39, 40, 41] rfl (by decide +kernel) (by rw [WL_len]; decide +kernel) (by decide +kernel) (by decide +kernel) (va_recv hK hP (ci := 3) (q0 := 33) rfl rfl) rfl hl.1 rfl (Nat.le_of_ble_eq_true rfl) ⟨Nat.le_of_ble_eq_true rfl, Nat.le_of_ble_eq_true rfl⟩ dL_law_636 (fun r u2 H locs hr hP hD hS => ?_)
  obtain ⟨rfl, rfl⟩ := hr
  have hP : va_P (dC, dI) vwCl (WL cI cZ xd ma ka ta bd σ κ u1 P ξ hi sd σ P ξ sd2 kv hh sm sr fm fr fl) H := z_back (isC := [33, 35, 36]) hP rfl 42 (WL_len ..) (by decide +kernel)
  have hD : va_D A (WL cI cZ xd ma ka ta bd σ κ u1 P ξ hi sd σ P ξ sd2 kv hh sm sr fm fr fl) := z_adr hD0 rfl
  refine lv_icmp_eq (tgt := 750) hx hb dL_law_639 (by decide) (fun _ => ?_) (fun z9 => absurd rfl z9)
  exact kk σ κ u1 P ξ hi sd sd2 kv hh sm sr fm fr fl ls _ _ (hLI.mono (Nat.le_succ y)) hP hD hS hl
set_option maxHeartbeats 1000000 in
set_option maxRecDepth 100000 in
theorem lw_c18 (l : Launch) {p : Program} {e : Env} {s : State} {m : MethodId} {below : List Frame} {meth : Method} {c : Code} {Q : State → Prop} {b L : Nat} {xs : Nat → Int32} (X : LB p s m c b L xs) {A : Nat → Prop} (hA : ∀ q, s.heap.size ≤ q → A q) (hbA : ¬ A b) {dC : Nat → ClassId} {dI : Nat → Nat → Nat} {cI cZ : ClassId} (hK : va_K (dC, dI) vwCl (tyIZ cI cZ) s) {tf tt : Nat} (hE : lawA tf tt A s) {xd ma ka ta bd : Nat → Nat} {y i : Nat} (hy : y < 2 ^ 20) (hi4 : i + 4 ≤ L) (hL : L ≤ 2048) {σ κ ρ : St} {P ξ : Nat → Int32} {hi sd sd2 : Int32} {kv : Nat → Int32} {hh : Int64} {sm sr fm fr fl : Nat → Int32} (hLI : LI y σ κ ξ kv fm fr fl hi) {ls : Array Slot} {H : Heap} {locs : List Loc} (hP : va_P (dC, dI) vwCl (WL cI cZ xd ma ka ta bd σ κ ρ P ξ hi sd σ P ξ sd2 kv hh sm sr fm fr fl) H) (hD : va_D A (WL cI cZ xd ma ka ta bd σ κ ρ P ξ hi sd σ P ξ sd2 kv hh sm sr fm fr fl)) (hS : va_S A s.heap H locs) (hl : lv_has ls 4 [(3, .int (nI i)), (0, .ref b), (1, .ref (xd 0)), (2, .ref (bd 0))])
    (kk : lawK p l e s m b below meth c Q dC dI cI cZ A xd ma ka ta bd y i) : W p l e rmL s m #[Value.ref b] below meth c H locs 42 380 Q (F0 m 644 ls []) := by
  obtain ⟨hx, hb, hml, hown, hts, hX, hbl⟩ := X
  obtain ⟨⟨⟨Hn, B, Lc, C, V, M, hI⟩, hyr⟩, ⟨n, hn8, hn0⟩, -⟩ := id hLI
  refine lv_aload_n hx hb dL_law_644 rfl (lv_at hl 2 rfl) ?_
  refine lv_aload_n hx hb dL_law_645 rfl (lv_at hl 1 rfl) ?_
  refine lv_iload_n hx hb dL_law_646 rfl (lv_at hl 0 rfl) ?_
  refine lv_iconst (v := nI 1) hx hb dL_law_647 (by decide) ?_
  refine z_iadd (v := nI (i + 1)) hx hb dL_law_648 (nI_add _ _) ?_
  refine z_sld hx hb hX hbl hbA hS (i + 1) (by omega) hL dL_law_649 ?_
  refine lv_aload_n hx hb dL_law_650 rfl (lv_at hl 1 rfl) ?_
  refine lv_iload_n hx hb dL_law_651 rfl (lv_at hl 0 rfl) ?_
  refine lv_iconst (v := nI 2) hx hb dL_law_652 (by decide) ?_
  refine z_iadd (v := nI (i + 2)) hx hb dL_law_653 (nI_add _ _) ?_
  refine z_sld hx hb hX hbl hbA hS (i + 2) (by omega) hL dL_law_654 ?_
  refine lv_aload_n hx hb dL_law_655 rfl (lv_at hl 1 rfl) ?_
  refine lv_iload_n hx hb dL_law_656 rfl (lv_at hl 0 rfl) ?_
  refine lv_iconst (v := nI 3) hx hb dL_law_657 (by decide) ?_
  refine z_iadd (v := nI (i + 3)) hx hb dL_law_658 (nI_add _ _) ?_
  refine z_sld hx hb hX hbl hbA hS (i + 3) (by omega) hL dL_law_659 ?_
  have hD0 := hD
  refine z_callQi (As := [.int (xs (i + 1)), .int (xs (i + 2)), .int (xs (i + 3))]) (rest := []) ⟨hx, hb, hml, hown, hts⟩ (c_X2_manors l dC dI cI cZ xd ma ka ta σ Hn B Lc C V M hI ξ hi ρ sd (xs (i + 1)) (xs (i + 2)) (xs (i + 3)) _) (cwV 3 hts gL_law_X2_manors rfl rfl rfl (by decide +kernel) ⟨Nat.le_of_ble_eq_true rfl, Nat.le_of_ble_eq_true rfl⟩) (fun _ _ _ _ q => q) (fun _ _ _ => trivial) hP hD hK hS hA [0, 2, 3, 4, 5, 6, 7, 8, 9, 10, 11, 12, 23, 24, 25, 26, 27, 28, 29, 30, 31, 32] [1, 13, 14, 15, 16, 17, 18, 19, 20, 21, 22, 33, 34, 35, 36, 37, 38, 39, 40, 41] rfl (by decide +kernel) (by rw [WL_len]; decide +kernel) (by decide +kernel) (by decide +kernel) (va_recv hK hP (ci := 2) (q0 := 0) rfl rfl) rfl hl.1 rfl (Nat.le_of_ble_eq_true rfl) ⟨Nat.le_of_ble_eq_true rfl, Nat.le_of_ble_eq_true rfl⟩ dL_law_660 (fun r u1 H locs hr hP hD hS => ?_)
  obtain rfl := hr
  have hP : va_P (dC, dI) vwCl (WL cI cZ xd ma ka ta bd σ κ u1.1 P ξ hi u1.2 σ P ξ sd2 kv hh sm sr fm fr fl) H := z_back2 (mid := WL cI cZ xd ma ka ta bd σ κ ρ P ξ hi u1.2 σ P ξ sd2 kv hh sm sr fm fr fl) (isC := [0, 2, 3, 4, 5, 6, 7, 8, 9, 10, 11, 12, 23, 24, 25, 26, 27, 28, 29, 30, 31, 32]) hP 42 (WL_len ..) (by decide +kernel) [0, 2, 3, 4, 5, 6, 7, 8, 9, 10, 11, 12] [23, 24, 25, 26, 27, 28, 29, 30, 31, 32] ([xo xd ma ka ta ξ hi] ++ [(xd 2, .inr (0, [.int u1.2]))] ++ mw cI cZ ma σ) (mw cI cZ ta u1.1) rfl rfl rfl rfl rfl
  have hD : va_D A (WL cI cZ xd ma ka ta bd σ κ u1.1 P ξ hi u1.2 σ P ξ sd2 kv hh sm sr fm fr fl) := z_adr hD0 rfl
  refine lv_aload_n hx hb dL_law_663 rfl (lv_at hl 3 rfl) ?_
  refine lv_aload_n hx hb dL_law_664 rfl (lv_at hl 1 rfl) ?_
  refine lv_iload_n hx hb dL_law_665 rfl (lv_at hl 0 rfl) ?_
  refine lv_iconst (v := nI 1) hx hb dL_law_666 (by decide) ?_
  refine z_iadd (v := nI (i + 1)) hx hb dL_law_667 (nI_add _ _) ?_
  refine z_sld hx hb hX hbl hbA hS (i + 1) (by omega) hL dL_law_668 ?_
  refine lv_aload_n hx hb dL_law_669 rfl (lv_at hl 1 rfl) ?_
  refine lv_iload_n hx hb dL_law_670 rfl (lv_at hl 0 rfl) ?_
  refine lv_iconst (v := nI 2) hx hb dL_law_671 (by decide) ?_
  refine z_iadd (v := nI (i + 2)) hx hb dL_law_672 (nI_add _ _) ?_
  refine z_sld hx hb hX hbl hbA hS (i + 2) (by omega) hL dL_law_673 ?_
  refine lv_aload_n hx hb dL_law_674 rfl (lv_at hl 1 rfl) ?_
  refine lv_iload_n hx hb dL_law_675 rfl (lv_at hl 0 rfl) ?_
  refine lv_iconst (v := nI 3) hx hb dL_law_676 (by decide) ?_
  refine z_iadd (v := nI (i + 3)) hx hb dL_law_677 (nI_add _ _) ?_
  refine z_sld hx hb hX hbl hbA hS (i + 3) (by omega) hL dL_law_678 ?_
  have hD0 := hD
  refine z_callQi (As := [.int (xs (i + 1)), .int (xs (i + 2)), .int (xs (i + 3))]) (rest := [.int (manorsF σ Hn B (xs (i + 1)) (xs (i + 2)) (xs (i + 3)))]) ⟨hx, hb, hml, hown, hts⟩ (c_X3_manors l dC dI cI cZ bd σ Hn B Lc C V M hI ξ sd2 kv hh sm sr (xs (i + 1)) (xs (i + 2)) (xs (i + 3)) _) (cwV 3 hts gL_law_X3_manors rfl rfl rfl (by decide +kernel) ⟨Nat.le_of_ble_eq_true rfl, Nat.le_of_ble_eq_true rfl⟩) (fun _ _ _ _ q => q) (fun _ _ _ => trivial) hP hD hK hS hA [33, 35, 36, 37, 38] [0, 1, 2, 3, 4, 5, 6, 7, 8, 9, 10, 11, 12, 13, 14, 15, 16, 17, 18, 19, 20, 21, 22, 23, 24, 25, 26, 27, 28, 29, 30, 31, 32, 34, 39, 40, 41] rfl (by decide +kernel) (by rw [WL_len]; decide +kernel) (by decide +kernel) (by decide +kernel) (va_recv hK hP (ci := 3) (q0 := 33) rfl rfl) rfl hl.1 rfl (Nat.le_of_ble_eq_true rfl) ⟨Nat.le_of_ble_eq_true rfl, Nat.le_of_ble_eq_true rfl⟩ dL_law_679 (fun r u2 H locs hr hP hD hS => ?_)
  obtain rfl := hr
  have hP : va_P (dC, dI) vwCl (WL cI cZ xd ma ka ta bd σ κ u1.1 P ξ hi u1.2 σ P ξ u2.1 kv hh u2.2.1 u2.2.2 fm fr fl) H := z_back (isC := [33, 35, 36, 37, 38]) hP rfl 42 (WL_len ..) (by decide +kernel)
  have hD : va_D A (WL cI cZ xd ma ka ta bd σ κ u1.1 P ξ hi u1.2 σ P ξ u2.1 kv hh u2.2.1 u2.2.2 fm fr fl) := z_adr hD0 rfl
  refine lv_icmp_eq (tgt := 750) hx hb dL_law_682 (by decide) (fun _ => ?_) (fun z9 => absurd rfl z9)
  exact kk σ κ u1.1 P ξ hi u1.2 u2.1 kv hh u2.2.1 u2.2.2 fm fr fl ls _ _ (hLI.mono (Nat.le_succ y)) hP hD hS hl
set_option maxHeartbeats 1000000 in
set_option maxRecDepth 100000 in
theorem lw_c19 (l : Launch) {p : Program} {e : Env} {s : State} {m : MethodId} {below : List Frame} {meth : Method} {c : Code} {Q : State → Prop} {b L : Nat} {xs : Nat → Int32} (X : LB p s m c b L xs) {A : Nat → Prop} (hA : ∀ q, s.heap.size ≤ q → A q) (hbA : ¬ A b) {dC : Nat → ClassId} {dI : Nat → Nat → Nat} {cI cZ : ClassId} (hK : va_K (dC, dI) vwCl (tyIZ cI cZ) s) {tf tt : Nat} (hE : lawA tf tt A s) {xd ma ka ta bd : Nat → Nat} {y i : Nat} (hy : y < 2 ^ 20) (hi4 : i + 4 ≤ L) (hL : L ≤ 2048) {σ κ ρ : St} {P ξ : Nat → Int32} {hi sd sd2 : Int32} {kv : Nat → Int32} {hh : Int64} {sm sr fm fr fl : Nat → Int32} (hLI : LI y σ κ ξ kv fm fr fl hi) {ls : Array Slot} {H : Heap} {locs : List Loc} (hP : va_P (dC, dI) vwCl (WL cI cZ xd ma ka ta bd σ κ ρ P ξ hi sd σ P ξ sd2 kv hh sm sr fm fr fl) H) (hD : va_D A (WL cI cZ xd ma ka ta bd σ κ ρ P ξ hi sd σ P ξ sd2 kv hh sm sr fm fr fl)) (hS : va_S A s.heap H locs) (hl : lv_has ls 4 [(3, .int (nI i)), (0, .ref b), (1, .ref (xd 0)), (2, .ref (bd 0))])
    (kk : lawK p l e s m b below meth c Q dC dI cI cZ A xd ma ka ta bd y i) : W p l e rmL s m #[Value.ref b] below meth c H locs 42 380 Q (F0 m 687 ls []) := by
  obtain ⟨hx, hb, hml, hown, hts, hX, hbl⟩ := X
  obtain ⟨⟨⟨Hn, B, Lc, C, V, M, hI⟩, hyr⟩, ⟨n, hn8, hn0⟩, -⟩ := id hLI
  refine lv_aload_n hx hb dL_law_687 rfl (lv_at hl 2 rfl) ?_
  have hD0 := hD
  refine z_callQi (As := []) (rest := []) ⟨hx, hb, hml, hown, hts⟩ (c_X2_image l dC dI cI cZ xd ma ka ta σ Hn B Lc C V M hI ξ hi κ _) (cwV 0 hts gL_law_X2_image rfl rfl rfl (by decide +kernel) ⟨Nat.le_of_ble_eq_true rfl, Nat.le_of_ble_eq_true rfl⟩) (fun _ _ _ _ q => q) (fun _ _ _ => trivial) hP hD hK hS hA [0, 3, 4, 5, 6, 7, 8, 9, 10, 11, 12, 13, 14, 15, 16, 17, 18, 19, 20, 21, 22] [1, 2, 23, 24, 25, 26, 27, 28, 29, 30, 31, 32, 33, 34, 35, 36, 37, 38, 39, 40, 41] rfl (by decide +kernel) (by rw [WL_len]; decide +kernel) (by decide +kernel) (by decide +kernel) (va_recv hK hP (ci := 2) (q0 := 0) rfl rfl) rfl hl.1 rfl (Nat.le_of_ble_eq_true rfl) ⟨Nat.le_of_ble_eq_true rfl, Nat.le_of_ble_eq_true rfl⟩ dL_law_688 (fun r u1 H locs hr hP hD hS => ?_)
  obtain ⟨rfl, rfl⟩ := hr
  have hP : va_P (dC, dI) vwCl (WL cI cZ xd ma ka ta bd σ σ ρ P ξ (nI 1) sd σ P ξ sd2 kv hh sm sr fm fr fl) H := z_back2 (mid := WL cI cZ xd ma ka ta bd σ κ ρ P ξ (nI 1) sd σ P ξ sd2 kv hh sm sr fm fr fl) (isC := [0, 3, 4, 5, 6, 7, 8, 9, 10, 11, 12, 13, 14, 15, 16, 17, 18, 19, 20, 21, 22]) hP 42 (WL_len ..) (by decide +kernel) [0, 3, 4, 5, 6, 7, 8, 9, 10, 11, 12] [13, 14, 15, 16, 17, 18, 19, 20, 21, 22] ([xo xd ma ka ta ξ (nI 1)] ++ mw cI cZ ma σ) (mw cI cZ ka σ) rfl rfl rfl rfl rfl
  have hD : va_D A (WL cI cZ xd ma ka ta bd σ σ ρ P ξ (nI 1) sd σ P ξ sd2 kv hh sm sr fm fr fl) := z_adr hD0 rfl
  refine lv_aload_n hx hb dL_law_691 rfl (lv_at hl 3 rfl) ?_
  have hD0 := hD
  refine z_callQi (As := []) (rest := [.int (σ 0 6)]) ⟨hx, hb, hml, hown, hts⟩ (c_X3_image l dC dI cI cZ bd σ ξ sd2 kv hh fm fr fl _) (cwV 0 hts gL_law_X3_image rfl rfl rfl (by decide +kernel) ⟨Nat.le_of_ble_eq_true rfl, Nat.le_of_ble_eq_true rfl⟩) (fun _ _ _ _ q => q) (fun _ _ _ => trivial) hP hD hK hS hA [33, 35, 36, 39, 40, 41] [0, 1, 2, 3, 4, 5, 6, 7, 8, 9, 10, 11, 12, 13, 14, 15, 16, 17, 18, 19, 20, 21, 22, 23, 24, 25, 26, 27, 28, 29, 30, 31, 32, 34, 37, 38] rfl (by decide +kernel) (by rw [WL_len]; decide +kernel) (by decide +kernel) (by decide +kernel) (va_recv hK hP (ci := 3) (q0 := 33) rfl rfl) rfl hl.1 rfl (Nat.le_of_ble_eq_true rfl) ⟨Nat.le_of_ble_eq_true rfl, Nat.le_of_ble_eq_true rfl⟩ dL_law_692 (fun r u2 H locs hr hP hD hS => ?_)
  obtain rfl := hr
  have hP : va_P (dC, dI) vwCl (WL cI cZ xd ma ka ta bd σ σ ρ P ξ (nI 1) sd σ P ξ sd2 (kvK σ) hh sm sr (menOf σ) (rowsOf σ) (lawU fl σ)) H := z_back (isC := [33, 35, 36, 39, 40, 41]) hP rfl 42 (WL_len ..) (by decide +kernel)
  have hD : va_D A (WL cI cZ xd ma ka ta bd σ σ ρ P ξ (nI 1) sd σ P ξ sd2 (kvK σ) hh sm sr (menOf σ) (rowsOf σ) (lawU fl σ)) := z_adr hD0 rfl
  refine lv_icmp_eq (tgt := 750) hx hb dL_law_695 (by decide) (fun _ => ?_) (fun z9 => absurd rfl z9)
  exact kk σ σ ρ P ξ (nI 1) sd sd2 (kvK σ) hh sm sr (menOf σ) (rowsOf σ) (lawU fl σ) ls _ _ (hLI.image hy) hP hD hS hl
set_option maxHeartbeats 1000000 in
set_option maxRecDepth 100000 in
theorem lw_c20 (l : Launch) {p : Program} {e : Env} {s : State} {m : MethodId} {below : List Frame} {meth : Method} {c : Code} {Q : State → Prop} {b L : Nat} {xs : Nat → Int32} (X : LB p s m c b L xs) {A : Nat → Prop} (hA : ∀ q, s.heap.size ≤ q → A q) (hbA : ¬ A b) {dC : Nat → ClassId} {dI : Nat → Nat → Nat} {cI cZ : ClassId} (hK : va_K (dC, dI) vwCl (tyIZ cI cZ) s) {tf tt : Nat} (hE : lawA tf tt A s) {xd ma ka ta bd : Nat → Nat} {y i : Nat} (hy : y < 2 ^ 20) (hi4 : i + 4 ≤ L) (hL : L ≤ 2048) {σ κ ρ : St} {P ξ : Nat → Int32} {hi sd sd2 : Int32} {kv : Nat → Int32} {hh : Int64} {sm sr fm fr fl : Nat → Int32} (hLI : LI y σ κ ξ kv fm fr fl hi) {ls : Array Slot} {H : Heap} {locs : List Loc} (hP : va_P (dC, dI) vwCl (WL cI cZ xd ma ka ta bd σ κ ρ P ξ hi sd σ P ξ sd2 kv hh sm sr fm fr fl) H) (hD : va_D A (WL cI cZ xd ma ka ta bd σ κ ρ P ξ hi sd σ P ξ sd2 kv hh sm sr fm fr fl)) (hS : va_S A s.heap H locs) (hl : lv_has ls 4 [(3, .int (nI i)), (0, .ref b), (1, .ref (xd 0)), (2, .ref (bd 0))])
    (kk : lawK p l e s m b below meth c Q dC dI cI cZ A xd ma ka ta bd y i) : W p l e rmL s m #[Value.ref b] below meth c H locs 42 380 Q (F0 m 700 ls []) := by
  obtain ⟨hx, hb, hml, hown, hts, hX, hbl⟩ := X
  obtain ⟨⟨⟨Hn, B, Lc, C, V, M, hI⟩, hyr⟩, ⟨n, hn8, hn0⟩, -⟩ := id hLI
  refine lv_aload_n hx hb dL_law_700 rfl (lv_at hl 2 rfl) ?_
  have hD0 := hD
  refine z_callQi (As := []) (rest := []) ⟨hx, hb, hml, hown, hts⟩ (c_X2_restore l dC dI cI cZ xd ma ka ta σ ξ hi κ hLI.2.2.1 _) (cwV 0 hts gL_law_X2_restore rfl rfl rfl (by decide +kernel) ⟨Nat.le_of_ble_eq_true rfl, Nat.le_of_ble_eq_true rfl⟩) (fun _ _ _ _ q => q) (fun _ _ _ => trivial) hP hD hK hS hA [0, 3, 4, 5, 6, 7, 8, 9, 10, 11, 12, 13, 14, 15, 16, 17, 18, 19, 20, 21, 22] [1, 2, 23, 24, 25, 26, 27, 28, 29, 30, 31, 32, 33, 34, 35, 36, 37, 38, 39, 40, 41] rfl (by decide +kernel) (by rw [WL_len]; decide +kernel) (by decide +kernel) (by decide +kernel) (va_recv hK hP (ci := 2) (q0 := 0) rfl rfl) rfl hl.1 rfl (Nat.le_of_ble_eq_true rfl) ⟨Nat.le_of_ble_eq_true rfl, Nat.le_of_ble_eq_true rfl⟩ dL_law_701 (fun r u1 H locs hr hP hD hS => ?_)
  obtain ⟨rfl, rfl⟩ := hr
  have hP : va_P (dC, dI) vwCl (WL cI cZ xd ma ka ta bd ((restoreF σ κ hi).2) κ ρ P ξ hi sd σ P ξ sd2 kv hh sm sr fm fr fl) H := z_back2 (mid := WL cI cZ xd ma ka ta bd ((restoreF σ κ hi).2) κ ρ P ξ hi sd σ P ξ sd2 kv hh sm sr fm fr fl) (isC := [0, 3, 4, 5, 6, 7, 8, 9, 10, 11, 12, 13, 14, 15, 16, 17, 18, 19, 20, 21, 22]) hP 42 (WL_len ..) (by decide +kernel) [0, 3, 4, 5, 6, 7, 8, 9, 10, 11, 12] [13, 14, 15, 16, 17, 18, 19, 20, 21, 22] ([xo xd ma ka ta ξ hi] ++ mw cI cZ ma ((restoreF σ κ hi).2)) (mw cI cZ ka κ) rfl rfl rfl rfl rfl
  have hD : va_D A (WL cI cZ xd ma ka ta bd ((restoreF σ κ hi).2) κ ρ P ξ hi sd σ P ξ sd2 kv hh sm sr fm fr fl) := z_adr hD0 rfl
  refine lv_aload_n hx hb dL_law_704 rfl (lv_at hl 3 rfl) ?_
  have hD0 := hD
  refine z_callQi (As := []) (rest := [.int ((restoreF σ κ hi).1)]) ⟨hx, hb, hml, hown, hts⟩ (c_X3_restore l dC dI cI cZ bd σ ξ sd2 kv hh fm fr fl κ hi hLI.kp _) (cwV 0 hts gL_law_X3_restore rfl rfl rfl (by decide +kernel) ⟨Nat.le_of_ble_eq_true rfl, Nat.le_of_ble_eq_true rfl⟩) (fun _ _ _ _ q => q) (fun _ _ _ => trivial) hP hD hK hS hA [33, 35, 36, 39, 40, 41] [0, 1, 2, 3, 4, 5, 6, 7, 8, 9, 10, 11, 12, 13, 14, 15, 16, 17, 18, 19, 20, 21, 22, 23, 24, 25, 26, 27, 28, 29, 30, 31, 32, 34, 37, 38] rfl (by decide +kernel) (by rw [WL_len]; decide +kernel) (by decide +kernel) (by decide +kernel) (va_recv hK hP (ci := 3) (q0 := 33) rfl rfl) rfl hl.1 rfl (Nat.le_of_ble_eq_true rfl) ⟨Nat.le_of_ble_eq_true rfl, Nat.le_of_ble_eq_true rfl⟩ dL_law_705 (fun r u2 H locs hr hP hD hS => ?_)
  obtain ⟨rfl, rfl⟩ := hr
  have hP : va_P (dC, dI) vwCl (WL cI cZ xd ma ka ta bd ((restoreF σ κ hi).2) κ ρ P ξ hi sd ((restoreF σ κ hi).2) P ξ sd2 kv hh sm sr fm fr fl) H := z_back (isC := [33, 35, 36, 39, 40, 41]) hP rfl 42 (WL_len ..) (by decide +kernel)
  have hD : va_D A (WL cI cZ xd ma ka ta bd ((restoreF σ κ hi).2) κ ρ P ξ hi sd ((restoreF σ κ hi).2) P ξ sd2 kv hh sm sr fm fr fl) := z_adr hD0 rfl
  refine lv_icmp_eq (tgt := 750) hx hb dL_law_708 (by decide) (fun _ => ?_) (fun z9 => absurd rfl z9)
  exact kk ((restoreF σ κ hi).2) κ ρ P ξ hi sd sd2 kv hh sm sr fm fr fl ls _ _ (hLI.restore) hP hD hS hl
set_option maxHeartbeats 1000000 in
set_option maxRecDepth 100000 in
theorem lw_c21 (l : Launch) {p : Program} {e : Env} {s : State} {m : MethodId} {below : List Frame} {meth : Method} {c : Code} {Q : State → Prop} {b L : Nat} {xs : Nat → Int32} (X : LB p s m c b L xs) {A : Nat → Prop} (hA : ∀ q, s.heap.size ≤ q → A q) (hbA : ¬ A b) {dC : Nat → ClassId} {dI : Nat → Nat → Nat} {cI cZ : ClassId} (hK : va_K (dC, dI) vwCl (tyIZ cI cZ) s) {tf tt : Nat} (hE : lawA tf tt A s) {xd ma ka ta bd : Nat → Nat} {y i : Nat} (hy : y < 2 ^ 20) (hi4 : i + 4 ≤ L) (hL : L ≤ 2048) {σ κ ρ : St} {P ξ : Nat → Int32} {hi sd sd2 : Int32} {kv : Nat → Int32} {hh : Int64} {sm sr fm fr fl : Nat → Int32} (hLI : LI y σ κ ξ kv fm fr fl hi) {ls : Array Slot} {H : Heap} {locs : List Loc} (hP : va_P (dC, dI) vwCl (WL cI cZ xd ma ka ta bd σ κ ρ P ξ hi sd σ P ξ sd2 kv hh sm sr fm fr fl) H) (hD : va_D A (WL cI cZ xd ma ka ta bd σ κ ρ P ξ hi sd σ P ξ sd2 kv hh sm sr fm fr fl)) (hS : va_S A s.heap H locs) (hl : lv_has ls 4 [(3, .int (nI i)), (0, .ref b), (1, .ref (xd 0)), (2, .ref (bd 0))])
    (kk : lawK p l e s m b below meth c Q dC dI cI cZ A xd ma ka ta bd y i) : W p l e rmL s m #[Value.ref b] below meth c H locs 42 380 Q (F0 m 713 ls []) := by
  obtain ⟨hx, hb, hml, hown, hts, hX, hbl⟩ := X
  obtain ⟨⟨⟨Hn, B, Lc, C, V, M, hI⟩, hyr⟩, ⟨n, hn8, hn0⟩, -⟩ := id hLI
  refine lv_aload_n hx hb dL_law_713 rfl (lv_at hl 2 rfl) ?_
  refine lv_aload_n hx hb dL_law_714 rfl (lv_at hl 1 rfl) ?_
  refine lv_iload_n hx hb dL_law_715 rfl (lv_at hl 0 rfl) ?_
  refine lv_iconst (v := nI 1) hx hb dL_law_716 (by decide) ?_
  refine z_iadd (v := nI (i + 1)) hx hb dL_law_717 (nI_add _ _) ?_
  refine z_sld hx hb hX hbl hbA hS (i + 1) (by omega) hL dL_law_718 ?_
  refine z_callV (As := [.int (xs (i + 1))]) (rest := []) ⟨hx, hb, hml, hown, hts⟩ (c_X2_count l dC dI cI cZ xd ma ka ta σ Hn B Lc C V M hI ξ hi (xs (i + 1))) (cwV 1 hts gL_law_X2_count rfl rfl rfl (by decide +kernel) ⟨Nat.le_of_ble_eq_true rfl, Nat.le_of_ble_eq_true rfl⟩) (hP.sub [0, 3, 4, 5, 6, 7, 8, 9, 10, 11, 12] rfl) hK (va_recv hK hP (ci := 2) (q0 := 0) rfl rfl) rfl hl.1 rfl (Nat.le_of_ble_eq_true rfl) ⟨Nat.le_of_ble_eq_true rfl, Nat.le_of_ble_eq_true rfl⟩ dL_law_719 (fun r hr => ?_)
  obtain rfl := hr
  refine lv_aload_n hx hb dL_law_722 rfl (lv_at hl 3 rfl) ?_
  refine lv_aload_n hx hb dL_law_723 rfl (lv_at hl 1 rfl) ?_
  refine lv_iload_n hx hb dL_law_724 rfl (lv_at hl 0 rfl) ?_
  refine lv_iconst (v := nI 1) hx hb dL_law_725 (by decide) ?_
  refine z_iadd (v := nI (i + 1)) hx hb dL_law_726 (nI_add _ _) ?_
  refine z_sld hx hb hX hbl hbA hS (i + 1) (by omega) hL dL_law_727 ?_
  refine z_callV (As := [.int (xs (i + 1))]) (rest := [.int (countF σ Hn B ξ (xs (i + 1)))]) ⟨hx, hb, hml, hown, hts⟩ (c_X3_count l dC dI cI cZ bd σ Hn B Lc C V M hI ξ (σ 0 7) sd2 kv hh (xs (i + 1)) rfl) (cwV 1 hts gL_law_X3_count rfl rfl rfl (by decide +kernel) ⟨Nat.le_of_ble_eq_true rfl, Nat.le_of_ble_eq_true rfl⟩) (hP.sub [33, 35, 36] rfl) hK (va_recv hK hP (ci := 3) (q0 := 33) rfl rfl) rfl hl.1 rfl (Nat.le_of_ble_eq_true rfl) ⟨Nat.le_of_ble_eq_true rfl, Nat.le_of_ble_eq_true rfl⟩ dL_law_728 (fun r hr => ?_)
  obtain rfl := hr
  refine lv_icmp_eq (tgt := 750) hx hb dL_law_731 (by decide) (fun _ => ?_) (fun z9 => absurd rfl z9)
  exact kk σ κ ρ P ξ hi sd sd2 kv hh sm sr fm fr fl ls _ _ (hLI.mono (Nat.le_succ y)) hP hD hS hl
set_option maxHeartbeats 1000000 in
set_option maxRecDepth 100000 in
theorem lw_c22 (l : Launch) {p : Program} {e : Env} {s : State} {m : MethodId} {below : List Frame} {meth : Method} {c : Code} {Q : State → Prop} {b L : Nat} {xs : Nat → Int32} (X : LB p s m c b L xs) {A : Nat → Prop} (hA : ∀ q, s.heap.size ≤ q → A q) (hbA : ¬ A b) {dC : Nat → ClassId} {dI : Nat → Nat → Nat} {cI cZ : ClassId} (hK : va_K (dC, dI) vwCl (tyIZ cI cZ) s) {tf tt : Nat} (hE : lawA tf tt A s) {xd ma ka ta bd : Nat → Nat} {y i : Nat} (hy : y < 2 ^ 20) (hi4 : i + 4 ≤ L) (hL : L ≤ 2048) {σ κ ρ : St} {P ξ : Nat → Int32} {hi sd sd2 : Int32} {kv : Nat → Int32} {hh : Int64} {sm sr fm fr fl : Nat → Int32} (hLI : LI y σ κ ξ kv fm fr fl hi) {ls : Array Slot} {H : Heap} {locs : List Loc} (hP : va_P (dC, dI) vwCl (WL cI cZ xd ma ka ta bd σ κ ρ P ξ hi sd σ P ξ sd2 kv hh sm sr fm fr fl) H) (hD : va_D A (WL cI cZ xd ma ka ta bd σ κ ρ P ξ hi sd σ P ξ sd2 kv hh sm sr fm fr fl)) (hS : va_S A s.heap H locs) (hl : lv_has ls 4 [(3, .int (nI i)), (0, .ref b), (1, .ref (xd 0)), (2, .ref (bd 0))])
    (kk : lawK p l e s m b below meth c Q dC dI cI cZ A xd ma ka ta bd y i) : W p l e rmL s m #[Value.ref b] below meth c H locs 42 380 Q (F0 m 736 ls []) := by
  obtain ⟨hx, hb, hml, hown, hts, hX, hbl⟩ := X
  obtain ⟨⟨⟨Hn, B, Lc, C, V, M, hI⟩, hyr⟩, ⟨n, hn8, hn0⟩, -⟩ := id hLI
  refine lv_aload_n hx hb dL_law_736 rfl (lv_at hl 2 rfl) ?_
  refine z_callVL (As := []) (rest := []) ⟨hx, hb, hml, hown, hts⟩ (c_X2_digest l dC dI cI cZ xd ma ka ta σ Hn B Lc C V M hI ξ hi P n hn0 hn8) (cwV 0 hts gL_law_X2_digest rfl rfl rfl (by decide +kernel) ⟨Nat.le_of_ble_eq_true rfl, Nat.le_of_ble_eq_true rfl⟩) (hP.sub [0, 1, 3, 4, 5, 6, 7, 8, 9, 10, 11, 12] rfl) hK (va_recv hK hP (ci := 2) (q0 := 0) rfl rfl) rfl hl.1 rfl (Nat.le_of_ble_eq_true rfl) ⟨Nat.le_of_ble_eq_true rfl, Nat.le_of_ble_eq_true rfl⟩ dL_law_737 (fun r hr => ?_)
  obtain rfl := hr
  refine lv_aload_n hx hb dL_law_740 rfl (lv_at hl 3 rfl) ?_
  have hD0 := hD
  refine z_callQl (As := []) (rest := [.long (digF σ Hn B P ξ n)]) ⟨hx, hb, hml, hown, hts⟩ (c_X3_digest l dC dI cI cZ bd σ Hn B Lc C V M hI ξ sd2 kv hh P n hn0 hn8 _) (cwV 0 hts gL_law_X3_digest rfl rfl rfl (by decide +kernel) ⟨Nat.le_of_ble_eq_true rfl, Nat.le_of_ble_eq_true rfl⟩) (fun _ _ _ _ q => q) (fun _ _ _ => trivial) hP hD hK hS hA [33, 35, 36, 34] [0, 1, 2, 3, 4, 5, 6, 7, 8, 9, 10, 11, 12, 13, 14, 15, 16, 17, 18, 19, 20, 21, 22, 23, 24, 25, 26, 27, 28, 29, 30, 31, 32, 37, 38, 39, 40, 41] rfl (by decide +kernel) (by rw [WL_len]; decide +kernel) (by decide +kernel) (by decide +kernel) (va_recv hK hP (ci := 3) (q0 := 33) rfl rfl) rfl hl.1 rfl (Nat.le_of_ble_eq_true rfl) ⟨Nat.le_of_ble_eq_true rfl, Nat.le_of_ble_eq_true rfl⟩ dL_law_741 (fun r u2 H locs hr hP hD hS => ?_)
  obtain ⟨rfl, rfl⟩ := hr
  have hP : va_P (dC, dI) vwCl (WL cI cZ xd ma ka ta bd σ κ ρ P ξ hi sd σ P ξ sd2 kv (digF σ Hn B P ξ n) sm sr fm fr fl) H := z_back (isC := [33, 35, 36, 34]) hP rfl 42 (WL_len ..) (by decide +kernel)
  have hD : va_D A (WL cI cZ xd ma ka ta bd σ κ ρ P ξ hi sd σ P ξ sd2 kv (digF σ Hn B P ξ n) sm sr fm fr fl) := z_adr hD0 rfl
  refine W.lcmp hx hb dL_law_744 ?_
  refine lv_if_eq (tgt := 750) hx hb dL_law_745 (by decide) (fun _ => ?_) (fun z9 => absurd (cmp_self _) z9)
  exact kk σ κ ρ P ξ hi sd sd2 kv (digF σ Hn B P ξ n) sm sr fm fr fl ls _ _ (hLI.mono (Nat.le_succ y)) hP hD hS hl
