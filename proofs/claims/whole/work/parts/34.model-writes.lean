/-! ===== the reference: what changes it ===== -/
abbrev rm_c_X3_lay : Room := { frames := 0, cells := 0, slots := 0, locals := 0 }
set_option maxHeartbeats 4000000 in
set_option maxRecDepth 100000 in
theorem c_X3_lay (l : Launch) (dC : Nat → ClassId) (dI : Nat → Nat → Nat) (cI cZ : ClassId) (bd : Nat → Nat) (σ : St) (ξ : Nat → Int32) (tk sd : Int32) (kv : Nat → Int32) (hh : Int64) (b : Nat) (hb6 : b < 6) (x y z : Int32) (sz : Nat) : Met l yX3_lay wsX3_lay rm_c_X3_lay (va_Pc [.ref (bd 0), .int (nI b), .int x, .int y, .int z] (zPre (dC, dI) vwCl (tyIZ cI cZ) ([bo bd σ ξ tk sd kv hh, (bd 2, .inl (cI, 16, .inl (menOf σ))), (bd 3, .inl (cI, 30, .inl (rowsOf σ)))]) sz (fun _ => True))) (va_Qv (fun (u : St) => u = layS σ b x y z) (zPost (dC, dI) vwCl (tyIZ cI cZ) ([bo bd σ ξ tk sd kv hh, (bd 2, .inl (cI, 16, .inl (menOf σ))), (bd 3, .inl (cI, 30, .inl (rowsOf σ)))]) sz (fun (u : St) => [bo bd u ξ tk sd kv hh, (bd 2, .inl (cI, 16, .inl (menOf u))), (bd 3, .inl (cI, 30, .inl (rowsOf u)))])) (va_A ([bo bd σ ξ tk sd kv hh, (bd 2, .inl (cI, 16, .inl (menOf σ))), (bd 3, .inl (cI, 30, .inl (rowsOf σ)))]) sz)) 0 0 (va_A ([bo bd σ ξ tk sd kv hh, (bd 2, .inl (cI, 16, .inl (menOf σ))), (bd 3, .inl (cI, 30, .inl (rowsOf σ)))]) sz) := by
  refine z_impV (cc := cX3_lay) (maxL := 5) (av := [.ref (bd 0), .int (nI b), .int x, .int y, .int z]) (by decide) rfl (Nat.le_of_ble_eq_true rfl) ?_
  intro p e s m below meth c Q A ls hx hb hml hown hname hts hBs hP hK hD hS hA hAB hq hl
  have hown : s.vm.findClass RX3 = some m.cls := hown
  have hin3 : ∀ w ∈ wsX30, w ∈ wsX3_lay := fun _ h => List.mem_cons_of_mem _ (List.mem_append_right _ h)
  have L16 := hts (.fieldLink RX3 16 "BestBeastModel" "rows" "[I") (List.mem_of_getElem? (i := 1) rfl)
  have hl : lv_has ls 5 [(0, .ref (bd 0)), (1, .int (nI b)), (2, .int x), (3, .int y), (4, .int z)] := hl
  refine lv_aload_n hx hb dX3_lay_0 rfl (lv_at hl 0 rfl) ?_
  refine va_get (D := (dC, dI)) (ci := 3) (v := .ref (bd 3)) (C := RX3) (T := TX3) (N := 24) hx hb hts hin3 hown hK hP 0 rfl rfl 12 (by decide) L16 (fun _ h9 => h9) rfl dX3_lay_1 ?_
  refine lv_iconst (v := nI 5) hx hb dX3_lay_4 (by decide) ?_
  refine lv_iload_n hx hb dX3_lay_5 rfl (lv_at hl 1 rfl) ?_
  refine z_imul (v := nI (5 * b)) hx hb dX3_lay_6 (pk_mul _ _) ?_
  refine lv_iconst (v := nI 1) hx hb dX3_lay_7 (by decide) ?_
  refine z_iadd (v := nI ((5 * b) + 1)) hx hb dX3_lay_8 (nI_add _ _) ?_
  refine lv_iload_n hx hb dX3_lay_9 rfl (lv_at hl 2 rfl) ?_
  refine z_iast (D := (dC, dI)) hx hb hK hP hD hS 2 0 rfl rfl ((5 * b) + 1) (rfl) (by omega) (by omega) (f' := rowsOf (up2 σ 6 b x)) (rowsW σ b 1 (by decide) _) dX3_lay_10 (fun H locs hP hD hS => ?_)
  have hP : va_P (dC, dI) vwCl ([bo bd (up2 σ 6 b x) ξ tk sd kv hh, (bd 2, .inl (cI, 16, .inl (menOf (up2 σ 6 b x)))), (bd 3, .inl (cI, 30, .inl (rowsOf (up2 σ 6 b x))))]) H := hP
  have hD : va_D A ([bo bd (up2 σ 6 b x) ξ tk sd kv hh, (bd 2, .inl (cI, 16, .inl (menOf (up2 σ 6 b x)))), (bd 3, .inl (cI, 30, .inl (rowsOf (up2 σ 6 b x))))]) := hD
  refine lv_aload_n hx hb dX3_lay_11 rfl (lv_at hl 0 rfl) ?_
  refine va_get (D := (dC, dI)) (ci := 3) (v := .ref (bd 3)) (C := RX3) (T := TX3) (N := 24) hx hb hts hin3 hown hK hP 0 rfl rfl 12 (by decide) L16 (fun _ h9 => h9) rfl dX3_lay_12 ?_
  refine lv_iconst (v := nI 5) hx hb dX3_lay_15 (by decide) ?_
  refine lv_iload_n hx hb dX3_lay_16 rfl (lv_at hl 1 rfl) ?_
  refine z_imul (v := nI (5 * b)) hx hb dX3_lay_17 (pk_mul _ _) ?_
  refine lv_iconst (v := nI 2) hx hb dX3_lay_18 (by decide) ?_
  refine z_iadd (v := nI ((5 * b) + 2)) hx hb dX3_lay_19 (nI_add _ _) ?_
  refine lv_iload_n hx hb dX3_lay_20 rfl (lv_at hl 3 rfl) ?_
  refine z_iast (D := (dC, dI)) hx hb hK hP hD hS 2 0 rfl rfl ((5 * b) + 2) (rfl) (by omega) (by omega) (f' := rowsOf (up2 (up2 σ 6 b x) 7 b y)) (rowsW (up2 σ 6 b x) b 2 (by decide) _) dX3_lay_21 (fun H locs hP hD hS => ?_)
  have hP : va_P (dC, dI) vwCl ([bo bd (up2 (up2 σ 6 b x) 7 b y) ξ tk sd kv hh, (bd 2, .inl (cI, 16, .inl (menOf (up2 (up2 σ 6 b x) 7 b y)))), (bd 3, .inl (cI, 30, .inl (rowsOf (up2 (up2 σ 6 b x) 7 b y))))]) H := hP
  have hD : va_D A ([bo bd (up2 (up2 σ 6 b x) 7 b y) ξ tk sd kv hh, (bd 2, .inl (cI, 16, .inl (menOf (up2 (up2 σ 6 b x) 7 b y)))), (bd 3, .inl (cI, 30, .inl (rowsOf (up2 (up2 σ 6 b x) 7 b y))))]) := hD
  refine lv_aload_n hx hb dX3_lay_22 rfl (lv_at hl 0 rfl) ?_
  refine va_get (D := (dC, dI)) (ci := 3) (v := .ref (bd 3)) (C := RX3) (T := TX3) (N := 24) hx hb hts hin3 hown hK hP 0 rfl rfl 12 (by decide) L16 (fun _ h9 => h9) rfl dX3_lay_23 ?_
  refine lv_iconst (v := nI 5) hx hb dX3_lay_26 (by decide) ?_
  refine lv_iload_n hx hb dX3_lay_27 rfl (lv_at hl 1 rfl) ?_
  refine z_imul (v := nI (5 * b)) hx hb dX3_lay_28 (pk_mul _ _) ?_
  refine lv_iconst (v := nI 3) hx hb dX3_lay_29 (by decide) ?_
  refine z_iadd (v := nI ((5 * b) + 3)) hx hb dX3_lay_30 (nI_add _ _) ?_
  refine lv_iload hx hb dX3_lay_31 (lv_at hl 4 rfl) ?_
  refine z_iast (D := (dC, dI)) hx hb hK hP hD hS 2 0 rfl rfl ((5 * b) + 3) (rfl) (by omega) (by omega) (f' := rowsOf (up2 (up2 (up2 σ 6 b x) 7 b y) 8 b z)) (rowsW (up2 (up2 σ 6 b x) 7 b y) b 3 (by decide) _) dX3_lay_33 (fun H locs hP hD hS => ?_)
  have hP : va_P (dC, dI) vwCl ([bo bd (up2 (up2 (up2 σ 6 b x) 7 b y) 8 b z) ξ tk sd kv hh, (bd 2, .inl (cI, 16, .inl (menOf (up2 (up2 (up2 σ 6 b x) 7 b y) 8 b z)))), (bd 3, .inl (cI, 30, .inl (rowsOf (up2 (up2 (up2 σ 6 b x) 7 b y) 8 b z))))]) H := hP
  have hD : va_D A ([bo bd (up2 (up2 (up2 σ 6 b x) 7 b y) 8 b z) ξ tk sd kv hh, (bd 2, .inl (cI, 16, .inl (menOf (up2 (up2 (up2 σ 6 b x) 7 b y) 8 b z)))), (bd 3, .inl (cI, 30, .inl (rowsOf (up2 (up2 (up2 σ 6 b x) 7 b y) 8 b z))))]) := hD
  exact hq (up2 (up2 (up2 σ 6 b x) 7 b y) 8 b z) _ _ 34 ls dX3_lay_34 (show (up2 (up2 (up2 σ 6 b x) 7 b y) 8 b z) = layS σ b x y z from rfl) hP hD hS
abbrev rm_c_X3_gives : Room := { frames := 1, cells := 0, slots := 0, locals := 24 }
set_option maxHeartbeats 4000000 in
set_option maxRecDepth 100000 in
theorem c_X3_gives (l : Launch) (dC : Nat → ClassId) (dI : Nat → Nat → Nat) (cI cZ : ClassId) (bd : Nat → Nat) (σ : St) (ξ : Nat → Int32) (tk sd : Int32) (kv : Nat → Int32) (hh : Int64) (b : Nat) (hb6 : b < 6) (t : Nat) (sz : Nat) : Met l yX3_gives wsX3_gives rm_c_X3_gives (va_Pc [.ref (bd 0), .int (nI b), .int (nI t)] (zPre (dC, dI) vwCl (tyIZ cI cZ) ([bo bd σ ξ tk sd kv hh, (bd 2, .inl (cI, 16, .inl (menOf σ))), (bd 3, .inl (cI, 30, .inl (rowsOf σ)))]) sz (fun _ => True))) (va_Qv (fun (u : St) => u = layS σ b (nI t) (σ 6 b) (σ 0 6)) (zPost (dC, dI) vwCl (tyIZ cI cZ) ([bo bd σ ξ tk sd kv hh, (bd 2, .inl (cI, 16, .inl (menOf σ))), (bd 3, .inl (cI, 30, .inl (rowsOf σ)))]) sz (fun (u : St) => [bo bd u ξ tk sd kv hh, (bd 2, .inl (cI, 16, .inl (menOf u))), (bd 3, .inl (cI, 30, .inl (rowsOf u)))])) (va_A ([bo bd σ ξ tk sd kv hh, (bd 2, .inl (cI, 16, .inl (menOf σ))), (bd 3, .inl (cI, 30, .inl (rowsOf σ)))]) sz)) 0 0 (va_A ([bo bd σ ξ tk sd kv hh, (bd 2, .inl (cI, 16, .inl (menOf σ))), (bd 3, .inl (cI, 30, .inl (rowsOf σ)))]) sz) := by
  refine z_impV (cc := cX3_gives) (maxL := 3) (av := [.ref (bd 0), .int (nI b), .int (nI t)]) (by decide) rfl (Nat.le_of_ble_eq_true rfl) ?_
  intro p e s m below meth c Q A ls hx hb hml hown hname hts hBs hP hK hD hS hA hAB hq hl
  have hown : s.vm.findClass RX3 = some m.cls := hown
  have hin3 : ∀ w ∈ wsX30, w ∈ wsX3_gives := fun _ h => List.mem_cons_of_mem _ (List.mem_append_right _ h)
  have L16 := hts (.fieldLink RX3 16 "BestBeastModel" "rows" "[I") (List.mem_of_getElem? (i := 1) rfl)
  have L104 := hts (.fieldLink RX3 104 "BestBeastModel" "yearNow" "I") (List.mem_of_getElem? (i := 2) rfl)
  have hl : lv_has ls 3 [(0, .ref (bd 0)), (1, .int (nI b)), (2, .int (nI t))] := hl
  refine lv_aload_n hx hb dX3_gives_0 rfl (lv_at hl 0 rfl) ?_
  refine lv_iload_n hx hb dX3_gives_1 rfl (lv_at hl 1 rfl) ?_
  refine lv_iload_n hx hb dX3_gives_2 rfl (lv_at hl 2 rfl) ?_
  refine lv_aload_n hx hb dX3_gives_3 rfl (lv_at hl 0 rfl) ?_
  refine va_get (D := (dC, dI)) (ci := 3) (v := .ref (bd 3)) (C := RX3) (T := TX3) (N := 24) hx hb hts hin3 hown hK hP 0 rfl rfl 12 (by decide) L16 (fun _ h9 => h9) rfl dX3_gives_4 ?_
  refine lv_iconst (v := nI 5) hx hb dX3_gives_7 (by decide) ?_
  refine lv_iload_n hx hb dX3_gives_8 rfl (lv_at hl 1 rfl) ?_
  refine z_imul (v := nI (5 * b)) hx hb dX3_gives_9 (pk_mul _ _) ?_
  refine lv_iconst (v := nI 1) hx hb dX3_gives_10 (by decide) ?_
  refine z_iadd (v := nI ((5 * b) + 1)) hx hb dX3_gives_11 (nI_add _ _) ?_
  refine z_iald (D := (dC, dI)) hx hb hK hP 2 0 rfl rfl ((5 * b) + 1) (rfl) (by omega) (by omega) (v := σ 6 b) (rowsR σ b 1 (by decide)) dX3_gives_12 ?_
  refine lv_aload_n hx hb dX3_gives_13 rfl (lv_at hl 0 rfl) ?_
  refine va_get (D := (dC, dI)) (ci := 3) (v := .int (σ 0 6)) (C := RX3) (T := TX3) (N := 24) hx hb hts hin3 hown hK hP 0 rfl rfl 7 (by decide) L104 (fun _ h9 => h9) rfl dX3_gives_14 ?_
  refine z_callQv (As := [.int (nI b), .int (nI t), .int (σ 6 b), .int (σ 0 6)]) (rest := []) ⟨hx, hb, hml, hown, hts⟩ (c_X3_lay l dC dI cI cZ bd σ ξ tk sd kv hh b (by omega) (nI t) (σ 6 b) (σ 0 6) _) (cwV 4 hts gX3_gives_X3_lay rfl rfl rfl (by decide +kernel) ⟨Nat.le_of_ble_eq_true rfl, Nat.le_of_ble_eq_true rfl⟩) (fun _ _ _ _ q => q) (fun _ _ _ => trivial) hP hD hK hS hA [0, 1, 2] [] rfl rfl rfl rfl (by decide) (va_recv hK hP (ci := 3) (q0 := 0) rfl rfl) rfl hl.1 rfl (Nat.le_of_ble_eq_true rfl) ⟨Nat.le_of_ble_eq_true rfl, Nat.le_of_ble_eq_true rfl⟩ dX3_gives_17 (fun u H locs hr hP hD hS => ?_)
  obtain rfl := hr
  have hP : va_P (dC, dI) vwCl ([bo bd (layS σ b (nI t) (σ 6 b) (σ 0 6)) ξ tk sd kv hh, (bd 2, .inl (cI, 16, .inl (menOf (layS σ b (nI t) (σ 6 b) (σ 0 6))))), (bd 3, .inl (cI, 30, .inl (rowsOf (layS σ b (nI t) (σ 6 b) (σ 0 6)))))]) H := hP
  have hD : va_D A ([bo bd (layS σ b (nI t) (σ 6 b) (σ 0 6)) ξ tk sd kv hh, (bd 2, .inl (cI, 16, .inl (menOf (layS σ b (nI t) (σ 6 b) (σ 0 6))))), (bd 3, .inl (cI, 30, .inl (rowsOf (layS σ b (nI t) (σ 6 b) (σ 0 6)))))]) := hD
  exact hq (layS σ b (nI t) (σ 6 b) (σ 0 6)) _ _ 20 ls dX3_gives_20 (show (layS σ b (nI t) (σ 6 b) (σ 0 6)) = layS σ b (nI t) (σ 6 b) (σ 0 6) from rfl) hP hD hS
abbrev rm_c_X3_dies : Room := { frames := 2, cells := 0, slots := 0, locals := 50 }
set_option maxHeartbeats 4000000 in
set_option maxRecDepth 100000 in
theorem c_X3_dies (l : Launch) (dC : Nat → ClassId) (dI : Nat → Nat → Nat) (cI cZ : ClassId) (bd : Nat → Nat) (σ : St) (Hn B L C V M : Nat) (hI : Inv σ Hn B L C V M) (ξ : Nat → Int32) (tk sd : Int32) (kv : Nat → Int32) (hh : Int64) (j : Nat) (hj : j < Hn) (sz : Nat) : Met l yX3_dies wsX3_dies rm_c_X3_dies (va_Pc [.ref (bd 0), .int (nI j)] (zPre (dC, dI) vwCl (tyIZ cI cZ) ([bo bd σ ξ tk sd kv hh, (bd 2, .inl (cI, 16, .inl (menOf σ))), (bd 3, .inl (cI, 30, .inl (rowsOf σ)))]) sz (fun _ => True))) (va_Qi (fun (r : Int32) (u : St) => r = lossF σ B j (heldF σ B (nI j)) ∧ u = buryS σ Hn B j) (zPost (dC, dI) vwCl (tyIZ cI cZ) ([bo bd σ ξ tk sd kv hh, (bd 2, .inl (cI, 16, .inl (menOf σ))), (bd 3, .inl (cI, 30, .inl (rowsOf σ)))]) sz (fun (u : St) => [bo bd u ξ tk sd kv hh, (bd 2, .inl (cI, 16, .inl (menOf u))), (bd 3, .inl (cI, 30, .inl (rowsOf u)))])) (va_A ([bo bd σ ξ tk sd kv hh, (bd 2, .inl (cI, 16, .inl (menOf σ))), (bd 3, .inl (cI, 30, .inl (rowsOf σ)))]) sz)) 0 0 (va_A ([bo bd σ ξ tk sd kv hh, (bd 2, .inl (cI, 16, .inl (menOf σ))), (bd 3, .inl (cI, 30, .inl (rowsOf σ)))]) sz) := by
  refine z_impI (cc := cX3_dies) (maxL := 6) (av := [.ref (bd 0), .int (nI j)]) (by decide) rfl (Nat.le_of_ble_eq_true rfl) ?_
  intro p e s m below meth c Q A ls hx hb hml hown hts hBs hP hK hD hS hA hAB hq hl
  have hown : s.vm.findClass RX3 = some m.cls := hown
  have hin3 : ∀ w ∈ wsX30, w ∈ wsX3_dies := fun _ h => List.mem_cons_of_mem _ (List.mem_append_right _ h)
  have L104 := hts (.fieldLink RX3 104 "BestBeastModel" "yearNow" "I") (List.mem_of_getElem? (i := 1) rfl)
  have L13 := hts (.fieldLink RX3 13 "BestBeastModel" "men" "[I") (List.mem_of_getElem? (i := 2) rfl)
  have L79 := hts (.fieldLink RX3 79 "BestBeastModel" "beasts" "I") (List.mem_of_getElem? (i := 3) rfl)
  have L16 := hts (.fieldLink RX3 16 "BestBeastModel" "rows" "[I") (List.mem_of_getElem? (i := 4) rfl)
  obtain ⟨⟨iL, iC, iV, iM, iH, iB, jL, jC, jV, jM, jH, jB⟩, iK, iDe, iAl, iHe, iWo, iO1, iO2⟩ := id hI
  have hl : lv_has ls 6 [(0, .ref (bd 0)), (1, .int (nI j))] := hl
  refine lv_aload_n hx hb dX3_dies_0 rfl (lv_at hl 0 rfl) ?_
  refine lv_iload_n hx hb dX3_dies_1 rfl (lv_at hl 1 rfl) ?_
  refine lv_aload_n hx hb dX3_dies_2 rfl (lv_at hl 0 rfl) ?_
  refine lv_iload_n hx hb dX3_dies_3 rfl (lv_at hl 1 rfl) ?_
  refine lv_aload_n hx hb dX3_dies_4 rfl (lv_at hl 0 rfl) ?_
  refine va_get (D := (dC, dI)) (ci := 3) (v := .int (σ 0 6)) (C := RX3) (T := TX3) (N := 24) hx hb hts hin3 hown hK hP 0 rfl rfl 7 (by decide) L104 (fun _ h9 => h9) rfl dX3_dies_5 ?_
  refine z_callV (As := [.int (nI j), .int (σ 0 6)]) (rest := [.int (nI j), .ref (bd 0)]) ⟨hx, hb, hml, hown, hts⟩ (c_X3_heldBits l dC dI cI cZ bd σ Hn B L C V M hI ξ tk sd kv hh (nI j) (σ 0 6) (nI_m1 (by omega))) (cwV 2 hts gX3_dies_X3_heldBits rfl rfl rfl (by decide +kernel) ⟨Nat.le_of_ble_eq_true rfl, Nat.le_of_ble_eq_true rfl⟩) hP hK (va_recv hK hP (ci := 3) (q0 := 0) rfl rfl) rfl hl.1 rfl (Nat.le_of_ble_eq_true rfl) ⟨Nat.zero_le _, Nat.zero_le _⟩ dX3_dies_8 (fun r hr => ?_)
  obtain rfl : r = heldR σ (nI j) (σ 0 6) (ownR σ (nI j) B) B := hr
  refine z_topi (v := heldF σ B (nI j)) (rfl) ?_
  refine z_callV (As := [.int (nI j), .int (heldF σ B (nI j))]) (rest := []) ⟨hx, hb, hml, hown, hts⟩ (c_X3_takenOf l dC dI cI cZ bd σ Hn B L C V M hI ξ tk sd kv hh j (by omega) (heldF σ B (nI j))) (cwV 2 hts gX3_dies_X3_takenOf rfl rfl rfl (by decide +kernel) ⟨Nat.le_of_ble_eq_true rfl, Nat.le_of_ble_eq_true rfl⟩) hP hK (va_recv hK hP (ci := 3) (q0 := 0) rfl rfl) rfl hl.1 rfl (Nat.le_of_ble_eq_true rfl) ⟨Nat.zero_le _, Nat.zero_le _⟩ dX3_dies_11 (fun r hr => ?_)
  obtain rfl : r = takenF σ B j (heldF σ B (nI j)) := hr
  refine lv_istore_n (lv' := [(2, .int (takenF σ B j (heldF σ B (nI j)))), (0, .ref (bd 0)), (1, .int (nI j))]) hx hb dX3_dies_14 rfl hl (by decide) rfl (fun ls hl => ?_)
  refine lv_aload_n hx hb dX3_dies_15 rfl (lv_at hl 1 rfl) ?_
  refine lv_iload_n hx hb dX3_dies_16 rfl (lv_at hl 0 rfl) ?_
  refine z_callV (As := [.int (takenF σ B j (heldF σ B (nI j)))]) (rest := []) ⟨hx, hb, hml, hown, hts⟩ (c_X3_worthOf l dC dI cI cZ bd σ Hn B L C V M hI ξ tk sd kv hh (takenF σ B j (heldF σ B (nI j)))) (cwV 1 hts gX3_dies_X3_worthOf rfl rfl rfl (by decide +kernel) ⟨Nat.le_of_ble_eq_true rfl, Nat.le_of_ble_eq_true rfl⟩) hP hK (va_recv hK hP (ci := 3) (q0 := 0) rfl rfl) rfl hl.1 rfl (Nat.le_of_ble_eq_true rfl) ⟨Nat.zero_le _, Nat.zero_le _⟩ dX3_dies_17 (fun r hr => ?_)
  obtain rfl : r = worthR σ (takenF σ B j (heldF σ B (nI j))) B := hr
  refine z_topi (v := lossF σ B j (heldF σ B (nI j))) (rfl) ?_
  refine lv_istore_n (lv' := [(3, .int (lossF σ B j (heldF σ B (nI j)))), (2, .int (takenF σ B j (heldF σ B (nI j)))), (0, .ref (bd 0)), (1, .int (nI j))]) hx hb dX3_dies_20 rfl hl (by decide) rfl (fun ls hl => ?_)
  refine lv_aload_n hx hb dX3_dies_21 rfl (lv_at hl 2 rfl) ?_
  refine va_get (D := (dC, dI)) (ci := 3) (v := .ref (bd 2)) (C := RX3) (T := TX3) (N := 24) hx hb hts hin3 hown hK hP 0 rfl rfl 11 (by decide) L13 (fun _ h9 => h9) rfl dX3_dies_22 ?_
  refine lv_iconst (v := nI 4) hx hb dX3_dies_25 (by decide) ?_
  refine lv_iload_n hx hb dX3_dies_26 rfl (lv_at hl 3 rfl) ?_
  refine z_imul (v := nI (4 * j)) hx hb dX3_dies_27 (pk_mul _ _) ?_
  refine lv_iconst (v := nI 3) hx hb dX3_dies_28 (by decide) ?_
  refine z_iadd (v := nI ((4 * j) + 3)) hx hb dX3_dies_29 (nI_add _ _) ?_
  refine z_iald (D := (dC, dI)) hx hb hK hP 1 0 rfl rfl ((4 * j) + 3) (rfl) (by omega) (by omega) (v := σ 4 j) (menR σ j 3 (by decide)) dX3_dies_30 ?_
  refine lv_istore (lv' := [(4, .int (σ 4 j)), (3, .int (lossF σ B j (heldF σ B (nI j)))), (2, .int (takenF σ B j (heldF σ B (nI j)))), (0, .ref (bd 0)), (1, .int (nI j))]) hx hb dX3_dies_31 hl (by decide) rfl (fun ls hl => ?_)
  refine lv_aload_n hx hb dX3_dies_33 rfl (lv_at hl 3 rfl) ?_
  refine va_get (D := (dC, dI)) (ci := 3) (v := .ref (bd 2)) (C := RX3) (T := TX3) (N := 24) hx hb hts hin3 hown hK hP 0 rfl rfl 11 (by decide) L13 (fun _ h9 => h9) rfl dX3_dies_34 ?_
  refine lv_iconst (v := nI 4) hx hb dX3_dies_37 (by decide) ?_
  refine lv_iload_n hx hb dX3_dies_38 rfl (lv_at hl 4 rfl) ?_
  refine z_imul (v := nI (4 * j)) hx hb dX3_dies_39 (pk_mul _ _) ?_
  refine lv_iconst (v := nI 2) hx hb dX3_dies_40 (by decide) ?_
  refine z_iadd (v := nI ((4 * j) + 2)) hx hb dX3_dies_41 (nI_add _ _) ?_
  refine lv_iconst (v := nI 0) hx hb dX3_dies_42 (by decide) ?_
  refine z_iast (D := (dC, dI)) hx hb hK hP hD hS 1 0 rfl rfl ((4 * j) + 2) (rfl) (by omega) (by omega) (f' := menOf (up2 σ 3 j (nI 0))) (menW σ j 2 (by decide) _) dX3_dies_43 (fun H locs hP hD hS => ?_)
  have hP : va_P (dC, dI) vwCl ([bo bd (up2 σ 3 j (nI 0)) ξ tk sd kv hh, (bd 2, .inl (cI, 16, .inl (menOf (up2 σ 3 j (nI 0))))), (bd 3, .inl (cI, 30, .inl (rowsOf (up2 σ 3 j (nI 0)))))]) H := hP
  have hD : va_D A ([bo bd (up2 σ 3 j (nI 0)) ξ tk sd kv hh, (bd 2, .inl (cI, 16, .inl (menOf (up2 σ 3 j (nI 0))))), (bd 3, .inl (cI, 30, .inl (rowsOf (up2 σ 3 j (nI 0)))))]) := hD
  refine lv_iconst (v := nI 0) hx hb dX3_dies_44 (by decide) ?_
  refine lv_istore (lv' := [(5, .int (nI 0)), (4, .int (σ 4 j)), (3, .int (lossF σ B j (heldF σ B (nI j)))), (2, .int (takenF σ B j (heldF σ B (nI j)))), (0, .ref (bd 0)), (1, .int (nI j))]) hx hb dX3_dies_45 hl (by decide) rfl (fun ls hl => ?_)
  suffices hlp47 : ∀ (nf : Nat) (k : Nat) (x47_5 : Int32) (ls : Array Slot) (H : Heap) (locs : List Loc), (k ≤ B) → x47_5 = nI k → va_P (dC, dI) vwCl ([bo bd (buryR (up2 σ 3 j 0) (takenF σ B j (heldF σ B (nI j))) (nI j) (nextF σ Hn j) k) ξ tk sd kv hh, (bd 2, .inl (cI, 16, .inl (menOf (buryR (up2 σ 3 j 0) (takenF σ B j (heldF σ B (nI j))) (nI j) (nextF σ Hn j) k)))), (bd 3, .inl (cI, 30, .inl (rowsOf (buryR (up2 σ 3 j 0) (takenF σ B j (heldF σ B (nI j))) (nI j) (nextF σ Hn j) k))))]) H → va_D A ([bo bd (buryR (up2 σ 3 j 0) (takenF σ B j (heldF σ B (nI j))) (nI j) (nextF σ Hn j) k) ξ tk sd kv hh, (bd 2, .inl (cI, 16, .inl (menOf (buryR (up2 σ 3 j 0) (takenF σ B j (heldF σ B (nI j))) (nI j) (nextF σ Hn j) k)))), (bd 3, .inl (cI, 30, .inl (rowsOf (buryR (up2 σ 3 j 0) (takenF σ B j (heldF σ B (nI j))) (nI j) (nextF σ Hn j) k))))]) → va_S A s.heap H locs → lv_has ls 6 [(5, .int x47_5), (4, .int (σ 4 j)), (3, .int (lossF σ B j (heldF σ B (nI j)))), (2, .int (takenF σ B j (heldF σ B (nI j)))), (0, .ref (bd 0)), (1, .int (nI j))] → B - k < nf → W p l e rm_c_X3_dies s m ([.ref (bd 0), .int (nI j)] : List Value).toArray below meth c H locs 0 0 Q (F0 m 47 ls []) by
    exact hlp47 ((B - 0) + 1) 0 (nI 0) ls _ _ (by omega) rfl hP hD hS (lv_sub hl [0, 1, 2, 3, 4, 5] rfl) (by omega)
  clear hP hD hS hl
  intro nf
  induction nf with
  | zero => intro k x47_5 ls H locs hk e47_5 hP hD hS hl hn; omega
  | succ nf ih47 =>
    intro k x47_5 ls H locs hk e47_5 hP hD hS hl hn
    subst e47_5
    have hk2 : Inv (buryR (up2 σ 3 j 0) (takenF σ B j (heldF σ B (nI j))) (nI j) (nextF σ Hn j) k) Hn B L C V M := (hI.alive0 j).bury (takenF σ B j (heldF σ B (nI j))) (nI j) (nextF σ Hn j) k
    obtain ⟨⟨kL, kC, kV, kM, kH, kB, -⟩, -⟩ := id hk2
    refine lv_iload hx hb dX3_dies_47 (lv_at hl 0 rfl) ?_
    refine lv_aload_n hx hb dX3_dies_49 rfl (lv_at hl 4 rfl) ?_
    refine va_get (D := (dC, dI)) (ci := 3) (v := .int (nI B)) (C := RX3) (T := TX3) (N := 24) hx hb hts hin3 hown hK hP 0 rfl rfl 10 (by decide) L79 (fun _ h9 => h9) (congrArg (fun z => some (Value.int z)) kB) dX3_dies_50 ?_
    refine z_icmp_ge (a := k) (b := B) (tgt := 128) hx hb (by omega) (by omega) dX3_dies_53 (by decide) (fun (c_53 : B ≤ k) => ?_) (fun (c_53 : k < B) => ?_)
    · skip
      refine lv_iload_n hx hb dX3_dies_128 rfl (lv_at hl 2 rfl) ?_
      have e9 : up2 (buryR (up2 σ 3 j 0) (takenF σ B j (heldF σ B (nI j))) (nI j) (nextF σ Hn j) k) 0 7 (σ 0 7 + lossF σ B j (heldF σ B (nI j))) = buryS σ Hn B j := by rw [show k = B by omega]; exact diesS_eq σ Hn B j
      have hP : va_P (dC, dI) vwCl ([bo bd (buryS σ Hn B j) ξ tk sd kv hh, (bd 2, .inl (cI, 16, .inl (menOf (buryS σ Hn B j)))), (bd 3, .inl (cI, 30, .inl (rowsOf (buryS σ Hn B j))))]) H := by rw [← e9]; exact hP
      have hD : va_D A ([bo bd (buryS σ Hn B j) ξ tk sd kv hh, (bd 2, .inl (cI, 16, .inl (menOf (buryS σ Hn B j)))), (bd 3, .inl (cI, 30, .inl (rowsOf (buryS σ Hn B j))))]) := by rw [← e9]; exact hD
      exact hq (lossF σ B j (heldF σ B (nI j))) (buryS σ Hn B j) _ _ 129 ls dX3_dies_129 (show (lossF σ B j (heldF σ B (nI j))) = lossF σ B j (heldF σ B (nI j)) ∧ (buryS σ Hn B j) = buryS σ Hn B j from ⟨rfl, rfl⟩) hP hD hS
    · skip
      refine lv_iload_n hx hb dX3_dies_56 rfl (lv_at hl 3 rfl) ?_
      refine lv_iload hx hb dX3_dies_57 (lv_at hl 0 rfl) ?_
      refine z_ishr (v := (takenF σ B j (heldF σ B (nI j))) >>> (nI k &&& 31)) hx hb dX3_dies_59 (rfl) ?_
      refine lv_iconst (v := nI 1) hx hb dX3_dies_60 (by decide) ?_
      refine z_iand (v := zin (takenF σ B j (heldF σ B (nI j))) k) hx hb dX3_dies_61 (rfl) ?_
      refine lv_iconst (v := nI 1) hx hb dX3_dies_62 (by decide) ?_
      refine lv_icmp_ne (tgt := 78) hx hb dX3_dies_63 (by decide) (fun (c_63 : ¬ (zin (takenF σ B j (heldF σ B (nI j))) k) = 1) => ?_) (fun (c_63 : (zin (takenF σ B j (heldF σ B (nI j))) k) = 1) => ?_)
      · skip
        refine lv_aload_n hx hb dX3_dies_78 rfl (lv_at hl 4 rfl) ?_
        refine va_get (D := (dC, dI)) (ci := 3) (v := .ref (bd 3)) (C := RX3) (T := TX3) (N := 24) hx hb hts hin3 hown hK hP 0 rfl rfl 12 (by decide) L16 (fun _ h9 => h9) rfl dX3_dies_79 ?_
        refine lv_iconst (v := nI 5) hx hb dX3_dies_82 (by decide) ?_
        refine lv_iload hx hb dX3_dies_83 (lv_at hl 0 rfl) ?_
        refine z_imul (v := nI (5 * k)) hx hb dX3_dies_85 (pk_mul _ _) ?_
        refine lv_iconst (v := nI 1) hx hb dX3_dies_86 (by decide) ?_
        refine z_iadd (v := nI ((5 * k) + 1)) hx hb dX3_dies_87 (nI_add _ _) ?_
        refine z_iald (D := (dC, dI)) hx hb hK hP 2 0 rfl rfl ((5 * k) + 1) (rfl) (by omega) (by omega) (v := σ 6 k) ((rowsR _ k 1 (by decide)).trans (buryR_own k k (Nat.le_refl _))) dX3_dies_88 ?_
        refine lv_iload_n hx hb dX3_dies_89 rfl (lv_at hl 5 rfl) ?_
        refine lv_icmp_ne (tgt := 122) hx hb dX3_dies_90 (by decide) (fun (c_90 : ¬ (σ 6 k) = (nI j)) => ?_) (fun (c_90 : (σ 6 k) = (nI j)) => ?_)
        · skip
          refine lv_iinc (v := nI (k + 1)) (lv' := [(5, .int (nI (k + 1))), (4, .int (σ 4 j)), (3, .int (lossF σ B j (heldF σ B (nI j)))), (2, .int (takenF σ B j (heldF σ B (nI j)))), (0, .ref (bd 0)), (1, .int (nI j))]) hx hb dX3_dies_122 hl (k := 0) rfl (nI_1 _) (by decide) rfl (fun ls hl => ?_)
          refine lv_goto (tgt := 47) hx hb dX3_dies_125 (by decide) ?_
          rw [show buryR (up2 σ 3 j 0) (takenF σ B j (heldF σ B (nI j))) (nI j) (nextF σ Hn j) k = buryR (up2 σ 3 j 0) (takenF σ B j (heldF σ B (nI j))) (nI j) (nextF σ Hn j) (k + 1) from buryR_n c_63 c_90] at hP hD
          exact ih47 (k + 1) (nI (k + 1)) ls _ _ (by omega) (show nI (k + 1) = nI (k + 1) from rfl) hP hD hS (lv_sub hl [0, 1, 2, 3, 4, 5] rfl) (by omega)
        · skip
          refine lv_aload_n hx hb dX3_dies_93 rfl (lv_at hl 4 rfl) ?_
          refine lv_iload hx hb dX3_dies_94 (lv_at hl 0 rfl) ?_
          refine lv_iload hx hb dX3_dies_96 (lv_at hl 1 rfl) ?_
          refine lv_iconst (v := (-1)) hx hb dX3_dies_98 (by decide) ?_
          refine lv_icmp_eq (tgt := 116) hx hb dX3_dies_99 (by decide) (fun (c_99 : (σ 4 j) = (-1)) => ?_) (fun (c_99 : ¬ ((σ 4 j) = (-1))) => ?_)
          · skip
            refine lv_iconst (v := (-1)) hx hb dX3_dies_116 (by decide) ?_
            refine lv_iconst (v := (-1)) hx hb dX3_dies_117 (by decide) ?_
            refine lv_iconst (v := (-1)) hx hb dX3_dies_118 (by decide) ?_
            refine z_callQv (As := [.int (nI k), .int (-1), .int (-1), .int (-1)]) (rest := []) ⟨hx, hb, hml, hown, hts⟩ (c_X3_lay l dC dI cI cZ bd (buryR (up2 σ 3 j 0) (takenF σ B j (heldF σ B (nI j))) (nI j) (nextF σ Hn j) k) ξ tk sd kv hh k (by omega) (-1) (-1) (-1) _) (cwV 4 hts gX3_dies_X3_lay rfl rfl rfl (by decide +kernel) ⟨Nat.le_of_ble_eq_true rfl, Nat.le_of_ble_eq_true rfl⟩) (fun _ _ _ _ q => q) (fun _ _ _ => trivial) hP hD hK hS hA [0, 1, 2] [] rfl rfl rfl rfl (by decide) (va_recv hK hP (ci := 3) (q0 := 0) rfl rfl) rfl hl.1 rfl (Nat.le_of_ble_eq_true rfl) ⟨Nat.le_of_ble_eq_true rfl, Nat.le_of_ble_eq_true rfl⟩ dX3_dies_119 (fun u H locs hr hP hD hS => ?_)
            obtain rfl := hr
            have hP : va_P (dC, dI) vwCl ([bo bd (layS (buryR (up2 σ 3 j 0) (takenF σ B j (heldF σ B (nI j))) (nI j) (nextF σ Hn j) k) k (-1) (-1) (-1)) ξ tk sd kv hh, (bd 2, .inl (cI, 16, .inl (menOf (layS (buryR (up2 σ 3 j 0) (takenF σ B j (heldF σ B (nI j))) (nI j) (nextF σ Hn j) k) k (-1) (-1) (-1))))), (bd 3, .inl (cI, 30, .inl (rowsOf (layS (buryR (up2 σ 3 j 0) (takenF σ B j (heldF σ B (nI j))) (nI j) (nextF σ Hn j) k) k (-1) (-1) (-1)))))]) H := hP
            have hD : va_D A ([bo bd (layS (buryR (up2 σ 3 j 0) (takenF σ B j (heldF σ B (nI j))) (nI j) (nextF σ Hn j) k) k (-1) (-1) (-1)) ξ tk sd kv hh, (bd 2, .inl (cI, 16, .inl (menOf (layS (buryR (up2 σ 3 j 0) (takenF σ B j (heldF σ B (nI j))) (nI j) (nextF σ Hn j) k) k (-1) (-1) (-1))))), (bd 3, .inl (cI, 30, .inl (rowsOf (layS (buryR (up2 σ 3 j 0) (takenF σ B j (heldF σ B (nI j))) (nI j) (nextF σ Hn j) k) k (-1) (-1) (-1)))))]) := hD
            refine lv_iinc (v := nI (k + 1)) (lv' := [(5, .int (nI (k + 1))), (4, .int (σ 4 j)), (3, .int (lossF σ B j (heldF σ B (nI j)))), (2, .int (takenF σ B j (heldF σ B (nI j)))), (0, .ref (bd 0)), (1, .int (nI j))]) hx hb dX3_dies_122 hl (k := 0) rfl (nI_1 _) (by decide) rfl (fun ls hl => ?_)
            refine lv_goto (tgt := 47) hx hb dX3_dies_125 (by decide) ?_
            rw [show layS (buryR (up2 σ 3 j 0) (takenF σ B j (heldF σ B (nI j))) (nI j) (nextF σ Hn j) k) k (-1) (-1) (-1) = buryR (up2 σ 3 j 0) (takenF σ B j (heldF σ B (nI j))) (nI j) (nextF σ Hn j) (k + 1) from (by rw [← buryR_o (σ := up2 σ 3 j 0) c_63 c_90, nextF_m1 jH c_99]; rfl)] at hP hD
            exact ih47 (k + 1) (nI (k + 1)) ls _ _ (by omega) (show nI (k + 1) = nI (k + 1) from rfl) hP hD hS (lv_sub hl [0, 1, 2, 3, 4, 5] rfl) (by omega)
          · skip
            obtain ⟨i, hi, hij, hie⟩ := (iHe j hj).resolve_left c_99
            have h3 : (buryR (up2 σ 3 j 0) (takenF σ B j (heldF σ B (nI j))) (nI j) (nextF σ Hn j) k) 3 i = σ 3 i := by rw [buryR_num 3 (Or.inl (by decide))]; show upd (σ 3) j 0 i = σ 3 i; unfold upd; rw [if_neg hij]
            refine lv_aload_n hx hb dX3_dies_102 rfl (lv_at hl 4 rfl) ?_
            refine lv_iload hx hb dX3_dies_103 (lv_at hl 1 rfl) ?_
            refine z_topi (v := nI i) (hie) ?_
            refine z_callV (As := [.int (nI i)]) (rest := [.int (nI k), .ref (bd 0)]) ⟨hx, hb, hml, hown, hts⟩ (c_X3_lives l dC dI cI cZ bd (buryR (up2 σ 3 j 0) (takenF σ B j (heldF σ B (nI j))) (nI j) (nextF σ Hn j) k) Hn B L C V M hk2 ξ tk sd kv hh i (by omega)) (cwV 1 hts gX3_dies_X3_lives rfl rfl rfl (by decide +kernel) ⟨Nat.le_of_ble_eq_true rfl, Nat.le_of_ble_eq_true rfl⟩) hP hK (va_recv hK hP (ci := 3) (q0 := 0) rfl rfl) rfl hl.1 rfl (Nat.le_of_ble_eq_true rfl) ⟨Nat.zero_le _, Nat.zero_le _⟩ dX3_dies_105 (fun r hr => ?_)
            obtain rfl : r = zb ((buryR (up2 σ 3 j 0) (takenF σ B j (heldF σ B (nI j))) (nI j) (nextF σ Hn j) k) 3 i = 1) := hr
            refine z_ifeq_b (P := (buryR (up2 σ 3 j 0) (takenF σ B j (heldF σ B (nI j))) (nI j) (nextF σ Hn j) k) 3 i = 1) (tgt := 116) hx hb dX3_dies_108 (by decide) (fun (c_108 : ¬ ((buryR (up2 σ 3 j 0) (takenF σ B j (heldF σ B (nI j))) (nI j) (nextF σ Hn j) k) 3 i = 1)) => ?_) (fun (c_108 : (buryR (up2 σ 3 j 0) (takenF σ B j (heldF σ B (nI j))) (nI j) (nextF σ Hn j) k) 3 i = 1) => ?_)
            · skip
              refine lv_iconst (v := (-1)) hx hb dX3_dies_116 (by decide) ?_
              refine lv_iconst (v := (-1)) hx hb dX3_dies_117 (by decide) ?_
              refine lv_iconst (v := (-1)) hx hb dX3_dies_118 (by decide) ?_
              refine z_callQv (As := [.int (nI k), .int (-1), .int (-1), .int (-1)]) (rest := []) ⟨hx, hb, hml, hown, hts⟩ (c_X3_lay l dC dI cI cZ bd (buryR (up2 σ 3 j 0) (takenF σ B j (heldF σ B (nI j))) (nI j) (nextF σ Hn j) k) ξ tk sd kv hh k (by omega) (-1) (-1) (-1) _) (cwV 4 hts gX3_dies_X3_lay rfl rfl rfl (by decide +kernel) ⟨Nat.le_of_ble_eq_true rfl, Nat.le_of_ble_eq_true rfl⟩) (fun _ _ _ _ q => q) (fun _ _ _ => trivial) hP hD hK hS hA [0, 1, 2] [] rfl rfl rfl rfl (by decide) (va_recv hK hP (ci := 3) (q0 := 0) rfl rfl) rfl hl.1 rfl (Nat.le_of_ble_eq_true rfl) ⟨Nat.le_of_ble_eq_true rfl, Nat.le_of_ble_eq_true rfl⟩ dX3_dies_119 (fun u H locs hr hP hD hS => ?_)
              obtain rfl := hr
              have hP : va_P (dC, dI) vwCl ([bo bd (layS (buryR (up2 σ 3 j 0) (takenF σ B j (heldF σ B (nI j))) (nI j) (nextF σ Hn j) k) k (-1) (-1) (-1)) ξ tk sd kv hh, (bd 2, .inl (cI, 16, .inl (menOf (layS (buryR (up2 σ 3 j 0) (takenF σ B j (heldF σ B (nI j))) (nI j) (nextF σ Hn j) k) k (-1) (-1) (-1))))), (bd 3, .inl (cI, 30, .inl (rowsOf (layS (buryR (up2 σ 3 j 0) (takenF σ B j (heldF σ B (nI j))) (nI j) (nextF σ Hn j) k) k (-1) (-1) (-1)))))]) H := hP
              have hD : va_D A ([bo bd (layS (buryR (up2 σ 3 j 0) (takenF σ B j (heldF σ B (nI j))) (nI j) (nextF σ Hn j) k) k (-1) (-1) (-1)) ξ tk sd kv hh, (bd 2, .inl (cI, 16, .inl (menOf (layS (buryR (up2 σ 3 j 0) (takenF σ B j (heldF σ B (nI j))) (nI j) (nextF σ Hn j) k) k (-1) (-1) (-1))))), (bd 3, .inl (cI, 30, .inl (rowsOf (layS (buryR (up2 σ 3 j 0) (takenF σ B j (heldF σ B (nI j))) (nI j) (nextF σ Hn j) k) k (-1) (-1) (-1)))))]) := hD
              refine lv_iinc (v := nI (k + 1)) (lv' := [(5, .int (nI (k + 1))), (4, .int (σ 4 j)), (3, .int (lossF σ B j (heldF σ B (nI j)))), (2, .int (takenF σ B j (heldF σ B (nI j)))), (0, .ref (bd 0)), (1, .int (nI j))]) hx hb dX3_dies_122 hl (k := 0) rfl (nI_1 _) (by decide) rfl (fun ls hl => ?_)
              refine lv_goto (tgt := 47) hx hb dX3_dies_125 (by decide) ?_
              rw [show layS (buryR (up2 σ 3 j 0) (takenF σ B j (heldF σ B (nI j))) (nI j) (nextF σ Hn j) k) k (-1) (-1) (-1) = buryR (up2 σ 3 j 0) (takenF σ B j (heldF σ B (nI j))) (nI j) (nextF σ Hn j) (k + 1) from (by rw [← buryR_o (σ := up2 σ 3 j 0) c_63 c_90, nextF_n (fun z => c_108 (by rw [hie] at z; rw [h3]; exact live_1 hi jH z))]; rfl)] at hP hD
              exact ih47 (k + 1) (nI (k + 1)) ls _ _ (by omega) (show nI (k + 1) = nI (k + 1) from rfl) hP hD hS (lv_sub hl [0, 1, 2, 3, 4, 5] rfl) (by omega)
            · skip
              refine lv_iload hx hb dX3_dies_111 (lv_at hl 1 rfl) ?_
              refine lv_goto (tgt := 117) hx hb dX3_dies_113 (by decide) ?_
              refine lv_iconst (v := (-1)) hx hb dX3_dies_117 (by decide) ?_
              refine lv_iconst (v := (-1)) hx hb dX3_dies_118 (by decide) ?_
              refine z_callQv (As := [.int (nI k), .int (σ 4 j), .int (-1), .int (-1)]) (rest := []) ⟨hx, hb, hml, hown, hts⟩ (c_X3_lay l dC dI cI cZ bd (buryR (up2 σ 3 j 0) (takenF σ B j (heldF σ B (nI j))) (nI j) (nextF σ Hn j) k) ξ tk sd kv hh k (by omega) (σ 4 j) (-1) (-1) _) (cwV 4 hts gX3_dies_X3_lay rfl rfl rfl (by decide +kernel) ⟨Nat.le_of_ble_eq_true rfl, Nat.le_of_ble_eq_true rfl⟩) (fun _ _ _ _ q => q) (fun _ _ _ => trivial) hP hD hK hS hA [0, 1, 2] [] rfl rfl rfl rfl (by decide) (va_recv hK hP (ci := 3) (q0 := 0) rfl rfl) rfl hl.1 rfl (Nat.le_of_ble_eq_true rfl) ⟨Nat.le_of_ble_eq_true rfl, Nat.le_of_ble_eq_true rfl⟩ dX3_dies_119 (fun u H locs hr hP hD hS => ?_)
              obtain rfl := hr
              have hP : va_P (dC, dI) vwCl ([bo bd (layS (buryR (up2 σ 3 j 0) (takenF σ B j (heldF σ B (nI j))) (nI j) (nextF σ Hn j) k) k (σ 4 j) (-1) (-1)) ξ tk sd kv hh, (bd 2, .inl (cI, 16, .inl (menOf (layS (buryR (up2 σ 3 j 0) (takenF σ B j (heldF σ B (nI j))) (nI j) (nextF σ Hn j) k) k (σ 4 j) (-1) (-1))))), (bd 3, .inl (cI, 30, .inl (rowsOf (layS (buryR (up2 σ 3 j 0) (takenF σ B j (heldF σ B (nI j))) (nI j) (nextF σ Hn j) k) k (σ 4 j) (-1) (-1)))))]) H := hP
              have hD : va_D A ([bo bd (layS (buryR (up2 σ 3 j 0) (takenF σ B j (heldF σ B (nI j))) (nI j) (nextF σ Hn j) k) k (σ 4 j) (-1) (-1)) ξ tk sd kv hh, (bd 2, .inl (cI, 16, .inl (menOf (layS (buryR (up2 σ 3 j 0) (takenF σ B j (heldF σ B (nI j))) (nI j) (nextF σ Hn j) k) k (σ 4 j) (-1) (-1))))), (bd 3, .inl (cI, 30, .inl (rowsOf (layS (buryR (up2 σ 3 j 0) (takenF σ B j (heldF σ B (nI j))) (nI j) (nextF σ Hn j) k) k (σ 4 j) (-1) (-1)))))]) := hD
              refine lv_iinc (v := nI (k + 1)) (lv' := [(5, .int (nI (k + 1))), (4, .int (σ 4 j)), (3, .int (lossF σ B j (heldF σ B (nI j)))), (2, .int (takenF σ B j (heldF σ B (nI j)))), (0, .ref (bd 0)), (1, .int (nI j))]) hx hb dX3_dies_122 hl (k := 0) rfl (nI_1 _) (by decide) rfl (fun ls hl => ?_)
              refine lv_goto (tgt := 47) hx hb dX3_dies_125 (by decide) ?_
              rw [show layS (buryR (up2 σ 3 j 0) (takenF σ B j (heldF σ B (nI j))) (nI j) (nextF σ Hn j) k) k (σ 4 j) (-1) (-1) = buryR (up2 σ 3 j 0) (takenF σ B j (heldF σ B (nI j))) (nI j) (nextF σ Hn j) (k + 1) from (by rw [← buryR_o (σ := up2 σ 3 j 0) c_63 c_90, nextF_y (by rw [hie]; exact live_yes hi (by rw [← h3]; exact c_108))]; rfl)] at hP hD
              exact ih47 (k + 1) (nI (k + 1)) ls _ _ (by omega) (show nI (k + 1) = nI (k + 1) from rfl) hP hD hS (lv_sub hl [0, 1, 2, 3, 4, 5] rfl) (by omega)
      · skip
        refine lv_aload_n hx hb dX3_dies_66 rfl (lv_at hl 4 rfl) ?_
        refine lv_iload hx hb dX3_dies_67 (lv_at hl 0 rfl) ?_
        refine lv_iconst (v := (-1)) hx hb dX3_dies_69 (by decide) ?_
        refine lv_iconst (v := (-1)) hx hb dX3_dies_70 (by decide) ?_
        refine lv_iconst (v := (-1)) hx hb dX3_dies_71 (by decide) ?_
        refine z_callQv (As := [.int (nI k), .int (-1), .int (-1), .int (-1)]) (rest := []) ⟨hx, hb, hml, hown, hts⟩ (c_X3_lay l dC dI cI cZ bd (buryR (up2 σ 3 j 0) (takenF σ B j (heldF σ B (nI j))) (nI j) (nextF σ Hn j) k) ξ tk sd kv hh k (by omega) (-1) (-1) (-1) _) (cwV 4 hts gX3_dies_X3_lay rfl rfl rfl (by decide +kernel) ⟨Nat.le_of_ble_eq_true rfl, Nat.le_of_ble_eq_true rfl⟩) (fun _ _ _ _ q => q) (fun _ _ _ => trivial) hP hD hK hS hA [0, 1, 2] [] rfl rfl rfl rfl (by decide) (va_recv hK hP (ci := 3) (q0 := 0) rfl rfl) rfl hl.1 rfl (Nat.le_of_ble_eq_true rfl) ⟨Nat.le_of_ble_eq_true rfl, Nat.le_of_ble_eq_true rfl⟩ dX3_dies_72 (fun u H locs hr hP hD hS => ?_)
        obtain rfl := hr
        have hP : va_P (dC, dI) vwCl ([bo bd (layS (buryR (up2 σ 3 j 0) (takenF σ B j (heldF σ B (nI j))) (nI j) (nextF σ Hn j) k) k (-1) (-1) (-1)) ξ tk sd kv hh, (bd 2, .inl (cI, 16, .inl (menOf (layS (buryR (up2 σ 3 j 0) (takenF σ B j (heldF σ B (nI j))) (nI j) (nextF σ Hn j) k) k (-1) (-1) (-1))))), (bd 3, .inl (cI, 30, .inl (rowsOf (layS (buryR (up2 σ 3 j 0) (takenF σ B j (heldF σ B (nI j))) (nI j) (nextF σ Hn j) k) k (-1) (-1) (-1)))))]) H := hP
        have hD : va_D A ([bo bd (layS (buryR (up2 σ 3 j 0) (takenF σ B j (heldF σ B (nI j))) (nI j) (nextF σ Hn j) k) k (-1) (-1) (-1)) ξ tk sd kv hh, (bd 2, .inl (cI, 16, .inl (menOf (layS (buryR (up2 σ 3 j 0) (takenF σ B j (heldF σ B (nI j))) (nI j) (nextF σ Hn j) k) k (-1) (-1) (-1))))), (bd 3, .inl (cI, 30, .inl (rowsOf (layS (buryR (up2 σ 3 j 0) (takenF σ B j (heldF σ B (nI j))) (nI j) (nextF σ Hn j) k) k (-1) (-1) (-1)))))]) := hD
        refine lv_goto (tgt := 122) hx hb dX3_dies_75 (by decide) ?_
        refine lv_iinc (v := nI (k + 1)) (lv' := [(5, .int (nI (k + 1))), (4, .int (σ 4 j)), (3, .int (lossF σ B j (heldF σ B (nI j)))), (2, .int (takenF σ B j (heldF σ B (nI j)))), (0, .ref (bd 0)), (1, .int (nI j))]) hx hb dX3_dies_122 hl (k := 0) rfl (nI_1 _) (by decide) rfl (fun ls hl => ?_)
        refine lv_goto (tgt := 47) hx hb dX3_dies_125 (by decide) ?_
        rw [show layS (buryR (up2 σ 3 j 0) (takenF σ B j (heldF σ B (nI j))) (nI j) (nextF σ Hn j) k) k (-1) (-1) (-1) = buryR (up2 σ 3 j 0) (takenF σ B j (heldF σ B (nI j))) (nI j) (nextF σ Hn j) (k + 1) from buryR_t c_63] at hP hD
        exact ih47 (k + 1) (nI (k + 1)) ls _ _ (by omega) (show nI (k + 1) = nI (k + 1) from rfl) hP hD hS (lv_sub hl [0, 1, 2, 3, 4, 5] rfl) (by omega)
abbrev rm_c_X3_holder : Room := { frames := 1, cells := 0, slots := 0, locals := 25 }
set_option maxHeartbeats 4000000 in
set_option maxRecDepth 100000 in
theorem c_X3_holder (l : Launch) (dC : Nat → ClassId) (dI : Nat → Nat → Nat) (cI cZ : ClassId) (bd : Nat → Nat) (σ : St) (Hn B L C V M : Nat) (hI : Inv σ Hn B L C V M) (ξ : Nat → Int32) (sd : Int32) (kv : Nat → Int32) (hh : Int64) (kd d : Int32) (sz : Nat) : Met l yX3_holder wsX3_holder rm_c_X3_holder (va_Pc [.ref (bd 0), .int kd, .int d] (zPre (dC, dI) vwCl (tyIZ cI cZ) ([bo bd σ ξ (σ 0 7) sd kv hh, (bd 2, .inl (cI, 16, .inl (menOf σ))), (bd 3, .inl (cI, 30, .inl (rowsOf σ)))]) sz (fun _ => True))) (va_Qi (fun (r : Int32) (u : St) => r = (holderF σ Hn kd d).1 ∧ u = (holderF σ Hn kd d).2) (zPost (dC, dI) vwCl (tyIZ cI cZ) ([bo bd σ ξ (σ 0 7) sd kv hh, (bd 2, .inl (cI, 16, .inl (menOf σ))), (bd 3, .inl (cI, 30, .inl (rowsOf σ)))]) sz (fun (u : St) => [bo bd u ξ (u 0 7) sd kv hh, (bd 2, .inl (cI, 16, .inl (menOf u))), (bd 3, .inl (cI, 30, .inl (rowsOf u)))])) (va_A ([bo bd σ ξ (σ 0 7) sd kv hh, (bd 2, .inl (cI, 16, .inl (menOf σ))), (bd 3, .inl (cI, 30, .inl (rowsOf σ)))]) sz)) 0 0 (va_A ([bo bd σ ξ (σ 0 7) sd kv hh, (bd 2, .inl (cI, 16, .inl (menOf σ))), (bd 3, .inl (cI, 30, .inl (rowsOf σ)))]) sz) := by
  refine z_impI (cc := cX3_holder) (maxL := 3) (av := [.ref (bd 0), .int kd, .int d]) (by decide) rfl (Nat.le_of_ble_eq_true rfl) ?_
  intro p e s m below meth c Q A ls hx hb hml hown hts hBs hP hK hD hS hA hAB hq hl
  have hown : s.vm.findClass RX3 = some m.cls := hown
  have hin3 : ∀ w ∈ wsX30, w ∈ wsX3_holder := fun _ h => List.mem_cons_of_mem _ (List.mem_append_right _ h)
  have L82 := hts (.constantLong RX3 82 (4)) (List.mem_of_getElem? (i := 1) rfl)
  have L60 := hts (.constantLong RX3 60 (9)) (List.mem_of_getElem? (i := 2) rfl)
  have L76 := hts (.fieldLink RX3 76 "BestBeastModel" "holders" "I") (List.mem_of_getElem? (i := 3) rfl)
  have L13 := hts (.fieldLink RX3 13 "BestBeastModel" "men" "[I") (List.mem_of_getElem? (i := 4) rfl)
  obtain ⟨⟨iL, iC, iV, iM, iH, iB, jL, jC, jV, jM, jH, jB⟩, iK, iDe, iAl, iHe, iWo, iO1, iO2⟩ := id hI
  have hl : lv_has ls 3 [(0, .ref (bd 0)), (1, .int kd), (2, .int d)] := hl
  refine lv_iload_n hx hb dX3_holder_0 rfl (lv_at hl 1 rfl) ?_
  refine lv_i2l (v := kd.toInt64) hx hb dX3_holder_1 (rfl) ?_
  refine lv_lconst (v := 0) hx hb dX3_holder_2 (by decide) ?_
  refine lv_ldc2 hx hb hown L82 dX3_holder_3 ?_
  refine z_callS (As := [.long kd.toInt64, .long 0, .long 4]) (rest := []) ⟨hx, hb, hml, hown, hts⟩ (c_X3_in l kd.toInt64 0 4) (va_cwS 3 hts gX3_holder_X3_in rfl rfl rfl (by decide +kernel) ⟨Nat.le_of_ble_eq_true rfl, Nat.le_of_ble_eq_true rfl⟩) rfl hl.1 rfl (Nat.le_of_ble_eq_true rfl) ⟨Nat.zero_le _, Nat.zero_le _⟩ dX3_holder_6 (fun r hr => ?_)
  obtain rfl : r = zb (0 ≤ kd.toInt64 ∧ kd.toInt64 ≤ 4) := hr
  refine z_topi (v := zb (inP 0 4 kd)) (zb_iff (in64 (a := 0) (b := 4) (by decide) (by decide))) ?_
  refine z_ifeq_b (P := inP 0 4 kd) (tgt := 24) hx hb dX3_holder_9 (by decide) (fun (c_9 : ¬ (inP 0 4 kd)) => ?_) (fun (c_9 : inP 0 4 kd) => ?_)
  · skip
    refine lv_bipush (v := (-102)) hx hb dX3_holder_24 (by decide) ?_
    exact hq (-102) σ _ _ 26 ls dX3_holder_26 (show (-102) = (holderF σ Hn kd d).1 ∧ σ = (holderF σ Hn kd d).2 from ⟨(by unfold holderF; rw [zif_f (fun z => c_9 z.1)]), (by unfold holderF; rw [zif_f (fun z => c_9 z.1)])⟩) hP hD hS
  · skip
    refine lv_iload_n hx hb dX3_holder_12 rfl (lv_at hl 2 rfl) ?_
    refine lv_i2l (v := d.toInt64) hx hb dX3_holder_13 (rfl) ?_
    refine lv_lconst (v := 0) hx hb dX3_holder_14 (by decide) ?_
    refine lv_ldc2 hx hb hown L60 dX3_holder_15 ?_
    refine z_callS (As := [.long d.toInt64, .long 0, .long 9]) (rest := []) ⟨hx, hb, hml, hown, hts⟩ (c_X3_in l d.toInt64 0 9) (va_cwS 3 hts gX3_holder_X3_in rfl rfl rfl (by decide +kernel) ⟨Nat.le_of_ble_eq_true rfl, Nat.le_of_ble_eq_true rfl⟩) rfl hl.1 rfl (Nat.le_of_ble_eq_true rfl) ⟨Nat.zero_le _, Nat.zero_le _⟩ dX3_holder_18 (fun r hr => ?_)
    obtain rfl : r = zb (0 ≤ d.toInt64 ∧ d.toInt64 ≤ 9) := hr
    refine z_topi (v := zb (inP 0 9 d)) (zb_iff (in64 (a := 0) (b := 9) (by decide) (by decide))) ?_
    refine z_ifne_b (P := inP 0 9 d) (tgt := 27) hx hb dX3_holder_21 (by decide) (fun (c_21 : inP 0 9 d) => ?_) (fun (c_21 : ¬ (inP 0 9 d)) => ?_)
    · skip
      refine lv_aload_n hx hb dX3_holder_27 rfl (lv_at hl 0 rfl) ?_
      refine va_get (D := (dC, dI)) (ci := 3) (v := .int (nI Hn)) (C := RX3) (T := TX3) (N := 24) hx hb hts hin3 hown hK hP 0 rfl rfl 9 (by decide) L76 (fun _ h9 => h9) (congrArg (fun z => some (Value.int z)) iH) dX3_holder_28 ?_
      refine lv_iconst (v := nI 4) hx hb dX3_holder_31 (by decide) ?_
      refine z_icmp_ne (a := Hn) (b := 4) (tgt := 38) hx hb (by omega) (by omega) dX3_holder_32 (by decide) (fun (c_32 : Hn ≠ 4) => ?_) (fun (c_32 : Hn = 4) => ?_)
      · skip
        refine lv_aload_n hx hb dX3_holder_38 rfl (lv_at hl 0 rfl) ?_
        refine va_get (D := (dC, dI)) (ci := 3) (v := .ref (bd 2)) (C := RX3) (T := TX3) (N := 24) hx hb hts hin3 hown hK hP 0 rfl rfl 11 (by decide) L13 (fun _ h9 => h9) rfl dX3_holder_39 ?_
        refine lv_iconst (v := nI 4) hx hb dX3_holder_42 (by decide) ?_
        refine lv_aload_n hx hb dX3_holder_43 rfl (lv_at hl 0 rfl) ?_
        refine va_get (D := (dC, dI)) (ci := 3) (v := .int (nI Hn)) (C := RX3) (T := TX3) (N := 24) hx hb hts hin3 hown hK hP 0 rfl rfl 9 (by decide) L76 (fun _ h9 => h9) (congrArg (fun z => some (Value.int z)) iH) dX3_holder_44 ?_
        refine z_imul (v := nI (4 * Hn)) hx hb dX3_holder_47 (pk_mul _ _) ?_
        refine lv_iload_n hx hb dX3_holder_48 rfl (lv_at hl 1 rfl) ?_
        refine z_iast (D := (dC, dI)) hx hb hK hP hD hS 1 0 rfl rfl (4 * Hn) (rfl) (by omega) (by omega) (f' := menOf (up2 σ 1 Hn kd)) (menW σ Hn 0 (by decide) _) dX3_holder_49 (fun H locs hP hD hS => ?_)
        have hP : va_P (dC, dI) vwCl ([bo bd (up2 σ 1 Hn kd) ξ (σ 0 7) sd kv hh, (bd 2, .inl (cI, 16, .inl (menOf (up2 σ 1 Hn kd)))), (bd 3, .inl (cI, 30, .inl (rowsOf (up2 σ 1 Hn kd))))]) H := hP
        have hD : va_D A ([bo bd (up2 σ 1 Hn kd) ξ (σ 0 7) sd kv hh, (bd 2, .inl (cI, 16, .inl (menOf (up2 σ 1 Hn kd)))), (bd 3, .inl (cI, 30, .inl (rowsOf (up2 σ 1 Hn kd))))]) := hD
        refine lv_aload_n hx hb dX3_holder_50 rfl (lv_at hl 0 rfl) ?_
        refine va_get (D := (dC, dI)) (ci := 3) (v := .ref (bd 2)) (C := RX3) (T := TX3) (N := 24) hx hb hts hin3 hown hK hP 0 rfl rfl 11 (by decide) L13 (fun _ h9 => h9) rfl dX3_holder_51 ?_
        refine lv_iconst (v := nI 4) hx hb dX3_holder_54 (by decide) ?_
        refine lv_aload_n hx hb dX3_holder_55 rfl (lv_at hl 0 rfl) ?_
        refine va_get (D := (dC, dI)) (ci := 3) (v := .int (nI Hn)) (C := RX3) (T := TX3) (N := 24) hx hb hts hin3 hown hK hP 0 rfl rfl 9 (by decide) L76 (fun _ h9 => h9) (congrArg (fun z => some (Value.int z)) iH) dX3_holder_56 ?_
        refine z_imul (v := nI (4 * Hn)) hx hb dX3_holder_59 (pk_mul _ _) ?_
        refine lv_iconst (v := nI 1) hx hb dX3_holder_60 (by decide) ?_
        refine z_iadd (v := nI ((4 * Hn) + 1)) hx hb dX3_holder_61 (nI_add _ _) ?_
        refine lv_iload_n hx hb dX3_holder_62 rfl (lv_at hl 2 rfl) ?_
        refine z_iast (D := (dC, dI)) hx hb hK hP hD hS 1 0 rfl rfl ((4 * Hn) + 1) (rfl) (by omega) (by omega) (f' := menOf (up2 (up2 σ 1 Hn kd) 2 Hn d)) (menW (up2 σ 1 Hn kd) Hn 1 (by decide) _) dX3_holder_63 (fun H locs hP hD hS => ?_)
        have hP : va_P (dC, dI) vwCl ([bo bd (up2 (up2 σ 1 Hn kd) 2 Hn d) ξ (σ 0 7) sd kv hh, (bd 2, .inl (cI, 16, .inl (menOf (up2 (up2 σ 1 Hn kd) 2 Hn d)))), (bd 3, .inl (cI, 30, .inl (rowsOf (up2 (up2 σ 1 Hn kd) 2 Hn d))))]) H := hP
        have hD : va_D A ([bo bd (up2 (up2 σ 1 Hn kd) 2 Hn d) ξ (σ 0 7) sd kv hh, (bd 2, .inl (cI, 16, .inl (menOf (up2 (up2 σ 1 Hn kd) 2 Hn d)))), (bd 3, .inl (cI, 30, .inl (rowsOf (up2 (up2 σ 1 Hn kd) 2 Hn d))))]) := hD
        refine lv_aload_n hx hb dX3_holder_64 rfl (lv_at hl 0 rfl) ?_
        refine va_get (D := (dC, dI)) (ci := 3) (v := .ref (bd 2)) (C := RX3) (T := TX3) (N := 24) hx hb hts hin3 hown hK hP 0 rfl rfl 11 (by decide) L13 (fun _ h9 => h9) rfl dX3_holder_65 ?_
        refine lv_iconst (v := nI 4) hx hb dX3_holder_68 (by decide) ?_
        refine lv_aload_n hx hb dX3_holder_69 rfl (lv_at hl 0 rfl) ?_
        refine va_get (D := (dC, dI)) (ci := 3) (v := .int (nI Hn)) (C := RX3) (T := TX3) (N := 24) hx hb hts hin3 hown hK hP 0 rfl rfl 9 (by decide) L76 (fun _ h9 => h9) (congrArg (fun z => some (Value.int z)) iH) dX3_holder_70 ?_
        refine z_imul (v := nI (4 * Hn)) hx hb dX3_holder_73 (pk_mul _ _) ?_
        refine lv_iconst (v := nI 2) hx hb dX3_holder_74 (by decide) ?_
        refine z_iadd (v := nI ((4 * Hn) + 2)) hx hb dX3_holder_75 (nI_add _ _) ?_
        refine lv_iconst (v := nI 1) hx hb dX3_holder_76 (by decide) ?_
        refine z_iast (D := (dC, dI)) hx hb hK hP hD hS 1 0 rfl rfl ((4 * Hn) + 2) (rfl) (by omega) (by omega) (f' := menOf (up2 (up2 (up2 σ 1 Hn kd) 2 Hn d) 3 Hn (nI 1))) (menW (up2 (up2 σ 1 Hn kd) 2 Hn d) Hn 2 (by decide) _) dX3_holder_77 (fun H locs hP hD hS => ?_)
        have hP : va_P (dC, dI) vwCl ([bo bd (up2 (up2 (up2 σ 1 Hn kd) 2 Hn d) 3 Hn (nI 1)) ξ (σ 0 7) sd kv hh, (bd 2, .inl (cI, 16, .inl (menOf (up2 (up2 (up2 σ 1 Hn kd) 2 Hn d) 3 Hn (nI 1))))), (bd 3, .inl (cI, 30, .inl (rowsOf (up2 (up2 (up2 σ 1 Hn kd) 2 Hn d) 3 Hn (nI 1)))))]) H := hP
        have hD : va_D A ([bo bd (up2 (up2 (up2 σ 1 Hn kd) 2 Hn d) 3 Hn (nI 1)) ξ (σ 0 7) sd kv hh, (bd 2, .inl (cI, 16, .inl (menOf (up2 (up2 (up2 σ 1 Hn kd) 2 Hn d) 3 Hn (nI 1))))), (bd 3, .inl (cI, 30, .inl (rowsOf (up2 (up2 (up2 σ 1 Hn kd) 2 Hn d) 3 Hn (nI 1)))))]) := hD
        refine lv_aload_n hx hb dX3_holder_78 rfl (lv_at hl 0 rfl) ?_
        refine va_get (D := (dC, dI)) (ci := 3) (v := .ref (bd 2)) (C := RX3) (T := TX3) (N := 24) hx hb hts hin3 hown hK hP 0 rfl rfl 11 (by decide) L13 (fun _ h9 => h9) rfl dX3_holder_79 ?_
        refine lv_iconst (v := nI 4) hx hb dX3_holder_82 (by decide) ?_
        refine lv_aload_n hx hb dX3_holder_83 rfl (lv_at hl 0 rfl) ?_
        refine va_get (D := (dC, dI)) (ci := 3) (v := .int (nI Hn)) (C := RX3) (T := TX3) (N := 24) hx hb hts hin3 hown hK hP 0 rfl rfl 9 (by decide) L76 (fun _ h9 => h9) (congrArg (fun z => some (Value.int z)) iH) dX3_holder_84 ?_
        refine z_imul (v := nI (4 * Hn)) hx hb dX3_holder_87 (pk_mul _ _) ?_
        refine lv_iconst (v := nI 3) hx hb dX3_holder_88 (by decide) ?_
        refine z_iadd (v := nI ((4 * Hn) + 3)) hx hb dX3_holder_89 (nI_add _ _) ?_
        refine lv_iconst (v := (-1)) hx hb dX3_holder_90 (by decide) ?_
        refine z_iast (D := (dC, dI)) hx hb hK hP hD hS 1 0 rfl rfl ((4 * Hn) + 3) (rfl) (by omega) (by omega) (f' := menOf (up2 (up2 (up2 (up2 σ 1 Hn kd) 2 Hn d) 3 Hn (nI 1)) 4 Hn (-1))) (menW (up2 (up2 (up2 σ 1 Hn kd) 2 Hn d) 3 Hn (nI 1)) Hn 3 (by decide) _) dX3_holder_91 (fun H locs hP hD hS => ?_)
        have hP : va_P (dC, dI) vwCl ([bo bd (up2 (up2 (up2 (up2 σ 1 Hn kd) 2 Hn d) 3 Hn (nI 1)) 4 Hn (-1)) ξ (σ 0 7) sd kv hh, (bd 2, .inl (cI, 16, .inl (menOf (up2 (up2 (up2 (up2 σ 1 Hn kd) 2 Hn d) 3 Hn (nI 1)) 4 Hn (-1))))), (bd 3, .inl (cI, 30, .inl (rowsOf (up2 (up2 (up2 (up2 σ 1 Hn kd) 2 Hn d) 3 Hn (nI 1)) 4 Hn (-1)))))]) H := hP
        have hD : va_D A ([bo bd (up2 (up2 (up2 (up2 σ 1 Hn kd) 2 Hn d) 3 Hn (nI 1)) 4 Hn (-1)) ξ (σ 0 7) sd kv hh, (bd 2, .inl (cI, 16, .inl (menOf (up2 (up2 (up2 (up2 σ 1 Hn kd) 2 Hn d) 3 Hn (nI 1)) 4 Hn (-1))))), (bd 3, .inl (cI, 30, .inl (rowsOf (up2 (up2 (up2 (up2 σ 1 Hn kd) 2 Hn d) 3 Hn (nI 1)) 4 Hn (-1)))))]) := hD
        refine lv_aload_n hx hb dX3_holder_92 rfl (lv_at hl 0 rfl) ?_
        refine lv_dup hx hb dX3_holder_93 rfl ?_
        refine va_get (D := (dC, dI)) (ci := 3) (v := .int (nI Hn)) (C := RX3) (T := TX3) (N := 24) hx hb hts hin3 hown hK hP 0 rfl rfl 9 (by decide) L76 (fun _ h9 => h9) (congrArg (fun z => some (Value.int z)) iH) dX3_holder_94 ?_
        refine lv_iconst (v := nI 1) hx hb dX3_holder_97 (by decide) ?_
        refine z_iadd (v := nI (Hn + 1)) hx hb dX3_holder_98 (nI_add _ _) ?_
        refine va_put (D := (dC, dI)) (ci := 3) (v := .int (nI (Hn + 1))) (ty := .int) (C := RX3) (T := TX3) (N := 24) hx hb hts hin3 tyX3 tyX3_ok nmX3 hown hK hP hD hS 0 rfl rfl 9 (by decide) L76 (fun _ h9 => h9) rfl (by decide +kernel) rfl rfl (Nat.le_of_ble_eq_true rfl) dX3_holder_99 (fun H locs hP hD hS => ?_)
        have hP : va_P (dC, dI) vwCl ([bo bd (up2 (up2 (up2 (up2 (up2 σ 1 Hn kd) 2 Hn d) 3 Hn (nI 1)) 4 Hn (-1)) 0 4 (nI (Hn + 1))) ξ (σ 0 7) sd kv hh, (bd 2, .inl (cI, 16, .inl (menOf (up2 (up2 (up2 (up2 (up2 σ 1 Hn kd) 2 Hn d) 3 Hn (nI 1)) 4 Hn (-1)) 0 4 (nI (Hn + 1)))))), (bd 3, .inl (cI, 30, .inl (rowsOf (up2 (up2 (up2 (up2 (up2 σ 1 Hn kd) 2 Hn d) 3 Hn (nI 1)) 4 Hn (-1)) 0 4 (nI (Hn + 1))))))]) H := hP
        have hD : va_D A ([bo bd (up2 (up2 (up2 (up2 (up2 σ 1 Hn kd) 2 Hn d) 3 Hn (nI 1)) 4 Hn (-1)) 0 4 (nI (Hn + 1))) ξ (σ 0 7) sd kv hh, (bd 2, .inl (cI, 16, .inl (menOf (up2 (up2 (up2 (up2 (up2 σ 1 Hn kd) 2 Hn d) 3 Hn (nI 1)) 4 Hn (-1)) 0 4 (nI (Hn + 1)))))), (bd 3, .inl (cI, 30, .inl (rowsOf (up2 (up2 (up2 (up2 (up2 σ 1 Hn kd) 2 Hn d) 3 Hn (nI 1)) 4 Hn (-1)) 0 4 (nI (Hn + 1))))))]) := hD
        refine lv_aload_n hx hb dX3_holder_102 rfl (lv_at hl 0 rfl) ?_
        refine va_get (D := (dC, dI)) (ci := 3) (v := .int (nI (Hn + 1))) (C := RX3) (T := TX3) (N := 24) hx hb hts hin3 hown hK hP 0 rfl rfl 9 (by decide) L76 (fun _ h9 => h9) rfl dX3_holder_103 ?_
        refine lv_iconst (v := nI 1) hx hb dX3_holder_106 (by decide) ?_
        refine z_isub (v := nI Hn) hx hb dX3_holder_107 ((pk_sub (by omega)).trans rfl) ?_
        rw [holdM] at hP hD
        have hP : va_P (dC, dI) vwCl ([bo bd (holdS σ Hn kd d) ξ (holdS σ Hn kd d 0 7) sd kv hh, (bd 2, .inl (cI, 16, .inl (menOf (holdS σ Hn kd d)))), (bd 3, .inl (cI, 30, .inl (rowsOf (holdS σ Hn kd d))))]) H := hP
        have hD : va_D A ([bo bd (holdS σ Hn kd d) ξ (holdS σ Hn kd d 0 7) sd kv hh, (bd 2, .inl (cI, 16, .inl (menOf (holdS σ Hn kd d)))), (bd 3, .inl (cI, 30, .inl (rowsOf (holdS σ Hn kd d))))]) := hD
        exact hq (nI Hn) (holdS σ Hn kd d) _ _ 108 ls dX3_holder_108 (show (nI Hn) = (holderF σ Hn kd d).1 ∧ (holdS σ Hn kd d) = (holderF σ Hn kd d).2 from ⟨(by unfold holderF; rw [zif_t ⟨c_9, c_21⟩, if_neg c_32]), (by unfold holderF; rw [zif_t ⟨c_9, c_21⟩, if_neg c_32])⟩) hP hD hS
      · skip
        refine lv_bipush (v := (-104)) hx hb dX3_holder_35 (by decide) ?_
        exact hq (-104) σ _ _ 37 ls dX3_holder_37 (show (-104) = (holderF σ Hn kd d).1 ∧ σ = (holderF σ Hn kd d).2 from ⟨(by unfold holderF; rw [zif_t ⟨c_9, c_21⟩, if_pos c_32]), (by unfold holderF; rw [zif_t ⟨c_9, c_21⟩, if_pos c_32])⟩) hP hD hS
    · skip
      refine lv_bipush (v := (-102)) hx hb dX3_holder_24 (by decide) ?_
      exact hq (-102) σ _ _ 26 ls dX3_holder_26 (show (-102) = (holderF σ Hn kd d).1 ∧ σ = (holderF σ Hn kd d).2 from ⟨(by unfold holderF; rw [zif_f (fun z => c_21 z.2)]), (by unfold holderF; rw [zif_f (fun z => c_21 z.2)])⟩) hP hD hS
abbrev rm_c_X3_heir : Room := { frames := 2, cells := 0, slots := 0, locals := 46 }
set_option maxHeartbeats 4000000 in
set_option maxRecDepth 100000 in
theorem c_X3_heir (l : Launch) (dC : Nat → ClassId) (dI : Nat → Nat → Nat) (cI cZ : ClassId) (bd : Nat → Nat) (σ : St) (Hn B L C V M : Nat) (hI : Inv σ Hn B L C V M) (ξ : Nat → Int32) (sd : Int32) (kv : Nat → Int32) (hh : Int64) (x h : Int32) (sz : Nat) : Met l yX3_heir wsX3_heir rm_c_X3_heir (va_Pc [.ref (bd 0), .int x, .int h] (zPre (dC, dI) vwCl (tyIZ cI cZ) ([bo bd σ ξ (σ 0 7) sd kv hh, (bd 2, .inl (cI, 16, .inl (menOf σ))), (bd 3, .inl (cI, 30, .inl (rowsOf σ)))]) sz (fun _ => True))) (va_Qi (fun (r : Int32) (u : St) => r = (heirF σ Hn x h).1 ∧ u = (heirF σ Hn x h).2) (zPost (dC, dI) vwCl (tyIZ cI cZ) ([bo bd σ ξ (σ 0 7) sd kv hh, (bd 2, .inl (cI, 16, .inl (menOf σ))), (bd 3, .inl (cI, 30, .inl (rowsOf σ)))]) sz (fun (u : St) => [bo bd u ξ (u 0 7) sd kv hh, (bd 2, .inl (cI, 16, .inl (menOf u))), (bd 3, .inl (cI, 30, .inl (rowsOf u)))])) (va_A ([bo bd σ ξ (σ 0 7) sd kv hh, (bd 2, .inl (cI, 16, .inl (menOf σ))), (bd 3, .inl (cI, 30, .inl (rowsOf σ)))]) sz)) 0 0 (va_A ([bo bd σ ξ (σ 0 7) sd kv hh, (bd 2, .inl (cI, 16, .inl (menOf σ))), (bd 3, .inl (cI, 30, .inl (rowsOf σ)))]) sz) := by
  refine z_impI (cc := cX3_heir) (maxL := 4) (av := [.ref (bd 0), .int x, .int h]) (by decide) rfl (Nat.le_of_ble_eq_true rfl) ?_
  intro p e s m below meth c Q A ls hx hb hml hown hts hBs hP hK hD hS hA hAB hq hl
  have hown : s.vm.findClass RX3 = some m.cls := hown
  have hin3 : ∀ w ∈ wsX30, w ∈ wsX3_heir := fun _ h => List.mem_cons_of_mem _ (List.mem_append_right _ h)
  have L13 := hts (.fieldLink RX3 13 "BestBeastModel" "men" "[I") (List.mem_of_getElem? (i := 1) rfl)
  obtain ⟨⟨iL, iC, iV, iM, iH, iB, jL, jC, jV, jM, jH, jB⟩, iK, iDe, iAl, iHe, iWo, iO1, iO2⟩ := id hI
  have hl : lv_has ls 4 [(0, .ref (bd 0)), (1, .int x), (2, .int h)] := hl
  refine lv_aload_n hx hb dX3_heir_0 rfl (lv_at hl 0 rfl) ?_
  refine lv_iload_n hx hb dX3_heir_1 rfl (lv_at hl 1 rfl) ?_
  refine z_callV (As := [.int x]) (rest := []) ⟨hx, hb, hml, hown, hts⟩ (c_X3_isHolder l dC dI cI cZ bd σ Hn B L C V M hI ξ (σ 0 7) sd kv hh x) (cwV 1 hts gX3_heir_X3_isHolder rfl rfl rfl (by decide +kernel) ⟨Nat.le_of_ble_eq_true rfl, Nat.le_of_ble_eq_true rfl⟩) hP hK (va_recv hK hP (ci := 3) (q0 := 0) rfl rfl) rfl hl.1 rfl (Nat.le_of_ble_eq_true rfl) ⟨Nat.zero_le _, Nat.zero_le _⟩ dX3_heir_2 (fun r hr => ?_)
  obtain rfl : r = zb (hasP Hn x) := hr
  refine z_ifeq_b (P := hasP Hn x) (tgt := 26) hx hb dX3_heir_5 (by decide) (fun (c_5 : ¬ (hasP Hn x)) => ?_) (fun (c_5 : hasP Hn x) => ?_)
  · skip
    refine lv_bipush (v := (-101)) hx hb dX3_heir_26 (by decide) ?_
    exact hq (-101) σ _ _ 28 ls dX3_heir_28 (show (-101) = (heirF σ Hn x h).1 ∧ σ = (heirF σ Hn x h).2 from ⟨(by unfold heirF; rw [zif_f (fun z => c_5 z.1)]), (by unfold heirF; rw [zif_f (fun z => c_5 z.1)])⟩) hP hD hS
  · skip
    obtain ⟨j, hj, rfl⟩ := c_5
    refine lv_iload_n hx hb dX3_heir_8 rfl (lv_at hl 2 rfl) ?_
    refine lv_iconst (v := (-1)) hx hb dX3_heir_9 (by decide) ?_
    refine lv_icmp_eq (tgt := 21) hx hb dX3_heir_10 (by decide) (fun (c_10 : h = (-1)) => ?_) (fun (c_10 : ¬ (h = (-1))) => ?_)
    · skip
      refine lv_iload_n hx hb dX3_heir_21 rfl (lv_at hl 1 rfl) ?_
      refine lv_iload_n hx hb dX3_heir_22 rfl (lv_at hl 2 rfl) ?_
      refine lv_icmp_ne (tgt := 29) hx hb dX3_heir_23 (by decide) (fun (c_23 : ¬ (nI j) = h) => ?_) (fun (c_23 : (nI j) = h) => ?_)
      · skip
        refine lv_aload_n hx hb dX3_heir_29 rfl (lv_at hl 0 rfl) ?_
        refine va_get (D := (dC, dI)) (ci := 3) (v := .ref (bd 2)) (C := RX3) (T := TX3) (N := 24) hx hb hts hin3 hown hK hP 0 rfl rfl 11 (by decide) L13 (fun _ h9 => h9) rfl dX3_heir_30 ?_
        refine lv_iconst (v := nI 4) hx hb dX3_heir_33 (by decide) ?_
        refine lv_iload_n hx hb dX3_heir_34 rfl (lv_at hl 1 rfl) ?_
        refine z_imul (v := nI (4 * j)) hx hb dX3_heir_35 (pk_mul _ _) ?_
        refine lv_iconst (v := nI 3) hx hb dX3_heir_36 (by decide) ?_
        refine z_iadd (v := nI ((4 * j) + 3)) hx hb dX3_heir_37 (nI_add _ _) ?_
        refine z_iald (D := (dC, dI)) hx hb hK hP 1 0 rfl rfl ((4 * j) + 3) (rfl) (by omega) (by omega) (v := σ 4 j) (menR σ j 3 (by decide)) dX3_heir_38 ?_
        refine lv_istore_n (lv' := [(3, .int (σ 4 j)), (0, .ref (bd 0)), (1, .int (nI j)), (2, .int h)]) hx hb dX3_heir_39 rfl hl (by decide) rfl (fun ls hl => ?_)
        refine lv_aload_n hx hb dX3_heir_40 rfl (lv_at hl 1 rfl) ?_
        refine va_get (D := (dC, dI)) (ci := 3) (v := .ref (bd 2)) (C := RX3) (T := TX3) (N := 24) hx hb hts hin3 hown hK hP 0 rfl rfl 11 (by decide) L13 (fun _ h9 => h9) rfl dX3_heir_41 ?_
        refine lv_iconst (v := nI 4) hx hb dX3_heir_44 (by decide) ?_
        refine lv_iload_n hx hb dX3_heir_45 rfl (lv_at hl 2 rfl) ?_
        refine z_imul (v := nI (4 * j)) hx hb dX3_heir_46 (pk_mul _ _) ?_
        refine lv_iconst (v := nI 3) hx hb dX3_heir_47 (by decide) ?_
        refine z_iadd (v := nI ((4 * j) + 3)) hx hb dX3_heir_48 (nI_add _ _) ?_
        refine lv_iload_n hx hb dX3_heir_49 rfl (lv_at hl 3 rfl) ?_
        refine z_iast (D := (dC, dI)) hx hb hK hP hD hS 1 0 rfl rfl ((4 * j) + 3) (rfl) (by omega) (by omega) (f' := menOf (up2 σ 4 j h)) (menW σ j 3 (by decide) _) dX3_heir_50 (fun H locs hP hD hS => ?_)
        have hP : va_P (dC, dI) vwCl ([bo bd (up2 σ 4 j h) ξ (σ 0 7) sd kv hh, (bd 2, .inl (cI, 16, .inl (menOf (up2 σ 4 j h)))), (bd 3, .inl (cI, 30, .inl (rowsOf (up2 σ 4 j h))))]) H := hP
        have hD : va_D A ([bo bd (up2 σ 4 j h) ξ (σ 0 7) sd kv hh, (bd 2, .inl (cI, 16, .inl (menOf (up2 σ 4 j h)))), (bd 3, .inl (cI, 30, .inl (rowsOf (up2 σ 4 j h))))]) := hD
        refine lv_iload_n hx hb dX3_heir_51 rfl (lv_at hl 0 rfl) ?_
        exact hq (σ 4 j) (up2 σ 4 j h) _ _ 52 ls dX3_heir_52 (show (σ 4 j) = (heirF σ Hn (nI j) h).1 ∧ (up2 σ 4 j h) = (heirF σ Hn (nI j) h).2 from ⟨(by unfold heirF; rw [zif_t ⟨hasP_nI hj, (fun z => c_23 z.symm), Or.inl c_10⟩, tn_nI (by omega)]), (by unfold heirF; rw [zif_t ⟨hasP_nI hj, (fun z => c_23 z.symm), Or.inl c_10⟩, tn_nI (by omega)])⟩) hP hD hS
      · skip
        refine lv_bipush (v := (-101)) hx hb dX3_heir_26 (by decide) ?_
        exact hq (-101) σ _ _ 28 ls dX3_heir_28 (show (-101) = (heirF σ Hn (nI j) h).1 ∧ σ = (heirF σ Hn (nI j) h).2 from ⟨(by unfold heirF; rw [zif_f (fun z => z.2.1 c_23.symm)]), (by unfold heirF; rw [zif_f (fun z => z.2.1 c_23.symm)])⟩) hP hD hS
    · skip
      refine lv_aload_n hx hb dX3_heir_13 rfl (lv_at hl 0 rfl) ?_
      refine lv_iload_n hx hb dX3_heir_14 rfl (lv_at hl 2 rfl) ?_
      refine z_callV (As := [.int h]) (rest := []) ⟨hx, hb, hml, hown, hts⟩ (c_X3_isHolder l dC dI cI cZ bd σ Hn B L C V M hI ξ (σ 0 7) sd kv hh h) (cwV 1 hts gX3_heir_X3_isHolder rfl rfl rfl (by decide +kernel) ⟨Nat.le_of_ble_eq_true rfl, Nat.le_of_ble_eq_true rfl⟩) hP hK (va_recv hK hP (ci := 3) (q0 := 0) rfl rfl) rfl hl.1 rfl (Nat.le_of_ble_eq_true rfl) ⟨Nat.zero_le _, Nat.zero_le _⟩ dX3_heir_15 (fun r hr => ?_)
      obtain rfl : r = zb (hasP Hn h) := hr
      refine z_ifeq_b (P := hasP Hn h) (tgt := 26) hx hb dX3_heir_18 (by decide) (fun (c_18 : ¬ (hasP Hn h)) => ?_) (fun (c_18 : hasP Hn h) => ?_)
      · skip
        refine lv_bipush (v := (-101)) hx hb dX3_heir_26 (by decide) ?_
        exact hq (-101) σ _ _ 28 ls dX3_heir_28 (show (-101) = (heirF σ Hn (nI j) h).1 ∧ σ = (heirF σ Hn (nI j) h).2 from ⟨(by unfold heirF; rw [zif_f (fun z => z.2.2.elim c_10 c_18)]), (by unfold heirF; rw [zif_f (fun z => z.2.2.elim c_10 c_18)])⟩) hP hD hS
      · skip
        refine lv_iload_n hx hb dX3_heir_21 rfl (lv_at hl 1 rfl) ?_
        refine lv_iload_n hx hb dX3_heir_22 rfl (lv_at hl 2 rfl) ?_
        refine lv_icmp_ne (tgt := 29) hx hb dX3_heir_23 (by decide) (fun (c_23 : ¬ (nI j) = h) => ?_) (fun (c_23 : (nI j) = h) => ?_)
        · skip
          refine lv_aload_n hx hb dX3_heir_29 rfl (lv_at hl 0 rfl) ?_
          refine va_get (D := (dC, dI)) (ci := 3) (v := .ref (bd 2)) (C := RX3) (T := TX3) (N := 24) hx hb hts hin3 hown hK hP 0 rfl rfl 11 (by decide) L13 (fun _ h9 => h9) rfl dX3_heir_30 ?_
          refine lv_iconst (v := nI 4) hx hb dX3_heir_33 (by decide) ?_
          refine lv_iload_n hx hb dX3_heir_34 rfl (lv_at hl 1 rfl) ?_
          refine z_imul (v := nI (4 * j)) hx hb dX3_heir_35 (pk_mul _ _) ?_
          refine lv_iconst (v := nI 3) hx hb dX3_heir_36 (by decide) ?_
          refine z_iadd (v := nI ((4 * j) + 3)) hx hb dX3_heir_37 (nI_add _ _) ?_
          refine z_iald (D := (dC, dI)) hx hb hK hP 1 0 rfl rfl ((4 * j) + 3) (rfl) (by omega) (by omega) (v := σ 4 j) (menR σ j 3 (by decide)) dX3_heir_38 ?_
          refine lv_istore_n (lv' := [(3, .int (σ 4 j)), (0, .ref (bd 0)), (1, .int (nI j)), (2, .int h)]) hx hb dX3_heir_39 rfl hl (by decide) rfl (fun ls hl => ?_)
          refine lv_aload_n hx hb dX3_heir_40 rfl (lv_at hl 1 rfl) ?_
          refine va_get (D := (dC, dI)) (ci := 3) (v := .ref (bd 2)) (C := RX3) (T := TX3) (N := 24) hx hb hts hin3 hown hK hP 0 rfl rfl 11 (by decide) L13 (fun _ h9 => h9) rfl dX3_heir_41 ?_
          refine lv_iconst (v := nI 4) hx hb dX3_heir_44 (by decide) ?_
          refine lv_iload_n hx hb dX3_heir_45 rfl (lv_at hl 2 rfl) ?_
          refine z_imul (v := nI (4 * j)) hx hb dX3_heir_46 (pk_mul _ _) ?_
          refine lv_iconst (v := nI 3) hx hb dX3_heir_47 (by decide) ?_
          refine z_iadd (v := nI ((4 * j) + 3)) hx hb dX3_heir_48 (nI_add _ _) ?_
          refine lv_iload_n hx hb dX3_heir_49 rfl (lv_at hl 3 rfl) ?_
          refine z_iast (D := (dC, dI)) hx hb hK hP hD hS 1 0 rfl rfl ((4 * j) + 3) (rfl) (by omega) (by omega) (f' := menOf (up2 σ 4 j h)) (menW σ j 3 (by decide) _) dX3_heir_50 (fun H locs hP hD hS => ?_)
          have hP : va_P (dC, dI) vwCl ([bo bd (up2 σ 4 j h) ξ (σ 0 7) sd kv hh, (bd 2, .inl (cI, 16, .inl (menOf (up2 σ 4 j h)))), (bd 3, .inl (cI, 30, .inl (rowsOf (up2 σ 4 j h))))]) H := hP
          have hD : va_D A ([bo bd (up2 σ 4 j h) ξ (σ 0 7) sd kv hh, (bd 2, .inl (cI, 16, .inl (menOf (up2 σ 4 j h)))), (bd 3, .inl (cI, 30, .inl (rowsOf (up2 σ 4 j h))))]) := hD
          refine lv_iload_n hx hb dX3_heir_51 rfl (lv_at hl 0 rfl) ?_
          exact hq (σ 4 j) (up2 σ 4 j h) _ _ 52 ls dX3_heir_52 (show (σ 4 j) = (heirF σ Hn (nI j) h).1 ∧ (up2 σ 4 j h) = (heirF σ Hn (nI j) h).2 from ⟨(by unfold heirF; rw [zif_t ⟨hasP_nI hj, (fun z => c_23 z.symm), Or.inr c_18⟩, tn_nI (by omega)]), (by unfold heirF; rw [zif_t ⟨hasP_nI hj, (fun z => c_23 z.symm), Or.inr c_18⟩, tn_nI (by omega)])⟩) hP hD hS
        · skip
          refine lv_bipush (v := (-101)) hx hb dX3_heir_26 (by decide) ?_
          exact hq (-101) σ _ _ 28 ls dX3_heir_28 (show (-101) = (heirF σ Hn (nI j) h).1 ∧ σ = (heirF σ Hn (nI j) h).2 from ⟨(by unfold heirF; rw [zif_f (fun z => z.2.1 c_23.symm)]), (by unfold heirF; rw [zif_f (fun z => z.2.1 c_23.symm)])⟩) hP hD hS
abbrev rm_c_X3_beast : Room := { frames := 2, cells := 0, slots := 0, locals := 46 }
set_option maxHeartbeats 4000000 in
set_option maxRecDepth 100000 in
theorem c_X3_beast (l : Launch) (dC : Nat → ClassId) (dI : Nat → Nat → Nat) (cI cZ : ClassId) (bd : Nat → Nat) (σ : St) (Hn B L C V M : Nat) (hI : Inv σ Hn B L C V M) (ξ : Nat → Int32) (sd : Int32) (kv : Nat → Int32) (hh : Int64) (x w : Int32) (sz : Nat) : Met l yX3_beast wsX3_beast rm_c_X3_beast (va_Pc [.ref (bd 0), .int x, .int w] (zPre (dC, dI) vwCl (tyIZ cI cZ) ([bo bd σ ξ (σ 0 7) sd kv hh, (bd 2, .inl (cI, 16, .inl (menOf σ))), (bd 3, .inl (cI, 30, .inl (rowsOf σ)))]) sz (fun _ => True))) (va_Qi (fun (r : Int32) (u : St) => r = (beastF σ Hn B x w).1 ∧ u = (beastF σ Hn B x w).2) (zPost (dC, dI) vwCl (tyIZ cI cZ) ([bo bd σ ξ (σ 0 7) sd kv hh, (bd 2, .inl (cI, 16, .inl (menOf σ))), (bd 3, .inl (cI, 30, .inl (rowsOf σ)))]) sz (fun (u : St) => [bo bd u ξ (u 0 7) sd kv hh, (bd 2, .inl (cI, 16, .inl (menOf u))), (bd 3, .inl (cI, 30, .inl (rowsOf u)))])) (va_A ([bo bd σ ξ (σ 0 7) sd kv hh, (bd 2, .inl (cI, 16, .inl (menOf σ))), (bd 3, .inl (cI, 30, .inl (rowsOf σ)))]) sz)) 0 0 (va_A ([bo bd σ ξ (σ 0 7) sd kv hh, (bd 2, .inl (cI, 16, .inl (menOf σ))), (bd 3, .inl (cI, 30, .inl (rowsOf σ)))]) sz) := by
  refine z_impI (cc := cX3_beast) (maxL := 3) (av := [.ref (bd 0), .int x, .int w]) (by decide) rfl (Nat.le_of_ble_eq_true rfl) ?_
  intro p e s m below meth c Q A ls hx hb hml hown hts hBs hP hK hD hS hA hAB hq hl
  have hown : s.vm.findClass RX3 = some m.cls := hown
  have hin3 : ∀ w ∈ wsX30, w ∈ wsX3_beast := fun _ h => List.mem_cons_of_mem _ (List.mem_append_right _ h)
  have L123 := hts (.constantLong RX3 123 (99)) (List.mem_of_getElem? (i := 1) rfl)
  have L79 := hts (.fieldLink RX3 79 "BestBeastModel" "beasts" "I") (List.mem_of_getElem? (i := 2) rfl)
  have L16 := hts (.fieldLink RX3 16 "BestBeastModel" "rows" "[I") (List.mem_of_getElem? (i := 3) rfl)
  obtain ⟨⟨iL, iC, iV, iM, iH, iB, jL, jC, jV, jM, jH, jB⟩, iK, iDe, iAl, iHe, iWo, iO1, iO2⟩ := id hI
  have hl : lv_has ls 3 [(0, .ref (bd 0)), (1, .int x), (2, .int w)] := hl
  refine lv_aload_n hx hb dX3_beast_0 rfl (lv_at hl 0 rfl) ?_
  refine lv_iload_n hx hb dX3_beast_1 rfl (lv_at hl 1 rfl) ?_
  refine z_callV (As := [.int x]) (rest := []) ⟨hx, hb, hml, hown, hts⟩ (c_X3_isHolder l dC dI cI cZ bd σ Hn B L C V M hI ξ (σ 0 7) sd kv hh x) (cwV 1 hts gX3_beast_X3_isHolder rfl rfl rfl (by decide +kernel) ⟨Nat.le_of_ble_eq_true rfl, Nat.le_of_ble_eq_true rfl⟩) hP hK (va_recv hK hP (ci := 3) (q0 := 0) rfl rfl) rfl hl.1 rfl (Nat.le_of_ble_eq_true rfl) ⟨Nat.zero_le _, Nat.zero_le _⟩ dX3_beast_2 (fun r hr => ?_)
  obtain rfl : r = zb (hasP Hn x) := hr
  refine z_ifne_b (P := hasP Hn x) (tgt := 11) hx hb dX3_beast_5 (by decide) (fun (c_5 : hasP Hn x) => ?_) (fun (c_5 : ¬ (hasP Hn x)) => ?_)
  · skip
    obtain ⟨j, hj, rfl⟩ := c_5
    refine lv_iload_n hx hb dX3_beast_11 rfl (lv_at hl 2 rfl) ?_
    refine lv_i2l (v := w.toInt64) hx hb dX3_beast_12 (rfl) ?_
    refine lv_lconst (v := 1) hx hb dX3_beast_13 (by decide) ?_
    refine lv_ldc2 hx hb hown L123 dX3_beast_14 ?_
    refine z_callS (As := [.long w.toInt64, .long 1, .long 99]) (rest := []) ⟨hx, hb, hml, hown, hts⟩ (c_X3_in l w.toInt64 1 99) (va_cwS 3 hts gX3_beast_X3_in rfl rfl rfl (by decide +kernel) ⟨Nat.le_of_ble_eq_true rfl, Nat.le_of_ble_eq_true rfl⟩) rfl hl.1 rfl (Nat.le_of_ble_eq_true rfl) ⟨Nat.zero_le _, Nat.zero_le _⟩ dX3_beast_17 (fun r hr => ?_)
    obtain rfl : r = zb (1 ≤ w.toInt64 ∧ w.toInt64 ≤ 99) := hr
    refine z_topi (v := zb (inP 1 99 w)) (zb_iff (in64 (a := 1) (b := 99) (by decide) (by decide))) ?_
    refine z_ifne_b (P := inP 1 99 w) (tgt := 26) hx hb dX3_beast_20 (by decide) (fun (c_20 : inP 1 99 w) => ?_) (fun (c_20 : ¬ (inP 1 99 w)) => ?_)
    · skip
      refine lv_aload_n hx hb dX3_beast_26 rfl (lv_at hl 0 rfl) ?_
      refine lv_iload_n hx hb dX3_beast_27 rfl (lv_at hl 1 rfl) ?_
      refine z_callV (As := [.int (nI j)]) (rest := []) ⟨hx, hb, hml, hown, hts⟩ (c_X3_lives l dC dI cI cZ bd σ Hn B L C V M hI ξ (σ 0 7) sd kv hh j (by omega)) (cwV 1 hts gX3_beast_X3_lives rfl rfl rfl (by decide +kernel) ⟨Nat.le_of_ble_eq_true rfl, Nat.le_of_ble_eq_true rfl⟩) hP hK (va_recv hK hP (ci := 3) (q0 := 0) rfl rfl) rfl hl.1 rfl (Nat.le_of_ble_eq_true rfl) ⟨Nat.zero_le _, Nat.zero_le _⟩ dX3_beast_28 (fun r hr => ?_)
      obtain rfl : r = zb (σ 3 j = 1) := hr
      refine z_ifne_b (P := σ 3 j = 1) (tgt := 37) hx hb dX3_beast_31 (by decide) (fun (c_31 : σ 3 j = 1) => ?_) (fun (c_31 : ¬ (σ 3 j = 1)) => ?_)
      · skip
        refine lv_aload_n hx hb dX3_beast_37 rfl (lv_at hl 0 rfl) ?_
        refine va_get (D := (dC, dI)) (ci := 3) (v := .int (nI B)) (C := RX3) (T := TX3) (N := 24) hx hb hts hin3 hown hK hP 0 rfl rfl 10 (by decide) L79 (fun _ h9 => h9) (congrArg (fun z => some (Value.int z)) iB) dX3_beast_38 ?_
        refine lv_bipush (v := nI 6) hx hb dX3_beast_41 (by decide) ?_
        refine z_icmp_ne (a := B) (b := 6) (tgt := 49) hx hb (by omega) (by omega) dX3_beast_43 (by decide) (fun (c_43 : B ≠ 6) => ?_) (fun (c_43 : B = 6) => ?_)
        · skip
          refine lv_aload_n hx hb dX3_beast_49 rfl (lv_at hl 0 rfl) ?_
          refine va_get (D := (dC, dI)) (ci := 3) (v := .ref (bd 3)) (C := RX3) (T := TX3) (N := 24) hx hb hts hin3 hown hK hP 0 rfl rfl 12 (by decide) L16 (fun _ h9 => h9) rfl dX3_beast_50 ?_
          refine lv_iconst (v := nI 5) hx hb dX3_beast_53 (by decide) ?_
          refine lv_aload_n hx hb dX3_beast_54 rfl (lv_at hl 0 rfl) ?_
          refine va_get (D := (dC, dI)) (ci := 3) (v := .int (nI B)) (C := RX3) (T := TX3) (N := 24) hx hb hts hin3 hown hK hP 0 rfl rfl 10 (by decide) L79 (fun _ h9 => h9) (congrArg (fun z => some (Value.int z)) iB) dX3_beast_55 ?_
          refine z_imul (v := nI (5 * B)) hx hb dX3_beast_58 (pk_mul _ _) ?_
          refine lv_iload_n hx hb dX3_beast_59 rfl (lv_at hl 2 rfl) ?_
          refine z_iast (D := (dC, dI)) hx hb hK hP hD hS 2 0 rfl rfl (5 * B) (rfl) (by omega) (by omega) (f' := rowsOf (up2 σ 5 B w)) (rowsW σ B 0 (by decide) _) dX3_beast_60 (fun H locs hP hD hS => ?_)
          have hP : va_P (dC, dI) vwCl ([bo bd (up2 σ 5 B w) ξ (σ 0 7) sd kv hh, (bd 2, .inl (cI, 16, .inl (menOf (up2 σ 5 B w)))), (bd 3, .inl (cI, 30, .inl (rowsOf (up2 σ 5 B w))))]) H := hP
          have hD : va_D A ([bo bd (up2 σ 5 B w) ξ (σ 0 7) sd kv hh, (bd 2, .inl (cI, 16, .inl (menOf (up2 σ 5 B w)))), (bd 3, .inl (cI, 30, .inl (rowsOf (up2 σ 5 B w))))]) := hD
          refine lv_aload_n hx hb dX3_beast_61 rfl (lv_at hl 0 rfl) ?_
          refine va_get (D := (dC, dI)) (ci := 3) (v := .ref (bd 3)) (C := RX3) (T := TX3) (N := 24) hx hb hts hin3 hown hK hP 0 rfl rfl 12 (by decide) L16 (fun _ h9 => h9) rfl dX3_beast_62 ?_
          refine lv_iconst (v := nI 5) hx hb dX3_beast_65 (by decide) ?_
          refine lv_aload_n hx hb dX3_beast_66 rfl (lv_at hl 0 rfl) ?_
          refine va_get (D := (dC, dI)) (ci := 3) (v := .int (nI B)) (C := RX3) (T := TX3) (N := 24) hx hb hts hin3 hown hK hP 0 rfl rfl 10 (by decide) L79 (fun _ h9 => h9) (congrArg (fun z => some (Value.int z)) iB) dX3_beast_67 ?_
          refine z_imul (v := nI (5 * B)) hx hb dX3_beast_70 (pk_mul _ _) ?_
          refine lv_iconst (v := nI 4) hx hb dX3_beast_71 (by decide) ?_
          refine z_iadd (v := nI ((5 * B) + 4)) hx hb dX3_beast_72 (nI_add _ _) ?_
          refine lv_iconst (v := (-1)) hx hb dX3_beast_73 (by decide) ?_
          refine z_iast (D := (dC, dI)) hx hb hK hP hD hS 2 0 rfl rfl ((5 * B) + 4) (rfl) (by omega) (by omega) (f' := rowsOf (up2 (up2 σ 5 B w) 9 B (-1))) (rowsW (up2 σ 5 B w) B 4 (by decide) _) dX3_beast_74 (fun H locs hP hD hS => ?_)
          have hP : va_P (dC, dI) vwCl ([bo bd (up2 (up2 σ 5 B w) 9 B (-1)) ξ (σ 0 7) sd kv hh, (bd 2, .inl (cI, 16, .inl (menOf (up2 (up2 σ 5 B w) 9 B (-1))))), (bd 3, .inl (cI, 30, .inl (rowsOf (up2 (up2 σ 5 B w) 9 B (-1)))))]) H := hP
          have hD : va_D A ([bo bd (up2 (up2 σ 5 B w) 9 B (-1)) ξ (σ 0 7) sd kv hh, (bd 2, .inl (cI, 16, .inl (menOf (up2 (up2 σ 5 B w) 9 B (-1))))), (bd 3, .inl (cI, 30, .inl (rowsOf (up2 (up2 σ 5 B w) 9 B (-1)))))]) := hD
          refine lv_aload_n hx hb dX3_beast_75 rfl (lv_at hl 0 rfl) ?_
          refine lv_aload_n hx hb dX3_beast_76 rfl (lv_at hl 0 rfl) ?_
          refine va_get (D := (dC, dI)) (ci := 3) (v := .int (nI B)) (C := RX3) (T := TX3) (N := 24) hx hb hts hin3 hown hK hP 0 rfl rfl 10 (by decide) L79 (fun _ h9 => h9) (congrArg (fun z => some (Value.int z)) iB) dX3_beast_77 ?_
          refine lv_iload_n hx hb dX3_beast_80 rfl (lv_at hl 1 rfl) ?_
          refine lv_iconst (v := (-1)) hx hb dX3_beast_81 (by decide) ?_
          refine lv_iconst (v := (-1)) hx hb dX3_beast_82 (by decide) ?_
          refine z_callQv (As := [.int (nI B), .int (nI j), .int (-1), .int (-1)]) (rest := []) ⟨hx, hb, hml, hown, hts⟩ (c_X3_lay l dC dI cI cZ bd (up2 (up2 σ 5 B w) 9 B (-1)) ξ (σ 0 7) sd kv hh B (by omega) (nI j) (-1) (-1) _) (cwV 4 hts gX3_beast_X3_lay rfl rfl rfl (by decide +kernel) ⟨Nat.le_of_ble_eq_true rfl, Nat.le_of_ble_eq_true rfl⟩) (fun _ _ _ _ q => q) (fun _ _ _ => trivial) hP hD hK hS hA [0, 1, 2] [] rfl rfl rfl rfl (by decide) (va_recv hK hP (ci := 3) (q0 := 0) rfl rfl) rfl hl.1 rfl (Nat.le_of_ble_eq_true rfl) ⟨Nat.le_of_ble_eq_true rfl, Nat.le_of_ble_eq_true rfl⟩ dX3_beast_83 (fun u H locs hr hP hD hS => ?_)
          obtain rfl := hr
          have hP : va_P (dC, dI) vwCl ([bo bd (layS (up2 (up2 σ 5 B w) 9 B (-1)) B (nI j) (-1) (-1)) ξ (σ 0 7) sd kv hh, (bd 2, .inl (cI, 16, .inl (menOf (layS (up2 (up2 σ 5 B w) 9 B (-1)) B (nI j) (-1) (-1))))), (bd 3, .inl (cI, 30, .inl (rowsOf (layS (up2 (up2 σ 5 B w) 9 B (-1)) B (nI j) (-1) (-1)))))]) H := hP
          have hD : va_D A ([bo bd (layS (up2 (up2 σ 5 B w) 9 B (-1)) B (nI j) (-1) (-1)) ξ (σ 0 7) sd kv hh, (bd 2, .inl (cI, 16, .inl (menOf (layS (up2 (up2 σ 5 B w) 9 B (-1)) B (nI j) (-1) (-1))))), (bd 3, .inl (cI, 30, .inl (rowsOf (layS (up2 (up2 σ 5 B w) 9 B (-1)) B (nI j) (-1) (-1)))))]) := hD
          refine lv_aload_n hx hb dX3_beast_86 rfl (lv_at hl 0 rfl) ?_
          refine lv_dup hx hb dX3_beast_87 rfl ?_
          refine va_get (D := (dC, dI)) (ci := 3) (v := .int (nI B)) (C := RX3) (T := TX3) (N := 24) hx hb hts hin3 hown hK hP 0 rfl rfl 10 (by decide) L79 (fun _ h9 => h9) (congrArg (fun z => some (Value.int z)) iB) dX3_beast_88 ?_
          refine lv_iconst (v := nI 1) hx hb dX3_beast_91 (by decide) ?_
          refine z_iadd (v := nI (B + 1)) hx hb dX3_beast_92 (nI_add _ _) ?_
          refine va_put (D := (dC, dI)) (ci := 3) (v := .int (nI (B + 1))) (ty := .int) (C := RX3) (T := TX3) (N := 24) hx hb hts hin3 tyX3 tyX3_ok nmX3 hown hK hP hD hS 0 rfl rfl 10 (by decide) L79 (fun _ h9 => h9) rfl (by decide +kernel) rfl rfl (Nat.le_of_ble_eq_true rfl) dX3_beast_93 (fun H locs hP hD hS => ?_)
          have hP : va_P (dC, dI) vwCl ([bo bd (up2 (layS (up2 (up2 σ 5 B w) 9 B (-1)) B (nI j) (-1) (-1)) 0 5 (nI (B + 1))) ξ (σ 0 7) sd kv hh, (bd 2, .inl (cI, 16, .inl (menOf (up2 (layS (up2 (up2 σ 5 B w) 9 B (-1)) B (nI j) (-1) (-1)) 0 5 (nI (B + 1)))))), (bd 3, .inl (cI, 30, .inl (rowsOf (up2 (layS (up2 (up2 σ 5 B w) 9 B (-1)) B (nI j) (-1) (-1)) 0 5 (nI (B + 1))))))]) H := hP
          have hD : va_D A ([bo bd (up2 (layS (up2 (up2 σ 5 B w) 9 B (-1)) B (nI j) (-1) (-1)) 0 5 (nI (B + 1))) ξ (σ 0 7) sd kv hh, (bd 2, .inl (cI, 16, .inl (menOf (up2 (layS (up2 (up2 σ 5 B w) 9 B (-1)) B (nI j) (-1) (-1)) 0 5 (nI (B + 1)))))), (bd 3, .inl (cI, 30, .inl (rowsOf (up2 (layS (up2 (up2 σ 5 B w) 9 B (-1)) B (nI j) (-1) (-1)) 0 5 (nI (B + 1))))))]) := hD
          refine lv_aload_n hx hb dX3_beast_96 rfl (lv_at hl 0 rfl) ?_
          refine va_get (D := (dC, dI)) (ci := 3) (v := .int (nI (B + 1))) (C := RX3) (T := TX3) (N := 24) hx hb hts hin3 hown hK hP 0 rfl rfl 10 (by decide) L79 (fun _ h9 => h9) rfl dX3_beast_97 ?_
          refine lv_iconst (v := nI 1) hx hb dX3_beast_100 (by decide) ?_
          refine z_isub (v := nI B) hx hb dX3_beast_101 ((pk_sub (by omega)).trans rfl) ?_
          rw [beastM] at hP hD
          have hP : va_P (dC, dI) vwCl ([bo bd (beastS σ B (nI j) w) ξ (beastS σ B (nI j) w 0 7) sd kv hh, (bd 2, .inl (cI, 16, .inl (menOf (beastS σ B (nI j) w)))), (bd 3, .inl (cI, 30, .inl (rowsOf (beastS σ B (nI j) w))))]) H := hP
          have hD : va_D A ([bo bd (beastS σ B (nI j) w) ξ (beastS σ B (nI j) w 0 7) sd kv hh, (bd 2, .inl (cI, 16, .inl (menOf (beastS σ B (nI j) w)))), (bd 3, .inl (cI, 30, .inl (rowsOf (beastS σ B (nI j) w))))]) := hD
          exact hq (nI B) (beastS σ B (nI j) w) _ _ 102 ls dX3_beast_102 (show (nI B) = (beastF σ Hn B (nI j) w).1 ∧ (beastS σ B (nI j) w) = (beastF σ Hn B (nI j) w).2 from ⟨(by unfold beastF; rw [zif_t (hasP_nI hj), zif_t c_20, tn_nI (by omega), zif_t c_31, if_neg c_43]), (by unfold beastF; rw [zif_t (hasP_nI hj), zif_t c_20, tn_nI (by omega), zif_t c_31, if_neg c_43])⟩) hP hD hS
        · skip
          refine lv_bipush (v := (-104)) hx hb dX3_beast_46 (by decide) ?_
          exact hq (-104) σ _ _ 48 ls dX3_beast_48 (show (-104) = (beastF σ Hn B (nI j) w).1 ∧ σ = (beastF σ Hn B (nI j) w).2 from ⟨(by unfold beastF; rw [zif_t (hasP_nI hj), zif_t c_20, tn_nI (by omega), zif_t c_31, if_pos c_43]), (by unfold beastF; rw [zif_t (hasP_nI hj), zif_t c_20, tn_nI (by omega), zif_t c_31, if_pos c_43])⟩) hP hD hS
      · skip
        refine lv_bipush (v := (-103)) hx hb dX3_beast_34 (by decide) ?_
        exact hq (-103) σ _ _ 36 ls dX3_beast_36 (show (-103) = (beastF σ Hn B (nI j) w).1 ∧ σ = (beastF σ Hn B (nI j) w).2 from ⟨(by unfold beastF; rw [zif_t (hasP_nI hj), zif_t c_20, tn_nI (by omega), zif_f c_31]), (by unfold beastF; rw [zif_t (hasP_nI hj), zif_t c_20, tn_nI (by omega), zif_f c_31])⟩) hP hD hS
    · skip
      refine lv_bipush (v := (-102)) hx hb dX3_beast_23 (by decide) ?_
      exact hq (-102) σ _ _ 25 ls dX3_beast_25 (show (-102) = (beastF σ Hn B (nI j) w).1 ∧ σ = (beastF σ Hn B (nI j) w).2 from ⟨(by unfold beastF; rw [zif_t (hasP_nI hj), zif_f c_20]), (by unfold beastF; rw [zif_t (hasP_nI hj), zif_f c_20])⟩) hP hD hS
  · skip
    refine lv_bipush (v := (-101)) hx hb dX3_beast_8 (by decide) ?_
    exact hq (-101) σ _ _ 10 ls dX3_beast_10 (show (-101) = (beastF σ Hn B x w).1 ∧ σ = (beastF σ Hn B x w).2 from ⟨(by unfold beastF; rw [zif_f c_5]), (by unfold beastF; rw [zif_f c_5])⟩) hP hD hS
abbrev rm_c_X3_give : Room := { frames := 2, cells := 0, slots := 0, locals := 46 }
set_option maxHeartbeats 4000000 in
set_option maxRecDepth 100000 in
theorem c_X3_give (l : Launch) (dC : Nat → ClassId) (dI : Nat → Nat → Nat) (cI cZ : ClassId) (bd : Nat → Nat) (σ : St) (Hn B L C V M : Nat) (hI : Inv σ Hn B L C V M) (ξ : Nat → Int32) (sd : Int32) (kv : Nat → Int32) (hh : Int64) (b t : Int32) (sz : Nat) : Met l yX3_give wsX3_give rm_c_X3_give (va_Pc [.ref (bd 0), .int b, .int t] (zPre (dC, dI) vwCl (tyIZ cI cZ) ([bo bd σ ξ (σ 0 7) sd kv hh, (bd 2, .inl (cI, 16, .inl (menOf σ))), (bd 3, .inl (cI, 30, .inl (rowsOf σ)))]) sz (fun _ => True))) (va_Qi (fun (r : Int32) (u : St) => r = (giveCF σ Hn B b t).1 ∧ u = (giveCF σ Hn B b t).2) (zPost (dC, dI) vwCl (tyIZ cI cZ) ([bo bd σ ξ (σ 0 7) sd kv hh, (bd 2, .inl (cI, 16, .inl (menOf σ))), (bd 3, .inl (cI, 30, .inl (rowsOf σ)))]) sz (fun (u : St) => [bo bd u ξ (u 0 7) sd kv hh, (bd 2, .inl (cI, 16, .inl (menOf u))), (bd 3, .inl (cI, 30, .inl (rowsOf u)))])) (va_A ([bo bd σ ξ (σ 0 7) sd kv hh, (bd 2, .inl (cI, 16, .inl (menOf σ))), (bd 3, .inl (cI, 30, .inl (rowsOf σ)))]) sz)) 0 0 (va_A ([bo bd σ ξ (σ 0 7) sd kv hh, (bd 2, .inl (cI, 16, .inl (menOf σ))), (bd 3, .inl (cI, 30, .inl (rowsOf σ)))]) sz) := by
  refine z_impI (cc := cX3_give) (maxL := 4) (av := [.ref (bd 0), .int b, .int t]) (by decide) rfl (Nat.le_of_ble_eq_true rfl) ?_
  intro p e s m below meth c Q A ls hx hb hml hown hts hBs hP hK hD hS hA hAB hq hl
  have hown : s.vm.findClass RX3 = some m.cls := hown
  have hin3 : ∀ w ∈ wsX30, w ∈ wsX3_give := fun _ h => List.mem_cons_of_mem _ (List.mem_append_right _ h)
  have L16 := hts (.fieldLink RX3 16 "BestBeastModel" "rows" "[I") (List.mem_of_getElem? (i := 1) rfl)
  obtain ⟨⟨iL, iC, iV, iM, iH, iB, jL, jC, jV, jM, jH, jB⟩, iK, iDe, iAl, iHe, iWo, iO1, iO2⟩ := id hI
  have hl : lv_has ls 4 [(0, .ref (bd 0)), (1, .int b), (2, .int t)] := hl
  refine lv_aload_n hx hb dX3_give_0 rfl (lv_at hl 0 rfl) ?_
  refine lv_iload_n hx hb dX3_give_1 rfl (lv_at hl 1 rfl) ?_
  refine z_callV (As := [.int b]) (rest := []) ⟨hx, hb, hml, hown, hts⟩ (c_X3_isBeast l dC dI cI cZ bd σ Hn B L C V M hI ξ (σ 0 7) sd kv hh b) (cwV 1 hts gX3_give_X3_isBeast rfl rfl rfl (by decide +kernel) ⟨Nat.le_of_ble_eq_true rfl, Nat.le_of_ble_eq_true rfl⟩) hP hK (va_recv hK hP (ci := 3) (q0 := 0) rfl rfl) rfl hl.1 rfl (Nat.le_of_ble_eq_true rfl) ⟨Nat.zero_le _, Nat.zero_le _⟩ dX3_give_2 (fun r hr => ?_)
  obtain rfl : r = zb (hasP B b) := hr
  refine z_ifeq_b (P := hasP B b) (tgt := 16) hx hb dX3_give_5 (by decide) (fun (c_5 : ¬ (hasP B b)) => ?_) (fun (c_5 : hasP B b) => ?_)
  · skip
    refine lv_bipush (v := (-101)) hx hb dX3_give_16 (by decide) ?_
    exact hq (-101) σ _ _ 18 ls dX3_give_18 (show (-101) = (giveCF σ Hn B b t).1 ∧ σ = (giveCF σ Hn B b t).2 from ⟨(by unfold giveCF; rw [zif_f (fun z => c_5 z.1)]), (by unfold giveCF; rw [zif_f (fun z => c_5 z.1)])⟩) hP hD hS
  · skip
    obtain ⟨i, hi6, rfl⟩ := c_5
    refine lv_aload_n hx hb dX3_give_8 rfl (lv_at hl 0 rfl) ?_
    refine lv_iload_n hx hb dX3_give_9 rfl (lv_at hl 2 rfl) ?_
    refine z_callV (As := [.int t]) (rest := []) ⟨hx, hb, hml, hown, hts⟩ (c_X3_isHolder l dC dI cI cZ bd σ Hn B L C V M hI ξ (σ 0 7) sd kv hh t) (cwV 1 hts gX3_give_X3_isHolder rfl rfl rfl (by decide +kernel) ⟨Nat.le_of_ble_eq_true rfl, Nat.le_of_ble_eq_true rfl⟩) hP hK (va_recv hK hP (ci := 3) (q0 := 0) rfl rfl) rfl hl.1 rfl (Nat.le_of_ble_eq_true rfl) ⟨Nat.zero_le _, Nat.zero_le _⟩ dX3_give_10 (fun r hr => ?_)
    obtain rfl : r = zb (hasP Hn t) := hr
    refine z_ifne_b (P := hasP Hn t) (tgt := 19) hx hb dX3_give_13 (by decide) (fun (c_13 : hasP Hn t) => ?_) (fun (c_13 : ¬ (hasP Hn t)) => ?_)
    · skip
      obtain ⟨j, hj, rfl⟩ := c_13
      refine lv_aload_n hx hb dX3_give_19 rfl (lv_at hl 0 rfl) ?_
      refine lv_iload_n hx hb dX3_give_20 rfl (lv_at hl 1 rfl) ?_
      refine lv_iload_n hx hb dX3_give_21 rfl (lv_at hl 2 rfl) ?_
      refine z_callV (As := [.int (nI i), .int (nI j)]) (rest := []) ⟨hx, hb, hml, hown, hts⟩ (c_X3_mayGive l dC dI cI cZ bd σ Hn B L C V M hI ξ (σ 0 7) sd kv hh i (by omega) j (by omega)) (cwV 2 hts gX3_give_X3_mayGive rfl rfl rfl (by decide +kernel) ⟨Nat.le_of_ble_eq_true rfl, Nat.le_of_ble_eq_true rfl⟩) hP hK (va_recv hK hP (ci := 3) (q0 := 0) rfl rfl) rfl hl.1 rfl (Nat.le_of_ble_eq_true rfl) ⟨Nat.zero_le _, Nat.zero_le _⟩ dX3_give_22 (fun r hr => ?_)
      obtain rfl : r = zb (giveP σ i j) := hr
      refine z_ifne_b (P := giveP σ i j) (tgt := 31) hx hb dX3_give_25 (by decide) (fun (c_25 : giveP σ i j) => ?_) (fun (c_25 : ¬ (giveP σ i j)) => ?_)
      · skip
        refine lv_aload_n hx hb dX3_give_31 rfl (lv_at hl 0 rfl) ?_
        refine va_get (D := (dC, dI)) (ci := 3) (v := .ref (bd 3)) (C := RX3) (T := TX3) (N := 24) hx hb hts hin3 hown hK hP 0 rfl rfl 12 (by decide) L16 (fun _ h9 => h9) rfl dX3_give_32 ?_
        refine lv_iconst (v := nI 5) hx hb dX3_give_35 (by decide) ?_
        refine lv_iload_n hx hb dX3_give_36 rfl (lv_at hl 1 rfl) ?_
        refine z_imul (v := nI (5 * i)) hx hb dX3_give_37 (pk_mul _ _) ?_
        refine lv_iconst (v := nI 1) hx hb dX3_give_38 (by decide) ?_
        refine z_iadd (v := nI ((5 * i) + 1)) hx hb dX3_give_39 (nI_add _ _) ?_
        refine z_iald (D := (dC, dI)) hx hb hK hP 2 0 rfl rfl ((5 * i) + 1) (rfl) (by omega) (by omega) (v := σ 6 i) (rowsR σ i 1 (by decide)) dX3_give_40 ?_
        refine lv_istore_n (lv' := [(3, .int (σ 6 i)), (0, .ref (bd 0)), (1, .int (nI i)), (2, .int (nI j))]) hx hb dX3_give_41 rfl hl (by decide) rfl (fun ls hl => ?_)
        refine lv_aload_n hx hb dX3_give_42 rfl (lv_at hl 1 rfl) ?_
        refine lv_iload_n hx hb dX3_give_43 rfl (lv_at hl 2 rfl) ?_
        refine lv_iload_n hx hb dX3_give_44 rfl (lv_at hl 3 rfl) ?_
        refine z_callQv (As := [.int (nI i), .int (nI j)]) (rest := []) ⟨hx, hb, hml, hown, hts⟩ (c_X3_gives l dC dI cI cZ bd σ ξ (σ 0 7) sd kv hh i (by omega) j _) (cwV 2 hts gX3_give_X3_gives rfl rfl rfl (by decide +kernel) ⟨Nat.le_of_ble_eq_true rfl, Nat.le_of_ble_eq_true rfl⟩) (fun _ _ _ _ q => q) (fun _ _ _ => trivial) hP hD hK hS hA [0, 1, 2] [] rfl rfl rfl rfl (by decide) (va_recv hK hP (ci := 3) (q0 := 0) rfl rfl) rfl hl.1 rfl (Nat.le_of_ble_eq_true rfl) ⟨Nat.le_of_ble_eq_true rfl, Nat.le_of_ble_eq_true rfl⟩ dX3_give_45 (fun u H locs hr hP hD hS => ?_)
        obtain rfl := hr
        have hP : va_P (dC, dI) vwCl ([bo bd (layS σ i (nI j) (σ 6 i) (σ 0 6)) ξ (σ 0 7) sd kv hh, (bd 2, .inl (cI, 16, .inl (menOf (layS σ i (nI j) (σ 6 i) (σ 0 6))))), (bd 3, .inl (cI, 30, .inl (rowsOf (layS σ i (nI j) (σ 6 i) (σ 0 6)))))]) H := hP
        have hD : va_D A ([bo bd (layS σ i (nI j) (σ 6 i) (σ 0 6)) ξ (σ 0 7) sd kv hh, (bd 2, .inl (cI, 16, .inl (menOf (layS σ i (nI j) (σ 6 i) (σ 0 6))))), (bd 3, .inl (cI, 30, .inl (rowsOf (layS σ i (nI j) (σ 6 i) (σ 0 6)))))]) := hD
        refine lv_iload_n hx hb dX3_give_48 rfl (lv_at hl 0 rfl) ?_
        rw [← giftS_y c_25, ← giftS_num (σ := σ) (b := i) (t := j) 7] at hP hD
        have hP : va_P (dC, dI) vwCl ([bo bd (giftS σ i j) ξ (giftS σ i j 0 7) sd kv hh, (bd 2, .inl (cI, 16, .inl (menOf (giftS σ i j)))), (bd 3, .inl (cI, 30, .inl (rowsOf (giftS σ i j))))]) H := hP
        have hD : va_D A ([bo bd (giftS σ i j) ξ (giftS σ i j 0 7) sd kv hh, (bd 2, .inl (cI, 16, .inl (menOf (giftS σ i j)))), (bd 3, .inl (cI, 30, .inl (rowsOf (giftS σ i j))))]) := hD
        exact hq (σ 6 i) (giftS σ i j) _ _ 49 ls dX3_give_49 (show (σ 6 i) = (giveCF σ Hn B (nI i) (nI j)).1 ∧ (giftS σ i j) = (giveCF σ Hn B (nI i) (nI j)).2 from ⟨(by unfold giveCF; rw [zif_t ⟨hasP_nI hi6, hasP_nI hj⟩, tn_nI (by omega), tn_nI (by omega), zif_t c_25]), (by unfold giveCF; rw [zif_t ⟨hasP_nI hi6, hasP_nI hj⟩, tn_nI (by omega), tn_nI (by omega), zif_t c_25])⟩) hP hD hS
      · skip
        refine lv_bipush (v := (-103)) hx hb dX3_give_28 (by decide) ?_
        exact hq (-103) σ _ _ 30 ls dX3_give_30 (show (-103) = (giveCF σ Hn B (nI i) (nI j)).1 ∧ σ = (giveCF σ Hn B (nI i) (nI j)).2 from ⟨(by unfold giveCF; rw [zif_t ⟨hasP_nI hi6, hasP_nI hj⟩, tn_nI (by omega), tn_nI (by omega), zif_f c_25]), (by unfold giveCF; rw [zif_t ⟨hasP_nI hi6, hasP_nI hj⟩, tn_nI (by omega), tn_nI (by omega), zif_f c_25])⟩) hP hD hS
    · skip
      refine lv_bipush (v := (-101)) hx hb dX3_give_16 (by decide) ?_
      exact hq (-101) σ _ _ 18 ls dX3_give_18 (show (-101) = (giveCF σ Hn B (nI i) t).1 ∧ σ = (giveCF σ Hn B (nI i) t).2 from ⟨(by unfold giveCF; rw [zif_f (fun z => c_13 z.2)]), (by unfold giveCF; rw [zif_f (fun z => c_13 z.2)])⟩) hP hD hS
abbrev rm_c_X3_die : Room := { frames := 3, cells := 0, slots := 0, locals := 75 }
set_option maxHeartbeats 4000000 in
set_option maxRecDepth 100000 in
theorem c_X3_die (l : Launch) (dC : Nat → ClassId) (dI : Nat → Nat → Nat) (cI cZ : ClassId) (bd : Nat → Nat) (σ : St) (Hn B L C V M : Nat) (hI : Inv σ Hn B L C V M) (ξ : Nat → Int32) (sd : Int32) (kv : Nat → Int32) (hh : Int64) (x : Int32) (sz : Nat) : Met l yX3_die wsX3_die rm_c_X3_die (va_Pc [.ref (bd 0), .int x] (zPre (dC, dI) vwCl (tyIZ cI cZ) ([bo bd σ ξ (σ 0 7) sd kv hh, (bd 2, .inl (cI, 16, .inl (menOf σ))), (bd 3, .inl (cI, 30, .inl (rowsOf σ)))]) sz (fun _ => True))) (va_Qi (fun (r : Int32) (u : St) => r = (dieF σ Hn B x).1 ∧ u = (dieF σ Hn B x).2) (zPost (dC, dI) vwCl (tyIZ cI cZ) ([bo bd σ ξ (σ 0 7) sd kv hh, (bd 2, .inl (cI, 16, .inl (menOf σ))), (bd 3, .inl (cI, 30, .inl (rowsOf σ)))]) sz (fun (u : St) => [bo bd u ξ (u 0 7) sd kv hh, (bd 2, .inl (cI, 16, .inl (menOf u))), (bd 3, .inl (cI, 30, .inl (rowsOf u)))])) (va_A ([bo bd σ ξ (σ 0 7) sd kv hh, (bd 2, .inl (cI, 16, .inl (menOf σ))), (bd 3, .inl (cI, 30, .inl (rowsOf σ)))]) sz)) 0 0 (va_A ([bo bd σ ξ (σ 0 7) sd kv hh, (bd 2, .inl (cI, 16, .inl (menOf σ))), (bd 3, .inl (cI, 30, .inl (rowsOf σ)))]) sz) := by
  refine z_impI (cc := cX3_die) (maxL := 3) (av := [.ref (bd 0), .int x]) (by decide) rfl (Nat.le_of_ble_eq_true rfl) ?_
  intro p e s m below meth c Q A ls hx hb hml hown hts hBs hP hK hD hS hA hAB hq hl
  have hown : s.vm.findClass RX3 = some m.cls := hown
  have hin3 : ∀ w ∈ wsX30, w ∈ wsX3_die := fun _ h => List.mem_cons_of_mem _ (List.mem_append_right _ h)
  have L142 := hts (.fieldLink RX3 142 "BestBeastModel" "taken" "I") (List.mem_of_getElem? (i := 1) rfl)
  obtain ⟨⟨iL, iC, iV, iM, iH, iB, jL, jC, jV, jM, jH, jB⟩, iK, iDe, iAl, iHe, iWo, iO1, iO2⟩ := id hI
  have hl : lv_has ls 3 [(0, .ref (bd 0)), (1, .int x)] := hl
  refine lv_aload_n hx hb dX3_die_0 rfl (lv_at hl 0 rfl) ?_
  refine lv_iload_n hx hb dX3_die_1 rfl (lv_at hl 1 rfl) ?_
  refine z_callV (As := [.int x]) (rest := []) ⟨hx, hb, hml, hown, hts⟩ (c_X3_isHolder l dC dI cI cZ bd σ Hn B L C V M hI ξ (σ 0 7) sd kv hh x) (cwV 1 hts gX3_die_X3_isHolder rfl rfl rfl (by decide +kernel) ⟨Nat.le_of_ble_eq_true rfl, Nat.le_of_ble_eq_true rfl⟩) hP hK (va_recv hK hP (ci := 3) (q0 := 0) rfl rfl) rfl hl.1 rfl (Nat.le_of_ble_eq_true rfl) ⟨Nat.zero_le _, Nat.zero_le _⟩ dX3_die_2 (fun r hr => ?_)
  obtain rfl : r = zb (hasP Hn x) := hr
  refine z_ifne_b (P := hasP Hn x) (tgt := 11) hx hb dX3_die_5 (by decide) (fun (c_5 : hasP Hn x) => ?_) (fun (c_5 : ¬ (hasP Hn x)) => ?_)
  · skip
    obtain ⟨j, hj, rfl⟩ := c_5
    refine lv_aload_n hx hb dX3_die_11 rfl (lv_at hl 0 rfl) ?_
    refine lv_iload_n hx hb dX3_die_12 rfl (lv_at hl 1 rfl) ?_
    refine z_callV (As := [.int (nI j)]) (rest := []) ⟨hx, hb, hml, hown, hts⟩ (c_X3_lives l dC dI cI cZ bd σ Hn B L C V M hI ξ (σ 0 7) sd kv hh j (by omega)) (cwV 1 hts gX3_die_X3_lives rfl rfl rfl (by decide +kernel) ⟨Nat.le_of_ble_eq_true rfl, Nat.le_of_ble_eq_true rfl⟩) hP hK (va_recv hK hP (ci := 3) (q0 := 0) rfl rfl) rfl hl.1 rfl (Nat.le_of_ble_eq_true rfl) ⟨Nat.zero_le _, Nat.zero_le _⟩ dX3_die_13 (fun r hr => ?_)
    obtain rfl : r = zb (σ 3 j = 1) := hr
    refine z_ifne_b (P := σ 3 j = 1) (tgt := 22) hx hb dX3_die_16 (by decide) (fun (c_16 : σ 3 j = 1) => ?_) (fun (c_16 : ¬ (σ 3 j = 1)) => ?_)
    · skip
      refine lv_aload_n hx hb dX3_die_22 rfl (lv_at hl 0 rfl) ?_
      refine lv_iload_n hx hb dX3_die_23 rfl (lv_at hl 1 rfl) ?_
      refine z_callQi (As := [.int (nI j)]) (rest := []) ⟨hx, hb, hml, hown, hts⟩ (c_X3_dies l dC dI cI cZ bd σ Hn B L C V M hI ξ (σ 0 7) sd kv hh j (by omega) _) (cwV 1 hts gX3_die_X3_dies rfl rfl rfl (by decide +kernel) ⟨Nat.le_of_ble_eq_true rfl, Nat.le_of_ble_eq_true rfl⟩) (fun _ _ _ _ q => q) (fun _ _ _ => trivial) hP hD hK hS hA [0, 1, 2] [] rfl rfl rfl rfl (by decide) (va_recv hK hP (ci := 3) (q0 := 0) rfl rfl) rfl hl.1 rfl (Nat.le_of_ble_eq_true rfl) ⟨Nat.le_of_ble_eq_true rfl, Nat.le_of_ble_eq_true rfl⟩ dX3_die_24 (fun r u H locs hr hP hD hS => ?_)
      obtain ⟨rfl, rfl⟩ := hr
      have hP : va_P (dC, dI) vwCl ([bo bd (buryS σ Hn B j) ξ (σ 0 7) sd kv hh, (bd 2, .inl (cI, 16, .inl (menOf (buryS σ Hn B j)))), (bd 3, .inl (cI, 30, .inl (rowsOf (buryS σ Hn B j))))]) H := hP
      have hD : va_D A ([bo bd (buryS σ Hn B j) ξ (σ 0 7) sd kv hh, (bd 2, .inl (cI, 16, .inl (menOf (buryS σ Hn B j)))), (bd 3, .inl (cI, 30, .inl (rowsOf (buryS σ Hn B j))))]) := hD
      have qH : (buryS σ Hn B j) 0 4 = nI Hn := (hI.buried j).1.2.2.2.2.1
      refine lv_istore_n (lv' := [(2, .int (lossF σ B j (heldF σ B (nI j)))), (0, .ref (bd 0)), (1, .int (nI j))]) hx hb dX3_die_27 rfl hl (by decide) rfl (fun ls hl => ?_)
      refine lv_aload_n hx hb dX3_die_28 rfl (lv_at hl 1 rfl) ?_
      refine lv_dup hx hb dX3_die_29 rfl ?_
      refine va_get (D := (dC, dI)) (ci := 3) (v := .int (σ 0 7)) (C := RX3) (T := TX3) (N := 24) hx hb hts hin3 hown hK hP 0 rfl rfl 8 (by decide) L142 (fun _ h9 => h9) rfl dX3_die_30 ?_
      refine lv_iload_n hx hb dX3_die_33 rfl (lv_at hl 0 rfl) ?_
      refine z_iadd (v := (σ 0 7) + (lossF σ B j (heldF σ B (nI j)))) hx hb dX3_die_34 (rfl) ?_
      refine va_put (D := (dC, dI)) (ci := 3) (v := .int ((σ 0 7) + (lossF σ B j (heldF σ B (nI j))))) (ty := .int) (C := RX3) (T := TX3) (N := 24) hx hb hts hin3 tyX3 tyX3_ok nmX3 hown hK hP hD hS 0 rfl rfl 8 (by decide) L142 (fun _ h9 => h9) rfl (by decide +kernel) rfl rfl (Nat.le_of_ble_eq_true rfl) dX3_die_35 (fun H locs hP hD hS => ?_)
      have hP : va_P (dC, dI) vwCl ([bo bd (buryS σ Hn B j) ξ ((σ 0 7) + (lossF σ B j (heldF σ B (nI j)))) sd kv hh, (bd 2, .inl (cI, 16, .inl (menOf (buryS σ Hn B j)))), (bd 3, .inl (cI, 30, .inl (rowsOf (buryS σ Hn B j))))]) H := hP
      have hD : va_D A ([bo bd (buryS σ Hn B j) ξ ((σ 0 7) + (lossF σ B j (heldF σ B (nI j)))) sd kv hh, (bd 2, .inl (cI, 16, .inl (menOf (buryS σ Hn B j)))), (bd 3, .inl (cI, 30, .inl (rowsOf (buryS σ Hn B j))))]) := hD
      refine lv_iload_n hx hb dX3_die_38 rfl (lv_at hl 0 rfl) ?_
      exact hq (lossF σ B j (heldF σ B (nI j))) (buryS σ Hn B j) _ _ 39 ls dX3_die_39 (show (lossF σ B j (heldF σ B (nI j))) = (dieF σ Hn B (nI j)).1 ∧ (buryS σ Hn B j) = (dieF σ Hn B (nI j)).2 from ⟨(by unfold dieF; rw [zif_t (hasP_nI hj), tn_nI (by omega), zif_t c_16]), (by unfold dieF; rw [zif_t (hasP_nI hj), tn_nI (by omega), zif_t c_16])⟩) hP hD hS
    · skip
      refine lv_bipush (v := (-103)) hx hb dX3_die_19 (by decide) ?_
      exact hq (-103) σ _ _ 21 ls dX3_die_21 (show (-103) = (dieF σ Hn B (nI j)).1 ∧ σ = (dieF σ Hn B (nI j)).2 from ⟨(by unfold dieF; rw [zif_t (hasP_nI hj), tn_nI (by omega), zif_f c_16]), (by unfold dieF; rw [zif_t (hasP_nI hj), tn_nI (by omega), zif_f c_16])⟩) hP hD hS
  · skip
    refine lv_bipush (v := (-101)) hx hb dX3_die_8 (by decide) ?_
    exact hq (-101) σ _ _ 10 ls dX3_die_10 (show (-101) = (dieF σ Hn B x).1 ∧ σ = (dieF σ Hn B x).2 from ⟨(by unfold dieF; rw [zif_f c_5]), (by unfold dieF; rw [zif_f c_5])⟩) hP hD hS
abbrev rm_c_X3_year : Room := { frames := 0, cells := 0, slots := 0, locals := 0 }
set_option maxHeartbeats 4000000 in
set_option maxRecDepth 100000 in
theorem c_X3_year (l : Launch) (dC : Nat → ClassId) (dI : Nat → Nat → Nat) (cI cZ : ClassId) (bd : Nat → Nat) (σ : St) (Hn B L C V M : Nat) (hI : Inv σ Hn B L C V M) (ξ : Nat → Int32) (sd : Int32) (kv : Nat → Int32) (hh : Int64)  (sz : Nat) : Met l yX3_year wsX3_year rm_c_X3_year (va_Pc [.ref (bd 0)] (zPre (dC, dI) vwCl (tyIZ cI cZ) ([bo bd σ ξ (σ 0 7) sd kv hh, (bd 2, .inl (cI, 16, .inl (menOf σ))), (bd 3, .inl (cI, 30, .inl (rowsOf σ)))]) sz (fun _ => True))) (va_Qi (fun (r : Int32) (u : St) => r = σ 0 6 + nI 1 ∧ u = up2 σ 0 6 (σ 0 6 + nI 1)) (zPost (dC, dI) vwCl (tyIZ cI cZ) ([bo bd σ ξ (σ 0 7) sd kv hh, (bd 2, .inl (cI, 16, .inl (menOf σ))), (bd 3, .inl (cI, 30, .inl (rowsOf σ)))]) sz (fun (u : St) => [bo bd u ξ (u 0 7) sd kv hh, (bd 2, .inl (cI, 16, .inl (menOf u))), (bd 3, .inl (cI, 30, .inl (rowsOf u)))])) (va_A ([bo bd σ ξ (σ 0 7) sd kv hh, (bd 2, .inl (cI, 16, .inl (menOf σ))), (bd 3, .inl (cI, 30, .inl (rowsOf σ)))]) sz)) 0 0 (va_A ([bo bd σ ξ (σ 0 7) sd kv hh, (bd 2, .inl (cI, 16, .inl (menOf σ))), (bd 3, .inl (cI, 30, .inl (rowsOf σ)))]) sz) := by
  refine z_impI (cc := cX3_year) (maxL := 1) (av := [.ref (bd 0)]) (by decide) rfl (Nat.le_of_ble_eq_true rfl) ?_
  intro p e s m below meth c Q A ls hx hb hml hown hts hBs hP hK hD hS hA hAB hq hl
  have hown : s.vm.findClass RX3 = some m.cls := hown
  have hin3 : ∀ w ∈ wsX30, w ∈ wsX3_year := fun _ h => List.mem_cons_of_mem _ (List.mem_append_right _ h)
  have L104 := hts (.fieldLink RX3 104 "BestBeastModel" "yearNow" "I") (List.mem_of_getElem? (i := 1) rfl)
  obtain ⟨⟨iL, iC, iV, iM, iH, iB, jL, jC, jV, jM, jH, jB⟩, iK, iDe, iAl, iHe, iWo, iO1, iO2⟩ := id hI
  have hl : lv_has ls 1 [(0, .ref (bd 0))] := hl
  refine lv_aload_n hx hb dX3_year_0 rfl (lv_at hl 0 rfl) ?_
  refine lv_dup hx hb dX3_year_1 rfl ?_
  refine va_get (D := (dC, dI)) (ci := 3) (v := .int (σ 0 6)) (C := RX3) (T := TX3) (N := 24) hx hb hts hin3 hown hK hP 0 rfl rfl 7 (by decide) L104 (fun _ h9 => h9) rfl dX3_year_2 ?_
  refine lv_iconst (v := nI 1) hx hb dX3_year_5 (by decide) ?_
  refine z_iadd (v := (σ 0 6) + (nI 1)) hx hb dX3_year_6 (rfl) ?_
  refine va_put (D := (dC, dI)) (ci := 3) (v := .int ((σ 0 6) + (nI 1))) (ty := .int) (C := RX3) (T := TX3) (N := 24) hx hb hts hin3 tyX3 tyX3_ok nmX3 hown hK hP hD hS 0 rfl rfl 7 (by decide) L104 (fun _ h9 => h9) rfl (by decide +kernel) rfl rfl (Nat.le_of_ble_eq_true rfl) dX3_year_7 (fun H locs hP hD hS => ?_)
  have hP : va_P (dC, dI) vwCl ([bo bd (up2 σ 0 6 ((σ 0 6) + (nI 1))) ξ (σ 0 7) sd kv hh, (bd 2, .inl (cI, 16, .inl (menOf (up2 σ 0 6 ((σ 0 6) + (nI 1)))))), (bd 3, .inl (cI, 30, .inl (rowsOf (up2 σ 0 6 ((σ 0 6) + (nI 1))))))]) H := hP
  have hD : va_D A ([bo bd (up2 σ 0 6 ((σ 0 6) + (nI 1))) ξ (σ 0 7) sd kv hh, (bd 2, .inl (cI, 16, .inl (menOf (up2 σ 0 6 ((σ 0 6) + (nI 1)))))), (bd 3, .inl (cI, 30, .inl (rowsOf (up2 σ 0 6 ((σ 0 6) + (nI 1))))))]) := hD
  refine lv_aload_n hx hb dX3_year_10 rfl (lv_at hl 0 rfl) ?_
  refine va_get (D := (dC, dI)) (ci := 3) (v := .int ((σ 0 6) + (nI 1))) (C := RX3) (T := TX3) (N := 24) hx hb hts hin3 hown hK hP 0 rfl rfl 7 (by decide) L104 (fun _ h9 => h9) rfl dX3_year_11 ?_
  exact hq ((σ 0 6) + (nI 1)) (up2 σ 0 6 ((σ 0 6) + (nI 1))) _ _ 14 ls dX3_year_14 (show ((σ 0 6) + (nI 1)) = σ 0 6 + nI 1 ∧ (up2 σ 0 6 ((σ 0 6) + (nI 1))) = up2 σ 0 6 (σ 0 6 + nI 1) from ⟨rfl, rfl⟩) hP hD hS
abbrev rm_c_X3_roll : Room := { frames := 2, cells := 0, slots := 0, locals := 46 }
set_option maxHeartbeats 4000000 in
set_option maxRecDepth 100000 in
theorem c_X3_roll (l : Launch) (dC : Nat → ClassId) (dI : Nat → Nat → Nat) (cI cZ : ClassId) (bd : Nat → Nat) (σ : St) (Hn B L C V M : Nat) (hI : Inv σ Hn B L C V M) (ξ : Nat → Int32) (sd : Int32) (kv : Nat → Int32) (hh : Int64) (b k : Int32) (sz : Nat) : Met l yX3_roll wsX3_roll rm_c_X3_roll (va_Pc [.ref (bd 0), .int b, .int k] (zPre (dC, dI) vwCl (tyIZ cI cZ) ([bo bd σ ξ (σ 0 7) sd kv hh, (bd 2, .inl (cI, 16, .inl (menOf σ))), (bd 3, .inl (cI, 30, .inl (rowsOf σ)))]) sz (fun _ => True))) (va_Qi (fun (r : Int32) (u : St) => r = (rollF σ B b k).1 ∧ u = (rollF σ B b k).2) (zPost (dC, dI) vwCl (tyIZ cI cZ) ([bo bd σ ξ (σ 0 7) sd kv hh, (bd 2, .inl (cI, 16, .inl (menOf σ))), (bd 3, .inl (cI, 30, .inl (rowsOf σ)))]) sz (fun (u : St) => [bo bd u ξ (u 0 7) sd kv hh, (bd 2, .inl (cI, 16, .inl (menOf u))), (bd 3, .inl (cI, 30, .inl (rowsOf u)))])) (va_A ([bo bd σ ξ (σ 0 7) sd kv hh, (bd 2, .inl (cI, 16, .inl (menOf σ))), (bd 3, .inl (cI, 30, .inl (rowsOf σ)))]) sz)) 0 0 (va_A ([bo bd σ ξ (σ 0 7) sd kv hh, (bd 2, .inl (cI, 16, .inl (menOf σ))), (bd 3, .inl (cI, 30, .inl (rowsOf σ)))]) sz) := by
  refine z_impI (cc := cX3_roll) (maxL := 4) (av := [.ref (bd 0), .int b, .int k]) (by decide) rfl (Nat.le_of_ble_eq_true rfl) ?_
  intro p e s m below meth c Q A ls hx hb hml hown hts hBs hP hK hD hS hA hAB hq hl
  have hown : s.vm.findClass RX3 = some m.cls := hown
  have hin3 : ∀ w ∈ wsX30, w ∈ wsX3_roll := fun _ h => List.mem_cons_of_mem _ (List.mem_append_right _ h)
  have L164 := hts (.constantLong RX3 164 (-1)) (List.mem_of_getElem? (i := 1) rfl)
  have L16 := hts (.fieldLink RX3 16 "BestBeastModel" "rows" "[I") (List.mem_of_getElem? (i := 2) rfl)
  obtain ⟨⟨iL, iC, iV, iM, iH, iB, jL, jC, jV, jM, jH, jB⟩, iK, iDe, iAl, iHe, iWo, iO1, iO2⟩ := id hI
  have hl : lv_has ls 4 [(0, .ref (bd 0)), (1, .int b), (2, .int k)] := hl
  refine lv_aload_n hx hb dX3_roll_0 rfl (lv_at hl 0 rfl) ?_
  refine lv_iload_n hx hb dX3_roll_1 rfl (lv_at hl 1 rfl) ?_
  refine z_callV (As := [.int b]) (rest := []) ⟨hx, hb, hml, hown, hts⟩ (c_X3_isBeast l dC dI cI cZ bd σ Hn B L C V M hI ξ (σ 0 7) sd kv hh b) (cwV 1 hts gX3_roll_X3_isBeast rfl rfl rfl (by decide +kernel) ⟨Nat.le_of_ble_eq_true rfl, Nat.le_of_ble_eq_true rfl⟩) hP hK (va_recv hK hP (ci := 3) (q0 := 0) rfl rfl) rfl hl.1 rfl (Nat.le_of_ble_eq_true rfl) ⟨Nat.zero_le _, Nat.zero_le _⟩ dX3_roll_2 (fun r hr => ?_)
  obtain rfl : r = zb (hasP B b) := hr
  refine z_ifne_b (P := hasP B b) (tgt := 11) hx hb dX3_roll_5 (by decide) (fun (c_5 : hasP B b) => ?_) (fun (c_5 : ¬ (hasP B b)) => ?_)
  · skip
    obtain ⟨i, hi6, rfl⟩ := c_5
    refine lv_iload_n hx hb dX3_roll_11 rfl (lv_at hl 2 rfl) ?_
    refine lv_i2l (v := k.toInt64) hx hb dX3_roll_12 (rfl) ?_
    refine lv_ldc2 hx hb hown L164 dX3_roll_13 ?_
    refine lv_lconst (v := 1) hx hb dX3_roll_16 (by decide) ?_
    refine z_callS (As := [.long k.toInt64, .long (-1), .long 1]) (rest := []) ⟨hx, hb, hml, hown, hts⟩ (c_X3_in l k.toInt64 (-1) 1) (va_cwS 3 hts gX3_roll_X3_in rfl rfl rfl (by decide +kernel) ⟨Nat.le_of_ble_eq_true rfl, Nat.le_of_ble_eq_true rfl⟩) rfl hl.1 rfl (Nat.le_of_ble_eq_true rfl) ⟨Nat.zero_le _, Nat.zero_le _⟩ dX3_roll_17 (fun r hr => ?_)
    obtain rfl : r = zb ((-1) ≤ k.toInt64 ∧ k.toInt64 ≤ 1) := hr
    refine z_topi (v := zb (k = -1 ∨ inP 0 1 k)) (zb_iff roll64) ?_
    refine z_ifne_b (P := k = -1 ∨ inP 0 1 k) (tgt := 26) hx hb dX3_roll_20 (by decide) (fun (c_20 : k = -1 ∨ inP 0 1 k) => ?_) (fun (c_20 : ¬ (k = -1 ∨ inP 0 1 k)) => ?_)
    · skip
      refine lv_aload_n hx hb dX3_roll_26 rfl (lv_at hl 0 rfl) ?_
      refine va_get (D := (dC, dI)) (ci := 3) (v := .ref (bd 3)) (C := RX3) (T := TX3) (N := 24) hx hb hts hin3 hown hK hP 0 rfl rfl 12 (by decide) L16 (fun _ h9 => h9) rfl dX3_roll_27 ?_
      refine lv_iconst (v := nI 5) hx hb dX3_roll_30 (by decide) ?_
      refine lv_iload_n hx hb dX3_roll_31 rfl (lv_at hl 1 rfl) ?_
      refine z_imul (v := nI (5 * i)) hx hb dX3_roll_32 (pk_mul _ _) ?_
      refine lv_iconst (v := nI 4) hx hb dX3_roll_33 (by decide) ?_
      refine z_iadd (v := nI ((5 * i) + 4)) hx hb dX3_roll_34 (nI_add _ _) ?_
      refine z_iald (D := (dC, dI)) hx hb hK hP 2 0 rfl rfl ((5 * i) + 4) (rfl) (by omega) (by omega) (v := σ 9 i) (rowsR σ i 4 (by decide)) dX3_roll_35 ?_
      refine lv_istore_n (lv' := [(3, .int (σ 9 i)), (0, .ref (bd 0)), (1, .int (nI i)), (2, .int k)]) hx hb dX3_roll_36 rfl hl (by decide) rfl (fun ls hl => ?_)
      refine lv_aload_n hx hb dX3_roll_37 rfl (lv_at hl 1 rfl) ?_
      refine va_get (D := (dC, dI)) (ci := 3) (v := .ref (bd 3)) (C := RX3) (T := TX3) (N := 24) hx hb hts hin3 hown hK hP 0 rfl rfl 12 (by decide) L16 (fun _ h9 => h9) rfl dX3_roll_38 ?_
      refine lv_iconst (v := nI 5) hx hb dX3_roll_41 (by decide) ?_
      refine lv_iload_n hx hb dX3_roll_42 rfl (lv_at hl 2 rfl) ?_
      refine z_imul (v := nI (5 * i)) hx hb dX3_roll_43 (pk_mul _ _) ?_
      refine lv_iconst (v := nI 4) hx hb dX3_roll_44 (by decide) ?_
      refine z_iadd (v := nI ((5 * i) + 4)) hx hb dX3_roll_45 (nI_add _ _) ?_
      refine lv_iload_n hx hb dX3_roll_46 rfl (lv_at hl 3 rfl) ?_
      refine z_iast (D := (dC, dI)) hx hb hK hP hD hS 2 0 rfl rfl ((5 * i) + 4) (rfl) (by omega) (by omega) (f' := rowsOf (up2 σ 9 i k)) (rowsW σ i 4 (by decide) _) dX3_roll_47 (fun H locs hP hD hS => ?_)
      have hP : va_P (dC, dI) vwCl ([bo bd (up2 σ 9 i k) ξ (σ 0 7) sd kv hh, (bd 2, .inl (cI, 16, .inl (menOf (up2 σ 9 i k)))), (bd 3, .inl (cI, 30, .inl (rowsOf (up2 σ 9 i k))))]) H := hP
      have hD : va_D A ([bo bd (up2 σ 9 i k) ξ (σ 0 7) sd kv hh, (bd 2, .inl (cI, 16, .inl (menOf (up2 σ 9 i k)))), (bd 3, .inl (cI, 30, .inl (rowsOf (up2 σ 9 i k))))]) := hD
      refine lv_iload_n hx hb dX3_roll_48 rfl (lv_at hl 0 rfl) ?_
      exact hq (σ 9 i) (up2 σ 9 i k) _ _ 49 ls dX3_roll_49 (show (σ 9 i) = (rollF σ B (nI i) k).1 ∧ (up2 σ 9 i k) = (rollF σ B (nI i) k).2 from ⟨(by unfold rollF; rw [zif_t (hasP_nI hi6), zif_t c_20, tn_nI (by omega)]), (by unfold rollF; rw [zif_t (hasP_nI hi6), zif_t c_20, tn_nI (by omega)])⟩) hP hD hS
    · skip
      refine lv_bipush (v := (-102)) hx hb dX3_roll_23 (by decide) ?_
      exact hq (-102) σ _ _ 25 ls dX3_roll_25 (show (-102) = (rollF σ B (nI i) k).1 ∧ σ = (rollF σ B (nI i) k).2 from ⟨(by unfold rollF; rw [zif_t (hasP_nI hi6), zif_f c_20]), (by unfold rollF; rw [zif_t (hasP_nI hi6), zif_f c_20])⟩) hP hD hS
  · skip
    refine lv_bipush (v := (-101)) hx hb dX3_roll_8 (by decide) ?_
    exact hq (-101) σ _ _ 10 ls dX3_roll_10 (show (-101) = (rollF σ B b k).1 ∧ σ = (rollF σ B b k).2 from ⟨(by unfold rollF; rw [zif_f c_5]), (by unfold rollF; rw [zif_f c_5])⟩) hP hD hS
abbrev rm_c_X3_whose : Room := { frames := 3, cells := 0, slots := 0, locals := 74 }
set_option maxHeartbeats 4000000 in
set_option maxRecDepth 100000 in
theorem c_X3_whose (l : Launch) (dC : Nat → ClassId) (dI : Nat → Nat → Nat) (cI cZ : ClassId) (bd : Nat → Nat) (σ : St) (Hn B L C V M : Nat) (hI : Inv σ Hn B L C V M) (ξ : Nat → Int32) (sd : Int32) (kv : Nat → Int32) (hh : Int64) (b h : Int32) (sz : Nat) : Met l yX3_whose wsX3_whose rm_c_X3_whose (va_Pc [.ref (bd 0), .int b, .int h] (zPre (dC, dI) vwCl (tyIZ cI cZ) ([bo bd σ ξ (σ 0 7) sd kv hh, (bd 2, .inl (cI, 16, .inl (menOf σ))), (bd 3, .inl (cI, 30, .inl (rowsOf σ)))]) sz (fun _ => True))) (va_Qi (fun (r : Int32) (u : Unit) => r = whoseF σ Hn B b h ∧ u = ()) (zPost (dC, dI) vwCl (tyIZ cI cZ) ([bo bd σ ξ (σ 0 7) sd kv hh, (bd 2, .inl (cI, 16, .inl (menOf σ))), (bd 3, .inl (cI, 30, .inl (rowsOf σ)))]) sz (fun (u : Unit) => [bo bd σ ξ (σ 0 7) sd kv hh, (bd 2, .inl (cI, 16, .inl (menOf σ))), (bd 3, .inl (cI, 30, .inl (rowsOf σ)))])) (va_A ([bo bd σ ξ (σ 0 7) sd kv hh, (bd 2, .inl (cI, 16, .inl (menOf σ))), (bd 3, .inl (cI, 30, .inl (rowsOf σ)))]) sz)) 0 0 (va_A ([bo bd σ ξ (σ 0 7) sd kv hh, (bd 2, .inl (cI, 16, .inl (menOf σ))), (bd 3, .inl (cI, 30, .inl (rowsOf σ)))]) sz) := by
  refine z_impI (cc := cX3_whose) (maxL := 8) (av := [.ref (bd 0), .int b, .int h]) (by decide) rfl (Nat.le_of_ble_eq_true rfl) ?_
  intro p e s m below meth c Q A ls hx hb hml hown hts hBs hP hK hD hS hA hAB hq hl
  have hown : s.vm.findClass RX3 = some m.cls := hown
  have hin3 : ∀ w ∈ wsX30, w ∈ wsX3_whose := fun _ h => List.mem_cons_of_mem _ (List.mem_append_right _ h)
  have L16 := hts (.fieldLink RX3 16 "BestBeastModel" "rows" "[I") (List.mem_of_getElem? (i := 1) rfl)
  have L76 := hts (.fieldLink RX3 76 "BestBeastModel" "holders" "I") (List.mem_of_getElem? (i := 2) rfl)
  obtain ⟨⟨iL, iC, iV, iM, iH, iB, jL, jC, jV, jM, jH, jB⟩, iK, iDe, iAl, iHe, iWo, iO1, iO2⟩ := id hI
  have hl : lv_has ls 8 [(0, .ref (bd 0)), (1, .int b), (2, .int h)] := hl
  refine lv_aload_n hx hb dX3_whose_0 rfl (lv_at hl 0 rfl) ?_
  refine lv_iload_n hx hb dX3_whose_1 rfl (lv_at hl 1 rfl) ?_
  refine z_callV (As := [.int b]) (rest := []) ⟨hx, hb, hml, hown, hts⟩ (c_X3_isBeast l dC dI cI cZ bd σ Hn B L C V M hI ξ (σ 0 7) sd kv hh b) (cwV 1 hts gX3_whose_X3_isBeast rfl rfl rfl (by decide +kernel) ⟨Nat.le_of_ble_eq_true rfl, Nat.le_of_ble_eq_true rfl⟩) hP hK (va_recv hK hP (ci := 3) (q0 := 0) rfl rfl) rfl hl.1 rfl (Nat.le_of_ble_eq_true rfl) ⟨Nat.zero_le _, Nat.zero_le _⟩ dX3_whose_2 (fun r hr => ?_)
  obtain rfl : r = zb (hasP B b) := hr
  refine z_ifeq_b (P := hasP B b) (tgt := 16) hx hb dX3_whose_5 (by decide) (fun (c_5 : ¬ (hasP B b)) => ?_) (fun (c_5 : hasP B b) => ?_)
  · skip
    refine lv_bipush (v := (-101)) hx hb dX3_whose_16 (by decide) ?_
    exact hq (-101) () _ _ 18 ls dX3_whose_18 (show (-101) = whoseF σ Hn B b h ∧ () = () from ⟨(by unfold whoseF; rw [zif_f (fun z => c_5 z.1)]), rfl⟩) hP hD hS
  · skip
    obtain ⟨i, hi6, rfl⟩ := c_5
    refine lv_aload_n hx hb dX3_whose_8 rfl (lv_at hl 0 rfl) ?_
    refine lv_iload_n hx hb dX3_whose_9 rfl (lv_at hl 2 rfl) ?_
    refine z_callV (As := [.int h]) (rest := []) ⟨hx, hb, hml, hown, hts⟩ (c_X3_isHolder l dC dI cI cZ bd σ Hn B L C V M hI ξ (σ 0 7) sd kv hh h) (cwV 1 hts gX3_whose_X3_isHolder rfl rfl rfl (by decide +kernel) ⟨Nat.le_of_ble_eq_true rfl, Nat.le_of_ble_eq_true rfl⟩) hP hK (va_recv hK hP (ci := 3) (q0 := 0) rfl rfl) rfl hl.1 rfl (Nat.le_of_ble_eq_true rfl) ⟨Nat.zero_le _, Nat.zero_le _⟩ dX3_whose_10 (fun r hr => ?_)
    obtain rfl : r = zb (hasP Hn h) := hr
    refine z_ifne_b (P := hasP Hn h) (tgt := 19) hx hb dX3_whose_13 (by decide) (fun (c_13 : hasP Hn h) => ?_) (fun (c_13 : ¬ (hasP Hn h)) => ?_)
    · skip
      obtain ⟨j, hj, rfl⟩ := c_13
      refine lv_aload_n hx hb dX3_whose_19 rfl (lv_at hl 0 rfl) ?_
      refine lv_iload_n hx hb dX3_whose_20 rfl (lv_at hl 2 rfl) ?_
      refine z_callV (As := [.int (nI j)]) (rest := []) ⟨hx, hb, hml, hown, hts⟩ (c_X3_lives l dC dI cI cZ bd σ Hn B L C V M hI ξ (σ 0 7) sd kv hh j (by omega)) (cwV 1 hts gX3_whose_X3_lives rfl rfl rfl (by decide +kernel) ⟨Nat.le_of_ble_eq_true rfl, Nat.le_of_ble_eq_true rfl⟩) hP hK (va_recv hK hP (ci := 3) (q0 := 0) rfl rfl) rfl hl.1 rfl (Nat.le_of_ble_eq_true rfl) ⟨Nat.zero_le _, Nat.zero_le _⟩ dX3_whose_21 (fun r hr => ?_)
      obtain rfl : r = zb (σ 3 j = 1) := hr
      refine z_ifne_b (P := σ 3 j = 1) (tgt := 30) hx hb dX3_whose_24 (by decide) (fun (c_24 : σ 3 j = 1) => ?_) (fun (c_24 : ¬ (σ 3 j = 1)) => ?_)
      · skip
        refine lv_aload_n hx hb dX3_whose_30 rfl (lv_at hl 0 rfl) ?_
        refine va_get (D := (dC, dI)) (ci := 3) (v := .ref (bd 3)) (C := RX3) (T := TX3) (N := 24) hx hb hts hin3 hown hK hP 0 rfl rfl 12 (by decide) L16 (fun _ h9 => h9) rfl dX3_whose_31 ?_
        refine lv_iconst (v := nI 5) hx hb dX3_whose_34 (by decide) ?_
        refine lv_iload_n hx hb dX3_whose_35 rfl (lv_at hl 1 rfl) ?_
        refine z_imul (v := nI (5 * i)) hx hb dX3_whose_36 (pk_mul _ _) ?_
        refine lv_iconst (v := nI 1) hx hb dX3_whose_37 (by decide) ?_
        refine z_iadd (v := nI ((5 * i) + 1)) hx hb dX3_whose_38 (nI_add _ _) ?_
        refine z_iald (D := (dC, dI)) hx hb hK hP 2 0 rfl rfl ((5 * i) + 1) (rfl) (by omega) (by omega) (v := σ 6 i) (rowsR σ i 1 (by decide)) dX3_whose_39 ?_
        refine lv_istore_n (lv' := [(3, .int (σ 6 i)), (0, .ref (bd 0)), (1, .int (nI i)), (2, .int (nI j))]) hx hb dX3_whose_40 rfl hl (by decide) rfl (fun ls hl => ?_)
        refine lv_aload_n hx hb dX3_whose_41 rfl (lv_at hl 1 rfl) ?_
        refine va_get (D := (dC, dI)) (ci := 3) (v := .ref (bd 3)) (C := RX3) (T := TX3) (N := 24) hx hb hts hin3 hown hK hP 0 rfl rfl 12 (by decide) L16 (fun _ h9 => h9) rfl dX3_whose_42 ?_
        refine lv_iconst (v := nI 5) hx hb dX3_whose_45 (by decide) ?_
        refine lv_iload_n hx hb dX3_whose_46 rfl (lv_at hl 2 rfl) ?_
        refine z_imul (v := nI (5 * i)) hx hb dX3_whose_47 (pk_mul _ _) ?_
        refine lv_iconst (v := nI 2) hx hb dX3_whose_48 (by decide) ?_
        refine z_iadd (v := nI ((5 * i) + 2)) hx hb dX3_whose_49 (nI_add _ _) ?_
        refine z_iald (D := (dC, dI)) hx hb hK hP 2 0 rfl rfl ((5 * i) + 2) (rfl) (by omega) (by omega) (v := σ 7 i) (rowsR σ i 2 (by decide)) dX3_whose_50 ?_
        refine lv_istore (lv' := [(4, .int (σ 7 i)), (3, .int (σ 6 i)), (0, .ref (bd 0)), (1, .int (nI i)), (2, .int (nI j))]) hx hb dX3_whose_51 hl (by decide) rfl (fun ls hl => ?_)
        refine lv_aload_n hx hb dX3_whose_53 rfl (lv_at hl 2 rfl) ?_
        refine va_get (D := (dC, dI)) (ci := 3) (v := .ref (bd 3)) (C := RX3) (T := TX3) (N := 24) hx hb hts hin3 hown hK hP 0 rfl rfl 12 (by decide) L16 (fun _ h9 => h9) rfl dX3_whose_54 ?_
        refine lv_iconst (v := nI 5) hx hb dX3_whose_57 (by decide) ?_
        refine lv_iload_n hx hb dX3_whose_58 rfl (lv_at hl 3 rfl) ?_
        refine z_imul (v := nI (5 * i)) hx hb dX3_whose_59 (pk_mul _ _) ?_
        refine lv_iconst (v := nI 3) hx hb dX3_whose_60 (by decide) ?_
        refine z_iadd (v := nI ((5 * i) + 3)) hx hb dX3_whose_61 (nI_add _ _) ?_
        refine z_iald (D := (dC, dI)) hx hb hK hP 2 0 rfl rfl ((5 * i) + 3) (rfl) (by omega) (by omega) (v := σ 8 i) (rowsR σ i 3 (by decide)) dX3_whose_62 ?_
        refine lv_istore (lv' := [(5, .int (σ 8 i)), (4, .int (σ 7 i)), (3, .int (σ 6 i)), (0, .ref (bd 0)), (1, .int (nI i)), (2, .int (nI j))]) hx hb dX3_whose_63 hl (by decide) rfl (fun ls hl => ?_)
        refine lv_iconst (v := nI 0) hx hb dX3_whose_65 (by decide) ?_
        refine lv_istore (lv' := [(6, .int (nI 0)), (5, .int (σ 8 i)), (4, .int (σ 7 i)), (3, .int (σ 6 i)), (0, .ref (bd 0)), (1, .int (nI i)), (2, .int (nI j))]) hx hb dX3_whose_66 hl (by decide) rfl (fun ls hl => ?_)
        refine lv_iconst (v := nI 0) hx hb dX3_whose_68 (by decide) ?_
        refine lv_istore (lv' := [(7, .int (nI 0)), (6, .int (nI 0)), (5, .int (σ 8 i)), (4, .int (σ 7 i)), (3, .int (σ 6 i)), (0, .ref (bd 0)), (1, .int (nI i)), (2, .int (nI j))]) hx hb dX3_whose_69 hl (by decide) rfl (fun ls hl => ?_)
        suffices hlp71 : ∀ (nf : Nat) (k : Nat) (τ : St) (x71_7 : Int32) (x71_6 : Int32) (ls : Array Slot) (H : Heap) (locs : List Loc), (k ≤ Hn) → (Inv τ Hn B L C V M) → (τ 3 = σ 3) → (∀ z : Int32, putS τ i z = putS σ i z) → (layS τ i (σ 6 i) (σ 7 i) (σ 8 i) = σ) → x71_7 = nI k → x71_6 = whoseR σ B i j k → va_P (dC, dI) vwCl ([bo bd τ ξ (σ 0 7) sd kv hh, (bd 2, .inl (cI, 16, .inl (menOf τ))), (bd 3, .inl (cI, 30, .inl (rowsOf τ)))]) H → va_D A ([bo bd τ ξ (σ 0 7) sd kv hh, (bd 2, .inl (cI, 16, .inl (menOf τ))), (bd 3, .inl (cI, 30, .inl (rowsOf τ)))]) → va_S A s.heap H locs → lv_has ls 8 [(7, .int x71_7), (6, .int x71_6), (5, .int (σ 8 i)), (4, .int (σ 7 i)), (3, .int (σ 6 i)), (0, .ref (bd 0)), (1, .int (nI i)), (2, .int (nI j))] → Hn - k < nf → W p l e rm_c_X3_whose s m ([.ref (bd 0), .int (nI i), .int (nI j)] : List Value).toArray below meth c H locs 0 0 Q (F0 m 71 ls []) by
          exact hlp71 ((Hn - 0) + 1) 0 σ (nI 0) (nI 0) ls _ _ (by omega) hI rfl (fun _ => rfl) (layS_back0 σ i) rfl rfl hP hD hS (lv_sub hl [0, 1, 2, 3, 4, 5, 6, 7] rfl) (by omega)
        clear hP hD hS hl
        intro nf
        induction nf with
        | zero => intro k τ x71_7 x71_6 ls H locs hk hk2 h3 hpp hback e71_7 e71_6 hP hD hS hl hn; omega
        | succ nf ih71 =>
          intro k τ x71_7 x71_6 ls H locs hk hk2 h3 hpp hback e71_7 e71_6 hP hD hS hl hn
          subst e71_7
          subst e71_6
          obtain ⟨⟨kL, kC, kV, kM, kH, kB, -⟩, -⟩ := id hk2
          refine lv_iload hx hb dX3_whose_71 (lv_at hl 0 rfl) ?_
          refine lv_aload_n hx hb dX3_whose_73 rfl (lv_at hl 5 rfl) ?_
          refine va_get (D := (dC, dI)) (ci := 3) (v := .int (nI Hn)) (C := RX3) (T := TX3) (N := 24) hx hb hts hin3 hown hK hP 0 rfl rfl 9 (by decide) L76 (fun _ h9 => h9) (congrArg (fun z => some (Value.int z)) kH) dX3_whose_74 ?_
          refine z_icmp_ge (a := k) (b := Hn) (tgt := 125) hx hb (by omega) (by omega) dX3_whose_77 (by decide) (fun (c_77 : Hn ≤ k) => ?_) (fun (c_77 : k < Hn) => ?_)
          · skip
            refine lv_aload_n hx hb dX3_whose_125 rfl (lv_at hl 5 rfl) ?_
            refine lv_iload_n hx hb dX3_whose_126 rfl (lv_at hl 6 rfl) ?_
            refine lv_iload_n hx hb dX3_whose_127 rfl (lv_at hl 4 rfl) ?_
            refine lv_iload hx hb dX3_whose_128 (lv_at hl 3 rfl) ?_
            refine lv_iload hx hb dX3_whose_130 (lv_at hl 2 rfl) ?_
            refine z_callQv (As := [.int (nI i), .int (σ 6 i), .int (σ 7 i), .int (σ 8 i)]) (rest := []) ⟨hx, hb, hml, hown, hts⟩ (c_X3_lay l dC dI cI cZ bd τ ξ (σ 0 7) sd kv hh i (by omega) (σ 6 i) (σ 7 i) (σ 8 i) _) (cwV 4 hts gX3_whose_X3_lay rfl rfl rfl (by decide +kernel) ⟨Nat.le_of_ble_eq_true rfl, Nat.le_of_ble_eq_true rfl⟩) (fun _ _ _ _ q => q) (fun _ _ _ => trivial) hP hD hK hS hA [0, 1, 2] [] rfl rfl rfl rfl (by decide) (va_recv hK hP (ci := 3) (q0 := 0) rfl rfl) rfl hl.1 rfl (Nat.le_of_ble_eq_true rfl) ⟨Nat.le_of_ble_eq_true rfl, Nat.le_of_ble_eq_true rfl⟩ dX3_whose_132 (fun u H locs hr hP hD hS => ?_)
            obtain rfl := hr
            have hP : va_P (dC, dI) vwCl ([bo bd (layS τ i (σ 6 i) (σ 7 i) (σ 8 i)) ξ (σ 0 7) sd kv hh, (bd 2, .inl (cI, 16, .inl (menOf (layS τ i (σ 6 i) (σ 7 i) (σ 8 i))))), (bd 3, .inl (cI, 30, .inl (rowsOf (layS τ i (σ 6 i) (σ 7 i) (σ 8 i)))))]) H := hP
            have hD : va_D A ([bo bd (layS τ i (σ 6 i) (σ 7 i) (σ 8 i)) ξ (σ 0 7) sd kv hh, (bd 2, .inl (cI, 16, .inl (menOf (layS τ i (σ 6 i) (σ 7 i) (σ 8 i))))), (bd 3, .inl (cI, 30, .inl (rowsOf (layS τ i (σ 6 i) (σ 7 i) (σ 8 i)))))]) := hD
            have hlay : layS τ i (σ 6 i) (σ 7 i) (σ 8 i) = σ := hback
            refine lv_iload hx hb dX3_whose_135 (lv_at hl 1 rfl) ?_
            rw [show (layS τ i (σ 6 i) (σ 7 i) (σ 8 i)) = σ from hlay] at hP hD
            exact hq (whoseR σ B i j k) () _ _ 137 ls dX3_whose_137 (show (whoseR σ B i j k) = whoseF σ Hn B (nI i) (nI j) ∧ () = () from ⟨(by unfold whoseF; rw [zif_t ⟨hasP_nI hi6, hasP_nI hj⟩, tn_nI (by omega), tn_nI (by omega), zif_t c_24, show Hn = k by omega]), rfl⟩) hP hD hS
          · skip
            refine lv_aload_n hx hb dX3_whose_80 rfl (lv_at hl 5 rfl) ?_
            refine lv_iload_n hx hb dX3_whose_81 rfl (lv_at hl 6 rfl) ?_
            refine lv_iload hx hb dX3_whose_82 (lv_at hl 0 rfl) ?_
            refine lv_iconst (v := (-1)) hx hb dX3_whose_84 (by decide) ?_
            refine lv_iconst (v := (-1)) hx hb dX3_whose_85 (by decide) ?_
            refine z_callQv (As := [.int (nI i), .int (nI k), .int (-1), .int (-1)]) (rest := []) ⟨hx, hb, hml, hown, hts⟩ (c_X3_lay l dC dI cI cZ bd τ ξ (σ 0 7) sd kv hh i (by omega) (nI k) (-1) (-1) _) (cwV 4 hts gX3_whose_X3_lay rfl rfl rfl (by decide +kernel) ⟨Nat.le_of_ble_eq_true rfl, Nat.le_of_ble_eq_true rfl⟩) (fun _ _ _ _ q => q) (fun _ _ _ => trivial) hP hD hK hS hA [0, 1, 2] [] rfl rfl rfl rfl (by decide) (va_recv hK hP (ci := 3) (q0 := 0) rfl rfl) rfl hl.1 rfl (Nat.le_of_ble_eq_true rfl) ⟨Nat.le_of_ble_eq_true rfl, Nat.le_of_ble_eq_true rfl⟩ dX3_whose_86 (fun u H locs hr hP hD hS => ?_)
            obtain rfl := hr
            have hP : va_P (dC, dI) vwCl ([bo bd (layS τ i (nI k) (-1) (-1)) ξ (σ 0 7) sd kv hh, (bd 2, .inl (cI, 16, .inl (menOf (layS τ i (nI k) (-1) (-1))))), (bd 3, .inl (cI, 30, .inl (rowsOf (layS τ i (nI k) (-1) (-1)))))]) H := hP
            have hD : va_D A ([bo bd (layS τ i (nI k) (-1) (-1)) ξ (σ 0 7) sd kv hh, (bd 2, .inl (cI, 16, .inl (menOf (layS τ i (nI k) (-1) (-1))))), (bd 3, .inl (cI, 30, .inl (rowsOf (layS τ i (nI k) (-1) (-1)))))]) := hD
            have hq2 : Inv (layS τ i (nI k) (-1) (-1)) Hn B L C V M := hk2.put i (nI k)
            obtain ⟨⟨qL, qC, qV, qM, qH, qB, -⟩, -⟩ := id hq2
            refine lv_iload hx hb dX3_whose_89 (lv_at hl 1 rfl) ?_
            refine lv_aload_n hx hb dX3_whose_91 rfl (lv_at hl 5 rfl) ?_
            refine lv_iload hx hb dX3_whose_92 (lv_at hl 0 rfl) ?_
            refine z_callV (As := [.int (nI k)]) (rest := [.int (whoseR σ B i j k)]) ⟨hx, hb, hml, hown, hts⟩ (c_X3_lives l dC dI cI cZ bd (layS τ i (nI k) (-1) (-1)) Hn B L C V M (hk2.put i (nI k)) ξ (σ 0 7) sd kv hh k (by omega)) (cwV 1 hts gX3_whose_X3_lives rfl rfl rfl (by decide +kernel) ⟨Nat.le_of_ble_eq_true rfl, Nat.le_of_ble_eq_true rfl⟩) hP hK (va_recv hK hP (ci := 3) (q0 := 0) rfl rfl) rfl hl.1 rfl (Nat.le_of_ble_eq_true rfl) ⟨Nat.zero_le _, Nat.zero_le _⟩ dX3_whose_94 (fun r hr => ?_)
            obtain rfl : r = zb ((layS τ i (nI k) (-1) (-1)) 3 k = 1) := hr
            refine z_ifeq_b (P := (layS τ i (nI k) (-1) (-1)) 3 k = 1) (tgt := 115) hx hb dX3_whose_97 (by decide) (fun (c_97 : ¬ ((layS τ i (nI k) (-1) (-1)) 3 k = 1)) => ?_) (fun (c_97 : (layS τ i (nI k) (-1) (-1)) 3 k = 1) => ?_)
            · skip
              refine lv_iconst (v := nI 0) hx hb dX3_whose_115 (by decide) ?_
              refine z_ior (v := (whoseR σ B i j k) ||| (nI 0)) hx hb dX3_whose_116 (rfl) ?_
              refine lv_istore (lv' := [(6, .int ((whoseR σ B i j k) ||| (nI 0))), (7, .int (nI k)), (5, .int (σ 8 i)), (4, .int (σ 7 i)), (3, .int (σ 6 i)), (0, .ref (bd 0)), (1, .int (nI i)), (2, .int (nI j))]) hx hb dX3_whose_117 hl (by decide) rfl (fun ls hl => ?_)
              refine lv_iinc (v := nI (k + 1)) (lv' := [(7, .int (nI (k + 1))), (6, .int ((whoseR σ B i j k) ||| (nI 0))), (5, .int (σ 8 i)), (4, .int (σ 7 i)), (3, .int (σ 6 i)), (0, .ref (bd 0)), (1, .int (nI i)), (2, .int (nI j))]) hx hb dX3_whose_119 hl (k := 1) rfl (nI_1 _) (by decide) rfl (fun ls hl => ?_)
              refine lv_goto (tgt := 71) hx hb dX3_whose_122 (by decide) ?_
              exact ih71 (k + 1) (layS τ i (nI k) (-1) (-1)) (nI (k + 1)) ((whoseR σ B i j k) ||| (nI 0)) ls _ _ (by omega) (hk2.put i (nI k)) h3 (fun z => (putS_putS τ i _ z).trans (hpp z)) (by have := hpp (nI k); unfold putS at this; rw [this]; exact layS_back σ i _) (show nI (k + 1) = nI (k + 1) from rfl) (show (whoseR σ B i j k) ||| (nI 0) = whoseR σ B i j (k + 1) from (by rw [or_0]; exact whoseR_n (fun z => c_97 (by show τ 3 k = 1; rw [h3]; exact z.1)))) hP hD hS (lv_sub hl [0, 1, 2, 3, 4, 5, 6, 7] rfl) (by omega)
            · skip
              refine lv_aload_n hx hb dX3_whose_100 rfl (lv_at hl 5 rfl) ?_
              refine lv_iload_n hx hb dX3_whose_101 rfl (lv_at hl 7 rfl) ?_
              refine z_callV (As := [.int (nI j)]) (rest := [.int (whoseR σ B i j k)]) ⟨hx, hb, hml, hown, hts⟩ (c_X3_isRolledBy l dC dI cI cZ bd (layS τ i (nI k) (-1) (-1)) Hn B L C V M (hk2.put i (nI k)) ξ (σ 0 7) sd kv hh j (by omega)) (cwV 1 hts gX3_whose_X3_isRolledBy rfl rfl rfl (by decide +kernel) ⟨Nat.le_of_ble_eq_true rfl, Nat.le_of_ble_eq_true rfl⟩) hP hK (va_recv hK hP (ci := 3) (q0 := 0) rfl rfl) rfl hl.1 rfl (Nat.le_of_ble_eq_true rfl) ⟨Nat.zero_le _, Nat.zero_le _⟩ dX3_whose_102 (fun r hr => ?_)
              obtain rfl : r = zb (toldF (layS τ i (nI k) (-1) (-1)) B j) := hr
              refine z_ifeq_b (P := toldF (layS τ i (nI k) (-1) (-1)) B j) (tgt := 115) hx hb dX3_whose_105 (by decide) (fun (c_105 : ¬ (toldF (layS τ i (nI k) (-1) (-1)) B j)) => ?_) (fun (c_105 : toldF (layS τ i (nI k) (-1) (-1)) B j) => ?_)
              · skip
                refine lv_iconst (v := nI 0) hx hb dX3_whose_115 (by decide) ?_
                refine z_ior (v := (whoseR σ B i j k) ||| (nI 0)) hx hb dX3_whose_116 (rfl) ?_
                refine lv_istore (lv' := [(6, .int ((whoseR σ B i j k) ||| (nI 0))), (7, .int (nI k)), (5, .int (σ 8 i)), (4, .int (σ 7 i)), (3, .int (σ 6 i)), (0, .ref (bd 0)), (1, .int (nI i)), (2, .int (nI j))]) hx hb dX3_whose_117 hl (by decide) rfl (fun ls hl => ?_)
                refine lv_iinc (v := nI (k + 1)) (lv' := [(7, .int (nI (k + 1))), (6, .int ((whoseR σ B i j k) ||| (nI 0))), (5, .int (σ 8 i)), (4, .int (σ 7 i)), (3, .int (σ 6 i)), (0, .ref (bd 0)), (1, .int (nI i)), (2, .int (nI j))]) hx hb dX3_whose_119 hl (k := 1) rfl (nI_1 _) (by decide) rfl (fun ls hl => ?_)
                refine lv_goto (tgt := 71) hx hb dX3_whose_122 (by decide) ?_
                exact ih71 (k + 1) (layS τ i (nI k) (-1) (-1)) (nI (k + 1)) ((whoseR σ B i j k) ||| (nI 0)) ls _ _ (by omega) (hk2.put i (nI k)) h3 (fun z => (putS_putS τ i _ z).trans (hpp z)) (by have := hpp (nI k); unfold putS at this; rw [this]; exact layS_back σ i _) (show nI (k + 1) = nI (k + 1) from rfl) (show (whoseR σ B i j k) ||| (nI 0) = whoseR σ B i j (k + 1) from (by rw [or_0]; exact whoseR_n (fun z => c_105 (by have := z.2; rw [← hpp] at this; exact this)))) hP hD hS (lv_sub hl [0, 1, 2, 3, 4, 5, 6, 7] rfl) (by omega)
              · skip
                refine lv_iconst (v := nI 1) hx hb dX3_whose_108 (by decide) ?_
                refine lv_iload hx hb dX3_whose_109 (lv_at hl 0 rfl) ?_
                refine z_ishl (v := zbit k) hx hb dX3_whose_111 (rfl) ?_
                refine lv_goto (tgt := 116) hx hb dX3_whose_112 (by decide) ?_
                refine z_ior (v := (whoseR σ B i j k) ||| (zbit k)) hx hb dX3_whose_116 (rfl) ?_
                refine lv_istore (lv' := [(6, .int ((whoseR σ B i j k) ||| (zbit k))), (7, .int (nI k)), (5, .int (σ 8 i)), (4, .int (σ 7 i)), (3, .int (σ 6 i)), (0, .ref (bd 0)), (1, .int (nI i)), (2, .int (nI j))]) hx hb dX3_whose_117 hl (by decide) rfl (fun ls hl => ?_)
                refine lv_iinc (v := nI (k + 1)) (lv' := [(7, .int (nI (k + 1))), (6, .int ((whoseR σ B i j k) ||| (zbit k))), (5, .int (σ 8 i)), (4, .int (σ 7 i)), (3, .int (σ 6 i)), (0, .ref (bd 0)), (1, .int (nI i)), (2, .int (nI j))]) hx hb dX3_whose_119 hl (k := 1) rfl (nI_1 _) (by decide) rfl (fun ls hl => ?_)
                refine lv_goto (tgt := 71) hx hb dX3_whose_122 (by decide) ?_
                exact ih71 (k + 1) (layS τ i (nI k) (-1) (-1)) (nI (k + 1)) ((whoseR σ B i j k) ||| (zbit k)) ls _ _ (by omega) (hk2.put i (nI k)) h3 (fun z => (putS_putS τ i _ z).trans (hpp z)) (by have := hpp (nI k); unfold putS at this; rw [this]; exact layS_back σ i _) (show nI (k + 1) = nI (k + 1) from rfl) (show (whoseR σ B i j k) ||| (zbit k) = whoseR σ B i j (k + 1) from whoseR_y (by have : τ 3 k = 1 := c_97; rw [h3] at this; exact this) (by rw [← hpp]; exact c_105)) hP hD hS (lv_sub hl [0, 1, 2, 3, 4, 5, 6, 7] rfl) (by omega)
      · skip
        refine lv_bipush (v := (-103)) hx hb dX3_whose_27 (by decide) ?_
        exact hq (-103) () _ _ 29 ls dX3_whose_29 (show (-103) = whoseF σ Hn B (nI i) (nI j) ∧ () = () from ⟨(by unfold whoseF; rw [zif_t ⟨hasP_nI hi6, hasP_nI hj⟩, tn_nI (by omega), tn_nI (by omega), zif_f c_24]), rfl⟩) hP hD hS
    · skip
      refine lv_bipush (v := (-101)) hx hb dX3_whose_16 (by decide) ?_
      exact hq (-101) () _ _ 18 ls dX3_whose_18 (show (-101) = whoseF σ Hn B (nI i) h ∧ () = () from ⟨(by unfold whoseF; rw [zif_f (fun z => c_13 z.2)]), rfl⟩) hP hD hS
