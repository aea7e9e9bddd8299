/-! ===== the class: what changes it ===== -/
abbrev rm_c_X2_image : Room := { frames := 2, cells := 0, slots := 0, locals := 39 }
set_option maxHeartbeats 4000000 in
set_option maxRecDepth 100000 in
theorem c_X2_image (l : Launch) (dC : Nat → ClassId) (dI : Nat → Nat → Nat) (cI cZ : ClassId) (xd ma ka ta : Nat → Nat) (σ : St) (Hn B L C V M : Nat) (hI : Inv σ Hn B L C V M) (ξ : Nat → Int32) (hi : Int32) (κ : St) (sz : Nat) : Met l yX2_image wsX2_image rm_c_X2_image (va_Pc [.ref (xd 0)] (zPre (dC, dI) vwCl (tyIZ cI cZ) (xo xd ma ka ta ξ hi :: (mw cI cZ ma σ ++ mw cI cZ ka κ)) sz (fun _ => True))) (va_Qi (fun (r : Int32) (u : Unit) => r = σ 0 6 ∧ u = ()) (zPost (dC, dI) vwCl (tyIZ cI cZ) (xo xd ma ka ta ξ hi :: (mw cI cZ ma σ ++ mw cI cZ ka κ)) sz (fun (u : Unit) => xo xd ma ka ta ξ (nI 1) :: (mw cI cZ ma σ ++ mw cI cZ ka σ))) (va_A (xo xd ma ka ta ξ hi :: (mw cI cZ ma σ ++ mw cI cZ ka κ)) sz)) 0 0 (va_A (xo xd ma ka ta ξ hi :: (mw cI cZ ma σ ++ mw cI cZ ka κ)) sz) := by
  refine z_impI (cc := cX2_image) (maxL := 1) (av := [.ref (xd 0)]) (by decide) rfl (Nat.le_of_ble_eq_true rfl) ?_
  intro p e s m below meth c Q A ls hx hb hml hown hts hBs hP hK hD hS hA hAB hq hl
  have hown : s.vm.findClass RX2 = some m.cls := hown
  have hin1 : ∀ w ∈ wsX10, w ∈ wsX2_image := fun _ h => List.mem_cons_of_mem _ (List.mem_append_right _ h)
  have hin2 : ∀ w ∈ wsX20, w ∈ wsX2_image := fun _ h => List.mem_cons_of_mem _ (List.mem_append_left _ (List.mem_append_right _ h))
  have L16 := hts (.fieldLink RX2 16 "BestBeast" "kept" "LBestBeast$Manor;") (List.mem_of_getElem? (i := 1) rfl)
  have L10 := hts (.fieldLink RX2 10 "BestBeast" "manor" "LBestBeast$Manor;") (List.mem_of_getElem? (i := 2) rfl)
  have L40 := hts (.fieldLink RX2 40 "BestBeast" "hasImage" "Z") (List.mem_of_getElem? (i := 3) rfl)
  have L146 := hts (.fieldLink RX2 146 "BestBeast$Manor" "yearNow" "I") (List.mem_of_getElem? (i := 4) rfl)
  obtain ⟨⟨iL, iC, iV, iM, iH, iB, jL, jC, jV, jM, jH, jB⟩, iK, iDe, iAl, iHe, iWo, iO1, iO2⟩ := id hI
  have hl : lv_has ls 1 [(0, .ref (xd 0))] := hl
  refine lv_aload_n hx hb dX2_image_0 rfl (lv_at hl 0 rfl) ?_
  refine va_get (D := (dC, dI)) (ci := 2) (v := .ref (ka 0)) (C := RX2) (T := TX2) (N := 8) hx hb hts hin2 hown hK hP 0 rfl rfl 1 (by decide) L16 (fun _ h9 => h9) rfl dX2_image_1 ?_
  refine lv_aload_n hx hb dX2_image_4 rfl (lv_at hl 0 rfl) ?_
  refine va_get (D := (dC, dI)) (ci := 2) (v := .ref (ma 0)) (C := RX2) (T := TX2) (N := 8) hx hb hts hin2 hown hK hP 0 rfl rfl 0 (by decide) L10 (fun _ h9 => h9) rfl dX2_image_5 ?_
  refine z_callQv (As := [.ref (ma 0)]) (rest := []) ⟨hx, hb, hml, hown, hts⟩ (c_X1_copyFrom l dC dI cI cZ ka ma κ σ (fun j hj => iAl j hj) _) (cwV 1 hts gX2_image_X1_copyFrom rfl rfl rfl (by decide +kernel) ⟨Nat.le_of_ble_eq_true rfl, Nat.le_of_ble_eq_true rfl⟩) (fun _ _ _ _ q => q) (fun _ _ _ => trivial) hP hD hK hS hA [11, 12, 13, 14, 15, 16, 17, 18, 19, 20, 1, 2, 3, 4, 5, 6, 7, 8, 9, 10] [0] rfl rfl rfl rfl (by decide) (va_recv hK hP (ci := 1) (q0 := 11) rfl rfl) rfl hl.1 rfl (Nat.le_of_ble_eq_true rfl) ⟨Nat.le_of_ble_eq_true rfl, Nat.le_of_ble_eq_true rfl⟩ dX2_image_8 (fun u H locs hr hP hD hS => ?_)
  clear hr
  have hP : va_P (dC, dI) vwCl (xo xd ma ka ta ξ hi :: (mw cI cZ ma σ ++ mw cI cZ ka σ)) H := hP.sub [0, 11, 12, 13, 14, 15, 16, 17, 18, 19, 20, 1, 2, 3, 4, 5, 6, 7, 8, 9, 10] rfl
  have hD : va_D A (xo xd ma ka ta ξ hi :: (mw cI cZ ma σ ++ mw cI cZ ka σ)) := hD.sub [0, 11, 12, 13, 14, 15, 16, 17, 18, 19, 20, 1, 2, 3, 4, 5, 6, 7, 8, 9, 10] rfl rfl
  refine lv_aload_n hx hb dX2_image_11 rfl (lv_at hl 0 rfl) ?_
  refine lv_iconst (v := nI 1) hx hb dX2_image_12 (by decide) ?_
  refine va_put (D := (dC, dI)) (ci := 2) (v := .int (nI 1)) (ty := .boolean) (C := RX2) (T := TX2) (N := 8) hx hb hts hin2 tyX2 tyX2_ok nmX2 hown hK hP hD hS 0 rfl rfl 7 (by decide) L40 (fun _ h9 => h9) rfl (by decide +kernel) rfl rfl (Nat.le_of_ble_eq_true rfl) dX2_image_13 (fun H locs hP hD hS => ?_)
  have hP : va_P (dC, dI) vwCl (xo xd ma ka ta ξ (nI 1) :: (mw cI cZ ma σ ++ mw cI cZ ka σ)) H := hP
  have hD : va_D A (xo xd ma ka ta ξ (nI 1) :: (mw cI cZ ma σ ++ mw cI cZ ka σ)) := hD
  refine lv_aload_n hx hb dX2_image_16 rfl (lv_at hl 0 rfl) ?_
  refine va_get (D := (dC, dI)) (ci := 2) (v := .ref (ma 0)) (C := RX2) (T := TX2) (N := 8) hx hb hts hin2 hown hK hP 0 rfl rfl 0 (by decide) L10 (fun _ h9 => h9) rfl dX2_image_17 ?_
  refine va_get (D := (dC, dI)) (ci := 1) (v := .int (σ 0 6)) (C := RX1) (T := TX1) (N := 17) hx hb hts hin1 hown hK hP 1 rfl rfl 15 (by decide) L146 (fun _ h9 => h9) rfl dX2_image_20 ?_
  exact hq (σ 0 6) () _ _ 23 ls dX2_image_23 (show (σ 0 6) = σ 0 6 ∧ () = () from ⟨rfl, rfl⟩) hP hD hS
abbrev rm_c_X2_restore : Room := { frames := 2, cells := 0, slots := 0, locals := 39 }
set_option maxHeartbeats 4000000 in
set_option maxRecDepth 100000 in
theorem c_X2_restore (l : Launch) (dC : Nat → ClassId) (dI : Nat → Nat → Nat) (cI cZ : ClassId) (xd ma ka ta : Nat → Nat) (σ : St) (ξ : Nat → Int32) (hi : Int32) (κ : St) (hAl : ∀ j, j < 4 → κ 3 j = 0 ∨ κ 3 j = 1)  (sz : Nat) : Met l yX2_restore wsX2_restore rm_c_X2_restore (va_Pc [.ref (xd 0)] (zPre (dC, dI) vwCl (tyIZ cI cZ) (xo xd ma ka ta ξ hi :: (mw cI cZ ma σ ++ mw cI cZ ka κ)) sz (fun _ => True))) (va_Qi (fun (r : Int32) (u : St) => r = (restoreF σ κ hi).1 ∧ u = (restoreF σ κ hi).2) (zPost (dC, dI) vwCl (tyIZ cI cZ) (xo xd ma ka ta ξ hi :: (mw cI cZ ma σ ++ mw cI cZ ka κ)) sz (fun (u : St) => xo xd ma ka ta ξ hi :: (mw cI cZ ma u ++ mw cI cZ ka κ))) (va_A (xo xd ma ka ta ξ hi :: (mw cI cZ ma σ ++ mw cI cZ ka κ)) sz)) 0 0 (va_A (xo xd ma ka ta ξ hi :: (mw cI cZ ma σ ++ mw cI cZ ka κ)) sz) := by
  refine z_impI (cc := cX2_restore) (maxL := 1) (av := [.ref (xd 0)]) (by decide) rfl (Nat.le_of_ble_eq_true rfl) ?_
  intro p e s m below meth c Q A ls hx hb hml hown hts hBs hP hK hD hS hA hAB hq hl
  have hown : s.vm.findClass RX2 = some m.cls := hown
  have hin1 : ∀ w ∈ wsX10, w ∈ wsX2_restore := fun _ h => List.mem_cons_of_mem _ (List.mem_append_right _ h)
  have hin2 : ∀ w ∈ wsX20, w ∈ wsX2_restore := fun _ h => List.mem_cons_of_mem _ (List.mem_append_left _ (List.mem_append_right _ h))
  have L40 := hts (.fieldLink RX2 40 "BestBeast" "hasImage" "Z") (List.mem_of_getElem? (i := 1) rfl)
  have L10 := hts (.fieldLink RX2 10 "BestBeast" "manor" "LBestBeast$Manor;") (List.mem_of_getElem? (i := 2) rfl)
  have L16 := hts (.fieldLink RX2 16 "BestBeast" "kept" "LBestBeast$Manor;") (List.mem_of_getElem? (i := 3) rfl)
  have L146 := hts (.fieldLink RX2 146 "BestBeast$Manor" "yearNow" "I") (List.mem_of_getElem? (i := 4) rfl)
  have hl : lv_has ls 1 [(0, .ref (xd 0))] := hl
  refine lv_aload_n hx hb dX2_restore_0 rfl (lv_at hl 0 rfl) ?_
  refine va_get (D := (dC, dI)) (ci := 2) (v := .int hi) (C := RX2) (T := TX2) (N := 8) hx hb hts hin2 hown hK hP 0 rfl rfl 7 (by decide) L40 (fun _ h9 => h9) rfl dX2_restore_1 ?_
  refine lv_if_ne (tgt := 10) hx hb dX2_restore_4 (by decide) (fun (c_4 : ¬ hi = 0) => ?_) (fun (c_4 : hi = 0) => ?_)
  · skip
    refine lv_aload_n hx hb dX2_restore_10 rfl (lv_at hl 0 rfl) ?_
    refine va_get (D := (dC, dI)) (ci := 2) (v := .ref (ma 0)) (C := RX2) (T := TX2) (N := 8) hx hb hts hin2 hown hK hP 0 rfl rfl 0 (by decide) L10 (fun _ h9 => h9) rfl dX2_restore_11 ?_
    refine lv_aload_n hx hb dX2_restore_14 rfl (lv_at hl 0 rfl) ?_
    refine va_get (D := (dC, dI)) (ci := 2) (v := .ref (ka 0)) (C := RX2) (T := TX2) (N := 8) hx hb hts hin2 hown hK hP 0 rfl rfl 1 (by decide) L16 (fun _ h9 => h9) rfl dX2_restore_15 ?_
    refine z_callQv (As := [.ref (ka 0)]) (rest := []) ⟨hx, hb, hml, hown, hts⟩ (c_X1_copyFrom l dC dI cI cZ ma ka σ κ hAl _) (cwV 1 hts gX2_restore_X1_copyFrom rfl rfl rfl (by decide +kernel) ⟨Nat.le_of_ble_eq_true rfl, Nat.le_of_ble_eq_true rfl⟩) (fun _ _ _ _ q => q) (fun _ _ _ => trivial) hP hD hK hS hA [1, 2, 3, 4, 5, 6, 7, 8, 9, 10, 11, 12, 13, 14, 15, 16, 17, 18, 19, 20] [0] rfl rfl rfl rfl (by decide) (va_recv hK hP (ci := 1) (q0 := 1) rfl rfl) rfl hl.1 rfl (Nat.le_of_ble_eq_true rfl) ⟨Nat.le_of_ble_eq_true rfl, Nat.le_of_ble_eq_true rfl⟩ dX2_restore_18 (fun u H locs hr hP hD hS => ?_)
    clear hr
    have hP : va_P (dC, dI) vwCl (xo xd ma ka ta ξ hi :: (mw cI cZ ma κ ++ mw cI cZ ka κ)) H := hP.sub [0, 1, 2, 3, 4, 5, 6, 7, 8, 9, 10, 11, 12, 13, 14, 15, 16, 17, 18, 19, 20] rfl
    have hD : va_D A (xo xd ma ka ta ξ hi :: (mw cI cZ ma κ ++ mw cI cZ ka κ)) := hD.sub [0, 1, 2, 3, 4, 5, 6, 7, 8, 9, 10, 11, 12, 13, 14, 15, 16, 17, 18, 19, 20] rfl rfl
    refine lv_aload_n hx hb dX2_restore_21 rfl (lv_at hl 0 rfl) ?_
    refine va_get (D := (dC, dI)) (ci := 2) (v := .ref (ma 0)) (C := RX2) (T := TX2) (N := 8) hx hb hts hin2 hown hK hP 0 rfl rfl 0 (by decide) L10 (fun _ h9 => h9) rfl dX2_restore_22 ?_
    refine va_get (D := (dC, dI)) (ci := 1) (v := .int (κ 0 6)) (C := RX1) (T := TX1) (N := 17) hx hb hts hin1 hown hK hP 1 rfl rfl 15 (by decide) L146 (fun _ h9 => h9) rfl dX2_restore_25 ?_
    exact hq (κ 0 6) κ _ _ 28 ls dX2_restore_28 (show (κ 0 6) = (restoreF σ κ hi).1 ∧ κ = (restoreF σ κ hi).2 from ⟨(by unfold restoreF; rw [zif_f c_4]), (by unfold restoreF; rw [zif_f c_4])⟩) hP hD hS
  · skip
    refine lv_bipush (v := (-103)) hx hb dX2_restore_7 (by decide) ?_
    exact hq (-103) σ _ _ 9 ls dX2_restore_9 (show (-103) = (restoreF σ κ hi).1 ∧ σ = (restoreF σ κ hi).2 from ⟨(by unfold restoreF; rw [zif_t c_4]), (by unfold restoreF; rw [zif_t c_4])⟩) hP hD hS
