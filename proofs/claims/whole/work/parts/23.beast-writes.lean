/-! ===== the class: what changes it ===== -/
abbrev rm_c_X2_holder : Room := { frames := 1, cells := 0, slots := 0, locals := 23 }
set_option maxHeartbeats 4000000 in
set_option maxRecDepth 100000 in
theorem c_X2_holder (l : Launch) (dC : Nat → ClassId) (dI : Nat → Nat → Nat) (cI cZ : ClassId) (xd ma ka ta : Nat → Nat) (σ : St) (Hn B L C V M : Nat) (hI : Inv σ Hn B L C V M) (ξ : Nat → Int32) (hi : Int32) (kd d : Int32) (sz : Nat) : Met l yX2_holder wsX2_holder rm_c_X2_holder (va_Pc [.ref (xd 0), .int kd, .int d] (zPre (dC, dI) vwCl (tyIZ cI cZ) (xo xd ma ka ta ξ hi :: mw cI cZ ma σ) sz (fun _ => True))) (va_Qi (fun (r : Int32) (u : St) => r = (holderF σ Hn kd d).1 ∧ u = (holderF σ Hn kd d).2) (zPost (dC, dI) vwCl (tyIZ cI cZ) (xo xd ma ka ta ξ hi :: mw cI cZ ma σ) sz (fun (u : St) => xo xd ma ka ta ξ hi :: mw cI cZ ma u)) (va_A (xo xd ma ka ta ξ hi :: mw cI cZ ma σ) sz)) 0 0 (va_A (xo xd ma ka ta ξ hi :: mw cI cZ ma σ) sz) := by
  refine z_impI (cc := cX2_holder) (maxL := 3) (av := [.ref (xd 0), .int kd, .int d]) (by decide) rfl (Nat.le_of_ble_eq_true rfl) ?_
  intro p e s m below meth c Q A ls hx hb hml hown hts hBs hP hK hD hS hA hAB hq hl
  have hown : s.vm.findClass RX2 = some m.cls := hown
  have hin1 : ∀ w ∈ wsX10, w ∈ wsX2_holder := fun _ h => List.mem_cons_of_mem _ (List.mem_append_right _ h)
  have hin2 : ∀ w ∈ wsX20, w ∈ wsX2_holder := fun _ h => List.mem_cons_of_mem _ (List.mem_append_left _ (List.mem_append_right _ h))
  have L10 := hts (.fieldLink RX2 10 "BestBeast" "manor" "LBestBeast$Manor;") (List.mem_of_getElem? (i := 1) rfl)
  obtain ⟨⟨iL, iC, iV, iM, iH, iB, jL, jC, jV, jM, jH, jB⟩, iK, iDe, iAl, iHe, iWo, iO1, iO2⟩ := id hI
  have hl : lv_has ls 3 [(0, .ref (xd 0)), (1, .int kd), (2, .int d)] := hl
  refine lv_iload_n hx hb dX2_holder_0 rfl (lv_at hl 1 rfl) ?_
  refine lv_iconst (v := nI 0) hx hb dX2_holder_1 (by decide) ?_
  refine lv_iconst (v := nI 4) hx hb dX2_holder_2 (by decide) ?_
  refine z_callS (As := [.int kd, .int (nI 0), .int (nI 4)]) (rest := []) ⟨hx, hb, hml, hown, hts⟩ (c_X2_within_n l kd 0 4 (by omega) (by omega)) (va_cwS 3 hts gX2_holder_X2_within rfl rfl rfl (by decide +kernel) ⟨Nat.le_of_ble_eq_true rfl, Nat.le_of_ble_eq_true rfl⟩) rfl hl.1 rfl (Nat.le_of_ble_eq_true rfl) ⟨Nat.zero_le _, Nat.zero_le _⟩ dX2_holder_3 (fun r hr => ?_)
  obtain rfl : r = zb (inP 0 4 kd) := hr
  refine z_ifeq_b (P := inP 0 4 kd) (tgt := 19) hx hb dX2_holder_6 (by decide) (fun (c_6 : ¬ (inP 0 4 kd)) => ?_) (fun (c_6 : inP 0 4 kd) => ?_)
  · skip
    refine lv_bipush (v := (-102)) hx hb dX2_holder_19 (by decide) ?_
    exact hq (-102) σ _ _ 21 ls dX2_holder_21 (show (-102) = (holderF σ Hn kd d).1 ∧ σ = (holderF σ Hn kd d).2 from ⟨(by unfold holderF; rw [zif_f (fun z => c_6 z.1)]), (by unfold holderF; rw [zif_f (fun z => c_6 z.1)])⟩) hP hD hS
  · skip
    refine lv_iload_n hx hb dX2_holder_9 rfl (lv_at hl 2 rfl) ?_
    refine lv_iconst (v := nI 0) hx hb dX2_holder_10 (by decide) ?_
    refine lv_bipush (v := nI 9) hx hb dX2_holder_11 (by decide) ?_
    refine z_callS (As := [.int d, .int (nI 0), .int (nI 9)]) (rest := []) ⟨hx, hb, hml, hown, hts⟩ (c_X2_within_n l d 0 9 (by omega) (by omega)) (va_cwS 3 hts gX2_holder_X2_within rfl rfl rfl (by decide +kernel) ⟨Nat.le_of_ble_eq_true rfl, Nat.le_of_ble_eq_true rfl⟩) rfl hl.1 rfl (Nat.le_of_ble_eq_true rfl) ⟨Nat.zero_le _, Nat.zero_le _⟩ dX2_holder_13 (fun r hr => ?_)
    obtain rfl : r = zb (inP 0 9 d) := hr
    refine z_ifne_b (P := inP 0 9 d) (tgt := 22) hx hb dX2_holder_16 (by decide) (fun (c_16 : inP 0 9 d) => ?_) (fun (c_16 : ¬ (inP 0 9 d)) => ?_)
    · skip
      refine lv_aload_n hx hb dX2_holder_22 rfl (lv_at hl 0 rfl) ?_
      refine va_get (D := (dC, dI)) (ci := 2) (v := .ref (ma 0)) (C := RX2) (T := TX2) (N := 8) hx hb hts hin2 hown hK hP 0 rfl rfl 0 (by decide) L10 (fun _ h9 => h9) rfl dX2_holder_23 ?_
      refine lv_iload_n hx hb dX2_holder_26 rfl (lv_at hl 1 rfl) ?_
      refine lv_iload_n hx hb dX2_holder_27 rfl (lv_at hl 2 rfl) ?_
      refine z_callQi (As := [.int kd, .int d]) (rest := []) ⟨hx, hb, hml, hown, hts⟩ (c_X1_addHolder l dC dI cI cZ ma σ Hn B L C V M hI kd d _) (cwV 2 hts gX2_holder_X1_addHolder rfl rfl rfl (by decide +kernel) ⟨Nat.le_of_ble_eq_true rfl, Nat.le_of_ble_eq_true rfl⟩) (fun _ _ _ _ q => q) (fun _ _ _ => trivial) hP hD hK hS hA [1, 2, 3, 4, 5, 6, 7, 8, 9, 10] [0] rfl rfl rfl rfl (by decide) (va_recv hK hP (ci := 1) (q0 := 1) rfl rfl) rfl hl.1 rfl (Nat.le_of_ble_eq_true rfl) ⟨Nat.le_of_ble_eq_true rfl, Nat.le_of_ble_eq_true rfl⟩ dX2_holder_28 (fun r u H locs hr hP hD hS => ?_)
      obtain ⟨rfl, rfl⟩ := hr
      have hP : va_P (dC, dI) vwCl (xo xd ma ka ta ξ hi :: mw cI cZ ma ((addHF σ Hn kd d).2)) H := hP.sub [0, 1, 2, 3, 4, 5, 6, 7, 8, 9, 10] rfl
      have hD : va_D A (xo xd ma ka ta ξ hi :: mw cI cZ ma ((addHF σ Hn kd d).2)) := hD.sub [0, 1, 2, 3, 4, 5, 6, 7, 8, 9, 10] rfl rfl
      exact hq ((addHF σ Hn kd d).1) ((addHF σ Hn kd d).2) _ _ 31 ls dX2_holder_31 (show ((addHF σ Hn kd d).1) = (holderF σ Hn kd d).1 ∧ ((addHF σ Hn kd d).2) = (holderF σ Hn kd d).2 from ⟨(by unfold holderF addHF; rw [zif_t ⟨c_6, c_16⟩]), (by unfold holderF addHF; rw [zif_t ⟨c_6, c_16⟩])⟩) hP hD hS
    · skip
      refine lv_bipush (v := (-102)) hx hb dX2_holder_19 (by decide) ?_
      exact hq (-102) σ _ _ 21 ls dX2_holder_21 (show (-102) = (holderF σ Hn kd d).1 ∧ σ = (holderF σ Hn kd d).2 from ⟨(by unfold holderF; rw [zif_f (fun z => c_16 z.2)]), (by unfold holderF; rw [zif_f (fun z => c_16 z.2)])⟩) hP hD hS
abbrev rm_c_X2_heir : Room := { frames := 1, cells := 0, slots := 0, locals := 21 }
set_option maxHeartbeats 4000000 in
set_option maxRecDepth 100000 in
theorem c_X2_heir (l : Launch) (dC : Nat → ClassId) (dI : Nat → Nat → Nat) (cI cZ : ClassId) (xd ma ka ta : Nat → Nat) (σ : St) (Hn B L C V M : Nat) (hI : Inv σ Hn B L C V M) (ξ : Nat → Int32) (hi : Int32) (x h : Int32) (sz : Nat) : Met l yX2_heir wsX2_heir rm_c_X2_heir (va_Pc [.ref (xd 0), .int x, .int h] (zPre (dC, dI) vwCl (tyIZ cI cZ) (xo xd ma ka ta ξ hi :: mw cI cZ ma σ) sz (fun _ => True))) (va_Qi (fun (r : Int32) (u : St) => r = (heirF σ Hn x h).1 ∧ u = (heirF σ Hn x h).2) (zPost (dC, dI) vwCl (tyIZ cI cZ) (xo xd ma ka ta ξ hi :: mw cI cZ ma σ) sz (fun (u : St) => xo xd ma ka ta ξ hi :: mw cI cZ ma u)) (va_A (xo xd ma ka ta ξ hi :: mw cI cZ ma σ) sz)) 0 0 (va_A (xo xd ma ka ta ξ hi :: mw cI cZ ma σ) sz) := by
  refine z_impI (cc := cX2_heir) (maxL := 4) (av := [.ref (xd 0), .int x, .int h]) (by decide) rfl (Nat.le_of_ble_eq_true rfl) ?_
  intro p e s m below meth c Q A ls hx hb hml hown hts hBs hP hK hD hS hA hAB hq hl
  have hown : s.vm.findClass RX2 = some m.cls := hown
  have hin1 : ∀ w ∈ wsX10, w ∈ wsX2_heir := fun _ h => List.mem_cons_of_mem _ (List.mem_append_right _ h)
  have hin2 : ∀ w ∈ wsX20, w ∈ wsX2_heir := fun _ h => List.mem_cons_of_mem _ (List.mem_append_left _ (List.mem_append_right _ h))
  have L10 := hts (.fieldLink RX2 10 "BestBeast" "manor" "LBestBeast$Manor;") (List.mem_of_getElem? (i := 1) rfl)
  have L92 := hts (.fieldLink RX2 92 "BestBeast$Manor" "heirOf" "[I") (List.mem_of_getElem? (i := 2) rfl)
  obtain ⟨⟨iL, iC, iV, iM, iH, iB, jL, jC, jV, jM, jH, jB⟩, iK, iDe, iAl, iHe, iWo, iO1, iO2⟩ := id hI
  have hl : lv_has ls 4 [(0, .ref (xd 0)), (1, .int x), (2, .int h)] := hl
  refine lv_aload_n hx hb dX2_heir_0 rfl (lv_at hl 0 rfl) ?_
  refine va_get (D := (dC, dI)) (ci := 2) (v := .ref (ma 0)) (C := RX2) (T := TX2) (N := 8) hx hb hts hin2 hown hK hP 0 rfl rfl 0 (by decide) L10 (fun _ h9 => h9) rfl dX2_heir_1 ?_
  refine lv_iload_n hx hb dX2_heir_4 rfl (lv_at hl 1 rfl) ?_
  refine z_callV (As := [.int x]) (rest := []) ⟨hx, hb, hml, hown, hts⟩ (c_X1_hasHolder l dC dI cI cZ ma σ Hn B L C V M hI.1 x) (cwV 1 hts gX2_heir_X1_hasHolder rfl rfl rfl (by decide +kernel) ⟨Nat.le_of_ble_eq_true rfl, Nat.le_of_ble_eq_true rfl⟩) (hP.sub [1, 2, 3, 4, 5, 6, 7, 8, 9, 10] rfl) hK (va_recv hK hP (ci := 1) (q0 := 1) rfl rfl) rfl hl.1 rfl (Nat.le_of_ble_eq_true rfl) ⟨Nat.zero_le _, Nat.zero_le _⟩ dX2_heir_5 (fun r hr => ?_)
  obtain rfl : r = zb (hasP Hn x) := hr
  refine z_ifeq_b (P := hasP Hn x) (tgt := 32) hx hb dX2_heir_8 (by decide) (fun (c_8 : ¬ (hasP Hn x)) => ?_) (fun (c_8 : hasP Hn x) => ?_)
  · skip
    refine lv_bipush (v := (-101)) hx hb dX2_heir_32 (by decide) ?_
    exact hq (-101) σ _ _ 34 ls dX2_heir_34 (show (-101) = (heirF σ Hn x h).1 ∧ σ = (heirF σ Hn x h).2 from ⟨(by unfold heirF; rw [zif_f (fun z => c_8 z.1)]), (by unfold heirF; rw [zif_f (fun z => c_8 z.1)])⟩) hP hD hS
  · skip
    obtain ⟨j, hj, rfl⟩ := c_8
    refine lv_iload_n hx hb dX2_heir_11 rfl (lv_at hl 2 rfl) ?_
    refine lv_iload_n hx hb dX2_heir_12 rfl (lv_at hl 1 rfl) ?_
    refine lv_icmp_eq (tgt := 32) hx hb dX2_heir_13 (by decide) (fun (c_13 : h = (nI j)) => ?_) (fun (c_13 : ¬ (h = (nI j))) => ?_)
    · skip
      refine lv_bipush (v := (-101)) hx hb dX2_heir_32 (by decide) ?_
      exact hq (-101) σ _ _ 34 ls dX2_heir_34 (show (-101) = (heirF σ Hn (nI j) h).1 ∧ σ = (heirF σ Hn (nI j) h).2 from ⟨(by unfold heirF; rw [zif_f (fun z => z.2.1 c_13)]), (by unfold heirF; rw [zif_f (fun z => z.2.1 c_13)])⟩) hP hD hS
    · skip
      refine lv_iload_n hx hb dX2_heir_16 rfl (lv_at hl 2 rfl) ?_
      refine lv_iconst (v := (-1)) hx hb dX2_heir_17 (by decide) ?_
      refine lv_icmp_eq (tgt := 35) hx hb dX2_heir_18 (by decide) (fun (c_18 : h = (-1)) => ?_) (fun (c_18 : ¬ (h = (-1))) => ?_)
      · skip
        refine lv_aload_n hx hb dX2_heir_35 rfl (lv_at hl 0 rfl) ?_
        refine va_get (D := (dC, dI)) (ci := 2) (v := .ref (ma 0)) (C := RX2) (T := TX2) (N := 8) hx hb hts hin2 hown hK hP 0 rfl rfl 0 (by decide) L10 (fun _ h9 => h9) rfl dX2_heir_36 ?_
        refine va_get (D := (dC, dI)) (ci := 1) (v := .ref (ma 4)) (C := RX1) (T := TX1) (N := 17) hx hb hts hin1 hown hK hP 1 rfl rfl 7 (by decide) L92 (fun _ h9 => h9) rfl dX2_heir_39 ?_
        refine lv_iload_n hx hb dX2_heir_42 rfl (lv_at hl 1 rfl) ?_
        refine z_iald (D := (dC, dI)) hx hb hK hP 5 0 rfl rfl j (rfl) (by omega) (by omega) (v := (σ 4) j) (rfl) dX2_heir_43 ?_
        refine lv_istore_n (lv' := [(3, .int ((σ 4) j)), (0, .ref (xd 0)), (1, .int (nI j)), (2, .int h)]) hx hb dX2_heir_44 rfl hl (by decide) rfl (fun ls hl => ?_)
        refine lv_aload_n hx hb dX2_heir_45 rfl (lv_at hl 1 rfl) ?_
        refine va_get (D := (dC, dI)) (ci := 2) (v := .ref (ma 0)) (C := RX2) (T := TX2) (N := 8) hx hb hts hin2 hown hK hP 0 rfl rfl 0 (by decide) L10 (fun _ h9 => h9) rfl dX2_heir_46 ?_
        refine va_get (D := (dC, dI)) (ci := 1) (v := .ref (ma 4)) (C := RX1) (T := TX1) (N := 17) hx hb hts hin1 hown hK hP 1 rfl rfl 7 (by decide) L92 (fun _ h9 => h9) rfl dX2_heir_49 ?_
        refine lv_iload_n hx hb dX2_heir_52 rfl (lv_at hl 2 rfl) ?_
        refine lv_iload_n hx hb dX2_heir_53 rfl (lv_at hl 3 rfl) ?_
        refine z_iast (D := (dC, dI)) hx hb hK hP hD hS 5 0 rfl rfl j (rfl) (by omega) (by omega) (f' := upd (σ 4) j h) (rfl) dX2_heir_54 (fun H locs hP hD hS => ?_)
        have hP : va_P (dC, dI) vwCl (xo xd ma ka ta ξ hi :: mw cI cZ ma (up2 σ 4 j h)) H := hP
        have hD : va_D A (xo xd ma ka ta ξ hi :: mw cI cZ ma (up2 σ 4 j h)) := hD
        refine lv_iload_n hx hb dX2_heir_55 rfl (lv_at hl 0 rfl) ?_
        exact hq ((σ 4) j) (up2 σ 4 j h) _ _ 56 ls dX2_heir_56 (show ((σ 4) j) = (heirF σ Hn (nI j) h).1 ∧ (up2 σ 4 j h) = (heirF σ Hn (nI j) h).2 from ⟨(by unfold heirF; rw [zif_t ⟨hasP_nI hj, c_13, Or.inl c_18⟩, tn_nI (by omega)]), (by unfold heirF; rw [zif_t ⟨hasP_nI hj, c_13, Or.inl c_18⟩, tn_nI (by omega)])⟩) hP hD hS
      · skip
        refine lv_aload_n hx hb dX2_heir_21 rfl (lv_at hl 0 rfl) ?_
        refine va_get (D := (dC, dI)) (ci := 2) (v := .ref (ma 0)) (C := RX2) (T := TX2) (N := 8) hx hb hts hin2 hown hK hP 0 rfl rfl 0 (by decide) L10 (fun _ h9 => h9) rfl dX2_heir_22 ?_
        refine lv_iload_n hx hb dX2_heir_25 rfl (lv_at hl 2 rfl) ?_
        refine z_callV (As := [.int h]) (rest := []) ⟨hx, hb, hml, hown, hts⟩ (c_X1_hasHolder l dC dI cI cZ ma σ Hn B L C V M hI.1 h) (cwV 1 hts gX2_heir_X1_hasHolder rfl rfl rfl (by decide +kernel) ⟨Nat.le_of_ble_eq_true rfl, Nat.le_of_ble_eq_true rfl⟩) (hP.sub [1, 2, 3, 4, 5, 6, 7, 8, 9, 10] rfl) hK (va_recv hK hP (ci := 1) (q0 := 1) rfl rfl) rfl hl.1 rfl (Nat.le_of_ble_eq_true rfl) ⟨Nat.zero_le _, Nat.zero_le _⟩ dX2_heir_26 (fun r hr => ?_)
        obtain rfl : r = zb (hasP Hn h) := hr
        refine z_ifne_b (P := hasP Hn h) (tgt := 35) hx hb dX2_heir_29 (by decide) (fun (c_29 : hasP Hn h) => ?_) (fun (c_29 : ¬ (hasP Hn h)) => ?_)
        · skip
          refine lv_aload_n hx hb dX2_heir_35 rfl (lv_at hl 0 rfl) ?_
          refine va_get (D := (dC, dI)) (ci := 2) (v := .ref (ma 0)) (C := RX2) (T := TX2) (N := 8) hx hb hts hin2 hown hK hP 0 rfl rfl 0 (by decide) L10 (fun _ h9 => h9) rfl dX2_heir_36 ?_
          refine va_get (D := (dC, dI)) (ci := 1) (v := .ref (ma 4)) (C := RX1) (T := TX1) (N := 17) hx hb hts hin1 hown hK hP 1 rfl rfl 7 (by decide) L92 (fun _ h9 => h9) rfl dX2_heir_39 ?_
          refine lv_iload_n hx hb dX2_heir_42 rfl (lv_at hl 1 rfl) ?_
          refine z_iald (D := (dC, dI)) hx hb hK hP 5 0 rfl rfl j (rfl) (by omega) (by omega) (v := (σ 4) j) (rfl) dX2_heir_43 ?_
          refine lv_istore_n (lv' := [(3, .int ((σ 4) j)), (0, .ref (xd 0)), (1, .int (nI j)), (2, .int h)]) hx hb dX2_heir_44 rfl hl (by decide) rfl (fun ls hl => ?_)
          refine lv_aload_n hx hb dX2_heir_45 rfl (lv_at hl 1 rfl) ?_
          refine va_get (D := (dC, dI)) (ci := 2) (v := .ref (ma 0)) (C := RX2) (T := TX2) (N := 8) hx hb hts hin2 hown hK hP 0 rfl rfl 0 (by decide) L10 (fun _ h9 => h9) rfl dX2_heir_46 ?_
          refine va_get (D := (dC, dI)) (ci := 1) (v := .ref (ma 4)) (C := RX1) (T := TX1) (N := 17) hx hb hts hin1 hown hK hP 1 rfl rfl 7 (by decide) L92 (fun _ h9 => h9) rfl dX2_heir_49 ?_
          refine lv_iload_n hx hb dX2_heir_52 rfl (lv_at hl 2 rfl) ?_
          refine lv_iload_n hx hb dX2_heir_53 rfl (lv_at hl 3 rfl) ?_
          refine z_iast (D := (dC, dI)) hx hb hK hP hD hS 5 0 rfl rfl j (rfl) (by omega) (by omega) (f' := upd (σ 4) j h) (rfl) dX2_heir_54 (fun H locs hP hD hS => ?_)
          have hP : va_P (dC, dI) vwCl (xo xd ma ka ta ξ hi :: mw cI cZ ma (up2 σ 4 j h)) H := hP
          have hD : va_D A (xo xd ma ka ta ξ hi :: mw cI cZ ma (up2 σ 4 j h)) := hD
          refine lv_iload_n hx hb dX2_heir_55 rfl (lv_at hl 0 rfl) ?_
          exact hq ((σ 4) j) (up2 σ 4 j h) _ _ 56 ls dX2_heir_56 (show ((σ 4) j) = (heirF σ Hn (nI j) h).1 ∧ (up2 σ 4 j h) = (heirF σ Hn (nI j) h).2 from ⟨(by unfold heirF; rw [zif_t ⟨hasP_nI hj, c_13, Or.inr c_29⟩, tn_nI (by omega)]), (by unfold heirF; rw [zif_t ⟨hasP_nI hj, c_13, Or.inr c_29⟩, tn_nI (by omega)])⟩) hP hD hS
        · skip
          refine lv_bipush (v := (-101)) hx hb dX2_heir_32 (by decide) ?_
          exact hq (-101) σ _ _ 34 ls dX2_heir_34 (show (-101) = (heirF σ Hn (nI j) h).1 ∧ σ = (heirF σ Hn (nI j) h).2 from ⟨(by unfold heirF; rw [zif_f (fun z => z.2.2.elim c_18 c_29)]), (by unfold heirF; rw [zif_f (fun z => z.2.2.elim c_18 c_29)])⟩) hP hD hS
abbrev rm_c_X2_beast : Room := { frames := 3, cells := 0, slots := 0, locals := 66 }
set_option maxHeartbeats 4000000 in
set_option maxRecDepth 100000 in
theorem c_X2_beast (l : Launch) (dC : Nat → ClassId) (dI : Nat → Nat → Nat) (cI cZ : ClassId) (xd ma ka ta : Nat → Nat) (σ : St) (Hn B L C V M : Nat) (hI : Inv σ Hn B L C V M) (ξ : Nat → Int32) (hi : Int32) (x w : Int32) (sz : Nat) : Met l yX2_beast wsX2_beast rm_c_X2_beast (va_Pc [.ref (xd 0), .int x, .int w] (zPre (dC, dI) vwCl (tyIZ cI cZ) (xo xd ma ka ta ξ hi :: mw cI cZ ma σ) sz (fun _ => True))) (va_Qi (fun (r : Int32) (u : St) => r = (beastF σ Hn B x w).1 ∧ u = (beastF σ Hn B x w).2) (zPost (dC, dI) vwCl (tyIZ cI cZ) (xo xd ma ka ta ξ hi :: mw cI cZ ma σ) sz (fun (u : St) => xo xd ma ka ta ξ hi :: mw cI cZ ma u)) (va_A (xo xd ma ka ta ξ hi :: mw cI cZ ma σ) sz)) 0 0 (va_A (xo xd ma ka ta ξ hi :: mw cI cZ ma σ) sz) := by
  refine z_impI (cc := cX2_beast) (maxL := 3) (av := [.ref (xd 0), .int x, .int w]) (by decide) rfl (Nat.le_of_ble_eq_true rfl) ?_
  intro p e s m below meth c Q A ls hx hb hml hown hts hBs hP hK hD hS hA hAB hq hl
  have hown : s.vm.findClass RX2 = some m.cls := hown
  have hin1 : ∀ w ∈ wsX10, w ∈ wsX2_beast := fun _ h => List.mem_cons_of_mem _ (List.mem_append_right _ h)
  have hin2 : ∀ w ∈ wsX20, w ∈ wsX2_beast := fun _ h => List.mem_cons_of_mem _ (List.mem_append_left _ (List.mem_append_right _ h))
  have L10 := hts (.fieldLink RX2 10 "BestBeast" "manor" "LBestBeast$Manor;") (List.mem_of_getElem? (i := 1) rfl)
  have L88 := hts (.fieldLink RX2 88 "BestBeast$Manor" "alive" "[Z") (List.mem_of_getElem? (i := 2) rfl)
  obtain ⟨⟨iL, iC, iV, iM, iH, iB, jL, jC, jV, jM, jH, jB⟩, iK, iDe, iAl, iHe, iWo, iO1, iO2⟩ := id hI
  have hl : lv_has ls 3 [(0, .ref (xd 0)), (1, .int x), (2, .int w)] := hl
  refine lv_aload_n hx hb dX2_beast_0 rfl (lv_at hl 0 rfl) ?_
  refine va_get (D := (dC, dI)) (ci := 2) (v := .ref (ma 0)) (C := RX2) (T := TX2) (N := 8) hx hb hts hin2 hown hK hP 0 rfl rfl 0 (by decide) L10 (fun _ h9 => h9) rfl dX2_beast_1 ?_
  refine lv_iload_n hx hb dX2_beast_4 rfl (lv_at hl 1 rfl) ?_
  refine z_callV (As := [.int x]) (rest := []) ⟨hx, hb, hml, hown, hts⟩ (c_X1_hasHolder l dC dI cI cZ ma σ Hn B L C V M hI.1 x) (cwV 1 hts gX2_beast_X1_hasHolder rfl rfl rfl (by decide +kernel) ⟨Nat.le_of_ble_eq_true rfl, Nat.le_of_ble_eq_true rfl⟩) (hP.sub [1, 2, 3, 4, 5, 6, 7, 8, 9, 10] rfl) hK (va_recv hK hP (ci := 1) (q0 := 1) rfl rfl) rfl hl.1 rfl (Nat.le_of_ble_eq_true rfl) ⟨Nat.zero_le _, Nat.zero_le _⟩ dX2_beast_5 (fun r hr => ?_)
  obtain rfl : r = zb (hasP Hn x) := hr
  refine z_ifne_b (P := hasP Hn x) (tgt := 14) hx hb dX2_beast_8 (by decide) (fun (c_8 : hasP Hn x) => ?_) (fun (c_8 : ¬ (hasP Hn x)) => ?_)
  · skip
    obtain ⟨j, hj, rfl⟩ := c_8
    refine lv_iload_n hx hb dX2_beast_14 rfl (lv_at hl 2 rfl) ?_
    refine lv_iconst (v := nI 1) hx hb dX2_beast_15 (by decide) ?_
    refine lv_bipush (v := nI 99) hx hb dX2_beast_16 (by decide) ?_
    refine z_callS (As := [.int w, .int (nI 1), .int (nI 99)]) (rest := []) ⟨hx, hb, hml, hown, hts⟩ (c_X2_within_n l w 1 99 (by omega) (by omega)) (va_cwS 3 hts gX2_beast_X2_within rfl rfl rfl (by decide +kernel) ⟨Nat.le_of_ble_eq_true rfl, Nat.le_of_ble_eq_true rfl⟩) rfl hl.1 rfl (Nat.le_of_ble_eq_true rfl) ⟨Nat.zero_le _, Nat.zero_le _⟩ dX2_beast_18 (fun r hr => ?_)
    obtain rfl : r = zb (inP 1 99 w) := hr
    refine z_ifne_b (P := inP 1 99 w) (tgt := 27) hx hb dX2_beast_21 (by decide) (fun (c_21 : inP 1 99 w) => ?_) (fun (c_21 : ¬ (inP 1 99 w)) => ?_)
    · skip
      refine lv_aload_n hx hb dX2_beast_27 rfl (lv_at hl 0 rfl) ?_
      refine va_get (D := (dC, dI)) (ci := 2) (v := .ref (ma 0)) (C := RX2) (T := TX2) (N := 8) hx hb hts hin2 hown hK hP 0 rfl rfl 0 (by decide) L10 (fun _ h9 => h9) rfl dX2_beast_28 ?_
      refine va_get (D := (dC, dI)) (ci := 1) (v := .ref (ma 3)) (C := RX1) (T := TX1) (N := 17) hx hb hts hin1 hown hK hP 1 rfl rfl 8 (by decide) L88 (fun _ h9 => h9) rfl dX2_beast_31 ?_
      refine lv_iload_n hx hb dX2_beast_34 rfl (lv_at hl 1 rfl) ?_
      refine z_zald (D := (dC, dI)) hx hb hK hP 4 1 rfl rfl j (rfl) (by omega) (by omega) (v := (σ 3) j) (rfl) dX2_beast_35 ?_
      refine lv_if_ne (tgt := 42) hx hb dX2_beast_36 (by decide) (fun (c_36 : ¬ ((σ 3) j) = 0) => ?_) (fun (c_36 : ((σ 3) j) = 0) => ?_)
      · skip
        refine lv_aload_n hx hb dX2_beast_42 rfl (lv_at hl 0 rfl) ?_
        refine va_get (D := (dC, dI)) (ci := 2) (v := .ref (ma 0)) (C := RX2) (T := TX2) (N := 8) hx hb hts hin2 hown hK hP 0 rfl rfl 0 (by decide) L10 (fun _ h9 => h9) rfl dX2_beast_43 ?_
        refine lv_iload_n hx hb dX2_beast_46 rfl (lv_at hl 1 rfl) ?_
        refine lv_iload_n hx hb dX2_beast_47 rfl (lv_at hl 2 rfl) ?_
        refine z_callQi (As := [.int (nI j), .int w]) (rest := []) ⟨hx, hb, hml, hown, hts⟩ (c_X1_addBeast l dC dI cI cZ ma σ Hn B L C V M hI (nI j) w _) (cwV 2 hts gX2_beast_X1_addBeast rfl rfl rfl (by decide +kernel) ⟨Nat.le_of_ble_eq_true rfl, Nat.le_of_ble_eq_true rfl⟩) (fun _ _ _ _ q => q) (fun _ _ _ => trivial) hP hD hK hS hA [1, 2, 3, 4, 5, 6, 7, 8, 9, 10] [0] rfl rfl rfl rfl (by decide) (va_recv hK hP (ci := 1) (q0 := 1) rfl rfl) rfl hl.1 rfl (Nat.le_of_ble_eq_true rfl) ⟨Nat.le_of_ble_eq_true rfl, Nat.le_of_ble_eq_true rfl⟩ dX2_beast_48 (fun r u H locs hr hP hD hS => ?_)
        obtain ⟨rfl, rfl⟩ := hr
        have hP : va_P (dC, dI) vwCl (xo xd ma ka ta ξ hi :: mw cI cZ ma ((addBF σ B (nI j) w).2)) H := hP.sub [0, 1, 2, 3, 4, 5, 6, 7, 8, 9, 10] rfl
        have hD : va_D A (xo xd ma ka ta ξ hi :: mw cI cZ ma ((addBF σ B (nI j) w).2)) := hD.sub [0, 1, 2, 3, 4, 5, 6, 7, 8, 9, 10] rfl rfl
        exact hq ((addBF σ B (nI j) w).1) ((addBF σ B (nI j) w).2) _ _ 51 ls dX2_beast_51 (show ((addBF σ B (nI j) w).1) = (beastF σ Hn B (nI j) w).1 ∧ ((addBF σ B (nI j) w).2) = (beastF σ Hn B (nI j) w).2 from ⟨(by unfold beastF addBF; rw [zif_t (hasP_nI hj), zif_t c_21, tn_nI (by omega), zif_t (al_1 (iAl j (by omega)) c_36)]), (by unfold beastF addBF; rw [zif_t (hasP_nI hj), zif_t c_21, tn_nI (by omega), zif_t (al_1 (iAl j (by omega)) c_36)])⟩) hP hD hS
      · skip
        refine lv_bipush (v := (-103)) hx hb dX2_beast_39 (by decide) ?_
        exact hq (-103) σ _ _ 41 ls dX2_beast_41 (show (-103) = (beastF σ Hn B (nI j) w).1 ∧ σ = (beastF σ Hn B (nI j) w).2 from ⟨(by unfold beastF; rw [zif_t (hasP_nI hj), zif_t c_21, tn_nI (by omega), zif_f (al_0 c_36)]), (by unfold beastF; rw [zif_t (hasP_nI hj), zif_t c_21, tn_nI (by omega), zif_f (al_0 c_36)])⟩) hP hD hS
    · skip
      refine lv_bipush (v := (-102)) hx hb dX2_beast_24 (by decide) ?_
      exact hq (-102) σ _ _ 26 ls dX2_beast_26 (show (-102) = (beastF σ Hn B (nI j) w).1 ∧ σ = (beastF σ Hn B (nI j) w).2 from ⟨(by unfold beastF; rw [zif_t (hasP_nI hj), zif_f c_21]), (by unfold beastF; rw [zif_t (hasP_nI hj), zif_f c_21])⟩) hP hD hS
  · skip
    refine lv_bipush (v := (-101)) hx hb dX2_beast_11 (by decide) ?_
    exact hq (-101) σ _ _ 13 ls dX2_beast_13 (show (-101) = (beastF σ Hn B x w).1 ∧ σ = (beastF σ Hn B x w).2 from ⟨(by unfold beastF; rw [zif_f c_8]), (by unfold beastF; rw [zif_f c_8])⟩) hP hD hS
abbrev rm_c_X2_give : Room := { frames := 4, cells := 0, slots := 0, locals := 86 }
set_option maxHeartbeats 4000000 in
set_option maxRecDepth 100000 in
theorem c_X2_give (l : Launch) (dC : Nat → ClassId) (dI : Nat → Nat → Nat) (cI cZ : ClassId) (xd ma ka ta : Nat → Nat) (σ : St) (Hn B L C V M : Nat) (hI : Inv σ Hn B L C V M) (ξ : Nat → Int32) (hi : Int32) (b t : Int32) (sz : Nat) : Met l yX2_give wsX2_give rm_c_X2_give (va_Pc [.ref (xd 0), .int b, .int t] (zPre (dC, dI) vwCl (tyIZ cI cZ) (xo xd ma ka ta ξ hi :: mw cI cZ ma σ) sz (fun _ => True))) (va_Qi (fun (r : Int32) (u : St) => r = (giveCF σ Hn B b t).1 ∧ u = (giveCF σ Hn B b t).2) (zPost (dC, dI) vwCl (tyIZ cI cZ) (xo xd ma ka ta ξ hi :: mw cI cZ ma σ) sz (fun (u : St) => xo xd ma ka ta ξ hi :: mw cI cZ ma u)) (va_A (xo xd ma ka ta ξ hi :: mw cI cZ ma σ) sz)) 0 0 (va_A (xo xd ma ka ta ξ hi :: mw cI cZ ma σ) sz) := by
  refine z_impI (cc := cX2_give) (maxL := 4) (av := [.ref (xd 0), .int b, .int t]) (by decide) rfl (Nat.le_of_ble_eq_true rfl) ?_
  intro p e s m below meth c Q A ls hx hb hml hown hts hBs hP hK hD hS hA hAB hq hl
  have hown : s.vm.findClass RX2 = some m.cls := hown
  have hin1 : ∀ w ∈ wsX10, w ∈ wsX2_give := fun _ h => List.mem_cons_of_mem _ (List.mem_append_right _ h)
  have hin2 : ∀ w ∈ wsX20, w ∈ wsX2_give := fun _ h => List.mem_cons_of_mem _ (List.mem_append_left _ (List.mem_append_right _ h))
  have L10 := hts (.fieldLink RX2 10 "BestBeast" "manor" "LBestBeast$Manor;") (List.mem_of_getElem? (i := 1) rfl)
  have L124 := hts (.fieldLink RX2 124 "BestBeast$Manor" "owner" "[I") (List.mem_of_getElem? (i := 2) rfl)
  obtain ⟨⟨iL, iC, iV, iM, iH, iB, jL, jC, jV, jM, jH, jB⟩, iK, iDe, iAl, iHe, iWo, iO1, iO2⟩ := id hI
  have hl : lv_has ls 4 [(0, .ref (xd 0)), (1, .int b), (2, .int t)] := hl
  refine lv_aload_n hx hb dX2_give_0 rfl (lv_at hl 0 rfl) ?_
  refine va_get (D := (dC, dI)) (ci := 2) (v := .ref (ma 0)) (C := RX2) (T := TX2) (N := 8) hx hb hts hin2 hown hK hP 0 rfl rfl 0 (by decide) L10 (fun _ h9 => h9) rfl dX2_give_1 ?_
  refine lv_iload_n hx hb dX2_give_4 rfl (lv_at hl 1 rfl) ?_
  refine z_callV (As := [.int b]) (rest := []) ⟨hx, hb, hml, hown, hts⟩ (c_X1_hasBeast l dC dI cI cZ ma σ Hn B L C V M hI.1 b) (cwV 1 hts gX2_give_X1_hasBeast rfl rfl rfl (by decide +kernel) ⟨Nat.le_of_ble_eq_true rfl, Nat.le_of_ble_eq_true rfl⟩) (hP.sub [1, 2, 3, 4, 5, 6, 7, 8, 9, 10] rfl) hK (va_recv hK hP (ci := 1) (q0 := 1) rfl rfl) rfl hl.1 rfl (Nat.le_of_ble_eq_true rfl) ⟨Nat.zero_le _, Nat.zero_le _⟩ dX2_give_5 (fun r hr => ?_)
  obtain rfl : r = zb (hasP B b) := hr
  refine z_ifeq_b (P := hasP B b) (tgt := 22) hx hb dX2_give_8 (by decide) (fun (c_8 : ¬ (hasP B b)) => ?_) (fun (c_8 : hasP B b) => ?_)
  · skip
    refine lv_bipush (v := (-101)) hx hb dX2_give_22 (by decide) ?_
    exact hq (-101) σ _ _ 24 ls dX2_give_24 (show (-101) = (giveCF σ Hn B b t).1 ∧ σ = (giveCF σ Hn B b t).2 from ⟨(by unfold giveCF; rw [zif_f (fun z => c_8 z.1)]), (by unfold giveCF; rw [zif_f (fun z => c_8 z.1)])⟩) hP hD hS
  · skip
    obtain ⟨i, hi6, rfl⟩ := c_8
    refine lv_aload_n hx hb dX2_give_11 rfl (lv_at hl 0 rfl) ?_
    refine va_get (D := (dC, dI)) (ci := 2) (v := .ref (ma 0)) (C := RX2) (T := TX2) (N := 8) hx hb hts hin2 hown hK hP 0 rfl rfl 0 (by decide) L10 (fun _ h9 => h9) rfl dX2_give_12 ?_
    refine lv_iload_n hx hb dX2_give_15 rfl (lv_at hl 2 rfl) ?_
    refine z_callV (As := [.int t]) (rest := []) ⟨hx, hb, hml, hown, hts⟩ (c_X1_hasHolder l dC dI cI cZ ma σ Hn B L C V M hI.1 t) (cwV 1 hts gX2_give_X1_hasHolder rfl rfl rfl (by decide +kernel) ⟨Nat.le_of_ble_eq_true rfl, Nat.le_of_ble_eq_true rfl⟩) (hP.sub [1, 2, 3, 4, 5, 6, 7, 8, 9, 10] rfl) hK (va_recv hK hP (ci := 1) (q0 := 1) rfl rfl) rfl hl.1 rfl (Nat.le_of_ble_eq_true rfl) ⟨Nat.zero_le _, Nat.zero_le _⟩ dX2_give_16 (fun r hr => ?_)
    obtain rfl : r = zb (hasP Hn t) := hr
    refine z_ifne_b (P := hasP Hn t) (tgt := 25) hx hb dX2_give_19 (by decide) (fun (c_19 : hasP Hn t) => ?_) (fun (c_19 : ¬ (hasP Hn t)) => ?_)
    · skip
      obtain ⟨j, hj, rfl⟩ := c_19
      refine lv_aload_n hx hb dX2_give_25 rfl (lv_at hl 0 rfl) ?_
      refine va_get (D := (dC, dI)) (ci := 2) (v := .ref (ma 0)) (C := RX2) (T := TX2) (N := 8) hx hb hts hin2 hown hK hP 0 rfl rfl 0 (by decide) L10 (fun _ h9 => h9) rfl dX2_give_26 ?_
      refine lv_iload_n hx hb dX2_give_29 rfl (lv_at hl 1 rfl) ?_
      refine lv_iload_n hx hb dX2_give_30 rfl (lv_at hl 2 rfl) ?_
      refine z_callV (As := [.int (nI i), .int (nI j)]) (rest := []) ⟨hx, hb, hml, hown, hts⟩ (c_X1_mayGive l dC dI cI cZ ma σ Hn B L C V M hI i (by omega) j (by omega)) (cwV 2 hts gX2_give_X1_mayGive rfl rfl rfl (by decide +kernel) ⟨Nat.le_of_ble_eq_true rfl, Nat.le_of_ble_eq_true rfl⟩) (hP.sub [1, 2, 3, 4, 5, 6, 7, 8, 9, 10] rfl) hK (va_recv hK hP (ci := 1) (q0 := 1) rfl rfl) rfl hl.1 rfl (Nat.le_of_ble_eq_true rfl) ⟨Nat.zero_le _, Nat.zero_le _⟩ dX2_give_31 (fun r hr => ?_)
      obtain rfl : r = zb (giveP σ i j) := hr
      refine z_ifne_b (P := giveP σ i j) (tgt := 40) hx hb dX2_give_34 (by decide) (fun (c_34 : giveP σ i j) => ?_) (fun (c_34 : ¬ (giveP σ i j)) => ?_)
      · skip
        refine lv_aload_n hx hb dX2_give_40 rfl (lv_at hl 0 rfl) ?_
        refine va_get (D := (dC, dI)) (ci := 2) (v := .ref (ma 0)) (C := RX2) (T := TX2) (N := 8) hx hb hts hin2 hown hK hP 0 rfl rfl 0 (by decide) L10 (fun _ h9 => h9) rfl dX2_give_41 ?_
        refine va_get (D := (dC, dI)) (ci := 1) (v := .ref (ma 6)) (C := RX1) (T := TX1) (N := 17) hx hb hts hin1 hown hK hP 1 rfl rfl 11 (by decide) L124 (fun _ h9 => h9) rfl dX2_give_44 ?_
        refine lv_iload_n hx hb dX2_give_47 rfl (lv_at hl 1 rfl) ?_
        refine z_iald (D := (dC, dI)) hx hb hK hP 7 0 rfl rfl i (rfl) (by omega) (by omega) (v := (σ 6) i) (rfl) dX2_give_48 ?_
        refine lv_istore_n (lv' := [(3, .int ((σ 6) i)), (0, .ref (xd 0)), (1, .int (nI i)), (2, .int (nI j))]) hx hb dX2_give_49 rfl hl (by decide) rfl (fun ls hl => ?_)
        refine lv_aload_n hx hb dX2_give_50 rfl (lv_at hl 1 rfl) ?_
        refine va_get (D := (dC, dI)) (ci := 2) (v := .ref (ma 0)) (C := RX2) (T := TX2) (N := 8) hx hb hts hin2 hown hK hP 0 rfl rfl 0 (by decide) L10 (fun _ h9 => h9) rfl dX2_give_51 ?_
        refine lv_iload_n hx hb dX2_give_54 rfl (lv_at hl 2 rfl) ?_
        refine lv_iload_n hx hb dX2_give_55 rfl (lv_at hl 3 rfl) ?_
        refine z_callQv (As := [.int (nI i), .int (nI j)]) (rest := []) ⟨hx, hb, hml, hown, hts⟩ (c_X1_makeGift l dC dI cI cZ ma σ Hn B L C V M hI i (by omega) j (by omega) _) (cwV 2 hts gX2_give_X1_makeGift rfl rfl rfl (by decide +kernel) ⟨Nat.le_of_ble_eq_true rfl, Nat.le_of_ble_eq_true rfl⟩) (fun _ _ _ _ q => q) (fun _ _ _ => trivial) hP hD hK hS hA [1, 2, 3, 4, 5, 6, 7, 8, 9, 10] [0] rfl rfl rfl rfl (by decide) (va_recv hK hP (ci := 1) (q0 := 1) rfl rfl) rfl hl.1 rfl (Nat.le_of_ble_eq_true rfl) ⟨Nat.le_of_ble_eq_true rfl, Nat.le_of_ble_eq_true rfl⟩ dX2_give_56 (fun u H locs hr hP hD hS => ?_)
        obtain rfl := hr
        have hP : va_P (dC, dI) vwCl (xo xd ma ka ta ξ hi :: mw cI cZ ma (giftS σ i j)) H := hP.sub [0, 1, 2, 3, 4, 5, 6, 7, 8, 9, 10] rfl
        have hD : va_D A (xo xd ma ka ta ξ hi :: mw cI cZ ma (giftS σ i j)) := hD.sub [0, 1, 2, 3, 4, 5, 6, 7, 8, 9, 10] rfl rfl
        refine lv_iload_n hx hb dX2_give_59 rfl (lv_at hl 0 rfl) ?_
        exact hq ((σ 6) i) (giftS σ i j) _ _ 60 ls dX2_give_60 (show ((σ 6) i) = (giveCF σ Hn B (nI i) (nI j)).1 ∧ (giftS σ i j) = (giveCF σ Hn B (nI i) (nI j)).2 from ⟨(by unfold giveCF; rw [zif_t ⟨hasP_nI hi6, hasP_nI hj⟩, tn_nI (by omega), tn_nI (by omega), zif_t c_34]), (by unfold giveCF; rw [zif_t ⟨hasP_nI hi6, hasP_nI hj⟩, tn_nI (by omega), tn_nI (by omega), zif_t c_34])⟩) hP hD hS
      · skip
        refine lv_bipush (v := (-103)) hx hb dX2_give_37 (by decide) ?_
        exact hq (-103) σ _ _ 39 ls dX2_give_39 (show (-103) = (giveCF σ Hn B (nI i) (nI j)).1 ∧ σ = (giveCF σ Hn B (nI i) (nI j)).2 from ⟨(by unfold giveCF; rw [zif_t ⟨hasP_nI hi6, hasP_nI hj⟩, tn_nI (by omega), tn_nI (by omega), zif_f c_34]), (by unfold giveCF; rw [zif_t ⟨hasP_nI hi6, hasP_nI hj⟩, tn_nI (by omega), tn_nI (by omega), zif_f c_34])⟩) hP hD hS
    · skip
      refine lv_bipush (v := (-101)) hx hb dX2_give_22 (by decide) ?_
      exact hq (-101) σ _ _ 24 ls dX2_give_24 (show (-101) = (giveCF σ Hn B (nI i) t).1 ∧ σ = (giveCF σ Hn B (nI i) t).2 from ⟨(by unfold giveCF; rw [zif_f (fun z => c_19 z.2)]), (by unfold giveCF; rw [zif_f (fun z => c_19 z.2)])⟩) hP hD hS
abbrev rm_c_X2_die : Room := { frames := 5, cells := 0, slots := 0, locals := 115 }
set_option maxHeartbeats 4000000 in
set_option maxRecDepth 100000 in
theorem c_X2_die (l : Launch) (dC : Nat → ClassId) (dI : Nat → Nat → Nat) (cI cZ : ClassId) (xd ma ka ta : Nat → Nat) (σ : St) (Hn B L C V M : Nat) (hI : Inv σ Hn B L C V M) (ξ : Nat → Int32) (hi : Int32) (x : Int32) (sz : Nat) : Met l yX2_die wsX2_die rm_c_X2_die (va_Pc [.ref (xd 0), .int x] (zPre (dC, dI) vwCl (tyIZ cI cZ) (xo xd ma ka ta ξ hi :: mw cI cZ ma σ) sz (fun _ => True))) (va_Qi (fun (r : Int32) (u : St) => r = (dieF σ Hn B x).1 ∧ u = (dieF σ Hn B x).2) (zPost (dC, dI) vwCl (tyIZ cI cZ) (xo xd ma ka ta ξ hi :: mw cI cZ ma σ) sz (fun (u : St) => xo xd ma ka ta ξ hi :: mw cI cZ ma u)) (va_A (xo xd ma ka ta ξ hi :: mw cI cZ ma σ) sz)) 0 0 (va_A (xo xd ma ka ta ξ hi :: mw cI cZ ma σ) sz) := by
  refine z_impI (cc := cX2_die) (maxL := 2) (av := [.ref (xd 0), .int x]) (by decide) rfl (Nat.le_of_ble_eq_true rfl) ?_
  intro p e s m below meth c Q A ls hx hb hml hown hts hBs hP hK hD hS hA hAB hq hl
  have hown : s.vm.findClass RX2 = some m.cls := hown
  have hin1 : ∀ w ∈ wsX10, w ∈ wsX2_die := fun _ h => List.mem_cons_of_mem _ (List.mem_append_right _ h)
  have hin2 : ∀ w ∈ wsX20, w ∈ wsX2_die := fun _ h => List.mem_cons_of_mem _ (List.mem_append_left _ (List.mem_append_right _ h))
  have L10 := hts (.fieldLink RX2 10 "BestBeast" "manor" "LBestBeast$Manor;") (List.mem_of_getElem? (i := 1) rfl)
  have L88 := hts (.fieldLink RX2 88 "BestBeast$Manor" "alive" "[Z") (List.mem_of_getElem? (i := 2) rfl)
  obtain ⟨⟨iL, iC, iV, iM, iH, iB, jL, jC, jV, jM, jH, jB⟩, iK, iDe, iAl, iHe, iWo, iO1, iO2⟩ := id hI
  have hl : lv_has ls 2 [(0, .ref (xd 0)), (1, .int x)] := hl
  refine lv_aload_n hx hb dX2_die_0 rfl (lv_at hl 0 rfl) ?_
  refine va_get (D := (dC, dI)) (ci := 2) (v := .ref (ma 0)) (C := RX2) (T := TX2) (N := 8) hx hb hts hin2 hown hK hP 0 rfl rfl 0 (by decide) L10 (fun _ h9 => h9) rfl dX2_die_1 ?_
  refine lv_iload_n hx hb dX2_die_4 rfl (lv_at hl 1 rfl) ?_
  refine z_callV (As := [.int x]) (rest := []) ⟨hx, hb, hml, hown, hts⟩ (c_X1_hasHolder l dC dI cI cZ ma σ Hn B L C V M hI.1 x) (cwV 1 hts gX2_die_X1_hasHolder rfl rfl rfl (by decide +kernel) ⟨Nat.le_of_ble_eq_true rfl, Nat.le_of_ble_eq_true rfl⟩) (hP.sub [1, 2, 3, 4, 5, 6, 7, 8, 9, 10] rfl) hK (va_recv hK hP (ci := 1) (q0 := 1) rfl rfl) rfl hl.1 rfl (Nat.le_of_ble_eq_true rfl) ⟨Nat.zero_le _, Nat.zero_le _⟩ dX2_die_5 (fun r hr => ?_)
  obtain rfl : r = zb (hasP Hn x) := hr
  refine z_ifne_b (P := hasP Hn x) (tgt := 14) hx hb dX2_die_8 (by decide) (fun (c_8 : hasP Hn x) => ?_) (fun (c_8 : ¬ (hasP Hn x)) => ?_)
  · skip
    obtain ⟨j, hj, rfl⟩ := c_8
    refine lv_aload_n hx hb dX2_die_14 rfl (lv_at hl 0 rfl) ?_
    refine va_get (D := (dC, dI)) (ci := 2) (v := .ref (ma 0)) (C := RX2) (T := TX2) (N := 8) hx hb hts hin2 hown hK hP 0 rfl rfl 0 (by decide) L10 (fun _ h9 => h9) rfl dX2_die_15 ?_
    refine va_get (D := (dC, dI)) (ci := 1) (v := .ref (ma 3)) (C := RX1) (T := TX1) (N := 17) hx hb hts hin1 hown hK hP 1 rfl rfl 8 (by decide) L88 (fun _ h9 => h9) rfl dX2_die_18 ?_
    refine lv_iload_n hx hb dX2_die_21 rfl (lv_at hl 1 rfl) ?_
    refine z_zald (D := (dC, dI)) hx hb hK hP 4 1 rfl rfl j (rfl) (by omega) (by omega) (v := (σ 3) j) (rfl) dX2_die_22 ?_
    refine lv_if_ne (tgt := 29) hx hb dX2_die_23 (by decide) (fun (c_23 : ¬ ((σ 3) j) = 0) => ?_) (fun (c_23 : ((σ 3) j) = 0) => ?_)
    · skip
      refine lv_aload_n hx hb dX2_die_29 rfl (lv_at hl 0 rfl) ?_
      refine va_get (D := (dC, dI)) (ci := 2) (v := .ref (ma 0)) (C := RX2) (T := TX2) (N := 8) hx hb hts hin2 hown hK hP 0 rfl rfl 0 (by decide) L10 (fun _ h9 => h9) rfl dX2_die_30 ?_
      refine lv_iload_n hx hb dX2_die_33 rfl (lv_at hl 1 rfl) ?_
      refine z_callQi (As := [.int (nI j)]) (rest := []) ⟨hx, hb, hml, hown, hts⟩ (c_X1_bury l dC dI cI cZ ma σ Hn B L C V M hI j (by omega) (al_1 (iAl j (by omega)) c_23) _) (cwV 1 hts gX2_die_X1_bury rfl rfl rfl (by decide +kernel) ⟨Nat.le_of_ble_eq_true rfl, Nat.le_of_ble_eq_true rfl⟩) (fun _ _ _ _ q => q) (fun _ _ _ => trivial) hP hD hK hS hA [1, 2, 3, 4, 5, 6, 7, 8, 9, 10] [0] rfl rfl rfl rfl (by decide) (va_recv hK hP (ci := 1) (q0 := 1) rfl rfl) rfl hl.1 rfl (Nat.le_of_ble_eq_true rfl) ⟨Nat.le_of_ble_eq_true rfl, Nat.le_of_ble_eq_true rfl⟩ dX2_die_34 (fun r u H locs hr hP hD hS => ?_)
      obtain ⟨rfl, rfl⟩ := hr
      have hP : va_P (dC, dI) vwCl (xo xd ma ka ta ξ hi :: mw cI cZ ma (buryS σ Hn B j)) H := hP.sub [0, 1, 2, 3, 4, 5, 6, 7, 8, 9, 10] rfl
      have hD : va_D A (xo xd ma ka ta ξ hi :: mw cI cZ ma (buryS σ Hn B j)) := hD.sub [0, 1, 2, 3, 4, 5, 6, 7, 8, 9, 10] rfl rfl
      exact hq (lossF σ B j (heldF σ B (nI j))) (buryS σ Hn B j) _ _ 37 ls dX2_die_37 (show (lossF σ B j (heldF σ B (nI j))) = (dieF σ Hn B (nI j)).1 ∧ (buryS σ Hn B j) = (dieF σ Hn B (nI j)).2 from ⟨(by unfold dieF; rw [zif_t (hasP_nI hj), tn_nI (by omega), zif_t (al_1 (iAl j (by omega)) c_23)]), (by unfold dieF; rw [zif_t (hasP_nI hj), tn_nI (by omega), zif_t (al_1 (iAl j (by omega)) c_23)])⟩) hP hD hS
    · skip
      refine lv_bipush (v := (-103)) hx hb dX2_die_26 (by decide) ?_
      exact hq (-103) σ _ _ 28 ls dX2_die_28 (show (-103) = (dieF σ Hn B (nI j)).1 ∧ σ = (dieF σ Hn B (nI j)).2 from ⟨(by unfold dieF; rw [zif_t (hasP_nI hj), tn_nI (by omega), zif_f (al_0 c_23)]), (by unfold dieF; rw [zif_t (hasP_nI hj), tn_nI (by omega), zif_f (al_0 c_23)])⟩) hP hD hS
  · skip
    refine lv_bipush (v := (-101)) hx hb dX2_die_11 (by decide) ?_
    exact hq (-101) σ _ _ 13 ls dX2_die_13 (show (-101) = (dieF σ Hn B x).1 ∧ σ = (dieF σ Hn B x).2 from ⟨(by unfold dieF; rw [zif_f c_8]), (by unfold dieF; rw [zif_f c_8])⟩) hP hD hS
abbrev rm_c_X2_year : Room := { frames := 0, cells := 0, slots := 0, locals := 0 }
set_option maxHeartbeats 4000000 in
set_option maxRecDepth 100000 in
theorem c_X2_year (l : Launch) (dC : Nat → ClassId) (dI : Nat → Nat → Nat) (cI cZ : ClassId) (xd ma ka ta : Nat → Nat) (σ : St) (Hn B L C V M : Nat) (hI : Inv σ Hn B L C V M) (ξ : Nat → Int32) (hi : Int32)  (sz : Nat) : Met l yX2_year wsX2_year rm_c_X2_year (va_Pc [.ref (xd 0)] (zPre (dC, dI) vwCl (tyIZ cI cZ) (xo xd ma ka ta ξ hi :: mw cI cZ ma σ) sz (fun _ => True))) (va_Qi (fun (r : Int32) (u : St) => r = σ 0 6 + nI 1 ∧ u = up2 σ 0 6 (σ 0 6 + nI 1)) (zPost (dC, dI) vwCl (tyIZ cI cZ) (xo xd ma ka ta ξ hi :: mw cI cZ ma σ) sz (fun (u : St) => xo xd ma ka ta ξ hi :: mw cI cZ ma u)) (va_A (xo xd ma ka ta ξ hi :: mw cI cZ ma σ) sz)) 0 0 (va_A (xo xd ma ka ta ξ hi :: mw cI cZ ma σ) sz) := by
  refine z_impI (cc := cX2_year) (maxL := 1) (av := [.ref (xd 0)]) (by decide) rfl (Nat.le_of_ble_eq_true rfl) ?_
  intro p e s m below meth c Q A ls hx hb hml hown hts hBs hP hK hD hS hA hAB hq hl
  have hown : s.vm.findClass RX2 = some m.cls := hown
  have hin1 : ∀ w ∈ wsX10, w ∈ wsX2_year := fun _ h => List.mem_cons_of_mem _ (List.mem_append_right _ h)
  have hin2 : ∀ w ∈ wsX20, w ∈ wsX2_year := fun _ h => List.mem_cons_of_mem _ (List.mem_append_left _ (List.mem_append_right _ h))
  have L10 := hts (.fieldLink RX2 10 "BestBeast" "manor" "LBestBeast$Manor;") (List.mem_of_getElem? (i := 1) rfl)
  have L146 := hts (.fieldLink RX2 146 "BestBeast$Manor" "yearNow" "I") (List.mem_of_getElem? (i := 2) rfl)
  obtain ⟨⟨iL, iC, iV, iM, iH, iB, jL, jC, jV, jM, jH, jB⟩, iK, iDe, iAl, iHe, iWo, iO1, iO2⟩ := id hI
  have hl : lv_has ls 1 [(0, .ref (xd 0))] := hl
  refine lv_aload_n hx hb dX2_year_0 rfl (lv_at hl 0 rfl) ?_
  refine va_get (D := (dC, dI)) (ci := 2) (v := .ref (ma 0)) (C := RX2) (T := TX2) (N := 8) hx hb hts hin2 hown hK hP 0 rfl rfl 0 (by decide) L10 (fun _ h9 => h9) rfl dX2_year_1 ?_
  refine lv_dup hx hb dX2_year_4 rfl ?_
  refine va_get (D := (dC, dI)) (ci := 1) (v := .int (σ 0 6)) (C := RX1) (T := TX1) (N := 17) hx hb hts hin1 hown hK hP 1 rfl rfl 15 (by decide) L146 (fun _ h9 => h9) rfl dX2_year_5 ?_
  refine lv_iconst (v := nI 1) hx hb dX2_year_8 (by decide) ?_
  refine z_iadd (v := (σ 0 6) + (nI 1)) hx hb dX2_year_9 (rfl) ?_
  refine va_put (D := (dC, dI)) (ci := 1) (v := .int ((σ 0 6) + (nI 1))) (ty := .int) (C := RX1) (T := TX1) (N := 17) hx hb hts hin1 tyX1 tyX1_ok nmX1 hown hK hP hD hS 1 rfl rfl 15 (by decide) L146 (fun _ h9 => h9) rfl (by decide +kernel) rfl rfl (Nat.le_of_ble_eq_true rfl) dX2_year_10 (fun H locs hP hD hS => ?_)
  have hP : va_P (dC, dI) vwCl (xo xd ma ka ta ξ hi :: mw cI cZ ma (up2 σ 0 6 ((σ 0 6) + (nI 1)))) H := hP
  have hD : va_D A (xo xd ma ka ta ξ hi :: mw cI cZ ma (up2 σ 0 6 ((σ 0 6) + (nI 1)))) := hD
  refine lv_aload_n hx hb dX2_year_13 rfl (lv_at hl 0 rfl) ?_
  refine va_get (D := (dC, dI)) (ci := 2) (v := .ref (ma 0)) (C := RX2) (T := TX2) (N := 8) hx hb hts hin2 hown hK hP 0 rfl rfl 0 (by decide) L10 (fun _ h9 => h9) rfl dX2_year_14 ?_
  refine va_get (D := (dC, dI)) (ci := 1) (v := .int ((σ 0 6) + (nI 1))) (C := RX1) (T := TX1) (N := 17) hx hb hts hin1 hown hK hP 1 rfl rfl 15 (by decide) L146 (fun _ h9 => h9) rfl dX2_year_17 ?_
  exact hq ((σ 0 6) + (nI 1)) (up2 σ 0 6 ((σ 0 6) + (nI 1))) _ _ 20 ls dX2_year_20 (show ((σ 0 6) + (nI 1)) = σ 0 6 + nI 1 ∧ (up2 σ 0 6 ((σ 0 6) + (nI 1))) = up2 σ 0 6 (σ 0 6 + nI 1) from ⟨rfl, rfl⟩) hP hD hS
abbrev rm_c_X2_roll : Room := { frames := 1, cells := 0, slots := 0, locals := 22 }
set_option maxHeartbeats 4000000 in
set_option maxRecDepth 100000 in
theorem c_X2_roll (l : Launch) (dC : Nat → ClassId) (dI : Nat → Nat → Nat) (cI cZ : ClassId) (xd ma ka ta : Nat → Nat) (σ : St) (Hn B L C V M : Nat) (hI : Inv σ Hn B L C V M) (ξ : Nat → Int32) (hi : Int32) (b k : Int32) (sz : Nat) : Met l yX2_roll wsX2_roll rm_c_X2_roll (va_Pc [.ref (xd 0), .int b, .int k] (zPre (dC, dI) vwCl (tyIZ cI cZ) (xo xd ma ka ta ξ hi :: mw cI cZ ma σ) sz (fun _ => True))) (va_Qi (fun (r : Int32) (u : St) => r = (rollF σ B b k).1 ∧ u = (rollF σ B b k).2) (zPost (dC, dI) vwCl (tyIZ cI cZ) (xo xd ma ka ta ξ hi :: mw cI cZ ma σ) sz (fun (u : St) => xo xd ma ka ta ξ hi :: mw cI cZ ma u)) (va_A (xo xd ma ka ta ξ hi :: mw cI cZ ma σ) sz)) 0 0 (va_A (xo xd ma ka ta ξ hi :: mw cI cZ ma σ) sz) := by
  refine z_impI (cc := cX2_roll) (maxL := 4) (av := [.ref (xd 0), .int b, .int k]) (by decide) rfl (Nat.le_of_ble_eq_true rfl) ?_
  intro p e s m below meth c Q A ls hx hb hml hown hts hBs hP hK hD hS hA hAB hq hl
  have hown : s.vm.findClass RX2 = some m.cls := hown
  have hin1 : ∀ w ∈ wsX10, w ∈ wsX2_roll := fun _ h => List.mem_cons_of_mem _ (List.mem_append_right _ h)
  have hin2 : ∀ w ∈ wsX20, w ∈ wsX2_roll := fun _ h => List.mem_cons_of_mem _ (List.mem_append_left _ (List.mem_append_right _ h))
  have L10 := hts (.fieldLink RX2 10 "BestBeast" "manor" "LBestBeast$Manor;") (List.mem_of_getElem? (i := 1) rfl)
  have L133 := hts (.fieldLink RX2 133 "BestBeast$Manor" "told" "[I") (List.mem_of_getElem? (i := 2) rfl)
  obtain ⟨⟨iL, iC, iV, iM, iH, iB, jL, jC, jV, jM, jH, jB⟩, iK, iDe, iAl, iHe, iWo, iO1, iO2⟩ := id hI
  have hl : lv_has ls 4 [(0, .ref (xd 0)), (1, .int b), (2, .int k)] := hl
  refine lv_aload_n hx hb dX2_roll_0 rfl (lv_at hl 0 rfl) ?_
  refine va_get (D := (dC, dI)) (ci := 2) (v := .ref (ma 0)) (C := RX2) (T := TX2) (N := 8) hx hb hts hin2 hown hK hP 0 rfl rfl 0 (by decide) L10 (fun _ h9 => h9) rfl dX2_roll_1 ?_
  refine lv_iload_n hx hb dX2_roll_4 rfl (lv_at hl 1 rfl) ?_
  refine z_callV (As := [.int b]) (rest := []) ⟨hx, hb, hml, hown, hts⟩ (c_X1_hasBeast l dC dI cI cZ ma σ Hn B L C V M hI.1 b) (cwV 1 hts gX2_roll_X1_hasBeast rfl rfl rfl (by decide +kernel) ⟨Nat.le_of_ble_eq_true rfl, Nat.le_of_ble_eq_true rfl⟩) (hP.sub [1, 2, 3, 4, 5, 6, 7, 8, 9, 10] rfl) hK (va_recv hK hP (ci := 1) (q0 := 1) rfl rfl) rfl hl.1 rfl (Nat.le_of_ble_eq_true rfl) ⟨Nat.zero_le _, Nat.zero_le _⟩ dX2_roll_5 (fun r hr => ?_)
  obtain rfl : r = zb (hasP B b) := hr
  refine z_ifne_b (P := hasP B b) (tgt := 14) hx hb dX2_roll_8 (by decide) (fun (c_8 : hasP B b) => ?_) (fun (c_8 : ¬ (hasP B b)) => ?_)
  · skip
    obtain ⟨i, hi6, rfl⟩ := c_8
    refine lv_iload_n hx hb dX2_roll_14 rfl (lv_at hl 2 rfl) ?_
    refine lv_iconst (v := (-1)) hx hb dX2_roll_15 (by decide) ?_
    refine lv_iconst (v := nI 1) hx hb dX2_roll_16 (by decide) ?_
    refine z_callS (As := [.int k, .int (-1), .int (nI 1)]) (rest := []) ⟨hx, hb, hml, hown, hts⟩ (c_X2_within l k (-1) (nI 1)) (va_cwS 3 hts gX2_roll_X2_within rfl rfl rfl (by decide +kernel) ⟨Nat.le_of_ble_eq_true rfl, Nat.le_of_ble_eq_true rfl⟩) rfl hl.1 rfl (Nat.le_of_ble_eq_true rfl) ⟨Nat.zero_le _, Nat.zero_le _⟩ dX2_roll_17 (fun r hr => ?_)
    obtain rfl : r = zb ((-1) ≤ k ∧ k ≤ (nI 1)) := hr
    refine z_topi (v := zb (k = -1 ∨ inP 0 1 k)) (zb_iff rollP_iff) ?_
    refine z_ifne_b (P := k = -1 ∨ inP 0 1 k) (tgt := 26) hx hb dX2_roll_20 (by decide) (fun (c_20 : k = -1 ∨ inP 0 1 k) => ?_) (fun (c_20 : ¬ (k = -1 ∨ inP 0 1 k)) => ?_)
    · skip
      refine lv_aload_n hx hb dX2_roll_26 rfl (lv_at hl 0 rfl) ?_
      refine va_get (D := (dC, dI)) (ci := 2) (v := .ref (ma 0)) (C := RX2) (T := TX2) (N := 8) hx hb hts hin2 hown hK hP 0 rfl rfl 0 (by decide) L10 (fun _ h9 => h9) rfl dX2_roll_27 ?_
      refine va_get (D := (dC, dI)) (ci := 1) (v := .ref (ma 9)) (C := RX1) (T := TX1) (N := 17) hx hb hts hin1 hown hK hP 1 rfl rfl 14 (by decide) L133 (fun _ h9 => h9) rfl dX2_roll_30 ?_
      refine lv_iload_n hx hb dX2_roll_33 rfl (lv_at hl 1 rfl) ?_
      refine z_iald (D := (dC, dI)) hx hb hK hP 10 0 rfl rfl i (rfl) (by omega) (by omega) (v := (σ 9) i) (rfl) dX2_roll_34 ?_
      refine lv_istore_n (lv' := [(3, .int ((σ 9) i)), (0, .ref (xd 0)), (1, .int (nI i)), (2, .int k)]) hx hb dX2_roll_35 rfl hl (by decide) rfl (fun ls hl => ?_)
      refine lv_aload_n hx hb dX2_roll_36 rfl (lv_at hl 1 rfl) ?_
      refine va_get (D := (dC, dI)) (ci := 2) (v := .ref (ma 0)) (C := RX2) (T := TX2) (N := 8) hx hb hts hin2 hown hK hP 0 rfl rfl 0 (by decide) L10 (fun _ h9 => h9) rfl dX2_roll_37 ?_
      refine va_get (D := (dC, dI)) (ci := 1) (v := .ref (ma 9)) (C := RX1) (T := TX1) (N := 17) hx hb hts hin1 hown hK hP 1 rfl rfl 14 (by decide) L133 (fun _ h9 => h9) rfl dX2_roll_40 ?_
      refine lv_iload_n hx hb dX2_roll_43 rfl (lv_at hl 2 rfl) ?_
      refine lv_iload_n hx hb dX2_roll_44 rfl (lv_at hl 3 rfl) ?_
      refine z_iast (D := (dC, dI)) hx hb hK hP hD hS 10 0 rfl rfl i (rfl) (by omega) (by omega) (f' := upd (σ 9) i k) (rfl) dX2_roll_45 (fun H locs hP hD hS => ?_)
      have hP : va_P (dC, dI) vwCl (xo xd ma ka ta ξ hi :: mw cI cZ ma (up2 σ 9 i k)) H := hP
      have hD : va_D A (xo xd ma ka ta ξ hi :: mw cI cZ ma (up2 σ 9 i k)) := hD
      refine lv_iload_n hx hb dX2_roll_46 rfl (lv_at hl 0 rfl) ?_
      exact hq ((σ 9) i) (up2 σ 9 i k) _ _ 47 ls dX2_roll_47 (show ((σ 9) i) = (rollF σ B (nI i) k).1 ∧ (up2 σ 9 i k) = (rollF σ B (nI i) k).2 from ⟨(by unfold rollF; rw [zif_t (hasP_nI hi6), zif_t c_20, tn_nI (by omega)]), (by unfold rollF; rw [zif_t (hasP_nI hi6), zif_t c_20, tn_nI (by omega)])⟩) hP hD hS
    · skip
      refine lv_bipush (v := (-102)) hx hb dX2_roll_23 (by decide) ?_
      exact hq (-102) σ _ _ 25 ls dX2_roll_25 (show (-102) = (rollF σ B (nI i) k).1 ∧ σ = (rollF σ B (nI i) k).2 from ⟨(by unfold rollF; rw [zif_t (hasP_nI hi6), zif_f c_20]), (by unfold rollF; rw [zif_t (hasP_nI hi6), zif_f c_20])⟩) hP hD hS
  · skip
    refine lv_bipush (v := (-101)) hx hb dX2_roll_11 (by decide) ?_
    exact hq (-101) σ _ _ 13 ls dX2_roll_13 (show (-101) = (rollF σ B b k).1 ∧ σ = (rollF σ B b k).2 from ⟨(by unfold rollF; rw [zif_f c_8]), (by unfold rollF; rw [zif_f c_8])⟩) hP hD hS
abbrev rm_c_X2_letter : Room := { frames := 1, cells := 0, slots := 0, locals := 22 }
set_option maxHeartbeats 4000000 in
set_option maxRecDepth 100000 in
theorem c_X2_letter (l : Launch) (dC : Nat → ClassId) (dI : Nat → Nat → Nat) (cI cZ : ClassId) (xd ma ka ta : Nat → Nat) (ξ : Nat → Int32) (hi : Int32) (P : Nat → Int32) (n : Nat) (hn0 : ξ 0 = nI n) (hn8 : n ≤ 8) (code : Int32) (sz : Nat) : Met l yX2_letter wsX2_letter rm_c_X2_letter (va_Pc [.ref (xd 0), .int code] (zPre (dC, dI) vwCl (tyIZ cI cZ) ([xo xd ma ka ta ξ hi, (xd 1, .inl (cI, 8, .inl P))]) sz (fun _ => True))) (va_Qi (fun (r : Int32) (u : (Nat → Int32) × (Nat → Int32)) => r = (letterF P ξ n code).1 ∧ u = (letterF P ξ n code).2) (zPost (dC, dI) vwCl (tyIZ cI cZ) ([xo xd ma ka ta ξ hi, (xd 1, .inl (cI, 8, .inl P))]) sz (fun (u : (Nat → Int32) × (Nat → Int32)) => [xo xd ma ka ta u.2 hi, (xd 1, .inl (cI, 8, .inl u.1))])) (va_A ([xo xd ma ka ta ξ hi, (xd 1, .inl (cI, 8, .inl P))]) sz)) 0 0 (va_A ([xo xd ma ka ta ξ hi, (xd 1, .inl (cI, 8, .inl P))]) sz) := by
  refine z_impI (cc := cX2_letter) (maxL := 2) (av := [.ref (xd 0), .int code]) (by decide) rfl (Nat.le_of_ble_eq_true rfl) ?_
  intro p e s m below meth c Q A ls hx hb hml hown hts hBs hP hK hD hS hA hAB hq hl
  have hown : s.vm.findClass RX2 = some m.cls := hown
  have hin2 : ∀ w ∈ wsX20, w ∈ wsX2_letter := fun _ h => List.mem_cons_of_mem _ (List.mem_append_right _ h)
  have L33 := hts (.fieldLink RX2 33 "BestBeast" "letters" "I") (List.mem_of_getElem? (i := 1) rfl)
  have L29 := hts (.fieldLink RX2 29 "BestBeast" "page" "[I") (List.mem_of_getElem? (i := 2) rfl)
  have hl : lv_has ls 2 [(0, .ref (xd 0)), (1, .int code)] := hl
  refine lv_iload_n hx hb dX2_letter_0 rfl (lv_at hl 1 rfl) ?_
  refine lv_iconst (v := nI 1) hx hb dX2_letter_1 (by decide) ?_
  refine lv_bipush (v := nI 126) hx hb dX2_letter_2 (by decide) ?_
  refine z_callS (As := [.int code, .int (nI 1), .int (nI 126)]) (rest := []) ⟨hx, hb, hml, hown, hts⟩ (c_X2_within_n l code 1 126 (by omega) (by omega)) (va_cwS 3 hts gX2_letter_X2_within rfl rfl rfl (by decide +kernel) ⟨Nat.le_of_ble_eq_true rfl, Nat.le_of_ble_eq_true rfl⟩) rfl hl.1 rfl (Nat.le_of_ble_eq_true rfl) ⟨Nat.zero_le _, Nat.zero_le _⟩ dX2_letter_4 (fun r hr => ?_)
  obtain rfl : r = zb (inP 1 126 code) := hr
  refine z_ifne_b (P := inP 1 126 code) (tgt := 13) hx hb dX2_letter_7 (by decide) (fun (c_7 : inP 1 126 code) => ?_) (fun (c_7 : ¬ (inP 1 126 code)) => ?_)
  · skip
    refine lv_aload_n hx hb dX2_letter_13 rfl (lv_at hl 0 rfl) ?_
    refine va_get (D := (dC, dI)) (ci := 2) (v := .int (nI n)) (C := RX2) (T := TX2) (N := 8) hx hb hts hin2 hown hK hP 0 rfl rfl 5 (by decide) L33 (fun _ h9 => h9) (congrArg (fun z => some (Value.int z)) hn0) dX2_letter_14 ?_
    refine lv_aload_n hx hb dX2_letter_17 rfl (lv_at hl 0 rfl) ?_
    refine va_get (D := (dC, dI)) (ci := 2) (v := .ref (xd 1)) (C := RX2) (T := TX2) (N := 8) hx hb hts hin2 hown hK hP 0 rfl rfl 4 (by decide) L29 (fun _ h9 => h9) rfl dX2_letter_18 ?_
    refine va_alen (D := (dC, dI)) (v := nI 8) hx hb hK hP 1 0 rfl rfl rfl dX2_letter_21 ?_
    refine z_icmp_lt (a := n) (b := 8) (tgt := 28) hx hb (by omega) (by omega) dX2_letter_22 (by decide) (fun (c_22 : n < 8) => ?_) (fun (c_22 : 8 ≤ n) => ?_)
    · skip
      refine lv_aload_n hx hb dX2_letter_28 rfl (lv_at hl 0 rfl) ?_
      refine va_get (D := (dC, dI)) (ci := 2) (v := .ref (xd 1)) (C := RX2) (T := TX2) (N := 8) hx hb hts hin2 hown hK hP 0 rfl rfl 4 (by decide) L29 (fun _ h9 => h9) rfl dX2_letter_29 ?_
      refine lv_aload_n hx hb dX2_letter_32 rfl (lv_at hl 0 rfl) ?_
      refine va_get (D := (dC, dI)) (ci := 2) (v := .int (nI n)) (C := RX2) (T := TX2) (N := 8) hx hb hts hin2 hown hK hP 0 rfl rfl 5 (by decide) L33 (fun _ h9 => h9) (congrArg (fun z => some (Value.int z)) hn0) dX2_letter_33 ?_
      refine lv_iload_n hx hb dX2_letter_36 rfl (lv_at hl 1 rfl) ?_
      refine z_iast (D := (dC, dI)) hx hb hK hP hD hS 1 0 rfl rfl n (rfl) (by omega) (by omega) (f' := upd P n code) (rfl) dX2_letter_37 (fun H locs hP hD hS => ?_)
      have hP : va_P (dC, dI) vwCl ([xo xd ma ka ta ξ hi, (xd 1, .inl (cI, 8, .inl (upd P n code)))]) H := hP
      have hD : va_D A ([xo xd ma ka ta ξ hi, (xd 1, .inl (cI, 8, .inl (upd P n code)))]) := hD
      refine lv_aload_n hx hb dX2_letter_38 rfl (lv_at hl 0 rfl) ?_
      refine lv_dup hx hb dX2_letter_39 rfl ?_
      refine va_get (D := (dC, dI)) (ci := 2) (v := .int (nI n)) (C := RX2) (T := TX2) (N := 8) hx hb hts hin2 hown hK hP 0 rfl rfl 5 (by decide) L33 (fun _ h9 => h9) (congrArg (fun z => some (Value.int z)) hn0) dX2_letter_40 ?_
      refine lv_iconst (v := nI 1) hx hb dX2_letter_43 (by decide) ?_
      refine z_iadd (v := nI (n + 1)) hx hb dX2_letter_44 (nI_add _ _) ?_
      refine va_put (D := (dC, dI)) (ci := 2) (v := .int (nI (n + 1))) (ty := .int) (C := RX2) (T := TX2) (N := 8) hx hb hts hin2 tyX2 tyX2_ok nmX2 hown hK hP hD hS 0 rfl rfl 5 (by decide) L33 (fun _ h9 => h9) rfl (by decide +kernel) rfl rfl (Nat.le_of_ble_eq_true rfl) dX2_letter_45 (fun H locs hP hD hS => ?_)
      have hP : va_P (dC, dI) vwCl ([xo xd ma ka ta (upd ξ 0 (nI (n + 1))) hi, (xd 1, .inl (cI, 8, .inl (upd P n code)))]) H := hP
      have hD : va_D A ([xo xd ma ka ta (upd ξ 0 (nI (n + 1))) hi, (xd 1, .inl (cI, 8, .inl (upd P n code)))]) := hD
      refine lv_aload_n hx hb dX2_letter_48 rfl (lv_at hl 0 rfl) ?_
      refine va_get (D := (dC, dI)) (ci := 2) (v := .int (nI (n + 1))) (C := RX2) (T := TX2) (N := 8) hx hb hts hin2 hown hK hP 0 rfl rfl 5 (by decide) L33 (fun _ h9 => h9) rfl dX2_letter_49 ?_
      exact hq (nI (n + 1)) (upd P n code, upd ξ 0 (nI (n + 1))) _ _ 52 ls dX2_letter_52 (show (nI (n + 1)) = (letterF P ξ n code).1 ∧ (upd P n code, upd ξ 0 (nI (n + 1))) = (letterF P ξ n code).2 from ⟨(by unfold letterF; rw [zif_t c_7, if_neg (show ¬ n = 8 by omega)]), (by unfold letterF; rw [zif_t c_7, if_neg (show ¬ n = 8 by omega)])⟩) hP hD hS
    · skip
      refine lv_bipush (v := (-104)) hx hb dX2_letter_25 (by decide) ?_
      exact hq (-104) (P, ξ) _ _ 27 ls dX2_letter_27 (show (-104) = (letterF P ξ n code).1 ∧ (P, ξ) = (letterF P ξ n code).2 from ⟨(by unfold letterF; rw [zif_t c_7, if_pos (show n = 8 by omega)]), (by unfold letterF; rw [zif_t c_7, if_pos (show n = 8 by omega)])⟩) hP hD hS
  · skip
    refine lv_bipush (v := (-102)) hx hb dX2_letter_10 (by decide) ?_
    exact hq (-102) (P, ξ) _ _ 12 ls dX2_letter_12 (show (-102) = (letterF P ξ n code).1 ∧ (P, ξ) = (letterF P ξ n code).2 from ⟨(by unfold letterF; rw [zif_f c_7]), (by unfold letterF; rw [zif_f c_7])⟩) hP hD hS
abbrev rm_c_X2_blank : Room := { frames := 0, cells := 0, slots := 0, locals := 0 }
set_option maxHeartbeats 4000000 in
set_option maxRecDepth 100000 in
theorem c_X2_blank (l : Launch) (dC : Nat → ClassId) (dI : Nat → Nat → Nat) (cI cZ : ClassId) (xd ma ka ta : Nat → Nat) (ξ : Nat → Int32) (hi : Int32)  (sz : Nat) : Met l yX2_blank wsX2_blank rm_c_X2_blank (va_Pc [.ref (xd 0)] (zPre (dC, dI) vwCl (tyIZ cI cZ) ([xo xd ma ka ta ξ hi]) sz (fun _ => True))) (va_Qi (fun (r : Int32) (u : Nat → Int32) => r = ξ 0 ∧ u = upd ξ 0 (nI 0)) (zPost (dC, dI) vwCl (tyIZ cI cZ) ([xo xd ma ka ta ξ hi]) sz (fun (u : Nat → Int32) => [xo xd ma ka ta u hi])) (va_A ([xo xd ma ka ta ξ hi]) sz)) 0 0 (va_A ([xo xd ma ka ta ξ hi]) sz) := by
  refine z_impI (cc := cX2_blank) (maxL := 2) (av := [.ref (xd 0)]) (by decide) rfl (Nat.le_of_ble_eq_true rfl) ?_
  intro p e s m below meth c Q A ls hx hb hml hown hts hBs hP hK hD hS hA hAB hq hl
  have hown : s.vm.findClass RX2 = some m.cls := hown
  have hin2 : ∀ w ∈ wsX20, w ∈ wsX2_blank := fun _ h => List.mem_cons_of_mem _ (List.mem_append_right _ h)
  have L33 := hts (.fieldLink RX2 33 "BestBeast" "letters" "I") (List.mem_of_getElem? (i := 1) rfl)
  have hl : lv_has ls 2 [(0, .ref (xd 0))] := hl
  refine lv_aload_n hx hb dX2_blank_0 rfl (lv_at hl 0 rfl) ?_
  refine va_get (D := (dC, dI)) (ci := 2) (v := .int (ξ 0)) (C := RX2) (T := TX2) (N := 8) hx hb hts hin2 hown hK hP 0 rfl rfl 5 (by decide) L33 (fun _ h9 => h9) rfl dX2_blank_1 ?_
  refine lv_istore_n (lv' := [(1, .int (ξ 0)), (0, .ref (xd 0))]) hx hb dX2_blank_4 rfl hl (by decide) rfl (fun ls hl => ?_)
  refine lv_aload_n hx hb dX2_blank_5 rfl (lv_at hl 1 rfl) ?_
  refine lv_iconst (v := nI 0) hx hb dX2_blank_6 (by decide) ?_
  refine va_put (D := (dC, dI)) (ci := 2) (v := .int (nI 0)) (ty := .int) (C := RX2) (T := TX2) (N := 8) hx hb hts hin2 tyX2 tyX2_ok nmX2 hown hK hP hD hS 0 rfl rfl 5 (by decide) L33 (fun _ h9 => h9) rfl (by decide +kernel) rfl rfl (Nat.le_of_ble_eq_true rfl) dX2_blank_7 (fun H locs hP hD hS => ?_)
  have hP : va_P (dC, dI) vwCl ([xo xd ma ka ta (upd ξ 0 (nI 0)) hi]) H := hP
  have hD : va_D A ([xo xd ma ka ta (upd ξ 0 (nI 0)) hi]) := hD
  refine lv_iload_n hx hb dX2_blank_10 rfl (lv_at hl 0 rfl) ?_
  exact hq (ξ 0) (upd ξ 0 (nI 0)) _ _ 11 ls dX2_blank_11 (show (ξ 0) = ξ 0 ∧ (upd ξ 0 (nI 0)) = upd ξ 0 (nI 0) from ⟨rfl, rfl⟩) hP hD hS
abbrev rm_c_X2_fitsLaw : Room := { frames := 1, cells := 0, slots := 0, locals := 22 }
set_option maxHeartbeats 4000000 in
set_option maxRecDepth 100000 in
theorem c_X2_fitsLaw (l : Launch) (dC : Nat → ClassId) (dI : Nat → Nat → Nat) (cI cZ : ClassId) (xd ma ka ta : Nat → Nat) (ξ : Nat → Int32) (hi : Int32) (P : Nat → Int32) (n : Nat) (hn0 : ξ 0 = nI n) (hn8 : n ≤ 8) (tf tt : Nat) (k : Nat) (hk8 : k < 8) : Met l yX2_fitsLaw wsX2_fitsLaw rm_c_X2_fitsLaw (va_Pc [.ref (xd 0), .int (nI k)] (fun U => (va_P (dC, dI) vwCl ([xo xd ma ka ta ξ hi, (xd 1, .inl (cI, 8, .inl P))]) U.heap ∧ va_K (dC, dI) vwCl (tyIZ cI cZ) U) ∧ lawE tf tt U)) (vp_Si (fun r : Int32 => r = zb (goodP k (P k)))) 0 0 (fun _ => False) := by
  refine z_pureZ (cc := cX2_fitsLaw) (maxL := 2) (av := [.ref (xd 0), .int (nI k)]) (by decide) rfl (Nat.le_of_ble_eq_true rfl) ?_
  intro p e s m below meth c Q ls hx hb hml hown hts ⟨⟨hP, hK⟩, hE⟩ hq hl
  have hown : s.vm.findClass RX2 = some m.cls := hown
  have hin2 : ∀ w ∈ wsX20, w ∈ wsX2_fitsLaw := fun _ h => List.mem_cons_of_mem _ (List.mem_append_right _ h)
  have L52 := hts (.fieldLink RX2 52 "BestBeast" "LAW_FROM" "[C") (List.mem_of_getElem? (i := 1) rfl)
  have L72 := hts (.fieldLink RX2 72 "BestBeast" "LAW_TO" "[C") (List.mem_of_getElem? (i := 2) rfl)
  have L29 := hts (.fieldLink RX2 29 "BestBeast" "page" "[I") (List.mem_of_getElem? (i := 3) rfl)
  obtain ⟨zF, tF, zT, tT⟩ := id hE
  have hS0 : va_S (fun _ => False) s.heap s.heap [] := va_S.rf
  have hl : lv_has ls 2 [(0, .ref (xd 0)), (1, .int (nI k))] := hl
  refine lv_iload_n hx hb dX2_fitsLaw_0 rfl (lv_at hl 1 rfl) ?_
  refine lv_if_lt (tgt := 29) hx hb dX2_fitsLaw_1 (by decide) (fun (z9 : (nI k) < 0) => absurd z9 (nI_pos (by omega))) (fun (c_1 : ¬ ((nI k) < 0)) => ?_)
  refine lv_iload_n hx hb dX2_fitsLaw_4 rfl (lv_at hl 1 rfl) ?_
  refine va_gets hx hb zF hS0 hown L52 (fun _ h9 => h9) dX2_fitsLaw_5 ?_
  refine va_tlen (v := nI 5) hx hb tF hS0 rfl dX2_fitsLaw_8 ?_
  refine z_icmp_ge (a := k) (b := 5) (tgt := 29) hx hb (by omega) (by omega) dX2_fitsLaw_9 (by decide) (fun (c_9 : 5 ≤ k) => ?_) (fun (c_9 : k < 5) => ?_)
  · skip
    refine lv_iconst (v := nI 0) hx hb dX2_fitsLaw_29 (by decide) ?_
    exact hq (nI 0) 30 ls dX2_fitsLaw_30 (Or.inl rfl) (show (nI 0) = zb (goodP k (P k)) from (zb_f (fun z => absurd z.1 (by omega))).symm)
  · skip
    refine lv_iload_n hx hb dX2_fitsLaw_12 rfl (lv_at hl 1 rfl) ?_
    refine va_gets hx hb zT hS0 hown L72 (fun _ h9 => h9) dX2_fitsLaw_13 ?_
    refine va_tlen (v := nI 5) hx hb tT hS0 rfl dX2_fitsLaw_16 ?_
    refine z_icmp_ge (a := k) (b := 5) (tgt := 29) hx hb (by omega) (by omega) dX2_fitsLaw_17 (by decide) (fun z9 => absurd z9 (by omega)) (fun c_17 => ?_)
    refine lv_iload_n hx hb dX2_fitsLaw_20 rfl (lv_at hl 1 rfl) ?_
    refine lv_aload_n hx hb dX2_fitsLaw_21 rfl (lv_at hl 0 rfl) ?_
    refine va_get (D := (dC, dI)) (ci := 2) (v := .ref (xd 1)) (C := RX2) (T := TX2) (N := 8) hx hb hts hin2 hown hK hP 0 rfl rfl 4 (by decide) L29 (fun _ h9 => h9) rfl dX2_fitsLaw_22 ?_
    refine va_alen (D := (dC, dI)) (v := nI 8) hx hb hK hP 1 0 rfl rfl rfl dX2_fitsLaw_25 ?_
    refine z_icmp_lt (a := k) (b := 8) (tgt := 31) hx hb (by omega) (by omega) dX2_fitsLaw_26 (by decide) (fun c_26 => ?_) (fun z9 => absurd z9 (by omega))
    refine lv_aload_n hx hb dX2_fitsLaw_31 rfl (lv_at hl 0 rfl) ?_
    refine va_get (D := (dC, dI)) (ci := 2) (v := .ref (xd 1)) (C := RX2) (T := TX2) (N := 8) hx hb hts hin2 hown hK hP 0 rfl rfl 4 (by decide) L29 (fun _ h9 => h9) rfl dX2_fitsLaw_32 ?_
    refine lv_iload_n hx hb dX2_fitsLaw_35 rfl (lv_at hl 1 rfl) ?_
    refine z_iald (D := (dC, dI)) hx hb hK hP 1 0 rfl rfl k (rfl) (by omega) (by omega) (v := P k) (rfl) dX2_fitsLaw_36 ?_
    refine va_gets hx hb zF hS0 hown L52 (fun _ h9 => h9) dX2_fitsLaw_37 ?_
    refine lv_iload_n hx hb dX2_fitsLaw_40 rfl (lv_at hl 1 rfl) ?_
    refine va_tc (v := .int (nI (loF k))) hx hb tF hS0 (vp_in_nI (by omega) (by decide)) (by show Value.int (nI (loF (nI k).toNatClampNeg)) = _; rw [nI_clamp (by omega)]) dX2_fitsLaw_41 ?_
    refine va_gets hx hb zT hS0 hown L72 (fun _ h9 => h9) dX2_fitsLaw_42 ?_
    refine lv_iload_n hx hb dX2_fitsLaw_45 rfl (lv_at hl 1 rfl) ?_
    refine va_tc (v := .int (nI (hiF k))) hx hb tT hS0 (vp_in_nI (by omega) (by decide)) (by show Value.int (nI (hiF (nI k).toNatClampNeg)) = _; rw [nI_clamp (by omega)]) dX2_fitsLaw_46 ?_
    refine z_callS (As := [.int (P k), .int (nI (loF k)), .int (nI (hiF k))]) (rest := []) ⟨hx, hb, hml, hown, hts⟩ (c_X2_within_n l (P k) (loF k) (hiF k) (by unfold loF; split <;> omega) (by unfold hiF; split <;> (try split) <;> (try split) <;> omega)) (va_cwS 3 hts gX2_fitsLaw_X2_within rfl rfl rfl (by decide +kernel) ⟨Nat.le_of_ble_eq_true rfl, Nat.le_of_ble_eq_true rfl⟩) rfl hl.1 rfl (Nat.le_of_ble_eq_true rfl) ⟨Nat.zero_le _, Nat.zero_le _⟩ dX2_fitsLaw_47 (fun r hr => ?_)
    obtain rfl : r = zb (inP (loF k) (hiF k) (P k)) := hr
    exact hq (zb (inP (loF k) (hiF k) (P k))) 50 ls dX2_fitsLaw_50 (zb_cases _) (show (zb (inP (loF k) (hiF k) (P k))) = zb (goodP k (P k)) from (zb_iff ⟨fun z => ⟨c_9, z⟩, fun z => z.2⟩))
abbrev rm_c_X2_fault : Room := { frames := 2, cells := 0, slots := 0, locals := 43 }
set_option maxHeartbeats 4000000 in
set_option maxRecDepth 100000 in
theorem c_X2_fault (l : Launch) (dC : Nat → ClassId) (dI : Nat → Nat → Nat) (cI cZ : ClassId) (xd ma ka ta : Nat → Nat) (ξ : Nat → Int32) (hi : Int32) (P : Nat → Int32) (n : Nat) (hn0 : ξ 0 = nI n) (hn8 : n ≤ 8) (tf tt : Nat)  : Met l yX2_fault wsX2_fault rm_c_X2_fault (va_Pc [.ref (xd 0)] (fun U => (va_P (dC, dI) vwCl ([xo xd ma ka ta ξ hi, (xd 1, .inl (cI, 8, .inl P))]) U.heap ∧ va_K (dC, dI) vwCl (tyIZ cI cZ) U) ∧ lawE tf tt U)) (vp_Si (fun r : Int32 => r = nI (faultR P n))) 0 0 (fun _ => False) := by
  refine z_pureI (cc := cX2_fault) (maxL := 2) (av := [.ref (xd 0)]) (by decide) rfl (Nat.le_of_ble_eq_true rfl) ?_
  intro p e s m below meth c Q ls hx hb hml hown hts ⟨⟨hP, hK⟩, hE⟩ hq hl
  have hown : s.vm.findClass RX2 = some m.cls := hown
  have hin2 : ∀ w ∈ wsX20, w ∈ wsX2_fault := fun _ h => List.mem_cons_of_mem _ (List.mem_append_right _ h)
  have L33 := hts (.fieldLink RX2 33 "BestBeast" "letters" "I") (List.mem_of_getElem? (i := 1) rfl)
  obtain ⟨zF, tF, zT, tT⟩ := id hE
  have hS0 : va_S (fun _ => False) s.heap s.heap [] := va_S.rf
  have hl : lv_has ls 2 [(0, .ref (xd 0))] := hl
  refine lv_iconst (v := nI 0) hx hb dX2_fault_0 (by decide) ?_
  refine lv_istore_n (lv' := [(1, .int (nI 0)), (0, .ref (xd 0))]) hx hb dX2_fault_1 rfl hl (by decide) rfl (fun ls hl => ?_)
  suffices hlp2 : ∀ (nf : Nat) (k : Nat) (x2_1 : Int32) (ls : Array Slot), (k ≤ n) → (faultR P k = k) → x2_1 = nI k → lv_has ls 2 [(1, .int x2_1), (0, .ref (xd 0))] → n - k < nf → W p l e rm_c_X2_fault s m ([.ref (xd 0)] : List Value).toArray below meth c s.heap [] 0 0 Q (F0 m 2 ls []) by
    exact hlp2 ((n - 0) + 1) 0 (nI 0) ls (by omega) rfl rfl (lv_sub hl [0, 1] rfl) (by omega)
  intro nf
  induction nf with
  | zero => intro k x2_1 ls hk hf e2_1 hl hn; omega
  | succ nf ih2 =>
    intro k x2_1 ls hk hf e2_1 hl hn
    subst e2_1
    refine lv_iload_n hx hb dX2_fault_2 rfl (lv_at hl 0 rfl) ?_
    refine lv_aload_n hx hb dX2_fault_3 rfl (lv_at hl 1 rfl) ?_
    refine va_get (D := (dC, dI)) (ci := 2) (v := .int (nI n)) (C := RX2) (T := TX2) (N := 8) hx hb hts hin2 hown hK hP 0 rfl rfl 5 (by decide) L33 (fun _ h9 => h9) (congrArg (fun z => some (Value.int z)) hn0) dX2_fault_4 ?_
    refine z_icmp_ge (a := k) (b := n) (tgt := 26) hx hb (by omega) (by omega) dX2_fault_7 (by decide) (fun (c_7 : n ≤ k) => ?_) (fun (c_7 : k < n) => ?_)
    · skip
      refine lv_aload_n hx hb dX2_fault_26 rfl (lv_at hl 1 rfl) ?_
      refine va_get (D := (dC, dI)) (ci := 2) (v := .int (nI n)) (C := RX2) (T := TX2) (N := 8) hx hb hts hin2 hown hK hP 0 rfl rfl 5 (by decide) L33 (fun _ h9 => h9) (congrArg (fun z => some (Value.int z)) hn0) dX2_fault_27 ?_
      exact hq (nI n) 30 ls dX2_fault_30 (show (nI n) = nI (faultR P n) from (by rw [show n = k by omega, hf]))
    · skip
      refine lv_aload_n hx hb dX2_fault_10 rfl (lv_at hl 1 rfl) ?_
      refine lv_iload_n hx hb dX2_fault_11 rfl (lv_at hl 0 rfl) ?_
      refine z_callVE (As := [.int (nI k)]) (rest := []) ⟨hx, hb, hml, hown, hts⟩ (c_X2_fitsLaw l dC dI cI cZ xd ma ka ta ξ hi P n hn0 hn8 tf tt k (by omega)) (cwV 1 hts gX2_fault_X2_fitsLaw rfl rfl rfl (by decide +kernel) ⟨Nat.le_of_ble_eq_true rfl, Nat.le_of_ble_eq_true rfl⟩) lawE.calling (fun U hU hW => hE.at rfl hU hW) hP hK (va_recv hK hP (ci := 2) (q0 := 0) rfl rfl) rfl hl.1 rfl (Nat.le_of_ble_eq_true rfl) ⟨Nat.zero_le _, Nat.zero_le _⟩ dX2_fault_12 (fun r hr => ?_)
      obtain rfl : r = zb (goodP k (P k)) := hr
      refine z_ifne_b (P := goodP k (P k)) (tgt := 20) hx hb dX2_fault_15 (by decide) (fun (c_15 : goodP k (P k)) => ?_) (fun (c_15 : ¬ (goodP k (P k))) => ?_)
      · skip
        refine lv_iinc (v := nI (k + 1)) (lv' := [(1, .int (nI (k + 1))), (0, .ref (xd 0))]) hx hb dX2_fault_20 hl (k := 0) rfl (nI_1 _) (by decide) rfl (fun ls hl => ?_)
        refine lv_goto (tgt := 2) hx hb dX2_fault_23 (by decide) ?_
        exact ih2 (k + 1) (nI (k + 1)) ls (by omega) (faultR_y hf c_15) (show nI (k + 1) = nI (k + 1) from rfl) (lv_sub hl [0, 1] rfl) (by omega)
      · skip
        refine lv_iload_n hx hb dX2_fault_18 rfl (lv_at hl 0 rfl) ?_
        exact hq (nI k) 19 ls dX2_fault_19 (show (nI k) = nI (faultR P n) from (by rw [faultR_stop hf c_15 n c_7]))
abbrev rm_c_X2_law : Room := { frames := 3, cells := 0, slots := 0, locals := 64 }
set_option maxHeartbeats 4000000 in
set_option maxRecDepth 100000 in
theorem c_X2_law (l : Launch) (dC : Nat → ClassId) (dI : Nat → Nat → Nat) (cI cZ : ClassId) (xd ma ka ta : Nat → Nat) (σ : St) (Hn B L C V M : Nat) (hI : Inv σ Hn B L C V M) (ξ : Nat → Int32) (hi : Int32) (P : Nat → Int32) (n : Nat) (hn0 : ξ 0 = nI n) (hn8 : n ≤ 8) (tf tt : Nat) (sz : Nat) : Met l yX2_law wsX2_law rm_c_X2_law (va_Pc [.ref (xd 0)] (zPre (dC, dI) vwCl (tyIZ cI cZ) (xo xd ma ka ta ξ hi :: (xd 1, .inl (cI, 8, .inl P)) :: mw cI cZ ma σ) sz (lawE tf tt))) (va_Qi (fun (r : Int32) (u : St × (Nat → Int32)) => r = (lawF σ P ξ n).1 ∧ u = (lawF σ P ξ n).2) (zPost (dC, dI) vwCl (tyIZ cI cZ) (xo xd ma ka ta ξ hi :: (xd 1, .inl (cI, 8, .inl P)) :: mw cI cZ ma σ) sz (fun (u : St × (Nat → Int32)) => xo xd ma ka ta u.2 hi :: (xd 1, .inl (cI, 8, .inl P)) :: mw cI cZ ma u.1)) (va_A (xo xd ma ka ta ξ hi :: (xd 1, .inl (cI, 8, .inl P)) :: mw cI cZ ma σ) sz)) 0 0 (va_A (xo xd ma ka ta ξ hi :: (xd 1, .inl (cI, 8, .inl P)) :: mw cI cZ ma σ) sz) := by
  refine z_impI (cc := cX2_law) (maxL := 1) (av := [.ref (xd 0)]) (by decide) rfl (Nat.le_of_ble_eq_true rfl) ?_
  intro p e s m below meth c Q A ls hx hb hml hown hts hBs hP hK hD hS hA hAB hq hl
  have hown : s.vm.findClass RX2 = some m.cls := hown
  have hin1 : ∀ w ∈ wsX10, w ∈ wsX2_law := fun _ h => List.mem_cons_of_mem _ (List.mem_append_right _ h)
  have hin2 : ∀ w ∈ wsX20, w ∈ wsX2_law := fun _ h => List.mem_cons_of_mem _ (List.mem_append_left _ (List.mem_append_right _ h))
  have L33 := hts (.fieldLink RX2 33 "BestBeast" "letters" "I") (List.mem_of_getElem? (i := 1) rfl)
  have L52 := hts (.fieldLink RX2 52 "BestBeast" "LAW_FROM" "[C") (List.mem_of_getElem? (i := 2) rfl)
  have L10 := hts (.fieldLink RX2 10 "BestBeast" "manor" "LBestBeast$Manor;") (List.mem_of_getElem? (i := 3) rfl)
  have L29 := hts (.fieldLink RX2 29 "BestBeast" "page" "[I") (List.mem_of_getElem? (i := 4) rfl)
  have L60 := hts (.fieldLink RX2 60 "BestBeast$Manor" "lord" "I") (List.mem_of_getElem? (i := 5) rfl)
  have L63 := hts (.fieldLink RX2 63 "BestBeast$Manor" "church" "I") (List.mem_of_getElem? (i := 6) rfl)
  have L66 := hts (.fieldLink RX2 66 "BestBeast$Manor" "voidYears" "I") (List.mem_of_getElem? (i := 7) rfl)
  have L69 := hts (.fieldLink RX2 69 "BestBeast$Manor" "least" "I") (List.mem_of_getElem? (i := 8) rfl)
  have L37 := hts (.fieldLink RX2 37 "BestBeast" "lawsRead" "I") (List.mem_of_getElem? (i := 9) rfl)
  obtain ⟨⟨iL, iC, iV, iM, iH, iB, jL, jC, jV, jM, jH, jB⟩, iK, iDe, iAl, iHe, iWo, iO1, iO2⟩ := id hI
  have hE := hBs
  obtain ⟨zF, tF, zT, tT⟩ := id hE
  have hS0 : va_S (fun _ => False) s.heap s.heap [] := va_S.rf
  have hfl := faultR_le P n
  have hl : lv_has ls 1 [(0, .ref (xd 0))] := hl
  refine lv_aload_n hx hb dX2_law_0 rfl (lv_at hl 0 rfl) ?_
  refine va_get (D := (dC, dI)) (ci := 2) (v := .int (nI n)) (C := RX2) (T := TX2) (N := 8) hx hb hts hin2 hown hK hP 0 rfl rfl 5 (by decide) L33 (fun _ h9 => h9) (congrArg (fun z => some (Value.int z)) hn0) dX2_law_1 ?_
  refine va_gets hx hb zF hS0 hown L52 (fun _ h9 => h9) dX2_law_4 ?_
  refine va_tlen (v := nI 5) hx hb tF hS0 rfl dX2_law_7 ?_
  refine z_icmp_ne (a := n) (b := 5) (tgt := 22) hx hb (by omega) (by omega) dX2_law_8 (by decide) (fun (c_8 : n ≠ 5) => ?_) (fun (c_8 : n = 5) => ?_)
  · skip
    refine lv_bipush (v := (-103)) hx hb dX2_law_22 (by decide) ?_
    exact hq (-103) (σ, ξ) _ _ 24 ls dX2_law_24 (show (-103) = (lawF σ P ξ n).1 ∧ (σ, ξ) = (lawF σ P ξ n).2 from ⟨(by unfold lawF; rw [zif_f (fun z => c_8 z.1)]), (by unfold lawF; rw [zif_f (fun z => c_8 z.1)])⟩) hP hD hS
  · skip
    refine lv_aload_n hx hb dX2_law_11 rfl (lv_at hl 0 rfl) ?_
    refine z_callVE (As := []) (rest := []) ⟨hx, hb, hml, hown, hts⟩ (c_X2_fault l dC dI cI cZ xd ma ka ta ξ hi P n hn0 hn8 tf tt) (cwV 0 hts gX2_law_X2_fault rfl rfl rfl (by decide +kernel) ⟨Nat.le_of_ble_eq_true rfl, Nat.le_of_ble_eq_true rfl⟩) lawE.calling (fun U hU hW => hE.at rfl hU hW) (hP.sub [0, 1] rfl) hK (va_recv hK hP (ci := 2) (q0 := 0) rfl rfl) rfl hl.1 rfl (Nat.le_of_ble_eq_true rfl) ⟨Nat.zero_le _, Nat.zero_le _⟩ dX2_law_12 (fun r hr => ?_)
    obtain rfl : r = nI (faultR P n) := hr
    refine lv_aload_n hx hb dX2_law_15 rfl (lv_at hl 0 rfl) ?_
    refine va_get (D := (dC, dI)) (ci := 2) (v := .int (nI n)) (C := RX2) (T := TX2) (N := 8) hx hb hts hin2 hown hK hP 0 rfl rfl 5 (by decide) L33 (fun _ h9 => h9) (congrArg (fun z => some (Value.int z)) hn0) dX2_law_16 ?_
    refine z_icmp_eq (a := faultR P n) (b := n) (tgt := 25) hx hb (by omega) (by omega) dX2_law_19 (by decide) (fun (c_19 : (faultR P n) = n) => ?_) (fun (c_19 : (faultR P n) ≠ n) => ?_)
    · skip
      refine lv_aload_n hx hb dX2_law_25 rfl (lv_at hl 0 rfl) ?_
      refine va_get (D := (dC, dI)) (ci := 2) (v := .ref (ma 0)) (C := RX2) (T := TX2) (N := 8) hx hb hts hin2 hown hK hP 0 rfl rfl 0 (by decide) L10 (fun _ h9 => h9) rfl dX2_law_26 ?_
      refine lv_aload_n hx hb dX2_law_29 rfl (lv_at hl 0 rfl) ?_
      refine va_get (D := (dC, dI)) (ci := 2) (v := .ref (xd 1)) (C := RX2) (T := TX2) (N := 8) hx hb hts hin2 hown hK hP 0 rfl rfl 4 (by decide) L29 (fun _ h9 => h9) rfl dX2_law_30 ?_
      refine lv_iconst (v := nI 0) hx hb dX2_law_33 (by decide) ?_
      refine z_iald (D := (dC, dI)) hx hb hK hP 1 0 rfl rfl 0 (rfl) (by omega) (by omega) (v := P 0) (rfl) dX2_law_34 ?_
      refine lv_bipush (v := nI 48) hx hb dX2_law_35 (by decide) ?_
      refine z_isub (v := (P 0) - (nI 48)) hx hb dX2_law_37 (rfl) ?_
      refine va_put (D := (dC, dI)) (ci := 1) (v := .int ((P 0) - (nI 48))) (ty := .int) (C := RX1) (T := TX1) (N := 17) hx hb hts hin1 tyX1 tyX1_ok nmX1 hown hK hP hD hS 2 rfl rfl 0 (by decide) L60 (fun _ h9 => h9) rfl (by decide +kernel) rfl rfl (Nat.le_of_ble_eq_true rfl) dX2_law_38 (fun H locs hP hD hS => ?_)
      have hP : va_P (dC, dI) vwCl (xo xd ma ka ta ξ hi :: (xd 1, .inl (cI, 8, .inl P)) :: mw cI cZ ma (up2 σ 0 0 ((P 0) - (nI 48)))) H := hP
      have hD : va_D A (xo xd ma ka ta ξ hi :: (xd 1, .inl (cI, 8, .inl P)) :: mw cI cZ ma (up2 σ 0 0 ((P 0) - (nI 48)))) := hD
      refine lv_aload_n hx hb dX2_law_41 rfl (lv_at hl 0 rfl) ?_
      refine va_get (D := (dC, dI)) (ci := 2) (v := .ref (ma 0)) (C := RX2) (T := TX2) (N := 8) hx hb hts hin2 hown hK hP 0 rfl rfl 0 (by decide) L10 (fun _ h9 => h9) rfl dX2_law_42 ?_
      refine lv_aload_n hx hb dX2_law_45 rfl (lv_at hl 0 rfl) ?_
      refine va_get (D := (dC, dI)) (ci := 2) (v := .ref (xd 1)) (C := RX2) (T := TX2) (N := 8) hx hb hts hin2 hown hK hP 0 rfl rfl 4 (by decide) L29 (fun _ h9 => h9) rfl dX2_law_46 ?_
      refine lv_iconst (v := nI 1) hx hb dX2_law_49 (by decide) ?_
      refine z_iald (D := (dC, dI)) hx hb hK hP 1 0 rfl rfl 1 (rfl) (by omega) (by omega) (v := P 1) (rfl) dX2_law_50 ?_
      refine lv_bipush (v := nI 48) hx hb dX2_law_51 (by decide) ?_
      refine z_isub (v := (P 1) - (nI 48)) hx hb dX2_law_53 (rfl) ?_
      refine va_put (D := (dC, dI)) (ci := 1) (v := .int ((P 1) - (nI 48))) (ty := .int) (C := RX1) (T := TX1) (N := 17) hx hb hts hin1 tyX1 tyX1_ok nmX1 hown hK hP hD hS 2 rfl rfl 1 (by decide) L63 (fun _ h9 => h9) rfl (by decide +kernel) rfl rfl (Nat.le_of_ble_eq_true rfl) dX2_law_54 (fun H locs hP hD hS => ?_)
      have hP : va_P (dC, dI) vwCl (xo xd ma ka ta ξ hi :: (xd 1, .inl (cI, 8, .inl P)) :: mw cI cZ ma (up2 (up2 σ 0 0 ((P 0) - (nI 48))) 0 1 ((P 1) - (nI 48)))) H := hP
      have hD : va_D A (xo xd ma ka ta ξ hi :: (xd 1, .inl (cI, 8, .inl P)) :: mw cI cZ ma (up2 (up2 σ 0 0 ((P 0) - (nI 48))) 0 1 ((P 1) - (nI 48)))) := hD
      refine lv_aload_n hx hb dX2_law_57 rfl (lv_at hl 0 rfl) ?_
      refine va_get (D := (dC, dI)) (ci := 2) (v := .ref (ma 0)) (C := RX2) (T := TX2) (N := 8) hx hb hts hin2 hown hK hP 0 rfl rfl 0 (by decide) L10 (fun _ h9 => h9) rfl dX2_law_58 ?_
      refine lv_aload_n hx hb dX2_law_61 rfl (lv_at hl 0 rfl) ?_
      refine va_get (D := (dC, dI)) (ci := 2) (v := .ref (xd 1)) (C := RX2) (T := TX2) (N := 8) hx hb hts hin2 hown hK hP 0 rfl rfl 4 (by decide) L29 (fun _ h9 => h9) rfl dX2_law_62 ?_
      refine lv_iconst (v := nI 2) hx hb dX2_law_65 (by decide) ?_
      refine z_iald (D := (dC, dI)) hx hb hK hP 1 0 rfl rfl 2 (rfl) (by omega) (by omega) (v := P 2) (rfl) dX2_law_66 ?_
      refine lv_bipush (v := nI 48) hx hb dX2_law_67 (by decide) ?_
      refine z_isub (v := (P 2) - (nI 48)) hx hb dX2_law_69 (rfl) ?_
      refine va_put (D := (dC, dI)) (ci := 1) (v := .int ((P 2) - (nI 48))) (ty := .int) (C := RX1) (T := TX1) (N := 17) hx hb hts hin1 tyX1 tyX1_ok nmX1 hown hK hP hD hS 2 rfl rfl 2 (by decide) L66 (fun _ h9 => h9) rfl (by decide +kernel) rfl rfl (Nat.le_of_ble_eq_true rfl) dX2_law_70 (fun H locs hP hD hS => ?_)
      have hP : va_P (dC, dI) vwCl (xo xd ma ka ta ξ hi :: (xd 1, .inl (cI, 8, .inl P)) :: mw cI cZ ma (up2 (up2 (up2 σ 0 0 ((P 0) - (nI 48))) 0 1 ((P 1) - (nI 48))) 0 2 ((P 2) - (nI 48)))) H := hP
      have hD : va_D A (xo xd ma ka ta ξ hi :: (xd 1, .inl (cI, 8, .inl P)) :: mw cI cZ ma (up2 (up2 (up2 σ 0 0 ((P 0) - (nI 48))) 0 1 ((P 1) - (nI 48))) 0 2 ((P 2) - (nI 48)))) := hD
      refine lv_aload_n hx hb dX2_law_73 rfl (lv_at hl 0 rfl) ?_
      refine va_get (D := (dC, dI)) (ci := 2) (v := .ref (ma 0)) (C := RX2) (T := TX2) (N := 8) hx hb hts hin2 hown hK hP 0 rfl rfl 0 (by decide) L10 (fun _ h9 => h9) rfl dX2_law_74 ?_
      refine lv_aload_n hx hb dX2_law_77 rfl (lv_at hl 0 rfl) ?_
      refine va_get (D := (dC, dI)) (ci := 2) (v := .ref (xd 1)) (C := RX2) (T := TX2) (N := 8) hx hb hts hin2 hown hK hP 0 rfl rfl 4 (by decide) L29 (fun _ h9 => h9) rfl dX2_law_78 ?_
      refine lv_iconst (v := nI 4) hx hb dX2_law_81 (by decide) ?_
      refine z_iald (D := (dC, dI)) hx hb hK hP 1 0 rfl rfl 4 (rfl) (by omega) (by omega) (v := P 4) (rfl) dX2_law_82 ?_
      refine lv_bipush (v := nI 48) hx hb dX2_law_83 (by decide) ?_
      refine z_isub (v := (P 4) - (nI 48)) hx hb dX2_law_85 (rfl) ?_
      refine va_put (D := (dC, dI)) (ci := 1) (v := .int ((P 4) - (nI 48))) (ty := .int) (C := RX1) (T := TX1) (N := 17) hx hb hts hin1 tyX1 tyX1_ok nmX1 hown hK hP hD hS 2 rfl rfl 3 (by decide) L69 (fun _ h9 => h9) rfl (by decide +kernel) rfl rfl (Nat.le_of_ble_eq_true rfl) dX2_law_86 (fun H locs hP hD hS => ?_)
      have hP : va_P (dC, dI) vwCl (xo xd ma ka ta ξ hi :: (xd 1, .inl (cI, 8, .inl P)) :: mw cI cZ ma (up2 (up2 (up2 (up2 σ 0 0 ((P 0) - (nI 48))) 0 1 ((P 1) - (nI 48))) 0 2 ((P 2) - (nI 48))) 0 3 ((P 4) - (nI 48)))) H := hP
      have hD : va_D A (xo xd ma ka ta ξ hi :: (xd 1, .inl (cI, 8, .inl P)) :: mw cI cZ ma (up2 (up2 (up2 (up2 σ 0 0 ((P 0) - (nI 48))) 0 1 ((P 1) - (nI 48))) 0 2 ((P 2) - (nI 48))) 0 3 ((P 4) - (nI 48)))) := hD
      refine lv_aload_n hx hb dX2_law_89 rfl (lv_at hl 0 rfl) ?_
      refine lv_iconst (v := nI 0) hx hb dX2_law_90 (by decide) ?_
      refine va_put (D := (dC, dI)) (ci := 2) (v := .int (nI 0)) (ty := .int) (C := RX2) (T := TX2) (N := 8) hx hb hts hin2 tyX2 tyX2_ok nmX2 hown hK hP hD hS 0 rfl rfl 5 (by decide) L33 (fun _ h9 => h9) rfl (by decide +kernel) rfl rfl (Nat.le_of_ble_eq_true rfl) dX2_law_91 (fun H locs hP hD hS => ?_)
      have hP : va_P (dC, dI) vwCl (xo xd ma ka ta (upd ξ 0 (nI 0)) hi :: (xd 1, .inl (cI, 8, .inl P)) :: mw cI cZ ma (up2 (up2 (up2 (up2 σ 0 0 ((P 0) - (nI 48))) 0 1 ((P 1) - (nI 48))) 0 2 ((P 2) - (nI 48))) 0 3 ((P 4) - (nI 48)))) H := hP
      have hD : va_D A (xo xd ma ka ta (upd ξ 0 (nI 0)) hi :: (xd 1, .inl (cI, 8, .inl P)) :: mw cI cZ ma (up2 (up2 (up2 (up2 σ 0 0 ((P 0) - (nI 48))) 0 1 ((P 1) - (nI 48))) 0 2 ((P 2) - (nI 48))) 0 3 ((P 4) - (nI 48)))) := hD
      refine lv_aload_n hx hb dX2_law_94 rfl (lv_at hl 0 rfl) ?_
      refine lv_dup hx hb dX2_law_95 rfl ?_
      refine va_get (D := (dC, dI)) (ci := 2) (v := .int (ξ 1)) (C := RX2) (T := TX2) (N := 8) hx hb hts hin2 hown hK hP 0 rfl rfl 6 (by decide) L37 (fun _ h9 => h9) rfl dX2_law_96 ?_
      refine lv_iconst (v := nI 1) hx hb dX2_law_99 (by decide) ?_
      refine z_iadd (v := (ξ 1) + (nI 1)) hx hb dX2_law_100 (rfl) ?_
      refine va_put (D := (dC, dI)) (ci := 2) (v := .int ((ξ 1) + (nI 1))) (ty := .int) (C := RX2) (T := TX2) (N := 8) hx hb hts hin2 tyX2 tyX2_ok nmX2 hown hK hP hD hS 0 rfl rfl 6 (by decide) L37 (fun _ h9 => h9) rfl (by decide +kernel) rfl rfl (Nat.le_of_ble_eq_true rfl) dX2_law_101 (fun H locs hP hD hS => ?_)
      have hP : va_P (dC, dI) vwCl (xo xd ma ka ta (upd (upd ξ 0 (nI 0)) 1 ((ξ 1) + (nI 1))) hi :: (xd 1, .inl (cI, 8, .inl P)) :: mw cI cZ ma (up2 (up2 (up2 (up2 σ 0 0 ((P 0) - (nI 48))) 0 1 ((P 1) - (nI 48))) 0 2 ((P 2) - (nI 48))) 0 3 ((P 4) - (nI 48)))) H := hP
      have hD : va_D A (xo xd ma ka ta (upd (upd ξ 0 (nI 0)) 1 ((ξ 1) + (nI 1))) hi :: (xd 1, .inl (cI, 8, .inl P)) :: mw cI cZ ma (up2 (up2 (up2 (up2 σ 0 0 ((P 0) - (nI 48))) 0 1 ((P 1) - (nI 48))) 0 2 ((P 2) - (nI 48))) 0 3 ((P 4) - (nI 48)))) := hD
      refine lv_aload_n hx hb dX2_law_104 rfl (lv_at hl 0 rfl) ?_
      refine va_get (D := (dC, dI)) (ci := 2) (v := .int ((ξ 1) + (nI 1))) (C := RX2) (T := TX2) (N := 8) hx hb hts hin2 hown hK hP 0 rfl rfl 6 (by decide) L37 (fun _ h9 => h9) rfl dX2_law_105 ?_
      exact hq ((ξ 1) + (nI 1)) (up2 (up2 (up2 (up2 σ 0 0 ((P 0) - (nI 48))) 0 1 ((P 1) - (nI 48))) 0 2 ((P 2) - (nI 48))) 0 3 ((P 4) - (nI 48)), upd (upd ξ 0 (nI 0)) 1 ((ξ 1) + (nI 1))) _ _ 108 ls dX2_law_108 (show ((ξ 1) + (nI 1)) = (lawF σ P ξ n).1 ∧ (up2 (up2 (up2 (up2 σ 0 0 ((P 0) - (nI 48))) 0 1 ((P 1) - (nI 48))) 0 2 ((P 2) - (nI 48))) 0 3 ((P 4) - (nI 48)), upd (upd ξ 0 (nI 0)) 1 ((ξ 1) + (nI 1))) = (lawF σ P ξ n).2 from ⟨(by unfold lawF; rw [zif_t ⟨c_8, (by rw [← c_8]; exact c_19)⟩]), (by unfold lawF; rw [zif_t ⟨c_8, (by rw [← c_8]; exact c_19)⟩]; rfl)⟩) hP hD hS
    · skip
      refine lv_bipush (v := (-103)) hx hb dX2_law_22 (by decide) ?_
      exact hq (-103) (σ, ξ) _ _ 24 ls dX2_law_24 (show (-103) = (lawF σ P ξ n).1 ∧ (σ, ξ) = (lawF σ P ξ n).2 from ⟨(by unfold lawF; rw [zif_f (fun z => c_19 (by rw [z.1]; exact z.2))]), (by unfold lawF; rw [zif_f (fun z => c_19 (by rw [z.1]; exact z.2))])⟩) hP hD hS
