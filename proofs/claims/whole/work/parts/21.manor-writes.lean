/-! ===== the manor: what changes it ===== -/
/-- the number of a new one, or FULL -/
def addHF (σ : St) (Hn : Nat) (kd d : Int32) : Int32 × St := if Hn = 4 then (-104, σ) else (nI Hn, holdS σ Hn kd d)
def addBF (σ : St) (B : Nat) (h w : Int32) : Int32 × St := if B = 6 then (-104, σ) else (nI B, beastS σ B h w)
abbrev rm_c_X1_putTo : Room := { frames := 1, cells := 0, slots := 0, locals := 21 }
set_option maxHeartbeats 4000000 in
set_option maxRecDepth 100000 in
theorem c_X1_putTo (l : Launch) (dC : Nat → ClassId) (dI : Nat → Nat → Nat) (cI cZ : ClassId) (ad : Nat → Nat) (σ : St) (Hn B L C V M : Nat) (hN : Nums σ Hn B L C V M) (b : Nat) (hb6 : b < B) (x : Int32) (sz : Nat) : Met l yX1_putTo wsX1_putTo rm_c_X1_putTo (va_Pc [.ref (ad 0), .int (nI b), .int x] (zPre (dC, dI) vwCl (tyIZ cI cZ) (mw cI cZ ad σ) sz (fun _ => True))) (va_Qv (fun (u : St) => u = putS σ b x) (zPost (dC, dI) vwCl (tyIZ cI cZ) (mw cI cZ ad σ) sz (fun (u : St) => mw cI cZ ad u)) (va_A (mw cI cZ ad σ) sz)) 0 0 (va_A (mw cI cZ ad σ) sz) := by
  refine z_impV (cc := cX1_putTo) (maxL := 3) (av := [.ref (ad 0), .int (nI b), .int x]) (by decide) rfl (Nat.le_of_ble_eq_true rfl) ?_
  intro p e s m below meth c Q A ls hx hb hml hown hname hts hBs hP hK hD hS hA hAB hq hl
  have hown : s.vm.findClass RX1 = some m.cls := hown
  have hin1 : ∀ w ∈ wsX10, w ∈ wsX1_putTo := fun _ h => List.mem_cons_of_mem _ (List.mem_append_right _ h)
  have L47 := hts (.fieldLink RX1 47 "BestBeast$Manor" "owner" "[I") (List.mem_of_getElem? (i := 1) rfl)
  have L50 := hts (.fieldLink RX1 50 "BestBeast$Manor" "giver" "[I") (List.mem_of_getElem? (i := 2) rfl)
  have L53 := hts (.fieldLink RX1 53 "BestBeast$Manor" "givenIn" "[I") (List.mem_of_getElem? (i := 3) rfl)
  obtain ⟨iL, iC, iV, iM, iH, iB, jL, jC, jV, jM, jH, jB⟩ := id hN
  have hl : lv_has ls 3 [(0, .ref (ad 0)), (1, .int (nI b)), (2, .int x)] := hl
  refine lv_aload_n hx hb dX1_putTo_0 rfl (lv_at hl 0 rfl) ?_
  refine lv_iload_n hx hb dX1_putTo_1 rfl (lv_at hl 1 rfl) ?_
  refine z_callV (As := [.int (nI b)]) (rest := []) ⟨hx, hb, hml, hown, hts⟩ (c_X1_hasBeast l dC dI cI cZ ad σ Hn B L C V M hN (nI b)) (cwV 1 hts gX1_putTo_X1_hasBeast rfl rfl rfl (by decide +kernel) ⟨Nat.le_of_ble_eq_true rfl, Nat.le_of_ble_eq_true rfl⟩) hP hK (va_recv hK hP (ci := 1) (q0 := 0) rfl rfl) rfl hl.1 rfl (Nat.le_of_ble_eq_true rfl) ⟨Nat.zero_le _, Nat.zero_le _⟩ dX1_putTo_2 (fun r hr => ?_)
  obtain rfl : r = zb (hasP B (nI b)) := hr
  refine z_ifne_b (P := hasP B (nI b)) (tgt := 9) hx hb dX1_putTo_5 (by decide) (fun (c_5 : hasP B (nI b)) => ?_) (fun (z9 : ¬ (hasP B (nI b))) => absurd (hasP_nI hb6) z9)
  refine lv_aload_n hx hb dX1_putTo_9 rfl (lv_at hl 0 rfl) ?_
  refine va_get (D := (dC, dI)) (ci := 1) (v := .ref (ad 6)) (C := RX1) (T := TX1) (N := 17) hx hb hts hin1 hown hK hP 0 rfl rfl 11 (by decide) L47 (fun _ h9 => h9) rfl dX1_putTo_10 ?_
  refine lv_iload_n hx hb dX1_putTo_13 rfl (lv_at hl 1 rfl) ?_
  refine lv_iload_n hx hb dX1_putTo_14 rfl (lv_at hl 2 rfl) ?_
  refine z_iast (D := (dC, dI)) hx hb hK hP hD hS 6 0 rfl rfl b (rfl) (by omega) (by omega) (f' := upd (σ 6) b x) (rfl) dX1_putTo_15 (fun H locs hP hD hS => ?_)
  have hP : va_P (dC, dI) vwCl (mw cI cZ ad (up2 σ 6 b x)) H := hP
  have hD : va_D A (mw cI cZ ad (up2 σ 6 b x)) := hD
  refine lv_aload_n hx hb dX1_putTo_16 rfl (lv_at hl 0 rfl) ?_
  refine va_get (D := (dC, dI)) (ci := 1) (v := .ref (ad 7)) (C := RX1) (T := TX1) (N := 17) hx hb hts hin1 hown hK hP 0 rfl rfl 12 (by decide) L50 (fun _ h9 => h9) rfl dX1_putTo_17 ?_
  refine lv_iload_n hx hb dX1_putTo_20 rfl (lv_at hl 1 rfl) ?_
  refine lv_iconst (v := (-1)) hx hb dX1_putTo_21 (by decide) ?_
  refine z_iast (D := (dC, dI)) hx hb hK hP hD hS 7 0 rfl rfl b (rfl) (by omega) (by omega) (f' := upd (σ 7) b (-1)) (rfl) dX1_putTo_22 (fun H locs hP hD hS => ?_)
  have hP : va_P (dC, dI) vwCl (mw cI cZ ad (up2 (up2 σ 6 b x) 7 b (-1))) H := hP
  have hD : va_D A (mw cI cZ ad (up2 (up2 σ 6 b x) 7 b (-1))) := hD
  refine lv_aload_n hx hb dX1_putTo_23 rfl (lv_at hl 0 rfl) ?_
  refine va_get (D := (dC, dI)) (ci := 1) (v := .ref (ad 8)) (C := RX1) (T := TX1) (N := 17) hx hb hts hin1 hown hK hP 0 rfl rfl 13 (by decide) L53 (fun _ h9 => h9) rfl dX1_putTo_24 ?_
  refine lv_iload_n hx hb dX1_putTo_27 rfl (lv_at hl 1 rfl) ?_
  refine lv_iconst (v := (-1)) hx hb dX1_putTo_28 (by decide) ?_
  refine z_iast (D := (dC, dI)) hx hb hK hP hD hS 8 0 rfl rfl b (rfl) (by omega) (by omega) (f' := upd (σ 8) b (-1)) (rfl) dX1_putTo_29 (fun H locs hP hD hS => ?_)
  have hP : va_P (dC, dI) vwCl (mw cI cZ ad (up2 (up2 (up2 σ 6 b x) 7 b (-1)) 8 b (-1))) H := hP
  have hD : va_D A (mw cI cZ ad (up2 (up2 (up2 σ 6 b x) 7 b (-1)) 8 b (-1))) := hD
  exact hq (up2 (up2 (up2 σ 6 b x) 7 b (-1)) 8 b (-1)) _ _ 30 ls dX1_putTo_30 (show (up2 (up2 (up2 σ 6 b x) 7 b (-1)) 8 b (-1)) = putS σ b x from rfl) hP hD hS
abbrev rm_c_X1_addHolder : Room := { frames := 0, cells := 0, slots := 0, locals := 0 }
set_option maxHeartbeats 4000000 in
set_option maxRecDepth 100000 in
theorem c_X1_addHolder (l : Launch) (dC : Nat → ClassId) (dI : Nat → Nat → Nat) (cI cZ : ClassId) (ad : Nat → Nat) (σ : St) (Hn B L C V M : Nat) (hI : Inv σ Hn B L C V M) (kd d : Int32) (sz : Nat) : Met l yX1_addHolder wsX1_addHolder rm_c_X1_addHolder (va_Pc [.ref (ad 0), .int kd, .int d] (zPre (dC, dI) vwCl (tyIZ cI cZ) (mw cI cZ ad σ) sz (fun _ => True))) (va_Qi (fun (r : Int32) (u : St) => r = (addHF σ Hn kd d).1 ∧ u = (addHF σ Hn kd d).2) (zPost (dC, dI) vwCl (tyIZ cI cZ) (mw cI cZ ad σ) sz (fun (u : St) => mw cI cZ ad u)) (va_A (mw cI cZ ad σ) sz)) 0 0 (va_A (mw cI cZ ad σ) sz) := by
  refine z_impI (cc := cX1_addHolder) (maxL := 4) (av := [.ref (ad 0), .int kd, .int d]) (by decide) rfl (Nat.le_of_ble_eq_true rfl) ?_
  intro p e s m below meth c Q A ls hx hb hml hown hts hBs hP hK hD hS hA hAB hq hl
  have hown : s.vm.findClass RX1 = some m.cls := hown
  have hin1 : ∀ w ∈ wsX10, w ∈ wsX1_addHolder := fun _ h => List.mem_cons_of_mem _ (List.mem_append_right _ h)
  have L24 := hts (.fieldLink RX1 24 "BestBeast$Manor" "holders" "I") (List.mem_of_getElem? (i := 1) rfl)
  have L27 := hts (.fieldLink RX1 27 "BestBeast$Manor" "kind" "[I") (List.mem_of_getElem? (i := 2) rfl)
  have L31 := hts (.fieldLink RX1 31 "BestBeast$Manor" "death" "[I") (List.mem_of_getElem? (i := 3) rfl)
  have L34 := hts (.fieldLink RX1 34 "BestBeast$Manor" "heirOf" "[I") (List.mem_of_getElem? (i := 4) rfl)
  have L37 := hts (.fieldLink RX1 37 "BestBeast$Manor" "alive" "[Z") (List.mem_of_getElem? (i := 5) rfl)
  obtain ⟨⟨iL, iC, iV, iM, iH, iB, jL, jC, jV, jM, jH, jB⟩, iK, iDe, iAl, iHe, iWo, iO1, iO2⟩ := id hI
  have hl : lv_has ls 4 [(0, .ref (ad 0)), (1, .int kd), (2, .int d)] := hl
  refine lv_aload_n hx hb dX1_addHolder_0 rfl (lv_at hl 0 rfl) ?_
  refine va_get (D := (dC, dI)) (ci := 1) (v := .int (nI Hn)) (C := RX1) (T := TX1) (N := 17) hx hb hts hin1 hown hK hP 0 rfl rfl 4 (by decide) L24 (fun _ h9 => h9) (congrArg (fun z => some (Value.int z)) iH) dX1_addHolder_1 ?_
  refine lv_if_lt (tgt := 15) hx hb dX1_addHolder_4 (by decide) (fun (z9 : (nI Hn) < 0) => absurd z9 (nI_pos (by omega))) (fun (c_4 : ¬ ((nI Hn) < 0)) => ?_)
  refine lv_aload_n hx hb dX1_addHolder_7 rfl (lv_at hl 0 rfl) ?_
  refine va_get (D := (dC, dI)) (ci := 1) (v := .int (nI Hn)) (C := RX1) (T := TX1) (N := 17) hx hb hts hin1 hown hK hP 0 rfl rfl 4 (by decide) L24 (fun _ h9 => h9) (congrArg (fun z => some (Value.int z)) iH) dX1_addHolder_8 ?_
  refine lv_iconst (v := nI 4) hx hb dX1_addHolder_11 (by decide) ?_
  refine z_icmp_lt (a := Hn) (b := 4) (tgt := 18) hx hb (by omega) (by omega) dX1_addHolder_12 (by decide) (fun (c_12 : Hn < 4) => ?_) (fun (c_12 : 4 ≤ Hn) => ?_)
  · skip
    refine lv_aload_n hx hb dX1_addHolder_18 rfl (lv_at hl 0 rfl) ?_
    refine va_get (D := (dC, dI)) (ci := 1) (v := .int (nI Hn)) (C := RX1) (T := TX1) (N := 17) hx hb hts hin1 hown hK hP 0 rfl rfl 4 (by decide) L24 (fun _ h9 => h9) (congrArg (fun z => some (Value.int z)) iH) dX1_addHolder_19 ?_
    refine lv_istore_n (lv' := [(3, .int (nI Hn)), (0, .ref (ad 0)), (1, .int kd), (2, .int d)]) hx hb dX1_addHolder_22 rfl hl (by decide) rfl (fun ls hl => ?_)
    refine lv_aload_n hx hb dX1_addHolder_23 rfl (lv_at hl 1 rfl) ?_
    refine va_get (D := (dC, dI)) (ci := 1) (v := .ref (ad 1)) (C := RX1) (T := TX1) (N := 17) hx hb hts hin1 hown hK hP 0 rfl rfl 5 (by decide) L27 (fun _ h9 => h9) rfl dX1_addHolder_24 ?_
    refine lv_iload_n hx hb dX1_addHolder_27 rfl (lv_at hl 0 rfl) ?_
    refine lv_iload_n hx hb dX1_addHolder_28 rfl (lv_at hl 2 rfl) ?_
    refine z_iast (D := (dC, dI)) hx hb hK hP hD hS 1 0 rfl rfl Hn (rfl) (by omega) (by omega) (f' := upd (σ 1) Hn kd) (rfl) dX1_addHolder_29 (fun H locs hP hD hS => ?_)
    have hP : va_P (dC, dI) vwCl (mw cI cZ ad (up2 σ 1 Hn kd)) H := hP
    have hD : va_D A (mw cI cZ ad (up2 σ 1 Hn kd)) := hD
    refine lv_aload_n hx hb dX1_addHolder_30 rfl (lv_at hl 1 rfl) ?_
    refine va_get (D := (dC, dI)) (ci := 1) (v := .ref (ad 2)) (C := RX1) (T := TX1) (N := 17) hx hb hts hin1 hown hK hP 0 rfl rfl 6 (by decide) L31 (fun _ h9 => h9) rfl dX1_addHolder_31 ?_
    refine lv_iload_n hx hb dX1_addHolder_34 rfl (lv_at hl 0 rfl) ?_
    refine lv_iload_n hx hb dX1_addHolder_35 rfl (lv_at hl 3 rfl) ?_
    refine z_iast (D := (dC, dI)) hx hb hK hP hD hS 2 0 rfl rfl Hn (rfl) (by omega) (by omega) (f' := upd (σ 2) Hn d) (rfl) dX1_addHolder_36 (fun H locs hP hD hS => ?_)
    have hP : va_P (dC, dI) vwCl (mw cI cZ ad (up2 (up2 σ 1 Hn kd) 2 Hn d)) H := hP
    have hD : va_D A (mw cI cZ ad (up2 (up2 σ 1 Hn kd) 2 Hn d)) := hD
    refine lv_aload_n hx hb dX1_addHolder_37 rfl (lv_at hl 1 rfl) ?_
    refine va_get (D := (dC, dI)) (ci := 1) (v := .ref (ad 4)) (C := RX1) (T := TX1) (N := 17) hx hb hts hin1 hown hK hP 0 rfl rfl 7 (by decide) L34 (fun _ h9 => h9) rfl dX1_addHolder_38 ?_
    refine lv_iload_n hx hb dX1_addHolder_41 rfl (lv_at hl 0 rfl) ?_
    refine lv_iconst (v := (-1)) hx hb dX1_addHolder_42 (by decide) ?_
    refine z_iast (D := (dC, dI)) hx hb hK hP hD hS 4 0 rfl rfl Hn (rfl) (by omega) (by omega) (f' := upd (σ 4) Hn (-1)) (rfl) dX1_addHolder_43 (fun H locs hP hD hS => ?_)
    have hP : va_P (dC, dI) vwCl (mw cI cZ ad (up2 (up2 (up2 σ 1 Hn kd) 2 Hn d) 4 Hn (-1))) H := hP
    have hD : va_D A (mw cI cZ ad (up2 (up2 (up2 σ 1 Hn kd) 2 Hn d) 4 Hn (-1))) := hD
    refine lv_aload_n hx hb dX1_addHolder_44 rfl (lv_at hl 1 rfl) ?_
    refine va_get (D := (dC, dI)) (ci := 1) (v := .ref (ad 3)) (C := RX1) (T := TX1) (N := 17) hx hb hts hin1 hown hK hP 0 rfl rfl 8 (by decide) L37 (fun _ h9 => h9) rfl dX1_addHolder_45 ?_
    refine lv_iload_n hx hb dX1_addHolder_48 rfl (lv_at hl 0 rfl) ?_
    refine lv_iconst (v := nI 1) hx hb dX1_addHolder_49 (by decide) ?_
    refine z_zast (D := (dC, dI)) hx hb hK hP hD hS 3 1 rfl rfl (Or.inr rfl) Hn (rfl) (by omega) (by omega) (f' := upd (σ 3) Hn (nI 1)) (rfl) dX1_addHolder_50 (fun H locs hP hD hS => ?_)
    have hP : va_P (dC, dI) vwCl (mw cI cZ ad (up2 (up2 (up2 (up2 σ 1 Hn kd) 2 Hn d) 4 Hn (-1)) 3 Hn (nI 1))) H := hP
    have hD : va_D A (mw cI cZ ad (up2 (up2 (up2 (up2 σ 1 Hn kd) 2 Hn d) 4 Hn (-1)) 3 Hn (nI 1))) := hD
    refine lv_aload_n hx hb dX1_addHolder_51 rfl (lv_at hl 1 rfl) ?_
    refine lv_dup hx hb dX1_addHolder_52 rfl ?_
    refine va_get (D := (dC, dI)) (ci := 1) (v := .int (nI Hn)) (C := RX1) (T := TX1) (N := 17) hx hb hts hin1 hown hK hP 0 rfl rfl 4 (by decide) L24 (fun _ h9 => h9) (congrArg (fun z => some (Value.int z)) iH) dX1_addHolder_53 ?_
    refine lv_iconst (v := nI 1) hx hb dX1_addHolder_56 (by decide) ?_
    refine z_iadd (v := nI (Hn + 1)) hx hb dX1_addHolder_57 (nI_add _ _) ?_
    refine va_put (D := (dC, dI)) (ci := 1) (v := .int (nI (Hn + 1))) (ty := .int) (C := RX1) (T := TX1) (N := 17) hx hb hts hin1 tyX1 tyX1_ok nmX1 hown hK hP hD hS 0 rfl rfl 4 (by decide) L24 (fun _ h9 => h9) rfl (by decide +kernel) rfl rfl (Nat.le_of_ble_eq_true rfl) dX1_addHolder_58 (fun H locs hP hD hS => ?_)
    have hP : va_P (dC, dI) vwCl (mw cI cZ ad (up2 (up2 (up2 (up2 (up2 σ 1 Hn kd) 2 Hn d) 4 Hn (-1)) 3 Hn (nI 1)) 0 4 (nI (Hn + 1)))) H := hP
    have hD : va_D A (mw cI cZ ad (up2 (up2 (up2 (up2 (up2 σ 1 Hn kd) 2 Hn d) 4 Hn (-1)) 3 Hn (nI 1)) 0 4 (nI (Hn + 1)))) := hD
    refine lv_iload_n hx hb dX1_addHolder_61 rfl (lv_at hl 0 rfl) ?_
    exact hq (nI Hn) (up2 (up2 (up2 (up2 (up2 σ 1 Hn kd) 2 Hn d) 4 Hn (-1)) 3 Hn (nI 1)) 0 4 (nI (Hn + 1))) _ _ 62 ls dX1_addHolder_62 (show (nI Hn) = (addHF σ Hn kd d).1 ∧ (up2 (up2 (up2 (up2 (up2 σ 1 Hn kd) 2 Hn d) 4 Hn (-1)) 3 Hn (nI 1)) 0 4 (nI (Hn + 1))) = (addHF σ Hn kd d).2 from ⟨(by unfold addHF; rw [if_neg (show ¬ Hn = 4 by omega)]), (by unfold addHF; (rw [if_neg (show ¬ Hn = 4 by omega)]) <;> rfl)⟩) hP hD hS
  · skip
    refine lv_bipush (v := (-104)) hx hb dX1_addHolder_15 (by decide) ?_
    exact hq (-104) σ _ _ 17 ls dX1_addHolder_17 (show (-104) = (addHF σ Hn kd d).1 ∧ σ = (addHF σ Hn kd d).2 from ⟨(by unfold addHF; rw [if_pos (show Hn = 4 by omega)]), (by unfold addHF; rw [if_pos (show Hn = 4 by omega)])⟩) hP hD hS
abbrev rm_c_X1_addBeast : Room := { frames := 2, cells := 0, slots := 0, locals := 43 }
set_option maxHeartbeats 4000000 in
set_option maxRecDepth 100000 in
theorem c_X1_addBeast (l : Launch) (dC : Nat → ClassId) (dI : Nat → Nat → Nat) (cI cZ : ClassId) (ad : Nat → Nat) (σ : St) (Hn B L C V M : Nat) (hI : Inv σ Hn B L C V M) (h w : Int32) (sz : Nat) : Met l yX1_addBeast wsX1_addBeast rm_c_X1_addBeast (va_Pc [.ref (ad 0), .int h, .int w] (zPre (dC, dI) vwCl (tyIZ cI cZ) (mw cI cZ ad σ) sz (fun _ => True))) (va_Qi (fun (r : Int32) (u : St) => r = (addBF σ B h w).1 ∧ u = (addBF σ B h w).2) (zPost (dC, dI) vwCl (tyIZ cI cZ) (mw cI cZ ad σ) sz (fun (u : St) => mw cI cZ ad u)) (va_A (mw cI cZ ad σ) sz)) 0 0 (va_A (mw cI cZ ad σ) sz) := by
  refine z_impI (cc := cX1_addBeast) (maxL := 4) (av := [.ref (ad 0), .int h, .int w]) (by decide) rfl (Nat.le_of_ble_eq_true rfl) ?_
  intro p e s m below meth c Q A ls hx hb hml hown hts hBs hP hK hD hS hA hAB hq hl
  have hown : s.vm.findClass RX1 = some m.cls := hown
  have hin1 : ∀ w ∈ wsX10, w ∈ wsX1_addBeast := fun _ h => List.mem_cons_of_mem _ (List.mem_append_right _ h)
  have L41 := hts (.fieldLink RX1 41 "BestBeast$Manor" "beasts" "I") (List.mem_of_getElem? (i := 1) rfl)
  have L44 := hts (.fieldLink RX1 44 "BestBeast$Manor" "worth" "[I") (List.mem_of_getElem? (i := 2) rfl)
  have L56 := hts (.fieldLink RX1 56 "BestBeast$Manor" "told" "[I") (List.mem_of_getElem? (i := 3) rfl)
  obtain ⟨⟨iL, iC, iV, iM, iH, iB, jL, jC, jV, jM, jH, jB⟩, iK, iDe, iAl, iHe, iWo, iO1, iO2⟩ := id hI
  have hl : lv_has ls 4 [(0, .ref (ad 0)), (1, .int h), (2, .int w)] := hl
  refine lv_aload_n hx hb dX1_addBeast_0 rfl (lv_at hl 0 rfl) ?_
  refine va_get (D := (dC, dI)) (ci := 1) (v := .int (nI B)) (C := RX1) (T := TX1) (N := 17) hx hb hts hin1 hown hK hP 0 rfl rfl 9 (by decide) L41 (fun _ h9 => h9) (congrArg (fun z => some (Value.int z)) iB) dX1_addBeast_1 ?_
  refine lv_if_lt (tgt := 16) hx hb dX1_addBeast_4 (by decide) (fun (z9 : (nI B) < 0) => absurd z9 (nI_pos (by omega))) (fun (c_4 : ¬ ((nI B) < 0)) => ?_)
  refine lv_aload_n hx hb dX1_addBeast_7 rfl (lv_at hl 0 rfl) ?_
  refine va_get (D := (dC, dI)) (ci := 1) (v := .int (nI B)) (C := RX1) (T := TX1) (N := 17) hx hb hts hin1 hown hK hP 0 rfl rfl 9 (by decide) L41 (fun _ h9 => h9) (congrArg (fun z => some (Value.int z)) iB) dX1_addBeast_8 ?_
  refine lv_bipush (v := nI 6) hx hb dX1_addBeast_11 (by decide) ?_
  refine z_icmp_lt (a := B) (b := 6) (tgt := 19) hx hb (by omega) (by omega) dX1_addBeast_13 (by decide) (fun (c_13 : B < 6) => ?_) (fun (c_13 : 6 ≤ B) => ?_)
  · skip
    refine lv_aload_n hx hb dX1_addBeast_19 rfl (lv_at hl 0 rfl) ?_
    refine va_get (D := (dC, dI)) (ci := 1) (v := .int (nI B)) (C := RX1) (T := TX1) (N := 17) hx hb hts hin1 hown hK hP 0 rfl rfl 9 (by decide) L41 (fun _ h9 => h9) (congrArg (fun z => some (Value.int z)) iB) dX1_addBeast_20 ?_
    refine lv_istore_n (lv' := [(3, .int (nI B)), (0, .ref (ad 0)), (1, .int h), (2, .int w)]) hx hb dX1_addBeast_23 rfl hl (by decide) rfl (fun ls hl => ?_)
    refine lv_aload_n hx hb dX1_addBeast_24 rfl (lv_at hl 1 rfl) ?_
    refine lv_dup hx hb dX1_addBeast_25 rfl ?_
    refine va_get (D := (dC, dI)) (ci := 1) (v := .int (nI B)) (C := RX1) (T := TX1) (N := 17) hx hb hts hin1 hown hK hP 0 rfl rfl 9 (by decide) L41 (fun _ h9 => h9) (congrArg (fun z => some (Value.int z)) iB) dX1_addBeast_26 ?_
    refine lv_iconst (v := nI 1) hx hb dX1_addBeast_29 (by decide) ?_
    refine z_iadd (v := nI (B + 1)) hx hb dX1_addBeast_30 (nI_add _ _) ?_
    refine va_put (D := (dC, dI)) (ci := 1) (v := .int (nI (B + 1))) (ty := .int) (C := RX1) (T := TX1) (N := 17) hx hb hts hin1 tyX1 tyX1_ok nmX1 hown hK hP hD hS 0 rfl rfl 9 (by decide) L41 (fun _ h9 => h9) rfl (by decide +kernel) rfl rfl (Nat.le_of_ble_eq_true rfl) dX1_addBeast_31 (fun H locs hP hD hS => ?_)
    have hP : va_P (dC, dI) vwCl (mw cI cZ ad (up2 σ 0 5 (nI (B + 1)))) H := hP
    have hD : va_D A (mw cI cZ ad (up2 σ 0 5 (nI (B + 1)))) := hD
    refine lv_aload_n hx hb dX1_addBeast_34 rfl (lv_at hl 1 rfl) ?_
    refine va_get (D := (dC, dI)) (ci := 1) (v := .ref (ad 5)) (C := RX1) (T := TX1) (N := 17) hx hb hts hin1 hown hK hP 0 rfl rfl 10 (by decide) L44 (fun _ h9 => h9) rfl dX1_addBeast_35 ?_
    refine lv_iload_n hx hb dX1_addBeast_38 rfl (lv_at hl 0 rfl) ?_
    refine lv_iload_n hx hb dX1_addBeast_39 rfl (lv_at hl 3 rfl) ?_
    refine z_iast (D := (dC, dI)) hx hb hK hP hD hS 5 0 rfl rfl B (rfl) (by omega) (by omega) (f' := upd (σ 5) B w) (rfl) dX1_addBeast_40 (fun H locs hP hD hS => ?_)
    have hP : va_P (dC, dI) vwCl (mw cI cZ ad (up2 (up2 σ 0 5 (nI (B + 1))) 5 B w)) H := hP
    have hD : va_D A (mw cI cZ ad (up2 (up2 σ 0 5 (nI (B + 1))) 5 B w)) := hD
    refine lv_aload_n hx hb dX1_addBeast_41 rfl (lv_at hl 1 rfl) ?_
    refine va_get (D := (dC, dI)) (ci := 1) (v := .ref (ad 9)) (C := RX1) (T := TX1) (N := 17) hx hb hts hin1 hown hK hP 0 rfl rfl 14 (by decide) L56 (fun _ h9 => h9) rfl dX1_addBeast_42 ?_
    refine lv_iload_n hx hb dX1_addBeast_45 rfl (lv_at hl 0 rfl) ?_
    refine lv_iconst (v := (-1)) hx hb dX1_addBeast_46 (by decide) ?_
    refine z_iast (D := (dC, dI)) hx hb hK hP hD hS 9 0 rfl rfl B (rfl) (by omega) (by omega) (f' := upd (σ 9) B (-1)) (rfl) dX1_addBeast_47 (fun H locs hP hD hS => ?_)
    have hP : va_P (dC, dI) vwCl (mw cI cZ ad (up2 (up2 (up2 σ 0 5 (nI (B + 1))) 5 B w) 9 B (-1))) H := hP
    have hD : va_D A (mw cI cZ ad (up2 (up2 (up2 σ 0 5 (nI (B + 1))) 5 B w) 9 B (-1))) := hD
    refine lv_aload_n hx hb dX1_addBeast_48 rfl (lv_at hl 1 rfl) ?_
    refine lv_iload_n hx hb dX1_addBeast_49 rfl (lv_at hl 0 rfl) ?_
    refine lv_iload_n hx hb dX1_addBeast_50 rfl (lv_at hl 2 rfl) ?_
    refine z_callQv (As := [.int (nI B), .int h]) (rest := []) ⟨hx, hb, hml, hown, hts⟩ (c_X1_putTo l dC dI cI cZ ad (up2 (up2 (up2 σ 0 5 (nI (B + 1))) 5 B w) 9 B (-1)) Hn (B + 1) L C V M ⟨iL, iC, iV, iM, iH, rfl, jL, jC, jV, jM, jH, by omega⟩ B (by omega) h _) (cwV 2 hts gX1_addBeast_X1_putTo rfl rfl rfl (by decide +kernel) ⟨Nat.le_of_ble_eq_true rfl, Nat.le_of_ble_eq_true rfl⟩) (fun _ _ _ _ q => q) (fun _ _ _ => trivial) hP hD hK hS hA [0, 1, 2, 3, 4, 5, 6, 7, 8, 9] [] rfl rfl rfl rfl (by decide) (va_recv hK hP (ci := 1) (q0 := 0) rfl rfl) rfl hl.1 rfl (Nat.le_of_ble_eq_true rfl) ⟨Nat.le_of_ble_eq_true rfl, Nat.le_of_ble_eq_true rfl⟩ dX1_addBeast_51 (fun u H locs hr hP hD hS => ?_)
    obtain rfl := hr
    have hP : va_P (dC, dI) vwCl (mw cI cZ ad (putS (up2 (up2 (up2 σ 0 5 (nI (B + 1))) 5 B w) 9 B (-1)) B h)) H := hP
    have hD : va_D A (mw cI cZ ad (putS (up2 (up2 (up2 σ 0 5 (nI (B + 1))) 5 B w) 9 B (-1)) B h)) := hD
    refine lv_iload_n hx hb dX1_addBeast_54 rfl (lv_at hl 0 rfl) ?_
    exact hq (nI B) (putS (up2 (up2 (up2 σ 0 5 (nI (B + 1))) 5 B w) 9 B (-1)) B h) _ _ 55 ls dX1_addBeast_55 (show (nI B) = (addBF σ B h w).1 ∧ (putS (up2 (up2 (up2 σ 0 5 (nI (B + 1))) 5 B w) 9 B (-1)) B h) = (addBF σ B h w).2 from ⟨(by unfold addBF; rw [if_neg (show ¬ B = 6 by omega)]), (by unfold addBF; (rw [if_neg (show ¬ B = 6 by omega)]) <;> rfl)⟩) hP hD hS
  · skip
    refine lv_bipush (v := (-104)) hx hb dX1_addBeast_16 (by decide) ?_
    exact hq (-104) σ _ _ 18 ls dX1_addBeast_18 (show (-104) = (addBF σ B h w).1 ∧ σ = (addBF σ B h w).2 from ⟨(by unfold addBF; rw [if_pos (show B = 6 by omega)]), (by unfold addBF; rw [if_pos (show B = 6 by omega)])⟩) hP hD hS
abbrev rm_c_X1_makeGift : Room := { frames := 3, cells := 0, slots := 0, locals := 64 }
set_option maxHeartbeats 4000000 in
set_option maxRecDepth 100000 in
theorem c_X1_makeGift (l : Launch) (dC : Nat → ClassId) (dI : Nat → Nat → Nat) (cI cZ : ClassId) (ad : Nat → Nat) (σ : St) (Hn B L C V M : Nat) (hI : Inv σ Hn B L C V M) (b : Nat) (hb6 : b < B) (t : Nat) (ht4 : t < Hn) (sz : Nat) : Met l yX1_makeGift wsX1_makeGift rm_c_X1_makeGift (va_Pc [.ref (ad 0), .int (nI b), .int (nI t)] (zPre (dC, dI) vwCl (tyIZ cI cZ) (mw cI cZ ad σ) sz (fun _ => True))) (va_Qv (fun (u : St) => u = giftS σ b t) (zPost (dC, dI) vwCl (tyIZ cI cZ) (mw cI cZ ad σ) sz (fun (u : St) => mw cI cZ ad u)) (va_A (mw cI cZ ad σ) sz)) 0 0 (va_A (mw cI cZ ad σ) sz) := by
  refine z_impV (cc := cX1_makeGift) (maxL := 3) (av := [.ref (ad 0), .int (nI b), .int (nI t)]) (by decide) rfl (Nat.le_of_ble_eq_true rfl) ?_
  intro p e s m below meth c Q A ls hx hb hml hown hname hts hBs hP hK hD hS hA hAB hq hl
  have hown : s.vm.findClass RX1 = some m.cls := hown
  have hin1 : ∀ w ∈ wsX10, w ∈ wsX1_makeGift := fun _ h => List.mem_cons_of_mem _ (List.mem_append_right _ h)
  have L50 := hts (.fieldLink RX1 50 "BestBeast$Manor" "giver" "[I") (List.mem_of_getElem? (i := 1) rfl)
  have L47 := hts (.fieldLink RX1 47 "BestBeast$Manor" "owner" "[I") (List.mem_of_getElem? (i := 2) rfl)
  have L53 := hts (.fieldLink RX1 53 "BestBeast$Manor" "givenIn" "[I") (List.mem_of_getElem? (i := 3) rfl)
  have L59 := hts (.fieldLink RX1 59 "BestBeast$Manor" "yearNow" "I") (List.mem_of_getElem? (i := 4) rfl)
  obtain ⟨⟨iL, iC, iV, iM, iH, iB, jL, jC, jV, jM, jH, jB⟩, iK, iDe, iAl, iHe, iWo, iO1, iO2⟩ := id hI
  have hl : lv_has ls 3 [(0, .ref (ad 0)), (1, .int (nI b)), (2, .int (nI t))] := hl
  refine lv_aload_n hx hb dX1_makeGift_0 rfl (lv_at hl 0 rfl) ?_
  refine lv_iload_n hx hb dX1_makeGift_1 rfl (lv_at hl 1 rfl) ?_
  refine lv_iload_n hx hb dX1_makeGift_2 rfl (lv_at hl 2 rfl) ?_
  refine z_callV (As := [.int (nI b), .int (nI t)]) (rest := []) ⟨hx, hb, hml, hown, hts⟩ (c_X1_mayGive l dC dI cI cZ ad σ Hn B L C V M hI b (by omega) t (by omega)) (cwV 2 hts gX1_makeGift_X1_mayGive rfl rfl rfl (by decide +kernel) ⟨Nat.le_of_ble_eq_true rfl, Nat.le_of_ble_eq_true rfl⟩) hP hK (va_recv hK hP (ci := 1) (q0 := 0) rfl rfl) rfl hl.1 rfl (Nat.le_of_ble_eq_true rfl) ⟨Nat.zero_le _, Nat.zero_le _⟩ dX1_makeGift_3 (fun r hr => ?_)
  obtain rfl : r = zb (giveP σ b t) := hr
  refine z_ifne_b (P := giveP σ b t) (tgt := 10) hx hb dX1_makeGift_6 (by decide) (fun (c_6 : giveP σ b t) => ?_) (fun (c_6 : ¬ (giveP σ b t)) => ?_)
  · skip
    refine lv_aload_n hx hb dX1_makeGift_10 rfl (lv_at hl 0 rfl) ?_
    refine va_get (D := (dC, dI)) (ci := 1) (v := .ref (ad 7)) (C := RX1) (T := TX1) (N := 17) hx hb hts hin1 hown hK hP 0 rfl rfl 12 (by decide) L50 (fun _ h9 => h9) rfl dX1_makeGift_11 ?_
    refine lv_iload_n hx hb dX1_makeGift_14 rfl (lv_at hl 1 rfl) ?_
    refine lv_aload_n hx hb dX1_makeGift_15 rfl (lv_at hl 0 rfl) ?_
    refine va_get (D := (dC, dI)) (ci := 1) (v := .ref (ad 6)) (C := RX1) (T := TX1) (N := 17) hx hb hts hin1 hown hK hP 0 rfl rfl 11 (by decide) L47 (fun _ h9 => h9) rfl dX1_makeGift_16 ?_
    refine lv_iload_n hx hb dX1_makeGift_19 rfl (lv_at hl 1 rfl) ?_
    refine z_iald (D := (dC, dI)) hx hb hK hP 6 0 rfl rfl b (rfl) (by omega) (by omega) (v := (σ 6) b) (rfl) dX1_makeGift_20 ?_
    refine z_iast (D := (dC, dI)) hx hb hK hP hD hS 7 0 rfl rfl b (rfl) (by omega) (by omega) (f' := upd (σ 7) b ((σ 6) b)) (rfl) dX1_makeGift_21 (fun H locs hP hD hS => ?_)
    have hP : va_P (dC, dI) vwCl (mw cI cZ ad (up2 σ 7 b ((σ 6) b))) H := hP
    have hD : va_D A (mw cI cZ ad (up2 σ 7 b ((σ 6) b))) := hD
    refine lv_aload_n hx hb dX1_makeGift_22 rfl (lv_at hl 0 rfl) ?_
    refine va_get (D := (dC, dI)) (ci := 1) (v := .ref (ad 8)) (C := RX1) (T := TX1) (N := 17) hx hb hts hin1 hown hK hP 0 rfl rfl 13 (by decide) L53 (fun _ h9 => h9) rfl dX1_makeGift_23 ?_
    refine lv_iload_n hx hb dX1_makeGift_26 rfl (lv_at hl 1 rfl) ?_
    refine lv_aload_n hx hb dX1_makeGift_27 rfl (lv_at hl 0 rfl) ?_
    refine va_get (D := (dC, dI)) (ci := 1) (v := .int (σ 0 6)) (C := RX1) (T := TX1) (N := 17) hx hb hts hin1 hown hK hP 0 rfl rfl 15 (by decide) L59 (fun _ h9 => h9) rfl dX1_makeGift_28 ?_
    refine z_iast (D := (dC, dI)) hx hb hK hP hD hS 8 0 rfl rfl b (rfl) (by omega) (by omega) (f' := upd (σ 8) b (σ 0 6)) (rfl) dX1_makeGift_31 (fun H locs hP hD hS => ?_)
    have hP : va_P (dC, dI) vwCl (mw cI cZ ad (up2 (up2 σ 7 b ((σ 6) b)) 8 b (σ 0 6))) H := hP
    have hD : va_D A (mw cI cZ ad (up2 (up2 σ 7 b ((σ 6) b)) 8 b (σ 0 6))) := hD
    refine lv_aload_n hx hb dX1_makeGift_32 rfl (lv_at hl 0 rfl) ?_
    refine va_get (D := (dC, dI)) (ci := 1) (v := .ref (ad 6)) (C := RX1) (T := TX1) (N := 17) hx hb hts hin1 hown hK hP 0 rfl rfl 11 (by decide) L47 (fun _ h9 => h9) rfl dX1_makeGift_33 ?_
    refine lv_iload_n hx hb dX1_makeGift_36 rfl (lv_at hl 1 rfl) ?_
    refine lv_iload_n hx hb dX1_makeGift_37 rfl (lv_at hl 2 rfl) ?_
    refine z_iast (D := (dC, dI)) hx hb hK hP hD hS 6 0 rfl rfl b (rfl) (by omega) (by omega) (f' := upd (σ 6) b (nI t)) (rfl) dX1_makeGift_38 (fun H locs hP hD hS => ?_)
    have hP : va_P (dC, dI) vwCl (mw cI cZ ad (up2 (up2 (up2 σ 7 b ((σ 6) b)) 8 b (σ 0 6)) 6 b (nI t))) H := hP
    have hD : va_D A (mw cI cZ ad (up2 (up2 (up2 σ 7 b ((σ 6) b)) 8 b (σ 0 6)) 6 b (nI t))) := hD
    exact hq (up2 (up2 (up2 σ 7 b ((σ 6) b)) 8 b (σ 0 6)) 6 b (nI t)) _ _ 39 ls dX1_makeGift_39 (show (up2 (up2 (up2 σ 7 b ((σ 6) b)) 8 b (σ 0 6)) 6 b (nI t)) = giftS σ b t from (by rw [giftS_y c_6]; unfold layS; rw [up2_comm _ _ _ (show 8 ≠ 6 by decide), up2_comm _ _ _ (show 7 ≠ 6 by decide)])) hP hD hS
  · skip
    exact hq σ _ _ 9 ls dX1_makeGift_9 (show σ = giftS σ b t from (giftS_n c_6).symm) hP hD hS
abbrev rm_c_X1_bury : Room := { frames := 4, cells := 0, slots := 0, locals := 90 }
set_option maxHeartbeats 4000000 in
set_option maxRecDepth 100000 in
theorem c_X1_bury (l : Launch) (dC : Nat → ClassId) (dI : Nat → Nat → Nat) (cI cZ : ClassId) (ad : Nat → Nat) (σ : St) (Hn B L C V M : Nat) (hI : Inv σ Hn B L C V M) (j : Nat) (hj : j < Hn) (ha : σ 3 j = 1) (sz : Nat) : Met l yX1_bury wsX1_bury rm_c_X1_bury (va_Pc [.ref (ad 0), .int (nI j)] (zPre (dC, dI) vwCl (tyIZ cI cZ) (mw cI cZ ad σ) sz (fun _ => True))) (va_Qi (fun (r : Int32) (u : St) => r = lossF σ B j (heldF σ B (nI j)) ∧ u = buryS σ Hn B j) (zPost (dC, dI) vwCl (tyIZ cI cZ) (mw cI cZ ad σ) sz (fun (u : St) => mw cI cZ ad u)) (va_A (mw cI cZ ad σ) sz)) 0 0 (va_A (mw cI cZ ad σ) sz) := by
  refine z_impI (cc := cX1_bury) (maxL := 6) (av := [.ref (ad 0), .int (nI j)]) (by decide) rfl (Nat.le_of_ble_eq_true rfl) ?_
  intro p e s m below meth c Q A ls hx hb hml hown hts hBs hP hK hD hS hA hAB hq hl
  have hown : s.vm.findClass RX1 = some m.cls := hown
  have hin1 : ∀ w ∈ wsX10, w ∈ wsX1_bury := fun _ h => List.mem_cons_of_mem _ (List.mem_append_right _ h)
  have L34 := hts (.fieldLink RX1 34 "BestBeast$Manor" "heirOf" "[I") (List.mem_of_getElem? (i := 1) rfl)
  have L41 := hts (.fieldLink RX1 41 "BestBeast$Manor" "beasts" "I") (List.mem_of_getElem? (i := 2) rfl)
  have L37 := hts (.fieldLink RX1 37 "BestBeast$Manor" "alive" "[Z") (List.mem_of_getElem? (i := 4) rfl)
  have L62 := hts (.fieldLink RX1 62 "BestBeast$Manor" "takenWorth" "I") (List.mem_of_getElem? (i := 5) rfl)
  have L47 := hts (.fieldLink RX1 47 "BestBeast$Manor" "owner" "[I") (List.mem_of_getElem? (i := 3) rfl)
  obtain ⟨⟨iL, iC, iV, iM, iH, iB, jL, jC, jV, jM, jH, jB⟩, iK, iDe, iAl, iHe, iWo, iO1, iO2⟩ := id hI
  have hl : lv_has ls 6 [(0, .ref (ad 0)), (1, .int (nI j))] := hl
  refine lv_aload_n hx hb dX1_bury_0 rfl (lv_at hl 0 rfl) ?_
  refine lv_iload_n hx hb dX1_bury_1 rfl (lv_at hl 1 rfl) ?_
  refine z_callV (As := [.int (nI j)]) (rest := []) ⟨hx, hb, hml, hown, hts⟩ (c_X1_isAlive l dC dI cI cZ ad σ Hn B L C V M hI (nI j)) (cwV 1 hts gX1_bury_X1_isAlive rfl rfl rfl (by decide +kernel) ⟨Nat.le_of_ble_eq_true rfl, Nat.le_of_ble_eq_true rfl⟩) hP hK (va_recv hK hP (ci := 1) (q0 := 0) rfl rfl) rfl hl.1 rfl (Nat.le_of_ble_eq_true rfl) ⟨Nat.zero_le _, Nat.zero_le _⟩ dX1_bury_2 (fun r hr => ?_)
  obtain rfl : r = zb (liveP σ Hn (nI j)) := hr
  refine z_ifne_b (P := liveP σ Hn (nI j)) (tgt := 10) hx hb dX1_bury_5 (by decide) (fun (c_5 : liveP σ Hn (nI j)) => ?_) (fun (z9 : ¬ (liveP σ Hn (nI j))) => absurd (live_yes hj ha) z9)
  refine lv_aload_n hx hb dX1_bury_10 rfl (lv_at hl 0 rfl) ?_
  refine lv_iload_n hx hb dX1_bury_11 rfl (lv_at hl 1 rfl) ?_
  refine lv_aload_n hx hb dX1_bury_12 rfl (lv_at hl 0 rfl) ?_
  refine lv_iload_n hx hb dX1_bury_13 rfl (lv_at hl 1 rfl) ?_
  refine z_callV (As := [.int (nI j)]) (rest := [.int (nI j), .ref (ad 0)]) ⟨hx, hb, hml, hown, hts⟩ (c_X1_heldBits l dC dI cI cZ ad σ Hn B L C V M hI (nI j)) (cwV 1 hts gX1_bury_X1_heldBits rfl rfl rfl (by decide +kernel) ⟨Nat.le_of_ble_eq_true rfl, Nat.le_of_ble_eq_true rfl⟩) hP hK (va_recv hK hP (ci := 1) (q0 := 0) rfl rfl) rfl hl.1 rfl (Nat.le_of_ble_eq_true rfl) ⟨Nat.zero_le _, Nat.zero_le _⟩ dX1_bury_14 (fun r hr => ?_)
  obtain rfl : r = heldF σ B (nI j) := hr
  refine z_callV (As := [.int (nI j), .int (heldF σ B (nI j))]) (rest := []) ⟨hx, hb, hml, hown, hts⟩ (c_X1_takenFrom l dC dI cI cZ ad σ Hn B L C V M hI j (by omega) (heldF σ B (nI j))) (cwV 2 hts gX1_bury_X1_takenFrom rfl rfl rfl (by decide +kernel) ⟨Nat.le_of_ble_eq_true rfl, Nat.le_of_ble_eq_true rfl⟩) hP hK (va_recv hK hP (ci := 1) (q0 := 0) rfl rfl) rfl hl.1 rfl (Nat.le_of_ble_eq_true rfl) ⟨Nat.zero_le _, Nat.zero_le _⟩ dX1_bury_17 (fun r hr => ?_)
  obtain rfl : r = takenF σ B j (heldF σ B (nI j)) := hr
  refine lv_istore_n (lv' := [(2, .int (takenF σ B j (heldF σ B (nI j)))), (0, .ref (ad 0)), (1, .int (nI j))]) hx hb dX1_bury_20 rfl hl (by decide) rfl (fun ls hl => ?_)
  refine lv_aload_n hx hb dX1_bury_21 rfl (lv_at hl 1 rfl) ?_
  refine lv_iload_n hx hb dX1_bury_22 rfl (lv_at hl 0 rfl) ?_
  refine z_callV (As := [.int (takenF σ B j (heldF σ B (nI j)))]) (rest := []) ⟨hx, hb, hml, hown, hts⟩ (c_X1_worthOf l dC dI cI cZ ad σ Hn B L C V M hI (takenF σ B j (heldF σ B (nI j)))) (cwV 1 hts gX1_bury_X1_worthOf rfl rfl rfl (by decide +kernel) ⟨Nat.le_of_ble_eq_true rfl, Nat.le_of_ble_eq_true rfl⟩) hP hK (va_recv hK hP (ci := 1) (q0 := 0) rfl rfl) rfl hl.1 rfl (Nat.le_of_ble_eq_true rfl) ⟨Nat.zero_le _, Nat.zero_le _⟩ dX1_bury_23 (fun r hr => ?_)
  obtain rfl : r = worthR σ (takenF σ B j (heldF σ B (nI j))) B := hr
  refine z_topi (v := lossF σ B j (heldF σ B (nI j))) (rfl) ?_
  refine lv_istore_n (lv' := [(3, .int (lossF σ B j (heldF σ B (nI j)))), (2, .int (takenF σ B j (heldF σ B (nI j)))), (0, .ref (ad 0)), (1, .int (nI j))]) hx hb dX1_bury_26 rfl hl (by decide) rfl (fun ls hl => ?_)
  refine lv_aload_n hx hb dX1_bury_27 rfl (lv_at hl 2 rfl) ?_
  refine lv_aload_n hx hb dX1_bury_28 rfl (lv_at hl 2 rfl) ?_
  refine va_get (D := (dC, dI)) (ci := 1) (v := .ref (ad 4)) (C := RX1) (T := TX1) (N := 17) hx hb hts hin1 hown hK hP 0 rfl rfl 7 (by decide) L34 (fun _ h9 => h9) rfl dX1_bury_29 ?_
  refine lv_iload_n hx hb dX1_bury_32 rfl (lv_at hl 3 rfl) ?_
  refine z_iald (D := (dC, dI)) hx hb hK hP 4 0 rfl rfl j (rfl) (by omega) (by omega) (v := (σ 4) j) (rfl) dX1_bury_33 ?_
  refine z_callV (As := [.int ((σ 4) j)]) (rest := []) ⟨hx, hb, hml, hown, hts⟩ (c_X1_isAlive l dC dI cI cZ ad σ Hn B L C V M hI ((σ 4) j)) (cwV 1 hts gX1_bury_X1_isAlive rfl rfl rfl (by decide +kernel) ⟨Nat.le_of_ble_eq_true rfl, Nat.le_of_ble_eq_true rfl⟩) hP hK (va_recv hK hP (ci := 1) (q0 := 0) rfl rfl) rfl hl.1 rfl (Nat.le_of_ble_eq_true rfl) ⟨Nat.zero_le _, Nat.zero_le _⟩ dX1_bury_34 (fun r hr => ?_)
  obtain rfl : r = zb (liveP σ Hn ((σ 4) j)) := hr
  refine z_ifeq_b (P := liveP σ Hn ((σ 4) j)) (tgt := 49) hx hb dX1_bury_37 (by decide) (fun (c_37 : ¬ (liveP σ Hn ((σ 4) j))) => ?_) (fun (c_37 : liveP σ Hn ((σ 4) j)) => ?_)
  · skip
    refine lv_iconst (v := (-1)) hx hb dX1_bury_49 (by decide) ?_
    refine lv_istore (lv' := [(4, .int (-1)), (3, .int (lossF σ B j (heldF σ B (nI j)))), (2, .int (takenF σ B j (heldF σ B (nI j)))), (0, .ref (ad 0)), (1, .int (nI j))]) hx hb dX1_bury_50 hl (by decide) rfl (fun ls hl => ?_)
    refine lv_iconst (v := nI 0) hx hb dX1_bury_52 (by decide) ?_
    refine lv_istore (lv' := [(5, .int (nI 0)), (4, .int (-1)), (3, .int (lossF σ B j (heldF σ B (nI j)))), (2, .int (takenF σ B j (heldF σ B (nI j)))), (0, .ref (ad 0)), (1, .int (nI j))]) hx hb dX1_bury_53 hl (by decide) rfl (fun ls hl => ?_)
    suffices hlp55 : ∀ (nf : Nat) (k : Nat) (x55_5 : Int32) (ls : Array Slot) (H : Heap) (locs : List Loc), (k ≤ B) → x55_5 = nI k → va_P (dC, dI) vwCl (mw cI cZ ad (buryR σ (takenF σ B j (heldF σ B (nI j))) (nI j) (-1) k)) H → va_D A (mw cI cZ ad (buryR σ (takenF σ B j (heldF σ B (nI j))) (nI j) (-1) k)) → va_S A s.heap H locs → lv_has ls 6 [(5, .int x55_5), (4, .int (-1)), (3, .int (lossF σ B j (heldF σ B (nI j)))), (2, .int (takenF σ B j (heldF σ B (nI j)))), (0, .ref (ad 0)), (1, .int (nI j))] → B - k < nf → W p l e rm_c_X1_bury s m ([.ref (ad 0), .int (nI j)] : List Value).toArray below meth c H locs 0 0 Q (F0 m 55 ls []) by
      exact hlp55 ((B - 0) + 1) 0 (nI 0) ls _ _ (by omega) rfl hP hD hS (lv_sub hl [0, 1, 2, 3, 4, 5] rfl) (by omega)
    clear hP hD hS hl
    intro nf
    induction nf with
    | zero => intro k x55_5 ls H locs hk e55_5 hP hD hS hl hn; omega
    | succ nf ih55 =>
      intro k x55_5 ls H locs hk e55_5 hP hD hS hl hn
      subst e55_5
      have hk2 := hI.bury (takenF σ B j (heldF σ B (nI j))) (nI j) (-1) k
      obtain ⟨⟨kL, kC, kV, kM, kH, kB, -⟩, -⟩ := id hk2
      refine lv_iload hx hb dX1_bury_55 (lv_at hl 0 rfl) ?_
      refine lv_aload_n hx hb dX1_bury_57 rfl (lv_at hl 4 rfl) ?_
      refine va_get (D := (dC, dI)) (ci := 1) (v := .int (nI B)) (C := RX1) (T := TX1) (N := 17) hx hb hts hin1 hown hK hP 0 rfl rfl 9 (by decide) L41 (fun _ h9 => h9) (congrArg (fun z => some (Value.int z)) kB) dX1_bury_58 ?_
      refine z_icmp_ge (a := k) (b := B) (tgt := 118) hx hb (by omega) (by omega) dX1_bury_61 (by decide) (fun (c_61 : B ≤ k) => ?_) (fun (c_61 : k < B) => ?_)
      · skip
        refine lv_aload_n hx hb dX1_bury_118 rfl (lv_at hl 4 rfl) ?_
        refine va_get (D := (dC, dI)) (ci := 1) (v := .ref (ad 3)) (C := RX1) (T := TX1) (N := 17) hx hb hts hin1 hown hK hP 0 rfl rfl 8 (by decide) L37 (fun _ h9 => h9) rfl dX1_bury_119 ?_
        refine lv_iload_n hx hb dX1_bury_122 rfl (lv_at hl 5 rfl) ?_
        refine lv_iconst (v := nI 0) hx hb dX1_bury_123 (by decide) ?_
        refine z_zast (D := (dC, dI)) hx hb hK hP hD hS 3 1 rfl rfl (Or.inl rfl) j (rfl) (by omega) (by omega) (f' := upd (buryR σ (takenF σ B j (heldF σ B (nI j))) (nI j) (-1) k 3) j (nI 0)) (rfl) dX1_bury_124 (fun H locs hP hD hS => ?_)
        have hP : va_P (dC, dI) vwCl (mw cI cZ ad (up2 (buryR σ (takenF σ B j (heldF σ B (nI j))) (nI j) (-1) k) 3 j (nI 0))) H := hP
        have hD : va_D A (mw cI cZ ad (up2 (buryR σ (takenF σ B j (heldF σ B (nI j))) (nI j) (-1) k) 3 j (nI 0))) := hD
        refine lv_aload_n hx hb dX1_bury_125 rfl (lv_at hl 4 rfl) ?_
        refine lv_dup hx hb dX1_bury_126 rfl ?_
        refine va_get (D := (dC, dI)) (ci := 1) (v := .int (buryR σ (takenF σ B j (heldF σ B (nI j))) (nI j) (-1) k 0 7)) (C := RX1) (T := TX1) (N := 17) hx hb hts hin1 hown hK hP 0 rfl rfl 16 (by decide) L62 (fun _ h9 => h9) rfl dX1_bury_127 ?_
        refine lv_iload_n hx hb dX1_bury_130 rfl (lv_at hl 2 rfl) ?_
        refine z_iadd (v := (buryR σ (takenF σ B j (heldF σ B (nI j))) (nI j) (-1) k 0 7) + (lossF σ B j (heldF σ B (nI j)))) hx hb dX1_bury_131 (rfl) ?_
        refine va_put (D := (dC, dI)) (ci := 1) (v := .int ((buryR σ (takenF σ B j (heldF σ B (nI j))) (nI j) (-1) k 0 7) + (lossF σ B j (heldF σ B (nI j))))) (ty := .int) (C := RX1) (T := TX1) (N := 17) hx hb hts hin1 tyX1 tyX1_ok nmX1 hown hK hP hD hS 0 rfl rfl 16 (by decide) L62 (fun _ h9 => h9) rfl (by decide +kernel) rfl rfl (Nat.le_of_ble_eq_true rfl) dX1_bury_132 (fun H locs hP hD hS => ?_)
        have hP : va_P (dC, dI) vwCl (mw cI cZ ad (up2 (up2 (buryR σ (takenF σ B j (heldF σ B (nI j))) (nI j) (-1) k) 3 j (nI 0)) 0 7 ((buryR σ (takenF σ B j (heldF σ B (nI j))) (nI j) (-1) k 0 7) + (lossF σ B j (heldF σ B (nI j)))))) H := hP
        have hD : va_D A (mw cI cZ ad (up2 (up2 (buryR σ (takenF σ B j (heldF σ B (nI j))) (nI j) (-1) k) 3 j (nI 0)) 0 7 ((buryR σ (takenF σ B j (heldF σ B (nI j))) (nI j) (-1) k 0 7) + (lossF σ B j (heldF σ B (nI j)))))) := hD
        refine lv_iload_n hx hb dX1_bury_135 rfl (lv_at hl 2 rfl) ?_
        exact hq (lossF σ B j (heldF σ B (nI j))) (up2 (up2 (buryR σ (takenF σ B j (heldF σ B (nI j))) (nI j) (-1) k) 3 j (nI 0)) 0 7 ((buryR σ (takenF σ B j (heldF σ B (nI j))) (nI j) (-1) k 0 7) + (lossF σ B j (heldF σ B (nI j))))) _ _ 136 ls dX1_bury_136 (show (lossF σ B j (heldF σ B (nI j))) = lossF σ B j (heldF σ B (nI j)) ∧ (up2 (up2 (buryR σ (takenF σ B j (heldF σ B (nI j))) (nI j) (-1) k) 3 j (nI 0)) 0 7 ((buryR σ (takenF σ B j (heldF σ B (nI j))) (nI j) (-1) k 0 7) + (lossF σ B j (heldF σ B (nI j))))) = buryS σ Hn B j from ⟨rfl, (by unfold buryS; rw [nextF_n c_37, show B = k by omega, buryR_num 0 (Or.inl (by decide)) k]; rfl)⟩) hP hD hS
      · skip
        refine lv_iload_n hx hb dX1_bury_64 rfl (lv_at hl 3 rfl) ?_
        refine lv_iload hx hb dX1_bury_65 (lv_at hl 0 rfl) ?_
        refine z_ishr (v := (takenF σ B j (heldF σ B (nI j))) >>> (nI k &&& 31)) hx hb dX1_bury_67 (rfl) ?_
        refine lv_iconst (v := nI 1) hx hb dX1_bury_68 (by decide) ?_
        refine z_iand (v := zin (takenF σ B j (heldF σ B (nI j))) k) hx hb dX1_bury_69 (rfl) ?_
        refine lv_iconst (v := nI 1) hx hb dX1_bury_70 (by decide) ?_
        refine lv_icmp_ne (tgt := 84) hx hb dX1_bury_71 (by decide) (fun (c_71 : ¬ (zin (takenF σ B j (heldF σ B (nI j))) k) = 1) => ?_) (fun (c_71 : (zin (takenF σ B j (heldF σ B (nI j))) k) = 1) => ?_)
        · skip
          refine lv_aload_n hx hb dX1_bury_84 rfl (lv_at hl 4 rfl) ?_
          refine lv_iload hx hb dX1_bury_85 (lv_at hl 0 rfl) ?_
          refine z_callV (As := [.int (nI k)]) (rest := []) ⟨hx, hb, hml, hown, hts⟩ (c_X1_hasBeast l dC dI cI cZ ad (buryR σ (takenF σ B j (heldF σ B (nI j))) (nI j) (-1) k) Hn B L C V M hk2.1 (nI k)) (cwV 1 hts gX1_bury_X1_hasBeast rfl rfl rfl (by decide +kernel) ⟨Nat.le_of_ble_eq_true rfl, Nat.le_of_ble_eq_true rfl⟩) hP hK (va_recv hK hP (ci := 1) (q0 := 0) rfl rfl) rfl hl.1 rfl (Nat.le_of_ble_eq_true rfl) ⟨Nat.zero_le _, Nat.zero_le _⟩ dX1_bury_87 (fun r hr => ?_)
          obtain rfl : r = zb (hasP B (nI k)) := hr
          refine z_ifeq_b (P := hasP B (nI k)) (tgt := 112) hx hb dX1_bury_90 (by decide) (fun (z9 : ¬ (hasP B (nI k))) => absurd (hasP_nI c_61) z9) (fun (c_90 : hasP B (nI k)) => ?_)
          refine lv_aload_n hx hb dX1_bury_93 rfl (lv_at hl 4 rfl) ?_
          refine va_get (D := (dC, dI)) (ci := 1) (v := .ref (ad 6)) (C := RX1) (T := TX1) (N := 17) hx hb hts hin1 hown hK hP 0 rfl rfl 11 (by decide) L47 (fun _ h9 => h9) rfl dX1_bury_94 ?_
          refine lv_iload hx hb dX1_bury_97 (lv_at hl 0 rfl) ?_
          refine z_iald (D := (dC, dI)) hx hb hK hP 6 0 rfl rfl k (rfl) (by omega) (by omega) (v := σ 6 k) (buryR_own k k (Nat.le_refl _)) dX1_bury_99 ?_
          refine lv_iload_n hx hb dX1_bury_100 rfl (lv_at hl 5 rfl) ?_
          refine lv_icmp_ne (tgt := 112) hx hb dX1_bury_101 (by decide) (fun (c_101 : ¬ (σ 6 k) = (nI j)) => ?_) (fun (c_101 : (σ 6 k) = (nI j)) => ?_)
          · skip
            refine lv_iinc (v := nI (k + 1)) (lv' := [(5, .int (nI (k + 1))), (4, .int (-1)), (3, .int (lossF σ B j (heldF σ B (nI j)))), (2, .int (takenF σ B j (heldF σ B (nI j)))), (0, .ref (ad 0)), (1, .int (nI j))]) hx hb dX1_bury_112 hl (k := 0) rfl (nI_1 _) (by decide) rfl (fun ls hl => ?_)
            refine lv_goto (tgt := 55) hx hb dX1_bury_115 (by decide) ?_
            rw [show buryR σ (takenF σ B j (heldF σ B (nI j))) (nI j) (-1) k = buryR σ (takenF σ B j (heldF σ B (nI j))) (nI j) (-1) (k + 1) from buryR_n c_71 c_101] at hP hD
            exact ih55 (k + 1) (nI (k + 1)) ls _ _ (by omega) (show nI (k + 1) = nI (k + 1) from rfl) hP hD hS (lv_sub hl [0, 1, 2, 3, 4, 5] rfl) (by omega)
          · skip
            refine lv_aload_n hx hb dX1_bury_104 rfl (lv_at hl 4 rfl) ?_
            refine lv_iload hx hb dX1_bury_105 (lv_at hl 0 rfl) ?_
            refine lv_iload hx hb dX1_bury_107 (lv_at hl 1 rfl) ?_
            refine z_callQv (As := [.int (nI k), .int (-1)]) (rest := []) ⟨hx, hb, hml, hown, hts⟩ (c_X1_putTo l dC dI cI cZ ad (buryR σ (takenF σ B j (heldF σ B (nI j))) (nI j) (-1) k) Hn B L C V M hk2.1 k (by omega) (-1) _) (cwV 2 hts gX1_bury_X1_putTo rfl rfl rfl (by decide +kernel) ⟨Nat.le_of_ble_eq_true rfl, Nat.le_of_ble_eq_true rfl⟩) (fun _ _ _ _ q => q) (fun _ _ _ => trivial) hP hD hK hS hA [0, 1, 2, 3, 4, 5, 6, 7, 8, 9] [] rfl rfl rfl rfl (by decide) (va_recv hK hP (ci := 1) (q0 := 0) rfl rfl) rfl hl.1 rfl (Nat.le_of_ble_eq_true rfl) ⟨Nat.le_of_ble_eq_true rfl, Nat.le_of_ble_eq_true rfl⟩ dX1_bury_109 (fun u H locs hr hP hD hS => ?_)
            obtain rfl := hr
            have hP : va_P (dC, dI) vwCl (mw cI cZ ad (putS (buryR σ (takenF σ B j (heldF σ B (nI j))) (nI j) (-1) k) k (-1))) H := hP
            have hD : va_D A (mw cI cZ ad (putS (buryR σ (takenF σ B j (heldF σ B (nI j))) (nI j) (-1) k) k (-1))) := hD
            refine lv_iinc (v := nI (k + 1)) (lv' := [(5, .int (nI (k + 1))), (4, .int (-1)), (3, .int (lossF σ B j (heldF σ B (nI j)))), (2, .int (takenF σ B j (heldF σ B (nI j)))), (0, .ref (ad 0)), (1, .int (nI j))]) hx hb dX1_bury_112 hl (k := 0) rfl (nI_1 _) (by decide) rfl (fun ls hl => ?_)
            refine lv_goto (tgt := 55) hx hb dX1_bury_115 (by decide) ?_
            rw [show putS (buryR σ (takenF σ B j (heldF σ B (nI j))) (nI j) (-1) k) k (-1) = buryR σ (takenF σ B j (heldF σ B (nI j))) (nI j) (-1) (k + 1) from buryR_o c_71 c_101] at hP hD
            exact ih55 (k + 1) (nI (k + 1)) ls _ _ (by omega) (show nI (k + 1) = nI (k + 1) from rfl) hP hD hS (lv_sub hl [0, 1, 2, 3, 4, 5] rfl) (by omega)
        · skip
          refine lv_aload_n hx hb dX1_bury_74 rfl (lv_at hl 4 rfl) ?_
          refine lv_iload hx hb dX1_bury_75 (lv_at hl 0 rfl) ?_
          refine lv_iconst (v := (-1)) hx hb dX1_bury_77 (by decide) ?_
          refine z_callQv (As := [.int (nI k), .int (-1)]) (rest := []) ⟨hx, hb, hml, hown, hts⟩ (c_X1_putTo l dC dI cI cZ ad (buryR σ (takenF σ B j (heldF σ B (nI j))) (nI j) (-1) k) Hn B L C V M hk2.1 k (by omega) (-1) _) (cwV 2 hts gX1_bury_X1_putTo rfl rfl rfl (by decide +kernel) ⟨Nat.le_of_ble_eq_true rfl, Nat.le_of_ble_eq_true rfl⟩) (fun _ _ _ _ q => q) (fun _ _ _ => trivial) hP hD hK hS hA [0, 1, 2, 3, 4, 5, 6, 7, 8, 9] [] rfl rfl rfl rfl (by decide) (va_recv hK hP (ci := 1) (q0 := 0) rfl rfl) rfl hl.1 rfl (Nat.le_of_ble_eq_true rfl) ⟨Nat.le_of_ble_eq_true rfl, Nat.le_of_ble_eq_true rfl⟩ dX1_bury_78 (fun u H locs hr hP hD hS => ?_)
          obtain rfl := hr
          have hP : va_P (dC, dI) vwCl (mw cI cZ ad (putS (buryR σ (takenF σ B j (heldF σ B (nI j))) (nI j) (-1) k) k (-1))) H := hP
          have hD : va_D A (mw cI cZ ad (putS (buryR σ (takenF σ B j (heldF σ B (nI j))) (nI j) (-1) k) k (-1))) := hD
          refine lv_goto (tgt := 112) hx hb dX1_bury_81 (by decide) ?_
          refine lv_iinc (v := nI (k + 1)) (lv' := [(5, .int (nI (k + 1))), (4, .int (-1)), (3, .int (lossF σ B j (heldF σ B (nI j)))), (2, .int (takenF σ B j (heldF σ B (nI j)))), (0, .ref (ad 0)), (1, .int (nI j))]) hx hb dX1_bury_112 hl (k := 0) rfl (nI_1 _) (by decide) rfl (fun ls hl => ?_)
          refine lv_goto (tgt := 55) hx hb dX1_bury_115 (by decide) ?_
          rw [show putS (buryR σ (takenF σ B j (heldF σ B (nI j))) (nI j) (-1) k) k (-1) = buryR σ (takenF σ B j (heldF σ B (nI j))) (nI j) (-1) (k + 1) from buryR_t c_71] at hP hD
          exact ih55 (k + 1) (nI (k + 1)) ls _ _ (by omega) (show nI (k + 1) = nI (k + 1) from rfl) hP hD hS (lv_sub hl [0, 1, 2, 3, 4, 5] rfl) (by omega)
  · skip
    refine lv_aload_n hx hb dX1_bury_40 rfl (lv_at hl 2 rfl) ?_
    refine va_get (D := (dC, dI)) (ci := 1) (v := .ref (ad 4)) (C := RX1) (T := TX1) (N := 17) hx hb hts hin1 hown hK hP 0 rfl rfl 7 (by decide) L34 (fun _ h9 => h9) rfl dX1_bury_41 ?_
    refine lv_iload_n hx hb dX1_bury_44 rfl (lv_at hl 3 rfl) ?_
    refine z_iald (D := (dC, dI)) hx hb hK hP 4 0 rfl rfl j (rfl) (by omega) (by omega) (v := (σ 4) j) (rfl) dX1_bury_45 ?_
    refine lv_goto (tgt := 50) hx hb dX1_bury_46 (by decide) ?_
    refine lv_istore (lv' := [(4, .int ((σ 4) j)), (3, .int (lossF σ B j (heldF σ B (nI j)))), (2, .int (takenF σ B j (heldF σ B (nI j)))), (0, .ref (ad 0)), (1, .int (nI j))]) hx hb dX1_bury_50 hl (by decide) rfl (fun ls hl => ?_)
    refine lv_iconst (v := nI 0) hx hb dX1_bury_52 (by decide) ?_
    refine lv_istore (lv' := [(5, .int (nI 0)), (4, .int ((σ 4) j)), (3, .int (lossF σ B j (heldF σ B (nI j)))), (2, .int (takenF σ B j (heldF σ B (nI j)))), (0, .ref (ad 0)), (1, .int (nI j))]) hx hb dX1_bury_53 hl (by decide) rfl (fun ls hl => ?_)
    suffices hlp55 : ∀ (nf : Nat) (k : Nat) (x55_5 : Int32) (ls : Array Slot) (H : Heap) (locs : List Loc), (k ≤ B) → x55_5 = nI k → va_P (dC, dI) vwCl (mw cI cZ ad (buryR σ (takenF σ B j (heldF σ B (nI j))) (nI j) ((σ 4) j) k)) H → va_D A (mw cI cZ ad (buryR σ (takenF σ B j (heldF σ B (nI j))) (nI j) ((σ 4) j) k)) → va_S A s.heap H locs → lv_has ls 6 [(5, .int x55_5), (4, .int ((σ 4) j)), (3, .int (lossF σ B j (heldF σ B (nI j)))), (2, .int (takenF σ B j (heldF σ B (nI j)))), (0, .ref (ad 0)), (1, .int (nI j))] → B - k < nf → W p l e rm_c_X1_bury s m ([.ref (ad 0), .int (nI j)] : List Value).toArray below meth c H locs 0 0 Q (F0 m 55 ls []) by
      exact hlp55 ((B - 0) + 1) 0 (nI 0) ls _ _ (by omega) rfl hP hD hS (lv_sub hl [0, 1, 2, 3, 4, 5] rfl) (by omega)
    clear hP hD hS hl
    intro nf
    induction nf with
    | zero => intro k x55_5 ls H locs hk e55_5 hP hD hS hl hn; omega
    | succ nf ih55 =>
      intro k x55_5 ls H locs hk e55_5 hP hD hS hl hn
      subst e55_5
      have hk2 := hI.bury (takenF σ B j (heldF σ B (nI j))) (nI j) ((σ 4) j) k
      obtain ⟨⟨kL, kC, kV, kM, kH, kB, -⟩, -⟩ := id hk2
      refine lv_iload hx hb dX1_bury_55 (lv_at hl 0 rfl) ?_
      refine lv_aload_n hx hb dX1_bury_57 rfl (lv_at hl 4 rfl) ?_
      refine va_get (D := (dC, dI)) (ci := 1) (v := .int (nI B)) (C := RX1) (T := TX1) (N := 17) hx hb hts hin1 hown hK hP 0 rfl rfl 9 (by decide) L41 (fun _ h9 => h9) (congrArg (fun z => some (Value.int z)) kB) dX1_bury_58 ?_
      refine z_icmp_ge (a := k) (b := B) (tgt := 118) hx hb (by omega) (by omega) dX1_bury_61 (by decide) (fun (c_61 : B ≤ k) => ?_) (fun (c_61 : k < B) => ?_)
      · skip
        refine lv_aload_n hx hb dX1_bury_118 rfl (lv_at hl 4 rfl) ?_
        refine va_get (D := (dC, dI)) (ci := 1) (v := .ref (ad 3)) (C := RX1) (T := TX1) (N := 17) hx hb hts hin1 hown hK hP 0 rfl rfl 8 (by decide) L37 (fun _ h9 => h9) rfl dX1_bury_119 ?_
        refine lv_iload_n hx hb dX1_bury_122 rfl (lv_at hl 5 rfl) ?_
        refine lv_iconst (v := nI 0) hx hb dX1_bury_123 (by decide) ?_
        refine z_zast (D := (dC, dI)) hx hb hK hP hD hS 3 1 rfl rfl (Or.inl rfl) j (rfl) (by omega) (by omega) (f' := upd (buryR σ (takenF σ B j (heldF σ B (nI j))) (nI j) ((σ 4) j) k 3) j (nI 0)) (rfl) dX1_bury_124 (fun H locs hP hD hS => ?_)
        have hP : va_P (dC, dI) vwCl (mw cI cZ ad (up2 (buryR σ (takenF σ B j (heldF σ B (nI j))) (nI j) ((σ 4) j) k) 3 j (nI 0))) H := hP
        have hD : va_D A (mw cI cZ ad (up2 (buryR σ (takenF σ B j (heldF σ B (nI j))) (nI j) ((σ 4) j) k) 3 j (nI 0))) := hD
        refine lv_aload_n hx hb dX1_bury_125 rfl (lv_at hl 4 rfl) ?_
        refine lv_dup hx hb dX1_bury_126 rfl ?_
        refine va_get (D := (dC, dI)) (ci := 1) (v := .int (buryR σ (takenF σ B j (heldF σ B (nI j))) (nI j) ((σ 4) j) k 0 7)) (C := RX1) (T := TX1) (N := 17) hx hb hts hin1 hown hK hP 0 rfl rfl 16 (by decide) L62 (fun _ h9 => h9) rfl dX1_bury_127 ?_
        refine lv_iload_n hx hb dX1_bury_130 rfl (lv_at hl 2 rfl) ?_
        refine z_iadd (v := (buryR σ (takenF σ B j (heldF σ B (nI j))) (nI j) ((σ 4) j) k 0 7) + (lossF σ B j (heldF σ B (nI j)))) hx hb dX1_bury_131 (rfl) ?_
        refine va_put (D := (dC, dI)) (ci := 1) (v := .int ((buryR σ (takenF σ B j (heldF σ B (nI j))) (nI j) ((σ 4) j) k 0 7) + (lossF σ B j (heldF σ B (nI j))))) (ty := .int) (C := RX1) (T := TX1) (N := 17) hx hb hts hin1 tyX1 tyX1_ok nmX1 hown hK hP hD hS 0 rfl rfl 16 (by decide) L62 (fun _ h9 => h9) rfl (by decide +kernel) rfl rfl (Nat.le_of_ble_eq_true rfl) dX1_bury_132 (fun H locs hP hD hS => ?_)
        have hP : va_P (dC, dI) vwCl (mw cI cZ ad (up2 (up2 (buryR σ (takenF σ B j (heldF σ B (nI j))) (nI j) ((σ 4) j) k) 3 j (nI 0)) 0 7 ((buryR σ (takenF σ B j (heldF σ B (nI j))) (nI j) ((σ 4) j) k 0 7) + (lossF σ B j (heldF σ B (nI j)))))) H := hP
        have hD : va_D A (mw cI cZ ad (up2 (up2 (buryR σ (takenF σ B j (heldF σ B (nI j))) (nI j) ((σ 4) j) k) 3 j (nI 0)) 0 7 ((buryR σ (takenF σ B j (heldF σ B (nI j))) (nI j) ((σ 4) j) k 0 7) + (lossF σ B j (heldF σ B (nI j)))))) := hD
        refine lv_iload_n hx hb dX1_bury_135 rfl (lv_at hl 2 rfl) ?_
        exact hq (lossF σ B j (heldF σ B (nI j))) (up2 (up2 (buryR σ (takenF σ B j (heldF σ B (nI j))) (nI j) ((σ 4) j) k) 3 j (nI 0)) 0 7 ((buryR σ (takenF σ B j (heldF σ B (nI j))) (nI j) ((σ 4) j) k 0 7) + (lossF σ B j (heldF σ B (nI j))))) _ _ 136 ls dX1_bury_136 (show (lossF σ B j (heldF σ B (nI j))) = lossF σ B j (heldF σ B (nI j)) ∧ (up2 (up2 (buryR σ (takenF σ B j (heldF σ B (nI j))) (nI j) ((σ 4) j) k) 3 j (nI 0)) 0 7 ((buryR σ (takenF σ B j (heldF σ B (nI j))) (nI j) ((σ 4) j) k 0 7) + (lossF σ B j (heldF σ B (nI j))))) = buryS σ Hn B j from ⟨rfl, (by unfold buryS; rw [nextF_y c_37, show B = k by omega, buryR_num 0 (Or.inl (by decide)) k]; rfl)⟩) hP hD hS
      · skip
        refine lv_iload_n hx hb dX1_bury_64 rfl (lv_at hl 3 rfl) ?_
        refine lv_iload hx hb dX1_bury_65 (lv_at hl 0 rfl) ?_
        refine z_ishr (v := (takenF σ B j (heldF σ B (nI j))) >>> (nI k &&& 31)) hx hb dX1_bury_67 (rfl) ?_
        refine lv_iconst (v := nI 1) hx hb dX1_bury_68 (by decide) ?_
        refine z_iand (v := zin (takenF σ B j (heldF σ B (nI j))) k) hx hb dX1_bury_69 (rfl) ?_
        refine lv_iconst (v := nI 1) hx hb dX1_bury_70 (by decide) ?_
        refine lv_icmp_ne (tgt := 84) hx hb dX1_bury_71 (by decide) (fun (c_71 : ¬ (zin (takenF σ B j (heldF σ B (nI j))) k) = 1) => ?_) (fun (c_71 : (zin (takenF σ B j (heldF σ B (nI j))) k) = 1) => ?_)
        · skip
          refine lv_aload_n hx hb dX1_bury_84 rfl (lv_at hl 4 rfl) ?_
          refine lv_iload hx hb dX1_bury_85 (lv_at hl 0 rfl) ?_
          refine z_callV (As := [.int (nI k)]) (rest := []) ⟨hx, hb, hml, hown, hts⟩ (c_X1_hasBeast l dC dI cI cZ ad (buryR σ (takenF σ B j (heldF σ B (nI j))) (nI j) ((σ 4) j) k) Hn B L C V M hk2.1 (nI k)) (cwV 1 hts gX1_bury_X1_hasBeast rfl rfl rfl (by decide +kernel) ⟨Nat.le_of_ble_eq_true rfl, Nat.le_of_ble_eq_true rfl⟩) hP hK (va_recv hK hP (ci := 1) (q0 := 0) rfl rfl) rfl hl.1 rfl (Nat.le_of_ble_eq_true rfl) ⟨Nat.zero_le _, Nat.zero_le _⟩ dX1_bury_87 (fun r hr => ?_)
          obtain rfl : r = zb (hasP B (nI k)) := hr
          refine z_ifeq_b (P := hasP B (nI k)) (tgt := 112) hx hb dX1_bury_90 (by decide) (fun (z9 : ¬ (hasP B (nI k))) => absurd (hasP_nI c_61) z9) (fun (c_90 : hasP B (nI k)) => ?_)
          refine lv_aload_n hx hb dX1_bury_93 rfl (lv_at hl 4 rfl) ?_
          refine va_get (D := (dC, dI)) (ci := 1) (v := .ref (ad 6)) (C := RX1) (T := TX1) (N := 17) hx hb hts hin1 hown hK hP 0 rfl rfl 11 (by decide) L47 (fun _ h9 => h9) rfl dX1_bury_94 ?_
          refine lv_iload hx hb dX1_bury_97 (lv_at hl 0 rfl) ?_
          refine z_iald (D := (dC, dI)) hx hb hK hP 6 0 rfl rfl k (rfl) (by omega) (by omega) (v := σ 6 k) (buryR_own k k (Nat.le_refl _)) dX1_bury_99 ?_
          refine lv_iload_n hx hb dX1_bury_100 rfl (lv_at hl 5 rfl) ?_
          refine lv_icmp_ne (tgt := 112) hx hb dX1_bury_101 (by decide) (fun (c_101 : ¬ (σ 6 k) = (nI j)) => ?_) (fun (c_101 : (σ 6 k) = (nI j)) => ?_)
          · skip
            refine lv_iinc (v := nI (k + 1)) (lv' := [(5, .int (nI (k + 1))), (4, .int ((σ 4) j)), (3, .int (lossF σ B j (heldF σ B (nI j)))), (2, .int (takenF σ B j (heldF σ B (nI j)))), (0, .ref (ad 0)), (1, .int (nI j))]) hx hb dX1_bury_112 hl (k := 0) rfl (nI_1 _) (by decide) rfl (fun ls hl => ?_)
            refine lv_goto (tgt := 55) hx hb dX1_bury_115 (by decide) ?_
            rw [show buryR σ (takenF σ B j (heldF σ B (nI j))) (nI j) ((σ 4) j) k = buryR σ (takenF σ B j (heldF σ B (nI j))) (nI j) ((σ 4) j) (k + 1) from buryR_n c_71 c_101] at hP hD
            exact ih55 (k + 1) (nI (k + 1)) ls _ _ (by omega) (show nI (k + 1) = nI (k + 1) from rfl) hP hD hS (lv_sub hl [0, 1, 2, 3, 4, 5] rfl) (by omega)
          · skip
            refine lv_aload_n hx hb dX1_bury_104 rfl (lv_at hl 4 rfl) ?_
            refine lv_iload hx hb dX1_bury_105 (lv_at hl 0 rfl) ?_
            refine lv_iload hx hb dX1_bury_107 (lv_at hl 1 rfl) ?_
            refine z_callQv (As := [.int (nI k), .int ((σ 4) j)]) (rest := []) ⟨hx, hb, hml, hown, hts⟩ (c_X1_putTo l dC dI cI cZ ad (buryR σ (takenF σ B j (heldF σ B (nI j))) (nI j) ((σ 4) j) k) Hn B L C V M hk2.1 k (by omega) ((σ 4) j) _) (cwV 2 hts gX1_bury_X1_putTo rfl rfl rfl (by decide +kernel) ⟨Nat.le_of_ble_eq_true rfl, Nat.le_of_ble_eq_true rfl⟩) (fun _ _ _ _ q => q) (fun _ _ _ => trivial) hP hD hK hS hA [0, 1, 2, 3, 4, 5, 6, 7, 8, 9] [] rfl rfl rfl rfl (by decide) (va_recv hK hP (ci := 1) (q0 := 0) rfl rfl) rfl hl.1 rfl (Nat.le_of_ble_eq_true rfl) ⟨Nat.le_of_ble_eq_true rfl, Nat.le_of_ble_eq_true rfl⟩ dX1_bury_109 (fun u H locs hr hP hD hS => ?_)
            obtain rfl := hr
            have hP : va_P (dC, dI) vwCl (mw cI cZ ad (putS (buryR σ (takenF σ B j (heldF σ B (nI j))) (nI j) ((σ 4) j) k) k ((σ 4) j))) H := hP
            have hD : va_D A (mw cI cZ ad (putS (buryR σ (takenF σ B j (heldF σ B (nI j))) (nI j) ((σ 4) j) k) k ((σ 4) j))) := hD
            refine lv_iinc (v := nI (k + 1)) (lv' := [(5, .int (nI (k + 1))), (4, .int ((σ 4) j)), (3, .int (lossF σ B j (heldF σ B (nI j)))), (2, .int (takenF σ B j (heldF σ B (nI j)))), (0, .ref (ad 0)), (1, .int (nI j))]) hx hb dX1_bury_112 hl (k := 0) rfl (nI_1 _) (by decide) rfl (fun ls hl => ?_)
            refine lv_goto (tgt := 55) hx hb dX1_bury_115 (by decide) ?_
            rw [show putS (buryR σ (takenF σ B j (heldF σ B (nI j))) (nI j) ((σ 4) j) k) k ((σ 4) j) = buryR σ (takenF σ B j (heldF σ B (nI j))) (nI j) ((σ 4) j) (k + 1) from buryR_o c_71 c_101] at hP hD
            exact ih55 (k + 1) (nI (k + 1)) ls _ _ (by omega) (show nI (k + 1) = nI (k + 1) from rfl) hP hD hS (lv_sub hl [0, 1, 2, 3, 4, 5] rfl) (by omega)
        · skip
          refine lv_aload_n hx hb dX1_bury_74 rfl (lv_at hl 4 rfl) ?_
          refine lv_iload hx hb dX1_bury_75 (lv_at hl 0 rfl) ?_
          refine lv_iconst (v := (-1)) hx hb dX1_bury_77 (by decide) ?_
          refine z_callQv (As := [.int (nI k), .int (-1)]) (rest := []) ⟨hx, hb, hml, hown, hts⟩ (c_X1_putTo l dC dI cI cZ ad (buryR σ (takenF σ B j (heldF σ B (nI j))) (nI j) ((σ 4) j) k) Hn B L C V M hk2.1 k (by omega) (-1) _) (cwV 2 hts gX1_bury_X1_putTo rfl rfl rfl (by decide +kernel) ⟨Nat.le_of_ble_eq_true rfl, Nat.le_of_ble_eq_true rfl⟩) (fun _ _ _ _ q => q) (fun _ _ _ => trivial) hP hD hK hS hA [0, 1, 2, 3, 4, 5, 6, 7, 8, 9] [] rfl rfl rfl rfl (by decide) (va_recv hK hP (ci := 1) (q0 := 0) rfl rfl) rfl hl.1 rfl (Nat.le_of_ble_eq_true rfl) ⟨Nat.le_of_ble_eq_true rfl, Nat.le_of_ble_eq_true rfl⟩ dX1_bury_78 (fun u H locs hr hP hD hS => ?_)
          obtain rfl := hr
          have hP : va_P (dC, dI) vwCl (mw cI cZ ad (putS (buryR σ (takenF σ B j (heldF σ B (nI j))) (nI j) ((σ 4) j) k) k (-1))) H := hP
          have hD : va_D A (mw cI cZ ad (putS (buryR σ (takenF σ B j (heldF σ B (nI j))) (nI j) ((σ 4) j) k) k (-1))) := hD
          refine lv_goto (tgt := 112) hx hb dX1_bury_81 (by decide) ?_
          refine lv_iinc (v := nI (k + 1)) (lv' := [(5, .int (nI (k + 1))), (4, .int ((σ 4) j)), (3, .int (lossF σ B j (heldF σ B (nI j)))), (2, .int (takenF σ B j (heldF σ B (nI j)))), (0, .ref (ad 0)), (1, .int (nI j))]) hx hb dX1_bury_112 hl (k := 0) rfl (nI_1 _) (by decide) rfl (fun ls hl => ?_)
          refine lv_goto (tgt := 55) hx hb dX1_bury_115 (by decide) ?_
          rw [show putS (buryR σ (takenF σ B j (heldF σ B (nI j))) (nI j) ((σ 4) j) k) k (-1) = buryR σ (takenF σ B j (heldF σ B (nI j))) (nI j) ((σ 4) j) (k + 1) from buryR_t c_71] at hP hD
          exact ih55 (k + 1) (nI (k + 1)) ls _ _ (by omega) (show nI (k + 1) = nI (k + 1) from rfl) hP hD hS (lv_sub hl [0, 1, 2, 3, 4, 5] rfl) (by omega)
abbrev rm_c_X0_drawOf : Room := { frames := 0, cells := 0, slots := 0, locals := 0 }
set_option maxHeartbeats 4000000 in
set_option maxRecDepth 100000 in
theorem c_X0_drawOf (l : Launch) (dC : Nat → ClassId) (dI : Nat → Nat → Nat) (cI cZ : ClassId) (dd : Nat) (sd : Int32) (n : Nat) (hn1 : 1 ≤ n) (hn : n ≤ 10) (sz : Nat) : Met l yX0_drawOf wsX0_drawOf rm_c_X0_drawOf (va_Pc [.ref dd, .int (nI n)] (zPre (dC, dI) vwCl (tyIZ cI cZ) ([(dd, .inr (0, [.int sd]))]) sz (fun _ => True))) (va_Qi (fun (r : Int32) (u : Int32) => r = drawF (seedF sd) (nI n) ∧ u = seedF sd) (zPost (dC, dI) vwCl (tyIZ cI cZ) ([(dd, .inr (0, [.int sd]))]) sz (fun (u : Int32) => [(dd, .inr (0, [.int u]))])) (va_A ([(dd, .inr (0, [.int sd]))]) sz)) 0 0 (va_A ([(dd, .inr (0, [.int sd]))]) sz) := by
  refine z_impI (cc := cX0_drawOf) (maxL := 2) (av := [.ref dd, .int (nI n)]) (by decide) rfl (Nat.le_of_ble_eq_true rfl) ?_
  intro p e s m below meth c Q A ls hx hb hml hown hts hBs hP hK hD hS hA hAB hq hl
  have hown : s.vm.findClass RX0 = some m.cls := hown
  have hin0 : ∀ w ∈ wsX00, w ∈ wsX0_drawOf := fun _ h => List.mem_cons_of_mem _ (List.mem_append_right _ h)
  have L13 := hts (.constantLong RX0 13 (1103515245)) (List.mem_of_getElem? (i := 1) rfl)
  have L7 := hts (.fieldLink RX0 7 "BestBeast$Draws" "seed" "I") (List.mem_of_getElem? (i := 2) rfl)
  have L15 := hts (.constantLong RX0 15 (12345)) (List.mem_of_getElem? (i := 3) rfl)
  have L17 := hts (.constantLong RX0 17 (2147483647)) (List.mem_of_getElem? (i := 4) rfl)
  have L19 := hts (.constant RX0 19 (65536)) (List.mem_of_getElem? (i := 5) rfl)
  have hl : lv_has ls 2 [(0, .ref dd), (1, .int (nI n))] := hl
  refine lv_aload_n hx hb dX0_drawOf_0 rfl (lv_at hl 0 rfl) ?_
  refine lv_ldc2 hx hb hown L13 dX0_drawOf_1 ?_
  refine lv_aload_n hx hb dX0_drawOf_4 rfl (lv_at hl 0 rfl) ?_
  refine va_get (D := (dC, dI)) (ci := 0) (v := .int sd) (C := RX0) (T := TX0) (N := 1) hx hb hts hin0 hown hK hP 0 rfl rfl 0 (by decide) L7 (fun _ h9 => h9) rfl dX0_drawOf_5 ?_
  refine lv_i2l (v := sd.toInt64) hx hb dX0_drawOf_8 (rfl) ?_
  refine lv_lmul hx hb dX0_drawOf_9 ?_
  refine lv_ldc2 hx hb hown L15 dX0_drawOf_10 ?_
  refine lv_ladd hx hb dX0_drawOf_13 ?_
  refine lv_ldc2 hx hb hown L17 dX0_drawOf_14 ?_
  refine lv_land hx hb dX0_drawOf_17 ?_
  refine lv_l2i (v := seedF sd) hx hb dX0_drawOf_18 (rfl) ?_
  refine va_put (D := (dC, dI)) (ci := 0) (v := .int (seedF sd)) (ty := .int) (C := RX0) (T := TX0) (N := 1) hx hb hts hin0 tyX0 tyX0_ok nmX0 hown hK hP hD hS 0 rfl rfl 0 (by decide) L7 (fun _ h9 => h9) rfl (by decide +kernel) rfl rfl (Nat.le_of_ble_eq_true rfl) dX0_drawOf_19 (fun H locs hP hD hS => ?_)
  have hP : va_P (dC, dI) vwCl ([(dd, .inr (0, [.int (seedF sd)]))]) H := hP
  have hD : va_D A ([(dd, .inr (0, [.int (seedF sd)]))]) := hD
  refine lv_iload_n hx hb dX0_drawOf_22 rfl (lv_at hl 1 rfl) ?_
  refine lv_if_le (tgt := 38) hx hb dX0_drawOf_23 (by decide) (fun (z9 : (nI n) ≤ 0) => absurd z9 (nI_nle (by omega) (by omega))) (fun (c_23 : ¬ ((nI n) ≤ 0)) => ?_)
  refine lv_aload_n hx hb dX0_drawOf_26 rfl (lv_at hl 0 rfl) ?_
  refine va_get (D := (dC, dI)) (ci := 0) (v := .int (seedF sd)) (C := RX0) (T := TX0) (N := 1) hx hb hts hin0 hown hK hP 0 rfl rfl 0 (by decide) L7 (fun _ h9 => h9) rfl dX0_drawOf_27 ?_
  refine lv_ldc hx hb hown L19 dX0_drawOf_30 ?_
  refine z_idiv (v := seedF sd / 65536) hx hb dX0_drawOf_32 (by decide) (rfl) ?_
  refine lv_iload_n hx hb dX0_drawOf_33 rfl (lv_at hl 1 rfl) ?_
  refine z_irem (v := drawF (seedF sd) (nI n)) hx hb dX0_drawOf_34 (nI_ne0 (by omega) (by omega)) (rfl) ?_
  refine lv_goto (tgt := 39) hx hb dX0_drawOf_35 (by decide) ?_
  exact hq (drawF (seedF sd) (nI n)) (seedF sd) _ _ 39 ls dX0_drawOf_39 (show (drawF (seedF sd) (nI n)) = drawF (seedF sd) (nI n) ∧ (seedF sd) = seedF sd from ⟨rfl, rfl⟩) hP hD hS
abbrev rm_c_X1_copyFrom : Room := { frames := 1, cells := 0, slots := 0, locals := 18 }
set_option maxHeartbeats 4000000 in
set_option maxRecDepth 100000 in
theorem c_X1_copyFrom (l : Launch) (dC : Nat → ClassId) (dI : Nat → Nat → Nat) (cI cZ : ClassId) (ad bd : Nat → Nat) (σ τ : St) (hAl : ∀ j, j < 4 → τ 3 j = 0 ∨ τ 3 j = 1) (sz : Nat) : Met l yX1_copyFrom wsX1_copyFrom rm_c_X1_copyFrom (va_Pc [.ref (ad 0), .ref (bd 0)] (zPre (dC, dI) vwCl (tyIZ cI cZ) (mw cI cZ ad σ ++ mw cI cZ bd τ) sz (fun _ => True))) (va_Qv (fun (u : Unit) => u = ()) (zPost (dC, dI) vwCl (tyIZ cI cZ) (mw cI cZ ad σ ++ mw cI cZ bd τ) sz (fun (u : Unit) => mw cI cZ ad τ ++ mw cI cZ bd τ)) (va_A (mw cI cZ ad σ ++ mw cI cZ bd τ) sz)) 0 0 (va_A (mw cI cZ ad σ ++ mw cI cZ bd τ) sz) := by
  refine z_impV (cc := cX1_copyFrom) (maxL := 2) (av := [.ref (ad 0), .ref (bd 0)]) (by decide) rfl (Nat.le_of_ble_eq_true rfl) ?_
  intro p e s m below meth c Q A ls hx hb hml hown hname hts hBs hP hK hD hS hA hAB hq hl
  have hown : s.vm.findClass RX1 = some m.cls := hown
  have hin1 : ∀ w ∈ wsX10, w ∈ wsX1_copyFrom := fun _ h => List.mem_cons_of_mem _ (List.mem_append_right _ h)
  have L9 := hts (.fieldLink RX1 9 "BestBeast$Manor" "lord" "I") (List.mem_of_getElem? (i := 1) rfl)
  have L15 := hts (.fieldLink RX1 15 "BestBeast$Manor" "church" "I") (List.mem_of_getElem? (i := 2) rfl)
  have L18 := hts (.fieldLink RX1 18 "BestBeast$Manor" "voidYears" "I") (List.mem_of_getElem? (i := 3) rfl)
  have L21 := hts (.fieldLink RX1 21 "BestBeast$Manor" "least" "I") (List.mem_of_getElem? (i := 4) rfl)
  have L24 := hts (.fieldLink RX1 24 "BestBeast$Manor" "holders" "I") (List.mem_of_getElem? (i := 5) rfl)
  have L41 := hts (.fieldLink RX1 41 "BestBeast$Manor" "beasts" "I") (List.mem_of_getElem? (i := 6) rfl)
  have L59 := hts (.fieldLink RX1 59 "BestBeast$Manor" "yearNow" "I") (List.mem_of_getElem? (i := 7) rfl)
  have L62 := hts (.fieldLink RX1 62 "BestBeast$Manor" "takenWorth" "I") (List.mem_of_getElem? (i := 8) rfl)
  have L27 := hts (.fieldLink RX1 27 "BestBeast$Manor" "kind" "[I") (List.mem_of_getElem? (i := 9) rfl)
  have L31 := hts (.fieldLink RX1 31 "BestBeast$Manor" "death" "[I") (List.mem_of_getElem? (i := 14) rfl)
  have L34 := hts (.fieldLink RX1 34 "BestBeast$Manor" "heirOf" "[I") (List.mem_of_getElem? (i := 15) rfl)
  have L37 := hts (.fieldLink RX1 37 "BestBeast$Manor" "alive" "[Z") (List.mem_of_getElem? (i := 16) rfl)
  have L44 := hts (.fieldLink RX1 44 "BestBeast$Manor" "worth" "[I") (List.mem_of_getElem? (i := 17) rfl)
  have L47 := hts (.fieldLink RX1 47 "BestBeast$Manor" "owner" "[I") (List.mem_of_getElem? (i := 18) rfl)
  have L50 := hts (.fieldLink RX1 50 "BestBeast$Manor" "giver" "[I") (List.mem_of_getElem? (i := 19) rfl)
  have L53 := hts (.fieldLink RX1 53 "BestBeast$Manor" "givenIn" "[I") (List.mem_of_getElem? (i := 20) rfl)
  have L56 := hts (.fieldLink RX1 56 "BestBeast$Manor" "told" "[I") (List.mem_of_getElem? (i := 21) rfl)
  have hl : lv_has ls 2 [(0, .ref (ad 0)), (1, .ref (bd 0))] := hl
  refine lv_aload_n hx hb dX1_copyFrom_0 rfl (lv_at hl 1 rfl) ?_
  refine lv_ifnonnull (tgt := 5) hx hb dX1_copyFrom_1 (by decide) ?_
  refine lv_aload_n hx hb dX1_copyFrom_5 rfl (lv_at hl 0 rfl) ?_
  refine lv_aload_n hx hb dX1_copyFrom_6 rfl (lv_at hl 1 rfl) ?_
  refine va_get (D := (dC, dI)) (ci := 1) (v := .int (τ 0 0)) (C := RX1) (T := TX1) (N := 17) hx hb hts hin1 hown hK hP 10 rfl rfl 0 (by decide) L9 (fun _ h9 => h9) rfl dX1_copyFrom_7 ?_
  refine va_put (D := (dC, dI)) (ci := 1) (v := .int (τ 0 0)) (ty := .int) (C := RX1) (T := TX1) (N := 17) hx hb hts hin1 tyX1 tyX1_ok nmX1 hown hK hP hD hS 0 rfl rfl 0 (by decide) L9 (fun _ h9 => h9) rfl (by decide +kernel) rfl rfl (Nat.le_of_ble_eq_true rfl) dX1_copyFrom_10 (fun H locs hP hD hS => ?_)
  have hP : va_P (dC, dI) vwCl (mw cI cZ ad (up2 σ 0 0 (τ 0 0)) ++ mw cI cZ bd τ) H := hP
  have hD : va_D A (mw cI cZ ad (up2 σ 0 0 (τ 0 0)) ++ mw cI cZ bd τ) := hD
  refine lv_aload_n hx hb dX1_copyFrom_13 rfl (lv_at hl 0 rfl) ?_
  refine lv_aload_n hx hb dX1_copyFrom_14 rfl (lv_at hl 1 rfl) ?_
  refine va_get (D := (dC, dI)) (ci := 1) (v := .int (τ 0 1)) (C := RX1) (T := TX1) (N := 17) hx hb hts hin1 hown hK hP 10 rfl rfl 1 (by decide) L15 (fun _ h9 => h9) rfl dX1_copyFrom_15 ?_
  refine va_put (D := (dC, dI)) (ci := 1) (v := .int (τ 0 1)) (ty := .int) (C := RX1) (T := TX1) (N := 17) hx hb hts hin1 tyX1 tyX1_ok nmX1 hown hK hP hD hS 0 rfl rfl 1 (by decide) L15 (fun _ h9 => h9) rfl (by decide +kernel) rfl rfl (Nat.le_of_ble_eq_true rfl) dX1_copyFrom_18 (fun H locs hP hD hS => ?_)
  have hP : va_P (dC, dI) vwCl (mw cI cZ ad (up2 (up2 σ 0 0 (τ 0 0)) 0 1 (τ 0 1)) ++ mw cI cZ bd τ) H := hP
  have hD : va_D A (mw cI cZ ad (up2 (up2 σ 0 0 (τ 0 0)) 0 1 (τ 0 1)) ++ mw cI cZ bd τ) := hD
  refine lv_aload_n hx hb dX1_copyFrom_21 rfl (lv_at hl 0 rfl) ?_
  refine lv_aload_n hx hb dX1_copyFrom_22 rfl (lv_at hl 1 rfl) ?_
  refine va_get (D := (dC, dI)) (ci := 1) (v := .int (τ 0 2)) (C := RX1) (T := TX1) (N := 17) hx hb hts hin1 hown hK hP 10 rfl rfl 2 (by decide) L18 (fun _ h9 => h9) rfl dX1_copyFrom_23 ?_
  refine va_put (D := (dC, dI)) (ci := 1) (v := .int (τ 0 2)) (ty := .int) (C := RX1) (T := TX1) (N := 17) hx hb hts hin1 tyX1 tyX1_ok nmX1 hown hK hP hD hS 0 rfl rfl 2 (by decide) L18 (fun _ h9 => h9) rfl (by decide +kernel) rfl rfl (Nat.le_of_ble_eq_true rfl) dX1_copyFrom_26 (fun H locs hP hD hS => ?_)
  have hP : va_P (dC, dI) vwCl (mw cI cZ ad (up2 (up2 (up2 σ 0 0 (τ 0 0)) 0 1 (τ 0 1)) 0 2 (τ 0 2)) ++ mw cI cZ bd τ) H := hP
  have hD : va_D A (mw cI cZ ad (up2 (up2 (up2 σ 0 0 (τ 0 0)) 0 1 (τ 0 1)) 0 2 (τ 0 2)) ++ mw cI cZ bd τ) := hD
  refine lv_aload_n hx hb dX1_copyFrom_29 rfl (lv_at hl 0 rfl) ?_
  refine lv_aload_n hx hb dX1_copyFrom_30 rfl (lv_at hl 1 rfl) ?_
  refine va_get (D := (dC, dI)) (ci := 1) (v := .int (τ 0 3)) (C := RX1) (T := TX1) (N := 17) hx hb hts hin1 hown hK hP 10 rfl rfl 3 (by decide) L21 (fun _ h9 => h9) rfl dX1_copyFrom_31 ?_
  refine va_put (D := (dC, dI)) (ci := 1) (v := .int (τ 0 3)) (ty := .int) (C := RX1) (T := TX1) (N := 17) hx hb hts hin1 tyX1 tyX1_ok nmX1 hown hK hP hD hS 0 rfl rfl 3 (by decide) L21 (fun _ h9 => h9) rfl (by decide +kernel) rfl rfl (Nat.le_of_ble_eq_true rfl) dX1_copyFrom_34 (fun H locs hP hD hS => ?_)
  have hP : va_P (dC, dI) vwCl (mw cI cZ ad (up2 (up2 (up2 (up2 σ 0 0 (τ 0 0)) 0 1 (τ 0 1)) 0 2 (τ 0 2)) 0 3 (τ 0 3)) ++ mw cI cZ bd τ) H := hP
  have hD : va_D A (mw cI cZ ad (up2 (up2 (up2 (up2 σ 0 0 (τ 0 0)) 0 1 (τ 0 1)) 0 2 (τ 0 2)) 0 3 (τ 0 3)) ++ mw cI cZ bd τ) := hD
  refine lv_aload_n hx hb dX1_copyFrom_37 rfl (lv_at hl 0 rfl) ?_
  refine lv_aload_n hx hb dX1_copyFrom_38 rfl (lv_at hl 1 rfl) ?_
  refine va_get (D := (dC, dI)) (ci := 1) (v := .int (τ 0 4)) (C := RX1) (T := TX1) (N := 17) hx hb hts hin1 hown hK hP 10 rfl rfl 4 (by decide) L24 (fun _ h9 => h9) rfl dX1_copyFrom_39 ?_
  refine va_put (D := (dC, dI)) (ci := 1) (v := .int (τ 0 4)) (ty := .int) (C := RX1) (T := TX1) (N := 17) hx hb hts hin1 tyX1 tyX1_ok nmX1 hown hK hP hD hS 0 rfl rfl 4 (by decide) L24 (fun _ h9 => h9) rfl (by decide +kernel) rfl rfl (Nat.le_of_ble_eq_true rfl) dX1_copyFrom_42 (fun H locs hP hD hS => ?_)
  have hP : va_P (dC, dI) vwCl (mw cI cZ ad (up2 (up2 (up2 (up2 (up2 σ 0 0 (τ 0 0)) 0 1 (τ 0 1)) 0 2 (τ 0 2)) 0 3 (τ 0 3)) 0 4 (τ 0 4)) ++ mw cI cZ bd τ) H := hP
  have hD : va_D A (mw cI cZ ad (up2 (up2 (up2 (up2 (up2 σ 0 0 (τ 0 0)) 0 1 (τ 0 1)) 0 2 (τ 0 2)) 0 3 (τ 0 3)) 0 4 (τ 0 4)) ++ mw cI cZ bd τ) := hD
  refine lv_aload_n hx hb dX1_copyFrom_45 rfl (lv_at hl 0 rfl) ?_
  refine lv_aload_n hx hb dX1_copyFrom_46 rfl (lv_at hl 1 rfl) ?_
  refine va_get (D := (dC, dI)) (ci := 1) (v := .int (τ 0 5)) (C := RX1) (T := TX1) (N := 17) hx hb hts hin1 hown hK hP 10 rfl rfl 9 (by decide) L41 (fun _ h9 => h9) rfl dX1_copyFrom_47 ?_
  refine va_put (D := (dC, dI)) (ci := 1) (v := .int (τ 0 5)) (ty := .int) (C := RX1) (T := TX1) (N := 17) hx hb hts hin1 tyX1 tyX1_ok nmX1 hown hK hP hD hS 0 rfl rfl 9 (by decide) L41 (fun _ h9 => h9) rfl (by decide +kernel) rfl rfl (Nat.le_of_ble_eq_true rfl) dX1_copyFrom_50 (fun H locs hP hD hS => ?_)
  have hP : va_P (dC, dI) vwCl (mw cI cZ ad (up2 (up2 (up2 (up2 (up2 (up2 σ 0 0 (τ 0 0)) 0 1 (τ 0 1)) 0 2 (τ 0 2)) 0 3 (τ 0 3)) 0 4 (τ 0 4)) 0 5 (τ 0 5)) ++ mw cI cZ bd τ) H := hP
  have hD : va_D A (mw cI cZ ad (up2 (up2 (up2 (up2 (up2 (up2 σ 0 0 (τ 0 0)) 0 1 (τ 0 1)) 0 2 (τ 0 2)) 0 3 (τ 0 3)) 0 4 (τ 0 4)) 0 5 (τ 0 5)) ++ mw cI cZ bd τ) := hD
  refine lv_aload_n hx hb dX1_copyFrom_53 rfl (lv_at hl 0 rfl) ?_
  refine lv_aload_n hx hb dX1_copyFrom_54 rfl (lv_at hl 1 rfl) ?_
  refine va_get (D := (dC, dI)) (ci := 1) (v := .int (τ 0 6)) (C := RX1) (T := TX1) (N := 17) hx hb hts hin1 hown hK hP 10 rfl rfl 15 (by decide) L59 (fun _ h9 => h9) rfl dX1_copyFrom_55 ?_
  refine va_put (D := (dC, dI)) (ci := 1) (v := .int (τ 0 6)) (ty := .int) (C := RX1) (T := TX1) (N := 17) hx hb hts hin1 tyX1 tyX1_ok nmX1 hown hK hP hD hS 0 rfl rfl 15 (by decide) L59 (fun _ h9 => h9) rfl (by decide +kernel) rfl rfl (Nat.le_of_ble_eq_true rfl) dX1_copyFrom_58 (fun H locs hP hD hS => ?_)
  have hP : va_P (dC, dI) vwCl (mw cI cZ ad (up2 (up2 (up2 (up2 (up2 (up2 (up2 σ 0 0 (τ 0 0)) 0 1 (τ 0 1)) 0 2 (τ 0 2)) 0 3 (τ 0 3)) 0 4 (τ 0 4)) 0 5 (τ 0 5)) 0 6 (τ 0 6)) ++ mw cI cZ bd τ) H := hP
  have hD : va_D A (mw cI cZ ad (up2 (up2 (up2 (up2 (up2 (up2 (up2 σ 0 0 (τ 0 0)) 0 1 (τ 0 1)) 0 2 (τ 0 2)) 0 3 (τ 0 3)) 0 4 (τ 0 4)) 0 5 (τ 0 5)) 0 6 (τ 0 6)) ++ mw cI cZ bd τ) := hD
  refine lv_aload_n hx hb dX1_copyFrom_61 rfl (lv_at hl 0 rfl) ?_
  refine lv_aload_n hx hb dX1_copyFrom_62 rfl (lv_at hl 1 rfl) ?_
  refine va_get (D := (dC, dI)) (ci := 1) (v := .int (τ 0 7)) (C := RX1) (T := TX1) (N := 17) hx hb hts hin1 hown hK hP 10 rfl rfl 16 (by decide) L62 (fun _ h9 => h9) rfl dX1_copyFrom_63 ?_
  refine va_put (D := (dC, dI)) (ci := 1) (v := .int (τ 0 7)) (ty := .int) (C := RX1) (T := TX1) (N := 17) hx hb hts hin1 tyX1 tyX1_ok nmX1 hown hK hP hD hS 0 rfl rfl 16 (by decide) L62 (fun _ h9 => h9) rfl (by decide +kernel) rfl rfl (Nat.le_of_ble_eq_true rfl) dX1_copyFrom_66 (fun H locs hP hD hS => ?_)
  have hP : va_P (dC, dI) vwCl (mw cI cZ ad (up2 (up2 (up2 (up2 (up2 (up2 (up2 (up2 σ 0 0 (τ 0 0)) 0 1 (τ 0 1)) 0 2 (τ 0 2)) 0 3 (τ 0 3)) 0 4 (τ 0 4)) 0 5 (τ 0 5)) 0 6 (τ 0 6)) 0 7 (τ 0 7)) ++ mw cI cZ bd τ) H := hP
  have hD : va_D A (mw cI cZ ad (up2 (up2 (up2 (up2 (up2 (up2 (up2 (up2 σ 0 0 (τ 0 0)) 0 1 (τ 0 1)) 0 2 (τ 0 2)) 0 3 (τ 0 3)) 0 4 (τ 0 4)) 0 5 (τ 0 5)) 0 6 (τ 0 6)) 0 7 (τ 0 7)) ++ mw cI cZ bd τ) := hD
  refine lv_aload_n hx hb dX1_copyFrom_69 rfl (lv_at hl 1 rfl) ?_
  refine va_get (D := (dC, dI)) (ci := 1) (v := .ref (bd 1)) (C := RX1) (T := TX1) (N := 17) hx hb hts hin1 hown hK hP 10 rfl rfl 5 (by decide) L27 (fun _ h9 => h9) rfl dX1_copyFrom_70 ?_
  refine lv_iconst (v := nI 0) hx hb dX1_copyFrom_73 (by decide) ?_
  refine lv_aload_n hx hb dX1_copyFrom_74 rfl (lv_at hl 0 rfl) ?_
  refine va_get (D := (dC, dI)) (ci := 1) (v := .ref (ad 1)) (C := RX1) (T := TX1) (N := 17) hx hb hts hin1 hown hK hP 0 rfl rfl 5 (by decide) L27 (fun _ h9 => h9) rfl dX1_copyFrom_75 ?_
  refine lv_iconst (v := nI 0) hx hb dX1_copyFrom_78 (by decide) ?_
  refine lv_iconst (v := nI 4) hx hb dX1_copyFrom_79 (by decide) ?_
  refine z_copy hx hb (by rw [hml]; exact hl.1.symm) hown (hts (.methodLink RX1 65 arraycopyName) (List.mem_of_getElem? (i := 10) rfl)) (hts (.native arraycopyName) (List.mem_of_getElem? (i := 11) rfl)) (hts (.static arraycopyName) (List.mem_of_getElem? (i := 12) rfl)) (hts (.initialized "java/lang/System") (List.mem_of_getElem? (i := 13) rfl)) hK hP hD hS 11 1 0 0 rfl rfl rfl rfl rfl (by decide) (fun _ _ => rfl) (Nat.le_of_ble_eq_true rfl) (Nat.le_of_ble_eq_true rfl) dX1_copyFrom_80 (fun H locs hP hD hS => ?_)
  have hP : va_P (dC, dI) vwCl (mw cI cZ ad (upR (up2 (up2 (up2 (up2 (up2 (up2 (up2 (up2 σ 0 0 (τ 0 0)) 0 1 (τ 0 1)) 0 2 (τ 0 2)) 0 3 (τ 0 3)) 0 4 (τ 0 4)) 0 5 (τ 0 5)) 0 6 (τ 0 6)) 0 7 (τ 0 7)) 1 (τ 1)) ++ mw cI cZ bd τ) H := hP
  have hD : va_D A (mw cI cZ ad (upR (up2 (up2 (up2 (up2 (up2 (up2 (up2 (up2 σ 0 0 (τ 0 0)) 0 1 (τ 0 1)) 0 2 (τ 0 2)) 0 3 (τ 0 3)) 0 4 (τ 0 4)) 0 5 (τ 0 5)) 0 6 (τ 0 6)) 0 7 (τ 0 7)) 1 (τ 1)) ++ mw cI cZ bd τ) := hD
  refine lv_aload_n hx hb dX1_copyFrom_83 rfl (lv_at hl 1 rfl) ?_
  refine va_get (D := (dC, dI)) (ci := 1) (v := .ref (bd 2)) (C := RX1) (T := TX1) (N := 17) hx hb hts hin1 hown hK hP 10 rfl rfl 6 (by decide) L31 (fun _ h9 => h9) rfl dX1_copyFrom_84 ?_
  refine lv_iconst (v := nI 0) hx hb dX1_copyFrom_87 (by decide) ?_
  refine lv_aload_n hx hb dX1_copyFrom_88 rfl (lv_at hl 0 rfl) ?_
  refine va_get (D := (dC, dI)) (ci := 1) (v := .ref (ad 2)) (C := RX1) (T := TX1) (N := 17) hx hb hts hin1 hown hK hP 0 rfl rfl 6 (by decide) L31 (fun _ h9 => h9) rfl dX1_copyFrom_89 ?_
  refine lv_iconst (v := nI 0) hx hb dX1_copyFrom_92 (by decide) ?_
  refine lv_iconst (v := nI 4) hx hb dX1_copyFrom_93 (by decide) ?_
  refine z_copy hx hb (by rw [hml]; exact hl.1.symm) hown (hts (.methodLink RX1 65 arraycopyName) (List.mem_of_getElem? (i := 10) rfl)) (hts (.native arraycopyName) (List.mem_of_getElem? (i := 11) rfl)) (hts (.static arraycopyName) (List.mem_of_getElem? (i := 12) rfl)) (hts (.initialized "java/lang/System") (List.mem_of_getElem? (i := 13) rfl)) hK hP hD hS 12 2 0 0 rfl rfl rfl rfl rfl (by decide) (fun _ _ => rfl) (Nat.le_of_ble_eq_true rfl) (Nat.le_of_ble_eq_true rfl) dX1_copyFrom_94 (fun H locs hP hD hS => ?_)
  have hP : va_P (dC, dI) vwCl (mw cI cZ ad (upR (upR (up2 (up2 (up2 (up2 (up2 (up2 (up2 (up2 σ 0 0 (τ 0 0)) 0 1 (τ 0 1)) 0 2 (τ 0 2)) 0 3 (τ 0 3)) 0 4 (τ 0 4)) 0 5 (τ 0 5)) 0 6 (τ 0 6)) 0 7 (τ 0 7)) 1 (τ 1)) 2 (τ 2)) ++ mw cI cZ bd τ) H := hP
  have hD : va_D A (mw cI cZ ad (upR (upR (up2 (up2 (up2 (up2 (up2 (up2 (up2 (up2 σ 0 0 (τ 0 0)) 0 1 (τ 0 1)) 0 2 (τ 0 2)) 0 3 (τ 0 3)) 0 4 (τ 0 4)) 0 5 (τ 0 5)) 0 6 (τ 0 6)) 0 7 (τ 0 7)) 1 (τ 1)) 2 (τ 2)) ++ mw cI cZ bd τ) := hD
  refine lv_aload_n hx hb dX1_copyFrom_97 rfl (lv_at hl 1 rfl) ?_
  refine va_get (D := (dC, dI)) (ci := 1) (v := .ref (bd 4)) (C := RX1) (T := TX1) (N := 17) hx hb hts hin1 hown hK hP 10 rfl rfl 7 (by decide) L34 (fun _ h9 => h9) rfl dX1_copyFrom_98 ?_
  refine lv_iconst (v := nI 0) hx hb dX1_copyFrom_101 (by decide) ?_
  refine lv_aload_n hx hb dX1_copyFrom_102 rfl (lv_at hl 0 rfl) ?_
  refine va_get (D := (dC, dI)) (ci := 1) (v := .ref (ad 4)) (C := RX1) (T := TX1) (N := 17) hx hb hts hin1 hown hK hP 0 rfl rfl 7 (by decide) L34 (fun _ h9 => h9) rfl dX1_copyFrom_103 ?_
  refine lv_iconst (v := nI 0) hx hb dX1_copyFrom_106 (by decide) ?_
  refine lv_iconst (v := nI 4) hx hb dX1_copyFrom_107 (by decide) ?_
  refine z_copy hx hb (by rw [hml]; exact hl.1.symm) hown (hts (.methodLink RX1 65 arraycopyName) (List.mem_of_getElem? (i := 10) rfl)) (hts (.native arraycopyName) (List.mem_of_getElem? (i := 11) rfl)) (hts (.static arraycopyName) (List.mem_of_getElem? (i := 12) rfl)) (hts (.initialized "java/lang/System") (List.mem_of_getElem? (i := 13) rfl)) hK hP hD hS 14 4 0 0 rfl rfl rfl rfl rfl (by decide) (fun _ _ => rfl) (Nat.le_of_ble_eq_true rfl) (Nat.le_of_ble_eq_true rfl) dX1_copyFrom_108 (fun H locs hP hD hS => ?_)
  have hP : va_P (dC, dI) vwCl (mw cI cZ ad (upR (upR (upR (up2 (up2 (up2 (up2 (up2 (up2 (up2 (up2 σ 0 0 (τ 0 0)) 0 1 (τ 0 1)) 0 2 (τ 0 2)) 0 3 (τ 0 3)) 0 4 (τ 0 4)) 0 5 (τ 0 5)) 0 6 (τ 0 6)) 0 7 (τ 0 7)) 1 (τ 1)) 2 (τ 2)) 4 (τ 4)) ++ mw cI cZ bd τ) H := hP
  have hD : va_D A (mw cI cZ ad (upR (upR (upR (up2 (up2 (up2 (up2 (up2 (up2 (up2 (up2 σ 0 0 (τ 0 0)) 0 1 (τ 0 1)) 0 2 (τ 0 2)) 0 3 (τ 0 3)) 0 4 (τ 0 4)) 0 5 (τ 0 5)) 0 6 (τ 0 6)) 0 7 (τ 0 7)) 1 (τ 1)) 2 (τ 2)) 4 (τ 4)) ++ mw cI cZ bd τ) := hD
  refine lv_aload_n hx hb dX1_copyFrom_111 rfl (lv_at hl 1 rfl) ?_
  refine va_get (D := (dC, dI)) (ci := 1) (v := .ref (bd 3)) (C := RX1) (T := TX1) (N := 17) hx hb hts hin1 hown hK hP 10 rfl rfl 8 (by decide) L37 (fun _ h9 => h9) rfl dX1_copyFrom_112 ?_
  refine lv_iconst (v := nI 0) hx hb dX1_copyFrom_115 (by decide) ?_
  refine lv_aload_n hx hb dX1_copyFrom_116 rfl (lv_at hl 0 rfl) ?_
  refine va_get (D := (dC, dI)) (ci := 1) (v := .ref (ad 3)) (C := RX1) (T := TX1) (N := 17) hx hb hts hin1 hown hK hP 0 rfl rfl 8 (by decide) L37 (fun _ h9 => h9) rfl dX1_copyFrom_117 ?_
  refine lv_iconst (v := nI 0) hx hb dX1_copyFrom_120 (by decide) ?_
  refine lv_iconst (v := nI 4) hx hb dX1_copyFrom_121 (by decide) ?_
  refine z_copy hx hb (by rw [hml]; exact hl.1.symm) hown (hts (.methodLink RX1 65 arraycopyName) (List.mem_of_getElem? (i := 10) rfl)) (hts (.native arraycopyName) (List.mem_of_getElem? (i := 11) rfl)) (hts (.static arraycopyName) (List.mem_of_getElem? (i := 12) rfl)) (hts (.initialized "java/lang/System") (List.mem_of_getElem? (i := 13) rfl)) hK hP hD hS 13 3 1 1 rfl rfl rfl rfl rfl (by decide) (fun i hi => fit_b (hAl i hi)) (Nat.le_of_ble_eq_true rfl) (Nat.le_of_ble_eq_true rfl) dX1_copyFrom_122 (fun H locs hP hD hS => ?_)
  have hP : va_P (dC, dI) vwCl (mw cI cZ ad (upR (upR (upR (upR (up2 (up2 (up2 (up2 (up2 (up2 (up2 (up2 σ 0 0 (τ 0 0)) 0 1 (τ 0 1)) 0 2 (τ 0 2)) 0 3 (τ 0 3)) 0 4 (τ 0 4)) 0 5 (τ 0 5)) 0 6 (τ 0 6)) 0 7 (τ 0 7)) 1 (τ 1)) 2 (τ 2)) 4 (τ 4)) 3 (τ 3)) ++ mw cI cZ bd τ) H := hP
  have hD : va_D A (mw cI cZ ad (upR (upR (upR (upR (up2 (up2 (up2 (up2 (up2 (up2 (up2 (up2 σ 0 0 (τ 0 0)) 0 1 (τ 0 1)) 0 2 (τ 0 2)) 0 3 (τ 0 3)) 0 4 (τ 0 4)) 0 5 (τ 0 5)) 0 6 (τ 0 6)) 0 7 (τ 0 7)) 1 (τ 1)) 2 (τ 2)) 4 (τ 4)) 3 (τ 3)) ++ mw cI cZ bd τ) := hD
  refine lv_aload_n hx hb dX1_copyFrom_125 rfl (lv_at hl 1 rfl) ?_
  refine va_get (D := (dC, dI)) (ci := 1) (v := .ref (bd 5)) (C := RX1) (T := TX1) (N := 17) hx hb hts hin1 hown hK hP 10 rfl rfl 10 (by decide) L44 (fun _ h9 => h9) rfl dX1_copyFrom_126 ?_
  refine lv_iconst (v := nI 0) hx hb dX1_copyFrom_129 (by decide) ?_
  refine lv_aload_n hx hb dX1_copyFrom_130 rfl (lv_at hl 0 rfl) ?_
  refine va_get (D := (dC, dI)) (ci := 1) (v := .ref (ad 5)) (C := RX1) (T := TX1) (N := 17) hx hb hts hin1 hown hK hP 0 rfl rfl 10 (by decide) L44 (fun _ h9 => h9) rfl dX1_copyFrom_131 ?_
  refine lv_iconst (v := nI 0) hx hb dX1_copyFrom_134 (by decide) ?_
  refine lv_bipush (v := nI 6) hx hb dX1_copyFrom_135 (by decide) ?_
  refine z_copy hx hb (by rw [hml]; exact hl.1.symm) hown (hts (.methodLink RX1 65 arraycopyName) (List.mem_of_getElem? (i := 10) rfl)) (hts (.native arraycopyName) (List.mem_of_getElem? (i := 11) rfl)) (hts (.static arraycopyName) (List.mem_of_getElem? (i := 12) rfl)) (hts (.initialized "java/lang/System") (List.mem_of_getElem? (i := 13) rfl)) hK hP hD hS 15 5 0 0 rfl rfl rfl rfl rfl (by decide) (fun _ _ => rfl) (Nat.le_of_ble_eq_true rfl) (Nat.le_of_ble_eq_true rfl) dX1_copyFrom_137 (fun H locs hP hD hS => ?_)
  have hP : va_P (dC, dI) vwCl (mw cI cZ ad (upR (upR (upR (upR (upR (up2 (up2 (up2 (up2 (up2 (up2 (up2 (up2 σ 0 0 (τ 0 0)) 0 1 (τ 0 1)) 0 2 (τ 0 2)) 0 3 (τ 0 3)) 0 4 (τ 0 4)) 0 5 (τ 0 5)) 0 6 (τ 0 6)) 0 7 (τ 0 7)) 1 (τ 1)) 2 (τ 2)) 4 (τ 4)) 3 (τ 3)) 5 (τ 5)) ++ mw cI cZ bd τ) H := hP
  have hD : va_D A (mw cI cZ ad (upR (upR (upR (upR (upR (up2 (up2 (up2 (up2 (up2 (up2 (up2 (up2 σ 0 0 (τ 0 0)) 0 1 (τ 0 1)) 0 2 (τ 0 2)) 0 3 (τ 0 3)) 0 4 (τ 0 4)) 0 5 (τ 0 5)) 0 6 (τ 0 6)) 0 7 (τ 0 7)) 1 (τ 1)) 2 (τ 2)) 4 (τ 4)) 3 (τ 3)) 5 (τ 5)) ++ mw cI cZ bd τ) := hD
  refine lv_aload_n hx hb dX1_copyFrom_140 rfl (lv_at hl 1 rfl) ?_
  refine va_get (D := (dC, dI)) (ci := 1) (v := .ref (bd 6)) (C := RX1) (T := TX1) (N := 17) hx hb hts hin1 hown hK hP 10 rfl rfl 11 (by decide) L47 (fun _ h9 => h9) rfl dX1_copyFrom_141 ?_
  refine lv_iconst (v := nI 0) hx hb dX1_copyFrom_144 (by decide) ?_
  refine lv_aload_n hx hb dX1_copyFrom_145 rfl (lv_at hl 0 rfl) ?_
  refine va_get (D := (dC, dI)) (ci := 1) (v := .ref (ad 6)) (C := RX1) (T := TX1) (N := 17) hx hb hts hin1 hown hK hP 0 rfl rfl 11 (by decide) L47 (fun _ h9 => h9) rfl dX1_copyFrom_146 ?_
  refine lv_iconst (v := nI 0) hx hb dX1_copyFrom_149 (by decide) ?_
  refine lv_bipush (v := nI 6) hx hb dX1_copyFrom_150 (by decide) ?_
  refine z_copy hx hb (by rw [hml]; exact hl.1.symm) hown (hts (.methodLink RX1 65 arraycopyName) (List.mem_of_getElem? (i := 10) rfl)) (hts (.native arraycopyName) (List.mem_of_getElem? (i := 11) rfl)) (hts (.static arraycopyName) (List.mem_of_getElem? (i := 12) rfl)) (hts (.initialized "java/lang/System") (List.mem_of_getElem? (i := 13) rfl)) hK hP hD hS 16 6 0 0 rfl rfl rfl rfl rfl (by decide) (fun _ _ => rfl) (Nat.le_of_ble_eq_true rfl) (Nat.le_of_ble_eq_true rfl) dX1_copyFrom_152 (fun H locs hP hD hS => ?_)
  have hP : va_P (dC, dI) vwCl (mw cI cZ ad (upR (upR (upR (upR (upR (upR (up2 (up2 (up2 (up2 (up2 (up2 (up2 (up2 σ 0 0 (τ 0 0)) 0 1 (τ 0 1)) 0 2 (τ 0 2)) 0 3 (τ 0 3)) 0 4 (τ 0 4)) 0 5 (τ 0 5)) 0 6 (τ 0 6)) 0 7 (τ 0 7)) 1 (τ 1)) 2 (τ 2)) 4 (τ 4)) 3 (τ 3)) 5 (τ 5)) 6 (τ 6)) ++ mw cI cZ bd τ) H := hP
  have hD : va_D A (mw cI cZ ad (upR (upR (upR (upR (upR (upR (up2 (up2 (up2 (up2 (up2 (up2 (up2 (up2 σ 0 0 (τ 0 0)) 0 1 (τ 0 1)) 0 2 (τ 0 2)) 0 3 (τ 0 3)) 0 4 (τ 0 4)) 0 5 (τ 0 5)) 0 6 (τ 0 6)) 0 7 (τ 0 7)) 1 (τ 1)) 2 (τ 2)) 4 (τ 4)) 3 (τ 3)) 5 (τ 5)) 6 (τ 6)) ++ mw cI cZ bd τ) := hD
  refine lv_aload_n hx hb dX1_copyFrom_155 rfl (lv_at hl 1 rfl) ?_
  refine va_get (D := (dC, dI)) (ci := 1) (v := .ref (bd 7)) (C := RX1) (T := TX1) (N := 17) hx hb hts hin1 hown hK hP 10 rfl rfl 12 (by decide) L50 (fun _ h9 => h9) rfl dX1_copyFrom_156 ?_
  refine lv_iconst (v := nI 0) hx hb dX1_copyFrom_159 (by decide) ?_
  refine lv_aload_n hx hb dX1_copyFrom_160 rfl (lv_at hl 0 rfl) ?_
  refine va_get (D := (dC, dI)) (ci := 1) (v := .ref (ad 7)) (C := RX1) (T := TX1) (N := 17) hx hb hts hin1 hown hK hP 0 rfl rfl 12 (by decide) L50 (fun _ h9 => h9) rfl dX1_copyFrom_161 ?_
  refine lv_iconst (v := nI 0) hx hb dX1_copyFrom_164 (by decide) ?_
  refine lv_bipush (v := nI 6) hx hb dX1_copyFrom_165 (by decide) ?_
  refine z_copy hx hb (by rw [hml]; exact hl.1.symm) hown (hts (.methodLink RX1 65 arraycopyName) (List.mem_of_getElem? (i := 10) rfl)) (hts (.native arraycopyName) (List.mem_of_getElem? (i := 11) rfl)) (hts (.static arraycopyName) (List.mem_of_getElem? (i := 12) rfl)) (hts (.initialized "java/lang/System") (List.mem_of_getElem? (i := 13) rfl)) hK hP hD hS 17 7 0 0 rfl rfl rfl rfl rfl (by decide) (fun _ _ => rfl) (Nat.le_of_ble_eq_true rfl) (Nat.le_of_ble_eq_true rfl) dX1_copyFrom_167 (fun H locs hP hD hS => ?_)
  have hP : va_P (dC, dI) vwCl (mw cI cZ ad (upR (upR (upR (upR (upR (upR (upR (up2 (up2 (up2 (up2 (up2 (up2 (up2 (up2 σ 0 0 (τ 0 0)) 0 1 (τ 0 1)) 0 2 (τ 0 2)) 0 3 (τ 0 3)) 0 4 (τ 0 4)) 0 5 (τ 0 5)) 0 6 (τ 0 6)) 0 7 (τ 0 7)) 1 (τ 1)) 2 (τ 2)) 4 (τ 4)) 3 (τ 3)) 5 (τ 5)) 6 (τ 6)) 7 (τ 7)) ++ mw cI cZ bd τ) H := hP
  have hD : va_D A (mw cI cZ ad (upR (upR (upR (upR (upR (upR (upR (up2 (up2 (up2 (up2 (up2 (up2 (up2 (up2 σ 0 0 (τ 0 0)) 0 1 (τ 0 1)) 0 2 (τ 0 2)) 0 3 (τ 0 3)) 0 4 (τ 0 4)) 0 5 (τ 0 5)) 0 6 (τ 0 6)) 0 7 (τ 0 7)) 1 (τ 1)) 2 (τ 2)) 4 (τ 4)) 3 (τ 3)) 5 (τ 5)) 6 (τ 6)) 7 (τ 7)) ++ mw cI cZ bd τ) := hD
  refine lv_aload_n hx hb dX1_copyFrom_170 rfl (lv_at hl 1 rfl) ?_
  refine va_get (D := (dC, dI)) (ci := 1) (v := .ref (bd 8)) (C := RX1) (T := TX1) (N := 17) hx hb hts hin1 hown hK hP 10 rfl rfl 13 (by decide) L53 (fun _ h9 => h9) rfl dX1_copyFrom_171 ?_
  refine lv_iconst (v := nI 0) hx hb dX1_copyFrom_174 (by decide) ?_
  refine lv_aload_n hx hb dX1_copyFrom_175 rfl (lv_at hl 0 rfl) ?_
  refine va_get (D := (dC, dI)) (ci := 1) (v := .ref (ad 8)) (C := RX1) (T := TX1) (N := 17) hx hb hts hin1 hown hK hP 0 rfl rfl 13 (by decide) L53 (fun _ h9 => h9) rfl dX1_copyFrom_176 ?_
  refine lv_iconst (v := nI 0) hx hb dX1_copyFrom_179 (by decide) ?_
  refine lv_bipush (v := nI 6) hx hb dX1_copyFrom_180 (by decide) ?_
  refine z_copy hx hb (by rw [hml]; exact hl.1.symm) hown (hts (.methodLink RX1 65 arraycopyName) (List.mem_of_getElem? (i := 10) rfl)) (hts (.native arraycopyName) (List.mem_of_getElem? (i := 11) rfl)) (hts (.static arraycopyName) (List.mem_of_getElem? (i := 12) rfl)) (hts (.initialized "java/lang/System") (List.mem_of_getElem? (i := 13) rfl)) hK hP hD hS 18 8 0 0 rfl rfl rfl rfl rfl (by decide) (fun _ _ => rfl) (Nat.le_of_ble_eq_true rfl) (Nat.le_of_ble_eq_true rfl) dX1_copyFrom_182 (fun H locs hP hD hS => ?_)
  have hP : va_P (dC, dI) vwCl (mw cI cZ ad (upR (upR (upR (upR (upR (upR (upR (upR (up2 (up2 (up2 (up2 (up2 (up2 (up2 (up2 σ 0 0 (τ 0 0)) 0 1 (τ 0 1)) 0 2 (τ 0 2)) 0 3 (τ 0 3)) 0 4 (τ 0 4)) 0 5 (τ 0 5)) 0 6 (τ 0 6)) 0 7 (τ 0 7)) 1 (τ 1)) 2 (τ 2)) 4 (τ 4)) 3 (τ 3)) 5 (τ 5)) 6 (τ 6)) 7 (τ 7)) 8 (τ 8)) ++ mw cI cZ bd τ) H := hP
  have hD : va_D A (mw cI cZ ad (upR (upR (upR (upR (upR (upR (upR (upR (up2 (up2 (up2 (up2 (up2 (up2 (up2 (up2 σ 0 0 (τ 0 0)) 0 1 (τ 0 1)) 0 2 (τ 0 2)) 0 3 (τ 0 3)) 0 4 (τ 0 4)) 0 5 (τ 0 5)) 0 6 (τ 0 6)) 0 7 (τ 0 7)) 1 (τ 1)) 2 (τ 2)) 4 (τ 4)) 3 (τ 3)) 5 (τ 5)) 6 (τ 6)) 7 (τ 7)) 8 (τ 8)) ++ mw cI cZ bd τ) := hD
  refine lv_aload_n hx hb dX1_copyFrom_185 rfl (lv_at hl 1 rfl) ?_
  refine va_get (D := (dC, dI)) (ci := 1) (v := .ref (bd 9)) (C := RX1) (T := TX1) (N := 17) hx hb hts hin1 hown hK hP 10 rfl rfl 14 (by decide) L56 (fun _ h9 => h9) rfl dX1_copyFrom_186 ?_
  refine lv_iconst (v := nI 0) hx hb dX1_copyFrom_189 (by decide) ?_
  refine lv_aload_n hx hb dX1_copyFrom_190 rfl (lv_at hl 0 rfl) ?_
  refine va_get (D := (dC, dI)) (ci := 1) (v := .ref (ad 9)) (C := RX1) (T := TX1) (N := 17) hx hb hts hin1 hown hK hP 0 rfl rfl 14 (by decide) L56 (fun _ h9 => h9) rfl dX1_copyFrom_191 ?_
  refine lv_iconst (v := nI 0) hx hb dX1_copyFrom_194 (by decide) ?_
  refine lv_bipush (v := nI 6) hx hb dX1_copyFrom_195 (by decide) ?_
  refine z_copy hx hb (by rw [hml]; exact hl.1.symm) hown (hts (.methodLink RX1 65 arraycopyName) (List.mem_of_getElem? (i := 10) rfl)) (hts (.native arraycopyName) (List.mem_of_getElem? (i := 11) rfl)) (hts (.static arraycopyName) (List.mem_of_getElem? (i := 12) rfl)) (hts (.initialized "java/lang/System") (List.mem_of_getElem? (i := 13) rfl)) hK hP hD hS 19 9 0 0 rfl rfl rfl rfl rfl (by decide) (fun _ _ => rfl) (Nat.le_of_ble_eq_true rfl) (Nat.le_of_ble_eq_true rfl) dX1_copyFrom_197 (fun H locs hP hD hS => ?_)
  have hP : va_P (dC, dI) vwCl (mw cI cZ ad (upR (upR (upR (upR (upR (upR (upR (upR (upR (up2 (up2 (up2 (up2 (up2 (up2 (up2 (up2 σ 0 0 (τ 0 0)) 0 1 (τ 0 1)) 0 2 (τ 0 2)) 0 3 (τ 0 3)) 0 4 (τ 0 4)) 0 5 (τ 0 5)) 0 6 (τ 0 6)) 0 7 (τ 0 7)) 1 (τ 1)) 2 (τ 2)) 4 (τ 4)) 3 (τ 3)) 5 (τ 5)) 6 (τ 6)) 7 (τ 7)) 8 (τ 8)) 9 (τ 9)) ++ mw cI cZ bd τ) H := hP
  have hD : va_D A (mw cI cZ ad (upR (upR (upR (upR (upR (upR (upR (upR (upR (up2 (up2 (up2 (up2 (up2 (up2 (up2 (up2 σ 0 0 (τ 0 0)) 0 1 (τ 0 1)) 0 2 (τ 0 2)) 0 3 (τ 0 3)) 0 4 (τ 0 4)) 0 5 (τ 0 5)) 0 6 (τ 0 6)) 0 7 (τ 0 7)) 1 (τ 1)) 2 (τ 2)) 4 (τ 4)) 3 (τ 3)) 5 (τ 5)) 6 (τ 6)) 7 (τ 7)) 8 (τ 8)) 9 (τ 9)) ++ mw cI cZ bd τ) := hD
  exact hq () _ _ 200 ls dX1_copyFrom_200 (show () = () from rfl) hP hD hS
abbrev rm_c_X1_liveOneYear : Room := { frames := 5, cells := 0, slots := 0, locals := 115 }
set_option maxHeartbeats 4000000 in
set_option maxRecDepth 100000 in
theorem c_X1_liveOneYear (l : Launch) (dC : Nat → ClassId) (dI : Nat → Nat → Nat) (cI cZ : ClassId) (dd : Nat) (ad : Nat → Nat) (σ : St) (Hn B L C V M : Nat) (hI : Inv σ Hn B L C V M) (hH1 : 1 ≤ Hn) (sd : Int32) (sz : Nat) : Met l yX1_liveOneYear wsX1_liveOneYear rm_c_X1_liveOneYear (va_Pc [.ref (ad 0), .ref dd] (zPre (dC, dI) vwCl (tyIZ cI cZ) ((dd, .inr (0, [.int sd])) :: mw cI cZ ad σ) sz (fun _ => True))) (va_Qv (fun (u : St × Int32) => u = yearS σ Hn B sd) (zPost (dC, dI) vwCl (tyIZ cI cZ) ((dd, .inr (0, [.int sd])) :: mw cI cZ ad σ) sz (fun (u : St × Int32) => (dd, .inr (0, [.int u.2])) :: mw cI cZ ad u.1)) (va_A ((dd, .inr (0, [.int sd])) :: mw cI cZ ad σ) sz)) 0 0 (va_A ((dd, .inr (0, [.int sd])) :: mw cI cZ ad σ) sz) := by
  refine z_impV (cc := cX1_liveOneYear) (maxL := 3) (av := [.ref (ad 0), .ref dd]) (by decide) rfl (Nat.le_of_ble_eq_true rfl) ?_
  intro p e s m below meth c Q A ls hx hb hml hown hname hts hBs hP hK hD hS hA hAB hq hl
  have hown : s.vm.findClass RX1 = some m.cls := hown
  have hin0 : ∀ w ∈ wsX00, w ∈ wsX1_liveOneYear := fun _ h => List.mem_cons_of_mem _ (List.mem_append_right _ h)
  have hin1 : ∀ w ∈ wsX10, w ∈ wsX1_liveOneYear := fun _ h => List.mem_cons_of_mem _ (List.mem_append_left _ (List.mem_append_right _ h))
  have L24 := hts (.fieldLink RX1 24 "BestBeast$Manor" "holders" "I") (List.mem_of_getElem? (i := 1) rfl)
  have L41 := hts (.fieldLink RX1 41 "BestBeast$Manor" "beasts" "I") (List.mem_of_getElem? (i := 3) rfl)
  have L59 := hts (.fieldLink RX1 59 "BestBeast$Manor" "yearNow" "I") (List.mem_of_getElem? (i := 4) rfl)
  have L31 := hts (.fieldLink RX1 31 "BestBeast$Manor" "death" "[I") (List.mem_of_getElem? (i := 2) rfl)
  obtain ⟨⟨iL, iC, iV, iM, iH, iB, jL, jC, jV, jM, jH, jB⟩, iK, iDe, iAl, iHe, iWo, iO1, iO2⟩ := id hI
  have hl : lv_has ls 3 [(0, .ref (ad 0)), (1, .ref dd)] := hl
  refine lv_aload_n hx hb dX1_liveOneYear_0 rfl (lv_at hl 1 rfl) ?_
  refine lv_ifnonnull (tgt := 5) hx hb dX1_liveOneYear_1 (by decide) ?_
  refine lv_iconst (v := nI 0) hx hb dX1_liveOneYear_5 (by decide) ?_
  refine lv_istore_n (lv' := [(2, .int (nI 0)), (0, .ref (ad 0)), (1, .ref dd)]) hx hb dX1_liveOneYear_6 rfl hl (by decide) rfl (fun ls hl => ?_)
  suffices hlp7 : ∀ (nf : Nat) (k : Nat) (τ : St) (w : Int32) (x7_2 : Int32) (ls : Array Slot) (H : Heap) (locs : List Loc), (k ≤ Hn) → (Inv τ Hn B L C V M) → (dayR σ Hn B sd k = (τ, w)) → x7_2 = nI k → va_P (dC, dI) vwCl ((dd, .inr (0, [.int w])) :: mw cI cZ ad τ) H → va_D A ((dd, .inr (0, [.int w])) :: mw cI cZ ad τ) → va_S A s.heap H locs → lv_has ls 3 [(2, .int x7_2), (0, .ref (ad 0)), (1, .ref dd)] → Hn - k < nf → W p l e rm_c_X1_liveOneYear s m ([.ref (ad 0), .ref dd] : List Value).toArray below meth c H locs 0 0 Q (F0 m 7 ls []) by
    exact hlp7 ((Hn - 0) + 1) 0 σ sd (nI 0) ls _ _ (by omega) hI rfl rfl hP hD hS (lv_sub hl [0, 1, 2] rfl) (by omega)
  clear hP hD hS hl
  intro nf
  induction nf with
  | zero => intro k τ w x7_2 ls H locs hk hk2 hd e7_2 hP hD hS hl hn; omega
  | succ nf ih7 =>
    intro k τ w x7_2 ls H locs hk hk2 hd e7_2 hP hD hS hl hn
    subst e7_2
    obtain ⟨⟨kL, kC, kV, kM, kH, kB, -⟩, kK, kDe, kAl, -⟩ := id hk2
    refine lv_iload_n hx hb dX1_liveOneYear_7 rfl (lv_at hl 0 rfl) ?_
    refine lv_aload_n hx hb dX1_liveOneYear_8 rfl (lv_at hl 1 rfl) ?_
    refine va_get (D := (dC, dI)) (ci := 1) (v := .int (nI Hn)) (C := RX1) (T := TX1) (N := 17) hx hb hts hin1 hown hK hP 1 rfl rfl 4 (by decide) L24 (fun _ h9 => h9) (congrArg (fun z => some (Value.int z)) kH) dX1_liveOneYear_9 ?_
    refine z_icmp_ge (a := k) (b := Hn) (tgt := 50) hx hb (by omega) (by omega) dX1_liveOneYear_12 (by decide) (fun (c_12 : Hn ≤ k) => ?_) (fun (c_12 : k < Hn) => ?_)
    · skip
      refine lv_aload_n hx hb dX1_liveOneYear_50 rfl (lv_at hl 1 rfl) ?_
      refine va_get (D := (dC, dI)) (ci := 1) (v := .int (nI B)) (C := RX1) (T := TX1) (N := 17) hx hb hts hin1 hown hK hP 1 rfl rfl 9 (by decide) L41 (fun _ h9 => h9) (congrArg (fun z => some (Value.int z)) kB) dX1_liveOneYear_51 ?_
      refine lv_if_le (tgt := 79) hx hb dX1_liveOneYear_54 (by decide) (fun (c_54 : (nI B) ≤ 0) => ?_) (fun (c_54 : ¬ ((nI B) ≤ 0)) => ?_)
      · skip
        have hB0 : B = 0 := nI_z c_54 (by omega)
        refine lv_aload_n hx hb dX1_liveOneYear_79 rfl (lv_at hl 1 rfl) ?_
        refine lv_dup hx hb dX1_liveOneYear_80 rfl ?_
        refine va_get (D := (dC, dI)) (ci := 1) (v := .int (τ 0 6)) (C := RX1) (T := TX1) (N := 17) hx hb hts hin1 hown hK hP 1 rfl rfl 15 (by decide) L59 (fun _ h9 => h9) rfl dX1_liveOneYear_81 ?_
        refine lv_iconst (v := nI 1) hx hb dX1_liveOneYear_84 (by decide) ?_
        refine z_iadd (v := (τ 0 6) + (nI 1)) hx hb dX1_liveOneYear_85 (rfl) ?_
        refine va_put (D := (dC, dI)) (ci := 1) (v := .int ((τ 0 6) + (nI 1))) (ty := .int) (C := RX1) (T := TX1) (N := 17) hx hb hts hin1 tyX1 tyX1_ok nmX1 hown hK hP hD hS 1 rfl rfl 15 (by decide) L59 (fun _ h9 => h9) rfl (by decide +kernel) rfl rfl (Nat.le_of_ble_eq_true rfl) dX1_liveOneYear_86 (fun H locs hP hD hS => ?_)
        have hP : va_P (dC, dI) vwCl ((dd, .inr (0, [.int w])) :: mw cI cZ ad (up2 τ 0 6 ((τ 0 6) + (nI 1)))) H := hP
        have hD : va_D A ((dd, .inr (0, [.int w])) :: mw cI cZ ad (up2 τ 0 6 ((τ 0 6) + (nI 1)))) := hD
        exact hq (up2 τ 0 6 ((τ 0 6) + (nI 1)), w) _ _ 89 ls dX1_liveOneYear_89 (show (up2 τ 0 6 ((τ 0 6) + (nI 1)), w) = yearS σ Hn B sd from (by have hkk : k = Hn := (by omega); rw [hkk] at hd; exact yearS_n hd hB0)) hP hD hS
      · skip
        have hB1 : 0 < B := nI_nz c_54
        have q1 := tdraw_eq (seedF_pos w) (n := B) (by omega) (by omega)
        have q2 := tdraw_eq (seedF_pos (seedF w)) (n := Hn) (by omega) (by omega)
        refine lv_aload_n hx hb dX1_liveOneYear_57 rfl (lv_at hl 2 rfl) ?_
        refine lv_aload_n hx hb dX1_liveOneYear_58 rfl (lv_at hl 1 rfl) ?_
        refine va_get (D := (dC, dI)) (ci := 1) (v := .int (nI B)) (C := RX1) (T := TX1) (N := 17) hx hb hts hin1 hown hK hP 1 rfl rfl 9 (by decide) L41 (fun _ h9 => h9) (congrArg (fun z => some (Value.int z)) kB) dX1_liveOneYear_59 ?_
        refine z_callQi (As := [.int (nI B)]) (rest := []) ⟨hx, hb, hml, hown, hts⟩ (c_X0_drawOf l dC dI cI cZ dd w B (by omega) (by omega) _) (cwV 1 hts gX1_liveOneYear_X0_drawOf rfl rfl rfl (by decide +kernel) ⟨Nat.le_of_ble_eq_true rfl, Nat.le_of_ble_eq_true rfl⟩) (fun _ _ _ _ q => q) (fun _ _ _ => trivial) hP hD hK hS hA [0] [1, 2, 3, 4, 5, 6, 7, 8, 9, 10] rfl rfl rfl rfl (by decide) (va_recv hK hP (ci := 0) (q0 := 0) rfl rfl) rfl hl.1 rfl (Nat.le_of_ble_eq_true rfl) ⟨Nat.le_of_ble_eq_true rfl, Nat.le_of_ble_eq_true rfl⟩ dX1_liveOneYear_62 (fun r u H locs hr hP hD hS => ?_)
        obtain ⟨rfl, rfl⟩ := hr
        have hP : va_P (dC, dI) vwCl ((dd, .inr (0, [.int (seedF w)])) :: mw cI cZ ad τ) H := hP.sub [10, 0, 1, 2, 3, 4, 5, 6, 7, 8, 9] rfl
        have hD : va_D A ((dd, .inr (0, [.int (seedF w)])) :: mw cI cZ ad τ) := hD.sub [10, 0, 1, 2, 3, 4, 5, 6, 7, 8, 9] rfl rfl
        refine z_topi (v := nI (tdraw (seedF w) B)) (q1.1) ?_
        refine lv_istore_n (lv' := [(2, .int (nI (tdraw (seedF w) B))), (0, .ref (ad 0)), (1, .ref dd)]) hx hb dX1_liveOneYear_65 rfl hl (by decide) rfl (fun ls hl => ?_)
        refine lv_aload_n hx hb dX1_liveOneYear_66 rfl (lv_at hl 1 rfl) ?_
        refine lv_iload_n hx hb dX1_liveOneYear_67 rfl (lv_at hl 0 rfl) ?_
        refine lv_aload_n hx hb dX1_liveOneYear_68 rfl (lv_at hl 2 rfl) ?_
        refine lv_aload_n hx hb dX1_liveOneYear_69 rfl (lv_at hl 1 rfl) ?_
        refine va_get (D := (dC, dI)) (ci := 1) (v := .int (nI Hn)) (C := RX1) (T := TX1) (N := 17) hx hb hts hin1 hown hK hP 1 rfl rfl 4 (by decide) L24 (fun _ h9 => h9) (congrArg (fun z => some (Value.int z)) kH) dX1_liveOneYear_70 ?_
        refine z_callQi (As := [.int (nI Hn)]) (rest := [.int (nI (tdraw (seedF w) B)), .ref (ad 0)]) ⟨hx, hb, hml, hown, hts⟩ (c_X0_drawOf l dC dI cI cZ dd (seedF w) Hn (by omega) (by omega) _) (cwV 1 hts gX1_liveOneYear_X0_drawOf rfl rfl rfl (by decide +kernel) ⟨Nat.le_of_ble_eq_true rfl, Nat.le_of_ble_eq_true rfl⟩) (fun _ _ _ _ q => q) (fun _ _ _ => trivial) hP hD hK hS hA [0] [1, 2, 3, 4, 5, 6, 7, 8, 9, 10] rfl rfl rfl rfl (by decide) (va_recv hK hP (ci := 0) (q0 := 0) rfl rfl) rfl hl.1 rfl (Nat.le_of_ble_eq_true rfl) ⟨Nat.le_of_ble_eq_true rfl, Nat.le_of_ble_eq_true rfl⟩ dX1_liveOneYear_73 (fun r u H locs hr hP hD hS => ?_)
        obtain ⟨rfl, rfl⟩ := hr
        have hP : va_P (dC, dI) vwCl ((dd, .inr (0, [.int (seedF (seedF w))])) :: mw cI cZ ad τ) H := hP.sub [10, 0, 1, 2, 3, 4, 5, 6, 7, 8, 9] rfl
        have hD : va_D A ((dd, .inr (0, [.int (seedF (seedF w))])) :: mw cI cZ ad τ) := hD.sub [10, 0, 1, 2, 3, 4, 5, 6, 7, 8, 9] rfl rfl
        refine z_topi (v := nI (tdraw (seedF (seedF w)) Hn)) (q2.1) ?_
        refine z_callQv (As := [.int (nI (tdraw (seedF w) B)), .int (nI (tdraw (seedF (seedF w)) Hn))]) (rest := []) ⟨hx, hb, hml, hown, hts⟩ (c_X1_makeGift l dC dI cI cZ ad τ Hn B L C V M hk2 (tdraw (seedF w) B) q1.2 (tdraw (seedF (seedF w)) Hn) q2.2 _) (cwV 2 hts gX1_liveOneYear_X1_makeGift rfl rfl rfl (by decide +kernel) ⟨Nat.le_of_ble_eq_true rfl, Nat.le_of_ble_eq_true rfl⟩) (fun _ _ _ _ q => q) (fun _ _ _ => trivial) hP hD hK hS hA [1, 2, 3, 4, 5, 6, 7, 8, 9, 10] [0] rfl rfl rfl rfl (by decide) (va_recv hK hP (ci := 1) (q0 := 1) rfl rfl) rfl hl.1 rfl (Nat.le_of_ble_eq_true rfl) ⟨Nat.le_of_ble_eq_true rfl, Nat.le_of_ble_eq_true rfl⟩ dX1_liveOneYear_76 (fun u H locs hr hP hD hS => ?_)
        obtain rfl := hr
        have hP : va_P (dC, dI) vwCl ((dd, .inr (0, [.int (seedF (seedF w))])) :: mw cI cZ ad (giftS τ (tdraw (seedF w) B) (tdraw (seedF (seedF w)) Hn))) H := hP.sub [0, 1, 2, 3, 4, 5, 6, 7, 8, 9, 10] rfl
        have hD : va_D A ((dd, .inr (0, [.int (seedF (seedF w))])) :: mw cI cZ ad (giftS τ (tdraw (seedF w) B) (tdraw (seedF (seedF w)) Hn))) := hD.sub [0, 1, 2, 3, 4, 5, 6, 7, 8, 9, 10] rfl rfl
        refine lv_aload_n hx hb dX1_liveOneYear_79 rfl (lv_at hl 1 rfl) ?_
        refine lv_dup hx hb dX1_liveOneYear_80 rfl ?_
        refine va_get (D := (dC, dI)) (ci := 1) (v := .int (giftS τ (tdraw (seedF w) B) (tdraw (seedF (seedF w)) Hn) 0 6)) (C := RX1) (T := TX1) (N := 17) hx hb hts hin1 hown hK hP 1 rfl rfl 15 (by decide) L59 (fun _ h9 => h9) rfl dX1_liveOneYear_81 ?_
        refine lv_iconst (v := nI 1) hx hb dX1_liveOneYear_84 (by decide) ?_
        refine z_iadd (v := (giftS τ (tdraw (seedF w) B) (tdraw (seedF (seedF w)) Hn) 0 6) + (nI 1)) hx hb dX1_liveOneYear_85 (rfl) ?_
        refine va_put (D := (dC, dI)) (ci := 1) (v := .int ((giftS τ (tdraw (seedF w) B) (tdraw (seedF (seedF w)) Hn) 0 6) + (nI 1))) (ty := .int) (C := RX1) (T := TX1) (N := 17) hx hb hts hin1 tyX1 tyX1_ok nmX1 hown hK hP hD hS 1 rfl rfl 15 (by decide) L59 (fun _ h9 => h9) rfl (by decide +kernel) rfl rfl (Nat.le_of_ble_eq_true rfl) dX1_liveOneYear_86 (fun H locs hP hD hS => ?_)
        have hP : va_P (dC, dI) vwCl ((dd, .inr (0, [.int (seedF (seedF w))])) :: mw cI cZ ad (up2 (giftS τ (tdraw (seedF w) B) (tdraw (seedF (seedF w)) Hn)) 0 6 ((giftS τ (tdraw (seedF w) B) (tdraw (seedF (seedF w)) Hn) 0 6) + (nI 1)))) H := hP
        have hD : va_D A ((dd, .inr (0, [.int (seedF (seedF w))])) :: mw cI cZ ad (up2 (giftS τ (tdraw (seedF w) B) (tdraw (seedF (seedF w)) Hn)) 0 6 ((giftS τ (tdraw (seedF w) B) (tdraw (seedF (seedF w)) Hn) 0 6) + (nI 1)))) := hD
        exact hq (up2 (giftS τ (tdraw (seedF w) B) (tdraw (seedF (seedF w)) Hn)) 0 6 ((giftS τ (tdraw (seedF w) B) (tdraw (seedF (seedF w)) Hn) 0 6) + (nI 1)), seedF (seedF w)) _ _ 89 ls dX1_liveOneYear_89 (show (up2 (giftS τ (tdraw (seedF w) B) (tdraw (seedF (seedF w)) Hn)) 0 6 ((giftS τ (tdraw (seedF w) B) (tdraw (seedF (seedF w)) Hn) 0 6) + (nI 1)), seedF (seedF w)) = yearS σ Hn B sd from (by have hkk : k = Hn := (by omega); rw [hkk] at hd; exact yearS_y hd hB1)) hP hD hS
    · skip
      refine lv_aload_n hx hb dX1_liveOneYear_15 rfl (lv_at hl 1 rfl) ?_
      refine lv_iload_n hx hb dX1_liveOneYear_16 rfl (lv_at hl 0 rfl) ?_
      refine z_callV (As := [.int (nI k)]) (rest := []) ⟨hx, hb, hml, hown, hts⟩ (c_X1_isAlive l dC dI cI cZ ad τ Hn B L C V M hk2 (nI k)) (cwV 1 hts gX1_liveOneYear_X1_isAlive rfl rfl rfl (by decide +kernel) ⟨Nat.le_of_ble_eq_true rfl, Nat.le_of_ble_eq_true rfl⟩) (hP.sub [1, 2, 3, 4, 5, 6, 7, 8, 9, 10] rfl) hK (va_recv hK hP (ci := 1) (q0 := 1) rfl rfl) rfl hl.1 rfl (Nat.le_of_ble_eq_true rfl) ⟨Nat.zero_le _, Nat.zero_le _⟩ dX1_liveOneYear_17 (fun r hr => ?_)
      obtain rfl : r = zb (liveP τ Hn (nI k)) := hr
      refine z_ifeq_b (P := liveP τ Hn (nI k)) (tgt := 44) hx hb dX1_liveOneYear_20 (by decide) (fun (c_20 : ¬ (liveP τ Hn (nI k))) => ?_) (fun (c_20 : liveP τ Hn (nI k)) => ?_)
      · skip
        refine lv_iinc (v := nI (k + 1)) (lv' := [(2, .int (nI (k + 1))), (0, .ref (ad 0)), (1, .ref dd)]) hx hb dX1_liveOneYear_44 hl (k := 0) rfl (nI_1 _) (by decide) rfl (fun ls hl => ?_)
        refine lv_goto (tgt := 7) hx hb dX1_liveOneYear_47 (by decide) ?_
        exact ih7 (k + 1) τ w (nI (k + 1)) ls _ _ (by omega) hk2 (dayR_n hd (fun z => c_20 (live_yes c_12 z))) (show nI (k + 1) = nI (k + 1) from rfl) hP hD hS (lv_sub hl [0, 1, 2] rfl) (by omega)
      · skip
        refine lv_aload_n hx hb dX1_liveOneYear_23 rfl (lv_at hl 2 rfl) ?_
        refine lv_bipush (v := nI 10) hx hb dX1_liveOneYear_24 (by decide) ?_
        refine z_callQi (As := [.int (nI 10)]) (rest := []) ⟨hx, hb, hml, hown, hts⟩ (c_X0_drawOf l dC dI cI cZ dd w 10 (by omega) (by omega) _) (cwV 1 hts gX1_liveOneYear_X0_drawOf rfl rfl rfl (by decide +kernel) ⟨Nat.le_of_ble_eq_true rfl, Nat.le_of_ble_eq_true rfl⟩) (fun _ _ _ _ q => q) (fun _ _ _ => trivial) hP hD hK hS hA [0] [1, 2, 3, 4, 5, 6, 7, 8, 9, 10] rfl rfl rfl rfl (by decide) (va_recv hK hP (ci := 0) (q0 := 0) rfl rfl) rfl hl.1 rfl (Nat.le_of_ble_eq_true rfl) ⟨Nat.le_of_ble_eq_true rfl, Nat.le_of_ble_eq_true rfl⟩ dX1_liveOneYear_26 (fun r u H locs hr hP hD hS => ?_)
        obtain ⟨rfl, rfl⟩ := hr
        have hP : va_P (dC, dI) vwCl ((dd, .inr (0, [.int (seedF w)])) :: mw cI cZ ad τ) H := hP.sub [10, 0, 1, 2, 3, 4, 5, 6, 7, 8, 9] rfl
        have hD : va_D A ((dd, .inr (0, [.int (seedF w)])) :: mw cI cZ ad τ) := hD.sub [10, 0, 1, 2, 3, 4, 5, 6, 7, 8, 9] rfl rfl
        refine lv_aload_n hx hb dX1_liveOneYear_29 rfl (lv_at hl 1 rfl) ?_
        refine va_get (D := (dC, dI)) (ci := 1) (v := .ref (ad 2)) (C := RX1) (T := TX1) (N := 17) hx hb hts hin1 hown hK hP 1 rfl rfl 6 (by decide) L31 (fun _ h9 => h9) rfl dX1_liveOneYear_30 ?_
        refine lv_iload_n hx hb dX1_liveOneYear_33 rfl (lv_at hl 0 rfl) ?_
        refine z_iald (D := (dC, dI)) hx hb hK hP 3 0 rfl rfl k (rfl) (by omega) (by omega) (v := (τ 2) k) (rfl) dX1_liveOneYear_34 ?_
        refine lv_icmp_ge (tgt := 44) hx hb dX1_liveOneYear_35 (by decide) (fun (c_35 : ((τ 2) k) ≤ (drawF (seedF w) (nI 10))) => ?_) (fun (c_35 : ¬ (((τ 2) k) ≤ (drawF (seedF w) (nI 10)))) => ?_)
        · skip
          refine lv_iinc (v := nI (k + 1)) (lv' := [(2, .int (nI (k + 1))), (0, .ref (ad 0)), (1, .ref dd)]) hx hb dX1_liveOneYear_44 hl (k := 0) rfl (nI_1 _) (by decide) rfl (fun ls hl => ?_)
          refine lv_goto (tgt := 7) hx hb dX1_liveOneYear_47 (by decide) ?_
          exact ih7 (k + 1) τ (seedF w) (nI (k + 1)) ls _ _ (by omega) hk2 (dayR_s hd (live_1 c_12 jH c_20) (Int32.not_lt.mpr c_35)) (show nI (k + 1) = nI (k + 1) from rfl) hP hD hS (lv_sub hl [0, 1, 2] rfl) (by omega)
        · skip
          refine lv_aload_n hx hb dX1_liveOneYear_38 rfl (lv_at hl 1 rfl) ?_
          refine lv_iload_n hx hb dX1_liveOneYear_39 rfl (lv_at hl 0 rfl) ?_
          refine z_callQi (As := [.int (nI k)]) (rest := []) ⟨hx, hb, hml, hown, hts⟩ (c_X1_bury l dC dI cI cZ ad τ Hn B L C V M hk2 k (by omega) (live_1 c_12 jH c_20) _) (cwV 1 hts gX1_liveOneYear_X1_bury rfl rfl rfl (by decide +kernel) ⟨Nat.le_of_ble_eq_true rfl, Nat.le_of_ble_eq_true rfl⟩) (fun _ _ _ _ q => q) (fun _ _ _ => trivial) hP hD hK hS hA [1, 2, 3, 4, 5, 6, 7, 8, 9, 10] [0] rfl rfl rfl rfl (by decide) (va_recv hK hP (ci := 1) (q0 := 1) rfl rfl) rfl hl.1 rfl (Nat.le_of_ble_eq_true rfl) ⟨Nat.le_of_ble_eq_true rfl, Nat.le_of_ble_eq_true rfl⟩ dX1_liveOneYear_40 (fun r u H locs hr hP hD hS => ?_)
          obtain ⟨rfl, rfl⟩ := hr
          have hP : va_P (dC, dI) vwCl ((dd, .inr (0, [.int (seedF w)])) :: mw cI cZ ad (buryS τ Hn B k)) H := hP.sub [0, 1, 2, 3, 4, 5, 6, 7, 8, 9, 10] rfl
          have hD : va_D A ((dd, .inr (0, [.int (seedF w)])) :: mw cI cZ ad (buryS τ Hn B k)) := hD.sub [0, 1, 2, 3, 4, 5, 6, 7, 8, 9, 10] rfl rfl
          refine lv_pop hx hb dX1_liveOneYear_43 rfl ?_
          refine lv_iinc (v := nI (k + 1)) (lv' := [(2, .int (nI (k + 1))), (0, .ref (ad 0)), (1, .ref dd)]) hx hb dX1_liveOneYear_44 hl (k := 0) rfl (nI_1 _) (by decide) rfl (fun ls hl => ?_)
          refine lv_goto (tgt := 7) hx hb dX1_liveOneYear_47 (by decide) ?_
          exact ih7 (k + 1) (buryS τ Hn B k) (seedF w) (nI (k + 1)) ls _ _ (by omega) (hk2.buried k) (dayR_d hd (live_1 c_12 jH c_20) (Int32.not_le.mp c_35)) (show nI (k + 1) = nI (k + 1) from rfl) hP hD hS (lv_sub hl [0, 1, 2] rfl) (by omega)
