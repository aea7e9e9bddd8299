/-! ===== the reference: the page, draws, digest ===== -/
abbrev rm_c_X3_isGood : Room := { frames := 1, cells := 0, slots := 0, locals := 25 }
set_option maxHeartbeats 4000000 in
set_option maxRecDepth 100000 in
theorem c_X3_isGood (l : Launch) (k : Nat) (hk8 : k < 8) (c0 : Int32) : Met l yX3_isGood wsX3_isGood rm_c_X3_isGood (va_Pc [.int (nI k), .int c0] (fun _ => True)) (vp_Si (fun r : Int32 => r = zb (goodP k c0))) 0 0 (fun _ => False) := by
  refine z_pureZ (cc := cX3_isGood) (maxL := 3) (av := [.int (nI k), .int c0]) (by decide) rfl (Nat.le_of_ble_eq_true rfl) ?_
  intro p e s m below meth c Q ls hx hb hml hown hts _ hq hl
  have hown : s.vm.findClass RX3 = some m.cls := hown
  have L60 := hts (.constantLong RX3 60 (9)) (List.mem_of_getElem? (i := 3) rfl)
  have L58 := hts (.constantLong RX3 58 (5)) (List.mem_of_getElem? (i := 2) rfl)
  have L56 := hts (.constantLong RX3 56 (3)) (List.mem_of_getElem? (i := 1) rfl)
  have hl : lv_has ls 3 [(0, .int (nI k)), (1, .int c0)] := hl
  refine lv_iload_n hx hb dX3_isGood_0 rfl (lv_at hl 1 rfl) ?_
  refine lv_bipush (v := nI 48) hx hb dX3_isGood_1 (by decide) ?_
  refine z_isub (v := c0 - (nI 48)) hx hb dX3_isGood_3 (rfl) ?_
  refine lv_istore_n (lv' := [(2, .int (c0 - (nI 48))), (0, .int (nI k)), (1, .int c0)]) hx hb dX3_isGood_4 rfl hl (by decide) rfl (fun ls hl => ?_)
  refine lv_iload_n hx hb dX3_isGood_5 rfl (lv_at hl 1 rfl) ?_
  refine lv_iconst (v := nI 2) hx hb dX3_isGood_6 (by decide) ?_
  refine z_icmp_ge (a := k) (b := 2) (tgt := 22) hx hb (by omega) (by omega) dX3_isGood_7 (by decide) (fun (c_7 : 2 ≤ k) => ?_) (fun (c_7 : k < 2) => ?_)
  · skip
    refine lv_iload_n hx hb dX3_isGood_22 rfl (lv_at hl 1 rfl) ?_
    refine lv_iconst (v := nI 2) hx hb dX3_isGood_23 (by decide) ?_
    refine z_icmp_ne (a := k) (b := 2) (tgt := 39) hx hb (by omega) (by omega) dX3_isGood_24 (by decide) (fun (c_24 : k ≠ 2) => ?_) (fun (c_24 : k = 2) => ?_)
    · skip
      refine lv_iload_n hx hb dX3_isGood_39 rfl (lv_at hl 1 rfl) ?_
      refine lv_iconst (v := nI 3) hx hb dX3_isGood_40 (by decide) ?_
      refine z_icmp_ne (a := k) (b := 3) (tgt := 58) hx hb (by omega) (by omega) dX3_isGood_41 (by decide) (fun (c_41 : k ≠ 3) => ?_) (fun (c_41 : k = 3) => ?_)
      · skip
        refine lv_iload_n hx hb dX3_isGood_58 rfl (lv_at hl 1 rfl) ?_
        refine lv_iconst (v := nI 4) hx hb dX3_isGood_59 (by decide) ?_
        refine z_icmp_ne (a := k) (b := 4) (tgt := 79) hx hb (by omega) (by omega) dX3_isGood_60 (by decide) (fun (c_60 : k ≠ 4) => ?_) (fun (c_60 : k = 4) => ?_)
        · skip
          refine lv_iconst (v := nI 0) hx hb dX3_isGood_79 (by decide) ?_
          exact hq (nI 0) 80 ls dX3_isGood_80 (Or.inl rfl) (show (nI 0) = zb (goodP k c0) from (zb_f (fun z => absurd z.1 (by omega))).symm)
        · skip
          refine lv_iload_n hx hb dX3_isGood_63 rfl (lv_at hl 0 rfl) ?_
          refine lv_i2l (v := (c0 - (nI 48)).toInt64) hx hb dX3_isGood_64 (rfl) ?_
          refine lv_lconst (v := 0) hx hb dX3_isGood_65 (by decide) ?_
          refine lv_ldc2 hx hb hown L60 dX3_isGood_66 ?_
          refine z_callS (As := [.long ((c0 - (nI 48)).toInt64), .long 0, .long 9]) (rest := []) ⟨hx, hb, hml, hown, hts⟩ (c_X3_in l ((c0 - (nI 48)).toInt64) 0 9) (va_cwS 3 hts gX3_isGood_X3_in rfl rfl rfl (by decide +kernel) ⟨Nat.le_of_ble_eq_true rfl, Nat.le_of_ble_eq_true rfl⟩) rfl hl.1 rfl (Nat.le_of_ble_eq_true rfl) ⟨Nat.zero_le _, Nat.zero_le _⟩ dX3_isGood_69 (fun r hr => ?_)
          obtain rfl : r = zb (0 ≤ ((c0 - (nI 48)).toInt64) ∧ ((c0 - (nI 48)).toInt64) ≤ 9) := hr
          refine z_topi (v := zb (inP 0 9 (c0 - (nI 48)))) (zb_iff (in64 (a := 0) (b := 9) (by decide) (by decide))) ?_
          refine z_ifeq_b (P := inP 0 9 (c0 - (nI 48))) (tgt := 79) hx hb dX3_isGood_72 (by decide) (fun (c_72 : ¬ (inP 0 9 (c0 - (nI 48)))) => ?_) (fun (c_72 : inP 0 9 (c0 - (nI 48))) => ?_)
          · skip
            refine lv_iconst (v := nI 0) hx hb dX3_isGood_79 (by decide) ?_
            exact hq (nI 0) 80 ls dX3_isGood_80 (Or.inl rfl) (show (nI 0) = zb (goodP k c0) from (by subst c_60; exact (zb_f (fun z => c_72 (good_4.mpr z))).symm))
          · skip
            refine lv_iconst (v := nI 1) hx hb dX3_isGood_75 (by decide) ?_
            refine lv_goto (tgt := 80) hx hb dX3_isGood_76 (by decide) ?_
            exact hq (nI 1) 80 ls dX3_isGood_80 (Or.inr rfl) (show (nI 1) = zb (goodP k c0) from (by subst c_60; exact (zb_t (good_4.mp c_72)).symm))
      · skip
        refine lv_iload_n hx hb dX3_isGood_44 rfl (lv_at hl 2 rfl) ?_
        refine lv_bipush (v := nI 59) hx hb dX3_isGood_45 (by decide) ?_
        refine lv_icmp_ne (tgt := 54) hx hb dX3_isGood_47 (by decide) (fun (c_47 : ¬ c0 = 59) => ?_) (fun (c_47 : c0 = 59) => ?_)
        · skip
          refine lv_iconst (v := nI 0) hx hb dX3_isGood_54 (by decide) ?_
          refine lv_goto (tgt := 80) hx hb dX3_isGood_55 (by decide) ?_
          exact hq (nI 0) 80 ls dX3_isGood_80 (Or.inl rfl) (show (nI 0) = zb (goodP k c0) from (by subst c_41; exact (zb_f (fun z => c_47 (good_3.mpr z))).symm))
        · skip
          refine lv_iconst (v := nI 1) hx hb dX3_isGood_50 (by decide) ?_
          refine lv_goto (tgt := 80) hx hb dX3_isGood_51 (by decide) ?_
          exact hq (nI 1) 80 ls dX3_isGood_80 (Or.inr rfl) (show (nI 1) = zb (goodP k c0) from (by subst c_41; exact (zb_t (good_3.mp c_47)).symm))
    · skip
      refine lv_iload_n hx hb dX3_isGood_27 rfl (lv_at hl 0 rfl) ?_
      refine lv_i2l (v := (c0 - (nI 48)).toInt64) hx hb dX3_isGood_28 (rfl) ?_
      refine lv_lconst (v := 0) hx hb dX3_isGood_29 (by decide) ?_
      refine lv_ldc2 hx hb hown L58 dX3_isGood_30 ?_
      refine z_callS (As := [.long ((c0 - (nI 48)).toInt64), .long 0, .long 5]) (rest := []) ⟨hx, hb, hml, hown, hts⟩ (c_X3_in l ((c0 - (nI 48)).toInt64) 0 5) (va_cwS 3 hts gX3_isGood_X3_in rfl rfl rfl (by decide +kernel) ⟨Nat.le_of_ble_eq_true rfl, Nat.le_of_ble_eq_true rfl⟩) rfl hl.1 rfl (Nat.le_of_ble_eq_true rfl) ⟨Nat.zero_le _, Nat.zero_le _⟩ dX3_isGood_33 (fun r hr => ?_)
      obtain rfl : r = zb (0 ≤ ((c0 - (nI 48)).toInt64) ∧ ((c0 - (nI 48)).toInt64) ≤ 5) := hr
      refine z_topi (v := zb (inP 0 5 (c0 - (nI 48)))) (zb_iff (in64 (a := 0) (b := 5) (by decide) (by decide))) ?_
      refine lv_goto (tgt := 80) hx hb dX3_isGood_36 (by decide) ?_
      exact hq (zb (inP 0 5 (c0 - (nI 48)))) 80 ls dX3_isGood_80 (zb_cases _) (show (zb (inP 0 5 (c0 - (nI 48)))) = zb (goodP k c0) from (by subst c_24; exact good_2))
  · skip
    refine lv_iload_n hx hb dX3_isGood_10 rfl (lv_at hl 0 rfl) ?_
    refine lv_i2l (v := (c0 - (nI 48)).toInt64) hx hb dX3_isGood_11 (rfl) ?_
    refine lv_lconst (v := 0) hx hb dX3_isGood_12 (by decide) ?_
    refine lv_ldc2 hx hb hown L56 dX3_isGood_13 ?_
    refine z_callS (As := [.long ((c0 - (nI 48)).toInt64), .long 0, .long 3]) (rest := []) ⟨hx, hb, hml, hown, hts⟩ (c_X3_in l ((c0 - (nI 48)).toInt64) 0 3) (va_cwS 3 hts gX3_isGood_X3_in rfl rfl rfl (by decide +kernel) ⟨Nat.le_of_ble_eq_true rfl, Nat.le_of_ble_eq_true rfl⟩) rfl hl.1 rfl (Nat.le_of_ble_eq_true rfl) ⟨Nat.zero_le _, Nat.zero_le _⟩ dX3_isGood_16 (fun r hr => ?_)
    obtain rfl : r = zb (0 ≤ ((c0 - (nI 48)).toInt64) ∧ ((c0 - (nI 48)).toInt64) ≤ 3) := hr
    refine z_topi (v := zb (inP 0 3 (c0 - (nI 48)))) (zb_iff (in64 (a := 0) (b := 3) (by decide) (by decide))) ?_
    refine lv_goto (tgt := 80) hx hb dX3_isGood_19 (by decide) ?_
    exact hq (zb (inP 0 3 (c0 - (nI 48)))) 80 ls dX3_isGood_80 (zb_cases _) (show (zb (inP 0 3 (c0 - (nI 48)))) = zb (goodP k c0) from good_0 c_7)
abbrev rm_c_X3_faultOf : Room := { frames := 2, cells := 0, slots := 0, locals := 47 }
set_option maxHeartbeats 4000000 in
set_option maxRecDepth 100000 in
theorem c_X3_faultOf (l : Launch) (dC : Nat → ClassId) (dI : Nat → Nat → Nat) (cI cZ : ClassId) (bd : Nat → Nat) (σ : St) (ξ : Nat → Int32) (tk sd : Int32) (kv : Nat → Int32) (hh : Int64) (P : Nat → Int32) (n : Nat) (hn0 : ξ 0 = nI n) (hn8 : n ≤ 8)  : Met l yX3_faultOf wsX3_faultOf rm_c_X3_faultOf (va_Pc [.ref (bd 0)] (fun U => va_P (dC, dI) vwCl ([bo bd σ ξ tk sd kv hh, (bd 1, .inl (cI, 8, .inl P))]) U.heap ∧ va_K (dC, dI) vwCl (tyIZ cI cZ) U)) (vp_Si (fun r : Int32 => r = nI (faultR P n))) 0 0 (fun _ => False) := by
  refine z_pureI (cc := cX3_faultOf) (maxL := 2) (av := [.ref (bd 0)]) (by decide) rfl (Nat.le_of_ble_eq_true rfl) ?_
  intro p e s m below meth c Q ls hx hb hml hown hts ⟨hP, hK⟩ hq hl
  have hown : s.vm.findClass RX3 = some m.cls := hown
  have hin3 : ∀ w ∈ wsX30, w ∈ wsX3_faultOf := fun _ h => List.mem_cons_of_mem _ (List.mem_append_right _ h)
  have L53 := hts (.fieldLink RX3 53 "BestBeastModel" "pageMany" "I") (List.mem_of_getElem? (i := 1) rfl)
  have L7 := hts (.fieldLink RX3 7 "BestBeastModel" "page" "[I") (List.mem_of_getElem? (i := 2) rfl)
  have hl : lv_has ls 2 [(0, .ref (bd 0))] := hl
  refine lv_iconst (v := nI 0) hx hb dX3_faultOf_0 (by decide) ?_
  refine lv_istore_n (lv' := [(1, .int (nI 0)), (0, .ref (bd 0))]) hx hb dX3_faultOf_1 rfl hl (by decide) rfl (fun ls hl => ?_)
  suffices hlp2 : ∀ (nf : Nat) (k : Nat) (x2_1 : Int32) (ls : Array Slot), (k ≤ n) → (faultR P k = k) → x2_1 = nI k → lv_has ls 2 [(1, .int x2_1), (0, .ref (bd 0))] → n - k < nf → W p l e rm_c_X3_faultOf s m ([.ref (bd 0)] : List Value).toArray below meth c s.heap [] 0 0 Q (F0 m 2 ls []) by
    exact hlp2 ((n - 0) + 1) 0 (nI 0) ls (by omega) rfl rfl (lv_sub hl [0, 1] rfl) (by omega)
  intro nf
  induction nf with
  | zero => intro k x2_1 ls hk hf e2_1 hl hn; omega
  | succ nf ih2 =>
    intro k x2_1 ls hk hf e2_1 hl hn
    subst e2_1
    refine lv_iload_n hx hb dX3_faultOf_2 rfl (lv_at hl 0 rfl) ?_
    refine lv_aload_n hx hb dX3_faultOf_3 rfl (lv_at hl 1 rfl) ?_
    refine va_get (D := (dC, dI)) (ci := 3) (v := .int (nI n)) (C := RX3) (T := TX3) (N := 24) hx hb hts hin3 hown hK hP 0 rfl rfl 1 (by decide) L53 (fun _ h9 => h9) (congrArg (fun z => some (Value.int z)) hn0) dX3_faultOf_4 ?_
    refine z_icmp_ge (a := k) (b := n) (tgt := 29) hx hb (by omega) (by omega) dX3_faultOf_7 (by decide) (fun (c_7 : n ≤ k) => ?_) (fun (c_7 : k < n) => ?_)
    · skip
      refine lv_iload_n hx hb dX3_faultOf_29 rfl (lv_at hl 0 rfl) ?_
      exact hq (nI k) 30 ls dX3_faultOf_30 (show (nI k) = nI (faultR P n) from (by rw [show n = k by omega, hf]))
    · skip
      refine lv_iload_n hx hb dX3_faultOf_10 rfl (lv_at hl 0 rfl) ?_
      refine lv_aload_n hx hb dX3_faultOf_11 rfl (lv_at hl 1 rfl) ?_
      refine va_get (D := (dC, dI)) (ci := 3) (v := .ref (bd 1)) (C := RX3) (T := TX3) (N := 24) hx hb hts hin3 hown hK hP 0 rfl rfl 0 (by decide) L7 (fun _ h9 => h9) rfl dX3_faultOf_12 ?_
      refine lv_iload_n hx hb dX3_faultOf_15 rfl (lv_at hl 0 rfl) ?_
      refine z_iald (D := (dC, dI)) hx hb hK hP 1 0 rfl rfl k (rfl) (by omega) (by omega) (v := P k) (rfl) dX3_faultOf_16 ?_
      refine z_callS (As := [.int (nI k), .int (P k)]) (rest := []) ⟨hx, hb, hml, hown, hts⟩ (c_X3_isGood l k (by omega) (P k)) (va_cwS 2 hts gX3_faultOf_X3_isGood rfl rfl rfl (by decide +kernel) ⟨Nat.le_of_ble_eq_true rfl, Nat.le_of_ble_eq_true rfl⟩) rfl hl.1 rfl (Nat.le_of_ble_eq_true rfl) ⟨Nat.zero_le _, Nat.zero_le _⟩ dX3_faultOf_17 (fun r hr => ?_)
      obtain rfl : r = zb (goodP k (P k)) := hr
      refine z_ifeq_b (P := goodP k (P k)) (tgt := 29) hx hb dX3_faultOf_20 (by decide) (fun (c_20 : ¬ (goodP k (P k))) => ?_) (fun (c_20 : goodP k (P k)) => ?_)
      · skip
        refine lv_iload_n hx hb dX3_faultOf_29 rfl (lv_at hl 0 rfl) ?_
        exact hq (nI k) 30 ls dX3_faultOf_30 (show (nI k) = nI (faultR P n) from (by rw [faultR_stop hf c_20 n c_7]))
      · skip
        refine lv_iinc (v := nI (k + 1)) (lv' := [(1, .int (nI (k + 1))), (0, .ref (bd 0))]) hx hb dX3_faultOf_23 hl (k := 0) rfl (nI_1 _) (by decide) rfl (fun ls hl => ?_)
        refine lv_goto (tgt := 2) hx hb dX3_faultOf_26 (by decide) ?_
        exact ih2 (k + 1) (nI (k + 1)) ls (by omega) (faultR_y hf c_20) (show nI (k + 1) = nI (k + 1) from rfl) (lv_sub hl [0, 1] rfl) (by omega)
abbrev rm_c_X3_fault : Room := { frames := 3, cells := 0, slots := 0, locals := 68 }
set_option maxHeartbeats 4000000 in
set_option maxRecDepth 100000 in
theorem c_X3_fault (l : Launch) (dC : Nat → ClassId) (dI : Nat → Nat → Nat) (cI cZ : ClassId) (bd : Nat → Nat) (σ : St) (ξ : Nat → Int32) (tk sd : Int32) (kv : Nat → Int32) (hh : Int64) (P : Nat → Int32) (n : Nat) (hn0 : ξ 0 = nI n) (hn8 : n ≤ 8)  : Met l yX3_fault wsX3_fault rm_c_X3_fault (va_Pc [.ref (bd 0)] (fun U => va_P (dC, dI) vwCl ([bo bd σ ξ tk sd kv hh, (bd 1, .inl (cI, 8, .inl P))]) U.heap ∧ va_K (dC, dI) vwCl (tyIZ cI cZ) U)) (vp_Si (fun r : Int32 => r = nI (faultR P n))) 0 0 (fun _ => False) := by
  refine z_pureI (cc := cX3_fault) (maxL := 1) (av := [.ref (bd 0)]) (by decide) rfl (Nat.le_of_ble_eq_true rfl) ?_
  intro p e s m below meth c Q ls hx hb hml hown hts ⟨hP, hK⟩ hq hl
  have hown : s.vm.findClass RX3 = some m.cls := hown
  have hin3 : ∀ w ∈ wsX30, w ∈ wsX3_fault := fun _ h => List.mem_cons_of_mem _ (List.mem_append_right _ h)
  have hl : lv_has ls 1 [(0, .ref (bd 0))] := hl
  refine lv_aload_n hx hb dX3_fault_0 rfl (lv_at hl 0 rfl) ?_
  refine z_callV (As := []) (rest := []) ⟨hx, hb, hml, hown, hts⟩ (c_X3_faultOf l dC dI cI cZ bd σ ξ tk sd kv hh P n hn0 hn8) (cwV 0 hts gX3_fault_X3_faultOf rfl rfl rfl (by decide +kernel) ⟨Nat.le_of_ble_eq_true rfl, Nat.le_of_ble_eq_true rfl⟩) hP hK (va_recv hK hP (ci := 3) (q0 := 0) rfl rfl) rfl hl.1 rfl (Nat.le_of_ble_eq_true rfl) ⟨Nat.zero_le _, Nat.zero_le _⟩ dX3_fault_1 (fun r hr => ?_)
  obtain rfl : r = nI (faultR P n) := hr
  exact hq (nI (faultR P n)) 4 ls dX3_fault_4 (show (nI (faultR P n)) = nI (faultR P n) from rfl)
abbrev rm_c_X3_letter : Room := { frames := 1, cells := 0, slots := 0, locals := 25 }
set_option maxHeartbeats 4000000 in
set_option maxRecDepth 100000 in
theorem c_X3_letter (l : Launch) (dC : Nat → ClassId) (dI : Nat → Nat → Nat) (cI cZ : ClassId) (bd : Nat → Nat) (σ : St) (ξ : Nat → Int32) (tk sd : Int32) (kv : Nat → Int32) (hh : Int64) (P : Nat → Int32) (n : Nat) (hn0 : ξ 0 = nI n) (hn8 : n ≤ 8) (code : Int32) (sz : Nat) : Met l yX3_letter wsX3_letter rm_c_X3_letter (va_Pc [.ref (bd 0), .int code] (zPre (dC, dI) vwCl (tyIZ cI cZ) ([bo bd σ ξ tk sd kv hh, (bd 1, .inl (cI, 8, .inl P))]) sz (fun _ => True))) (va_Qi (fun (r : Int32) (u : (Nat → Int32) × (Nat → Int32)) => r = (letterF P ξ n code).1 ∧ u = (letterF P ξ n code).2) (zPost (dC, dI) vwCl (tyIZ cI cZ) ([bo bd σ ξ tk sd kv hh, (bd 1, .inl (cI, 8, .inl P))]) sz (fun (u : (Nat → Int32) × (Nat → Int32)) => [bo bd σ u.2 tk sd kv hh, (bd 1, .inl (cI, 8, .inl u.1))])) (va_A ([bo bd σ ξ tk sd kv hh, (bd 1, .inl (cI, 8, .inl P))]) sz)) 0 0 (va_A ([bo bd σ ξ tk sd kv hh, (bd 1, .inl (cI, 8, .inl P))]) sz) := by
  refine z_impI (cc := cX3_letter) (maxL := 2) (av := [.ref (bd 0), .int code]) (by decide) rfl (Nat.le_of_ble_eq_true rfl) ?_
  intro p e s m below meth c Q A ls hx hb hml hown hts hBs hP hK hD hS hA hAB hq hl
  have hown : s.vm.findClass RX3 = some m.cls := hown
  have hin3 : ∀ w ∈ wsX30, w ∈ wsX3_letter := fun _ h => List.mem_cons_of_mem _ (List.mem_append_right _ h)
  have L47 := hts (.constantLong RX3 47 (126)) (List.mem_of_getElem? (i := 1) rfl)
  have L53 := hts (.fieldLink RX3 53 "BestBeastModel" "pageMany" "I") (List.mem_of_getElem? (i := 2) rfl)
  have L7 := hts (.fieldLink RX3 7 "BestBeastModel" "page" "[I") (List.mem_of_getElem? (i := 3) rfl)
  have hl : lv_has ls 2 [(0, .ref (bd 0)), (1, .int code)] := hl
  refine lv_iload_n hx hb dX3_letter_0 rfl (lv_at hl 1 rfl) ?_
  refine lv_i2l (v := code.toInt64) hx hb dX3_letter_1 (rfl) ?_
  refine lv_lconst (v := 1) hx hb dX3_letter_2 (by decide) ?_
  refine lv_ldc2 hx hb hown L47 dX3_letter_3 ?_
  refine z_callS (As := [.long code.toInt64, .long 1, .long 126]) (rest := []) ⟨hx, hb, hml, hown, hts⟩ (c_X3_in l code.toInt64 1 126) (va_cwS 3 hts gX3_letter_X3_in rfl rfl rfl (by decide +kernel) ⟨Nat.le_of_ble_eq_true rfl, Nat.le_of_ble_eq_true rfl⟩) rfl hl.1 rfl (Nat.le_of_ble_eq_true rfl) ⟨Nat.zero_le _, Nat.zero_le _⟩ dX3_letter_6 (fun r hr => ?_)
  obtain rfl : r = zb (1 ≤ code.toInt64 ∧ code.toInt64 ≤ 126) := hr
  refine z_topi (v := zb (inP 1 126 code)) (zb_iff (in64 (a := 1) (b := 126) (by decide) (by decide))) ?_
  refine z_ifne_b (P := inP 1 126 code) (tgt := 15) hx hb dX3_letter_9 (by decide) (fun (c_9 : inP 1 126 code) => ?_) (fun (c_9 : ¬ (inP 1 126 code)) => ?_)
  · skip
    refine lv_aload_n hx hb dX3_letter_15 rfl (lv_at hl 0 rfl) ?_
    refine va_get (D := (dC, dI)) (ci := 3) (v := .int (nI n)) (C := RX3) (T := TX3) (N := 24) hx hb hts hin3 hown hK hP 0 rfl rfl 1 (by decide) L53 (fun _ h9 => h9) (congrArg (fun z => some (Value.int z)) hn0) dX3_letter_16 ?_
    refine lv_bipush (v := nI 8) hx hb dX3_letter_19 (by decide) ?_
    refine z_icmp_ne (a := n) (b := 8) (tgt := 27) hx hb (by omega) (by omega) dX3_letter_21 (by decide) (fun (c_21 : n ≠ 8) => ?_) (fun (c_21 : n = 8) => ?_)
    · skip
      refine lv_aload_n hx hb dX3_letter_27 rfl (lv_at hl 0 rfl) ?_
      refine va_get (D := (dC, dI)) (ci := 3) (v := .ref (bd 1)) (C := RX3) (T := TX3) (N := 24) hx hb hts hin3 hown hK hP 0 rfl rfl 0 (by decide) L7 (fun _ h9 => h9) rfl dX3_letter_28 ?_
      refine lv_aload_n hx hb dX3_letter_31 rfl (lv_at hl 0 rfl) ?_
      refine va_get (D := (dC, dI)) (ci := 3) (v := .int (nI n)) (C := RX3) (T := TX3) (N := 24) hx hb hts hin3 hown hK hP 0 rfl rfl 1 (by decide) L53 (fun _ h9 => h9) (congrArg (fun z => some (Value.int z)) hn0) dX3_letter_32 ?_
      refine lv_iload_n hx hb dX3_letter_35 rfl (lv_at hl 1 rfl) ?_
      refine z_iast (D := (dC, dI)) hx hb hK hP hD hS 1 0 rfl rfl n (rfl) (by omega) (by omega) (f' := upd P n code) (rfl) dX3_letter_36 (fun H locs hP hD hS => ?_)
      have hP : va_P (dC, dI) vwCl ([bo bd σ ξ tk sd kv hh, (bd 1, .inl (cI, 8, .inl (upd P n code)))]) H := hP
      have hD : va_D A ([bo bd σ ξ tk sd kv hh, (bd 1, .inl (cI, 8, .inl (upd P n code)))]) := hD
      refine lv_aload_n hx hb dX3_letter_37 rfl (lv_at hl 0 rfl) ?_
      refine lv_dup hx hb dX3_letter_38 rfl ?_
      refine va_get (D := (dC, dI)) (ci := 3) (v := .int (nI n)) (C := RX3) (T := TX3) (N := 24) hx hb hts hin3 hown hK hP 0 rfl rfl 1 (by decide) L53 (fun _ h9 => h9) (congrArg (fun z => some (Value.int z)) hn0) dX3_letter_39 ?_
      refine lv_iconst (v := nI 1) hx hb dX3_letter_42 (by decide) ?_
      refine z_iadd (v := nI (n + 1)) hx hb dX3_letter_43 (nI_add _ _) ?_
      refine va_put (D := (dC, dI)) (ci := 3) (v := .int (nI (n + 1))) (ty := .int) (C := RX3) (T := TX3) (N := 24) hx hb hts hin3 tyX3 tyX3_ok nmX3 hown hK hP hD hS 0 rfl rfl 1 (by decide) L53 (fun _ h9 => h9) rfl (by decide +kernel) rfl rfl (Nat.le_of_ble_eq_true rfl) dX3_letter_44 (fun H locs hP hD hS => ?_)
      have hP : va_P (dC, dI) vwCl ([bo bd σ (upd ξ 0 (nI (n + 1))) tk sd kv hh, (bd 1, .inl (cI, 8, .inl (upd P n code)))]) H := hP
      have hD : va_D A ([bo bd σ (upd ξ 0 (nI (n + 1))) tk sd kv hh, (bd 1, .inl (cI, 8, .inl (upd P n code)))]) := hD
      refine lv_aload_n hx hb dX3_letter_47 rfl (lv_at hl 0 rfl) ?_
      refine va_get (D := (dC, dI)) (ci := 3) (v := .int (nI (n + 1))) (C := RX3) (T := TX3) (N := 24) hx hb hts hin3 hown hK hP 0 rfl rfl 1 (by decide) L53 (fun _ h9 => h9) rfl dX3_letter_48 ?_
      exact hq (nI (n + 1)) (upd P n code, upd ξ 0 (nI (n + 1))) _ _ 51 ls dX3_letter_51 (show (nI (n + 1)) = (letterF P ξ n code).1 ∧ (upd P n code, upd ξ 0 (nI (n + 1))) = (letterF P ξ n code).2 from ⟨(by unfold letterF; rw [zif_t c_9, if_neg c_21]), (by unfold letterF; rw [zif_t c_9, if_neg c_21])⟩) hP hD hS
    · skip
      refine lv_bipush (v := (-104)) hx hb dX3_letter_24 (by decide) ?_
      exact hq (-104) (P, ξ) _ _ 26 ls dX3_letter_26 (show (-104) = (letterF P ξ n code).1 ∧ (P, ξ) = (letterF P ξ n code).2 from ⟨(by unfold letterF; rw [zif_t c_9, if_pos c_21]), (by unfold letterF; rw [zif_t c_9, if_pos c_21])⟩) hP hD hS
  · skip
    refine lv_bipush (v := (-102)) hx hb dX3_letter_12 (by decide) ?_
    exact hq (-102) (P, ξ) _ _ 14 ls dX3_letter_14 (show (-102) = (letterF P ξ n code).1 ∧ (P, ξ) = (letterF P ξ n code).2 from ⟨(by unfold letterF; rw [zif_f c_9]), (by unfold letterF; rw [zif_f c_9])⟩) hP hD hS
abbrev rm_c_X3_blank : Room := { frames := 0, cells := 0, slots := 0, locals := 0 }
set_option maxHeartbeats 4000000 in
set_option maxRecDepth 100000 in
theorem c_X3_blank (l : Launch) (dC : Nat → ClassId) (dI : Nat → Nat → Nat) (cI cZ : ClassId) (bd : Nat → Nat) (σ : St) (ξ : Nat → Int32) (tk sd : Int32) (kv : Nat → Int32) (hh : Int64)  (sz : Nat) : Met l yX3_blank wsX3_blank rm_c_X3_blank (va_Pc [.ref (bd 0)] (zPre (dC, dI) vwCl (tyIZ cI cZ) ([bo bd σ ξ tk sd kv hh]) sz (fun _ => True))) (va_Qi (fun (r : Int32) (u : Nat → Int32) => r = ξ 0 ∧ u = upd ξ 0 (nI 0)) (zPost (dC, dI) vwCl (tyIZ cI cZ) ([bo bd σ ξ tk sd kv hh]) sz (fun (u : Nat → Int32) => [bo bd σ u tk sd kv hh])) (va_A ([bo bd σ ξ tk sd kv hh]) sz)) 0 0 (va_A ([bo bd σ ξ tk sd kv hh]) sz) := by
  refine z_impI (cc := cX3_blank) (maxL := 2) (av := [.ref (bd 0)]) (by decide) rfl (Nat.le_of_ble_eq_true rfl) ?_
  intro p e s m below meth c Q A ls hx hb hml hown hts hBs hP hK hD hS hA hAB hq hl
  have hown : s.vm.findClass RX3 = some m.cls := hown
  have hin3 : ∀ w ∈ wsX30, w ∈ wsX3_blank := fun _ h => List.mem_cons_of_mem _ (List.mem_append_right _ h)
  have L53 := hts (.fieldLink RX3 53 "BestBeastModel" "pageMany" "I") (List.mem_of_getElem? (i := 1) rfl)
  have hl : lv_has ls 2 [(0, .ref (bd 0))] := hl
  refine lv_aload_n hx hb dX3_blank_0 rfl (lv_at hl 0 rfl) ?_
  refine va_get (D := (dC, dI)) (ci := 3) (v := .int (ξ 0)) (C := RX3) (T := TX3) (N := 24) hx hb hts hin3 hown hK hP 0 rfl rfl 1 (by decide) L53 (fun _ h9 => h9) rfl dX3_blank_1 ?_
  refine lv_istore_n (lv' := [(1, .int (ξ 0)), (0, .ref (bd 0))]) hx hb dX3_blank_4 rfl hl (by decide) rfl (fun ls hl => ?_)
  refine lv_aload_n hx hb dX3_blank_5 rfl (lv_at hl 1 rfl) ?_
  refine lv_iconst (v := nI 0) hx hb dX3_blank_6 (by decide) ?_
  refine va_put (D := (dC, dI)) (ci := 3) (v := .int (nI 0)) (ty := .int) (C := RX3) (T := TX3) (N := 24) hx hb hts hin3 tyX3 tyX3_ok nmX3 hown hK hP hD hS 0 rfl rfl 1 (by decide) L53 (fun _ h9 => h9) rfl (by decide +kernel) rfl rfl (Nat.le_of_ble_eq_true rfl) dX3_blank_7 (fun H locs hP hD hS => ?_)
  have hP : va_P (dC, dI) vwCl ([bo bd σ (upd ξ 0 (nI 0)) tk sd kv hh]) H := hP
  have hD : va_D A ([bo bd σ (upd ξ 0 (nI 0)) tk sd kv hh]) := hD
  refine lv_iload_n hx hb dX3_blank_10 rfl (lv_at hl 0 rfl) ?_
  exact hq (ξ 0) (upd ξ 0 (nI 0)) _ _ 11 ls dX3_blank_11 (show (ξ 0) = ξ 0 ∧ (upd ξ 0 (nI 0)) = upd ξ 0 (nI 0) from ⟨rfl, rfl⟩) hP hD hS
abbrev rm_c_X3_law : Room := { frames := 3, cells := 0, slots := 0, locals := 68 }
set_option maxHeartbeats 4000000 in
set_option maxRecDepth 100000 in
theorem c_X3_law (l : Launch) (dC : Nat → ClassId) (dI : Nat → Nat → Nat) (cI cZ : ClassId) (bd : Nat → Nat) (σ : St) (ξ : Nat → Int32) (sd : Int32) (kv : Nat → Int32) (hh : Int64) (P : Nat → Int32) (n : Nat) (hn0 : ξ 0 = nI n) (hn8 : n ≤ 8)  (sz : Nat) : Met l yX3_law wsX3_law rm_c_X3_law (va_Pc [.ref (bd 0)] (zPre (dC, dI) vwCl (tyIZ cI cZ) ([bo bd σ ξ (σ 0 7) sd kv hh, (bd 1, .inl (cI, 8, .inl P))]) sz (fun _ => True))) (va_Qi (fun (r : Int32) (u : St × (Nat → Int32)) => r = (lawF σ P ξ n).1 ∧ u = (lawF σ P ξ n).2) (zPost (dC, dI) vwCl (tyIZ cI cZ) ([bo bd σ ξ (σ 0 7) sd kv hh, (bd 1, .inl (cI, 8, .inl P))]) sz (fun (u : St × (Nat → Int32)) => [bo bd u.1 u.2 (u.1 0 7) sd kv hh, (bd 1, .inl (cI, 8, .inl P))])) (va_A ([bo bd σ ξ (σ 0 7) sd kv hh, (bd 1, .inl (cI, 8, .inl P))]) sz)) 0 0 (va_A ([bo bd σ ξ (σ 0 7) sd kv hh, (bd 1, .inl (cI, 8, .inl P))]) sz) := by
  refine z_impI (cc := cX3_law) (maxL := 1) (av := [.ref (bd 0)]) (by decide) rfl (Nat.le_of_ble_eq_true rfl) ?_
  intro p e s m below meth c Q A ls hx hb hml hown hts hBs hP hK hD hS hA hAB hq hl
  have hown : s.vm.findClass RX3 = some m.cls := hown
  have hin3 : ∀ w ∈ wsX30, w ∈ wsX3_law := fun _ h => List.mem_cons_of_mem _ (List.mem_append_right _ h)
  have L53 := hts (.fieldLink RX3 53 "BestBeastModel" "pageMany" "I") (List.mem_of_getElem? (i := 1) rfl)
  have L7 := hts (.fieldLink RX3 7 "BestBeastModel" "page" "[I") (List.mem_of_getElem? (i := 2) rfl)
  have L34 := hts (.fieldLink RX3 34 "BestBeastModel" "lord" "I") (List.mem_of_getElem? (i := 3) rfl)
  have L38 := hts (.fieldLink RX3 38 "BestBeastModel" "church" "I") (List.mem_of_getElem? (i := 4) rfl)
  have L41 := hts (.fieldLink RX3 41 "BestBeastModel" "voidYears" "I") (List.mem_of_getElem? (i := 5) rfl)
  have L70 := hts (.fieldLink RX3 70 "BestBeastModel" "least" "I") (List.mem_of_getElem? (i := 6) rfl)
  have L73 := hts (.fieldLink RX3 73 "BestBeastModel" "lawsRead" "I") (List.mem_of_getElem? (i := 7) rfl)
  have hfl := faultR_le P n
  have hl : lv_has ls 1 [(0, .ref (bd 0))] := hl
  refine lv_aload_n hx hb dX3_law_0 rfl (lv_at hl 0 rfl) ?_
  refine va_get (D := (dC, dI)) (ci := 3) (v := .int (nI n)) (C := RX3) (T := TX3) (N := 24) hx hb hts hin3 hown hK hP 0 rfl rfl 1 (by decide) L53 (fun _ h9 => h9) (congrArg (fun z => some (Value.int z)) hn0) dX3_law_1 ?_
  refine lv_iconst (v := nI 5) hx hb dX3_law_4 (by decide) ?_
  refine z_icmp_ne (a := n) (b := 5) (tgt := 16) hx hb (by omega) (by omega) dX3_law_5 (by decide) (fun (c_5 : n ≠ 5) => ?_) (fun (c_5 : n = 5) => ?_)
  · skip
    refine lv_bipush (v := (-103)) hx hb dX3_law_16 (by decide) ?_
    exact hq (-103) (σ, ξ) _ _ 18 ls dX3_law_18 (show (-103) = (lawF σ P ξ n).1 ∧ (σ, ξ) = (lawF σ P ξ n).2 from ⟨(by unfold lawF; rw [zif_f (fun z => c_5 z.1)]), (by unfold lawF; rw [zif_f (fun z => c_5 z.1)])⟩) hP hD hS
  · skip
    refine lv_aload_n hx hb dX3_law_8 rfl (lv_at hl 0 rfl) ?_
    refine z_callV (As := []) (rest := []) ⟨hx, hb, hml, hown, hts⟩ (c_X3_faultOf l dC dI cI cZ bd σ ξ (σ 0 7) sd kv hh P n hn0 hn8) (cwV 0 hts gX3_law_X3_faultOf rfl rfl rfl (by decide +kernel) ⟨Nat.le_of_ble_eq_true rfl, Nat.le_of_ble_eq_true rfl⟩) hP hK (va_recv hK hP (ci := 3) (q0 := 0) rfl rfl) rfl hl.1 rfl (Nat.le_of_ble_eq_true rfl) ⟨Nat.zero_le _, Nat.zero_le _⟩ dX3_law_9 (fun r hr => ?_)
    obtain rfl : r = nI (faultR P n) := hr
    refine lv_iconst (v := nI 5) hx hb dX3_law_12 (by decide) ?_
    refine z_icmp_ge (a := faultR P n) (b := 5) (tgt := 19) hx hb (by omega) (by omega) dX3_law_13 (by decide) (fun (c_13 : 5 ≤ (faultR P n)) => ?_) (fun (c_13 : (faultR P n) < 5) => ?_)
    · skip
      refine lv_aload_n hx hb dX3_law_19 rfl (lv_at hl 0 rfl) ?_
      refine lv_aload_n hx hb dX3_law_20 rfl (lv_at hl 0 rfl) ?_
      refine va_get (D := (dC, dI)) (ci := 3) (v := .ref (bd 1)) (C := RX3) (T := TX3) (N := 24) hx hb hts hin3 hown hK hP 0 rfl rfl 0 (by decide) L7 (fun _ h9 => h9) rfl dX3_law_21 ?_
      refine lv_iconst (v := nI 0) hx hb dX3_law_24 (by decide) ?_
      refine z_iald (D := (dC, dI)) hx hb hK hP 1 0 rfl rfl 0 (rfl) (by omega) (by omega) (v := P 0) (rfl) dX3_law_25 ?_
      refine lv_bipush (v := nI 48) hx hb dX3_law_26 (by decide) ?_
      refine z_isub (v := (P 0) - (nI 48)) hx hb dX3_law_28 (rfl) ?_
      refine va_put (D := (dC, dI)) (ci := 3) (v := .int ((P 0) - (nI 48))) (ty := .int) (C := RX3) (T := TX3) (N := 24) hx hb hts hin3 tyX3 tyX3_ok nmX3 hown hK hP hD hS 0 rfl rfl 2 (by decide) L34 (fun _ h9 => h9) rfl (by decide +kernel) rfl rfl (Nat.le_of_ble_eq_true rfl) dX3_law_29 (fun H locs hP hD hS => ?_)
      have hP : va_P (dC, dI) vwCl ([bo bd (up2 σ 0 0 ((P 0) - (nI 48))) ξ (σ 0 7) sd kv hh, (bd 1, .inl (cI, 8, .inl P))]) H := hP
      have hD : va_D A ([bo bd (up2 σ 0 0 ((P 0) - (nI 48))) ξ (σ 0 7) sd kv hh, (bd 1, .inl (cI, 8, .inl P))]) := hD
      refine lv_aload_n hx hb dX3_law_32 rfl (lv_at hl 0 rfl) ?_
      refine lv_aload_n hx hb dX3_law_33 rfl (lv_at hl 0 rfl) ?_
      refine va_get (D := (dC, dI)) (ci := 3) (v := .ref (bd 1)) (C := RX3) (T := TX3) (N := 24) hx hb hts hin3 hown hK hP 0 rfl rfl 0 (by decide) L7 (fun _ h9 => h9) rfl dX3_law_34 ?_
      refine lv_iconst (v := nI 1) hx hb dX3_law_37 (by decide) ?_
      refine z_iald (D := (dC, dI)) hx hb hK hP 1 0 rfl rfl 1 (rfl) (by omega) (by omega) (v := P 1) (rfl) dX3_law_38 ?_
      refine lv_bipush (v := nI 48) hx hb dX3_law_39 (by decide) ?_
      refine z_isub (v := (P 1) - (nI 48)) hx hb dX3_law_41 (rfl) ?_
      refine va_put (D := (dC, dI)) (ci := 3) (v := .int ((P 1) - (nI 48))) (ty := .int) (C := RX3) (T := TX3) (N := 24) hx hb hts hin3 tyX3 tyX3_ok nmX3 hown hK hP hD hS 0 rfl rfl 3 (by decide) L38 (fun _ h9 => h9) rfl (by decide +kernel) rfl rfl (Nat.le_of_ble_eq_true rfl) dX3_law_42 (fun H locs hP hD hS => ?_)
      have hP : va_P (dC, dI) vwCl ([bo bd (up2 (up2 σ 0 0 ((P 0) - (nI 48))) 0 1 ((P 1) - (nI 48))) ξ (σ 0 7) sd kv hh, (bd 1, .inl (cI, 8, .inl P))]) H := hP
      have hD : va_D A ([bo bd (up2 (up2 σ 0 0 ((P 0) - (nI 48))) 0 1 ((P 1) - (nI 48))) ξ (σ 0 7) sd kv hh, (bd 1, .inl (cI, 8, .inl P))]) := hD
      refine lv_aload_n hx hb dX3_law_45 rfl (lv_at hl 0 rfl) ?_
      refine lv_aload_n hx hb dX3_law_46 rfl (lv_at hl 0 rfl) ?_
      refine va_get (D := (dC, dI)) (ci := 3) (v := .ref (bd 1)) (C := RX3) (T := TX3) (N := 24) hx hb hts hin3 hown hK hP 0 rfl rfl 0 (by decide) L7 (fun _ h9 => h9) rfl dX3_law_47 ?_
      refine lv_iconst (v := nI 2) hx hb dX3_law_50 (by decide) ?_
      refine z_iald (D := (dC, dI)) hx hb hK hP 1 0 rfl rfl 2 (rfl) (by omega) (by omega) (v := P 2) (rfl) dX3_law_51 ?_
      refine lv_bipush (v := nI 48) hx hb dX3_law_52 (by decide) ?_
      refine z_isub (v := (P 2) - (nI 48)) hx hb dX3_law_54 (rfl) ?_
      refine va_put (D := (dC, dI)) (ci := 3) (v := .int ((P 2) - (nI 48))) (ty := .int) (C := RX3) (T := TX3) (N := 24) hx hb hts hin3 tyX3 tyX3_ok nmX3 hown hK hP hD hS 0 rfl rfl 4 (by decide) L41 (fun _ h9 => h9) rfl (by decide +kernel) rfl rfl (Nat.le_of_ble_eq_true rfl) dX3_law_55 (fun H locs hP hD hS => ?_)
      have hP : va_P (dC, dI) vwCl ([bo bd (up2 (up2 (up2 σ 0 0 ((P 0) - (nI 48))) 0 1 ((P 1) - (nI 48))) 0 2 ((P 2) - (nI 48))) ξ (σ 0 7) sd kv hh, (bd 1, .inl (cI, 8, .inl P))]) H := hP
      have hD : va_D A ([bo bd (up2 (up2 (up2 σ 0 0 ((P 0) - (nI 48))) 0 1 ((P 1) - (nI 48))) 0 2 ((P 2) - (nI 48))) ξ (σ 0 7) sd kv hh, (bd 1, .inl (cI, 8, .inl P))]) := hD
      refine lv_aload_n hx hb dX3_law_58 rfl (lv_at hl 0 rfl) ?_
      refine lv_aload_n hx hb dX3_law_59 rfl (lv_at hl 0 rfl) ?_
      refine va_get (D := (dC, dI)) (ci := 3) (v := .ref (bd 1)) (C := RX3) (T := TX3) (N := 24) hx hb hts hin3 hown hK hP 0 rfl rfl 0 (by decide) L7 (fun _ h9 => h9) rfl dX3_law_60 ?_
      refine lv_iconst (v := nI 4) hx hb dX3_law_63 (by decide) ?_
      refine z_iald (D := (dC, dI)) hx hb hK hP 1 0 rfl rfl 4 (rfl) (by omega) (by omega) (v := P 4) (rfl) dX3_law_64 ?_
      refine lv_bipush (v := nI 48) hx hb dX3_law_65 (by decide) ?_
      refine z_isub (v := (P 4) - (nI 48)) hx hb dX3_law_67 (rfl) ?_
      refine va_put (D := (dC, dI)) (ci := 3) (v := .int ((P 4) - (nI 48))) (ty := .int) (C := RX3) (T := TX3) (N := 24) hx hb hts hin3 tyX3 tyX3_ok nmX3 hown hK hP hD hS 0 rfl rfl 5 (by decide) L70 (fun _ h9 => h9) rfl (by decide +kernel) rfl rfl (Nat.le_of_ble_eq_true rfl) dX3_law_68 (fun H locs hP hD hS => ?_)
      have hP : va_P (dC, dI) vwCl ([bo bd (up2 (up2 (up2 (up2 σ 0 0 ((P 0) - (nI 48))) 0 1 ((P 1) - (nI 48))) 0 2 ((P 2) - (nI 48))) 0 3 ((P 4) - (nI 48))) ξ (σ 0 7) sd kv hh, (bd 1, .inl (cI, 8, .inl P))]) H := hP
      have hD : va_D A ([bo bd (up2 (up2 (up2 (up2 σ 0 0 ((P 0) - (nI 48))) 0 1 ((P 1) - (nI 48))) 0 2 ((P 2) - (nI 48))) 0 3 ((P 4) - (nI 48))) ξ (σ 0 7) sd kv hh, (bd 1, .inl (cI, 8, .inl P))]) := hD
      refine lv_aload_n hx hb dX3_law_71 rfl (lv_at hl 0 rfl) ?_
      refine lv_dup hx hb dX3_law_72 rfl ?_
      refine va_get (D := (dC, dI)) (ci := 3) (v := .int (ξ 1)) (C := RX3) (T := TX3) (N := 24) hx hb hts hin3 hown hK hP 0 rfl rfl 6 (by decide) L73 (fun _ h9 => h9) rfl dX3_law_73 ?_
      refine lv_iconst (v := nI 1) hx hb dX3_law_76 (by decide) ?_
      refine z_iadd (v := (ξ 1) + (nI 1)) hx hb dX3_law_77 (rfl) ?_
      refine va_put (D := (dC, dI)) (ci := 3) (v := .int ((ξ 1) + (nI 1))) (ty := .int) (C := RX3) (T := TX3) (N := 24) hx hb hts hin3 tyX3 tyX3_ok nmX3 hown hK hP hD hS 0 rfl rfl 6 (by decide) L73 (fun _ h9 => h9) rfl (by decide +kernel) rfl rfl (Nat.le_of_ble_eq_true rfl) dX3_law_78 (fun H locs hP hD hS => ?_)
      have hP : va_P (dC, dI) vwCl ([bo bd (up2 (up2 (up2 (up2 σ 0 0 ((P 0) - (nI 48))) 0 1 ((P 1) - (nI 48))) 0 2 ((P 2) - (nI 48))) 0 3 ((P 4) - (nI 48))) (upd ξ 1 ((ξ 1) + (nI 1))) (σ 0 7) sd kv hh, (bd 1, .inl (cI, 8, .inl P))]) H := hP
      have hD : va_D A ([bo bd (up2 (up2 (up2 (up2 σ 0 0 ((P 0) - (nI 48))) 0 1 ((P 1) - (nI 48))) 0 2 ((P 2) - (nI 48))) 0 3 ((P 4) - (nI 48))) (upd ξ 1 ((ξ 1) + (nI 1))) (σ 0 7) sd kv hh, (bd 1, .inl (cI, 8, .inl P))]) := hD
      refine lv_aload_n hx hb dX3_law_81 rfl (lv_at hl 0 rfl) ?_
      refine lv_iconst (v := nI 0) hx hb dX3_law_82 (by decide) ?_
      refine va_put (D := (dC, dI)) (ci := 3) (v := .int (nI 0)) (ty := .int) (C := RX3) (T := TX3) (N := 24) hx hb hts hin3 tyX3 tyX3_ok nmX3 hown hK hP hD hS 0 rfl rfl 1 (by decide) L53 (fun _ h9 => h9) rfl (by decide +kernel) rfl rfl (Nat.le_of_ble_eq_true rfl) dX3_law_83 (fun H locs hP hD hS => ?_)
      have hP : va_P (dC, dI) vwCl ([bo bd (up2 (up2 (up2 (up2 σ 0 0 ((P 0) - (nI 48))) 0 1 ((P 1) - (nI 48))) 0 2 ((P 2) - (nI 48))) 0 3 ((P 4) - (nI 48))) (upd (upd ξ 1 ((ξ 1) + (nI 1))) 0 (nI 0)) (σ 0 7) sd kv hh, (bd 1, .inl (cI, 8, .inl P))]) H := hP
      have hD : va_D A ([bo bd (up2 (up2 (up2 (up2 σ 0 0 ((P 0) - (nI 48))) 0 1 ((P 1) - (nI 48))) 0 2 ((P 2) - (nI 48))) 0 3 ((P 4) - (nI 48))) (upd (upd ξ 1 ((ξ 1) + (nI 1))) 0 (nI 0)) (σ 0 7) sd kv hh, (bd 1, .inl (cI, 8, .inl P))]) := hD
      refine lv_aload_n hx hb dX3_law_86 rfl (lv_at hl 0 rfl) ?_
      refine va_get (D := (dC, dI)) (ci := 3) (v := .int ((ξ 1) + (nI 1))) (C := RX3) (T := TX3) (N := 24) hx hb hts hin3 hown hK hP 0 rfl rfl 6 (by decide) L73 (fun _ h9 => h9) rfl dX3_law_87 ?_
      have hP : va_P (dC, dI) vwCl ([bo bd (lawS σ P) (upd (upd ξ 0 (nI 0)) 1 (ξ 1 + nI 1)) (lawS σ P 0 7) sd kv hh, (bd 1, .inl (cI, 8, .inl P))]) H := hP
      have hD : va_D A ([bo bd (lawS σ P) (upd (upd ξ 0 (nI 0)) 1 (ξ 1 + nI 1)) (lawS σ P 0 7) sd kv hh, (bd 1, .inl (cI, 8, .inl P))]) := hD
      exact hq ((ξ 1) + (nI 1)) (lawS σ P, upd (upd ξ 0 (nI 0)) 1 (ξ 1 + nI 1)) _ _ 90 ls dX3_law_90 (show ((ξ 1) + (nI 1)) = (lawF σ P ξ n).1 ∧ (lawS σ P, upd (upd ξ 0 (nI 0)) 1 (ξ 1 + nI 1)) = (lawF σ P ξ n).2 from ⟨(by unfold lawF; rw [zif_t ⟨c_5, (by rw [c_5] at c_13 hfl; omega)⟩]), (by unfold lawF; rw [zif_t ⟨c_5, (by rw [c_5] at c_13 hfl; omega)⟩])⟩) hP hD hS
    · skip
      refine lv_bipush (v := (-103)) hx hb dX3_law_16 (by decide) ?_
      exact hq (-103) (σ, ξ) _ _ 18 ls dX3_law_18 (show (-103) = (lawF σ P ξ n).1 ∧ (σ, ξ) = (lawF σ P ξ n).2 from ⟨(by unfold lawF; rw [zif_f (fun z => absurd z.2 (by rw [c_5] at c_13; omega))]), (by unfold lawF; rw [zif_f (fun z => absurd z.2 (by rw [c_5] at c_13; omega))])⟩) hP hD hS
abbrev rm_c_X3_draw : Room := { frames := 0, cells := 0, slots := 0, locals := 0 }
set_option maxHeartbeats 4000000 in
set_option maxRecDepth 100000 in
theorem c_X3_draw (l : Launch) (dC : Nat → ClassId) (dI : Nat → Nat → Nat) (cI cZ : ClassId) (bd : Nat → Nat) (σ : St) (ξ : Nat → Int32) (tk sd : Int32) (kv : Nat → Int32) (hh : Int64) (n : Nat) (hn1 : 1 ≤ n) (hn : n ≤ 10) (sz : Nat) : Met l yX3_draw wsX3_draw rm_c_X3_draw (va_Pc [.ref (bd 0), .int (nI n)] (zPre (dC, dI) vwCl (tyIZ cI cZ) ([bo bd σ ξ tk sd kv hh]) sz (fun _ => True))) (va_Qi (fun (r : Int32) (u : Int32) => r = drawF (seedF sd) (nI n) ∧ u = seedF sd) (zPost (dC, dI) vwCl (tyIZ cI cZ) ([bo bd σ ξ tk sd kv hh]) sz (fun (u : Int32) => [bo bd σ ξ tk u kv hh])) (va_A ([bo bd σ ξ tk sd kv hh]) sz)) 0 0 (va_A ([bo bd σ ξ tk sd kv hh]) sz) := by
  refine z_impI (cc := cX3_draw) (maxL := 2) (av := [.ref (bd 0), .int (nI n)]) (by decide) rfl (Nat.le_of_ble_eq_true rfl) ?_
  intro p e s m below meth c Q A ls hx hb hml hown hts hBs hP hK hD hS hA hAB hq hl
  have hown : s.vm.findClass RX3 = some m.cls := hown
  have hin3 : ∀ w ∈ wsX30, w ∈ wsX3_draw := fun _ h => List.mem_cons_of_mem _ (List.mem_append_right _ h)
  have L169 := hts (.constantLong RX3 169 (1103515245)) (List.mem_of_getElem? (i := 1) rfl)
  have L171 := hts (.fieldLink RX3 171 "BestBeastModel" "seedNow" "I") (List.mem_of_getElem? (i := 2) rfl)
  have L174 := hts (.constantLong RX3 174 (12345)) (List.mem_of_getElem? (i := 3) rfl)
  have L176 := hts (.constantLong RX3 176 (2147483647)) (List.mem_of_getElem? (i := 4) rfl)
  have L178 := hts (.constant RX3 178 (65536)) (List.mem_of_getElem? (i := 5) rfl)
  have hl : lv_has ls 2 [(0, .ref (bd 0)), (1, .int (nI n))] := hl
  refine lv_aload_n hx hb dX3_draw_0 rfl (lv_at hl 0 rfl) ?_
  refine lv_ldc2 hx hb hown L169 dX3_draw_1 ?_
  refine lv_aload_n hx hb dX3_draw_4 rfl (lv_at hl 0 rfl) ?_
  refine va_get (D := (dC, dI)) (ci := 3) (v := .int sd) (C := RX3) (T := TX3) (N := 24) hx hb hts hin3 hown hK hP 0 rfl rfl 13 (by decide) L171 (fun _ h9 => h9) rfl dX3_draw_5 ?_
  refine lv_i2l (v := sd.toInt64) hx hb dX3_draw_8 (rfl) ?_
  refine lv_lmul hx hb dX3_draw_9 ?_
  refine lv_ldc2 hx hb hown L174 dX3_draw_10 ?_
  refine lv_ladd hx hb dX3_draw_13 ?_
  refine lv_ldc2 hx hb hown L176 dX3_draw_14 ?_
  refine lv_land hx hb dX3_draw_17 ?_
  refine lv_l2i (v := seedF sd) hx hb dX3_draw_18 (rfl) ?_
  refine va_put (D := (dC, dI)) (ci := 3) (v := .int (seedF sd)) (ty := .int) (C := RX3) (T := TX3) (N := 24) hx hb hts hin3 tyX3 tyX3_ok nmX3 hown hK hP hD hS 0 rfl rfl 13 (by decide) L171 (fun _ h9 => h9) rfl (by decide +kernel) rfl rfl (Nat.le_of_ble_eq_true rfl) dX3_draw_19 (fun H locs hP hD hS => ?_)
  have hP : va_P (dC, dI) vwCl ([bo bd σ ξ tk (seedF sd) kv hh]) H := hP
  have hD : va_D A ([bo bd σ ξ tk (seedF sd) kv hh]) := hD
  refine lv_aload_n hx hb dX3_draw_22 rfl (lv_at hl 0 rfl) ?_
  refine va_get (D := (dC, dI)) (ci := 3) (v := .int (seedF sd)) (C := RX3) (T := TX3) (N := 24) hx hb hts hin3 hown hK hP 0 rfl rfl 13 (by decide) L171 (fun _ h9 => h9) rfl dX3_draw_23 ?_
  refine lv_ldc hx hb hown L178 dX3_draw_26 ?_
  refine z_idiv (v := seedF sd / 65536) hx hb dX3_draw_28 (by decide) (rfl) ?_
  refine lv_iload_n hx hb dX3_draw_29 rfl (lv_at hl 1 rfl) ?_
  refine z_irem (v := drawF (seedF sd) (nI n)) hx hb dX3_draw_30 (nI_ne0 (by omega) (by omega)) (rfl) ?_
  exact hq (drawF (seedF sd) (nI n)) (seedF sd) _ _ 31 ls dX3_draw_31 (show (drawF (seedF sd) (nI n)) = drawF (seedF sd) (nI n) ∧ (seedF sd) = seedF sd from ⟨rfl, rfl⟩) hP hD hS
abbrev rm_c_X3_say : Room := { frames := 0, cells := 0, slots := 0, locals := 0 }
set_option maxHeartbeats 4000000 in
set_option maxRecDepth 100000 in
theorem c_X3_say (l : Launch) (dC : Nat → ClassId) (dI : Nat → Nat → Nat) (cI cZ : ClassId) (bd : Nat → Nat) (σ : St) (ξ : Nat → Int32) (tk sd : Int32) (kv : Nat → Int32) (hh : Int64) (v : Int64) (sz : Nat) : Met l yX3_say wsX3_say rm_c_X3_say (va_Pc [.ref (bd 0), .long v] (zPre (dC, dI) vwCl (tyIZ cI cZ) ([bo bd σ ξ tk sd kv hh]) sz (fun _ => True))) (va_Qv (fun (u : Int64) => u = 31 * hh + v) (zPost (dC, dI) vwCl (tyIZ cI cZ) ([bo bd σ ξ tk sd kv hh]) sz (fun (u : Int64) => [bo bd σ ξ tk sd kv u])) (va_A ([bo bd σ ξ tk sd kv hh]) sz)) 0 0 (va_A ([bo bd σ ξ tk sd kv hh]) sz) := by
  refine z_impV (cc := cX3_say) (maxL := 3) (av := [.ref (bd 0), .long v]) (by decide) rfl (Nat.le_of_ble_eq_true rfl) ?_
  intro p e s m below meth c Q A ls hx hb hml hown hname hts hBs hP hK hD hS hA hAB hq hl
  have hown : s.vm.findClass RX3 = some m.cls := hown
  have hin3 : ∀ w ∈ wsX30, w ∈ wsX3_say := fun _ h => List.mem_cons_of_mem _ (List.mem_append_right _ h)
  have L208 := hts (.constantLong RX3 208 (31)) (List.mem_of_getElem? (i := 1) rfl)
  have L210 := hts (.fieldLink RX3 210 "BestBeastModel" "hash" "J") (List.mem_of_getElem? (i := 2) rfl)
  have hl : lv_has ls 3 [(0, .ref (bd 0)), (1, .long v)] := hl
  refine lv_aload_n hx hb dX3_say_0 rfl (lv_at hl 0 rfl) ?_
  refine lv_ldc2 hx hb hown L208 dX3_say_1 ?_
  refine lv_aload_n hx hb dX3_say_4 rfl (lv_at hl 0 rfl) ?_
  refine va_get (D := (dC, dI)) (ci := 3) (v := .long hh) (C := RX3) (T := TX3) (N := 24) hx hb hts hin3 hown hK hP 0 rfl rfl 23 (by decide) L210 (fun _ h9 => h9) rfl dX3_say_5 ?_
  refine lv_lmul hx hb dX3_say_8 ?_
  refine lv_lload_n hx hb dX3_say_9 rfl (lv_at hl 1 rfl) ?_
  refine lv_ladd hx hb dX3_say_10 ?_
  refine va_put (D := (dC, dI)) (ci := 3) (v := .long ((31 * hh) + v)) (ty := .long) (C := RX3) (T := TX3) (N := 24) hx hb hts hin3 tyX3 tyX3_ok nmX3 hown hK hP hD hS 0 rfl rfl 23 (by decide) L210 (fun _ h9 => h9) rfl (by decide +kernel) rfl rfl (Nat.le_of_ble_eq_true rfl) dX3_say_11 (fun H locs hP hD hS => ?_)
  have hP : va_P (dC, dI) vwCl ([bo bd σ ξ tk sd kv ((31 * hh) + v)]) H := hP
  have hD : va_D A ([bo bd σ ξ tk sd kv ((31 * hh) + v)]) := hD
  exact hq ((31 * hh) + v) _ _ 14 ls dX3_say_14 (show ((31 * hh) + v) = 31 * hh + v from rfl) hP hD hS
abbrev rm_c_X3_copy : Room := { frames := 0, cells := 0, slots := 0, locals := 0 }
set_option maxHeartbeats 4000000 in
set_option maxRecDepth 100000 in
theorem c_X3_copy (l : Launch) (dC : Nat → ClassId) (dI : Nat → Nat → Nat) (cI cZ : ClassId) (qa qb N : Nat) (hN : N < 1000) (f g : Nat → Int32) (sz : Nat) : Met l yX3_copy wsX3_copy rm_c_X3_copy (va_Pc [.ref qa, .ref qb] (zPre (dC, dI) vwCl (tyIZ cI cZ) ([(qa, .inl (cI, N, .inl f)), (qb, .inl (cI, N, .inl g))]) sz (fun _ => True))) (va_Qv (fun (u : Unit) => u = ()) (zPost (dC, dI) vwCl (tyIZ cI cZ) ([(qa, .inl (cI, N, .inl f)), (qb, .inl (cI, N, .inl g))]) sz (fun (u : Unit) => [(qa, .inl (cI, N, .inl f)), (qb, .inl (cI, N, .inl f))])) (va_A ([(qa, .inl (cI, N, .inl f)), (qb, .inl (cI, N, .inl g))]) sz)) 0 0 (va_A ([(qa, .inl (cI, N, .inl f)), (qb, .inl (cI, N, .inl g))]) sz) := by
  refine z_impV (cc := cX3_copy) (maxL := 3) (av := [.ref qa, .ref qb]) (by decide) rfl (Nat.le_of_ble_eq_true rfl) ?_
  intro p e s m below meth c Q A ls hx hb hml hown hname hts hBs hP hK hD hS hA hAB hq hl
  have hown : s.vm.findClass RX3 = some m.cls := hown
  have hl : lv_has ls 3 [(0, .ref qa), (1, .ref qb)] := hl
  refine lv_iconst (v := nI 0) hx hb dX3_copy_0 (by decide) ?_
  refine lv_istore_n (lv' := [(2, .int (nI 0)), (0, .ref qa), (1, .ref qb)]) hx hb dX3_copy_1 rfl hl (by decide) rfl (fun ls hl => ?_)
  suffices hlp2 : ∀ (nf : Nat) (k : Nat) (x2_2 : Int32) (ls : Array Slot) (H : Heap) (locs : List Loc), (k ≤ N) → x2_2 = nI k → va_P (dC, dI) vwCl ([(qa, .inl (cI, N, .inl f)), (qb, .inl (cI, N, .inl (cpR f g k)))]) H → va_D A ([(qa, .inl (cI, N, .inl f)), (qb, .inl (cI, N, .inl (cpR f g k)))]) → va_S A s.heap H locs → lv_has ls 3 [(2, .int x2_2), (0, .ref qa), (1, .ref qb)] → N - k < nf → W p l e rm_c_X3_copy s m ([.ref qa, .ref qb] : List Value).toArray below meth c H locs 0 0 Q (F0 m 2 ls []) by
    exact hlp2 ((N - 0) + 1) 0 (nI 0) ls _ _ (by omega) rfl hP hD hS (lv_sub hl [0, 1, 2] rfl) (by omega)
  clear hP hD hS hl
  intro nf
  induction nf with
  | zero => intro k x2_2 ls H locs hk e2_2 hP hD hS hl hn; omega
  | succ nf ih2 =>
    intro k x2_2 ls H locs hk e2_2 hP hD hS hl hn
    subst e2_2
    refine lv_iload_n hx hb dX3_copy_2 rfl (lv_at hl 0 rfl) ?_
    refine lv_aload_n hx hb dX3_copy_3 rfl (lv_at hl 1 rfl) ?_
    refine va_alen (D := (dC, dI)) (v := nI N) hx hb hK hP 0 0 rfl rfl rfl dX3_copy_4 ?_
    refine z_icmp_ge (a := k) (b := N) (tgt := 20) hx hb (by omega) (by omega) dX3_copy_5 (by decide) (fun (c_5 : N ≤ k) => ?_) (fun (c_5 : k < N) => ?_)
    · skip
      have hP : va_P (dC, dI) vwCl [(qa, .inl (cI, N, .inl f)), (qb, .inl (cI, N, .inl f))] H := va_P_swap (ws := [(qa, .inl (cI, N, .inl f)), (qb, .inl (cI, N, .inl (cpR f g k)))]) (p := 1) (x := (qb, .inl (cI, N, .inl (cpR f g k)))) (x' := (qb, .inl (cI, N, .inl f))) hP (fun h => (show H[qb]? = some (vp_cell cI (N, .inl f)) from by rw [← cell_eq (fun j hj => cpR_in f g k j (by omega))]; exact h))
      have hD : va_D A [(qa, .inl (cI, N, .inl f)), (qb, .inl (cI, N, .inl f))] := hD.set (p := 1) (a := qb) (e := .inl (cI, N, .inl f)) rfl
      exact hq () _ _ 20 ls dX3_copy_20 (show () = () from rfl) hP hD hS
    · skip
      refine lv_aload_n hx hb dX3_copy_8 rfl (lv_at hl 2 rfl) ?_
      refine lv_iload_n hx hb dX3_copy_9 rfl (lv_at hl 0 rfl) ?_
      refine lv_aload_n hx hb dX3_copy_10 rfl (lv_at hl 1 rfl) ?_
      refine lv_iload_n hx hb dX3_copy_11 rfl (lv_at hl 0 rfl) ?_
      refine z_iald (D := (dC, dI)) hx hb hK hP 0 0 rfl rfl k (rfl) (by omega) (by omega) (v := f k) (rfl) dX3_copy_12 ?_
      refine z_iast (D := (dC, dI)) hx hb hK hP hD hS 1 0 rfl rfl k (rfl) (by omega) (by omega) (f' := upd (cpR f g k) k (f k)) (rfl) dX3_copy_13 (fun H locs hP hD hS => ?_)
      have hP : va_P (dC, dI) vwCl ([(qa, .inl (cI, N, .inl f)), (qb, .inl (cI, N, .inl (upd (cpR f g k) k (f k))))]) H := hP
      have hD : va_D A ([(qa, .inl (cI, N, .inl f)), (qb, .inl (cI, N, .inl (upd (cpR f g k) k (f k))))]) := hD
      refine lv_iinc (v := nI (k + 1)) (lv' := [(2, .int (nI (k + 1))), (0, .ref qa), (1, .ref qb)]) hx hb dX3_copy_14 hl (k := 0) rfl (nI_1 _) (by decide) rfl (fun ls hl => ?_)
      refine lv_goto (tgt := 2) hx hb dX3_copy_17 (by decide) ?_
      rw [show upd (cpR f g k) k (f k) = cpR f g (k + 1) from rfl] at hP hD
      exact ih2 (k + 1) (nI (k + 1)) ls _ _ (by omega) (show nI (k + 1) = nI (k + 1) from rfl) hP hD hS (lv_sub hl [0, 1, 2] rfl) (by omega)
abbrev rm_c_X3_digest : Room := { frames := 6, cells := 0, slots := 0, locals := 155 }
set_option maxHeartbeats 4000000 in
set_option maxRecDepth 100000 in
theorem c_X3_digest (l : Launch) (dC : Nat → ClassId) (dI : Nat → Nat → Nat) (cI cZ : ClassId) (bd : Nat → Nat) (σ : St) (Hn B L C V M : Nat) (hI : Inv σ Hn B L C V M) (ξ : Nat → Int32) (sd : Int32) (kv : Nat → Int32) (hh : Int64) (P : Nat → Int32) (n : Nat) (hn0 : ξ 0 = nI n) (hn8 : n ≤ 8) (sz : Nat) : Met l yX3_digest wsX3_digest rm_c_X3_digest (va_Pc [.ref (bd 0)] (zPre (dC, dI) vwCl (tyIZ cI cZ) ([bo bd σ ξ (σ 0 7) sd kv hh, (bd 2, .inl (cI, 16, .inl (menOf σ))), (bd 3, .inl (cI, 30, .inl (rowsOf σ))), (bd 1, .inl (cI, 8, .inl P))]) sz (fun _ => True))) (va_Ql (fun (r : Int64) (u : Int64) => r = digF σ Hn B P ξ n ∧ u = digF σ Hn B P ξ n) (zPost (dC, dI) vwCl (tyIZ cI cZ) ([bo bd σ ξ (σ 0 7) sd kv hh, (bd 2, .inl (cI, 16, .inl (menOf σ))), (bd 3, .inl (cI, 30, .inl (rowsOf σ))), (bd 1, .inl (cI, 8, .inl P))]) sz (fun (u : Int64) => [bo bd σ ξ (σ 0 7) sd kv u, (bd 2, .inl (cI, 16, .inl (menOf σ))), (bd 3, .inl (cI, 30, .inl (rowsOf σ))), (bd 1, .inl (cI, 8, .inl P))])) (va_A ([bo bd σ ξ (σ 0 7) sd kv hh, (bd 2, .inl (cI, 16, .inl (menOf σ))), (bd 3, .inl (cI, 30, .inl (rowsOf σ))), (bd 1, .inl (cI, 8, .inl P))]) sz)) 0 0 (va_A ([bo bd σ ξ (σ 0 7) sd kv hh, (bd 2, .inl (cI, 16, .inl (menOf σ))), (bd 3, .inl (cI, 30, .inl (rowsOf σ))), (bd 1, .inl (cI, 8, .inl P))]) sz) := by
  refine z_impL (cc := cX3_digest) (maxL := 3) (av := [.ref (bd 0)]) (by decide) rfl (Nat.le_of_ble_eq_true rfl) ?_
  intro p e s m below meth c Q A ls hx hb hml hown hts hBs hP hK hD hS hA hAB hq hl
  have hown : s.vm.findClass RX3 = some m.cls := hown
  have hin3 : ∀ w ∈ wsX30, w ∈ wsX3_digest := fun _ h => List.mem_cons_of_mem _ (List.mem_append_right _ h)
  have L214 := hts (.constantLong RX3 214 (827)) (List.mem_of_getElem? (i := 1) rfl)
  have L210 := hts (.fieldLink RX3 210 "BestBeastModel" "hash" "J") (List.mem_of_getElem? (i := 2) rfl)
  have L76 := hts (.fieldLink RX3 76 "BestBeastModel" "holders" "I") (List.mem_of_getElem? (i := 3) rfl)
  have L79 := hts (.fieldLink RX3 79 "BestBeastModel" "beasts" "I") (List.mem_of_getElem? (i := 4) rfl)
  have L53 := hts (.fieldLink RX3 53 "BestBeastModel" "pageMany" "I") (List.mem_of_getElem? (i := 6) rfl)
  have L7 := hts (.fieldLink RX3 7 "BestBeastModel" "page" "[I") (List.mem_of_getElem? (i := 7) rfl)
  have L16 := hts (.fieldLink RX3 16 "BestBeastModel" "rows" "[I") (List.mem_of_getElem? (i := 5) rfl)
  obtain ⟨⟨iL, iC, iV, iM, iH, iB, jL, jC, jV, jM, jH, jB⟩, iK, iDe, iAl, iHe, iWo, iO1, iO2⟩ := id hI
  have hl : lv_has ls 3 [(0, .ref (bd 0))] := hl
  refine lv_aload_n hx hb dX3_digest_0 rfl (lv_at hl 0 rfl) ?_
  refine lv_ldc2 hx hb hown L214 dX3_digest_1 ?_
  refine va_put (D := (dC, dI)) (ci := 3) (v := .long 827) (ty := .long) (C := RX3) (T := TX3) (N := 24) hx hb hts hin3 tyX3 tyX3_ok nmX3 hown hK hP hD hS 0 rfl rfl 23 (by decide) L210 (fun _ h9 => h9) rfl (by decide +kernel) rfl rfl (Nat.le_of_ble_eq_true rfl) dX3_digest_4 (fun H locs hP hD hS => ?_)
  have hP : va_P (dC, dI) vwCl ([bo bd σ ξ (σ 0 7) sd kv 827, (bd 2, .inl (cI, 16, .inl (menOf σ))), (bd 3, .inl (cI, 30, .inl (rowsOf σ))), (bd 1, .inl (cI, 8, .inl P))]) H := hP
  have hD : va_D A ([bo bd σ ξ (σ 0 7) sd kv 827, (bd 2, .inl (cI, 16, .inl (menOf σ))), (bd 3, .inl (cI, 30, .inl (rowsOf σ))), (bd 1, .inl (cI, 8, .inl P))]) := hD
  refine lv_iconst (v := nI 0) hx hb dX3_digest_7 (by decide) ?_
  refine lv_istore_n (lv' := [(1, .int (nI 0)), (0, .ref (bd 0))]) hx hb dX3_digest_8 rfl hl (by decide) rfl (fun ls hl => ?_)
  suffices hlp9 : ∀ (nf : Nat) (k : Nat) (x9_1 : Int32) (ls : Array Slot) (H : Heap) (locs : List Loc), (k ≤ Hn) → x9_1 = nI k → va_P (dC, dI) vwCl ([bo bd σ ξ (σ 0 7) sd kv (digH σ B k), (bd 2, .inl (cI, 16, .inl (menOf σ))), (bd 3, .inl (cI, 30, .inl (rowsOf σ))), (bd 1, .inl (cI, 8, .inl P))]) H → va_D A ([bo bd σ ξ (σ 0 7) sd kv (digH σ B k), (bd 2, .inl (cI, 16, .inl (menOf σ))), (bd 3, .inl (cI, 30, .inl (rowsOf σ))), (bd 1, .inl (cI, 8, .inl P))]) → va_S A s.heap H locs → lv_has ls 3 [(1, .int x9_1), (0, .ref (bd 0))] → Hn - k < nf → W p l e rm_c_X3_digest s m ([.ref (bd 0)] : List Value).toArray below meth c H locs 0 0 Q (F0 m 9 ls []) by
    exact hlp9 ((Hn - 0) + 1) 0 (nI 0) ls _ _ (by omega) rfl hP hD hS (lv_sub hl [0, 1] rfl) (by omega)
  clear hP hD hS hl
  intro nf
  induction nf with
  | zero => intro k x9_1 ls H locs hk e9_1 hP hD hS hl hn; omega
  | succ nf ih9 =>
    intro k x9_1 ls H locs hk e9_1 hP hD hS hl hn
    subst e9_1
    refine lv_iload_n hx hb dX3_digest_9 rfl (lv_at hl 0 rfl) ?_
    refine lv_aload_n hx hb dX3_digest_10 rfl (lv_at hl 1 rfl) ?_
    refine va_get (D := (dC, dI)) (ci := 3) (v := .int (nI Hn)) (C := RX3) (T := TX3) (N := 24) hx hb hts hin3 hown hK hP 0 rfl rfl 9 (by decide) L76 (fun _ h9 => h9) (congrArg (fun z => some (Value.int z)) iH) dX3_digest_11 ?_
    refine z_icmp_ge (a := k) (b := Hn) (tgt := 113) hx hb (by omega) (by omega) dX3_digest_14 (by decide) (fun (c_14 : Hn ≤ k) => ?_) (fun (c_14 : k < Hn) => ?_)
    · skip
      refine lv_iconst (v := nI 0) hx hb dX3_digest_113 (by decide) ?_
      refine lv_istore_n (lv' := [(1, .int (nI 0)), (0, .ref (bd 0))]) hx hb dX3_digest_114 rfl hl (by decide) rfl (fun ls hl => ?_)
      suffices hlp115 : ∀ (nf : Nat) (k : Nat) (x115_1 : Int32) (ls : Array Slot) (H : Heap) (locs : List Loc), (k ≤ B) → x115_1 = nI k → va_P (dC, dI) vwCl ([bo bd σ ξ (σ 0 7) sd kv (digB σ (digH σ B Hn) k), (bd 2, .inl (cI, 16, .inl (menOf σ))), (bd 3, .inl (cI, 30, .inl (rowsOf σ))), (bd 1, .inl (cI, 8, .inl P))]) H → va_D A ([bo bd σ ξ (σ 0 7) sd kv (digB σ (digH σ B Hn) k), (bd 2, .inl (cI, 16, .inl (menOf σ))), (bd 3, .inl (cI, 30, .inl (rowsOf σ))), (bd 1, .inl (cI, 8, .inl P))]) → va_S A s.heap H locs → lv_has ls 3 [(1, .int x115_1), (0, .ref (bd 0))] → B - k < nf → W p l e rm_c_X3_digest s m ([.ref (bd 0)] : List Value).toArray below meth c H locs 0 0 Q (F0 m 115 ls []) by
        rw [show k = Hn by omega] at hP hD
        exact hlp115 ((B - 0) + 1) 0 (nI 0) ls _ _ (by omega) rfl hP hD hS (lv_sub hl [0, 1] rfl) (by omega)
      clear hP hD hS hl
      intro nf
      induction nf with
      | zero => intro k x115_1 ls H locs hk e115_1 hP hD hS hl hn; omega
      | succ nf ih115 =>
        intro k x115_1 ls H locs hk e115_1 hP hD hS hl hn
        subst e115_1
        refine lv_iload_n hx hb dX3_digest_115 rfl (lv_at hl 0 rfl) ?_
        refine lv_aload_n hx hb dX3_digest_116 rfl (lv_at hl 1 rfl) ?_
        refine va_get (D := (dC, dI)) (ci := 3) (v := .int (nI B)) (C := RX3) (T := TX3) (N := 24) hx hb hts hin3 hown hK hP 0 rfl rfl 10 (by decide) L79 (fun _ h9 => h9) (congrArg (fun z => some (Value.int z)) iB) dX3_digest_117 ?_
        refine z_icmp_ge (a := k) (b := B) (tgt := 157) hx hb (by omega) (by omega) dX3_digest_120 (by decide) (fun (c_120 : B ≤ k) => ?_) (fun (c_120 : k < B) => ?_)
        · skip
          refine lv_iconst (v := nI 0) hx hb dX3_digest_157 (by decide) ?_
          refine lv_istore_n (lv' := [(1, .int (nI 0)), (0, .ref (bd 0))]) hx hb dX3_digest_158 rfl hl (by decide) rfl (fun ls hl => ?_)
          suffices hlp159 : ∀ (nf : Nat) (k : Nat) (x159_1 : Int32) (ls : Array Slot) (H : Heap) (locs : List Loc), (k ≤ n) → x159_1 = nI k → va_P (dC, dI) vwCl ([bo bd σ ξ (σ 0 7) sd kv (digP P (digB σ (digH σ B Hn) B) k), (bd 2, .inl (cI, 16, .inl (menOf σ))), (bd 3, .inl (cI, 30, .inl (rowsOf σ))), (bd 1, .inl (cI, 8, .inl P))]) H → va_D A ([bo bd σ ξ (σ 0 7) sd kv (digP P (digB σ (digH σ B Hn) B) k), (bd 2, .inl (cI, 16, .inl (menOf σ))), (bd 3, .inl (cI, 30, .inl (rowsOf σ))), (bd 1, .inl (cI, 8, .inl P))]) → va_S A s.heap H locs → lv_has ls 3 [(1, .int x159_1), (0, .ref (bd 0))] → n - k < nf → W p l e rm_c_X3_digest s m ([.ref (bd 0)] : List Value).toArray below meth c H locs 0 0 Q (F0 m 159 ls []) by
            rw [show k = B by omega] at hP hD
            exact hlp159 ((n - 0) + 1) 0 (nI 0) ls _ _ (by omega) rfl hP hD hS (lv_sub hl [0, 1] rfl) (by omega)
          clear hP hD hS hl
          intro nf
          induction nf with
          | zero => intro k x159_1 ls H locs hk e159_1 hP hD hS hl hn; omega
          | succ nf ih159 =>
            intro k x159_1 ls H locs hk e159_1 hP hD hS hl hn
            subst e159_1
            refine lv_iload_n hx hb dX3_digest_159 rfl (lv_at hl 0 rfl) ?_
            refine lv_aload_n hx hb dX3_digest_160 rfl (lv_at hl 1 rfl) ?_
            refine va_get (D := (dC, dI)) (ci := 3) (v := .int (nI n)) (C := RX3) (T := TX3) (N := 24) hx hb hts hin3 hown hK hP 0 rfl rfl 1 (by decide) L53 (fun _ h9 => h9) (congrArg (fun z => some (Value.int z)) hn0) dX3_digest_161 ?_
            refine z_icmp_ge (a := k) (b := n) (tgt := 184) hx hb (by omega) (by omega) dX3_digest_164 (by decide) (fun (c_164 : n ≤ k) => ?_) (fun (c_164 : k < n) => ?_)
            · skip
              refine lv_iconst (v := nI 0) hx hb dX3_digest_184 (by decide) ?_
              refine lv_istore_n (lv' := [(1, .int (nI 0)), (0, .ref (bd 0))]) hx hb dX3_digest_185 rfl hl (by decide) rfl (fun ls hl => ?_)
              suffices hlp186 : ∀ (nf : Nat) (k : Nat) (x186_1 : Int32) (ls : Array Slot) (H : Heap) (locs : List Loc), (k ≤ 12) → x186_1 = nI k → va_P (dC, dI) vwCl ([bo bd σ ξ (σ 0 7) sd kv (digC σ Hn B ξ (digP P (digB σ (digH σ B Hn) B) n) k), (bd 2, .inl (cI, 16, .inl (menOf σ))), (bd 3, .inl (cI, 30, .inl (rowsOf σ))), (bd 1, .inl (cI, 8, .inl P))]) H → va_D A ([bo bd σ ξ (σ 0 7) sd kv (digC σ Hn B ξ (digP P (digB σ (digH σ B Hn) B) n) k), (bd 2, .inl (cI, 16, .inl (menOf σ))), (bd 3, .inl (cI, 30, .inl (rowsOf σ))), (bd 1, .inl (cI, 8, .inl P))]) → va_S A s.heap H locs → lv_has ls 3 [(1, .int x186_1), (0, .ref (bd 0))] → 12 - k < nf → W p l e rm_c_X3_digest s m ([.ref (bd 0)] : List Value).toArray below meth c H locs 0 0 Q (F0 m 186 ls []) by
                rw [show k = n by omega] at hP hD
                exact hlp186 ((12 - 0) + 1) 0 (nI 0) ls _ _ (by omega) rfl hP hD hS (lv_sub hl [0, 1] rfl) (by omega)
              clear hP hD hS hl
              intro nf
              induction nf with
              | zero => intro k x186_1 ls H locs hk e186_1 hP hD hS hl hn; omega
              | succ nf ih186 =>
                intro k x186_1 ls H locs hk e186_1 hP hD hS hl hn
                subst e186_1
                refine lv_iload_n hx hb dX3_digest_186 rfl (lv_at hl 0 rfl) ?_
                refine lv_bipush (v := nI 12) hx hb dX3_digest_187 (by decide) ?_
                refine z_icmp_ge (a := k) (b := 12) (tgt := 208) hx hb (by omega) (by omega) dX3_digest_189 (by decide) (fun (c_189 : 12 ≤ k) => ?_) (fun (c_189 : k < 12) => ?_)
                · skip
                  refine lv_aload_n hx hb dX3_digest_208 rfl (lv_at hl 1 rfl) ?_
                  refine va_get (D := (dC, dI)) (ci := 3) (v := .long (digC σ Hn B ξ (digP P (digB σ (digH σ B Hn) B) n) k)) (C := RX3) (T := TX3) (N := 24) hx hb hts hin3 hown hK hP 0 rfl rfl 23 (by decide) L210 (fun _ h9 => h9) rfl dX3_digest_209 ?_
                  rw [show digC σ Hn B ξ (digP P (digB σ (digH σ B Hn) B) n) k = digF σ Hn B P ξ n from (by unfold digF; rw [show k = 11 + 1 by omega])] at hP hD
                  exact hq (digC σ Hn B ξ (digP P (digB σ (digH σ B Hn) B) n) k) (digF σ Hn B P ξ n) _ _ 212 ls dX3_digest_212 (show (digC σ Hn B ξ (digP P (digB σ (digH σ B Hn) B) n) k) = digF σ Hn B P ξ n ∧ (digF σ Hn B P ξ n) = digF σ Hn B P ξ n from ⟨(by unfold digF; rw [show k = 11 + 1 by omega]), rfl⟩) hP hD hS
                · skip
                  refine lv_aload_n hx hb dX3_digest_192 rfl (lv_at hl 1 rfl) ?_
                  refine lv_aload_n hx hb dX3_digest_193 rfl (lv_at hl 1 rfl) ?_
                  refine lv_iload_n hx hb dX3_digest_194 rfl (lv_at hl 0 rfl) ?_
                  refine z_callV (As := [.int (nI k)]) (rest := [.ref (bd 0)]) ⟨hx, hb, hml, hown, hts⟩ (c_X3_countOf l dC dI cI cZ bd σ Hn B L C V M hI ξ (σ 0 7) sd kv (digC σ Hn B ξ (digP P (digB σ (digH σ B Hn) B) n) k) (nI k) rfl) (cwV 1 hts gX3_digest_X3_countOf rfl rfl rfl (by decide +kernel) ⟨Nat.le_of_ble_eq_true rfl, Nat.le_of_ble_eq_true rfl⟩) (hP.sub [0, 1, 2] rfl) hK (va_recv hK hP (ci := 3) (q0 := 0) rfl rfl) rfl hl.1 rfl (Nat.le_of_ble_eq_true rfl) ⟨Nat.zero_le _, Nat.zero_le _⟩ dX3_digest_195 (fun r hr => ?_)
                  obtain rfl : r = countF σ Hn B ξ (nI k) := hr
                  refine z_topi (v := cntN σ Hn B ξ k) (countF_in (by omega)) ?_
                  refine lv_i2l (v := (cntN σ Hn B ξ k).toInt64) hx hb dX3_digest_198 (rfl) ?_
                  refine z_callQv (As := [.long ((cntN σ Hn B ξ k).toInt64)]) (rest := []) ⟨hx, hb, hml, hown, hts⟩ (c_X3_say l dC dI cI cZ bd σ ξ (σ 0 7) sd kv (digC σ Hn B ξ (digP P (digB σ (digH σ B Hn) B) n) k) ((cntN σ Hn B ξ k).toInt64) _) (cwV 1 hts gX3_digest_X3_say rfl rfl rfl (by decide +kernel) ⟨Nat.le_of_ble_eq_true rfl, Nat.le_of_ble_eq_true rfl⟩) (fun _ _ _ _ q => q) (fun _ _ _ => trivial) hP hD hK hS hA [0] [1, 2, 3] rfl rfl rfl rfl (by decide) (va_recv hK hP (ci := 3) (q0 := 0) rfl rfl) rfl hl.1 rfl (Nat.le_of_ble_eq_true rfl) ⟨Nat.le_of_ble_eq_true rfl, Nat.le_of_ble_eq_true rfl⟩ dX3_digest_199 (fun u H locs hr hP hD hS => ?_)
                  obtain rfl := hr
                  have hP : va_P (dC, dI) vwCl ([bo bd σ ξ (σ 0 7) sd kv (hs (digC σ Hn B ξ (digP P (digB σ (digH σ B Hn) B) n) k) (cntN σ Hn B ξ k)), (bd 2, .inl (cI, 16, .inl (menOf σ))), (bd 3, .inl (cI, 30, .inl (rowsOf σ))), (bd 1, .inl (cI, 8, .inl P))]) H := hP.sub [3, 0, 1, 2] rfl
                  have hD : va_D A ([bo bd σ ξ (σ 0 7) sd kv (hs (digC σ Hn B ξ (digP P (digB σ (digH σ B Hn) B) n) k) (cntN σ Hn B ξ k)), (bd 2, .inl (cI, 16, .inl (menOf σ))), (bd 3, .inl (cI, 30, .inl (rowsOf σ))), (bd 1, .inl (cI, 8, .inl P))]) := hD.sub [3, 0, 1, 2] rfl rfl
                  refine lv_iinc (v := nI (k + 1)) (lv' := [(1, .int (nI (k + 1))), (0, .ref (bd 0))]) hx hb dX3_digest_202 hl (k := 0) rfl (nI_1 _) (by decide) rfl (fun ls hl => ?_)
                  refine lv_goto (tgt := 186) hx hb dX3_digest_205 (by decide) ?_
                  rw [show hs (digC σ Hn B ξ (digP P (digB σ (digH σ B Hn) B) n) k) (cntN σ Hn B ξ k) = digC σ Hn B ξ (digP P (digB σ (digH σ B Hn) B) n) (k + 1) from rfl] at hP hD
                  exact ih186 (k + 1) (nI (k + 1)) ls _ _ (by omega) (show nI (k + 1) = nI (k + 1) from rfl) hP hD hS (lv_sub hl [0, 1] rfl) (by omega)
            · skip
              refine lv_aload_n hx hb dX3_digest_167 rfl (lv_at hl 1 rfl) ?_
              refine lv_aload_n hx hb dX3_digest_168 rfl (lv_at hl 1 rfl) ?_
              refine va_get (D := (dC, dI)) (ci := 3) (v := .ref (bd 1)) (C := RX3) (T := TX3) (N := 24) hx hb hts hin3 hown hK hP 0 rfl rfl 0 (by decide) L7 (fun _ h9 => h9) rfl dX3_digest_169 ?_
              refine lv_iload_n hx hb dX3_digest_172 rfl (lv_at hl 0 rfl) ?_
              refine z_iald (D := (dC, dI)) hx hb hK hP 3 0 rfl rfl k (rfl) (by omega) (by omega) (v := P k) (rfl) dX3_digest_173 ?_
              refine lv_i2l (v := (P k).toInt64) hx hb dX3_digest_174 (rfl) ?_
              refine z_callQv (As := [.long ((P k).toInt64)]) (rest := []) ⟨hx, hb, hml, hown, hts⟩ (c_X3_say l dC dI cI cZ bd σ ξ (σ 0 7) sd kv (digP P (digB σ (digH σ B Hn) B) k) ((P k).toInt64) _) (cwV 1 hts gX3_digest_X3_say rfl rfl rfl (by decide +kernel) ⟨Nat.le_of_ble_eq_true rfl, Nat.le_of_ble_eq_true rfl⟩) (fun _ _ _ _ q => q) (fun _ _ _ => trivial) hP hD hK hS hA [0] [1, 2, 3] rfl rfl rfl rfl (by decide) (va_recv hK hP (ci := 3) (q0 := 0) rfl rfl) rfl hl.1 rfl (Nat.le_of_ble_eq_true rfl) ⟨Nat.le_of_ble_eq_true rfl, Nat.le_of_ble_eq_true rfl⟩ dX3_digest_175 (fun u H locs hr hP hD hS => ?_)
              obtain rfl := hr
              have hP : va_P (dC, dI) vwCl ([bo bd σ ξ (σ 0 7) sd kv (hs (digP P (digB σ (digH σ B Hn) B) k) (P k)), (bd 2, .inl (cI, 16, .inl (menOf σ))), (bd 3, .inl (cI, 30, .inl (rowsOf σ))), (bd 1, .inl (cI, 8, .inl P))]) H := hP.sub [3, 0, 1, 2] rfl
              have hD : va_D A ([bo bd σ ξ (σ 0 7) sd kv (hs (digP P (digB σ (digH σ B Hn) B) k) (P k)), (bd 2, .inl (cI, 16, .inl (menOf σ))), (bd 3, .inl (cI, 30, .inl (rowsOf σ))), (bd 1, .inl (cI, 8, .inl P))]) := hD.sub [3, 0, 1, 2] rfl rfl
              refine lv_iinc (v := nI (k + 1)) (lv' := [(1, .int (nI (k + 1))), (0, .ref (bd 0))]) hx hb dX3_digest_178 hl (k := 0) rfl (nI_1 _) (by decide) rfl (fun ls hl => ?_)
              refine lv_goto (tgt := 159) hx hb dX3_digest_181 (by decide) ?_
              rw [show hs (digP P (digB σ (digH σ B Hn) B) k) (P k) = digP P (digB σ (digH σ B Hn) B) (k + 1) from rfl] at hP hD
              exact ih159 (k + 1) (nI (k + 1)) ls _ _ (by omega) (show nI (k + 1) = nI (k + 1) from rfl) hP hD hS (lv_sub hl [0, 1] rfl) (by omega)
        · skip
          refine lv_iconst (v := nI 0) hx hb dX3_digest_123 (by decide) ?_
          refine lv_istore_n (lv' := [(2, .int (nI 0)), (1, .int (nI k)), (0, .ref (bd 0))]) hx hb dX3_digest_124 rfl hl (by decide) rfl (fun ls hl => ?_)
          suffices hlp125 : ∀ (nf : Nat) (w : Nat) (x125_2 : Int32) (ls : Array Slot) (H : Heap) (locs : List Loc), (w ≤ 5) → x125_2 = nI w → va_P (dC, dI) vwCl ([bo bd σ ξ (σ 0 7) sd kv (digX σ k (digB σ (digH σ B Hn) k) w), (bd 2, .inl (cI, 16, .inl (menOf σ))), (bd 3, .inl (cI, 30, .inl (rowsOf σ))), (bd 1, .inl (cI, 8, .inl P))]) H → va_D A ([bo bd σ ξ (σ 0 7) sd kv (digX σ k (digB σ (digH σ B Hn) k) w), (bd 2, .inl (cI, 16, .inl (menOf σ))), (bd 3, .inl (cI, 30, .inl (rowsOf σ))), (bd 1, .inl (cI, 8, .inl P))]) → va_S A s.heap H locs → lv_has ls 3 [(2, .int x125_2), (1, .int (nI k)), (0, .ref (bd 0))] → 5 - w < nf → W p l e rm_c_X3_digest s m ([.ref (bd 0)] : List Value).toArray below meth c H locs 0 0 Q (F0 m 125 ls []) by
            exact hlp125 ((5 - 0) + 1) 0 (nI 0) ls _ _ (by omega) rfl hP hD hS (lv_sub hl [0, 1, 2] rfl) (by omega)
          clear hP hD hS hl
          intro nf
          induction nf with
          | zero => intro w x125_2 ls H locs hw e125_2 hP hD hS hl hn; omega
          | succ nf ih125 =>
            intro w x125_2 ls H locs hw e125_2 hP hD hS hl hn
            subst e125_2
            refine lv_iload_n hx hb dX3_digest_125 rfl (lv_at hl 0 rfl) ?_
            refine lv_iconst (v := nI 5) hx hb dX3_digest_126 (by decide) ?_
            refine z_icmp_ge (a := w) (b := 5) (tgt := 151) hx hb (by omega) (by omega) dX3_digest_127 (by decide) (fun (c_127 : 5 ≤ w) => ?_) (fun (c_127 : w < 5) => ?_)
            · skip
              refine lv_iinc (v := nI (k + 1)) (lv' := [(1, .int (nI (k + 1))), (2, .int (nI w)), (0, .ref (bd 0))]) hx hb dX3_digest_151 hl (k := 1) rfl (nI_1 _) (by decide) rfl (fun ls hl => ?_)
              refine lv_goto (tgt := 115) hx hb dX3_digest_154 (by decide) ?_
              rw [show digX σ k (digB σ (digH σ B Hn) k) w = digB σ (digH σ B Hn) (k + 1) from (by rw [digB, show w = 4 + 1 by omega])] at hP hD
              exact ih115 (k + 1) (nI (k + 1)) ls _ _ (by omega) (show nI (k + 1) = nI (k + 1) from rfl) hP hD hS (lv_sub hl [0, 2] rfl) (by omega)
            · skip
              refine lv_aload_n hx hb dX3_digest_130 rfl (lv_at hl 2 rfl) ?_
              refine lv_aload_n hx hb dX3_digest_131 rfl (lv_at hl 2 rfl) ?_
              refine va_get (D := (dC, dI)) (ci := 3) (v := .ref (bd 3)) (C := RX3) (T := TX3) (N := 24) hx hb hts hin3 hown hK hP 0 rfl rfl 12 (by decide) L16 (fun _ h9 => h9) rfl dX3_digest_132 ?_
              refine lv_iconst (v := nI 5) hx hb dX3_digest_135 (by decide) ?_
              refine lv_iload_n hx hb dX3_digest_136 rfl (lv_at hl 1 rfl) ?_
              refine z_imul (v := nI (5 * k)) hx hb dX3_digest_137 (pk_mul _ _) ?_
              refine lv_iload_n hx hb dX3_digest_138 rfl (lv_at hl 0 rfl) ?_
              refine z_iadd (v := nI ((5 * k) + w)) hx hb dX3_digest_139 (nI_add _ _) ?_
              refine z_iald (D := (dC, dI)) hx hb hK hP 2 0 rfl rfl ((5 * k) + w) (rfl) (by omega) (by omega) (v := σ (w + 5) k) (rowsR σ k w (by omega)) dX3_digest_140 ?_
              refine lv_i2l (v := (σ (w + 5) k).toInt64) hx hb dX3_digest_141 (rfl) ?_
              refine z_callQv (As := [.long ((σ (w + 5) k).toInt64)]) (rest := []) ⟨hx, hb, hml, hown, hts⟩ (c_X3_say l dC dI cI cZ bd σ ξ (σ 0 7) sd kv (digX σ k (digB σ (digH σ B Hn) k) w) ((σ (w + 5) k).toInt64) _) (cwV 1 hts gX3_digest_X3_say rfl rfl rfl (by decide +kernel) ⟨Nat.le_of_ble_eq_true rfl, Nat.le_of_ble_eq_true rfl⟩) (fun _ _ _ _ q => q) (fun _ _ _ => trivial) hP hD hK hS hA [0] [1, 2, 3] rfl rfl rfl rfl (by decide) (va_recv hK hP (ci := 3) (q0 := 0) rfl rfl) rfl hl.1 rfl (Nat.le_of_ble_eq_true rfl) ⟨Nat.le_of_ble_eq_true rfl, Nat.le_of_ble_eq_true rfl⟩ dX3_digest_142 (fun u H locs hr hP hD hS => ?_)
              obtain rfl := hr
              have hP : va_P (dC, dI) vwCl ([bo bd σ ξ (σ 0 7) sd kv (hs (digX σ k (digB σ (digH σ B Hn) k) w) (σ (w + 5) k)), (bd 2, .inl (cI, 16, .inl (menOf σ))), (bd 3, .inl (cI, 30, .inl (rowsOf σ))), (bd 1, .inl (cI, 8, .inl P))]) H := hP.sub [3, 0, 1, 2] rfl
              have hD : va_D A ([bo bd σ ξ (σ 0 7) sd kv (hs (digX σ k (digB σ (digH σ B Hn) k) w) (σ (w + 5) k)), (bd 2, .inl (cI, 16, .inl (menOf σ))), (bd 3, .inl (cI, 30, .inl (rowsOf σ))), (bd 1, .inl (cI, 8, .inl P))]) := hD.sub [3, 0, 1, 2] rfl rfl
              refine lv_iinc (v := nI (w + 1)) (lv' := [(2, .int (nI (w + 1))), (1, .int (nI k)), (0, .ref (bd 0))]) hx hb dX3_digest_145 hl (k := 0) rfl (nI_1 _) (by decide) rfl (fun ls hl => ?_)
              refine lv_goto (tgt := 125) hx hb dX3_digest_148 (by decide) ?_
              rw [show hs (digX σ k (digB σ (digH σ B Hn) k) w) (σ (w + 5) k) = digX σ k (digB σ (digH σ B Hn) k) (w + 1) from rfl] at hP hD
              exact ih125 (w + 1) (nI (w + 1)) ls _ _ (by omega) (show nI (w + 1) = nI (w + 1) from rfl) hP hD hS (lv_sub hl [0, 1, 2] rfl) (by omega)
    · skip
      refine lv_iconst (v := nI 0) hx hb dX3_digest_17 (by decide) ?_
      refine lv_istore_n (lv' := [(2, .int (nI 0)), (1, .int (nI k)), (0, .ref (bd 0))]) hx hb dX3_digest_18 rfl hl (by decide) rfl (fun ls hl => ?_)
      suffices hlp19 : ∀ (nf : Nat) (w : Nat) (x19_2 : Int32) (ls : Array Slot) (H : Heap) (locs : List Loc), (w ≤ 9) → x19_2 = nI w → va_P (dC, dI) vwCl ([bo bd σ ξ (σ 0 7) sd kv (digW σ B k (digH σ B k) w), (bd 2, .inl (cI, 16, .inl (menOf σ))), (bd 3, .inl (cI, 30, .inl (rowsOf σ))), (bd 1, .inl (cI, 8, .inl P))]) H → va_D A ([bo bd σ ξ (σ 0 7) sd kv (digW σ B k (digH σ B k) w), (bd 2, .inl (cI, 16, .inl (menOf σ))), (bd 3, .inl (cI, 30, .inl (rowsOf σ))), (bd 1, .inl (cI, 8, .inl P))]) → va_S A s.heap H locs → lv_has ls 3 [(2, .int x19_2), (1, .int (nI k)), (0, .ref (bd 0))] → 9 - w < nf → W p l e rm_c_X3_digest s m ([.ref (bd 0)] : List Value).toArray below meth c H locs 0 0 Q (F0 m 19 ls []) by
        exact hlp19 ((9 - 0) + 1) 0 (nI 0) ls _ _ (by omega) rfl hP hD hS (lv_sub hl [0, 1, 2] rfl) (by omega)
      clear hP hD hS hl
      intro nf
      induction nf with
      | zero => intro w x19_2 ls H locs hw e19_2 hP hD hS hl hn; omega
      | succ nf ih19 =>
        intro w x19_2 ls H locs hw e19_2 hP hD hS hl hn
        subst e19_2
        refine lv_iload_n hx hb dX3_digest_19 rfl (lv_at hl 0 rfl) ?_
        refine lv_bipush (v := nI 9) hx hb dX3_digest_20 (by decide) ?_
        refine z_icmp_ge (a := w) (b := 9) (tgt := 42) hx hb (by omega) (by omega) dX3_digest_22 (by decide) (fun (c_22 : 9 ≤ w) => ?_) (fun (c_22 : w < 9) => ?_)
        · skip
          rw [show w = 9 by omega] at hP hD
          refine lv_aload_n hx hb dX3_digest_42 rfl (lv_at hl 2 rfl) ?_
          refine lv_iload_n hx hb dX3_digest_43 rfl (lv_at hl 1 rfl) ?_
          refine z_callV (As := [.int (nI k)]) (rest := []) ⟨hx, hb, hml, hown, hts⟩ (c_X3_lives l dC dI cI cZ bd σ Hn B L C V M hI ξ (σ 0 7) sd kv (digW σ B k (digH σ B k) 9) k (by omega)) (cwV 1 hts gX3_digest_X3_lives rfl rfl rfl (by decide +kernel) ⟨Nat.le_of_ble_eq_true rfl, Nat.le_of_ble_eq_true rfl⟩) (hP.sub [0, 1, 2] rfl) hK (va_recv hK hP (ci := 3) (q0 := 0) rfl rfl) rfl hl.1 rfl (Nat.le_of_ble_eq_true rfl) ⟨Nat.zero_le _, Nat.zero_le _⟩ dX3_digest_44 (fun r hr => ?_)
          obtain rfl : r = zb (σ 3 k = 1) := hr
          refine z_ifeq_b (P := σ 3 k = 1) (tgt := 107) hx hb dX3_digest_47 (by decide) (fun (c_47 : ¬ (σ 3 k = 1)) => ?_) (fun (c_47 : σ 3 k = 1) => ?_)
          · skip
            refine lv_iinc (v := nI (k + 1)) (lv' := [(1, .int (nI (k + 1))), (2, .int (nI w)), (0, .ref (bd 0))]) hx hb dX3_digest_107 hl (k := 1) rfl (nI_1 _) (by decide) rfl (fun ls hl => ?_)
            refine lv_goto (tgt := 9) hx hb dX3_digest_110 (by decide) ?_
            rw [show digW σ B k (digH σ B k) 9 = digH σ B (k + 1) from (by rw [digH]; unfold digJ; rw [if_neg c_47])] at hP hD
            exact ih9 (k + 1) (nI (k + 1)) ls _ _ (by omega) (show nI (k + 1) = nI (k + 1) from rfl) hP hD hS (lv_sub hl [0, 2] rfl) (by omega)
          · skip
            refine lv_aload_n hx hb dX3_digest_50 rfl (lv_at hl 2 rfl) ?_
            refine lv_aload_n hx hb dX3_digest_51 rfl (lv_at hl 2 rfl) ?_
            refine lv_iload_n hx hb dX3_digest_52 rfl (lv_at hl 1 rfl) ?_
            refine lv_iconst (v := nI 0) hx hb dX3_digest_53 (by decide) ?_
            refine z_callV (As := [.int (nI k), .int (nI 0)]) (rest := [.ref (bd 0)]) ⟨hx, hb, hml, hown, hts⟩ (c_X3_safeOf l dC dI cI cZ bd σ Hn B L C V M hI ξ (σ 0 7) sd kv (digW σ B k (digH σ B k) 9) k (by omega) 0 (by omega)) (cwV 2 hts gX3_digest_X3_safeOf rfl rfl rfl (by decide +kernel) ⟨Nat.le_of_ble_eq_true rfl, Nat.le_of_ble_eq_true rfl⟩) (hP.sub [0, 1, 2] rfl) hK (va_recv hK hP (ci := 3) (q0 := 0) rfl rfl) rfl hl.1 rfl (Nat.le_of_ble_eq_true rfl) ⟨Nat.zero_le _, Nat.zero_le _⟩ dX3_digest_54 (fun r hr => ?_)
            obtain rfl : r = safeN σ B k 0 := hr
            refine lv_i2l (v := (safeN σ B k 0).toInt64) hx hb dX3_digest_57 (rfl) ?_
            refine z_callQv (As := [.long ((safeN σ B k 0).toInt64)]) (rest := []) ⟨hx, hb, hml, hown, hts⟩ (c_X3_say l dC dI cI cZ bd σ ξ (σ 0 7) sd kv (digW σ B k (digH σ B k) 9) ((safeN σ B k 0).toInt64) _) (cwV 1 hts gX3_digest_X3_say rfl rfl rfl (by decide +kernel) ⟨Nat.le_of_ble_eq_true rfl, Nat.le_of_ble_eq_true rfl⟩) (fun _ _ _ _ q => q) (fun _ _ _ => trivial) hP hD hK hS hA [0] [1, 2, 3] rfl rfl rfl rfl (by decide) (va_recv hK hP (ci := 3) (q0 := 0) rfl rfl) rfl hl.1 rfl (Nat.le_of_ble_eq_true rfl) ⟨Nat.le_of_ble_eq_true rfl, Nat.le_of_ble_eq_true rfl⟩ dX3_digest_58 (fun u H locs hr hP hD hS => ?_)
            obtain rfl := hr
            have hP : va_P (dC, dI) vwCl ([bo bd σ ξ (σ 0 7) sd kv (hs (digW σ B k (digH σ B k) 9) (safeN σ B k 0)), (bd 2, .inl (cI, 16, .inl (menOf σ))), (bd 3, .inl (cI, 30, .inl (rowsOf σ))), (bd 1, .inl (cI, 8, .inl P))]) H := hP.sub [3, 0, 1, 2] rfl
            have hD : va_D A ([bo bd σ ξ (σ 0 7) sd kv (hs (digW σ B k (digH σ B k) 9) (safeN σ B k 0)), (bd 2, .inl (cI, 16, .inl (menOf σ))), (bd 3, .inl (cI, 30, .inl (rowsOf σ))), (bd 1, .inl (cI, 8, .inl P))]) := hD.sub [3, 0, 1, 2] rfl rfl
            refine lv_aload_n hx hb dX3_digest_61 rfl (lv_at hl 2 rfl) ?_
            refine lv_aload_n hx hb dX3_digest_62 rfl (lv_at hl 2 rfl) ?_
            refine lv_iload_n hx hb dX3_digest_63 rfl (lv_at hl 1 rfl) ?_
            refine lv_iconst (v := nI 1) hx hb dX3_digest_64 (by decide) ?_
            refine z_callV (As := [.int (nI k), .int (nI 1)]) (rest := [.ref (bd 0)]) ⟨hx, hb, hml, hown, hts⟩ (c_X3_safeOf l dC dI cI cZ bd σ Hn B L C V M hI ξ (σ 0 7) sd kv (hs (digW σ B k (digH σ B k) 9) (safeN σ B k 0)) k (by omega) 1 (by omega)) (cwV 2 hts gX3_digest_X3_safeOf rfl rfl rfl (by decide +kernel) ⟨Nat.le_of_ble_eq_true rfl, Nat.le_of_ble_eq_true rfl⟩) (hP.sub [0, 1, 2] rfl) hK (va_recv hK hP (ci := 3) (q0 := 0) rfl rfl) rfl hl.1 rfl (Nat.le_of_ble_eq_true rfl) ⟨Nat.zero_le _, Nat.zero_le _⟩ dX3_digest_65 (fun r hr => ?_)
            obtain rfl : r = safeN σ B k 1 := hr
            refine lv_i2l (v := (safeN σ B k 1).toInt64) hx hb dX3_digest_68 (rfl) ?_
            refine z_callQv (As := [.long ((safeN σ B k 1).toInt64)]) (rest := []) ⟨hx, hb, hml, hown, hts⟩ (c_X3_say l dC dI cI cZ bd σ ξ (σ 0 7) sd kv (hs (digW σ B k (digH σ B k) 9) (safeN σ B k 0)) ((safeN σ B k 1).toInt64) _) (cwV 1 hts gX3_digest_X3_say rfl rfl rfl (by decide +kernel) ⟨Nat.le_of_ble_eq_true rfl, Nat.le_of_ble_eq_true rfl⟩) (fun _ _ _ _ q => q) (fun _ _ _ => trivial) hP hD hK hS hA [0] [1, 2, 3] rfl rfl rfl rfl (by decide) (va_recv hK hP (ci := 3) (q0 := 0) rfl rfl) rfl hl.1 rfl (Nat.le_of_ble_eq_true rfl) ⟨Nat.le_of_ble_eq_true rfl, Nat.le_of_ble_eq_true rfl⟩ dX3_digest_69 (fun u H locs hr hP hD hS => ?_)
            obtain rfl := hr
            have hP : va_P (dC, dI) vwCl ([bo bd σ ξ (σ 0 7) sd kv (hs (hs (digW σ B k (digH σ B k) 9) (safeN σ B k 0)) (safeN σ B k 1)), (bd 2, .inl (cI, 16, .inl (menOf σ))), (bd 3, .inl (cI, 30, .inl (rowsOf σ))), (bd 1, .inl (cI, 8, .inl P))]) H := hP.sub [3, 0, 1, 2] rfl
            have hD : va_D A ([bo bd σ ξ (σ 0 7) sd kv (hs (hs (digW σ B k (digH σ B k) 9) (safeN σ B k 0)) (safeN σ B k 1)), (bd 2, .inl (cI, 16, .inl (menOf σ))), (bd 3, .inl (cI, 30, .inl (rowsOf σ))), (bd 1, .inl (cI, 8, .inl P))]) := hD.sub [3, 0, 1, 2] rfl rfl
            refine lv_aload_n hx hb dX3_digest_72 rfl (lv_at hl 2 rfl) ?_
            refine lv_aload_n hx hb dX3_digest_73 rfl (lv_at hl 2 rfl) ?_
            refine lv_iload_n hx hb dX3_digest_74 rfl (lv_at hl 1 rfl) ?_
            refine lv_iconst (v := nI 2) hx hb dX3_digest_75 (by decide) ?_
            refine z_callV (As := [.int (nI k), .int (nI 2)]) (rest := [.ref (bd 0)]) ⟨hx, hb, hml, hown, hts⟩ (c_X3_givingOf l dC dI cI cZ bd σ Hn B L C V M hI ξ (σ 0 7) sd kv (hs (hs (digW σ B k (digH σ B k) 9) (safeN σ B k 0)) (safeN σ B k 1)) k (by omega) 2 (by omega)) (cwV 2 hts gX3_digest_X3_givingOf rfl rfl rfl (by decide +kernel) ⟨Nat.le_of_ble_eq_true rfl, Nat.le_of_ble_eq_true rfl⟩) (hP.sub [0, 1, 2] rfl) hK (va_recv hK hP (ci := 3) (q0 := 0) rfl rfl) rfl hl.1 rfl (Nat.le_of_ble_eq_true rfl) ⟨Nat.zero_le _, Nat.zero_le _⟩ dX3_digest_76 (fun r hr => ?_)
            obtain rfl : r = giveF σ B k 2 := hr
            refine lv_i2l (v := (giveF σ B k 2).toInt64) hx hb dX3_digest_79 (rfl) ?_
            refine z_callQv (As := [.long ((giveF σ B k 2).toInt64)]) (rest := []) ⟨hx, hb, hml, hown, hts⟩ (c_X3_say l dC dI cI cZ bd σ ξ (σ 0 7) sd kv (hs (hs (digW σ B k (digH σ B k) 9) (safeN σ B k 0)) (safeN σ B k 1)) ((giveF σ B k 2).toInt64) _) (cwV 1 hts gX3_digest_X3_say rfl rfl rfl (by decide +kernel) ⟨Nat.le_of_ble_eq_true rfl, Nat.le_of_ble_eq_true rfl⟩) (fun _ _ _ _ q => q) (fun _ _ _ => trivial) hP hD hK hS hA [0] [1, 2, 3] rfl rfl rfl rfl (by decide) (va_recv hK hP (ci := 3) (q0 := 0) rfl rfl) rfl hl.1 rfl (Nat.le_of_ble_eq_true rfl) ⟨Nat.le_of_ble_eq_true rfl, Nat.le_of_ble_eq_true rfl⟩ dX3_digest_80 (fun u H locs hr hP hD hS => ?_)
            obtain rfl := hr
            have hP : va_P (dC, dI) vwCl ([bo bd σ ξ (σ 0 7) sd kv (hs (hs (hs (digW σ B k (digH σ B k) 9) (safeN σ B k 0)) (safeN σ B k 1)) (giveF σ B k 2)), (bd 2, .inl (cI, 16, .inl (menOf σ))), (bd 3, .inl (cI, 30, .inl (rowsOf σ))), (bd 1, .inl (cI, 8, .inl P))]) H := hP.sub [3, 0, 1, 2] rfl
            have hD : va_D A ([bo bd σ ξ (σ 0 7) sd kv (hs (hs (hs (digW σ B k (digH σ B k) 9) (safeN σ B k 0)) (safeN σ B k 1)) (giveF σ B k 2)), (bd 2, .inl (cI, 16, .inl (menOf σ))), (bd 3, .inl (cI, 30, .inl (rowsOf σ))), (bd 1, .inl (cI, 8, .inl P))]) := hD.sub [3, 0, 1, 2] rfl rfl
            refine lv_aload_n hx hb dX3_digest_83 rfl (lv_at hl 2 rfl) ?_
            refine lv_aload_n hx hb dX3_digest_84 rfl (lv_at hl 2 rfl) ?_
            refine lv_iload_n hx hb dX3_digest_85 rfl (lv_at hl 1 rfl) ?_
            refine lv_iconst (v := nI 2) hx hb dX3_digest_86 (by decide) ?_
            refine lv_iconst (v := nI 0) hx hb dX3_digest_87 (by decide) ?_
            refine z_callV (As := [.int (nI k), .int (nI 2), .int (nI 0)]) (rest := [.ref (bd 0)]) ⟨hx, hb, hml, hown, hts⟩ (c_X3_meanOf l dC dI cI cZ bd σ Hn B L C V M hI ξ (σ 0 7) sd kv (hs (hs (hs (digW σ B k (digH σ B k) 9) (safeN σ B k 0)) (safeN σ B k 1)) (giveF σ B k 2)) k (by omega) 2 (by omega) 0 (by omega)) (cwV 3 hts gX3_digest_X3_meanOf rfl rfl rfl (by decide +kernel) ⟨Nat.le_of_ble_eq_true rfl, Nat.le_of_ble_eq_true rfl⟩) (hP.sub [0, 1, 2] rfl) hK (va_recv hK hP (ci := 3) (q0 := 0) rfl rfl) rfl hl.1 rfl (Nat.le_of_ble_eq_true rfl) ⟨Nat.zero_le _, Nat.zero_le _⟩ dX3_digest_88 (fun r hr => ?_)
            obtain rfl : r = meanN σ B k 2 0 := hr
            refine lv_i2l (v := (meanN σ B k 2 0).toInt64) hx hb dX3_digest_91 (rfl) ?_
            refine z_callQv (As := [.long ((meanN σ B k 2 0).toInt64)]) (rest := []) ⟨hx, hb, hml, hown, hts⟩ (c_X3_say l dC dI cI cZ bd σ ξ (σ 0 7) sd kv (hs (hs (hs (digW σ B k (digH σ B k) 9) (safeN σ B k 0)) (safeN σ B k 1)) (giveF σ B k 2)) ((meanN σ B k 2 0).toInt64) _) (cwV 1 hts gX3_digest_X3_say rfl rfl rfl (by decide +kernel) ⟨Nat.le_of_ble_eq_true rfl, Nat.le_of_ble_eq_true rfl⟩) (fun _ _ _ _ q => q) (fun _ _ _ => trivial) hP hD hK hS hA [0] [1, 2, 3] rfl rfl rfl rfl (by decide) (va_recv hK hP (ci := 3) (q0 := 0) rfl rfl) rfl hl.1 rfl (Nat.le_of_ble_eq_true rfl) ⟨Nat.le_of_ble_eq_true rfl, Nat.le_of_ble_eq_true rfl⟩ dX3_digest_92 (fun u H locs hr hP hD hS => ?_)
            obtain rfl := hr
            have hP : va_P (dC, dI) vwCl ([bo bd σ ξ (σ 0 7) sd kv (hs (hs (hs (hs (digW σ B k (digH σ B k) 9) (safeN σ B k 0)) (safeN σ B k 1)) (giveF σ B k 2)) (meanN σ B k 2 0)), (bd 2, .inl (cI, 16, .inl (menOf σ))), (bd 3, .inl (cI, 30, .inl (rowsOf σ))), (bd 1, .inl (cI, 8, .inl P))]) H := hP.sub [3, 0, 1, 2] rfl
            have hD : va_D A ([bo bd σ ξ (σ 0 7) sd kv (hs (hs (hs (hs (digW σ B k (digH σ B k) 9) (safeN σ B k 0)) (safeN σ B k 1)) (giveF σ B k 2)) (meanN σ B k 2 0)), (bd 2, .inl (cI, 16, .inl (menOf σ))), (bd 3, .inl (cI, 30, .inl (rowsOf σ))), (bd 1, .inl (cI, 8, .inl P))]) := hD.sub [3, 0, 1, 2] rfl rfl
            refine lv_aload_n hx hb dX3_digest_95 rfl (lv_at hl 2 rfl) ?_
            refine lv_aload_n hx hb dX3_digest_96 rfl (lv_at hl 2 rfl) ?_
            refine lv_iload_n hx hb dX3_digest_97 rfl (lv_at hl 1 rfl) ?_
            refine lv_iconst (v := nI 2) hx hb dX3_digest_98 (by decide) ?_
            refine lv_iconst (v := nI 1) hx hb dX3_digest_99 (by decide) ?_
            refine z_callV (As := [.int (nI k), .int (nI 2), .int (nI 1)]) (rest := [.ref (bd 0)]) ⟨hx, hb, hml, hown, hts⟩ (c_X3_meanOf l dC dI cI cZ bd σ Hn B L C V M hI ξ (σ 0 7) sd kv (hs (hs (hs (hs (digW σ B k (digH σ B k) 9) (safeN σ B k 0)) (safeN σ B k 1)) (giveF σ B k 2)) (meanN σ B k 2 0)) k (by omega) 2 (by omega) 1 (by omega)) (cwV 3 hts gX3_digest_X3_meanOf rfl rfl rfl (by decide +kernel) ⟨Nat.le_of_ble_eq_true rfl, Nat.le_of_ble_eq_true rfl⟩) (hP.sub [0, 1, 2] rfl) hK (va_recv hK hP (ci := 3) (q0 := 0) rfl rfl) rfl hl.1 rfl (Nat.le_of_ble_eq_true rfl) ⟨Nat.zero_le _, Nat.zero_le _⟩ dX3_digest_100 (fun r hr => ?_)
            obtain rfl : r = meanN σ B k 2 1 := hr
            refine lv_i2l (v := (meanN σ B k 2 1).toInt64) hx hb dX3_digest_103 (rfl) ?_
            refine z_callQv (As := [.long ((meanN σ B k 2 1).toInt64)]) (rest := []) ⟨hx, hb, hml, hown, hts⟩ (c_X3_say l dC dI cI cZ bd σ ξ (σ 0 7) sd kv (hs (hs (hs (hs (digW σ B k (digH σ B k) 9) (safeN σ B k 0)) (safeN σ B k 1)) (giveF σ B k 2)) (meanN σ B k 2 0)) ((meanN σ B k 2 1).toInt64) _) (cwV 1 hts gX3_digest_X3_say rfl rfl rfl (by decide +kernel) ⟨Nat.le_of_ble_eq_true rfl, Nat.le_of_ble_eq_true rfl⟩) (fun _ _ _ _ q => q) (fun _ _ _ => trivial) hP hD hK hS hA [0] [1, 2, 3] rfl rfl rfl rfl (by decide) (va_recv hK hP (ci := 3) (q0 := 0) rfl rfl) rfl hl.1 rfl (Nat.le_of_ble_eq_true rfl) ⟨Nat.le_of_ble_eq_true rfl, Nat.le_of_ble_eq_true rfl⟩ dX3_digest_104 (fun u H locs hr hP hD hS => ?_)
            obtain rfl := hr
            have hP : va_P (dC, dI) vwCl ([bo bd σ ξ (σ 0 7) sd kv (hs (hs (hs (hs (hs (digW σ B k (digH σ B k) 9) (safeN σ B k 0)) (safeN σ B k 1)) (giveF σ B k 2)) (meanN σ B k 2 0)) (meanN σ B k 2 1)), (bd 2, .inl (cI, 16, .inl (menOf σ))), (bd 3, .inl (cI, 30, .inl (rowsOf σ))), (bd 1, .inl (cI, 8, .inl P))]) H := hP.sub [3, 0, 1, 2] rfl
            have hD : va_D A ([bo bd σ ξ (σ 0 7) sd kv (hs (hs (hs (hs (hs (digW σ B k (digH σ B k) 9) (safeN σ B k 0)) (safeN σ B k 1)) (giveF σ B k 2)) (meanN σ B k 2 0)) (meanN σ B k 2 1)), (bd 2, .inl (cI, 16, .inl (menOf σ))), (bd 3, .inl (cI, 30, .inl (rowsOf σ))), (bd 1, .inl (cI, 8, .inl P))]) := hD.sub [3, 0, 1, 2] rfl rfl
            refine lv_iinc (v := nI (k + 1)) (lv' := [(1, .int (nI (k + 1))), (2, .int (nI w)), (0, .ref (bd 0))]) hx hb dX3_digest_107 hl (k := 1) rfl (nI_1 _) (by decide) rfl (fun ls hl => ?_)
            refine lv_goto (tgt := 9) hx hb dX3_digest_110 (by decide) ?_
            rw [show hs (hs (hs (hs (hs (digW σ B k (digH σ B k) 9) (safeN σ B k 0)) (safeN σ B k 1)) (giveF σ B k 2)) (meanN σ B k 2 0)) (meanN σ B k 2 1) = digH σ B (k + 1) from (by rw [digH]; unfold digJ; rw [if_pos c_47])] at hP hD
            exact ih9 (k + 1) (nI (k + 1)) ls _ _ (by omega) (show nI (k + 1) = nI (k + 1) from rfl) hP hD hS (lv_sub hl [0, 2] rfl) (by omega)
        · skip
          refine lv_aload_n hx hb dX3_digest_25 rfl (lv_at hl 2 rfl) ?_
          refine lv_aload_n hx hb dX3_digest_26 rfl (lv_at hl 2 rfl) ?_
          refine lv_iload_n hx hb dX3_digest_27 rfl (lv_at hl 1 rfl) ?_
          refine lv_iload_n hx hb dX3_digest_28 rfl (lv_at hl 0 rfl) ?_
          refine z_callV (As := [.int (nI k), .int (nI w)]) (rest := [.ref (bd 0)]) ⟨hx, hb, hml, hown, hts⟩ (c_X3_tell l dC dI cI cZ bd σ Hn B L C V M hI ξ (σ 0 7) sd kv (digW σ B k (digH σ B k) w) k (by omega) (nI w)) (cwV 2 hts gX3_digest_X3_tell rfl rfl rfl (by decide +kernel) ⟨Nat.le_of_ble_eq_true rfl, Nat.le_of_ble_eq_true rfl⟩) (hP.sub [0, 1, 2] rfl) hK (va_recv hK hP (ci := 3) (q0 := 0) rfl rfl) rfl hl.1 rfl (Nat.le_of_ble_eq_true rfl) ⟨Nat.zero_le _, Nat.zero_le _⟩ dX3_digest_29 (fun r hr => ?_)
          obtain rfl : r = zif (hasP 9 (nI w)) (aboutN σ B k (tn (nI w))) (-102) := hr
          refine z_topi (v := aboutN σ B k w) ((by rw [zif_t (hasP_nI (show w < 9 by omega)), tn_nI (by omega)])) ?_
          refine lv_i2l (v := (aboutN σ B k w).toInt64) hx hb dX3_digest_32 (rfl) ?_
          refine z_callQv (As := [.long ((aboutN σ B k w).toInt64)]) (rest := []) ⟨hx, hb, hml, hown, hts⟩ (c_X3_say l dC dI cI cZ bd σ ξ (σ 0 7) sd kv (digW σ B k (digH σ B k) w) ((aboutN σ B k w).toInt64) _) (cwV 1 hts gX3_digest_X3_say rfl rfl rfl (by decide +kernel) ⟨Nat.le_of_ble_eq_true rfl, Nat.le_of_ble_eq_true rfl⟩) (fun _ _ _ _ q => q) (fun _ _ _ => trivial) hP hD hK hS hA [0] [1, 2, 3] rfl rfl rfl rfl (by decide) (va_recv hK hP (ci := 3) (q0 := 0) rfl rfl) rfl hl.1 rfl (Nat.le_of_ble_eq_true rfl) ⟨Nat.le_of_ble_eq_true rfl, Nat.le_of_ble_eq_true rfl⟩ dX3_digest_33 (fun u H locs hr hP hD hS => ?_)
          obtain rfl := hr
          have hP : va_P (dC, dI) vwCl ([bo bd σ ξ (σ 0 7) sd kv (hs (digW σ B k (digH σ B k) w) (aboutN σ B k w)), (bd 2, .inl (cI, 16, .inl (menOf σ))), (bd 3, .inl (cI, 30, .inl (rowsOf σ))), (bd 1, .inl (cI, 8, .inl P))]) H := hP.sub [3, 0, 1, 2] rfl
          have hD : va_D A ([bo bd σ ξ (σ 0 7) sd kv (hs (digW σ B k (digH σ B k) w) (aboutN σ B k w)), (bd 2, .inl (cI, 16, .inl (menOf σ))), (bd 3, .inl (cI, 30, .inl (rowsOf σ))), (bd 1, .inl (cI, 8, .inl P))]) := hD.sub [3, 0, 1, 2] rfl rfl
          refine lv_iinc (v := nI (w + 1)) (lv' := [(2, .int (nI (w + 1))), (1, .int (nI k)), (0, .ref (bd 0))]) hx hb dX3_digest_36 hl (k := 0) rfl (nI_1 _) (by decide) rfl (fun ls hl => ?_)
          refine lv_goto (tgt := 19) hx hb dX3_digest_39 (by decide) ?_
          rw [show hs (digW σ B k (digH σ B k) w) (aboutN σ B k w) = digW σ B k (digH σ B k) (w + 1) from rfl] at hP hD
          exact ih19 (w + 1) (nI (w + 1)) ls _ _ (by omega) (show nI (w + 1) = nI (w + 1) from rfl) hP hD hS (lv_sub hl [0, 1, 2] rfl) (by omega)
