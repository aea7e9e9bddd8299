/-! ===== the reference: manors, image, restore ===== -/
abbrev rm_c_X3_manors : Room := { frames := 3, cells := 0, slots := 0, locals := 75 }
set_option maxHeartbeats 4000000 in
set_option maxRecDepth 100000 in
theorem c_X3_manors (l : Launch) (dC : Nat → ClassId) (dI : Nat → Nat → Nat) (cI cZ : ClassId) (bd : Nat → Nat) (σ : St) (Hn B L C V M : Nat) (hI : Inv σ Hn B L C V M) (ξ : Nat → Int32) (sd : Int32) (kv : Nat → Int32) (hh : Int64) (sm sr : Nat → Int32) (y sd0 w : Int32) (sz : Nat) : Met l yX3_manors wsX3_manors rm_c_X3_manors (va_Pc [.ref (bd 0), .int y, .int sd0, .int w] (zPre (dC, dI) vwCl (tyIZ cI cZ) ([bo bd σ ξ (σ 0 7) sd kv hh, (bd 2, .inl (cI, 16, .inl (menOf σ))), (bd 3, .inl (cI, 30, .inl (rowsOf σ))), (bd 4, .inl (cI, 16, .inl sm)), (bd 5, .inl (cI, 30, .inl sr))]) sz (fun _ => True))) (va_Qi (fun (r : Int32) (u : Int32 × (Nat → Int32) × (Nat → Int32)) => r = manorsF σ Hn B y sd0 w) (zPost (dC, dI) vwCl (tyIZ cI cZ) ([bo bd σ ξ (σ 0 7) sd kv hh, (bd 2, .inl (cI, 16, .inl (menOf σ))), (bd 3, .inl (cI, 30, .inl (rowsOf σ))), (bd 4, .inl (cI, 16, .inl sm)), (bd 5, .inl (cI, 30, .inl sr))]) sz (fun (u : Int32 × (Nat → Int32) × (Nat → Int32)) => [bo bd σ ξ (σ 0 7) u.1 kv hh, (bd 2, .inl (cI, 16, .inl (menOf σ))), (bd 3, .inl (cI, 30, .inl (rowsOf σ))), (bd 4, .inl (cI, 16, .inl u.2.1)), (bd 5, .inl (cI, 30, .inl u.2.2))])) (va_A ([bo bd σ ξ (σ 0 7) sd kv hh, (bd 2, .inl (cI, 16, .inl (menOf σ))), (bd 3, .inl (cI, 30, .inl (rowsOf σ))), (bd 4, .inl (cI, 16, .inl sm)), (bd 5, .inl (cI, 30, .inl sr))]) sz)) 0 0 (va_A ([bo bd σ ξ (σ 0 7) sd kv hh, (bd 2, .inl (cI, 16, .inl (menOf σ))), (bd 3, .inl (cI, 30, .inl (rowsOf σ))), (bd 4, .inl (cI, 16, .inl sm)), (bd 5, .inl (cI, 30, .inl sr))]) sz) := by
  refine z_impI (cc := cX3_manors) (maxL := 9) (av := [.ref (bd 0), .int y, .int sd0, .int w]) (by decide) rfl (Nat.le_of_ble_eq_true rfl) ?_
  intro p e s m below meth c Q A ls hx hb hml hown hts hBs hP hK hD hS hA hAB hq hl
  have hown : s.vm.findClass RX3 = some m.cls := hown
  have hin3 : ∀ w ∈ wsX30, w ∈ wsX3_manors := fun _ h => List.mem_cons_of_mem _ (List.mem_append_right _ h)
  have L179 := hts (.constantLong RX3 179 (60)) (List.mem_of_getElem? (i := 1) rfl)
  have L181 := hts (.constantLong RX3 181 (2)) (List.mem_of_getElem? (i := 2) rfl)
  have L76 := hts (.fieldLink RX3 76 "BestBeastModel" "holders" "I") (List.mem_of_getElem? (i := 3) rfl)
  have L13 := hts (.fieldLink RX3 13 "BestBeastModel" "men" "[I") (List.mem_of_getElem? (i := 4) rfl)
  have L19 := hts (.fieldLink RX3 19 "BestBeastModel" "savedMen" "[I") (List.mem_of_getElem? (i := 5) rfl)
  have L16 := hts (.fieldLink RX3 16 "BestBeastModel" "rows" "[I") (List.mem_of_getElem? (i := 6) rfl)
  have L22 := hts (.fieldLink RX3 22 "BestBeastModel" "savedRows" "[I") (List.mem_of_getElem? (i := 7) rfl)
  have L104 := hts (.fieldLink RX3 104 "BestBeastModel" "yearNow" "I") (List.mem_of_getElem? (i := 8) rfl)
  have L171 := hts (.fieldLink RX3 171 "BestBeastModel" "seedNow" "I") (List.mem_of_getElem? (i := 9) rfl)
  have L79 := hts (.fieldLink RX3 79 "BestBeastModel" "beasts" "I") (List.mem_of_getElem? (i := 10) rfl)
  obtain ⟨⟨iL, iC, iV, iM, iH, iB, jL, jC, jV, jM, jH, jB⟩, iK, iDe, iAl, iHe, iWo, iO1, iO2⟩ := id hI
  have hl : lv_has ls 9 [(0, .ref (bd 0)), (1, .int y), (2, .int sd0), (3, .int w)] := hl
  refine lv_iload_n hx hb dX3_manors_0 rfl (lv_at hl 1 rfl) ?_
  refine lv_i2l (v := y.toInt64) hx hb dX3_manors_1 (rfl) ?_
  refine lv_lconst (v := 1) hx hb dX3_manors_2 (by decide) ?_
  refine lv_ldc2 hx hb hown L179 dX3_manors_3 ?_
  refine z_callS (As := [.long y.toInt64, .long 1, .long 60]) (rest := []) ⟨hx, hb, hml, hown, hts⟩ (c_X3_in l y.toInt64 1 60) (va_cwS 3 hts gX3_manors_X3_in rfl rfl rfl (by decide +kernel) ⟨Nat.le_of_ble_eq_true rfl, Nat.le_of_ble_eq_true rfl⟩) rfl hl.1 rfl (Nat.le_of_ble_eq_true rfl) ⟨Nat.zero_le _, Nat.zero_le _⟩ dX3_manors_6 (fun r hr => ?_)
  obtain rfl : r = zb (1 ≤ y.toInt64 ∧ y.toInt64 ≤ 60) := hr
  refine z_topi (v := zb (inP 1 60 y)) (zb_iff (in64 (a := 1) (b := 60) (by decide) (by decide))) ?_
  refine z_ifeq_b (P := inP 1 60 y) (tgt := 28) hx hb dX3_manors_9 (by decide) (fun (c_9 : ¬ (inP 1 60 y)) => ?_) (fun (c_9 : inP 1 60 y) => ?_)
  · skip
    refine lv_bipush (v := (-102)) hx hb dX3_manors_28 (by decide) ?_
    exact hq (-102) (sd, sm, sr) _ _ 30 ls dX3_manors_30 (show (-102) = manorsF σ Hn B y sd0 w from (by unfold manorsF; rw [zif_f (fun z => c_9 z.1)])) hP hD hS
  · skip
    obtain ⟨yy, hy1, hy60, rfl⟩ := c_9
    refine lv_iload_n hx hb dX3_manors_12 rfl (lv_at hl 2 rfl) ?_
    refine lv_if_lt (tgt := 28) hx hb dX3_manors_13 (by decide) (fun (c_13 : sd0 < 0) => ?_) (fun (c_13 : ¬ (sd0 < 0)) => ?_)
    · skip
      refine lv_bipush (v := (-102)) hx hb dX3_manors_28 (by decide) ?_
      exact hq (-102) (sd, sm, sr) _ _ 30 ls dX3_manors_30 (show (-102) = manorsF σ Hn B (nI yy) sd0 w from (by unfold manorsF; rw [zif_f (fun z => z.2.1 c_13)])) hP hD hS
    · skip
      refine lv_iload_n hx hb dX3_manors_16 rfl (lv_at hl 3 rfl) ?_
      refine lv_i2l (v := w.toInt64) hx hb dX3_manors_17 (rfl) ?_
      refine lv_lconst (v := 0) hx hb dX3_manors_18 (by decide) ?_
      refine lv_ldc2 hx hb hown L181 dX3_manors_19 ?_
      refine z_callS (As := [.long w.toInt64, .long 0, .long 2]) (rest := []) ⟨hx, hb, hml, hown, hts⟩ (c_X3_in l w.toInt64 0 2) (va_cwS 3 hts gX3_manors_X3_in rfl rfl rfl (by decide +kernel) ⟨Nat.le_of_ble_eq_true rfl, Nat.le_of_ble_eq_true rfl⟩) rfl hl.1 rfl (Nat.le_of_ble_eq_true rfl) ⟨Nat.zero_le _, Nat.zero_le _⟩ dX3_manors_22 (fun r hr => ?_)
      obtain rfl : r = zb (0 ≤ w.toInt64 ∧ w.toInt64 ≤ 2) := hr
      refine z_topi (v := zb (inP 0 2 w)) (zb_iff (in64 (a := 0) (b := 2) (by decide) (by decide))) ?_
      refine z_ifne_b (P := inP 0 2 w) (tgt := 31) hx hb dX3_manors_25 (by decide) (fun (c_25 : inP 0 2 w) => ?_) (fun (c_25 : ¬ (inP 0 2 w)) => ?_)
      · skip
        obtain ⟨ww, -, hw2, rfl⟩ := c_25
        refine lv_aload_n hx hb dX3_manors_31 rfl (lv_at hl 0 rfl) ?_
        refine va_get (D := (dC, dI)) (ci := 3) (v := .int (nI Hn)) (C := RX3) (T := TX3) (N := 24) hx hb hts hin3 hown hK hP 0 rfl rfl 9 (by decide) L76 (fun _ h9 => h9) (congrArg (fun z => some (Value.int z)) iH) dX3_manors_32 ?_
        refine z_if_ne (a := Hn) (tgt := 41) hx hb (by omega) dX3_manors_35 (by decide) (fun (c_35 : Hn ≠ 0) => ?_) (fun (c_35 : Hn = 0) => ?_)
        · skip
          refine lv_aload_n hx hb dX3_manors_41 rfl (lv_at hl 0 rfl) ?_
          refine va_get (D := (dC, dI)) (ci := 3) (v := .ref (bd 2)) (C := RX3) (T := TX3) (N := 24) hx hb hts hin3 hown hK hP 0 rfl rfl 11 (by decide) L13 (fun _ h9 => h9) rfl dX3_manors_42 ?_
          refine lv_aload_n hx hb dX3_manors_45 rfl (lv_at hl 0 rfl) ?_
          refine va_get (D := (dC, dI)) (ci := 3) (v := .ref (bd 4)) (C := RX3) (T := TX3) (N := 24) hx hb hts hin3 hown hK hP 0 rfl rfl 14 (by decide) L19 (fun _ h9 => h9) rfl dX3_manors_46 ?_
          refine z_callQvS (As := [.ref (bd 2), .ref (bd 4)]) (rest := []) ⟨hx, hb, hml, hown, hts⟩ (c_X3_copy l dC dI cI cZ (bd 2) (bd 4) 16 (by decide) (menOf σ) sm _) (va_cwS 2 hts gX3_manors_X3_copy rfl rfl rfl (by decide +kernel) ⟨Nat.le_of_ble_eq_true rfl, Nat.le_of_ble_eq_true rfl⟩) hP hD hK hS hA [1, 3] [0, 2, 4] rfl rfl rfl rfl (by decide) rfl hl.1 rfl (Nat.le_of_ble_eq_true rfl) ⟨Nat.le_of_ble_eq_true rfl, Nat.le_of_ble_eq_true rfl⟩ dX3_manors_49 (fun u H locs hr hP hD hS => ?_)
          clear hr
          have hP : va_P (dC, dI) vwCl ([bo bd σ ξ (σ 0 7) sd kv hh, (bd 2, .inl (cI, 16, .inl (menOf σ))), (bd 3, .inl (cI, 30, .inl (rowsOf σ))), (bd 4, .inl (cI, 16, .inl (menOf σ))), (bd 5, .inl (cI, 30, .inl sr))]) H := hP.sub [0, 3, 1, 4, 2] rfl
          have hD : va_D A ([bo bd σ ξ (σ 0 7) sd kv hh, (bd 2, .inl (cI, 16, .inl (menOf σ))), (bd 3, .inl (cI, 30, .inl (rowsOf σ))), (bd 4, .inl (cI, 16, .inl (menOf σ))), (bd 5, .inl (cI, 30, .inl sr))]) := hD.sub [0, 3, 1, 4, 2] rfl rfl
          refine lv_aload_n hx hb dX3_manors_52 rfl (lv_at hl 0 rfl) ?_
          refine va_get (D := (dC, dI)) (ci := 3) (v := .ref (bd 3)) (C := RX3) (T := TX3) (N := 24) hx hb hts hin3 hown hK hP 0 rfl rfl 12 (by decide) L16 (fun _ h9 => h9) rfl dX3_manors_53 ?_
          refine lv_aload_n hx hb dX3_manors_56 rfl (lv_at hl 0 rfl) ?_
          refine va_get (D := (dC, dI)) (ci := 3) (v := .ref (bd 5)) (C := RX3) (T := TX3) (N := 24) hx hb hts hin3 hown hK hP 0 rfl rfl 15 (by decide) L22 (fun _ h9 => h9) rfl dX3_manors_57 ?_
          refine z_callQvS (As := [.ref (bd 3), .ref (bd 5)]) (rest := []) ⟨hx, hb, hml, hown, hts⟩ (c_X3_copy l dC dI cI cZ (bd 3) (bd 5) 30 (by decide) (rowsOf σ) sr _) (va_cwS 2 hts gX3_manors_X3_copy rfl rfl rfl (by decide +kernel) ⟨Nat.le_of_ble_eq_true rfl, Nat.le_of_ble_eq_true rfl⟩) hP hD hK hS hA [2, 4] [0, 1, 3] rfl rfl rfl rfl (by decide) rfl hl.1 rfl (Nat.le_of_ble_eq_true rfl) ⟨Nat.le_of_ble_eq_true rfl, Nat.le_of_ble_eq_true rfl⟩ dX3_manors_60 (fun u H locs hr hP hD hS => ?_)
          clear hr
          have hP : va_P (dC, dI) vwCl ([bo bd σ ξ (σ 0 7) sd kv hh, (bd 2, .inl (cI, 16, .inl (menOf σ))), (bd 3, .inl (cI, 30, .inl (rowsOf σ))), (bd 4, .inl (cI, 16, .inl (menOf σ))), (bd 5, .inl (cI, 30, .inl (rowsOf σ)))]) H := hP.sub [0, 1, 3, 2, 4] rfl
          have hD : va_D A ([bo bd σ ξ (σ 0 7) sd kv hh, (bd 2, .inl (cI, 16, .inl (menOf σ))), (bd 3, .inl (cI, 30, .inl (rowsOf σ))), (bd 4, .inl (cI, 16, .inl (menOf σ))), (bd 5, .inl (cI, 30, .inl (rowsOf σ)))]) := hD.sub [0, 1, 3, 2, 4] rfl rfl
          refine lv_aload_n hx hb dX3_manors_63 rfl (lv_at hl 0 rfl) ?_
          refine va_get (D := (dC, dI)) (ci := 3) (v := .int (σ 0 6)) (C := RX3) (T := TX3) (N := 24) hx hb hts hin3 hown hK hP 0 rfl rfl 7 (by decide) L104 (fun _ h9 => h9) rfl dX3_manors_64 ?_
          refine lv_istore (lv' := [(4, .int (σ 0 6)), (0, .ref (bd 0)), (1, .int (nI yy)), (2, .int sd0), (3, .int (nI ww))]) hx hb dX3_manors_67 hl (by decide) rfl (fun ls hl => ?_)
          refine lv_aload_n hx hb dX3_manors_69 rfl (lv_at hl 1 rfl) ?_
          refine lv_iload_n hx hb dX3_manors_70 rfl (lv_at hl 3 rfl) ?_
          refine va_put (D := (dC, dI)) (ci := 3) (v := .int sd0) (ty := .int) (C := RX3) (T := TX3) (N := 24) hx hb hts hin3 tyX3 tyX3_ok nmX3 hown hK hP hD hS 0 rfl rfl 13 (by decide) L171 (fun _ h9 => h9) rfl (by decide +kernel) rfl rfl (Nat.le_of_ble_eq_true rfl) dX3_manors_71 (fun H locs hP hD hS => ?_)
          have hP : va_P (dC, dI) vwCl ([bo bd σ ξ (σ 0 7) sd0 kv hh, (bd 2, .inl (cI, 16, .inl (menOf σ))), (bd 3, .inl (cI, 30, .inl (rowsOf σ))), (bd 4, .inl (cI, 16, .inl (menOf σ))), (bd 5, .inl (cI, 30, .inl (rowsOf σ)))]) H := hP
          have hD : va_D A ([bo bd σ ξ (σ 0 7) sd0 kv hh, (bd 2, .inl (cI, 16, .inl (menOf σ))), (bd 3, .inl (cI, 30, .inl (rowsOf σ))), (bd 4, .inl (cI, 16, .inl (menOf σ))), (bd 5, .inl (cI, 30, .inl (rowsOf σ)))]) := hD
          refine lv_iconst (v := nI 0) hx hb dX3_manors_74 (by decide) ?_
          refine lv_istore (lv' := [(5, .int (nI 0)), (4, .int (σ 0 6)), (0, .ref (bd 0)), (1, .int (nI yy)), (2, .int sd0), (3, .int (nI ww))]) hx hb dX3_manors_75 hl (by decide) rfl (fun ls hl => ?_)
          refine lv_iconst (v := nI 0) hx hb dX3_manors_77 (by decide) ?_
          refine lv_istore (lv' := [(6, .int (nI 0)), (5, .int (nI 0)), (4, .int (σ 0 6)), (0, .ref (bd 0)), (1, .int (nI yy)), (2, .int sd0), (3, .int (nI ww))]) hx hb dX3_manors_78 hl (by decide) rfl (fun ls hl => ?_)
          suffices hlp80 : ∀ (nf : Nat) (k : Nat) (τ : St) (v : Int32) (x80_6 : Int32) (x80_5 : Int32) (ls : Array Slot) (H : Heap) (locs : List Loc), (k ≤ yy) → (Inv τ Hn B L C V M) → (yearsR σ Hn B sd0 k = (τ, v)) → x80_6 = nI k → x80_5 = τ 0 7 - σ 0 7 → va_P (dC, dI) vwCl ([bo bd τ ξ (σ 0 7) v kv hh, (bd 2, .inl (cI, 16, .inl (menOf τ))), (bd 3, .inl (cI, 30, .inl (rowsOf τ))), (bd 4, .inl (cI, 16, .inl (menOf σ))), (bd 5, .inl (cI, 30, .inl (rowsOf σ)))]) H → va_D A ([bo bd τ ξ (σ 0 7) v kv hh, (bd 2, .inl (cI, 16, .inl (menOf τ))), (bd 3, .inl (cI, 30, .inl (rowsOf τ))), (bd 4, .inl (cI, 16, .inl (menOf σ))), (bd 5, .inl (cI, 30, .inl (rowsOf σ)))]) → va_S A s.heap H locs → lv_has ls 9 [(6, .int x80_6), (5, .int x80_5), (4, .int (σ 0 6)), (0, .ref (bd 0)), (1, .int (nI yy)), (2, .int sd0), (3, .int (nI ww))] → yy - k < nf → W p l e rm_c_X3_manors s m ([.ref (bd 0), .int (nI yy), .int sd0, .int (nI ww)] : List Value).toArray below meth c H locs 0 0 Q (F0 m 80 ls []) by
            exact hlp80 ((yy - 0) + 1) 0 σ sd0 (nI 0) (nI 0) ls _ _ (by omega) hI rfl rfl ((Int32.sub_self (σ 0 7)).symm) hP hD hS (lv_sub hl [0, 1, 2, 3, 4, 5, 6] rfl) (by omega)
          clear hP hD hS hl
          intro nf
          induction nf with
          | zero => intro k τ v x80_6 x80_5 ls H locs hk hk2 hd e80_6 e80_5 hP hD hS hl hn; omega
          | succ nf ih80 =>
            intro k τ v x80_6 x80_5 ls H locs hk hk2 hd e80_6 e80_5 hP hD hS hl hn
            subst e80_6
            subst e80_5
            obtain ⟨⟨kL, kC, kV, kM, kH, kB, -⟩, -⟩ := id hk2
            refine lv_iload hx hb dX3_manors_80 (lv_at hl 0 rfl) ?_
            refine lv_iload_n hx hb dX3_manors_82 rfl (lv_at hl 4 rfl) ?_
            refine z_icmp_ge (a := k) (b := yy) (tgt := 206) hx hb (by omega) (by omega) dX3_manors_83 (by decide) (fun (c_83 : yy ≤ k) => ?_) (fun (c_83 : k < yy) => ?_)
            · skip
              refine lv_aload_n hx hb dX3_manors_206 rfl (lv_at hl 3 rfl) ?_
              refine z_callV (As := []) (rest := []) ⟨hx, hb, hml, hown, hts⟩ (c_X3_livingMany l dC dI cI cZ bd τ Hn B L C V M hk2 ξ (σ 0 7) v kv hh) (cwV 0 hts gX3_manors_X3_livingMany rfl rfl rfl (by decide +kernel) ⟨Nat.le_of_ble_eq_true rfl, Nat.le_of_ble_eq_true rfl⟩) (hP.sub [0, 1, 2] rfl) hK (va_recv hK hP (ci := 3) (q0 := 0) rfl rfl) rfl hl.1 rfl (Nat.le_of_ble_eq_true rfl) ⟨Nat.zero_le _, Nat.zero_le _⟩ dX3_manors_207 (fun r hr => ?_)
              obtain rfl : r = aliveR τ Hn := hr
              refine lv_istore (lv' := [(6, .int (aliveR τ Hn)), (5, .int (τ 0 7 - σ 0 7)), (4, .int (σ 0 6)), (0, .ref (bd 0)), (1, .int (nI yy)), (2, .int sd0), (3, .int (nI ww))]) hx hb dX3_manors_210 hl (by decide) rfl (fun ls hl => ?_)
              refine lv_aload_n hx hb dX3_manors_212 rfl (lv_at hl 3 rfl) ?_
              refine va_get (D := (dC, dI)) (ci := 3) (v := .ref (bd 4)) (C := RX3) (T := TX3) (N := 24) hx hb hts hin3 hown hK hP 0 rfl rfl 14 (by decide) L19 (fun _ h9 => h9) rfl dX3_manors_213 ?_
              refine lv_aload_n hx hb dX3_manors_216 rfl (lv_at hl 3 rfl) ?_
              refine va_get (D := (dC, dI)) (ci := 3) (v := .ref (bd 2)) (C := RX3) (T := TX3) (N := 24) hx hb hts hin3 hown hK hP 0 rfl rfl 11 (by decide) L13 (fun _ h9 => h9) rfl dX3_manors_217 ?_
              refine z_callQvS (As := [.ref (bd 4), .ref (bd 2)]) (rest := []) ⟨hx, hb, hml, hown, hts⟩ (c_X3_copy l dC dI cI cZ (bd 4) (bd 2) 16 (by decide) (menOf σ) (menOf τ) _) (va_cwS 2 hts gX3_manors_X3_copy rfl rfl rfl (by decide +kernel) ⟨Nat.le_of_ble_eq_true rfl, Nat.le_of_ble_eq_true rfl⟩) hP hD hK hS hA [3, 1] [0, 2, 4] rfl rfl rfl rfl (by decide) rfl hl.1 rfl (Nat.le_of_ble_eq_true rfl) ⟨Nat.le_of_ble_eq_true rfl, Nat.le_of_ble_eq_true rfl⟩ dX3_manors_220 (fun u H locs hr hP hD hS => ?_)
              clear hr
              have hP : va_P (dC, dI) vwCl ([(bd 0, .inr (3, [.ref (bd 1), .int (ξ 0), .int (τ 0 0), .int (τ 0 1), .int (τ 0 2), .int (τ 0 3), .int (ξ 1), .int (τ 0 6), .int (σ 0 7), .int (τ 0 4), .int (τ 0 5), .ref (bd 2), .ref (bd 3), .int v, .ref (bd 4), .ref (bd 5), .int (kv 0), .int (kv 1), .int (kv 2), .int (kv 3), .ref (bd 6), .ref (bd 7), .ref (bd 8), .long hh])), (bd 2, .inl (cI, 16, .inl (menOf σ))), (bd 3, .inl (cI, 30, .inl (rowsOf τ))), (bd 4, .inl (cI, 16, .inl (menOf σ))), (bd 5, .inl (cI, 30, .inl (rowsOf σ)))]) H := hP.sub [0, 4, 1, 3, 2] rfl
              have hD : va_D A ([(bd 0, .inr (3, [.ref (bd 1), .int (ξ 0), .int (τ 0 0), .int (τ 0 1), .int (τ 0 2), .int (τ 0 3), .int (ξ 1), .int (τ 0 6), .int (σ 0 7), .int (τ 0 4), .int (τ 0 5), .ref (bd 2), .ref (bd 3), .int v, .ref (bd 4), .ref (bd 5), .int (kv 0), .int (kv 1), .int (kv 2), .int (kv 3), .ref (bd 6), .ref (bd 7), .ref (bd 8), .long hh])), (bd 2, .inl (cI, 16, .inl (menOf σ))), (bd 3, .inl (cI, 30, .inl (rowsOf τ))), (bd 4, .inl (cI, 16, .inl (menOf σ))), (bd 5, .inl (cI, 30, .inl (rowsOf σ)))]) := hD.sub [0, 4, 1, 3, 2] rfl rfl
              refine lv_aload_n hx hb dX3_manors_223 rfl (lv_at hl 3 rfl) ?_
              refine va_get (D := (dC, dI)) (ci := 3) (v := .ref (bd 5)) (C := RX3) (T := TX3) (N := 24) hx hb hts hin3 hown hK hP 0 rfl rfl 15 (by decide) L22 (fun _ h9 => h9) rfl dX3_manors_224 ?_
              refine lv_aload_n hx hb dX3_manors_227 rfl (lv_at hl 3 rfl) ?_
              refine va_get (D := (dC, dI)) (ci := 3) (v := .ref (bd 3)) (C := RX3) (T := TX3) (N := 24) hx hb hts hin3 hown hK hP 0 rfl rfl 12 (by decide) L16 (fun _ h9 => h9) rfl dX3_manors_228 ?_
              refine z_callQvS (As := [.ref (bd 5), .ref (bd 3)]) (rest := []) ⟨hx, hb, hml, hown, hts⟩ (c_X3_copy l dC dI cI cZ (bd 5) (bd 3) 30 (by decide) (rowsOf σ) (rowsOf τ) _) (va_cwS 2 hts gX3_manors_X3_copy rfl rfl rfl (by decide +kernel) ⟨Nat.le_of_ble_eq_true rfl, Nat.le_of_ble_eq_true rfl⟩) hP hD hK hS hA [4, 2] [0, 1, 3] rfl rfl rfl rfl (by decide) rfl hl.1 rfl (Nat.le_of_ble_eq_true rfl) ⟨Nat.le_of_ble_eq_true rfl, Nat.le_of_ble_eq_true rfl⟩ dX3_manors_231 (fun u H locs hr hP hD hS => ?_)
              clear hr
              have hP : va_P (dC, dI) vwCl ([(bd 0, .inr (3, [.ref (bd 1), .int (ξ 0), .int (τ 0 0), .int (τ 0 1), .int (τ 0 2), .int (τ 0 3), .int (ξ 1), .int (τ 0 6), .int (σ 0 7), .int (τ 0 4), .int (τ 0 5), .ref (bd 2), .ref (bd 3), .int v, .ref (bd 4), .ref (bd 5), .int (kv 0), .int (kv 1), .int (kv 2), .int (kv 3), .ref (bd 6), .ref (bd 7), .ref (bd 8), .long hh])), (bd 2, .inl (cI, 16, .inl (menOf σ))), (bd 3, .inl (cI, 30, .inl (rowsOf σ))), (bd 4, .inl (cI, 16, .inl (menOf σ))), (bd 5, .inl (cI, 30, .inl (rowsOf σ)))]) H := hP.sub [0, 1, 4, 2, 3] rfl
              have hD : va_D A ([(bd 0, .inr (3, [.ref (bd 1), .int (ξ 0), .int (τ 0 0), .int (τ 0 1), .int (τ 0 2), .int (τ 0 3), .int (ξ 1), .int (τ 0 6), .int (σ 0 7), .int (τ 0 4), .int (τ 0 5), .ref (bd 2), .ref (bd 3), .int v, .ref (bd 4), .ref (bd 5), .int (kv 0), .int (kv 1), .int (kv 2), .int (kv 3), .ref (bd 6), .ref (bd 7), .ref (bd 8), .long hh])), (bd 2, .inl (cI, 16, .inl (menOf σ))), (bd 3, .inl (cI, 30, .inl (rowsOf σ))), (bd 4, .inl (cI, 16, .inl (menOf σ))), (bd 5, .inl (cI, 30, .inl (rowsOf σ)))]) := hD.sub [0, 1, 4, 2, 3] rfl rfl
              refine lv_aload_n hx hb dX3_manors_234 rfl (lv_at hl 3 rfl) ?_
              refine lv_iload hx hb dX3_manors_235 (lv_at hl 2 rfl) ?_
              refine va_put (D := (dC, dI)) (ci := 3) (v := .int (σ 0 6)) (ty := .int) (C := RX3) (T := TX3) (N := 24) hx hb hts hin3 tyX3 tyX3_ok nmX3 hown hK hP hD hS 0 rfl rfl 7 (by decide) L104 (fun _ h9 => h9) rfl (by decide +kernel) rfl rfl (Nat.le_of_ble_eq_true rfl) dX3_manors_237 (fun H locs hP hD hS => ?_)
              have hP : va_P (dC, dI) vwCl ([(bd 0, .inr (3, [.ref (bd 1), .int (ξ 0), .int (τ 0 0), .int (τ 0 1), .int (τ 0 2), .int (τ 0 3), .int (ξ 1), .int (σ 0 6), .int (σ 0 7), .int (τ 0 4), .int (τ 0 5), .ref (bd 2), .ref (bd 3), .int v, .ref (bd 4), .ref (bd 5), .int (kv 0), .int (kv 1), .int (kv 2), .int (kv 3), .ref (bd 6), .ref (bd 7), .ref (bd 8), .long hh])), (bd 2, .inl (cI, 16, .inl (menOf σ))), (bd 3, .inl (cI, 30, .inl (rowsOf σ))), (bd 4, .inl (cI, 16, .inl (menOf σ))), (bd 5, .inl (cI, 30, .inl (rowsOf σ)))]) H := hP
              have hD : va_D A ([(bd 0, .inr (3, [.ref (bd 1), .int (ξ 0), .int (τ 0 0), .int (τ 0 1), .int (τ 0 2), .int (τ 0 3), .int (ξ 1), .int (σ 0 6), .int (σ 0 7), .int (τ 0 4), .int (τ 0 5), .ref (bd 2), .ref (bd 3), .int v, .ref (bd 4), .ref (bd 5), .int (kv 0), .int (kv 1), .int (kv 2), .int (kv 3), .ref (bd 6), .ref (bd 7), .ref (bd 8), .long hh])), (bd 2, .inl (cI, 16, .inl (menOf σ))), (bd 3, .inl (cI, 30, .inl (rowsOf σ))), (bd 4, .inl (cI, 16, .inl (menOf σ))), (bd 5, .inl (cI, 30, .inl (rowsOf σ)))]) := hD
              refine lv_iload_n hx hb dX3_manors_240 rfl (lv_at hl 6 rfl) ?_
              refine z_if_ne (a := ww) (tgt := 249) hx hb (by omega) dX3_manors_241 (by decide) (fun (c_241 : ww ≠ 0) => ?_) (fun (c_241 : ww = 0) => ?_)
              · skip
                refine lv_iload_n hx hb dX3_manors_249 rfl (lv_at hl 6 rfl) ?_
                refine lv_iconst (v := nI 1) hx hb dX3_manors_250 (by decide) ?_
                refine z_icmp_ne (a := ww) (b := 1) (tgt := 259) hx hb (by omega) (by omega) dX3_manors_251 (by decide) (fun (c_251 : ww ≠ 1) => ?_) (fun (c_251 : ww = 1) => ?_)
                · skip
                  refine lv_aload_n hx hb dX3_manors_259 rfl (lv_at hl 3 rfl) ?_
                  refine va_get (D := (dC, dI)) (ci := 3) (v := .int v) (C := RX3) (T := TX3) (N := 24) hx hb hts hin3 hown hK hP 0 rfl rfl 13 (by decide) L171 (fun _ h9 => h9) rfl dX3_manors_260 ?_
                  have y0 := yearsR_num (σ := σ) (Hn := Hn) (B := B) (sd := sd0) (i := 0) (by decide) k
                  rw [hd] at y0
                  have y0 : τ 0 0 = σ 0 0 := y0
                  have y1 := yearsR_num (σ := σ) (Hn := Hn) (B := B) (sd := sd0) (i := 1) (by decide) k
                  rw [hd] at y1
                  have y1 : τ 0 1 = σ 0 1 := y1
                  have y2 := yearsR_num (σ := σ) (Hn := Hn) (B := B) (sd := sd0) (i := 2) (by decide) k
                  rw [hd] at y2
                  have y2 : τ 0 2 = σ 0 2 := y2
                  have y3 := yearsR_num (σ := σ) (Hn := Hn) (B := B) (sd := sd0) (i := 3) (by decide) k
                  rw [hd] at y3
                  have y3 : τ 0 3 = σ 0 3 := y3
                  have y4 := yearsR_num (σ := σ) (Hn := Hn) (B := B) (sd := sd0) (i := 4) (by decide) k
                  rw [hd] at y4
                  have y4 : τ 0 4 = σ 0 4 := y4
                  have y5 := yearsR_num (σ := σ) (Hn := Hn) (B := B) (sd := sd0) (i := 5) (by decide) k
                  rw [hd] at y5
                  have y5 : τ 0 5 = σ 0 5 := y5
                  rw [y0, y1, y2, y3, y4, y5] at hP hD
                  have hP : va_P (dC, dI) vwCl [bo bd σ ξ (σ 0 7) v kv hh, (bd 2, .inl (cI, 16, .inl (menOf σ))), (bd 3, .inl (cI, 30, .inl (rowsOf σ))), (bd 4, .inl (cI, 16, .inl (menOf σ))), (bd 5, .inl (cI, 30, .inl (rowsOf σ)))] H := hP
                  have hD : va_D A [bo bd σ ξ (σ 0 7) v kv hh, (bd 2, .inl (cI, 16, .inl (menOf σ))), (bd 3, .inl (cI, 30, .inl (rowsOf σ))), (bd 4, .inl (cI, 16, .inl (menOf σ))), (bd 5, .inl (cI, 30, .inl (rowsOf σ)))] := hD
                  exact hq v (v, (menOf σ), (rowsOf σ)) _ _ 263 ls dX3_manors_263 (show v = manorsF σ Hn B (nI yy) sd0 (nI ww) from (by unfold manorsF; rw [zif_t ⟨inP_nI hy1 hy60, c_13, inP_nI (Nat.zero_le _) hw2⟩, if_neg c_35, tn_nI (by omega), tn_nI (by omega), show yy = k by omega, show ww = 2 by omega]; unfold manorsN; (rw [hd]) <;> rfl)) hP hD hS
                · skip
                  refine lv_iload hx hb dX3_manors_254 (lv_at hl 0 rfl) ?_
                  refine lv_goto (tgt := 263) hx hb dX3_manors_256 (by decide) ?_
                  have y0 := yearsR_num (σ := σ) (Hn := Hn) (B := B) (sd := sd0) (i := 0) (by decide) k
                  rw [hd] at y0
                  have y0 : τ 0 0 = σ 0 0 := y0
                  have y1 := yearsR_num (σ := σ) (Hn := Hn) (B := B) (sd := sd0) (i := 1) (by decide) k
                  rw [hd] at y1
                  have y1 : τ 0 1 = σ 0 1 := y1
                  have y2 := yearsR_num (σ := σ) (Hn := Hn) (B := B) (sd := sd0) (i := 2) (by decide) k
                  rw [hd] at y2
                  have y2 : τ 0 2 = σ 0 2 := y2
                  have y3 := yearsR_num (σ := σ) (Hn := Hn) (B := B) (sd := sd0) (i := 3) (by decide) k
                  rw [hd] at y3
                  have y3 : τ 0 3 = σ 0 3 := y3
                  have y4 := yearsR_num (σ := σ) (Hn := Hn) (B := B) (sd := sd0) (i := 4) (by decide) k
                  rw [hd] at y4
                  have y4 : τ 0 4 = σ 0 4 := y4
                  have y5 := yearsR_num (σ := σ) (Hn := Hn) (B := B) (sd := sd0) (i := 5) (by decide) k
                  rw [hd] at y5
                  have y5 : τ 0 5 = σ 0 5 := y5
                  rw [y0, y1, y2, y3, y4, y5] at hP hD
                  have hP : va_P (dC, dI) vwCl [bo bd σ ξ (σ 0 7) v kv hh, (bd 2, .inl (cI, 16, .inl (menOf σ))), (bd 3, .inl (cI, 30, .inl (rowsOf σ))), (bd 4, .inl (cI, 16, .inl (menOf σ))), (bd 5, .inl (cI, 30, .inl (rowsOf σ)))] H := hP
                  have hD : va_D A [bo bd σ ξ (σ 0 7) v kv hh, (bd 2, .inl (cI, 16, .inl (menOf σ))), (bd 3, .inl (cI, 30, .inl (rowsOf σ))), (bd 4, .inl (cI, 16, .inl (menOf σ))), (bd 5, .inl (cI, 30, .inl (rowsOf σ)))] := hD
                  exact hq (aliveR τ Hn) (v, (menOf σ), (rowsOf σ)) _ _ 263 ls dX3_manors_263 (show (aliveR τ Hn) = manorsF σ Hn B (nI yy) sd0 (nI ww) from (by unfold manorsF; rw [zif_t ⟨inP_nI hy1 hy60, c_13, inP_nI (Nat.zero_le _) hw2⟩, if_neg c_35, tn_nI (by omega), tn_nI (by omega), show yy = k by omega, show ww = 1 by omega]; unfold manorsN; (rw [hd]) <;> rfl)) hP hD hS
              · skip
                refine lv_iload hx hb dX3_manors_244 (lv_at hl 1 rfl) ?_
                refine lv_goto (tgt := 263) hx hb dX3_manors_246 (by decide) ?_
                have y0 := yearsR_num (σ := σ) (Hn := Hn) (B := B) (sd := sd0) (i := 0) (by decide) k
                rw [hd] at y0
                have y0 : τ 0 0 = σ 0 0 := y0
                have y1 := yearsR_num (σ := σ) (Hn := Hn) (B := B) (sd := sd0) (i := 1) (by decide) k
                rw [hd] at y1
                have y1 : τ 0 1 = σ 0 1 := y1
                have y2 := yearsR_num (σ := σ) (Hn := Hn) (B := B) (sd := sd0) (i := 2) (by decide) k
                rw [hd] at y2
                have y2 : τ 0 2 = σ 0 2 := y2
                have y3 := yearsR_num (σ := σ) (Hn := Hn) (B := B) (sd := sd0) (i := 3) (by decide) k
                rw [hd] at y3
                have y3 : τ 0 3 = σ 0 3 := y3
                have y4 := yearsR_num (σ := σ) (Hn := Hn) (B := B) (sd := sd0) (i := 4) (by decide) k
                rw [hd] at y4
                have y4 : τ 0 4 = σ 0 4 := y4
                have y5 := yearsR_num (σ := σ) (Hn := Hn) (B := B) (sd := sd0) (i := 5) (by decide) k
                rw [hd] at y5
                have y5 : τ 0 5 = σ 0 5 := y5
                rw [y0, y1, y2, y3, y4, y5] at hP hD
                have hP : va_P (dC, dI) vwCl [bo bd σ ξ (σ 0 7) v kv hh, (bd 2, .inl (cI, 16, .inl (menOf σ))), (bd 3, .inl (cI, 30, .inl (rowsOf σ))), (bd 4, .inl (cI, 16, .inl (menOf σ))), (bd 5, .inl (cI, 30, .inl (rowsOf σ)))] H := hP
                have hD : va_D A [bo bd σ ξ (σ 0 7) v kv hh, (bd 2, .inl (cI, 16, .inl (menOf σ))), (bd 3, .inl (cI, 30, .inl (rowsOf σ))), (bd 4, .inl (cI, 16, .inl (menOf σ))), (bd 5, .inl (cI, 30, .inl (rowsOf σ)))] := hD
                exact hq (τ 0 7 - σ 0 7) (v, (menOf σ), (rowsOf σ)) _ _ 263 ls dX3_manors_263 (show (τ 0 7 - σ 0 7) = manorsF σ Hn B (nI yy) sd0 (nI ww) from (by unfold manorsF; rw [zif_t ⟨inP_nI hy1 hy60, c_13, inP_nI (Nat.zero_le _) hw2⟩, if_neg c_35, tn_nI (by omega), tn_nI (by omega), show yy = k by omega, show ww = 0 by omega]; unfold manorsN; (rw [hd]) <;> rfl)) hP hD hS
            · skip
              refine lv_iconst (v := nI 0) hx hb dX3_manors_86 (by decide) ?_
              refine lv_istore (lv' := [(7, .int (nI 0)), (6, .int (nI k)), (5, .int (τ 0 7 - σ 0 7)), (4, .int (σ 0 6)), (0, .ref (bd 0)), (1, .int (nI yy)), (2, .int sd0), (3, .int (nI ww))]) hx hb dX3_manors_87 hl (by decide) rfl (fun ls hl => ?_)
              suffices hlp89 : ∀ (nf : Nat) (h : Nat) (τ2 : St) (x2 : Int32) (x89_7 : Int32) (x89_5 : Int32) (ls : Array Slot) (H : Heap) (locs : List Loc), (h ≤ Hn) → (Inv τ2 Hn B L C V M) → (dayR τ Hn B v h = (τ2, x2)) → x89_7 = nI h → x89_5 = τ2 0 7 - σ 0 7 → va_P (dC, dI) vwCl ([bo bd τ2 ξ (σ 0 7) x2 kv hh, (bd 2, .inl (cI, 16, .inl (menOf τ2))), (bd 3, .inl (cI, 30, .inl (rowsOf τ2))), (bd 4, .inl (cI, 16, .inl (menOf σ))), (bd 5, .inl (cI, 30, .inl (rowsOf σ)))]) H → va_D A ([bo bd τ2 ξ (σ 0 7) x2 kv hh, (bd 2, .inl (cI, 16, .inl (menOf τ2))), (bd 3, .inl (cI, 30, .inl (rowsOf τ2))), (bd 4, .inl (cI, 16, .inl (menOf σ))), (bd 5, .inl (cI, 30, .inl (rowsOf σ)))]) → va_S A s.heap H locs → lv_has ls 9 [(7, .int x89_7), (6, .int (nI k)), (5, .int x89_5), (4, .int (σ 0 6)), (0, .ref (bd 0)), (1, .int (nI yy)), (2, .int sd0), (3, .int (nI ww))] → Hn - h < nf → W p l e rm_c_X3_manors s m ([.ref (bd 0), .int (nI yy), .int sd0, .int (nI ww)] : List Value).toArray below meth c H locs 0 0 Q (F0 m 89 ls []) by
                exact hlp89 ((Hn - 0) + 1) 0 τ v (nI 0) (τ 0 7 - σ 0 7) ls _ _ (by omega) hk2 rfl rfl rfl hP hD hS (lv_sub hl [0, 1, 2, 3, 4, 5, 6, 7] rfl) (by omega)
              clear hP hD hS hl
              intro nf
              induction nf with
              | zero => intro h τ2 x2 x89_7 x89_5 ls H locs hle hk3 hd2 e89_7 e89_5 hP hD hS hl hn; omega
              | succ nf ih89 =>
                intro h τ2 x2 x89_7 x89_5 ls H locs hle hk3 hd2 e89_7 e89_5 hP hD hS hl hn
                subst e89_7
                subst e89_5
                obtain ⟨⟨qL, qC, qV, qM, qH, qB, -⟩, -⟩ := id hk3
                refine lv_iload hx hb dX3_manors_89 (lv_at hl 0 rfl) ?_
                refine lv_aload_n hx hb dX3_manors_91 rfl (lv_at hl 4 rfl) ?_
                refine va_get (D := (dC, dI)) (ci := 3) (v := .int (nI Hn)) (C := RX3) (T := TX3) (N := 24) hx hb hts hin3 hown hK hP 0 rfl rfl 9 (by decide) L76 (fun _ h9 => h9) (congrArg (fun z => some (Value.int z)) qH) dX3_manors_92 ?_
                refine z_icmp_ge (a := h) (b := Hn) (tgt := 144) hx hb (by omega) (by omega) dX3_manors_95 (by decide) (fun (c_95 : Hn ≤ h) => ?_) (fun (c_95 : h < Hn) => ?_)
                · skip
                  have hhH : h = Hn := by omega
                  rw [hhH] at hd2
                  refine lv_aload_n hx hb dX3_manors_144 rfl (lv_at hl 4 rfl) ?_
                  refine va_get (D := (dC, dI)) (ci := 3) (v := .int (nI B)) (C := RX3) (T := TX3) (N := 24) hx hb hts hin3 hown hK hP 0 rfl rfl 10 (by decide) L79 (fun _ h9 => h9) (congrArg (fun z => some (Value.int z)) qB) dX3_manors_145 ?_
                  refine lv_if_le (tgt := 190) hx hb dX3_manors_148 (by decide) (fun (c_148 : (nI B) ≤ 0) => ?_) (fun (c_148 : ¬ ((nI B) ≤ 0)) => ?_)
                  · skip
                    have hB0 : B = 0 := nI_z c_148 (by omega)
                    refine lv_aload_n hx hb dX3_manors_190 rfl (lv_at hl 4 rfl) ?_
                    refine lv_dup hx hb dX3_manors_191 rfl ?_
                    refine va_get (D := (dC, dI)) (ci := 3) (v := .int (τ2 0 6)) (C := RX3) (T := TX3) (N := 24) hx hb hts hin3 hown hK hP 0 rfl rfl 7 (by decide) L104 (fun _ h9 => h9) rfl dX3_manors_192 ?_
                    refine lv_iconst (v := nI 1) hx hb dX3_manors_195 (by decide) ?_
                    refine z_iadd (v := (τ2 0 6) + (nI 1)) hx hb dX3_manors_196 (rfl) ?_
                    refine va_put (D := (dC, dI)) (ci := 3) (v := .int ((τ2 0 6) + (nI 1))) (ty := .int) (C := RX3) (T := TX3) (N := 24) hx hb hts hin3 tyX3 tyX3_ok nmX3 hown hK hP hD hS 0 rfl rfl 7 (by decide) L104 (fun _ h9 => h9) rfl (by decide +kernel) rfl rfl (Nat.le_of_ble_eq_true rfl) dX3_manors_197 (fun H locs hP hD hS => ?_)
                    have hP : va_P (dC, dI) vwCl ([bo bd (up2 τ2 0 6 ((τ2 0 6) + (nI 1))) ξ (σ 0 7) x2 kv hh, (bd 2, .inl (cI, 16, .inl (menOf (up2 τ2 0 6 ((τ2 0 6) + (nI 1)))))), (bd 3, .inl (cI, 30, .inl (rowsOf (up2 τ2 0 6 ((τ2 0 6) + (nI 1)))))), (bd 4, .inl (cI, 16, .inl (menOf σ))), (bd 5, .inl (cI, 30, .inl (rowsOf σ)))]) H := hP
                    have hD : va_D A ([bo bd (up2 τ2 0 6 ((τ2 0 6) + (nI 1))) ξ (σ 0 7) x2 kv hh, (bd 2, .inl (cI, 16, .inl (menOf (up2 τ2 0 6 ((τ2 0 6) + (nI 1)))))), (bd 3, .inl (cI, 30, .inl (rowsOf (up2 τ2 0 6 ((τ2 0 6) + (nI 1)))))), (bd 4, .inl (cI, 16, .inl (menOf σ))), (bd 5, .inl (cI, 30, .inl (rowsOf σ)))]) := hD
                    refine lv_iinc (v := nI (k + 1)) (lv' := [(6, .int (nI (k + 1))), (7, .int (nI h)), (5, .int (τ2 0 7 - σ 0 7)), (4, .int (σ 0 6)), (0, .ref (bd 0)), (1, .int (nI yy)), (2, .int sd0), (3, .int (nI ww))]) hx hb dX3_manors_200 hl (k := 1) rfl (nI_1 _) (by decide) rfl (fun ls hl => ?_)
                    refine lv_goto (tgt := 80) hx hb dX3_manors_203 (by decide) ?_
                    exact ih80 (k + 1) (up2 τ2 0 6 ((τ2 0 6) + (nI 1))) x2 (nI (k + 1)) (τ2 0 7 - σ 0 7) ls _ _ (by omega) (by have q := hk2.year (by omega) v; rw [← yearS_n hd2 hB0] at q; exact q) (by rw [yearsR, hd]; exact (yearS_n hd2 hB0).symm) (show nI (k + 1) = nI (k + 1) from rfl) (show τ2 0 7 - σ 0 7 = (up2 τ2 0 6 ((τ2 0 6) + (nI 1))) 0 7 - σ 0 7 from rfl) hP hD hS (lv_sub hl [0, 2, 3, 4, 5, 6, 7] rfl) (by omega)
                  · skip
                    have hB1 : 0 < B := nI_nz c_148
                    have q1 := tdraw_eq (seedF_pos x2) (n := B) (by omega) (by omega)
                    have q2 := tdraw_eq (seedF_pos (seedF x2)) (n := Hn) (by omega) (by omega)
                    refine lv_aload_n hx hb dX3_manors_151 rfl (lv_at hl 4 rfl) ?_
                    refine lv_aload_n hx hb dX3_manors_152 rfl (lv_at hl 4 rfl) ?_
                    refine va_get (D := (dC, dI)) (ci := 3) (v := .int (nI B)) (C := RX3) (T := TX3) (N := 24) hx hb hts hin3 hown hK hP 0 rfl rfl 10 (by decide) L79 (fun _ h9 => h9) (congrArg (fun z => some (Value.int z)) qB) dX3_manors_153 ?_
                    refine z_callQi (As := [.int (nI B)]) (rest := []) ⟨hx, hb, hml, hown, hts⟩ (c_X3_draw l dC dI cI cZ bd τ2 ξ (σ 0 7) x2 kv hh B (by omega) (by omega) _) (cwV 1 hts gX3_manors_X3_draw rfl rfl rfl (by decide +kernel) ⟨Nat.le_of_ble_eq_true rfl, Nat.le_of_ble_eq_true rfl⟩) (fun _ _ _ _ q => q) (fun _ _ _ => trivial) hP hD hK hS hA [0] [1, 2, 3, 4] rfl rfl rfl rfl (by decide) (va_recv hK hP (ci := 3) (q0 := 0) rfl rfl) rfl hl.1 rfl (Nat.le_of_ble_eq_true rfl) ⟨Nat.le_of_ble_eq_true rfl, Nat.le_of_ble_eq_true rfl⟩ dX3_manors_156 (fun r u H locs hr hP hD hS => ?_)
                    obtain ⟨rfl, rfl⟩ := hr
                    have hP : va_P (dC, dI) vwCl ([bo bd τ2 ξ (σ 0 7) (seedF x2) kv hh, (bd 2, .inl (cI, 16, .inl (menOf τ2))), (bd 3, .inl (cI, 30, .inl (rowsOf τ2))), (bd 4, .inl (cI, 16, .inl (menOf σ))), (bd 5, .inl (cI, 30, .inl (rowsOf σ)))]) H := hP.sub [4, 0, 1, 2, 3] rfl
                    have hD : va_D A ([bo bd τ2 ξ (σ 0 7) (seedF x2) kv hh, (bd 2, .inl (cI, 16, .inl (menOf τ2))), (bd 3, .inl (cI, 30, .inl (rowsOf τ2))), (bd 4, .inl (cI, 16, .inl (menOf σ))), (bd 5, .inl (cI, 30, .inl (rowsOf σ)))]) := hD.sub [4, 0, 1, 2, 3] rfl rfl
                    refine z_topi (v := nI (tdraw (seedF x2) B)) (q1.1) ?_
                    refine lv_istore (lv' := [(7, .int (nI (tdraw (seedF x2) B))), (6, .int (nI k)), (5, .int (τ2 0 7 - σ 0 7)), (4, .int (σ 0 6)), (0, .ref (bd 0)), (1, .int (nI yy)), (2, .int sd0), (3, .int (nI ww))]) hx hb dX3_manors_159 hl (by decide) rfl (fun ls hl => ?_)
                    refine lv_aload_n hx hb dX3_manors_161 rfl (lv_at hl 4 rfl) ?_
                    refine lv_aload_n hx hb dX3_manors_162 rfl (lv_at hl 4 rfl) ?_
                    refine va_get (D := (dC, dI)) (ci := 3) (v := .int (nI Hn)) (C := RX3) (T := TX3) (N := 24) hx hb hts hin3 hown hK hP 0 rfl rfl 9 (by decide) L76 (fun _ h9 => h9) (congrArg (fun z => some (Value.int z)) qH) dX3_manors_163 ?_
                    refine z_callQi (As := [.int (nI Hn)]) (rest := []) ⟨hx, hb, hml, hown, hts⟩ (c_X3_draw l dC dI cI cZ bd τ2 ξ (σ 0 7) (seedF x2) kv hh Hn (by omega) (by omega) _) (cwV 1 hts gX3_manors_X3_draw rfl rfl rfl (by decide +kernel) ⟨Nat.le_of_ble_eq_true rfl, Nat.le_of_ble_eq_true rfl⟩) (fun _ _ _ _ q => q) (fun _ _ _ => trivial) hP hD hK hS hA [0] [1, 2, 3, 4] rfl rfl rfl rfl (by decide) (va_recv hK hP (ci := 3) (q0 := 0) rfl rfl) rfl hl.1 rfl (Nat.le_of_ble_eq_true rfl) ⟨Nat.le_of_ble_eq_true rfl, Nat.le_of_ble_eq_true rfl⟩ dX3_manors_166 (fun r u H locs hr hP hD hS => ?_)
                    obtain ⟨rfl, rfl⟩ := hr
                    have hP : va_P (dC, dI) vwCl ([bo bd τ2 ξ (σ 0 7) (seedF (seedF x2)) kv hh, (bd 2, .inl (cI, 16, .inl (menOf τ2))), (bd 3, .inl (cI, 30, .inl (rowsOf τ2))), (bd 4, .inl (cI, 16, .inl (menOf σ))), (bd 5, .inl (cI, 30, .inl (rowsOf σ)))]) H := hP.sub [4, 0, 1, 2, 3] rfl
                    have hD : va_D A ([bo bd τ2 ξ (σ 0 7) (seedF (seedF x2)) kv hh, (bd 2, .inl (cI, 16, .inl (menOf τ2))), (bd 3, .inl (cI, 30, .inl (rowsOf τ2))), (bd 4, .inl (cI, 16, .inl (menOf σ))), (bd 5, .inl (cI, 30, .inl (rowsOf σ)))]) := hD.sub [4, 0, 1, 2, 3] rfl rfl
                    refine z_topi (v := nI (tdraw (seedF (seedF x2)) Hn)) (q2.1) ?_
                    refine lv_istore (lv' := [(8, .int (nI (tdraw (seedF (seedF x2)) Hn))), (7, .int (nI (tdraw (seedF x2) B))), (6, .int (nI k)), (5, .int (τ2 0 7 - σ 0 7)), (4, .int (σ 0 6)), (0, .ref (bd 0)), (1, .int (nI yy)), (2, .int sd0), (3, .int (nI ww))]) hx hb dX3_manors_169 hl (by decide) rfl (fun ls hl => ?_)
                    refine lv_aload_n hx hb dX3_manors_171 rfl (lv_at hl 5 rfl) ?_
                    refine lv_iload hx hb dX3_manors_172 (lv_at hl 1 rfl) ?_
                    refine lv_iload hx hb dX3_manors_174 (lv_at hl 0 rfl) ?_
                    refine z_callV (As := [.int (nI (tdraw (seedF x2) B)), .int (nI (tdraw (seedF (seedF x2)) Hn))]) (rest := []) ⟨hx, hb, hml, hown, hts⟩ (c_X3_mayGive l dC dI cI cZ bd τ2 Hn B L C V M hk3 ξ (σ 0 7) (seedF (seedF x2)) kv hh (tdraw (seedF x2) B) q1.2 (tdraw (seedF (seedF x2)) Hn) q2.2) (cwV 2 hts gX3_manors_X3_mayGive rfl rfl rfl (by decide +kernel) ⟨Nat.le_of_ble_eq_true rfl, Nat.le_of_ble_eq_true rfl⟩) (hP.sub [0, 1, 2] rfl) hK (va_recv hK hP (ci := 3) (q0 := 0) rfl rfl) rfl hl.1 rfl (Nat.le_of_ble_eq_true rfl) ⟨Nat.zero_le _, Nat.zero_le _⟩ dX3_manors_176 (fun r hr => ?_)
                    obtain rfl : r = zb (giveP τ2 (tdraw (seedF x2) B) (tdraw (seedF (seedF x2)) Hn)) := hr
                    refine z_ifeq_b (P := giveP τ2 (tdraw (seedF x2) B) (tdraw (seedF (seedF x2)) Hn)) (tgt := 190) hx hb dX3_manors_179 (by decide) (fun (c_179 : ¬ (giveP τ2 (tdraw (seedF x2) B) (tdraw (seedF (seedF x2)) Hn))) => ?_) (fun (c_179 : giveP τ2 (tdraw (seedF x2) B) (tdraw (seedF (seedF x2)) Hn)) => ?_)
                    · skip
                      refine lv_aload_n hx hb dX3_manors_190 rfl (lv_at hl 5 rfl) ?_
                      refine lv_dup hx hb dX3_manors_191 rfl ?_
                      refine va_get (D := (dC, dI)) (ci := 3) (v := .int (τ2 0 6)) (C := RX3) (T := TX3) (N := 24) hx hb hts hin3 hown hK hP 0 rfl rfl 7 (by decide) L104 (fun _ h9 => h9) rfl dX3_manors_192 ?_
                      refine lv_iconst (v := nI 1) hx hb dX3_manors_195 (by decide) ?_
                      refine z_iadd (v := (τ2 0 6) + (nI 1)) hx hb dX3_manors_196 (rfl) ?_
                      refine va_put (D := (dC, dI)) (ci := 3) (v := .int ((τ2 0 6) + (nI 1))) (ty := .int) (C := RX3) (T := TX3) (N := 24) hx hb hts hin3 tyX3 tyX3_ok nmX3 hown hK hP hD hS 0 rfl rfl 7 (by decide) L104 (fun _ h9 => h9) rfl (by decide +kernel) rfl rfl (Nat.le_of_ble_eq_true rfl) dX3_manors_197 (fun H locs hP hD hS => ?_)
                      have hP : va_P (dC, dI) vwCl ([bo bd (up2 τ2 0 6 ((τ2 0 6) + (nI 1))) ξ (σ 0 7) (seedF (seedF x2)) kv hh, (bd 2, .inl (cI, 16, .inl (menOf (up2 τ2 0 6 ((τ2 0 6) + (nI 1)))))), (bd 3, .inl (cI, 30, .inl (rowsOf (up2 τ2 0 6 ((τ2 0 6) + (nI 1)))))), (bd 4, .inl (cI, 16, .inl (menOf σ))), (bd 5, .inl (cI, 30, .inl (rowsOf σ)))]) H := hP
                      have hD : va_D A ([bo bd (up2 τ2 0 6 ((τ2 0 6) + (nI 1))) ξ (σ 0 7) (seedF (seedF x2)) kv hh, (bd 2, .inl (cI, 16, .inl (menOf (up2 τ2 0 6 ((τ2 0 6) + (nI 1)))))), (bd 3, .inl (cI, 30, .inl (rowsOf (up2 τ2 0 6 ((τ2 0 6) + (nI 1)))))), (bd 4, .inl (cI, 16, .inl (menOf σ))), (bd 5, .inl (cI, 30, .inl (rowsOf σ)))]) := hD
                      refine lv_iinc (v := nI (k + 1)) (lv' := [(6, .int (nI (k + 1))), (8, .int (nI (tdraw (seedF (seedF x2)) Hn))), (7, .int (nI (tdraw (seedF x2) B))), (5, .int (τ2 0 7 - σ 0 7)), (4, .int (σ 0 6)), (0, .ref (bd 0)), (1, .int (nI yy)), (2, .int sd0), (3, .int (nI ww))]) hx hb dX3_manors_200 hl (k := 2) rfl (nI_1 _) (by decide) rfl (fun ls hl => ?_)
                      refine lv_goto (tgt := 80) hx hb dX3_manors_203 (by decide) ?_
                      exact ih80 (k + 1) (up2 τ2 0 6 ((τ2 0 6) + (nI 1))) (seedF (seedF x2)) (nI (k + 1)) (τ2 0 7 - σ 0 7) ls _ _ (by omega) (by have q := hk2.year (by omega) v; rw [← yearS_y hd2 hB1, giftS_n c_179] at q; exact q) (by rw [yearsR, hd, ← yearS_y hd2 hB1, giftS_n c_179]) (show nI (k + 1) = nI (k + 1) from rfl) (show τ2 0 7 - σ 0 7 = (up2 τ2 0 6 ((τ2 0 6) + (nI 1))) 0 7 - σ 0 7 from rfl) hP hD hS (lv_sub hl [0, 3, 4, 5, 6, 7, 8] rfl) (by omega)
                    · skip
                      refine lv_aload_n hx hb dX3_manors_182 rfl (lv_at hl 5 rfl) ?_
                      refine lv_iload hx hb dX3_manors_183 (lv_at hl 1 rfl) ?_
                      refine lv_iload hx hb dX3_manors_185 (lv_at hl 0 rfl) ?_
                      refine z_callQv (As := [.int (nI (tdraw (seedF x2) B)), .int (nI (tdraw (seedF (seedF x2)) Hn))]) (rest := []) ⟨hx, hb, hml, hown, hts⟩ (c_X3_gives l dC dI cI cZ bd τ2 ξ (σ 0 7) (seedF (seedF x2)) kv hh (tdraw (seedF x2) B) (Nat.lt_of_lt_of_le q1.2 jB) (tdraw (seedF (seedF x2)) Hn) _) (cwV 2 hts gX3_manors_X3_gives rfl rfl rfl (by decide +kernel) ⟨Nat.le_of_ble_eq_true rfl, Nat.le_of_ble_eq_true rfl⟩) (fun _ _ _ _ q => q) (fun _ _ _ => trivial) hP hD hK hS hA [0, 1, 2] [3, 4] rfl rfl rfl rfl (by decide) (va_recv hK hP (ci := 3) (q0 := 0) rfl rfl) rfl hl.1 rfl (Nat.le_of_ble_eq_true rfl) ⟨Nat.le_of_ble_eq_true rfl, Nat.le_of_ble_eq_true rfl⟩ dX3_manors_187 (fun u H locs hr hP hD hS => ?_)
                      obtain rfl := hr
                      have hP : va_P (dC, dI) vwCl ([bo bd (layS τ2 (tdraw (seedF x2) B) (nI (tdraw (seedF (seedF x2)) Hn)) (τ2 6 (tdraw (seedF x2) B)) (τ2 0 6)) ξ (σ 0 7) (seedF (seedF x2)) kv hh, (bd 2, .inl (cI, 16, .inl (menOf (layS τ2 (tdraw (seedF x2) B) (nI (tdraw (seedF (seedF x2)) Hn)) (τ2 6 (tdraw (seedF x2) B)) (τ2 0 6))))), (bd 3, .inl (cI, 30, .inl (rowsOf (layS τ2 (tdraw (seedF x2) B) (nI (tdraw (seedF (seedF x2)) Hn)) (τ2 6 (tdraw (seedF x2) B)) (τ2 0 6))))), (bd 4, .inl (cI, 16, .inl (menOf σ))), (bd 5, .inl (cI, 30, .inl (rowsOf σ)))]) H := hP.sub [2, 3, 4, 0, 1] rfl
                      have hD : va_D A ([bo bd (layS τ2 (tdraw (seedF x2) B) (nI (tdraw (seedF (seedF x2)) Hn)) (τ2 6 (tdraw (seedF x2) B)) (τ2 0 6)) ξ (σ 0 7) (seedF (seedF x2)) kv hh, (bd 2, .inl (cI, 16, .inl (menOf (layS τ2 (tdraw (seedF x2) B) (nI (tdraw (seedF (seedF x2)) Hn)) (τ2 6 (tdraw (seedF x2) B)) (τ2 0 6))))), (bd 3, .inl (cI, 30, .inl (rowsOf (layS τ2 (tdraw (seedF x2) B) (nI (tdraw (seedF (seedF x2)) Hn)) (τ2 6 (tdraw (seedF x2) B)) (τ2 0 6))))), (bd 4, .inl (cI, 16, .inl (menOf σ))), (bd 5, .inl (cI, 30, .inl (rowsOf σ)))]) := hD.sub [2, 3, 4, 0, 1] rfl rfl
                      refine lv_aload_n hx hb dX3_manors_190 rfl (lv_at hl 5 rfl) ?_
                      refine lv_dup hx hb dX3_manors_191 rfl ?_
                      refine va_get (D := (dC, dI)) (ci := 3) (v := .int ((layS τ2 (tdraw (seedF x2) B) (nI (tdraw (seedF (seedF x2)) Hn)) (τ2 6 (tdraw (seedF x2) B)) (τ2 0 6)) 0 6)) (C := RX3) (T := TX3) (N := 24) hx hb hts hin3 hown hK hP 0 rfl rfl 7 (by decide) L104 (fun _ h9 => h9) rfl dX3_manors_192 ?_
                      refine lv_iconst (v := nI 1) hx hb dX3_manors_195 (by decide) ?_
                      refine z_iadd (v := ((layS τ2 (tdraw (seedF x2) B) (nI (tdraw (seedF (seedF x2)) Hn)) (τ2 6 (tdraw (seedF x2) B)) (τ2 0 6)) 0 6) + (nI 1)) hx hb dX3_manors_196 (rfl) ?_
                      refine va_put (D := (dC, dI)) (ci := 3) (v := .int (((layS τ2 (tdraw (seedF x2) B) (nI (tdraw (seedF (seedF x2)) Hn)) (τ2 6 (tdraw (seedF x2) B)) (τ2 0 6)) 0 6) + (nI 1))) (ty := .int) (C := RX3) (T := TX3) (N := 24) hx hb hts hin3 tyX3 tyX3_ok nmX3 hown hK hP hD hS 0 rfl rfl 7 (by decide) L104 (fun _ h9 => h9) rfl (by decide +kernel) rfl rfl (Nat.le_of_ble_eq_true rfl) dX3_manors_197 (fun H locs hP hD hS => ?_)
                      have hP : va_P (dC, dI) vwCl ([bo bd (up2 (layS τ2 (tdraw (seedF x2) B) (nI (tdraw (seedF (seedF x2)) Hn)) (τ2 6 (tdraw (seedF x2) B)) (τ2 0 6)) 0 6 (((layS τ2 (tdraw (seedF x2) B) (nI (tdraw (seedF (seedF x2)) Hn)) (τ2 6 (tdraw (seedF x2) B)) (τ2 0 6)) 0 6) + (nI 1))) ξ (σ 0 7) (seedF (seedF x2)) kv hh, (bd 2, .inl (cI, 16, .inl (menOf (up2 (layS τ2 (tdraw (seedF x2) B) (nI (tdraw (seedF (seedF x2)) Hn)) (τ2 6 (tdraw (seedF x2) B)) (τ2 0 6)) 0 6 (((layS τ2 (tdraw (seedF x2) B) (nI (tdraw (seedF (seedF x2)) Hn)) (τ2 6 (tdraw (seedF x2) B)) (τ2 0 6)) 0 6) + (nI 1)))))), (bd 3, .inl (cI, 30, .inl (rowsOf (up2 (layS τ2 (tdraw (seedF x2) B) (nI (tdraw (seedF (seedF x2)) Hn)) (τ2 6 (tdraw (seedF x2) B)) (τ2 0 6)) 0 6 (((layS τ2 (tdraw (seedF x2) B) (nI (tdraw (seedF (seedF x2)) Hn)) (τ2 6 (tdraw (seedF x2) B)) (τ2 0 6)) 0 6) + (nI 1)))))), (bd 4, .inl (cI, 16, .inl (menOf σ))), (bd 5, .inl (cI, 30, .inl (rowsOf σ)))]) H := hP
                      have hD : va_D A ([bo bd (up2 (layS τ2 (tdraw (seedF x2) B) (nI (tdraw (seedF (seedF x2)) Hn)) (τ2 6 (tdraw (seedF x2) B)) (τ2 0 6)) 0 6 (((layS τ2 (tdraw (seedF x2) B) (nI (tdraw (seedF (seedF x2)) Hn)) (τ2 6 (tdraw (seedF x2) B)) (τ2 0 6)) 0 6) + (nI 1))) ξ (σ 0 7) (seedF (seedF x2)) kv hh, (bd 2, .inl (cI, 16, .inl (menOf (up2 (layS τ2 (tdraw (seedF x2) B) (nI (tdraw (seedF (seedF x2)) Hn)) (τ2 6 (tdraw (seedF x2) B)) (τ2 0 6)) 0 6 (((layS τ2 (tdraw (seedF x2) B) (nI (tdraw (seedF (seedF x2)) Hn)) (τ2 6 (tdraw (seedF x2) B)) (τ2 0 6)) 0 6) + (nI 1)))))), (bd 3, .inl (cI, 30, .inl (rowsOf (up2 (layS τ2 (tdraw (seedF x2) B) (nI (tdraw (seedF (seedF x2)) Hn)) (τ2 6 (tdraw (seedF x2) B)) (τ2 0 6)) 0 6 (((layS τ2 (tdraw (seedF x2) B) (nI (tdraw (seedF (seedF x2)) Hn)) (τ2 6 (tdraw (seedF x2) B)) (τ2 0 6)) 0 6) + (nI 1)))))), (bd 4, .inl (cI, 16, .inl (menOf σ))), (bd 5, .inl (cI, 30, .inl (rowsOf σ)))]) := hD
                      refine lv_iinc (v := nI (k + 1)) (lv' := [(6, .int (nI (k + 1))), (8, .int (nI (tdraw (seedF (seedF x2)) Hn))), (7, .int (nI (tdraw (seedF x2) B))), (5, .int (τ2 0 7 - σ 0 7)), (4, .int (σ 0 6)), (0, .ref (bd 0)), (1, .int (nI yy)), (2, .int sd0), (3, .int (nI ww))]) hx hb dX3_manors_200 hl (k := 2) rfl (nI_1 _) (by decide) rfl (fun ls hl => ?_)
                      refine lv_goto (tgt := 80) hx hb dX3_manors_203 (by decide) ?_
                      exact ih80 (k + 1) (up2 (layS τ2 (tdraw (seedF x2) B) (nI (tdraw (seedF (seedF x2)) Hn)) (τ2 6 (tdraw (seedF x2) B)) (τ2 0 6)) 0 6 (((layS τ2 (tdraw (seedF x2) B) (nI (tdraw (seedF (seedF x2)) Hn)) (τ2 6 (tdraw (seedF x2) B)) (τ2 0 6)) 0 6) + (nI 1))) (seedF (seedF x2)) (nI (k + 1)) (τ2 0 7 - σ 0 7) ls _ _ (by omega) (by have q := hk2.year (by omega) v; rw [← yearS_y hd2 hB1, giftS_y c_179] at q; exact q) (by rw [yearsR, hd, ← yearS_y hd2 hB1, giftS_y c_179]) (show nI (k + 1) = nI (k + 1) from rfl) (show τ2 0 7 - σ 0 7 = (up2 (layS τ2 (tdraw (seedF x2) B) (nI (tdraw (seedF (seedF x2)) Hn)) (τ2 6 (tdraw (seedF x2) B)) (τ2 0 6)) 0 6 (((layS τ2 (tdraw (seedF x2) B) (nI (tdraw (seedF (seedF x2)) Hn)) (τ2 6 (tdraw (seedF x2) B)) (τ2 0 6)) 0 6) + (nI 1))) 0 7 - σ 0 7 from rfl) hP hD hS (lv_sub hl [0, 3, 4, 5, 6, 7, 8] rfl) (by omega)
                · skip
                  refine lv_aload_n hx hb dX3_manors_98 rfl (lv_at hl 4 rfl) ?_
                  refine lv_iload hx hb dX3_manors_99 (lv_at hl 0 rfl) ?_
                  refine z_callV (As := [.int (nI h)]) (rest := []) ⟨hx, hb, hml, hown, hts⟩ (c_X3_lives l dC dI cI cZ bd τ2 Hn B L C V M hk3 ξ (σ 0 7) x2 kv hh h (by omega)) (cwV 1 hts gX3_manors_X3_lives rfl rfl rfl (by decide +kernel) ⟨Nat.le_of_ble_eq_true rfl, Nat.le_of_ble_eq_true rfl⟩) (hP.sub [0, 1, 2] rfl) hK (va_recv hK hP (ci := 3) (q0 := 0) rfl rfl) rfl hl.1 rfl (Nat.le_of_ble_eq_true rfl) ⟨Nat.zero_le _, Nat.zero_le _⟩ dX3_manors_101 (fun r hr => ?_)
                  obtain rfl : r = zb (τ2 3 h = 1) := hr
                  refine z_ifeq_b (P := τ2 3 h = 1) (tgt := 138) hx hb dX3_manors_104 (by decide) (fun (c_104 : ¬ (τ2 3 h = 1)) => ?_) (fun (c_104 : τ2 3 h = 1) => ?_)
                  · skip
                    refine lv_iinc (v := nI (h + 1)) (lv' := [(7, .int (nI (h + 1))), (6, .int (nI k)), (5, .int (τ2 0 7 - σ 0 7)), (4, .int (σ 0 6)), (0, .ref (bd 0)), (1, .int (nI yy)), (2, .int sd0), (3, .int (nI ww))]) hx hb dX3_manors_138 hl (k := 0) rfl (nI_1 _) (by decide) rfl (fun ls hl => ?_)
                    refine lv_goto (tgt := 89) hx hb dX3_manors_141 (by decide) ?_
                    exact ih89 (h + 1) τ2 x2 (nI (h + 1)) (τ2 0 7 - σ 0 7) ls _ _ (by omega) hk3 (dayR_n hd2 c_104) (show nI (h + 1) = nI (h + 1) from rfl) (show τ2 0 7 - σ 0 7 = τ2 0 7 - σ 0 7 from rfl) hP hD hS (lv_sub hl [0, 1, 2, 3, 4, 5, 6, 7] rfl) (by omega)
                  · skip
                    refine lv_aload_n hx hb dX3_manors_107 rfl (lv_at hl 4 rfl) ?_
                    refine lv_bipush (v := nI 10) hx hb dX3_manors_108 (by decide) ?_
                    refine z_callQi (As := [.int (nI 10)]) (rest := []) ⟨hx, hb, hml, hown, hts⟩ (c_X3_draw l dC dI cI cZ bd τ2 ξ (σ 0 7) x2 kv hh 10 (by omega) (by omega) _) (cwV 1 hts gX3_manors_X3_draw rfl rfl rfl (by decide +kernel) ⟨Nat.le_of_ble_eq_true rfl, Nat.le_of_ble_eq_true rfl⟩) (fun _ _ _ _ q => q) (fun _ _ _ => trivial) hP hD hK hS hA [0] [1, 2, 3, 4] rfl rfl rfl rfl (by decide) (va_recv hK hP (ci := 3) (q0 := 0) rfl rfl) rfl hl.1 rfl (Nat.le_of_ble_eq_true rfl) ⟨Nat.le_of_ble_eq_true rfl, Nat.le_of_ble_eq_true rfl⟩ dX3_manors_110 (fun r u H locs hr hP hD hS => ?_)
                    obtain ⟨rfl, rfl⟩ := hr
                    have hP : va_P (dC, dI) vwCl ([bo bd τ2 ξ (σ 0 7) (seedF x2) kv hh, (bd 2, .inl (cI, 16, .inl (menOf τ2))), (bd 3, .inl (cI, 30, .inl (rowsOf τ2))), (bd 4, .inl (cI, 16, .inl (menOf σ))), (bd 5, .inl (cI, 30, .inl (rowsOf σ)))]) H := hP.sub [4, 0, 1, 2, 3] rfl
                    have hD : va_D A ([bo bd τ2 ξ (σ 0 7) (seedF x2) kv hh, (bd 2, .inl (cI, 16, .inl (menOf τ2))), (bd 3, .inl (cI, 30, .inl (rowsOf τ2))), (bd 4, .inl (cI, 16, .inl (menOf σ))), (bd 5, .inl (cI, 30, .inl (rowsOf σ)))]) := hD.sub [4, 0, 1, 2, 3] rfl rfl
                    refine lv_aload_n hx hb dX3_manors_113 rfl (lv_at hl 4 rfl) ?_
                    refine va_get (D := (dC, dI)) (ci := 3) (v := .ref (bd 2)) (C := RX3) (T := TX3) (N := 24) hx hb hts hin3 hown hK hP 0 rfl rfl 11 (by decide) L13 (fun _ h9 => h9) rfl dX3_manors_114 ?_
                    refine lv_iconst (v := nI 4) hx hb dX3_manors_117 (by decide) ?_
                    refine lv_iload hx hb dX3_manors_118 (lv_at hl 0 rfl) ?_
                    refine z_imul (v := nI (4 * h)) hx hb dX3_manors_120 (pk_mul _ _) ?_
                    refine lv_iconst (v := nI 1) hx hb dX3_manors_121 (by decide) ?_
                    refine z_iadd (v := nI ((4 * h) + 1)) hx hb dX3_manors_122 (nI_add _ _) ?_
                    refine z_iald (D := (dC, dI)) hx hb hK hP 1 0 rfl rfl ((4 * h) + 1) (rfl) (by omega) (by omega) (v := τ2 2 h) (menR τ2 h 1 (by decide)) dX3_manors_123 ?_
                    refine lv_icmp_ge (tgt := 138) hx hb dX3_manors_124 (by decide) (fun (c_124 : (τ2 2 h) ≤ (drawF (seedF x2) (nI 10))) => ?_) (fun (c_124 : ¬ ((τ2 2 h) ≤ (drawF (seedF x2) (nI 10)))) => ?_)
                    · skip
                      refine lv_iinc (v := nI (h + 1)) (lv' := [(7, .int (nI (h + 1))), (6, .int (nI k)), (5, .int (τ2 0 7 - σ 0 7)), (4, .int (σ 0 6)), (0, .ref (bd 0)), (1, .int (nI yy)), (2, .int sd0), (3, .int (nI ww))]) hx hb dX3_manors_138 hl (k := 0) rfl (nI_1 _) (by decide) rfl (fun ls hl => ?_)
                      refine lv_goto (tgt := 89) hx hb dX3_manors_141 (by decide) ?_
                      exact ih89 (h + 1) τ2 (seedF x2) (nI (h + 1)) (τ2 0 7 - σ 0 7) ls _ _ (by omega) hk3 (dayR_s hd2 c_104 (Int32.not_lt.mpr c_124)) (show nI (h + 1) = nI (h + 1) from rfl) (show τ2 0 7 - σ 0 7 = τ2 0 7 - σ 0 7 from rfl) hP hD hS (lv_sub hl [0, 1, 2, 3, 4, 5, 6, 7] rfl) (by omega)
                    · skip
                      refine lv_iload hx hb dX3_manors_127 (lv_at hl 2 rfl) ?_
                      refine lv_aload_n hx hb dX3_manors_129 rfl (lv_at hl 4 rfl) ?_
                      refine lv_iload hx hb dX3_manors_130 (lv_at hl 0 rfl) ?_
                      refine z_callQi (As := [.int (nI h)]) (rest := [.int (τ2 0 7 - σ 0 7)]) ⟨hx, hb, hml, hown, hts⟩ (c_X3_dies l dC dI cI cZ bd τ2 Hn B L C V M hk3 ξ (σ 0 7) (seedF x2) kv hh h (by omega) _) (cwV 1 hts gX3_manors_X3_dies rfl rfl rfl (by decide +kernel) ⟨Nat.le_of_ble_eq_true rfl, Nat.le_of_ble_eq_true rfl⟩) (fun _ _ _ _ q => q) (fun _ _ _ => trivial) hP hD hK hS hA [0, 1, 2] [3, 4] rfl rfl rfl rfl (by decide) (va_recv hK hP (ci := 3) (q0 := 0) rfl rfl) rfl hl.1 rfl (Nat.le_of_ble_eq_true rfl) ⟨Nat.le_of_ble_eq_true rfl, Nat.le_of_ble_eq_true rfl⟩ dX3_manors_132 (fun r u H locs hr hP hD hS => ?_)
                      obtain ⟨rfl, rfl⟩ := hr
                      have hP : va_P (dC, dI) vwCl ([bo bd (buryS τ2 Hn B h) ξ (σ 0 7) (seedF x2) kv hh, (bd 2, .inl (cI, 16, .inl (menOf (buryS τ2 Hn B h)))), (bd 3, .inl (cI, 30, .inl (rowsOf (buryS τ2 Hn B h)))), (bd 4, .inl (cI, 16, .inl (menOf σ))), (bd 5, .inl (cI, 30, .inl (rowsOf σ)))]) H := hP.sub [2, 3, 4, 0, 1] rfl
                      have hD : va_D A ([bo bd (buryS τ2 Hn B h) ξ (σ 0 7) (seedF x2) kv hh, (bd 2, .inl (cI, 16, .inl (menOf (buryS τ2 Hn B h)))), (bd 3, .inl (cI, 30, .inl (rowsOf (buryS τ2 Hn B h)))), (bd 4, .inl (cI, 16, .inl (menOf σ))), (bd 5, .inl (cI, 30, .inl (rowsOf σ)))]) := hD.sub [2, 3, 4, 0, 1] rfl rfl
                      refine z_iadd (v := (τ2 0 7 - σ 0 7) + (lossF τ2 B h (heldF τ2 B (nI h)))) hx hb dX3_manors_135 (rfl) ?_
                      refine lv_istore (lv' := [(5, .int ((τ2 0 7 - σ 0 7) + (lossF τ2 B h (heldF τ2 B (nI h))))), (7, .int (nI h)), (6, .int (nI k)), (4, .int (σ 0 6)), (0, .ref (bd 0)), (1, .int (nI yy)), (2, .int sd0), (3, .int (nI ww))]) hx hb dX3_manors_136 hl (by decide) rfl (fun ls hl => ?_)
                      refine lv_iinc (v := nI (h + 1)) (lv' := [(7, .int (nI (h + 1))), (5, .int ((τ2 0 7 - σ 0 7) + (lossF τ2 B h (heldF τ2 B (nI h))))), (6, .int (nI k)), (4, .int (σ 0 6)), (0, .ref (bd 0)), (1, .int (nI yy)), (2, .int sd0), (3, .int (nI ww))]) hx hb dX3_manors_138 hl (k := 1) rfl (nI_1 _) (by decide) rfl (fun ls hl => ?_)
                      refine lv_goto (tgt := 89) hx hb dX3_manors_141 (by decide) ?_
                      exact ih89 (h + 1) (buryS τ2 Hn B h) (seedF x2) (nI (h + 1)) ((τ2 0 7 - σ 0 7) + (lossF τ2 B h (heldF τ2 B (nI h)))) ls _ _ (by omega) (hk3.buried h) (dayR_d hd2 c_104 (Int32.not_le.mp c_124)) (show nI (h + 1) = nI (h + 1) from rfl) (show (τ2 0 7 - σ 0 7) + (lossF τ2 B h (heldF τ2 B (nI h))) = (buryS τ2 Hn B h) 0 7 - σ 0 7 from (sum7 _ _ _).trans rfl) hP hD hS (lv_sub hl [0, 2, 1, 3, 4, 5, 6, 7] rfl) (by omega)
        · skip
          refine lv_bipush (v := (-103)) hx hb dX3_manors_38 (by decide) ?_
          exact hq (-103) (sd, sm, sr) _ _ 40 ls dX3_manors_40 (show (-103) = manorsF σ Hn B (nI yy) sd0 (nI ww) from (by unfold manorsF; rw [zif_t ⟨inP_nI hy1 hy60, c_13, inP_nI (Nat.zero_le _) hw2⟩, if_pos c_35])) hP hD hS
      · skip
        refine lv_bipush (v := (-102)) hx hb dX3_manors_28 (by decide) ?_
        exact hq (-102) (sd, sm, sr) _ _ 30 ls dX3_manors_30 (show (-102) = manorsF σ Hn B (nI yy) sd0 w from (by unfold manorsF; rw [zif_f (fun z => c_25 z.2.2)])) hP hD hS
abbrev rm_c_X3_image : Room := { frames := 1, cells := 0, slots := 0, locals := 22 }
set_option maxHeartbeats 4000000 in
set_option maxRecDepth 100000 in
theorem c_X3_image (l : Launch) (dC : Nat → ClassId) (dI : Nat → Nat → Nat) (cI cZ : ClassId) (bd : Nat → Nat) (σ : St) (ξ : Nat → Int32) (sd : Int32) (kv : Nat → Int32) (hh : Int64) (fm fr fl : Nat → Int32)  (sz : Nat) : Met l yX3_image wsX3_image rm_c_X3_image (va_Pc [.ref (bd 0)] (zPre (dC, dI) vwCl (tyIZ cI cZ) ([bo bd σ ξ (σ 0 7) sd kv hh, (bd 2, .inl (cI, 16, .inl (menOf σ))), (bd 3, .inl (cI, 30, .inl (rowsOf σ))), (bd 6, .inl (cI, 16, .inl fm)), (bd 7, .inl (cI, 30, .inl fr)), (bd 8, .inl (cI, 4, .inl fl))]) sz (fun _ => True))) (va_Qi (fun (r : Int32) (u : Unit) => r = σ 0 6) (zPost (dC, dI) vwCl (tyIZ cI cZ) ([bo bd σ ξ (σ 0 7) sd kv hh, (bd 2, .inl (cI, 16, .inl (menOf σ))), (bd 3, .inl (cI, 30, .inl (rowsOf σ))), (bd 6, .inl (cI, 16, .inl fm)), (bd 7, .inl (cI, 30, .inl fr)), (bd 8, .inl (cI, 4, .inl fl))]) sz (fun (u : Unit) => [bo bd σ ξ (σ 0 7) sd (kvK σ) hh, (bd 2, .inl (cI, 16, .inl (menOf σ))), (bd 3, .inl (cI, 30, .inl (rowsOf σ))), (bd 6, .inl (cI, 16, .inl (menOf σ))), (bd 7, .inl (cI, 30, .inl (rowsOf σ))), (bd 8, .inl (cI, 4, .inl (lawU fl σ)))])) (va_A ([bo bd σ ξ (σ 0 7) sd kv hh, (bd 2, .inl (cI, 16, .inl (menOf σ))), (bd 3, .inl (cI, 30, .inl (rowsOf σ))), (bd 6, .inl (cI, 16, .inl fm)), (bd 7, .inl (cI, 30, .inl fr)), (bd 8, .inl (cI, 4, .inl fl))]) sz)) 0 0 (va_A ([bo bd σ ξ (σ 0 7) sd kv hh, (bd 2, .inl (cI, 16, .inl (menOf σ))), (bd 3, .inl (cI, 30, .inl (rowsOf σ))), (bd 6, .inl (cI, 16, .inl fm)), (bd 7, .inl (cI, 30, .inl fr)), (bd 8, .inl (cI, 4, .inl fl))]) sz) := by
  refine z_impI (cc := cX3_image) (maxL := 1) (av := [.ref (bd 0)]) (by decide) rfl (Nat.le_of_ble_eq_true rfl) ?_
  intro p e s m below meth c Q A ls hx hb hml hown hts hBs hP hK hD hS hA hAB hq hl
  have hown : s.vm.findClass RX3 = some m.cls := hown
  have hin3 : ∀ w ∈ wsX30, w ∈ wsX3_image := fun _ h => List.mem_cons_of_mem _ (List.mem_append_right _ h)
  have L13 := hts (.fieldLink RX3 13 "BestBeastModel" "men" "[I") (List.mem_of_getElem? (i := 1) rfl)
  have L25 := hts (.fieldLink RX3 25 "BestBeastModel" "keptMen" "[I") (List.mem_of_getElem? (i := 2) rfl)
  have L16 := hts (.fieldLink RX3 16 "BestBeastModel" "rows" "[I") (List.mem_of_getElem? (i := 3) rfl)
  have L28 := hts (.fieldLink RX3 28 "BestBeastModel" "keptRows" "[I") (List.mem_of_getElem? (i := 4) rfl)
  have L31 := hts (.fieldLink RX3 31 "BestBeastModel" "keptLaw" "[I") (List.mem_of_getElem? (i := 5) rfl)
  have L34 := hts (.fieldLink RX3 34 "BestBeastModel" "lord" "I") (List.mem_of_getElem? (i := 6) rfl)
  have L38 := hts (.fieldLink RX3 38 "BestBeastModel" "church" "I") (List.mem_of_getElem? (i := 7) rfl)
  have L41 := hts (.fieldLink RX3 41 "BestBeastModel" "voidYears" "I") (List.mem_of_getElem? (i := 8) rfl)
  have L70 := hts (.fieldLink RX3 70 "BestBeastModel" "least" "I") (List.mem_of_getElem? (i := 9) rfl)
  have L76 := hts (.fieldLink RX3 76 "BestBeastModel" "holders" "I") (List.mem_of_getElem? (i := 10) rfl)
  have L193 := hts (.fieldLink RX3 193 "BestBeastModel" "keptHolders" "I") (List.mem_of_getElem? (i := 11) rfl)
  have L79 := hts (.fieldLink RX3 79 "BestBeastModel" "beasts" "I") (List.mem_of_getElem? (i := 12) rfl)
  have L196 := hts (.fieldLink RX3 196 "BestBeastModel" "keptBeasts" "I") (List.mem_of_getElem? (i := 13) rfl)
  have L142 := hts (.fieldLink RX3 142 "BestBeastModel" "taken" "I") (List.mem_of_getElem? (i := 14) rfl)
  have L199 := hts (.fieldLink RX3 199 "BestBeastModel" "keptTaken" "I") (List.mem_of_getElem? (i := 15) rfl)
  have L104 := hts (.fieldLink RX3 104 "BestBeastModel" "yearNow" "I") (List.mem_of_getElem? (i := 16) rfl)
  have L44 := hts (.fieldLink RX3 44 "BestBeastModel" "keptYear" "I") (List.mem_of_getElem? (i := 17) rfl)
  have hl : lv_has ls 1 [(0, .ref (bd 0))] := hl
  refine lv_aload_n hx hb dX3_image_0 rfl (lv_at hl 0 rfl) ?_
  refine va_get (D := (dC, dI)) (ci := 3) (v := .ref (bd 2)) (C := RX3) (T := TX3) (N := 24) hx hb hts hin3 hown hK hP 0 rfl rfl 11 (by decide) L13 (fun _ h9 => h9) rfl dX3_image_1 ?_
  refine lv_aload_n hx hb dX3_image_4 rfl (lv_at hl 0 rfl) ?_
  refine va_get (D := (dC, dI)) (ci := 3) (v := .ref (bd 6)) (C := RX3) (T := TX3) (N := 24) hx hb hts hin3 hown hK hP 0 rfl rfl 20 (by decide) L25 (fun _ h9 => h9) rfl dX3_image_5 ?_
  refine z_callQvS (As := [.ref (bd 2), .ref (bd 6)]) (rest := []) ⟨hx, hb, hml, hown, hts⟩ (c_X3_copy l dC dI cI cZ (bd 2) (bd 6) 16 (by decide) (menOf σ) fm _) (va_cwS 2 hts gX3_image_X3_copy rfl rfl rfl (by decide +kernel) ⟨Nat.le_of_ble_eq_true rfl, Nat.le_of_ble_eq_true rfl⟩) hP hD hK hS hA [1, 3] [0, 2, 4, 5] rfl rfl rfl rfl (by decide) rfl hl.1 rfl (Nat.le_of_ble_eq_true rfl) ⟨Nat.le_of_ble_eq_true rfl, Nat.le_of_ble_eq_true rfl⟩ dX3_image_8 (fun u H locs hr hP hD hS => ?_)
  clear hr
  have hP : va_P (dC, dI) vwCl ([(bd 0, .inr (3, [.ref (bd 1), .int (ξ 0), .int (σ 0 0), .int (σ 0 1), .int (σ 0 2), .int (σ 0 3), .int (ξ 1), .int (σ 0 6), .int (σ 0 7), .int (σ 0 4), .int (σ 0 5), .ref (bd 2), .ref (bd 3), .int sd, .ref (bd 4), .ref (bd 5), .int (kv 0), .int (kv 1), .int (kv 2), .int (kv 3), .ref (bd 6), .ref (bd 7), .ref (bd 8), .long hh])), (bd 2, .inl (cI, 16, .inl (menOf σ))), (bd 3, .inl (cI, 30, .inl (rowsOf σ))), (bd 6, .inl (cI, 16, .inl (menOf σ))), (bd 7, .inl (cI, 30, .inl fr)), (bd 8, .inl (cI, 4, .inl fl))]) H := hP.sub [0, 4, 1, 5, 2, 3] rfl
  have hD : va_D A ([(bd 0, .inr (3, [.ref (bd 1), .int (ξ 0), .int (σ 0 0), .int (σ 0 1), .int (σ 0 2), .int (σ 0 3), .int (ξ 1), .int (σ 0 6), .int (σ 0 7), .int (σ 0 4), .int (σ 0 5), .ref (bd 2), .ref (bd 3), .int sd, .ref (bd 4), .ref (bd 5), .int (kv 0), .int (kv 1), .int (kv 2), .int (kv 3), .ref (bd 6), .ref (bd 7), .ref (bd 8), .long hh])), (bd 2, .inl (cI, 16, .inl (menOf σ))), (bd 3, .inl (cI, 30, .inl (rowsOf σ))), (bd 6, .inl (cI, 16, .inl (menOf σ))), (bd 7, .inl (cI, 30, .inl fr)), (bd 8, .inl (cI, 4, .inl fl))]) := hD.sub [0, 4, 1, 5, 2, 3] rfl rfl
  refine lv_aload_n hx hb dX3_image_11 rfl (lv_at hl 0 rfl) ?_
  refine va_get (D := (dC, dI)) (ci := 3) (v := .ref (bd 3)) (C := RX3) (T := TX3) (N := 24) hx hb hts hin3 hown hK hP 0 rfl rfl 12 (by decide) L16 (fun _ h9 => h9) rfl dX3_image_12 ?_
  refine lv_aload_n hx hb dX3_image_15 rfl (lv_at hl 0 rfl) ?_
  refine va_get (D := (dC, dI)) (ci := 3) (v := .ref (bd 7)) (C := RX3) (T := TX3) (N := 24) hx hb hts hin3 hown hK hP 0 rfl rfl 21 (by decide) L28 (fun _ h9 => h9) rfl dX3_image_16 ?_
  refine z_callQvS (As := [.ref (bd 3), .ref (bd 7)]) (rest := []) ⟨hx, hb, hml, hown, hts⟩ (c_X3_copy l dC dI cI cZ (bd 3) (bd 7) 30 (by decide) (rowsOf σ) fr _) (va_cwS 2 hts gX3_image_X3_copy rfl rfl rfl (by decide +kernel) ⟨Nat.le_of_ble_eq_true rfl, Nat.le_of_ble_eq_true rfl⟩) hP hD hK hS hA [2, 4] [0, 1, 3, 5] rfl rfl rfl rfl (by decide) rfl hl.1 rfl (Nat.le_of_ble_eq_true rfl) ⟨Nat.le_of_ble_eq_true rfl, Nat.le_of_ble_eq_true rfl⟩ dX3_image_19 (fun u H locs hr hP hD hS => ?_)
  clear hr
  have hP : va_P (dC, dI) vwCl ([(bd 0, .inr (3, [.ref (bd 1), .int (ξ 0), .int (σ 0 0), .int (σ 0 1), .int (σ 0 2), .int (σ 0 3), .int (ξ 1), .int (σ 0 6), .int (σ 0 7), .int (σ 0 4), .int (σ 0 5), .ref (bd 2), .ref (bd 3), .int sd, .ref (bd 4), .ref (bd 5), .int (kv 0), .int (kv 1), .int (kv 2), .int (kv 3), .ref (bd 6), .ref (bd 7), .ref (bd 8), .long hh])), (bd 2, .inl (cI, 16, .inl (menOf σ))), (bd 3, .inl (cI, 30, .inl (rowsOf σ))), (bd 6, .inl (cI, 16, .inl (menOf σ))), (bd 7, .inl (cI, 30, .inl (rowsOf σ))), (bd 8, .inl (cI, 4, .inl fl))]) H := hP.sub [0, 1, 4, 2, 5, 3] rfl
  have hD : va_D A ([(bd 0, .inr (3, [.ref (bd 1), .int (ξ 0), .int (σ 0 0), .int (σ 0 1), .int (σ 0 2), .int (σ 0 3), .int (ξ 1), .int (σ 0 6), .int (σ 0 7), .int (σ 0 4), .int (σ 0 5), .ref (bd 2), .ref (bd 3), .int sd, .ref (bd 4), .ref (bd 5), .int (kv 0), .int (kv 1), .int (kv 2), .int (kv 3), .ref (bd 6), .ref (bd 7), .ref (bd 8), .long hh])), (bd 2, .inl (cI, 16, .inl (menOf σ))), (bd 3, .inl (cI, 30, .inl (rowsOf σ))), (bd 6, .inl (cI, 16, .inl (menOf σ))), (bd 7, .inl (cI, 30, .inl (rowsOf σ))), (bd 8, .inl (cI, 4, .inl fl))]) := hD.sub [0, 1, 4, 2, 5, 3] rfl rfl
  refine lv_aload_n hx hb dX3_image_22 rfl (lv_at hl 0 rfl) ?_
  refine va_get (D := (dC, dI)) (ci := 3) (v := .ref (bd 8)) (C := RX3) (T := TX3) (N := 24) hx hb hts hin3 hown hK hP 0 rfl rfl 22 (by decide) L31 (fun _ h9 => h9) rfl dX3_image_23 ?_
  refine lv_iconst (v := nI 0) hx hb dX3_image_26 (by decide) ?_
  refine lv_aload_n hx hb dX3_image_27 rfl (lv_at hl 0 rfl) ?_
  refine va_get (D := (dC, dI)) (ci := 3) (v := .int (σ 0 0)) (C := RX3) (T := TX3) (N := 24) hx hb hts hin3 hown hK hP 0 rfl rfl 2 (by decide) L34 (fun _ h9 => h9) rfl dX3_image_28 ?_
  refine z_iast (D := (dC, dI)) hx hb hK hP hD hS 5 0 rfl rfl 0 (rfl) (by omega) (by omega) (f' := upd fl 0 (σ 0 0)) (rfl) dX3_image_31 (fun H locs hP hD hS => ?_)
  have hP : va_P (dC, dI) vwCl ([(bd 0, .inr (3, [.ref (bd 1), .int (ξ 0), .int (σ 0 0), .int (σ 0 1), .int (σ 0 2), .int (σ 0 3), .int (ξ 1), .int (σ 0 6), .int (σ 0 7), .int (σ 0 4), .int (σ 0 5), .ref (bd 2), .ref (bd 3), .int sd, .ref (bd 4), .ref (bd 5), .int (kv 0), .int (kv 1), .int (kv 2), .int (kv 3), .ref (bd 6), .ref (bd 7), .ref (bd 8), .long hh])), (bd 2, .inl (cI, 16, .inl (menOf σ))), (bd 3, .inl (cI, 30, .inl (rowsOf σ))), (bd 6, .inl (cI, 16, .inl (menOf σ))), (bd 7, .inl (cI, 30, .inl (rowsOf σ))), (bd 8, .inl (cI, 4, .inl (upd fl 0 (σ 0 0))))]) H := hP
  have hD : va_D A ([(bd 0, .inr (3, [.ref (bd 1), .int (ξ 0), .int (σ 0 0), .int (σ 0 1), .int (σ 0 2), .int (σ 0 3), .int (ξ 1), .int (σ 0 6), .int (σ 0 7), .int (σ 0 4), .int (σ 0 5), .ref (bd 2), .ref (bd 3), .int sd, .ref (bd 4), .ref (bd 5), .int (kv 0), .int (kv 1), .int (kv 2), .int (kv 3), .ref (bd 6), .ref (bd 7), .ref (bd 8), .long hh])), (bd 2, .inl (cI, 16, .inl (menOf σ))), (bd 3, .inl (cI, 30, .inl (rowsOf σ))), (bd 6, .inl (cI, 16, .inl (menOf σ))), (bd 7, .inl (cI, 30, .inl (rowsOf σ))), (bd 8, .inl (cI, 4, .inl (upd fl 0 (σ 0 0))))]) := hD
  refine lv_aload_n hx hb dX3_image_32 rfl (lv_at hl 0 rfl) ?_
  refine va_get (D := (dC, dI)) (ci := 3) (v := .ref (bd 8)) (C := RX3) (T := TX3) (N := 24) hx hb hts hin3 hown hK hP 0 rfl rfl 22 (by decide) L31 (fun _ h9 => h9) rfl dX3_image_33 ?_
  refine lv_iconst (v := nI 1) hx hb dX3_image_36 (by decide) ?_
  refine lv_aload_n hx hb dX3_image_37 rfl (lv_at hl 0 rfl) ?_
  refine va_get (D := (dC, dI)) (ci := 3) (v := .int (σ 0 1)) (C := RX3) (T := TX3) (N := 24) hx hb hts hin3 hown hK hP 0 rfl rfl 3 (by decide) L38 (fun _ h9 => h9) rfl dX3_image_38 ?_
  refine z_iast (D := (dC, dI)) hx hb hK hP hD hS 5 0 rfl rfl 1 (rfl) (by omega) (by omega) (f' := upd (upd fl 0 (σ 0 0)) 1 (σ 0 1)) (rfl) dX3_image_41 (fun H locs hP hD hS => ?_)
  have hP : va_P (dC, dI) vwCl ([(bd 0, .inr (3, [.ref (bd 1), .int (ξ 0), .int (σ 0 0), .int (σ 0 1), .int (σ 0 2), .int (σ 0 3), .int (ξ 1), .int (σ 0 6), .int (σ 0 7), .int (σ 0 4), .int (σ 0 5), .ref (bd 2), .ref (bd 3), .int sd, .ref (bd 4), .ref (bd 5), .int (kv 0), .int (kv 1), .int (kv 2), .int (kv 3), .ref (bd 6), .ref (bd 7), .ref (bd 8), .long hh])), (bd 2, .inl (cI, 16, .inl (menOf σ))), (bd 3, .inl (cI, 30, .inl (rowsOf σ))), (bd 6, .inl (cI, 16, .inl (menOf σ))), (bd 7, .inl (cI, 30, .inl (rowsOf σ))), (bd 8, .inl (cI, 4, .inl (upd (upd fl 0 (σ 0 0)) 1 (σ 0 1))))]) H := hP
  have hD : va_D A ([(bd 0, .inr (3, [.ref (bd 1), .int (ξ 0), .int (σ 0 0), .int (σ 0 1), .int (σ 0 2), .int (σ 0 3), .int (ξ 1), .int (σ 0 6), .int (σ 0 7), .int (σ 0 4), .int (σ 0 5), .ref (bd 2), .ref (bd 3), .int sd, .ref (bd 4), .ref (bd 5), .int (kv 0), .int (kv 1), .int (kv 2), .int (kv 3), .ref (bd 6), .ref (bd 7), .ref (bd 8), .long hh])), (bd 2, .inl (cI, 16, .inl (menOf σ))), (bd 3, .inl (cI, 30, .inl (rowsOf σ))), (bd 6, .inl (cI, 16, .inl (menOf σ))), (bd 7, .inl (cI, 30, .inl (rowsOf σ))), (bd 8, .inl (cI, 4, .inl (upd (upd fl 0 (σ 0 0)) 1 (σ 0 1))))]) := hD
  refine lv_aload_n hx hb dX3_image_42 rfl (lv_at hl 0 rfl) ?_
  refine va_get (D := (dC, dI)) (ci := 3) (v := .ref (bd 8)) (C := RX3) (T := TX3) (N := 24) hx hb hts hin3 hown hK hP 0 rfl rfl 22 (by decide) L31 (fun _ h9 => h9) rfl dX3_image_43 ?_
  refine lv_iconst (v := nI 2) hx hb dX3_image_46 (by decide) ?_
  refine lv_aload_n hx hb dX3_image_47 rfl (lv_at hl 0 rfl) ?_
  refine va_get (D := (dC, dI)) (ci := 3) (v := .int (σ 0 2)) (C := RX3) (T := TX3) (N := 24) hx hb hts hin3 hown hK hP 0 rfl rfl 4 (by decide) L41 (fun _ h9 => h9) rfl dX3_image_48 ?_
  refine z_iast (D := (dC, dI)) hx hb hK hP hD hS 5 0 rfl rfl 2 (rfl) (by omega) (by omega) (f' := upd (upd (upd fl 0 (σ 0 0)) 1 (σ 0 1)) 2 (σ 0 2)) (rfl) dX3_image_51 (fun H locs hP hD hS => ?_)
  have hP : va_P (dC, dI) vwCl ([(bd 0, .inr (3, [.ref (bd 1), .int (ξ 0), .int (σ 0 0), .int (σ 0 1), .int (σ 0 2), .int (σ 0 3), .int (ξ 1), .int (σ 0 6), .int (σ 0 7), .int (σ 0 4), .int (σ 0 5), .ref (bd 2), .ref (bd 3), .int sd, .ref (bd 4), .ref (bd 5), .int (kv 0), .int (kv 1), .int (kv 2), .int (kv 3), .ref (bd 6), .ref (bd 7), .ref (bd 8), .long hh])), (bd 2, .inl (cI, 16, .inl (menOf σ))), (bd 3, .inl (cI, 30, .inl (rowsOf σ))), (bd 6, .inl (cI, 16, .inl (menOf σ))), (bd 7, .inl (cI, 30, .inl (rowsOf σ))), (bd 8, .inl (cI, 4, .inl (upd (upd (upd fl 0 (σ 0 0)) 1 (σ 0 1)) 2 (σ 0 2))))]) H := hP
  have hD : va_D A ([(bd 0, .inr (3, [.ref (bd 1), .int (ξ 0), .int (σ 0 0), .int (σ 0 1), .int (σ 0 2), .int (σ 0 3), .int (ξ 1), .int (σ 0 6), .int (σ 0 7), .int (σ 0 4), .int (σ 0 5), .ref (bd 2), .ref (bd 3), .int sd, .ref (bd 4), .ref (bd 5), .int (kv 0), .int (kv 1), .int (kv 2), .int (kv 3), .ref (bd 6), .ref (bd 7), .ref (bd 8), .long hh])), (bd 2, .inl (cI, 16, .inl (menOf σ))), (bd 3, .inl (cI, 30, .inl (rowsOf σ))), (bd 6, .inl (cI, 16, .inl (menOf σ))), (bd 7, .inl (cI, 30, .inl (rowsOf σ))), (bd 8, .inl (cI, 4, .inl (upd (upd (upd fl 0 (σ 0 0)) 1 (σ 0 1)) 2 (σ 0 2))))]) := hD
  refine lv_aload_n hx hb dX3_image_52 rfl (lv_at hl 0 rfl) ?_
  refine va_get (D := (dC, dI)) (ci := 3) (v := .ref (bd 8)) (C := RX3) (T := TX3) (N := 24) hx hb hts hin3 hown hK hP 0 rfl rfl 22 (by decide) L31 (fun _ h9 => h9) rfl dX3_image_53 ?_
  refine lv_iconst (v := nI 3) hx hb dX3_image_56 (by decide) ?_
  refine lv_aload_n hx hb dX3_image_57 rfl (lv_at hl 0 rfl) ?_
  refine va_get (D := (dC, dI)) (ci := 3) (v := .int (σ 0 3)) (C := RX3) (T := TX3) (N := 24) hx hb hts hin3 hown hK hP 0 rfl rfl 5 (by decide) L70 (fun _ h9 => h9) rfl dX3_image_58 ?_
  refine z_iast (D := (dC, dI)) hx hb hK hP hD hS 5 0 rfl rfl 3 (rfl) (by omega) (by omega) (f' := upd (upd (upd (upd fl 0 (σ 0 0)) 1 (σ 0 1)) 2 (σ 0 2)) 3 (σ 0 3)) (rfl) dX3_image_61 (fun H locs hP hD hS => ?_)
  have hP : va_P (dC, dI) vwCl ([(bd 0, .inr (3, [.ref (bd 1), .int (ξ 0), .int (σ 0 0), .int (σ 0 1), .int (σ 0 2), .int (σ 0 3), .int (ξ 1), .int (σ 0 6), .int (σ 0 7), .int (σ 0 4), .int (σ 0 5), .ref (bd 2), .ref (bd 3), .int sd, .ref (bd 4), .ref (bd 5), .int (kv 0), .int (kv 1), .int (kv 2), .int (kv 3), .ref (bd 6), .ref (bd 7), .ref (bd 8), .long hh])), (bd 2, .inl (cI, 16, .inl (menOf σ))), (bd 3, .inl (cI, 30, .inl (rowsOf σ))), (bd 6, .inl (cI, 16, .inl (menOf σ))), (bd 7, .inl (cI, 30, .inl (rowsOf σ))), (bd 8, .inl (cI, 4, .inl (upd (upd (upd (upd fl 0 (σ 0 0)) 1 (σ 0 1)) 2 (σ 0 2)) 3 (σ 0 3))))]) H := hP
  have hD : va_D A ([(bd 0, .inr (3, [.ref (bd 1), .int (ξ 0), .int (σ 0 0), .int (σ 0 1), .int (σ 0 2), .int (σ 0 3), .int (ξ 1), .int (σ 0 6), .int (σ 0 7), .int (σ 0 4), .int (σ 0 5), .ref (bd 2), .ref (bd 3), .int sd, .ref (bd 4), .ref (bd 5), .int (kv 0), .int (kv 1), .int (kv 2), .int (kv 3), .ref (bd 6), .ref (bd 7), .ref (bd 8), .long hh])), (bd 2, .inl (cI, 16, .inl (menOf σ))), (bd 3, .inl (cI, 30, .inl (rowsOf σ))), (bd 6, .inl (cI, 16, .inl (menOf σ))), (bd 7, .inl (cI, 30, .inl (rowsOf σ))), (bd 8, .inl (cI, 4, .inl (upd (upd (upd (upd fl 0 (σ 0 0)) 1 (σ 0 1)) 2 (σ 0 2)) 3 (σ 0 3))))]) := hD
  refine lv_aload_n hx hb dX3_image_62 rfl (lv_at hl 0 rfl) ?_
  refine lv_aload_n hx hb dX3_image_63 rfl (lv_at hl 0 rfl) ?_
  refine va_get (D := (dC, dI)) (ci := 3) (v := .int (σ 0 4)) (C := RX3) (T := TX3) (N := 24) hx hb hts hin3 hown hK hP 0 rfl rfl 9 (by decide) L76 (fun _ h9 => h9) rfl dX3_image_64 ?_
  refine va_put (D := (dC, dI)) (ci := 3) (v := .int (σ 0 4)) (ty := .int) (C := RX3) (T := TX3) (N := 24) hx hb hts hin3 tyX3 tyX3_ok nmX3 hown hK hP hD hS 0 rfl rfl 17 (by decide) L193 (fun _ h9 => h9) rfl (by decide +kernel) rfl rfl (Nat.le_of_ble_eq_true rfl) dX3_image_67 (fun H locs hP hD hS => ?_)
  have hP : va_P (dC, dI) vwCl ([(bd 0, .inr (3, [.ref (bd 1), .int (ξ 0), .int (σ 0 0), .int (σ 0 1), .int (σ 0 2), .int (σ 0 3), .int (ξ 1), .int (σ 0 6), .int (σ 0 7), .int (σ 0 4), .int (σ 0 5), .ref (bd 2), .ref (bd 3), .int sd, .ref (bd 4), .ref (bd 5), .int (kv 0), .int (σ 0 4), .int (kv 2), .int (kv 3), .ref (bd 6), .ref (bd 7), .ref (bd 8), .long hh])), (bd 2, .inl (cI, 16, .inl (menOf σ))), (bd 3, .inl (cI, 30, .inl (rowsOf σ))), (bd 6, .inl (cI, 16, .inl (menOf σ))), (bd 7, .inl (cI, 30, .inl (rowsOf σ))), (bd 8, .inl (cI, 4, .inl (upd (upd (upd (upd fl 0 (σ 0 0)) 1 (σ 0 1)) 2 (σ 0 2)) 3 (σ 0 3))))]) H := hP
  have hD : va_D A ([(bd 0, .inr (3, [.ref (bd 1), .int (ξ 0), .int (σ 0 0), .int (σ 0 1), .int (σ 0 2), .int (σ 0 3), .int (ξ 1), .int (σ 0 6), .int (σ 0 7), .int (σ 0 4), .int (σ 0 5), .ref (bd 2), .ref (bd 3), .int sd, .ref (bd 4), .ref (bd 5), .int (kv 0), .int (σ 0 4), .int (kv 2), .int (kv 3), .ref (bd 6), .ref (bd 7), .ref (bd 8), .long hh])), (bd 2, .inl (cI, 16, .inl (menOf σ))), (bd 3, .inl (cI, 30, .inl (rowsOf σ))), (bd 6, .inl (cI, 16, .inl (menOf σ))), (bd 7, .inl (cI, 30, .inl (rowsOf σ))), (bd 8, .inl (cI, 4, .inl (upd (upd (upd (upd fl 0 (σ 0 0)) 1 (σ 0 1)) 2 (σ 0 2)) 3 (σ 0 3))))]) := hD
  refine lv_aload_n hx hb dX3_image_70 rfl (lv_at hl 0 rfl) ?_
  refine lv_aload_n hx hb dX3_image_71 rfl (lv_at hl 0 rfl) ?_
  refine va_get (D := (dC, dI)) (ci := 3) (v := .int (σ 0 5)) (C := RX3) (T := TX3) (N := 24) hx hb hts hin3 hown hK hP 0 rfl rfl 10 (by decide) L79 (fun _ h9 => h9) rfl dX3_image_72 ?_
  refine va_put (D := (dC, dI)) (ci := 3) (v := .int (σ 0 5)) (ty := .int) (C := RX3) (T := TX3) (N := 24) hx hb hts hin3 tyX3 tyX3_ok nmX3 hown hK hP hD hS 0 rfl rfl 18 (by decide) L196 (fun _ h9 => h9) rfl (by decide +kernel) rfl rfl (Nat.le_of_ble_eq_true rfl) dX3_image_75 (fun H locs hP hD hS => ?_)
  have hP : va_P (dC, dI) vwCl ([(bd 0, .inr (3, [.ref (bd 1), .int (ξ 0), .int (σ 0 0), .int (σ 0 1), .int (σ 0 2), .int (σ 0 3), .int (ξ 1), .int (σ 0 6), .int (σ 0 7), .int (σ 0 4), .int (σ 0 5), .ref (bd 2), .ref (bd 3), .int sd, .ref (bd 4), .ref (bd 5), .int (kv 0), .int (σ 0 4), .int (σ 0 5), .int (kv 3), .ref (bd 6), .ref (bd 7), .ref (bd 8), .long hh])), (bd 2, .inl (cI, 16, .inl (menOf σ))), (bd 3, .inl (cI, 30, .inl (rowsOf σ))), (bd 6, .inl (cI, 16, .inl (menOf σ))), (bd 7, .inl (cI, 30, .inl (rowsOf σ))), (bd 8, .inl (cI, 4, .inl (upd (upd (upd (upd fl 0 (σ 0 0)) 1 (σ 0 1)) 2 (σ 0 2)) 3 (σ 0 3))))]) H := hP
  have hD : va_D A ([(bd 0, .inr (3, [.ref (bd 1), .int (ξ 0), .int (σ 0 0), .int (σ 0 1), .int (σ 0 2), .int (σ 0 3), .int (ξ 1), .int (σ 0 6), .int (σ 0 7), .int (σ 0 4), .int (σ 0 5), .ref (bd 2), .ref (bd 3), .int sd, .ref (bd 4), .ref (bd 5), .int (kv 0), .int (σ 0 4), .int (σ 0 5), .int (kv 3), .ref (bd 6), .ref (bd 7), .ref (bd 8), .long hh])), (bd 2, .inl (cI, 16, .inl (menOf σ))), (bd 3, .inl (cI, 30, .inl (rowsOf σ))), (bd 6, .inl (cI, 16, .inl (menOf σ))), (bd 7, .inl (cI, 30, .inl (rowsOf σ))), (bd 8, .inl (cI, 4, .inl (upd (upd (upd (upd fl 0 (σ 0 0)) 1 (σ 0 1)) 2 (σ 0 2)) 3 (σ 0 3))))]) := hD
  refine lv_aload_n hx hb dX3_image_78 rfl (lv_at hl 0 rfl) ?_
  refine lv_aload_n hx hb dX3_image_79 rfl (lv_at hl 0 rfl) ?_
  refine va_get (D := (dC, dI)) (ci := 3) (v := .int (σ 0 7)) (C := RX3) (T := TX3) (N := 24) hx hb hts hin3 hown hK hP 0 rfl rfl 8 (by decide) L142 (fun _ h9 => h9) rfl dX3_image_80 ?_
  refine va_put (D := (dC, dI)) (ci := 3) (v := .int (σ 0 7)) (ty := .int) (C := RX3) (T := TX3) (N := 24) hx hb hts hin3 tyX3 tyX3_ok nmX3 hown hK hP hD hS 0 rfl rfl 19 (by decide) L199 (fun _ h9 => h9) rfl (by decide +kernel) rfl rfl (Nat.le_of_ble_eq_true rfl) dX3_image_83 (fun H locs hP hD hS => ?_)
  have hP : va_P (dC, dI) vwCl ([(bd 0, .inr (3, [.ref (bd 1), .int (ξ 0), .int (σ 0 0), .int (σ 0 1), .int (σ 0 2), .int (σ 0 3), .int (ξ 1), .int (σ 0 6), .int (σ 0 7), .int (σ 0 4), .int (σ 0 5), .ref (bd 2), .ref (bd 3), .int sd, .ref (bd 4), .ref (bd 5), .int (kv 0), .int (σ 0 4), .int (σ 0 5), .int (σ 0 7), .ref (bd 6), .ref (bd 7), .ref (bd 8), .long hh])), (bd 2, .inl (cI, 16, .inl (menOf σ))), (bd 3, .inl (cI, 30, .inl (rowsOf σ))), (bd 6, .inl (cI, 16, .inl (menOf σ))), (bd 7, .inl (cI, 30, .inl (rowsOf σ))), (bd 8, .inl (cI, 4, .inl (upd (upd (upd (upd fl 0 (σ 0 0)) 1 (σ 0 1)) 2 (σ 0 2)) 3 (σ 0 3))))]) H := hP
  have hD : va_D A ([(bd 0, .inr (3, [.ref (bd 1), .int (ξ 0), .int (σ 0 0), .int (σ 0 1), .int (σ 0 2), .int (σ 0 3), .int (ξ 1), .int (σ 0 6), .int (σ 0 7), .int (σ 0 4), .int (σ 0 5), .ref (bd 2), .ref (bd 3), .int sd, .ref (bd 4), .ref (bd 5), .int (kv 0), .int (σ 0 4), .int (σ 0 5), .int (σ 0 7), .ref (bd 6), .ref (bd 7), .ref (bd 8), .long hh])), (bd 2, .inl (cI, 16, .inl (menOf σ))), (bd 3, .inl (cI, 30, .inl (rowsOf σ))), (bd 6, .inl (cI, 16, .inl (menOf σ))), (bd 7, .inl (cI, 30, .inl (rowsOf σ))), (bd 8, .inl (cI, 4, .inl (upd (upd (upd (upd fl 0 (σ 0 0)) 1 (σ 0 1)) 2 (σ 0 2)) 3 (σ 0 3))))]) := hD
  refine lv_aload_n hx hb dX3_image_86 rfl (lv_at hl 0 rfl) ?_
  refine lv_aload_n hx hb dX3_image_87 rfl (lv_at hl 0 rfl) ?_
  refine va_get (D := (dC, dI)) (ci := 3) (v := .int (σ 0 6)) (C := RX3) (T := TX3) (N := 24) hx hb hts hin3 hown hK hP 0 rfl rfl 7 (by decide) L104 (fun _ h9 => h9) rfl dX3_image_88 ?_
  refine va_put (D := (dC, dI)) (ci := 3) (v := .int (σ 0 6)) (ty := .int) (C := RX3) (T := TX3) (N := 24) hx hb hts hin3 tyX3 tyX3_ok nmX3 hown hK hP hD hS 0 rfl rfl 16 (by decide) L44 (fun _ h9 => h9) rfl (by decide +kernel) rfl rfl (Nat.le_of_ble_eq_true rfl) dX3_image_91 (fun H locs hP hD hS => ?_)
  have hP : va_P (dC, dI) vwCl ([(bd 0, .inr (3, [.ref (bd 1), .int (ξ 0), .int (σ 0 0), .int (σ 0 1), .int (σ 0 2), .int (σ 0 3), .int (ξ 1), .int (σ 0 6), .int (σ 0 7), .int (σ 0 4), .int (σ 0 5), .ref (bd 2), .ref (bd 3), .int sd, .ref (bd 4), .ref (bd 5), .int (σ 0 6), .int (σ 0 4), .int (σ 0 5), .int (σ 0 7), .ref (bd 6), .ref (bd 7), .ref (bd 8), .long hh])), (bd 2, .inl (cI, 16, .inl (menOf σ))), (bd 3, .inl (cI, 30, .inl (rowsOf σ))), (bd 6, .inl (cI, 16, .inl (menOf σ))), (bd 7, .inl (cI, 30, .inl (rowsOf σ))), (bd 8, .inl (cI, 4, .inl (upd (upd (upd (upd fl 0 (σ 0 0)) 1 (σ 0 1)) 2 (σ 0 2)) 3 (σ 0 3))))]) H := hP
  have hD : va_D A ([(bd 0, .inr (3, [.ref (bd 1), .int (ξ 0), .int (σ 0 0), .int (σ 0 1), .int (σ 0 2), .int (σ 0 3), .int (ξ 1), .int (σ 0 6), .int (σ 0 7), .int (σ 0 4), .int (σ 0 5), .ref (bd 2), .ref (bd 3), .int sd, .ref (bd 4), .ref (bd 5), .int (σ 0 6), .int (σ 0 4), .int (σ 0 5), .int (σ 0 7), .ref (bd 6), .ref (bd 7), .ref (bd 8), .long hh])), (bd 2, .inl (cI, 16, .inl (menOf σ))), (bd 3, .inl (cI, 30, .inl (rowsOf σ))), (bd 6, .inl (cI, 16, .inl (menOf σ))), (bd 7, .inl (cI, 30, .inl (rowsOf σ))), (bd 8, .inl (cI, 4, .inl (upd (upd (upd (upd fl 0 (σ 0 0)) 1 (σ 0 1)) 2 (σ 0 2)) 3 (σ 0 3))))]) := hD
  refine lv_aload_n hx hb dX3_image_94 rfl (lv_at hl 0 rfl) ?_
  refine va_get (D := (dC, dI)) (ci := 3) (v := .int (σ 0 6)) (C := RX3) (T := TX3) (N := 24) hx hb hts hin3 hown hK hP 0 rfl rfl 7 (by decide) L104 (fun _ h9 => h9) rfl dX3_image_95 ?_
  have hP : va_P (dC, dI) vwCl [bo bd σ ξ (σ 0 7) sd (kvK σ) hh, (bd 2, .inl (cI, 16, .inl (menOf σ))), (bd 3, .inl (cI, 30, .inl (rowsOf σ))), (bd 6, .inl (cI, 16, .inl (menOf σ))), (bd 7, .inl (cI, 30, .inl (rowsOf σ))), (bd 8, .inl (cI, 4, .inl (lawU fl σ)))] H := hP
  have hD : va_D A [bo bd σ ξ (σ 0 7) sd (kvK σ) hh, (bd 2, .inl (cI, 16, .inl (menOf σ))), (bd 3, .inl (cI, 30, .inl (rowsOf σ))), (bd 6, .inl (cI, 16, .inl (menOf σ))), (bd 7, .inl (cI, 30, .inl (rowsOf σ))), (bd 8, .inl (cI, 4, .inl (lawU fl σ)))] := hD
  exact hq (σ 0 6) () _ _ 98 ls dX3_image_98 (show (σ 0 6) = σ 0 6 from rfl) hP hD hS
abbrev rm_c_X3_restore : Room := { frames := 1, cells := 0, slots := 0, locals := 22 }
set_option maxHeartbeats 4000000 in
set_option maxRecDepth 100000 in
theorem c_X3_restore (l : Launch) (dC : Nat → ClassId) (dI : Nat → Nat → Nat) (cI cZ : ClassId) (bd : Nat → Nat) (σ : St) (ξ : Nat → Int32) (sd : Int32) (kv : Nat → Int32) (hh : Int64) (fm fr fl : Nat → Int32) (κ : St) (hi : Int32) (hKp : (hi = 0 ∧ kv 0 = -1) ∨ keptP κ hi kv fm fr fl) (sz : Nat) : Met l yX3_restore wsX3_restore rm_c_X3_restore (va_Pc [.ref (bd 0)] (zPre (dC, dI) vwCl (tyIZ cI cZ) ([bo bd σ ξ (σ 0 7) sd kv hh, (bd 2, .inl (cI, 16, .inl (menOf σ))), (bd 3, .inl (cI, 30, .inl (rowsOf σ))), (bd 6, .inl (cI, 16, .inl fm)), (bd 7, .inl (cI, 30, .inl fr)), (bd 8, .inl (cI, 4, .inl fl))]) sz (fun _ => True))) (va_Qi (fun (r : Int32) (u : St) => r = (restoreF σ κ hi).1 ∧ u = (restoreF σ κ hi).2) (zPost (dC, dI) vwCl (tyIZ cI cZ) ([bo bd σ ξ (σ 0 7) sd kv hh, (bd 2, .inl (cI, 16, .inl (menOf σ))), (bd 3, .inl (cI, 30, .inl (rowsOf σ))), (bd 6, .inl (cI, 16, .inl fm)), (bd 7, .inl (cI, 30, .inl fr)), (bd 8, .inl (cI, 4, .inl fl))]) sz (fun (u : St) => [bo bd u ξ (u 0 7) sd kv hh, (bd 2, .inl (cI, 16, .inl (menOf u))), (bd 3, .inl (cI, 30, .inl (rowsOf u))), (bd 6, .inl (cI, 16, .inl fm)), (bd 7, .inl (cI, 30, .inl fr)), (bd 8, .inl (cI, 4, .inl fl))])) (va_A ([bo bd σ ξ (σ 0 7) sd kv hh, (bd 2, .inl (cI, 16, .inl (menOf σ))), (bd 3, .inl (cI, 30, .inl (rowsOf σ))), (bd 6, .inl (cI, 16, .inl fm)), (bd 7, .inl (cI, 30, .inl fr)), (bd 8, .inl (cI, 4, .inl fl))]) sz)) 0 0 (va_A ([bo bd σ ξ (σ 0 7) sd kv hh, (bd 2, .inl (cI, 16, .inl (menOf σ))), (bd 3, .inl (cI, 30, .inl (rowsOf σ))), (bd 6, .inl (cI, 16, .inl fm)), (bd 7, .inl (cI, 30, .inl fr)), (bd 8, .inl (cI, 4, .inl fl))]) sz) := by
  refine z_impI (cc := cX3_restore) (maxL := 1) (av := [.ref (bd 0)]) (by decide) rfl (Nat.le_of_ble_eq_true rfl) ?_
  intro p e s m below meth c Q A ls hx hb hml hown hts hBs hP hK hD hS hA hAB hq hl
  have hown : s.vm.findClass RX3 = some m.cls := hown
  have hin3 : ∀ w ∈ wsX30, w ∈ wsX3_restore := fun _ h => List.mem_cons_of_mem _ (List.mem_append_right _ h)
  have L44 := hts (.fieldLink RX3 44 "BestBeastModel" "keptYear" "I") (List.mem_of_getElem? (i := 1) rfl)
  have L25 := hts (.fieldLink RX3 25 "BestBeastModel" "keptMen" "[I") (List.mem_of_getElem? (i := 2) rfl)
  have L13 := hts (.fieldLink RX3 13 "BestBeastModel" "men" "[I") (List.mem_of_getElem? (i := 3) rfl)
  have L28 := hts (.fieldLink RX3 28 "BestBeastModel" "keptRows" "[I") (List.mem_of_getElem? (i := 4) rfl)
  have L16 := hts (.fieldLink RX3 16 "BestBeastModel" "rows" "[I") (List.mem_of_getElem? (i := 5) rfl)
  have L31 := hts (.fieldLink RX3 31 "BestBeastModel" "keptLaw" "[I") (List.mem_of_getElem? (i := 6) rfl)
  have L34 := hts (.fieldLink RX3 34 "BestBeastModel" "lord" "I") (List.mem_of_getElem? (i := 7) rfl)
  have L38 := hts (.fieldLink RX3 38 "BestBeastModel" "church" "I") (List.mem_of_getElem? (i := 8) rfl)
  have L41 := hts (.fieldLink RX3 41 "BestBeastModel" "voidYears" "I") (List.mem_of_getElem? (i := 9) rfl)
  have L70 := hts (.fieldLink RX3 70 "BestBeastModel" "least" "I") (List.mem_of_getElem? (i := 10) rfl)
  have L193 := hts (.fieldLink RX3 193 "BestBeastModel" "keptHolders" "I") (List.mem_of_getElem? (i := 11) rfl)
  have L76 := hts (.fieldLink RX3 76 "BestBeastModel" "holders" "I") (List.mem_of_getElem? (i := 12) rfl)
  have L196 := hts (.fieldLink RX3 196 "BestBeastModel" "keptBeasts" "I") (List.mem_of_getElem? (i := 13) rfl)
  have L79 := hts (.fieldLink RX3 79 "BestBeastModel" "beasts" "I") (List.mem_of_getElem? (i := 14) rfl)
  have L199 := hts (.fieldLink RX3 199 "BestBeastModel" "keptTaken" "I") (List.mem_of_getElem? (i := 15) rfl)
  have L142 := hts (.fieldLink RX3 142 "BestBeastModel" "taken" "I") (List.mem_of_getElem? (i := 16) rfl)
  have L104 := hts (.fieldLink RX3 104 "BestBeastModel" "yearNow" "I") (List.mem_of_getElem? (i := 17) rfl)
  have hl : lv_has ls 1 [(0, .ref (bd 0))] := hl
  refine lv_aload_n hx hb dX3_restore_0 rfl (lv_at hl 0 rfl) ?_
  refine va_get (D := (dC, dI)) (ci := 3) (v := .int (kv 0)) (C := RX3) (T := TX3) (N := 24) hx hb hts hin3 hown hK hP 0 rfl rfl 16 (by decide) L44 (fun _ h9 => h9) rfl dX3_restore_1 ?_
  refine lv_iconst (v := (-1)) hx hb dX3_restore_4 (by decide) ?_
  refine lv_icmp_ne (tgt := 11) hx hb dX3_restore_5 (by decide) (fun (c_5 : ¬ (kv 0) = (-1)) => ?_) (fun (c_5 : (kv 0) = (-1)) => ?_)
  · skip
    refine lv_aload_n hx hb dX3_restore_11 rfl (lv_at hl 0 rfl) ?_
    refine va_get (D := (dC, dI)) (ci := 3) (v := .ref (bd 6)) (C := RX3) (T := TX3) (N := 24) hx hb hts hin3 hown hK hP 0 rfl rfl 20 (by decide) L25 (fun _ h9 => h9) rfl dX3_restore_12 ?_
    refine lv_aload_n hx hb dX3_restore_15 rfl (lv_at hl 0 rfl) ?_
    refine va_get (D := (dC, dI)) (ci := 3) (v := .ref (bd 2)) (C := RX3) (T := TX3) (N := 24) hx hb hts hin3 hown hK hP 0 rfl rfl 11 (by decide) L13 (fun _ h9 => h9) rfl dX3_restore_16 ?_
    refine z_callQvS (As := [.ref (bd 6), .ref (bd 2)]) (rest := []) ⟨hx, hb, hml, hown, hts⟩ (c_X3_copy l dC dI cI cZ (bd 6) (bd 2) 16 (by decide) fm (menOf σ) _) (va_cwS 2 hts gX3_restore_X3_copy rfl rfl rfl (by decide +kernel) ⟨Nat.le_of_ble_eq_true rfl, Nat.le_of_ble_eq_true rfl⟩) hP hD hK hS hA [3, 1] [0, 2, 4, 5] rfl rfl rfl rfl (by decide) rfl hl.1 rfl (Nat.le_of_ble_eq_true rfl) ⟨Nat.le_of_ble_eq_true rfl, Nat.le_of_ble_eq_true rfl⟩ dX3_restore_19 (fun u H locs hr hP hD hS => ?_)
    clear hr
    have hP : va_P (dC, dI) vwCl ([(bd 0, .inr (3, [.ref (bd 1), .int (ξ 0), .int (σ 0 0), .int (σ 0 1), .int (σ 0 2), .int (σ 0 3), .int (ξ 1), .int (σ 0 6), .int (σ 0 7), .int (σ 0 4), .int (σ 0 5), .ref (bd 2), .ref (bd 3), .int sd, .ref (bd 4), .ref (bd 5), .int (kv 0), .int (kv 1), .int (kv 2), .int (kv 3), .ref (bd 6), .ref (bd 7), .ref (bd 8), .long hh])), (bd 2, .inl (cI, 16, .inl fm)), (bd 3, .inl (cI, 30, .inl (rowsOf σ))), (bd 6, .inl (cI, 16, .inl fm)), (bd 7, .inl (cI, 30, .inl fr)), (bd 8, .inl (cI, 4, .inl fl))]) H := hP.sub [0, 5, 1, 4, 2, 3] rfl
    have hD : va_D A ([(bd 0, .inr (3, [.ref (bd 1), .int (ξ 0), .int (σ 0 0), .int (σ 0 1), .int (σ 0 2), .int (σ 0 3), .int (ξ 1), .int (σ 0 6), .int (σ 0 7), .int (σ 0 4), .int (σ 0 5), .ref (bd 2), .ref (bd 3), .int sd, .ref (bd 4), .ref (bd 5), .int (kv 0), .int (kv 1), .int (kv 2), .int (kv 3), .ref (bd 6), .ref (bd 7), .ref (bd 8), .long hh])), (bd 2, .inl (cI, 16, .inl fm)), (bd 3, .inl (cI, 30, .inl (rowsOf σ))), (bd 6, .inl (cI, 16, .inl fm)), (bd 7, .inl (cI, 30, .inl fr)), (bd 8, .inl (cI, 4, .inl fl))]) := hD.sub [0, 5, 1, 4, 2, 3] rfl rfl
    refine lv_aload_n hx hb dX3_restore_22 rfl (lv_at hl 0 rfl) ?_
    refine va_get (D := (dC, dI)) (ci := 3) (v := .ref (bd 7)) (C := RX3) (T := TX3) (N := 24) hx hb hts hin3 hown hK hP 0 rfl rfl 21 (by decide) L28 (fun _ h9 => h9) rfl dX3_restore_23 ?_
    refine lv_aload_n hx hb dX3_restore_26 rfl (lv_at hl 0 rfl) ?_
    refine va_get (D := (dC, dI)) (ci := 3) (v := .ref (bd 3)) (C := RX3) (T := TX3) (N := 24) hx hb hts hin3 hown hK hP 0 rfl rfl 12 (by decide) L16 (fun _ h9 => h9) rfl dX3_restore_27 ?_
    refine z_callQvS (As := [.ref (bd 7), .ref (bd 3)]) (rest := []) ⟨hx, hb, hml, hown, hts⟩ (c_X3_copy l dC dI cI cZ (bd 7) (bd 3) 30 (by decide) fr (rowsOf σ) _) (va_cwS 2 hts gX3_restore_X3_copy rfl rfl rfl (by decide +kernel) ⟨Nat.le_of_ble_eq_true rfl, Nat.le_of_ble_eq_true rfl⟩) hP hD hK hS hA [4, 2] [0, 1, 3, 5] rfl rfl rfl rfl (by decide) rfl hl.1 rfl (Nat.le_of_ble_eq_true rfl) ⟨Nat.le_of_ble_eq_true rfl, Nat.le_of_ble_eq_true rfl⟩ dX3_restore_30 (fun u H locs hr hP hD hS => ?_)
    clear hr
    have hP : va_P (dC, dI) vwCl ([(bd 0, .inr (3, [.ref (bd 1), .int (ξ 0), .int (σ 0 0), .int (σ 0 1), .int (σ 0 2), .int (σ 0 3), .int (ξ 1), .int (σ 0 6), .int (σ 0 7), .int (σ 0 4), .int (σ 0 5), .ref (bd 2), .ref (bd 3), .int sd, .ref (bd 4), .ref (bd 5), .int (kv 0), .int (kv 1), .int (kv 2), .int (kv 3), .ref (bd 6), .ref (bd 7), .ref (bd 8), .long hh])), (bd 2, .inl (cI, 16, .inl fm)), (bd 3, .inl (cI, 30, .inl fr)), (bd 6, .inl (cI, 16, .inl fm)), (bd 7, .inl (cI, 30, .inl fr)), (bd 8, .inl (cI, 4, .inl fl))]) H := hP.sub [0, 1, 5, 2, 4, 3] rfl
    have hD : va_D A ([(bd 0, .inr (3, [.ref (bd 1), .int (ξ 0), .int (σ 0 0), .int (σ 0 1), .int (σ 0 2), .int (σ 0 3), .int (ξ 1), .int (σ 0 6), .int (σ 0 7), .int (σ 0 4), .int (σ 0 5), .ref (bd 2), .ref (bd 3), .int sd, .ref (bd 4), .ref (bd 5), .int (kv 0), .int (kv 1), .int (kv 2), .int (kv 3), .ref (bd 6), .ref (bd 7), .ref (bd 8), .long hh])), (bd 2, .inl (cI, 16, .inl fm)), (bd 3, .inl (cI, 30, .inl fr)), (bd 6, .inl (cI, 16, .inl fm)), (bd 7, .inl (cI, 30, .inl fr)), (bd 8, .inl (cI, 4, .inl fl))]) := hD.sub [0, 1, 5, 2, 4, 3] rfl rfl
    refine lv_aload_n hx hb dX3_restore_33 rfl (lv_at hl 0 rfl) ?_
    refine lv_aload_n hx hb dX3_restore_34 rfl (lv_at hl 0 rfl) ?_
    refine va_get (D := (dC, dI)) (ci := 3) (v := .ref (bd 8)) (C := RX3) (T := TX3) (N := 24) hx hb hts hin3 hown hK hP 0 rfl rfl 22 (by decide) L31 (fun _ h9 => h9) rfl dX3_restore_35 ?_
    refine lv_iconst (v := nI 0) hx hb dX3_restore_38 (by decide) ?_
    refine z_iald (D := (dC, dI)) hx hb hK hP 5 0 rfl rfl 0 (rfl) (by omega) (by omega) (v := fl 0) (rfl) dX3_restore_39 ?_
    refine va_put (D := (dC, dI)) (ci := 3) (v := .int (fl 0)) (ty := .int) (C := RX3) (T := TX3) (N := 24) hx hb hts hin3 tyX3 tyX3_ok nmX3 hown hK hP hD hS 0 rfl rfl 2 (by decide) L34 (fun _ h9 => h9) rfl (by decide +kernel) rfl rfl (Nat.le_of_ble_eq_true rfl) dX3_restore_40 (fun H locs hP hD hS => ?_)
    have hP : va_P (dC, dI) vwCl ([(bd 0, .inr (3, [.ref (bd 1), .int (ξ 0), .int (fl 0), .int (σ 0 1), .int (σ 0 2), .int (σ 0 3), .int (ξ 1), .int (σ 0 6), .int (σ 0 7), .int (σ 0 4), .int (σ 0 5), .ref (bd 2), .ref (bd 3), .int sd, .ref (bd 4), .ref (bd 5), .int (kv 0), .int (kv 1), .int (kv 2), .int (kv 3), .ref (bd 6), .ref (bd 7), .ref (bd 8), .long hh])), (bd 2, .inl (cI, 16, .inl fm)), (bd 3, .inl (cI, 30, .inl fr)), (bd 6, .inl (cI, 16, .inl fm)), (bd 7, .inl (cI, 30, .inl fr)), (bd 8, .inl (cI, 4, .inl fl))]) H := hP
    have hD : va_D A ([(bd 0, .inr (3, [.ref (bd 1), .int (ξ 0), .int (fl 0), .int (σ 0 1), .int (σ 0 2), .int (σ 0 3), .int (ξ 1), .int (σ 0 6), .int (σ 0 7), .int (σ 0 4), .int (σ 0 5), .ref (bd 2), .ref (bd 3), .int sd, .ref (bd 4), .ref (bd 5), .int (kv 0), .int (kv 1), .int (kv 2), .int (kv 3), .ref (bd 6), .ref (bd 7), .ref (bd 8), .long hh])), (bd 2, .inl (cI, 16, .inl fm)), (bd 3, .inl (cI, 30, .inl fr)), (bd 6, .inl (cI, 16, .inl fm)), (bd 7, .inl (cI, 30, .inl fr)), (bd 8, .inl (cI, 4, .inl fl))]) := hD
    refine lv_aload_n hx hb dX3_restore_43 rfl (lv_at hl 0 rfl) ?_
    refine lv_aload_n hx hb dX3_restore_44 rfl (lv_at hl 0 rfl) ?_
    refine va_get (D := (dC, dI)) (ci := 3) (v := .ref (bd 8)) (C := RX3) (T := TX3) (N := 24) hx hb hts hin3 hown hK hP 0 rfl rfl 22 (by decide) L31 (fun _ h9 => h9) rfl dX3_restore_45 ?_
    refine lv_iconst (v := nI 1) hx hb dX3_restore_48 (by decide) ?_
    refine z_iald (D := (dC, dI)) hx hb hK hP 5 0 rfl rfl 1 (rfl) (by omega) (by omega) (v := fl 1) (rfl) dX3_restore_49 ?_
    refine va_put (D := (dC, dI)) (ci := 3) (v := .int (fl 1)) (ty := .int) (C := RX3) (T := TX3) (N := 24) hx hb hts hin3 tyX3 tyX3_ok nmX3 hown hK hP hD hS 0 rfl rfl 3 (by decide) L38 (fun _ h9 => h9) rfl (by decide +kernel) rfl rfl (Nat.le_of_ble_eq_true rfl) dX3_restore_50 (fun H locs hP hD hS => ?_)
    have hP : va_P (dC, dI) vwCl ([(bd 0, .inr (3, [.ref (bd 1), .int (ξ 0), .int (fl 0), .int (fl 1), .int (σ 0 2), .int (σ 0 3), .int (ξ 1), .int (σ 0 6), .int (σ 0 7), .int (σ 0 4), .int (σ 0 5), .ref (bd 2), .ref (bd 3), .int sd, .ref (bd 4), .ref (bd 5), .int (kv 0), .int (kv 1), .int (kv 2), .int (kv 3), .ref (bd 6), .ref (bd 7), .ref (bd 8), .long hh])), (bd 2, .inl (cI, 16, .inl fm)), (bd 3, .inl (cI, 30, .inl fr)), (bd 6, .inl (cI, 16, .inl fm)), (bd 7, .inl (cI, 30, .inl fr)), (bd 8, .inl (cI, 4, .inl fl))]) H := hP
    have hD : va_D A ([(bd 0, .inr (3, [.ref (bd 1), .int (ξ 0), .int (fl 0), .int (fl 1), .int (σ 0 2), .int (σ 0 3), .int (ξ 1), .int (σ 0 6), .int (σ 0 7), .int (σ 0 4), .int (σ 0 5), .ref (bd 2), .ref (bd 3), .int sd, .ref (bd 4), .ref (bd 5), .int (kv 0), .int (kv 1), .int (kv 2), .int (kv 3), .ref (bd 6), .ref (bd 7), .ref (bd 8), .long hh])), (bd 2, .inl (cI, 16, .inl fm)), (bd 3, .inl (cI, 30, .inl fr)), (bd 6, .inl (cI, 16, .inl fm)), (bd 7, .inl (cI, 30, .inl fr)), (bd 8, .inl (cI, 4, .inl fl))]) := hD
    refine lv_aload_n hx hb dX3_restore_53 rfl (lv_at hl 0 rfl) ?_
    refine lv_aload_n hx hb dX3_restore_54 rfl (lv_at hl 0 rfl) ?_
    refine va_get (D := (dC, dI)) (ci := 3) (v := .ref (bd 8)) (C := RX3) (T := TX3) (N := 24) hx hb hts hin3 hown hK hP 0 rfl rfl 22 (by decide) L31 (fun _ h9 => h9) rfl dX3_restore_55 ?_
    refine lv_iconst (v := nI 2) hx hb dX3_restore_58 (by decide) ?_
    refine z_iald (D := (dC, dI)) hx hb hK hP 5 0 rfl rfl 2 (rfl) (by omega) (by omega) (v := fl 2) (rfl) dX3_restore_59 ?_
    refine va_put (D := (dC, dI)) (ci := 3) (v := .int (fl 2)) (ty := .int) (C := RX3) (T := TX3) (N := 24) hx hb hts hin3 tyX3 tyX3_ok nmX3 hown hK hP hD hS 0 rfl rfl 4 (by decide) L41 (fun _ h9 => h9) rfl (by decide +kernel) rfl rfl (Nat.le_of_ble_eq_true rfl) dX3_restore_60 (fun H locs hP hD hS => ?_)
    have hP : va_P (dC, dI) vwCl ([(bd 0, .inr (3, [.ref (bd 1), .int (ξ 0), .int (fl 0), .int (fl 1), .int (fl 2), .int (σ 0 3), .int (ξ 1), .int (σ 0 6), .int (σ 0 7), .int (σ 0 4), .int (σ 0 5), .ref (bd 2), .ref (bd 3), .int sd, .ref (bd 4), .ref (bd 5), .int (kv 0), .int (kv 1), .int (kv 2), .int (kv 3), .ref (bd 6), .ref (bd 7), .ref (bd 8), .long hh])), (bd 2, .inl (cI, 16, .inl fm)), (bd 3, .inl (cI, 30, .inl fr)), (bd 6, .inl (cI, 16, .inl fm)), (bd 7, .inl (cI, 30, .inl fr)), (bd 8, .inl (cI, 4, .inl fl))]) H := hP
    have hD : va_D A ([(bd 0, .inr (3, [.ref (bd 1), .int (ξ 0), .int (fl 0), .int (fl 1), .int (fl 2), .int (σ 0 3), .int (ξ 1), .int (σ 0 6), .int (σ 0 7), .int (σ 0 4), .int (σ 0 5), .ref (bd 2), .ref (bd 3), .int sd, .ref (bd 4), .ref (bd 5), .int (kv 0), .int (kv 1), .int (kv 2), .int (kv 3), .ref (bd 6), .ref (bd 7), .ref (bd 8), .long hh])), (bd 2, .inl (cI, 16, .inl fm)), (bd 3, .inl (cI, 30, .inl fr)), (bd 6, .inl (cI, 16, .inl fm)), (bd 7, .inl (cI, 30, .inl fr)), (bd 8, .inl (cI, 4, .inl fl))]) := hD
    refine lv_aload_n hx hb dX3_restore_63 rfl (lv_at hl 0 rfl) ?_
    refine lv_aload_n hx hb dX3_restore_64 rfl (lv_at hl 0 rfl) ?_
    refine va_get (D := (dC, dI)) (ci := 3) (v := .ref (bd 8)) (C := RX3) (T := TX3) (N := 24) hx hb hts hin3 hown hK hP 0 rfl rfl 22 (by decide) L31 (fun _ h9 => h9) rfl dX3_restore_65 ?_
    refine lv_iconst (v := nI 3) hx hb dX3_restore_68 (by decide) ?_
    refine z_iald (D := (dC, dI)) hx hb hK hP 5 0 rfl rfl 3 (rfl) (by omega) (by omega) (v := fl 3) (rfl) dX3_restore_69 ?_
    refine va_put (D := (dC, dI)) (ci := 3) (v := .int (fl 3)) (ty := .int) (C := RX3) (T := TX3) (N := 24) hx hb hts hin3 tyX3 tyX3_ok nmX3 hown hK hP hD hS 0 rfl rfl 5 (by decide) L70 (fun _ h9 => h9) rfl (by decide +kernel) rfl rfl (Nat.le_of_ble_eq_true rfl) dX3_restore_70 (fun H locs hP hD hS => ?_)
    have hP : va_P (dC, dI) vwCl ([(bd 0, .inr (3, [.ref (bd 1), .int (ξ 0), .int (fl 0), .int (fl 1), .int (fl 2), .int (fl 3), .int (ξ 1), .int (σ 0 6), .int (σ 0 7), .int (σ 0 4), .int (σ 0 5), .ref (bd 2), .ref (bd 3), .int sd, .ref (bd 4), .ref (bd 5), .int (kv 0), .int (kv 1), .int (kv 2), .int (kv 3), .ref (bd 6), .ref (bd 7), .ref (bd 8), .long hh])), (bd 2, .inl (cI, 16, .inl fm)), (bd 3, .inl (cI, 30, .inl fr)), (bd 6, .inl (cI, 16, .inl fm)), (bd 7, .inl (cI, 30, .inl fr)), (bd 8, .inl (cI, 4, .inl fl))]) H := hP
    have hD : va_D A ([(bd 0, .inr (3, [.ref (bd 1), .int (ξ 0), .int (fl 0), .int (fl 1), .int (fl 2), .int (fl 3), .int (ξ 1), .int (σ 0 6), .int (σ 0 7), .int (σ 0 4), .int (σ 0 5), .ref (bd 2), .ref (bd 3), .int sd, .ref (bd 4), .ref (bd 5), .int (kv 0), .int (kv 1), .int (kv 2), .int (kv 3), .ref (bd 6), .ref (bd 7), .ref (bd 8), .long hh])), (bd 2, .inl (cI, 16, .inl fm)), (bd 3, .inl (cI, 30, .inl fr)), (bd 6, .inl (cI, 16, .inl fm)), (bd 7, .inl (cI, 30, .inl fr)), (bd 8, .inl (cI, 4, .inl fl))]) := hD
    refine lv_aload_n hx hb dX3_restore_73 rfl (lv_at hl 0 rfl) ?_
    refine lv_aload_n hx hb dX3_restore_74 rfl (lv_at hl 0 rfl) ?_
    refine va_get (D := (dC, dI)) (ci := 3) (v := .int (kv 1)) (C := RX3) (T := TX3) (N := 24) hx hb hts hin3 hown hK hP 0 rfl rfl 17 (by decide) L193 (fun _ h9 => h9) rfl dX3_restore_75 ?_
    refine va_put (D := (dC, dI)) (ci := 3) (v := .int (kv 1)) (ty := .int) (C := RX3) (T := TX3) (N := 24) hx hb hts hin3 tyX3 tyX3_ok nmX3 hown hK hP hD hS 0 rfl rfl 9 (by decide) L76 (fun _ h9 => h9) rfl (by decide +kernel) rfl rfl (Nat.le_of_ble_eq_true rfl) dX3_restore_78 (fun H locs hP hD hS => ?_)
    have hP : va_P (dC, dI) vwCl ([(bd 0, .inr (3, [.ref (bd 1), .int (ξ 0), .int (fl 0), .int (fl 1), .int (fl 2), .int (fl 3), .int (ξ 1), .int (σ 0 6), .int (σ 0 7), .int (kv 1), .int (σ 0 5), .ref (bd 2), .ref (bd 3), .int sd, .ref (bd 4), .ref (bd 5), .int (kv 0), .int (kv 1), .int (kv 2), .int (kv 3), .ref (bd 6), .ref (bd 7), .ref (bd 8), .long hh])), (bd 2, .inl (cI, 16, .inl fm)), (bd 3, .inl (cI, 30, .inl fr)), (bd 6, .inl (cI, 16, .inl fm)), (bd 7, .inl (cI, 30, .inl fr)), (bd 8, .inl (cI, 4, .inl fl))]) H := hP
    have hD : va_D A ([(bd 0, .inr (3, [.ref (bd 1), .int (ξ 0), .int (fl 0), .int (fl 1), .int (fl 2), .int (fl 3), .int (ξ 1), .int (σ 0 6), .int (σ 0 7), .int (kv 1), .int (σ 0 5), .ref (bd 2), .ref (bd 3), .int sd, .ref (bd 4), .ref (bd 5), .int (kv 0), .int (kv 1), .int (kv 2), .int (kv 3), .ref (bd 6), .ref (bd 7), .ref (bd 8), .long hh])), (bd 2, .inl (cI, 16, .inl fm)), (bd 3, .inl (cI, 30, .inl fr)), (bd 6, .inl (cI, 16, .inl fm)), (bd 7, .inl (cI, 30, .inl fr)), (bd 8, .inl (cI, 4, .inl fl))]) := hD
    refine lv_aload_n hx hb dX3_restore_81 rfl (lv_at hl 0 rfl) ?_
    refine lv_aload_n hx hb dX3_restore_82 rfl (lv_at hl 0 rfl) ?_
    refine va_get (D := (dC, dI)) (ci := 3) (v := .int (kv 2)) (C := RX3) (T := TX3) (N := 24) hx hb hts hin3 hown hK hP 0 rfl rfl 18 (by decide) L196 (fun _ h9 => h9) rfl dX3_restore_83 ?_
    refine va_put (D := (dC, dI)) (ci := 3) (v := .int (kv 2)) (ty := .int) (C := RX3) (T := TX3) (N := 24) hx hb hts hin3 tyX3 tyX3_ok nmX3 hown hK hP hD hS 0 rfl rfl 10 (by decide) L79 (fun _ h9 => h9) rfl (by decide +kernel) rfl rfl (Nat.le_of_ble_eq_true rfl) dX3_restore_86 (fun H locs hP hD hS => ?_)
    have hP : va_P (dC, dI) vwCl ([(bd 0, .inr (3, [.ref (bd 1), .int (ξ 0), .int (fl 0), .int (fl 1), .int (fl 2), .int (fl 3), .int (ξ 1), .int (σ 0 6), .int (σ 0 7), .int (kv 1), .int (kv 2), .ref (bd 2), .ref (bd 3), .int sd, .ref (bd 4), .ref (bd 5), .int (kv 0), .int (kv 1), .int (kv 2), .int (kv 3), .ref (bd 6), .ref (bd 7), .ref (bd 8), .long hh])), (bd 2, .inl (cI, 16, .inl fm)), (bd 3, .inl (cI, 30, .inl fr)), (bd 6, .inl (cI, 16, .inl fm)), (bd 7, .inl (cI, 30, .inl fr)), (bd 8, .inl (cI, 4, .inl fl))]) H := hP
    have hD : va_D A ([(bd 0, .inr (3, [.ref (bd 1), .int (ξ 0), .int (fl 0), .int (fl 1), .int (fl 2), .int (fl 3), .int (ξ 1), .int (σ 0 6), .int (σ 0 7), .int (kv 1), .int (kv 2), .ref (bd 2), .ref (bd 3), .int sd, .ref (bd 4), .ref (bd 5), .int (kv 0), .int (kv 1), .int (kv 2), .int (kv 3), .ref (bd 6), .ref (bd 7), .ref (bd 8), .long hh])), (bd 2, .inl (cI, 16, .inl fm)), (bd 3, .inl (cI, 30, .inl fr)), (bd 6, .inl (cI, 16, .inl fm)), (bd 7, .inl (cI, 30, .inl fr)), (bd 8, .inl (cI, 4, .inl fl))]) := hD
    refine lv_aload_n hx hb dX3_restore_89 rfl (lv_at hl 0 rfl) ?_
    refine lv_aload_n hx hb dX3_restore_90 rfl (lv_at hl 0 rfl) ?_
    refine va_get (D := (dC, dI)) (ci := 3) (v := .int (kv 3)) (C := RX3) (T := TX3) (N := 24) hx hb hts hin3 hown hK hP 0 rfl rfl 19 (by decide) L199 (fun _ h9 => h9) rfl dX3_restore_91 ?_
    refine va_put (D := (dC, dI)) (ci := 3) (v := .int (kv 3)) (ty := .int) (C := RX3) (T := TX3) (N := 24) hx hb hts hin3 tyX3 tyX3_ok nmX3 hown hK hP hD hS 0 rfl rfl 8 (by decide) L142 (fun _ h9 => h9) rfl (by decide +kernel) rfl rfl (Nat.le_of_ble_eq_true rfl) dX3_restore_94 (fun H locs hP hD hS => ?_)
    have hP : va_P (dC, dI) vwCl ([(bd 0, .inr (3, [.ref (bd 1), .int (ξ 0), .int (fl 0), .int (fl 1), .int (fl 2), .int (fl 3), .int (ξ 1), .int (σ 0 6), .int (kv 3), .int (kv 1), .int (kv 2), .ref (bd 2), .ref (bd 3), .int sd, .ref (bd 4), .ref (bd 5), .int (kv 0), .int (kv 1), .int (kv 2), .int (kv 3), .ref (bd 6), .ref (bd 7), .ref (bd 8), .long hh])), (bd 2, .inl (cI, 16, .inl fm)), (bd 3, .inl (cI, 30, .inl fr)), (bd 6, .inl (cI, 16, .inl fm)), (bd 7, .inl (cI, 30, .inl fr)), (bd 8, .inl (cI, 4, .inl fl))]) H := hP
    have hD : va_D A ([(bd 0, .inr (3, [.ref (bd 1), .int (ξ 0), .int (fl 0), .int (fl 1), .int (fl 2), .int (fl 3), .int (ξ 1), .int (σ 0 6), .int (kv 3), .int (kv 1), .int (kv 2), .ref (bd 2), .ref (bd 3), .int sd, .ref (bd 4), .ref (bd 5), .int (kv 0), .int (kv 1), .int (kv 2), .int (kv 3), .ref (bd 6), .ref (bd 7), .ref (bd 8), .long hh])), (bd 2, .inl (cI, 16, .inl fm)), (bd 3, .inl (cI, 30, .inl fr)), (bd 6, .inl (cI, 16, .inl fm)), (bd 7, .inl (cI, 30, .inl fr)), (bd 8, .inl (cI, 4, .inl fl))]) := hD
    refine lv_aload_n hx hb dX3_restore_97 rfl (lv_at hl 0 rfl) ?_
    refine lv_aload_n hx hb dX3_restore_98 rfl (lv_at hl 0 rfl) ?_
    refine va_get (D := (dC, dI)) (ci := 3) (v := .int (kv 0)) (C := RX3) (T := TX3) (N := 24) hx hb hts hin3 hown hK hP 0 rfl rfl 16 (by decide) L44 (fun _ h9 => h9) rfl dX3_restore_99 ?_
    refine va_put (D := (dC, dI)) (ci := 3) (v := .int (kv 0)) (ty := .int) (C := RX3) (T := TX3) (N := 24) hx hb hts hin3 tyX3 tyX3_ok nmX3 hown hK hP hD hS 0 rfl rfl 7 (by decide) L104 (fun _ h9 => h9) rfl (by decide +kernel) rfl rfl (Nat.le_of_ble_eq_true rfl) dX3_restore_102 (fun H locs hP hD hS => ?_)
    have hP : va_P (dC, dI) vwCl ([(bd 0, .inr (3, [.ref (bd 1), .int (ξ 0), .int (fl 0), .int (fl 1), .int (fl 2), .int (fl 3), .int (ξ 1), .int (kv 0), .int (kv 3), .int (kv 1), .int (kv 2), .ref (bd 2), .ref (bd 3), .int sd, .ref (bd 4), .ref (bd 5), .int (kv 0), .int (kv 1), .int (kv 2), .int (kv 3), .ref (bd 6), .ref (bd 7), .ref (bd 8), .long hh])), (bd 2, .inl (cI, 16, .inl fm)), (bd 3, .inl (cI, 30, .inl fr)), (bd 6, .inl (cI, 16, .inl fm)), (bd 7, .inl (cI, 30, .inl fr)), (bd 8, .inl (cI, 4, .inl fl))]) H := hP
    have hD : va_D A ([(bd 0, .inr (3, [.ref (bd 1), .int (ξ 0), .int (fl 0), .int (fl 1), .int (fl 2), .int (fl 3), .int (ξ 1), .int (kv 0), .int (kv 3), .int (kv 1), .int (kv 2), .ref (bd 2), .ref (bd 3), .int sd, .ref (bd 4), .ref (bd 5), .int (kv 0), .int (kv 1), .int (kv 2), .int (kv 3), .ref (bd 6), .ref (bd 7), .ref (bd 8), .long hh])), (bd 2, .inl (cI, 16, .inl fm)), (bd 3, .inl (cI, 30, .inl fr)), (bd 6, .inl (cI, 16, .inl fm)), (bd 7, .inl (cI, 30, .inl fr)), (bd 8, .inl (cI, 4, .inl fl))]) := hD
    refine lv_aload_n hx hb dX3_restore_105 rfl (lv_at hl 0 rfl) ?_
    refine va_get (D := (dC, dI)) (ci := 3) (v := .int (kv 0)) (C := RX3) (T := TX3) (N := 24) hx hb hts hin3 hown hK hP 0 rfl rfl 7 (by decide) L104 (fun _ h9 => h9) rfl dX3_restore_106 ?_
    obtain ⟨h1, -, rfl, rfl, k0, k1, k2, k3, kl⟩ := hKp.resolve_left (fun q => c_5 q.2)
    have l0 := kl 0 (by decide)
    have l1 := kl 1 (by decide)
    have l2 := kl 2 (by decide)
    have l3 := kl 3 (by decide)
    have eR : restoreF σ κ hi = (κ 0 6, κ) := by unfold restoreF; rw [zif_f (by rw [h1]; decide)]
    have hP : va_P (dC, dI) vwCl [bo bd κ ξ (κ 0 7) sd kv hh, (bd 2, .inl (cI, 16, .inl (menOf κ))), (bd 3, .inl (cI, 30, .inl (rowsOf κ))), (bd 6, .inl (cI, 16, .inl (menOf κ))), (bd 7, .inl (cI, 30, .inl (rowsOf κ))), (bd 8, .inl (cI, 4, .inl fl))] H := by simpa only [bo, k0, k1, k2, k3, l0, l1, l2, l3] using hP
    have hD : va_D A [bo bd κ ξ (κ 0 7) sd kv hh, (bd 2, .inl (cI, 16, .inl (menOf κ))), (bd 3, .inl (cI, 30, .inl (rowsOf κ))), (bd 6, .inl (cI, 16, .inl (menOf κ))), (bd 7, .inl (cI, 30, .inl (rowsOf κ))), (bd 8, .inl (cI, 4, .inl fl))] := by simpa only [bo, k0, k1, k2, k3, l0, l1, l2, l3] using hD
    exact hq (kv 0) κ _ _ 109 ls dX3_restore_109 (show (kv 0) = (restoreF σ κ hi).1 ∧ κ = (restoreF σ κ hi).2 from (by rw [eR]; exact ⟨k0, rfl⟩)) hP hD hS
  · skip
    refine lv_bipush (v := (-103)) hx hb dX3_restore_8 (by decide) ?_
    have eR : restoreF σ κ hi = (-103, σ) := by
      rcases hKp with ⟨h0, -⟩ | ⟨-, q, -⟩
      · unfold restoreF; rw [zif_t h0]
      · exact absurd c_5 q
    exact hq (-103) σ _ _ 10 ls dX3_restore_10 (show (-103) = (restoreF σ κ hi).1 ∧ σ = (restoreF σ κ hi).2 from (by rw [eR]; exact ⟨rfl, rfl⟩)) hP hD hS
