/-! ===== the class: what changes it ===== -/
abbrev rm_c_X2_whose : Room := { frames := 4, cells := 0, slots := 0, locals := 90 }
set_option maxHeartbeats 4000000 in
set_option maxRecDepth 100000 in
theorem c_X2_whose (l : Launch) (dC : Nat → ClassId) (dI : Nat → Nat → Nat) (cI cZ : ClassId) (xd ma ka ta : Nat → Nat) (σ : St) (Hn B L C V M : Nat) (hI : Inv σ Hn B L C V M) (ξ : Nat → Int32) (hi : Int32) (ρ : St) (b h : Int32) (sz : Nat) : Met l yX2_whose wsX2_whose rm_c_X2_whose (va_Pc [.ref (xd 0), .int b, .int h] (zPre (dC, dI) vwCl (tyIZ cI cZ) (xo xd ma ka ta ξ hi :: (mw cI cZ ma σ ++ mw cI cZ ta ρ)) sz (fun _ => True))) (va_Qi (fun (r : Int32) (u : St) => r = whoseF σ Hn B b h) (zPost (dC, dI) vwCl (tyIZ cI cZ) (xo xd ma ka ta ξ hi :: (mw cI cZ ma σ ++ mw cI cZ ta ρ)) sz (fun (u : St) => xo xd ma ka ta ξ hi :: (mw cI cZ ma σ ++ mw cI cZ ta u))) (va_A (xo xd ma ka ta ξ hi :: (mw cI cZ ma σ ++ mw cI cZ ta ρ)) sz)) 0 0 (va_A (xo xd ma ka ta ξ hi :: (mw cI cZ ma σ ++ mw cI cZ ta ρ)) sz) := by
  refine z_impI (cc := cX2_whose) (maxL := 5) (av := [.ref (xd 0), .int b, .int h]) (by decide) rfl (Nat.le_of_ble_eq_true rfl) ?_
  intro p e s m below meth c Q A ls hx hb hml hown hts hBs hP hK hD hS hA hAB hq hl
  have hown : s.vm.findClass RX2 = some m.cls := hown
  have hin1 : ∀ w ∈ wsX10, w ∈ wsX2_whose := fun _ h => List.mem_cons_of_mem _ (List.mem_append_right _ h)
  have hin2 : ∀ w ∈ wsX20, w ∈ wsX2_whose := fun _ h => List.mem_cons_of_mem _ (List.mem_append_left _ (List.mem_append_right _ h))
  have L10 := hts (.fieldLink RX2 10 "BestBeast" "manor" "LBestBeast$Manor;") (List.mem_of_getElem? (i := 1) rfl)
  have L88 := hts (.fieldLink RX2 88 "BestBeast$Manor" "alive" "[Z") (List.mem_of_getElem? (i := 2) rfl)
  have L19 := hts (.fieldLink RX2 19 "BestBeast" "trial" "LBestBeast$Manor;") (List.mem_of_getElem? (i := 3) rfl)
  have L174 := hts (.fieldLink RX2 174 "BestBeast$Manor" "holders" "I") (List.mem_of_getElem? (i := 4) rfl)
  obtain ⟨⟨iL, iC, iV, iM, iH, iB, jL, jC, jV, jM, jH, jB⟩, iK, iDe, iAl, iHe, iWo, iO1, iO2⟩ := id hI
  have hl : lv_has ls 5 [(0, .ref (xd 0)), (1, .int b), (2, .int h)] := hl
  refine lv_aload_n hx hb dX2_whose_0 rfl (lv_at hl 0 rfl) ?_
  refine va_get (D := (dC, dI)) (ci := 2) (v := .ref (ma 0)) (C := RX2) (T := TX2) (N := 8) hx hb hts hin2 hown hK hP 0 rfl rfl 0 (by decide) L10 (fun _ h9 => h9) rfl dX2_whose_1 ?_
  refine lv_iload_n hx hb dX2_whose_4 rfl (lv_at hl 1 rfl) ?_
  refine z_callV (As := [.int b]) (rest := []) ⟨hx, hb, hml, hown, hts⟩ (c_X1_hasBeast l dC dI cI cZ ma σ Hn B L C V M hI.1 b) (cwV 1 hts gX2_whose_X1_hasBeast rfl rfl rfl (by decide +kernel) ⟨Nat.le_of_ble_eq_true rfl, Nat.le_of_ble_eq_true rfl⟩) (hP.sub [1, 2, 3, 4, 5, 6, 7, 8, 9, 10] rfl) hK (va_recv hK hP (ci := 1) (q0 := 1) rfl rfl) rfl hl.1 rfl (Nat.le_of_ble_eq_true rfl) ⟨Nat.zero_le _, Nat.zero_le _⟩ dX2_whose_5 (fun r hr => ?_)
  obtain rfl : r = zb (hasP B b) := hr
  refine z_ifeq_b (P := hasP B b) (tgt := 22) hx hb dX2_whose_8 (by decide) (fun (c_8 : ¬ (hasP B b)) => ?_) (fun (c_8 : hasP B b) => ?_)
  · skip
    refine lv_bipush (v := (-101)) hx hb dX2_whose_22 (by decide) ?_
    exact hq (-101) ρ _ _ 24 ls dX2_whose_24 (show (-101) = whoseF σ Hn B b h from (by unfold whoseF; rw [zif_f (fun z => c_8 z.1)])) hP hD hS
  · skip
    obtain ⟨i, hi6, rfl⟩ := c_8
    refine lv_aload_n hx hb dX2_whose_11 rfl (lv_at hl 0 rfl) ?_
    refine va_get (D := (dC, dI)) (ci := 2) (v := .ref (ma 0)) (C := RX2) (T := TX2) (N := 8) hx hb hts hin2 hown hK hP 0 rfl rfl 0 (by decide) L10 (fun _ h9 => h9) rfl dX2_whose_12 ?_
    refine lv_iload_n hx hb dX2_whose_15 rfl (lv_at hl 2 rfl) ?_
    refine z_callV (As := [.int h]) (rest := []) ⟨hx, hb, hml, hown, hts⟩ (c_X1_hasHolder l dC dI cI cZ ma σ Hn B L C V M hI.1 h) (cwV 1 hts gX2_whose_X1_hasHolder rfl rfl rfl (by decide +kernel) ⟨Nat.le_of_ble_eq_true rfl, Nat.le_of_ble_eq_true rfl⟩) (hP.sub [1, 2, 3, 4, 5, 6, 7, 8, 9, 10] rfl) hK (va_recv hK hP (ci := 1) (q0 := 1) rfl rfl) rfl hl.1 rfl (Nat.le_of_ble_eq_true rfl) ⟨Nat.zero_le _, Nat.zero_le _⟩ dX2_whose_16 (fun r hr => ?_)
    obtain rfl : r = zb (hasP Hn h) := hr
    refine z_ifne_b (P := hasP Hn h) (tgt := 25) hx hb dX2_whose_19 (by decide) (fun (c_19 : hasP Hn h) => ?_) (fun (c_19 : ¬ (hasP Hn h)) => ?_)
    · skip
      obtain ⟨j, hj, rfl⟩ := c_19
      refine lv_aload_n hx hb dX2_whose_25 rfl (lv_at hl 0 rfl) ?_
      refine va_get (D := (dC, dI)) (ci := 2) (v := .ref (ma 0)) (C := RX2) (T := TX2) (N := 8) hx hb hts hin2 hown hK hP 0 rfl rfl 0 (by decide) L10 (fun _ h9 => h9) rfl dX2_whose_26 ?_
      refine va_get (D := (dC, dI)) (ci := 1) (v := .ref (ma 3)) (C := RX1) (T := TX1) (N := 17) hx hb hts hin1 hown hK hP 1 rfl rfl 8 (by decide) L88 (fun _ h9 => h9) rfl dX2_whose_29 ?_
      refine lv_iload_n hx hb dX2_whose_32 rfl (lv_at hl 2 rfl) ?_
      refine z_zald (D := (dC, dI)) hx hb hK hP 4 1 rfl rfl j (rfl) (by omega) (by omega) (v := (σ 3) j) (rfl) dX2_whose_33 ?_
      refine lv_if_ne (tgt := 40) hx hb dX2_whose_34 (by decide) (fun (c_34 : ¬ ((σ 3) j) = 0) => ?_) (fun (c_34 : ((σ 3) j) = 0) => ?_)
      · skip
        refine lv_aload_n hx hb dX2_whose_40 rfl (lv_at hl 0 rfl) ?_
        refine va_get (D := (dC, dI)) (ci := 2) (v := .ref (ta 0)) (C := RX2) (T := TX2) (N := 8) hx hb hts hin2 hown hK hP 0 rfl rfl 2 (by decide) L19 (fun _ h9 => h9) rfl dX2_whose_41 ?_
        refine lv_aload_n hx hb dX2_whose_44 rfl (lv_at hl 0 rfl) ?_
        refine va_get (D := (dC, dI)) (ci := 2) (v := .ref (ma 0)) (C := RX2) (T := TX2) (N := 8) hx hb hts hin2 hown hK hP 0 rfl rfl 0 (by decide) L10 (fun _ h9 => h9) rfl dX2_whose_45 ?_
        refine z_callQv (As := [.ref (ma 0)]) (rest := []) ⟨hx, hb, hml, hown, hts⟩ (c_X1_copyFrom l dC dI cI cZ ta ma ρ σ (fun j hj => iAl j hj) _) (cwV 1 hts gX2_whose_X1_copyFrom rfl rfl rfl (by decide +kernel) ⟨Nat.le_of_ble_eq_true rfl, Nat.le_of_ble_eq_true rfl⟩) (fun _ _ _ _ q => q) (fun _ _ _ => trivial) hP hD hK hS hA [11, 12, 13, 14, 15, 16, 17, 18, 19, 20, 1, 2, 3, 4, 5, 6, 7, 8, 9, 10] [0] rfl rfl rfl rfl (by decide) (va_recv hK hP (ci := 1) (q0 := 11) rfl rfl) rfl hl.1 rfl (Nat.le_of_ble_eq_true rfl) ⟨Nat.le_of_ble_eq_true rfl, Nat.le_of_ble_eq_true rfl⟩ dX2_whose_48 (fun u H locs hr hP hD hS => ?_)
        clear hr
        have hP : va_P (dC, dI) vwCl (xo xd ma ka ta ξ hi :: (mw cI cZ ma σ ++ mw cI cZ ta σ)) H := hP.sub [0, 11, 12, 13, 14, 15, 16, 17, 18, 19, 20, 1, 2, 3, 4, 5, 6, 7, 8, 9, 10] rfl
        have hD : va_D A (xo xd ma ka ta ξ hi :: (mw cI cZ ma σ ++ mw cI cZ ta σ)) := hD.sub [0, 11, 12, 13, 14, 15, 16, 17, 18, 19, 20, 1, 2, 3, 4, 5, 6, 7, 8, 9, 10] rfl rfl
        refine lv_iconst (v := nI 0) hx hb dX2_whose_51 (by decide) ?_
        refine lv_istore_n (lv' := [(3, .int (nI 0)), (0, .ref (xd 0)), (1, .int (nI i)), (2, .int (nI j))]) hx hb dX2_whose_52 rfl hl (by decide) rfl (fun ls hl => ?_)
        refine lv_iconst (v := nI 0) hx hb dX2_whose_53 (by decide) ?_
        refine lv_istore (lv' := [(4, .int (nI 0)), (3, .int (nI 0)), (0, .ref (xd 0)), (1, .int (nI i)), (2, .int (nI j))]) hx hb dX2_whose_54 hl (by decide) rfl (fun ls hl => ?_)
        suffices hlp56 : ∀ (nf : Nat) (k : Nat) (τ : St) (x56_4 : Int32) (x56_3 : Int32) (ls : Array Slot) (H : Heap) (locs : List Loc), (k ≤ Hn) → (Inv τ Hn B L C V M) → (τ 3 = σ 3) → (∀ z : Int32, putS τ i z = putS σ i z) → x56_4 = nI k → x56_3 = whoseR σ B i j k → va_P (dC, dI) vwCl (xo xd ma ka ta ξ hi :: (mw cI cZ ma σ ++ mw cI cZ ta τ)) H → va_D A (xo xd ma ka ta ξ hi :: (mw cI cZ ma σ ++ mw cI cZ ta τ)) → va_S A s.heap H locs → lv_has ls 5 [(4, .int x56_4), (3, .int x56_3), (0, .ref (xd 0)), (1, .int (nI i)), (2, .int (nI j))] → Hn - k < nf → W p l e rm_c_X2_whose s m ([.ref (xd 0), .int (nI i), .int (nI j)] : List Value).toArray below meth c H locs 0 0 Q (F0 m 56 ls []) by
          exact hlp56 ((Hn - 0) + 1) 0 σ (nI 0) (nI 0) ls _ _ (by omega) hI rfl (fun _ => rfl) rfl rfl hP hD hS (lv_sub hl [0, 1, 2, 3, 4] rfl) (by omega)
        clear hP hD hS hl
        intro nf
        induction nf with
        | zero => intro k τ x56_4 x56_3 ls H locs hk hk2 h3 hpp e56_4 e56_3 hP hD hS hl hn; omega
        | succ nf ih56 =>
          intro k τ x56_4 x56_3 ls H locs hk hk2 h3 hpp e56_4 e56_3 hP hD hS hl hn
          subst e56_4
          subst e56_3
          obtain ⟨⟨kL, kC, kV, kM, kH, kB, -⟩, -⟩ := id hk2
          refine lv_iload hx hb dX2_whose_56 (lv_at hl 0 rfl) ?_
          refine lv_aload_n hx hb dX2_whose_58 rfl (lv_at hl 2 rfl) ?_
          refine va_get (D := (dC, dI)) (ci := 2) (v := .ref (ta 0)) (C := RX2) (T := TX2) (N := 8) hx hb hts hin2 hown hK hP 0 rfl rfl 2 (by decide) L19 (fun _ h9 => h9) rfl dX2_whose_59 ?_
          refine va_get (D := (dC, dI)) (ci := 1) (v := .int (nI Hn)) (C := RX1) (T := TX1) (N := 17) hx hb hts hin1 hown hK hP 11 rfl rfl 4 (by decide) L174 (fun _ h9 => h9) (congrArg (fun z => some (Value.int z)) kH) dX2_whose_62 ?_
          refine z_icmp_ge (a := k) (b := Hn) (tgt := 132) hx hb (by omega) (by omega) dX2_whose_65 (by decide) (fun (c_65 : Hn ≤ k) => ?_) (fun (c_65 : k < Hn) => ?_)
          · skip
            refine lv_iload_n hx hb dX2_whose_132 rfl (lv_at hl 1 rfl) ?_
            exact hq (whoseR σ B i j k) τ _ _ 133 ls dX2_whose_133 (show (whoseR σ B i j k) = whoseF σ Hn B (nI i) (nI j) from (by unfold whoseF; rw [zif_t ⟨hasP_nI hi6, hasP_nI hj⟩, tn_nI (by omega), tn_nI (by omega), zif_t (al_1 (iAl j (by omega)) c_34), show Hn = k by omega])) hP hD hS
          · skip
            refine lv_aload_n hx hb dX2_whose_68 rfl (lv_at hl 2 rfl) ?_
            refine va_get (D := (dC, dI)) (ci := 2) (v := .ref (ta 0)) (C := RX2) (T := TX2) (N := 8) hx hb hts hin2 hown hK hP 0 rfl rfl 2 (by decide) L19 (fun _ h9 => h9) rfl dX2_whose_69 ?_
            refine lv_iload hx hb dX2_whose_72 (lv_at hl 0 rfl) ?_
            refine z_callV (As := [.int (nI k)]) (rest := []) ⟨hx, hb, hml, hown, hts⟩ (c_X1_isAlive l dC dI cI cZ ta τ Hn B L C V M hk2 (nI k)) (cwV 1 hts gX2_whose_X1_isAlive rfl rfl rfl (by decide +kernel) ⟨Nat.le_of_ble_eq_true rfl, Nat.le_of_ble_eq_true rfl⟩) (hP.sub [11, 12, 13, 14, 15, 16, 17, 18, 19, 20] rfl) hK (va_recv hK hP (ci := 1) (q0 := 11) rfl rfl) rfl hl.1 rfl (Nat.le_of_ble_eq_true rfl) ⟨Nat.zero_le _, Nat.zero_le _⟩ dX2_whose_74 (fun r hr => ?_)
            obtain rfl : r = zb (liveP τ Hn (nI k)) := hr
            refine z_ifne_b (P := liveP τ Hn (nI k)) (tgt := 83) hx hb dX2_whose_77 (by decide) (fun (c_77 : liveP τ Hn (nI k)) => ?_) (fun (c_77 : ¬ (liveP τ Hn (nI k))) => ?_)
            · skip
              refine lv_aload_n hx hb dX2_whose_83 rfl (lv_at hl 2 rfl) ?_
              refine va_get (D := (dC, dI)) (ci := 2) (v := .ref (ta 0)) (C := RX2) (T := TX2) (N := 8) hx hb hts hin2 hown hK hP 0 rfl rfl 2 (by decide) L19 (fun _ h9 => h9) rfl dX2_whose_84 ?_
              refine lv_iload_n hx hb dX2_whose_87 rfl (lv_at hl 3 rfl) ?_
              refine lv_iload hx hb dX2_whose_88 (lv_at hl 0 rfl) ?_
              refine z_callQv (As := [.int (nI i), .int (nI k)]) (rest := []) ⟨hx, hb, hml, hown, hts⟩ (c_X1_putTo l dC dI cI cZ ta τ Hn B L C V M (hk2).1 i (by omega) (nI k) _) (cwV 2 hts gX2_whose_X1_putTo rfl rfl rfl (by decide +kernel) ⟨Nat.le_of_ble_eq_true rfl, Nat.le_of_ble_eq_true rfl⟩) (fun _ _ _ _ q => q) (fun _ _ _ => trivial) hP hD hK hS hA [11, 12, 13, 14, 15, 16, 17, 18, 19, 20] [0, 1, 2, 3, 4, 5, 6, 7, 8, 9, 10] rfl rfl rfl rfl (by decide) (va_recv hK hP (ci := 1) (q0 := 11) rfl rfl) rfl hl.1 rfl (Nat.le_of_ble_eq_true rfl) ⟨Nat.le_of_ble_eq_true rfl, Nat.le_of_ble_eq_true rfl⟩ dX2_whose_90 (fun u H locs hr hP hD hS => ?_)
              obtain rfl := hr
              have hP : va_P (dC, dI) vwCl (xo xd ma ka ta ξ hi :: (mw cI cZ ma σ ++ mw cI cZ ta (putS τ i (nI k)))) H := hP.sub [0, 1, 2, 3, 4, 5, 6, 7, 8, 9, 10, 11, 12, 13, 14, 15, 16, 17, 18, 19, 20] rfl
              have hD : va_D A (xo xd ma ka ta ξ hi :: (mw cI cZ ma σ ++ mw cI cZ ta (putS τ i (nI k)))) := hD.sub [0, 1, 2, 3, 4, 5, 6, 7, 8, 9, 10, 11, 12, 13, 14, 15, 16, 17, 18, 19, 20] rfl rfl
              obtain ⟨⟨qL, qC, qV, qM, qH, qB, -⟩, -⟩ := id (hk2.put i (nI k))
              refine lv_aload_n hx hb dX2_whose_93 rfl (lv_at hl 2 rfl) ?_
              refine va_get (D := (dC, dI)) (ci := 2) (v := .ref (ta 0)) (C := RX2) (T := TX2) (N := 8) hx hb hts hin2 hown hK hP 0 rfl rfl 2 (by decide) L19 (fun _ h9 => h9) rfl dX2_whose_94 ?_
              refine lv_aload_n hx hb dX2_whose_97 rfl (lv_at hl 2 rfl) ?_
              refine va_get (D := (dC, dI)) (ci := 2) (v := .ref (ta 0)) (C := RX2) (T := TX2) (N := 8) hx hb hts hin2 hown hK hP 0 rfl rfl 2 (by decide) L19 (fun _ h9 => h9) rfl dX2_whose_98 ?_
              refine lv_iload_n hx hb dX2_whose_101 rfl (lv_at hl 4 rfl) ?_
              refine lv_aload_n hx hb dX2_whose_102 rfl (lv_at hl 2 rfl) ?_
              refine va_get (D := (dC, dI)) (ci := 2) (v := .ref (ta 0)) (C := RX2) (T := TX2) (N := 8) hx hb hts hin2 hown hK hP 0 rfl rfl 2 (by decide) L19 (fun _ h9 => h9) rfl dX2_whose_103 ?_
              refine lv_iload_n hx hb dX2_whose_106 rfl (lv_at hl 4 rfl) ?_
              refine z_callV (As := [.int (nI j)]) (rest := [.int (nI j), .ref (ta 0), .ref (ta 0)]) ⟨hx, hb, hml, hown, hts⟩ (c_X1_heldBits l dC dI cI cZ ta (putS τ i (nI k)) Hn B L C V M (hk2.put i (nI k)) (nI j)) (cwV 1 hts gX2_whose_X1_heldBits rfl rfl rfl (by decide +kernel) ⟨Nat.le_of_ble_eq_true rfl, Nat.le_of_ble_eq_true rfl⟩) (hP.sub [11, 12, 13, 14, 15, 16, 17, 18, 19, 20] rfl) hK (va_recv hK hP (ci := 1) (q0 := 11) rfl rfl) rfl hl.1 rfl (Nat.le_of_ble_eq_true rfl) ⟨Nat.zero_le _, Nat.zero_le _⟩ dX2_whose_107 (fun r hr => ?_)
              obtain rfl : r = heldF (putS τ i (nI k)) B (nI j) := hr
              refine z_callV (As := [.int (nI j), .int (heldF (putS τ i (nI k)) B (nI j))]) (rest := [.ref (ta 0)]) ⟨hx, hb, hml, hown, hts⟩ (c_X1_takenFrom l dC dI cI cZ ta (putS τ i (nI k)) Hn B L C V M (hk2.put i (nI k)) j (by omega) (heldF (putS τ i (nI k)) B (nI j))) (cwV 2 hts gX2_whose_X1_takenFrom rfl rfl rfl (by decide +kernel) ⟨Nat.le_of_ble_eq_true rfl, Nat.le_of_ble_eq_true rfl⟩) (hP.sub [11, 12, 13, 14, 15, 16, 17, 18, 19, 20] rfl) hK (va_recv hK hP (ci := 1) (q0 := 11) rfl rfl) rfl hl.1 rfl (Nat.le_of_ble_eq_true rfl) ⟨Nat.zero_le _, Nat.zero_le _⟩ dX2_whose_110 (fun r hr => ?_)
              obtain rfl : r = takenF (putS τ i (nI k)) B j (heldF (putS τ i (nI k)) B (nI j)) := hr
              refine z_callV (As := [.int (takenF (putS τ i (nI k)) B j (heldF (putS τ i (nI k)) B (nI j)))]) (rest := []) ⟨hx, hb, hml, hown, hts⟩ (c_X1_isAsTold l dC dI cI cZ ta (putS τ i (nI k)) Hn B L C V M (hk2.put i (nI k)) (takenF (putS τ i (nI k)) B j (heldF (putS τ i (nI k)) B (nI j)))) (cwV 1 hts gX2_whose_X1_isAsTold rfl rfl rfl (by decide +kernel) ⟨Nat.le_of_ble_eq_true rfl, Nat.le_of_ble_eq_true rfl⟩) (hP.sub [11, 12, 13, 14, 15, 16, 17, 18, 19, 20] rfl) hK (va_recv hK hP (ci := 1) (q0 := 11) rfl rfl) rfl hl.1 rfl (Nat.le_of_ble_eq_true rfl) ⟨Nat.zero_le _, Nat.zero_le _⟩ dX2_whose_113 (fun r hr => ?_)
              obtain rfl : r = zb (toldR (putS τ i (nI k)) (takenF (putS τ i (nI k)) B j (heldF (putS τ i (nI k)) B (nI j))) B) := hr
              refine z_ifeq_b (P := toldR (putS τ i (nI k)) (takenF (putS τ i (nI k)) B j (heldF (putS τ i (nI k)) B (nI j))) B) (tgt := 126) hx hb dX2_whose_116 (by decide) (fun (c_116 : ¬ (toldR (putS τ i (nI k)) (takenF (putS τ i (nI k)) B j (heldF (putS τ i (nI k)) B (nI j))) B)) => ?_) (fun (c_116 : toldR (putS τ i (nI k)) (takenF (putS τ i (nI k)) B j (heldF (putS τ i (nI k)) B (nI j))) B) => ?_)
              · skip
                refine lv_iinc (v := nI (k + 1)) (lv' := [(4, .int (nI (k + 1))), (3, .int (whoseR σ B i j k)), (0, .ref (xd 0)), (1, .int (nI i)), (2, .int (nI j))]) hx hb dX2_whose_126 hl (k := 0) rfl (nI_1 _) (by decide) rfl (fun ls hl => ?_)
                refine lv_goto (tgt := 56) hx hb dX2_whose_129 (by decide) ?_
                exact ih56 (k + 1) (putS τ i (nI k)) (nI (k + 1)) (whoseR σ B i j k) ls _ _ (by omega) (hk2.put i (nI k)) h3 (fun z => (putS_putS τ i _ z).trans (hpp z)) (show nI (k + 1) = nI (k + 1) from rfl) (show whoseR σ B i j k = whoseR σ B i j (k + 1) from whoseR_n (fun z => c_116 (by have := z.2; rw [← hpp] at this; exact this))) hP hD hS (lv_sub hl [0, 1, 2, 3, 4] rfl) (by omega)
              · skip
                refine lv_iload_n hx hb dX2_whose_119 rfl (lv_at hl 1 rfl) ?_
                refine lv_iconst (v := nI 1) hx hb dX2_whose_120 (by decide) ?_
                refine lv_iload hx hb dX2_whose_121 (lv_at hl 0 rfl) ?_
                refine z_ishl (v := zbit k) hx hb dX2_whose_123 (rfl) ?_
                refine z_ior (v := (whoseR σ B i j k) ||| (zbit k)) hx hb dX2_whose_124 (rfl) ?_
                refine lv_istore_n (lv' := [(3, .int ((whoseR σ B i j k) ||| (zbit k))), (4, .int (nI k)), (0, .ref (xd 0)), (1, .int (nI i)), (2, .int (nI j))]) hx hb dX2_whose_125 rfl hl (by decide) rfl (fun ls hl => ?_)
                refine lv_iinc (v := nI (k + 1)) (lv' := [(4, .int (nI (k + 1))), (3, .int ((whoseR σ B i j k) ||| (zbit k))), (0, .ref (xd 0)), (1, .int (nI i)), (2, .int (nI j))]) hx hb dX2_whose_126 hl (k := 1) rfl (nI_1 _) (by decide) rfl (fun ls hl => ?_)
                refine lv_goto (tgt := 56) hx hb dX2_whose_129 (by decide) ?_
                exact ih56 (k + 1) (putS τ i (nI k)) (nI (k + 1)) ((whoseR σ B i j k) ||| (zbit k)) ls _ _ (by omega) (hk2.put i (nI k)) h3 (fun z => (putS_putS τ i _ z).trans (hpp z)) (show nI (k + 1) = nI (k + 1) from rfl) (show (whoseR σ B i j k) ||| (zbit k) = whoseR σ B i j (k + 1) from whoseR_y (by have := live_1 c_65 jH c_77; rw [h3] at this; exact this) (by rw [← hpp]; exact c_116)) hP hD hS (lv_sub hl [0, 1, 2, 3, 4] rfl) (by omega)
            · skip
              refine lv_goto (tgt := 126) hx hb dX2_whose_80 (by decide) ?_
              refine lv_iinc (v := nI (k + 1)) (lv' := [(4, .int (nI (k + 1))), (3, .int (whoseR σ B i j k)), (0, .ref (xd 0)), (1, .int (nI i)), (2, .int (nI j))]) hx hb dX2_whose_126 hl (k := 0) rfl (nI_1 _) (by decide) rfl (fun ls hl => ?_)
              refine lv_goto (tgt := 56) hx hb dX2_whose_129 (by decide) ?_
              exact ih56 (k + 1) τ (nI (k + 1)) (whoseR σ B i j k) ls _ _ (by omega) hk2 h3 hpp (show nI (k + 1) = nI (k + 1) from rfl) (show whoseR σ B i j k = whoseR σ B i j (k + 1) from whoseR_n (fun z => c_77 (live_yes c_65 (by rw [h3]; exact z.1)))) hP hD hS (lv_sub hl [0, 1, 2, 3, 4] rfl) (by omega)
      · skip
        refine lv_bipush (v := (-103)) hx hb dX2_whose_37 (by decide) ?_
        exact hq (-103) ρ _ _ 39 ls dX2_whose_39 (show (-103) = whoseF σ Hn B (nI i) (nI j) from (by unfold whoseF; rw [zif_t ⟨hasP_nI hi6, hasP_nI hj⟩, tn_nI (by omega), tn_nI (by omega), zif_f (al_0 c_34)])) hP hD hS
    · skip
      refine lv_bipush (v := (-101)) hx hb dX2_whose_22 (by decide) ?_
      exact hq (-101) ρ _ _ 24 ls dX2_whose_24 (show (-101) = whoseF σ Hn B (nI i) h from (by unfold whoseF; rw [zif_f (fun z => c_19 z.2)])) hP hD hS
abbrev rm_c_X2_manors : Room := { frames := 6, cells := 0, slots := 0, locals := 137 }
set_option maxHeartbeats 4000000 in
set_option maxRecDepth 100000 in
theorem c_X2_manors (l : Launch) (dC : Nat → ClassId) (dI : Nat → Nat → Nat) (cI cZ : ClassId) (xd ma ka ta : Nat → Nat) (σ : St) (Hn B L C V M : Nat) (hI : Inv σ Hn B L C V M) (ξ : Nat → Int32) (hi : Int32) (ρ : St) (sd : Int32) (y sd0 w : Int32) (sz : Nat) : Met l yX2_manors wsX2_manors rm_c_X2_manors (va_Pc [.ref (xd 0), .int y, .int sd0, .int w] (zPre (dC, dI) vwCl (tyIZ cI cZ) (xo xd ma ka ta ξ hi :: (xd 2, .inr (0, [.int sd])) :: (mw cI cZ ma σ ++ mw cI cZ ta ρ)) sz (fun _ => True))) (va_Qi (fun (r : Int32) (u : St × Int32) => r = manorsF σ Hn B y sd0 w) (zPost (dC, dI) vwCl (tyIZ cI cZ) (xo xd ma ka ta ξ hi :: (xd 2, .inr (0, [.int sd])) :: (mw cI cZ ma σ ++ mw cI cZ ta ρ)) sz (fun (u : St × Int32) => xo xd ma ka ta ξ hi :: (xd 2, .inr (0, [.int u.2])) :: (mw cI cZ ma σ ++ mw cI cZ ta u.1))) (va_A (xo xd ma ka ta ξ hi :: (xd 2, .inr (0, [.int sd])) :: (mw cI cZ ma σ ++ mw cI cZ ta ρ)) sz)) 0 0 (va_A (xo xd ma ka ta ξ hi :: (xd 2, .inr (0, [.int sd])) :: (mw cI cZ ma σ ++ mw cI cZ ta ρ)) sz) := by
  refine z_impI (cc := cX2_manors) (maxL := 5) (av := [.ref (xd 0), .int y, .int sd0, .int w]) (by decide) rfl (Nat.le_of_ble_eq_true rfl) ?_
  intro p e s m below meth c Q A ls hx hb hml hown hts hBs hP hK hD hS hA hAB hq hl
  have hown : s.vm.findClass RX2 = some m.cls := hown
  have hin0 : ∀ w ∈ wsX00, w ∈ wsX2_manors := fun _ h => List.mem_cons_of_mem _ (List.mem_append_right _ h)
  have hin1 : ∀ w ∈ wsX10, w ∈ wsX2_manors := fun _ h => List.mem_cons_of_mem _ (List.mem_append_left _ (List.mem_append_right _ h))
  have hin2 : ∀ w ∈ wsX20, w ∈ wsX2_manors := fun _ h => List.mem_cons_of_mem _ (List.mem_append_left _ (List.mem_append_left _ (List.mem_append_right _ h)))
  have L10 := hts (.fieldLink RX2 10 "BestBeast" "manor" "LBestBeast$Manor;") (List.mem_of_getElem? (i := 1) rfl)
  have L174 := hts (.fieldLink RX2 174 "BestBeast$Manor" "holders" "I") (List.mem_of_getElem? (i := 2) rfl)
  have L19 := hts (.fieldLink RX2 19 "BestBeast" "trial" "LBestBeast$Manor;") (List.mem_of_getElem? (i := 3) rfl)
  have L25 := hts (.fieldLink RX2 25 "BestBeast" "draws" "LBestBeast$Draws;") (List.mem_of_getElem? (i := 4) rfl)
  have L189 := hts (.fieldLink RX2 189 "BestBeast$Draws" "seed" "I") (List.mem_of_getElem? (i := 5) rfl)
  have L196 := hts (.fieldLink RX2 196 "BestBeast$Manor" "takenWorth" "I") (List.mem_of_getElem? (i := 6) rfl)
  obtain ⟨⟨iL, iC, iV, iM, iH, iB, jL, jC, jV, jM, jH, jB⟩, iK, iDe, iAl, iHe, iWo, iO1, iO2⟩ := id hI
  have hl : lv_has ls 5 [(0, .ref (xd 0)), (1, .int y), (2, .int sd0), (3, .int w)] := hl
  refine lv_iload_n hx hb dX2_manors_0 rfl (lv_at hl 1 rfl) ?_
  refine lv_iconst (v := nI 1) hx hb dX2_manors_1 (by decide) ?_
  refine lv_bipush (v := nI 60) hx hb dX2_manors_2 (by decide) ?_
  refine z_callS (As := [.int y, .int (nI 1), .int (nI 60)]) (rest := []) ⟨hx, hb, hml, hown, hts⟩ (c_X2_within_n l y 1 60 (by omega) (by omega)) (va_cwS 3 hts gX2_manors_X2_within rfl rfl rfl (by decide +kernel) ⟨Nat.le_of_ble_eq_true rfl, Nat.le_of_ble_eq_true rfl⟩) rfl hl.1 rfl (Nat.le_of_ble_eq_true rfl) ⟨Nat.zero_le _, Nat.zero_le _⟩ dX2_manors_4 (fun r hr => ?_)
  obtain rfl : r = zb (inP 1 60 y) := hr
  refine z_ifeq_b (P := inP 1 60 y) (tgt := 23) hx hb dX2_manors_7 (by decide) (fun (c_7 : ¬ (inP 1 60 y)) => ?_) (fun (c_7 : inP 1 60 y) => ?_)
  · skip
    refine lv_bipush (v := (-102)) hx hb dX2_manors_23 (by decide) ?_
    exact hq (-102) (ρ, sd) _ _ 25 ls dX2_manors_25 (show (-102) = manorsF σ Hn B y sd0 w from (by unfold manorsF; rw [zif_f (fun z => c_7 z.1)])) hP hD hS
  · skip
    obtain ⟨yy, hy1, hy60, rfl⟩ := c_7
    refine lv_iload_n hx hb dX2_manors_10 rfl (lv_at hl 2 rfl) ?_
    refine lv_if_lt (tgt := 23) hx hb dX2_manors_11 (by decide) (fun (c_11 : sd0 < 0) => ?_) (fun (c_11 : ¬ (sd0 < 0)) => ?_)
    · skip
      refine lv_bipush (v := (-102)) hx hb dX2_manors_23 (by decide) ?_
      exact hq (-102) (ρ, sd) _ _ 25 ls dX2_manors_25 (show (-102) = manorsF σ Hn B (nI yy) sd0 w from (by unfold manorsF; rw [zif_f (fun z => z.2.1 c_11)])) hP hD hS
    · skip
      refine lv_iload_n hx hb dX2_manors_14 rfl (lv_at hl 3 rfl) ?_
      refine lv_iconst (v := nI 0) hx hb dX2_manors_15 (by decide) ?_
      refine lv_iconst (v := nI 2) hx hb dX2_manors_16 (by decide) ?_
      refine z_callS (As := [.int w, .int (nI 0), .int (nI 2)]) (rest := []) ⟨hx, hb, hml, hown, hts⟩ (c_X2_within_n l w 0 2 (by omega) (by omega)) (va_cwS 3 hts gX2_manors_X2_within rfl rfl rfl (by decide +kernel) ⟨Nat.le_of_ble_eq_true rfl, Nat.le_of_ble_eq_true rfl⟩) rfl hl.1 rfl (Nat.le_of_ble_eq_true rfl) ⟨Nat.zero_le _, Nat.zero_le _⟩ dX2_manors_17 (fun r hr => ?_)
      obtain rfl : r = zb (inP 0 2 w) := hr
      refine z_ifne_b (P := inP 0 2 w) (tgt := 26) hx hb dX2_manors_20 (by decide) (fun (c_20 : inP 0 2 w) => ?_) (fun (c_20 : ¬ (inP 0 2 w)) => ?_)
      · skip
        obtain ⟨ww, -, hw2, rfl⟩ := c_20
        refine lv_aload_n hx hb dX2_manors_26 rfl (lv_at hl 0 rfl) ?_
        refine va_get (D := (dC, dI)) (ci := 2) (v := .ref (ma 0)) (C := RX2) (T := TX2) (N := 8) hx hb hts hin2 hown hK hP 0 rfl rfl 0 (by decide) L10 (fun _ h9 => h9) rfl dX2_manors_27 ?_
        refine va_get (D := (dC, dI)) (ci := 1) (v := .int (nI Hn)) (C := RX1) (T := TX1) (N := 17) hx hb hts hin1 hown hK hP 2 rfl rfl 4 (by decide) L174 (fun _ h9 => h9) (congrArg (fun z => some (Value.int z)) iH) dX2_manors_30 ?_
        refine z_if_ne (a := Hn) (tgt := 39) hx hb (by omega) dX2_manors_33 (by decide) (fun (c_33 : Hn ≠ 0) => ?_) (fun (c_33 : Hn = 0) => ?_)
        · skip
          refine lv_aload_n hx hb dX2_manors_39 rfl (lv_at hl 0 rfl) ?_
          refine va_get (D := (dC, dI)) (ci := 2) (v := .ref (ta 0)) (C := RX2) (T := TX2) (N := 8) hx hb hts hin2 hown hK hP 0 rfl rfl 2 (by decide) L19 (fun _ h9 => h9) rfl dX2_manors_40 ?_
          refine lv_aload_n hx hb dX2_manors_43 rfl (lv_at hl 0 rfl) ?_
          refine va_get (D := (dC, dI)) (ci := 2) (v := .ref (ma 0)) (C := RX2) (T := TX2) (N := 8) hx hb hts hin2 hown hK hP 0 rfl rfl 0 (by decide) L10 (fun _ h9 => h9) rfl dX2_manors_44 ?_
          refine z_callQv (As := [.ref (ma 0)]) (rest := []) ⟨hx, hb, hml, hown, hts⟩ (c_X1_copyFrom l dC dI cI cZ ta ma ρ σ (fun j hj => iAl j hj) _) (cwV 1 hts gX2_manors_X1_copyFrom rfl rfl rfl (by decide +kernel) ⟨Nat.le_of_ble_eq_true rfl, Nat.le_of_ble_eq_true rfl⟩) (fun _ _ _ _ q => q) (fun _ _ _ => trivial) hP hD hK hS hA [12, 13, 14, 15, 16, 17, 18, 19, 20, 21, 2, 3, 4, 5, 6, 7, 8, 9, 10, 11] [0, 1] rfl rfl rfl rfl (by decide) (va_recv hK hP (ci := 1) (q0 := 12) rfl rfl) rfl hl.1 rfl (Nat.le_of_ble_eq_true rfl) ⟨Nat.le_of_ble_eq_true rfl, Nat.le_of_ble_eq_true rfl⟩ dX2_manors_47 (fun u H locs hr hP hD hS => ?_)
          clear hr
          have hP : va_P (dC, dI) vwCl (xo xd ma ka ta ξ hi :: (xd 2, .inr (0, [.int sd])) :: (mw cI cZ ma σ ++ mw cI cZ ta σ)) H := hP.sub [0, 1, 12, 13, 14, 15, 16, 17, 18, 19, 20, 21, 2, 3, 4, 5, 6, 7, 8, 9, 10, 11] rfl
          have hD : va_D A (xo xd ma ka ta ξ hi :: (xd 2, .inr (0, [.int sd])) :: (mw cI cZ ma σ ++ mw cI cZ ta σ)) := hD.sub [0, 1, 12, 13, 14, 15, 16, 17, 18, 19, 20, 21, 2, 3, 4, 5, 6, 7, 8, 9, 10, 11] rfl rfl
          refine lv_aload_n hx hb dX2_manors_50 rfl (lv_at hl 0 rfl) ?_
          refine va_get (D := (dC, dI)) (ci := 2) (v := .ref (xd 2)) (C := RX2) (T := TX2) (N := 8) hx hb hts hin2 hown hK hP 0 rfl rfl 3 (by decide) L25 (fun _ h9 => h9) rfl dX2_manors_51 ?_
          refine lv_iload_n hx hb dX2_manors_54 rfl (lv_at hl 2 rfl) ?_
          refine va_put (D := (dC, dI)) (ci := 0) (v := .int sd0) (ty := .int) (C := RX0) (T := TX0) (N := 1) hx hb hts hin0 tyX0 tyX0_ok nmX0 hown hK hP hD hS 1 rfl rfl 0 (by decide) L189 (fun _ h9 => h9) rfl (by decide +kernel) rfl rfl (Nat.le_of_ble_eq_true rfl) dX2_manors_55 (fun H locs hP hD hS => ?_)
          have hP : va_P (dC, dI) vwCl (xo xd ma ka ta ξ hi :: (xd 2, .inr (0, [.int sd0])) :: (mw cI cZ ma σ ++ mw cI cZ ta σ)) H := hP
          have hD : va_D A (xo xd ma ka ta ξ hi :: (xd 2, .inr (0, [.int sd0])) :: (mw cI cZ ma σ ++ mw cI cZ ta σ)) := hD
          refine lv_iconst (v := nI 0) hx hb dX2_manors_58 (by decide) ?_
          refine lv_istore (lv' := [(4, .int (nI 0)), (0, .ref (xd 0)), (1, .int (nI yy)), (2, .int sd0), (3, .int (nI ww))]) hx hb dX2_manors_59 hl (by decide) rfl (fun ls hl => ?_)
          suffices hlp61 : ∀ (nf : Nat) (k : Nat) (τ : St) (v : Int32) (x61_4 : Int32) (ls : Array Slot) (H : Heap) (locs : List Loc), (k ≤ yy) → (Inv τ Hn B L C V M) → (yearsR σ Hn B sd0 k = (τ, v)) → x61_4 = nI k → va_P (dC, dI) vwCl (xo xd ma ka ta ξ hi :: (xd 2, .inr (0, [.int v])) :: (mw cI cZ ma σ ++ mw cI cZ ta τ)) H → va_D A (xo xd ma ka ta ξ hi :: (xd 2, .inr (0, [.int v])) :: (mw cI cZ ma σ ++ mw cI cZ ta τ)) → va_S A s.heap H locs → lv_has ls 5 [(4, .int x61_4), (0, .ref (xd 0)), (1, .int (nI yy)), (2, .int sd0), (3, .int (nI ww))] → yy - k < nf → W p l e rm_c_X2_manors s m ([.ref (xd 0), .int (nI yy), .int sd0, .int (nI ww)] : List Value).toArray below meth c H locs 0 0 Q (F0 m 61 ls []) by
            exact hlp61 ((yy - 0) + 1) 0 σ sd0 (nI 0) ls _ _ (by omega) hI rfl rfl hP hD hS (lv_sub hl [0, 1, 2, 3, 4] rfl) (by omega)
          clear hP hD hS hl
          intro nf
          induction nf with
          | zero => intro k τ v x61_4 ls H locs hk hk2 hd e61_4 hP hD hS hl hn; omega
          | succ nf ih61 =>
            intro k τ v x61_4 ls H locs hk hk2 hd e61_4 hP hD hS hl hn
            subst e61_4
            obtain ⟨⟨kL, kC, kV, kM, kH, kB, -⟩, -⟩ := id hk2
            refine lv_iload hx hb dX2_manors_61 (lv_at hl 0 rfl) ?_
            refine lv_iload_n hx hb dX2_manors_63 rfl (lv_at hl 2 rfl) ?_
            refine z_icmp_ge (a := k) (b := yy) (tgt := 84) hx hb (by omega) (by omega) dX2_manors_64 (by decide) (fun (c_64 : yy ≤ k) => ?_) (fun (c_64 : k < yy) => ?_)
            · skip
              refine lv_iload_n hx hb dX2_manors_84 rfl (lv_at hl 4 rfl) ?_
              match ww, (show ww < 3 by omega) with
              | 0, _ =>
                refine lv_lookup (off := 27) (tgt := 112) hx hb dX2_manors_85 (by decide +kernel) (by decide +kernel) (by decide) ?_
                refine lv_aload_n hx hb dX2_manors_112 rfl (lv_at hl 1 rfl) ?_
                refine va_get (D := (dC, dI)) (ci := 2) (v := .ref (ta 0)) (C := RX2) (T := TX2) (N := 8) hx hb hts hin2 hown hK hP 0 rfl rfl 2 (by decide) L19 (fun _ h9 => h9) rfl dX2_manors_113 ?_
                refine va_get (D := (dC, dI)) (ci := 1) (v := .int (τ 0 7)) (C := RX1) (T := TX1) (N := 17) hx hb hts hin1 hown hK hP 12 rfl rfl 16 (by decide) L196 (fun _ h9 => h9) rfl dX2_manors_116 ?_
                refine lv_aload_n hx hb dX2_manors_119 rfl (lv_at hl 1 rfl) ?_
                refine va_get (D := (dC, dI)) (ci := 2) (v := .ref (ma 0)) (C := RX2) (T := TX2) (N := 8) hx hb hts hin2 hown hK hP 0 rfl rfl 0 (by decide) L10 (fun _ h9 => h9) rfl dX2_manors_120 ?_
                refine va_get (D := (dC, dI)) (ci := 1) (v := .int (σ 0 7)) (C := RX1) (T := TX1) (N := 17) hx hb hts hin1 hown hK hP 2 rfl rfl 16 (by decide) L196 (fun _ h9 => h9) rfl dX2_manors_123 ?_
                refine z_isub (v := (τ 0 7) - (σ 0 7)) hx hb dX2_manors_126 (rfl) ?_
                exact hq ((τ 0 7) - (σ 0 7)) (τ, v) _ _ 127 ls dX2_manors_127 (show ((τ 0 7) - (σ 0 7)) = manorsF σ Hn B (nI yy) sd0 (nI 0) from (by unfold manorsF; rw [zif_t ⟨inP_nI hy1 hy60, c_11, inP_nI (Nat.zero_le _) (by decide)⟩, if_neg c_33, tn_nI (by omega), tn_nI (by decide), show yy = k by omega]; unfold manorsN; rw [hd]; rfl)) hP hD hS
              | 1, _ =>
                refine lv_lookup (off := 43) (tgt := 128) hx hb dX2_manors_85 (by decide +kernel) (by decide +kernel) (by decide) ?_
                refine lv_aload_n hx hb dX2_manors_128 rfl (lv_at hl 1 rfl) ?_
                refine va_get (D := (dC, dI)) (ci := 2) (v := .ref (ta 0)) (C := RX2) (T := TX2) (N := 8) hx hb hts hin2 hown hK hP 0 rfl rfl 2 (by decide) L19 (fun _ h9 => h9) rfl dX2_manors_129 ?_
                refine z_callV (As := []) (rest := []) ⟨hx, hb, hml, hown, hts⟩ (c_X1_countAlive l dC dI cI cZ ta τ Hn B L C V M hk2) (cwV 0 hts gX2_manors_X1_countAlive rfl rfl rfl (by decide +kernel) ⟨Nat.le_of_ble_eq_true rfl, Nat.le_of_ble_eq_true rfl⟩) (hP.sub [12, 13, 14, 15, 16, 17, 18, 19, 20, 21] rfl) hK (va_recv hK hP (ci := 1) (q0 := 12) rfl rfl) rfl hl.1 rfl (Nat.le_of_ble_eq_true rfl) ⟨Nat.zero_le _, Nat.zero_le _⟩ dX2_manors_132 (fun r hr => ?_)
                obtain rfl : r = aliveR τ Hn := hr
                exact hq (aliveR τ Hn) (τ, v) _ _ 135 ls dX2_manors_135 (show (aliveR τ Hn) = manorsF σ Hn B (nI yy) sd0 (nI 1) from (by unfold manorsF; rw [zif_t ⟨inP_nI hy1 hy60, c_11, inP_nI (Nat.zero_le _) (by decide)⟩, if_neg c_33, tn_nI (by omega), tn_nI (by decide), show yy = k by omega]; unfold manorsN; rw [hd]; rfl)) hP hD hS
              | 2, _ =>
                refine lv_lookup (off := 51) (tgt := 136) hx hb dX2_manors_85 (by decide +kernel) (by decide +kernel) (by decide) ?_
                refine lv_aload_n hx hb dX2_manors_136 rfl (lv_at hl 1 rfl) ?_
                refine va_get (D := (dC, dI)) (ci := 2) (v := .ref (xd 2)) (C := RX2) (T := TX2) (N := 8) hx hb hts hin2 hown hK hP 0 rfl rfl 3 (by decide) L25 (fun _ h9 => h9) rfl dX2_manors_137 ?_
                refine va_get (D := (dC, dI)) (ci := 0) (v := .int v) (C := RX0) (T := TX0) (N := 1) hx hb hts hin0 hown hK hP 1 rfl rfl 0 (by decide) L189 (fun _ h9 => h9) rfl dX2_manors_140 ?_
                exact hq v (τ, v) _ _ 143 ls dX2_manors_143 (show v = manorsF σ Hn B (nI yy) sd0 (nI 2) from (by unfold manorsF; rw [zif_t ⟨inP_nI hy1 hy60, c_11, inP_nI (Nat.zero_le _) (by decide)⟩, if_neg c_33, tn_nI (by omega), tn_nI (by decide), show yy = k by omega]; unfold manorsN; rw [hd]; rfl)) hP hD hS
              | jj + 3, hjj => exact absurd hjj (by omega)
            · skip
              refine lv_aload_n hx hb dX2_manors_67 rfl (lv_at hl 1 rfl) ?_
              refine va_get (D := (dC, dI)) (ci := 2) (v := .ref (ta 0)) (C := RX2) (T := TX2) (N := 8) hx hb hts hin2 hown hK hP 0 rfl rfl 2 (by decide) L19 (fun _ h9 => h9) rfl dX2_manors_68 ?_
              refine lv_aload_n hx hb dX2_manors_71 rfl (lv_at hl 1 rfl) ?_
              refine va_get (D := (dC, dI)) (ci := 2) (v := .ref (xd 2)) (C := RX2) (T := TX2) (N := 8) hx hb hts hin2 hown hK hP 0 rfl rfl 3 (by decide) L25 (fun _ h9 => h9) rfl dX2_manors_72 ?_
              refine z_callQv (As := [.ref (xd 2)]) (rest := []) ⟨hx, hb, hml, hown, hts⟩ (c_X1_liveOneYear l dC dI cI cZ (xd 2) ta τ Hn B L C V M hk2 (by omega) v _) (cwV 1 hts gX2_manors_X1_liveOneYear rfl rfl rfl (by decide +kernel) ⟨Nat.le_of_ble_eq_true rfl, Nat.le_of_ble_eq_true rfl⟩) (fun _ _ _ _ q => q) (fun _ _ _ => trivial) hP hD hK hS hA [1, 12, 13, 14, 15, 16, 17, 18, 19, 20, 21] [0, 2, 3, 4, 5, 6, 7, 8, 9, 10, 11] rfl rfl rfl rfl (by decide) (va_recv hK hP (ci := 1) (q0 := 12) rfl rfl) rfl hl.1 rfl (Nat.le_of_ble_eq_true rfl) ⟨Nat.le_of_ble_eq_true rfl, Nat.le_of_ble_eq_true rfl⟩ dX2_manors_75 (fun u H locs hr hP hD hS => ?_)
              obtain rfl := hr
              have hP : va_P (dC, dI) vwCl (xo xd ma ka ta ξ hi :: (xd 2, .inr (0, [.int ((yearS τ Hn B v).2)])) :: (mw cI cZ ma σ ++ mw cI cZ ta ((yearS τ Hn B v).1))) H := hP.sub [0, 11, 1, 2, 3, 4, 5, 6, 7, 8, 9, 10, 12, 13, 14, 15, 16, 17, 18, 19, 20, 21] rfl
              have hD : va_D A (xo xd ma ka ta ξ hi :: (xd 2, .inr (0, [.int ((yearS τ Hn B v).2)])) :: (mw cI cZ ma σ ++ mw cI cZ ta ((yearS τ Hn B v).1))) := hD.sub [0, 11, 1, 2, 3, 4, 5, 6, 7, 8, 9, 10, 12, 13, 14, 15, 16, 17, 18, 19, 20, 21] rfl rfl
              refine lv_iinc (v := nI (k + 1)) (lv' := [(4, .int (nI (k + 1))), (0, .ref (xd 0)), (1, .int (nI yy)), (2, .int sd0), (3, .int (nI ww))]) hx hb dX2_manors_78 hl (k := 0) rfl (nI_1 _) (by decide) rfl (fun ls hl => ?_)
              refine lv_goto (tgt := 61) hx hb dX2_manors_81 (by decide) ?_
              exact ih61 (k + 1) ((yearS τ Hn B v).1) ((yearS τ Hn B v).2) (nI (k + 1)) ls _ _ (by omega) (hk2.year (by omega) v) (by rw [yearsR, hd]) (show nI (k + 1) = nI (k + 1) from rfl) hP hD hS (lv_sub hl [0, 1, 2, 3, 4] rfl) (by omega)
        · skip
          refine lv_bipush (v := (-103)) hx hb dX2_manors_36 (by decide) ?_
          exact hq (-103) (ρ, sd) _ _ 38 ls dX2_manors_38 (show (-103) = manorsF σ Hn B (nI yy) sd0 (nI ww) from (by unfold manorsF; rw [zif_t ⟨inP_nI hy1 hy60, c_11, inP_nI (Nat.zero_le _) hw2⟩, if_pos c_33])) hP hD hS
      · skip
        refine lv_bipush (v := (-102)) hx hb dX2_manors_23 (by decide) ?_
        exact hq (-102) (ρ, sd) _ _ 25 ls dX2_manors_25 (show (-102) = manorsF σ Hn B (nI yy) sd0 w from (by unfold manorsF; rw [zif_f (fun z => c_20 z.2.2)])) hP hD hS
