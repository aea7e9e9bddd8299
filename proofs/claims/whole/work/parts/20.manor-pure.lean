/-! ===== the manor: what changes nothing ===== -/
/-- what would be taken of him now, all together; of one who does not live 0 -/
def lossA (σ : St) (B j : Nat) : Int32 := if σ 3 j = 1 then lossF σ B j (heldF σ B (nI j)) else 0
abbrev rm_c_X1_hasHolder : Room := { frames := 0, cells := 0, slots := 0, locals := 0 }
set_option maxHeartbeats 4000000 in
set_option maxRecDepth 100000 in
theorem c_X1_hasHolder (l : Launch) (dC : Nat → ClassId) (dI : Nat → Nat → Nat) (cI cZ : ClassId) (ad : Nat → Nat) (σ : St) (Hn B L C V M : Nat) (hN : Nums σ Hn B L C V M) (x : Int32) : Met l yX1_hasHolder wsX1_hasHolder rm_c_X1_hasHolder (va_Pc [.ref (ad 0), .int x] (fun U => va_P (dC, dI) vwCl (mw cI cZ ad σ) U.heap ∧ va_K (dC, dI) vwCl (tyIZ cI cZ) U)) (vp_Si (fun r : Int32 => r = zb (hasP Hn x))) 0 0 (fun _ => False) := by
  refine z_pureZ (cc := cX1_hasHolder) (maxL := 2) (av := [.ref (ad 0), .int x]) (by decide) rfl (Nat.le_of_ble_eq_true rfl) ?_
  intro p e s m below meth c Q ls hx hb hml hown hts ⟨hP, hK⟩ hq hl
  have hown : s.vm.findClass RX1 = some m.cls := hown
  have hin1 : ∀ w ∈ wsX10, w ∈ wsX1_hasHolder := fun _ h => List.mem_cons_of_mem _ (List.mem_append_right _ h)
  have L24 := hts (.fieldLink RX1 24 "BestBeast$Manor" "holders" "I") (List.mem_of_getElem? (i := 1) rfl)
  obtain ⟨iL, iC, iV, iM, iH, iB, jL, jC, jV, jM, jH, jB⟩ := id hN
  have hl : lv_has ls 2 [(0, .ref (ad 0)), (1, .int x)] := hl
  refine lv_iload_n hx hb dX1_hasHolder_0 rfl (lv_at hl 1 rfl) ?_
  refine lv_if_lt (tgt := 21) hx hb dX1_hasHolder_1 (by decide) (fun (c_1 : x < 0) => ?_) (fun (c_1 : ¬ (x < 0)) => ?_)
  · skip
    refine lv_iconst (v := nI 0) hx hb dX1_hasHolder_21 (by decide) ?_
    exact hq (nI 0) 22 ls dX1_hasHolder_22 (Or.inl rfl) (show (nI 0) = zb (hasP Hn x) from (zb_f (fun h => ((hasP_iff (by omega)).mp h).1 c_1)).symm)
  · skip
    refine lv_iload_n hx hb dX1_hasHolder_4 rfl (lv_at hl 1 rfl) ?_
    refine lv_aload_n hx hb dX1_hasHolder_5 rfl (lv_at hl 0 rfl) ?_
    refine va_get (D := (dC, dI)) (ci := 1) (v := .int (nI Hn)) (C := RX1) (T := TX1) (N := 17) hx hb hts hin1 hown hK hP 0 rfl rfl 4 (by decide) L24 (fun _ h9 => h9) (congrArg (fun z => some (Value.int z)) iH) dX1_hasHolder_6 ?_
    refine lv_icmp_ge (tgt := 21) hx hb dX1_hasHolder_9 (by decide) (fun (c_9 : (nI Hn) ≤ x) => ?_) (fun (c_9 : ¬ ((nI Hn) ≤ x)) => ?_)
    · skip
      refine lv_iconst (v := nI 0) hx hb dX1_hasHolder_21 (by decide) ?_
      exact hq (nI 0) 22 ls dX1_hasHolder_22 (Or.inl rfl) (show (nI 0) = zb (hasP Hn x) from (zb_f (fun h => ((hasP_iff (by omega)).mp h).2 c_9)).symm)
    · skip
      refine lv_iload_n hx hb dX1_hasHolder_12 rfl (lv_at hl 1 rfl) ?_
      refine lv_iconst (v := nI 4) hx hb dX1_hasHolder_13 (by decide) ?_
      refine lv_icmp_ge (tgt := 21) hx hb dX1_hasHolder_14 (by decide) (fun (c_14 : 4 ≤ x) => ?_) (fun (c_14 : ¬ (4 ≤ x)) => ?_)
      · skip
        refine lv_iconst (v := nI 0) hx hb dX1_hasHolder_21 (by decide) ?_
        exact hq (nI 0) 22 ls dX1_hasHolder_22 (Or.inl rfl) (show (nI 0) = zb (hasP Hn x) from (zb_f (fun h => by obtain ⟨j, hj, rfl⟩ := h; exact nI_ge (show j < 4 by omega) (by omega) c_14)).symm)
      · skip
        refine lv_iconst (v := nI 1) hx hb dX1_hasHolder_17 (by decide) ?_
        refine lv_goto (tgt := 22) hx hb dX1_hasHolder_18 (by decide) ?_
        exact hq (nI 1) 22 ls dX1_hasHolder_22 (Or.inr rfl) (show (nI 1) = zb (hasP Hn x) from (zb_t ((hasP_iff (by omega)).mpr ⟨c_1, c_9⟩)).symm)
abbrev rm_c_X1_hasBeast : Room := { frames := 0, cells := 0, slots := 0, locals := 0 }
set_option maxHeartbeats 4000000 in
set_option maxRecDepth 100000 in
theorem c_X1_hasBeast (l : Launch) (dC : Nat → ClassId) (dI : Nat → Nat → Nat) (cI cZ : ClassId) (ad : Nat → Nat) (σ : St) (Hn B L C V M : Nat) (hN : Nums σ Hn B L C V M) (x : Int32) : Met l yX1_hasBeast wsX1_hasBeast rm_c_X1_hasBeast (va_Pc [.ref (ad 0), .int x] (fun U => va_P (dC, dI) vwCl (mw cI cZ ad σ) U.heap ∧ va_K (dC, dI) vwCl (tyIZ cI cZ) U)) (vp_Si (fun r : Int32 => r = zb (hasP B x))) 0 0 (fun _ => False) := by
  refine z_pureZ (cc := cX1_hasBeast) (maxL := 2) (av := [.ref (ad 0), .int x]) (by decide) rfl (Nat.le_of_ble_eq_true rfl) ?_
  intro p e s m below meth c Q ls hx hb hml hown hts ⟨hP, hK⟩ hq hl
  have hown : s.vm.findClass RX1 = some m.cls := hown
  have hin1 : ∀ w ∈ wsX10, w ∈ wsX1_hasBeast := fun _ h => List.mem_cons_of_mem _ (List.mem_append_right _ h)
  have L41 := hts (.fieldLink RX1 41 "BestBeast$Manor" "beasts" "I") (List.mem_of_getElem? (i := 1) rfl)
  obtain ⟨iL, iC, iV, iM, iH, iB, jL, jC, jV, jM, jH, jB⟩ := id hN
  have hl : lv_has ls 2 [(0, .ref (ad 0)), (1, .int x)] := hl
  refine lv_iload_n hx hb dX1_hasBeast_0 rfl (lv_at hl 1 rfl) ?_
  refine lv_if_lt (tgt := 22) hx hb dX1_hasBeast_1 (by decide) (fun (c_1 : x < 0) => ?_) (fun (c_1 : ¬ (x < 0)) => ?_)
  · skip
    refine lv_iconst (v := nI 0) hx hb dX1_hasBeast_22 (by decide) ?_
    exact hq (nI 0) 23 ls dX1_hasBeast_23 (Or.inl rfl) (show (nI 0) = zb (hasP B x) from (zb_f (fun h => ((hasP_iff (by omega)).mp h).1 c_1)).symm)
  · skip
    refine lv_iload_n hx hb dX1_hasBeast_4 rfl (lv_at hl 1 rfl) ?_
    refine lv_aload_n hx hb dX1_hasBeast_5 rfl (lv_at hl 0 rfl) ?_
    refine va_get (D := (dC, dI)) (ci := 1) (v := .int (nI B)) (C := RX1) (T := TX1) (N := 17) hx hb hts hin1 hown hK hP 0 rfl rfl 9 (by decide) L41 (fun _ h9 => h9) (congrArg (fun z => some (Value.int z)) iB) dX1_hasBeast_6 ?_
    refine lv_icmp_ge (tgt := 22) hx hb dX1_hasBeast_9 (by decide) (fun (c_9 : (nI B) ≤ x) => ?_) (fun (c_9 : ¬ ((nI B) ≤ x)) => ?_)
    · skip
      refine lv_iconst (v := nI 0) hx hb dX1_hasBeast_22 (by decide) ?_
      exact hq (nI 0) 23 ls dX1_hasBeast_23 (Or.inl rfl) (show (nI 0) = zb (hasP B x) from (zb_f (fun h => ((hasP_iff (by omega)).mp h).2 c_9)).symm)
    · skip
      refine lv_iload_n hx hb dX1_hasBeast_12 rfl (lv_at hl 1 rfl) ?_
      refine lv_bipush (v := nI 6) hx hb dX1_hasBeast_13 (by decide) ?_
      refine lv_icmp_ge (tgt := 22) hx hb dX1_hasBeast_15 (by decide) (fun (c_15 : 6 ≤ x) => ?_) (fun (c_15 : ¬ (6 ≤ x)) => ?_)
      · skip
        refine lv_iconst (v := nI 0) hx hb dX1_hasBeast_22 (by decide) ?_
        exact hq (nI 0) 23 ls dX1_hasBeast_23 (Or.inl rfl) (show (nI 0) = zb (hasP B x) from (zb_f (fun h => by obtain ⟨j, hj, rfl⟩ := h; exact nI_ge (show j < 6 by omega) (by omega) c_15)).symm)
      · skip
        refine lv_iconst (v := nI 1) hx hb dX1_hasBeast_18 (by decide) ?_
        refine lv_goto (tgt := 23) hx hb dX1_hasBeast_19 (by decide) ?_
        exact hq (nI 1) 23 ls dX1_hasBeast_23 (Or.inr rfl) (show (nI 1) = zb (hasP B x) from (zb_t ((hasP_iff (by omega)).mpr ⟨c_1, c_9⟩)).symm)
abbrev rm_c_X1_isAlive : Room := { frames := 1, cells := 0, slots := 0, locals := 21 }
set_option maxHeartbeats 4000000 in
set_option maxRecDepth 100000 in
theorem c_X1_isAlive (l : Launch) (dC : Nat → ClassId) (dI : Nat → Nat → Nat) (cI cZ : ClassId) (ad : Nat → Nat) (σ : St) (Hn B L C V M : Nat) (hI : Inv σ Hn B L C V M) (x : Int32) : Met l yX1_isAlive wsX1_isAlive rm_c_X1_isAlive (va_Pc [.ref (ad 0), .int x] (fun U => va_P (dC, dI) vwCl (mw cI cZ ad σ) U.heap ∧ va_K (dC, dI) vwCl (tyIZ cI cZ) U)) (vp_Si (fun r : Int32 => r = zb (liveP σ Hn x))) 0 0 (fun _ => False) := by
  refine z_pureZ (cc := cX1_isAlive) (maxL := 2) (av := [.ref (ad 0), .int x]) (by decide) rfl (Nat.le_of_ble_eq_true rfl) ?_
  intro p e s m below meth c Q ls hx hb hml hown hts ⟨hP, hK⟩ hq hl
  have hown : s.vm.findClass RX1 = some m.cls := hown
  have hin1 : ∀ w ∈ wsX10, w ∈ wsX1_isAlive := fun _ h => List.mem_cons_of_mem _ (List.mem_append_right _ h)
  have L37 := hts (.fieldLink RX1 37 "BestBeast$Manor" "alive" "[Z") (List.mem_of_getElem? (i := 1) rfl)
  obtain ⟨⟨iL, iC, iV, iM, iH, iB, jL, jC, jV, jM, jH, jB⟩, iK, iDe, iAl, iHe, iWo, iO1, iO2⟩ := id hI
  have hl : lv_has ls 2 [(0, .ref (ad 0)), (1, .int x)] := hl
  refine lv_aload_n hx hb dX1_isAlive_0 rfl (lv_at hl 0 rfl) ?_
  refine lv_iload_n hx hb dX1_isAlive_1 rfl (lv_at hl 1 rfl) ?_
  refine z_callV (As := [.int x]) (rest := []) ⟨hx, hb, hml, hown, hts⟩ (c_X1_hasHolder l dC dI cI cZ ad σ Hn B L C V M hI.1 x) (cwV 1 hts gX1_isAlive_X1_hasHolder rfl rfl rfl (by decide +kernel) ⟨Nat.le_of_ble_eq_true rfl, Nat.le_of_ble_eq_true rfl⟩) hP hK (va_recv hK hP (ci := 1) (q0 := 0) rfl rfl) rfl hl.1 rfl (Nat.le_of_ble_eq_true rfl) ⟨Nat.zero_le _, Nat.zero_le _⟩ dX1_isAlive_2 (fun r hr => ?_)
  obtain rfl : r = zb (hasP Hn x) := hr
  refine z_ifeq_b (P := hasP Hn x) (tgt := 21) hx hb dX1_isAlive_5 (by decide) (fun (c_5 : ¬ (hasP Hn x)) => ?_) (fun (c_5 : hasP Hn x) => ?_)
  · skip
    refine lv_iconst (v := nI 0) hx hb dX1_isAlive_21 (by decide) ?_
    exact hq (nI 0) 22 ls dX1_isAlive_22 (Or.inl rfl) (show (nI 0) = zb (liveP σ Hn x) from (zb_f (fun h => c_5 (let ⟨j, hj, e, _⟩ := h; ⟨j, hj, e⟩))).symm)
  · skip
    obtain ⟨j, hj, rfl⟩ := c_5
    refine lv_aload_n hx hb dX1_isAlive_8 rfl (lv_at hl 0 rfl) ?_
    refine va_get (D := (dC, dI)) (ci := 1) (v := .ref (ad 3)) (C := RX1) (T := TX1) (N := 17) hx hb hts hin1 hown hK hP 0 rfl rfl 8 (by decide) L37 (fun _ h9 => h9) rfl dX1_isAlive_9 ?_
    refine lv_iload_n hx hb dX1_isAlive_12 rfl (lv_at hl 1 rfl) ?_
    refine z_zald (D := (dC, dI)) hx hb hK hP 3 1 rfl rfl j (rfl) (by omega) (by omega) (v := (σ 3) j) (rfl) dX1_isAlive_13 ?_
    refine lv_if_eq (tgt := 21) hx hb dX1_isAlive_14 (by decide) (fun (c_14 : ((σ 3) j) = 0) => ?_) (fun (c_14 : ¬ (((σ 3) j) = 0)) => ?_)
    · skip
      refine lv_iconst (v := nI 0) hx hb dX1_isAlive_21 (by decide) ?_
      exact hq (nI 0) 22 ls dX1_isAlive_22 (Or.inl rfl) (show (nI 0) = zb (liveP σ Hn (nI j)) from (zb_f (fun h => live_no hj (by omega) c_14 h)).symm)
    · skip
      refine lv_iconst (v := nI 1) hx hb dX1_isAlive_17 (by decide) ?_
      refine lv_goto (tgt := 22) hx hb dX1_isAlive_18 (by decide) ?_
      exact hq (nI 1) 22 ls dX1_isAlive_22 (Or.inr rfl) (show (nI 1) = zb (liveP σ Hn (nI j)) from (zb_t (live_yes hj ((iAl j (by omega)).resolve_left c_14))).symm)
abbrev rm_c_X1_countAlive : Room := { frames := 2, cells := 0, slots := 0, locals := 42 }
set_option maxHeartbeats 4000000 in
set_option maxRecDepth 100000 in
theorem c_X1_countAlive (l : Launch) (dC : Nat → ClassId) (dI : Nat → Nat → Nat) (cI cZ : ClassId) (ad : Nat → Nat) (σ : St) (Hn B L C V M : Nat) (hI : Inv σ Hn B L C V M)  : Met l yX1_countAlive wsX1_countAlive rm_c_X1_countAlive (va_Pc [.ref (ad 0)] (fun U => va_P (dC, dI) vwCl (mw cI cZ ad σ) U.heap ∧ va_K (dC, dI) vwCl (tyIZ cI cZ) U)) (vp_Si (fun r : Int32 => r = aliveR σ Hn)) 0 0 (fun _ => False) := by
  refine z_pureI (cc := cX1_countAlive) (maxL := 3) (av := [.ref (ad 0)]) (by decide) rfl (Nat.le_of_ble_eq_true rfl) ?_
  intro p e s m below meth c Q ls hx hb hml hown hts ⟨hP, hK⟩ hq hl
  have hown : s.vm.findClass RX1 = some m.cls := hown
  have hin1 : ∀ w ∈ wsX10, w ∈ wsX1_countAlive := fun _ h => List.mem_cons_of_mem _ (List.mem_append_right _ h)
  have L24 := hts (.fieldLink RX1 24 "BestBeast$Manor" "holders" "I") (List.mem_of_getElem? (i := 1) rfl)
  obtain ⟨⟨iL, iC, iV, iM, iH, iB, jL, jC, jV, jM, jH, jB⟩, iK, iDe, iAl, iHe, iWo, iO1, iO2⟩ := id hI
  have hl : lv_has ls 3 [(0, .ref (ad 0))] := hl
  refine lv_iconst (v := nI 0) hx hb dX1_countAlive_0 (by decide) ?_
  refine lv_istore_n (lv' := [(1, .int (nI 0)), (0, .ref (ad 0))]) hx hb dX1_countAlive_1 rfl hl (by decide) rfl (fun ls hl => ?_)
  refine lv_iconst (v := nI 0) hx hb dX1_countAlive_2 (by decide) ?_
  refine lv_istore_n (lv' := [(2, .int (nI 0)), (1, .int (nI 0)), (0, .ref (ad 0))]) hx hb dX1_countAlive_3 rfl hl (by decide) rfl (fun ls hl => ?_)
  suffices hlp4 : ∀ (nf : Nat) (k : Nat) (x4_2 : Int32) (x4_1 : Int32) (ls : Array Slot), (k ≤ Hn) → x4_2 = nI k → x4_1 = aliveR σ k → lv_has ls 3 [(2, .int x4_2), (1, .int x4_1), (0, .ref (ad 0))] → Hn - k < nf → W p l e rm_c_X1_countAlive s m ([.ref (ad 0)] : List Value).toArray below meth c s.heap [] 0 0 Q (F0 m 4 ls []) by
    exact hlp4 ((Hn - 0) + 1) 0 (nI 0) (nI 0) ls (by omega) rfl rfl (lv_sub hl [0, 1, 2] rfl) (by omega)
  intro nf
  induction nf with
  | zero => intro k x4_2 x4_1 ls hk e4_2 e4_1 hl hn; omega
  | succ nf ih4 =>
    intro k x4_2 x4_1 ls hk e4_2 e4_1 hl hn
    subst e4_2
    subst e4_1
    refine lv_iload_n hx hb dX1_countAlive_4 rfl (lv_at hl 0 rfl) ?_
    refine lv_aload_n hx hb dX1_countAlive_5 rfl (lv_at hl 2 rfl) ?_
    refine va_get (D := (dC, dI)) (ci := 1) (v := .int (nI Hn)) (C := RX1) (T := TX1) (N := 17) hx hb hts hin1 hown hK hP 0 rfl rfl 4 (by decide) L24 (fun _ h9 => h9) (congrArg (fun z => some (Value.int z)) iH) dX1_countAlive_6 ?_
    refine z_icmp_ge (a := k) (b := Hn) (tgt := 29) hx hb (by omega) (by omega) dX1_countAlive_9 (by decide) (fun (c_9 : Hn ≤ k) => ?_) (fun (c_9 : k < Hn) => ?_)
    · skip
      refine lv_iload_n hx hb dX1_countAlive_29 rfl (lv_at hl 1 rfl) ?_
      exact hq (aliveR σ k) 30 ls dX1_countAlive_30 (show (aliveR σ k) = aliveR σ Hn from (by rw [show Hn = k by omega]))
    · skip
      refine lv_aload_n hx hb dX1_countAlive_12 rfl (lv_at hl 2 rfl) ?_
      refine lv_iload_n hx hb dX1_countAlive_13 rfl (lv_at hl 0 rfl) ?_
      refine z_callV (As := [.int (nI k)]) (rest := []) ⟨hx, hb, hml, hown, hts⟩ (c_X1_isAlive l dC dI cI cZ ad σ Hn B L C V M hI (nI k)) (cwV 1 hts gX1_countAlive_X1_isAlive rfl rfl rfl (by decide +kernel) ⟨Nat.le_of_ble_eq_true rfl, Nat.le_of_ble_eq_true rfl⟩) hP hK (va_recv hK hP (ci := 1) (q0 := 0) rfl rfl) rfl hl.1 rfl (Nat.le_of_ble_eq_true rfl) ⟨Nat.zero_le _, Nat.zero_le _⟩ dX1_countAlive_14 (fun r hr => ?_)
      obtain rfl : r = zb (liveP σ Hn (nI k)) := hr
      refine z_ifeq_b (P := liveP σ Hn (nI k)) (tgt := 23) hx hb dX1_countAlive_17 (by decide) (fun (c_17 : ¬ (liveP σ Hn (nI k))) => ?_) (fun (c_17 : liveP σ Hn (nI k)) => ?_)
      · skip
        refine lv_iinc (v := nI (k + 1)) (lv' := [(2, .int (nI (k + 1))), (1, .int (aliveR σ k)), (0, .ref (ad 0))]) hx hb dX1_countAlive_23 hl (k := 0) rfl (nI_1 _) (by decide) rfl (fun ls hl => ?_)
        refine lv_goto (tgt := 4) hx hb dX1_countAlive_26 (by decide) ?_
        exact ih4 (k + 1) (nI (k + 1)) (aliveR σ k) ls (by omega) (show nI (k + 1) = nI (k + 1) from rfl) (show aliveR σ k = aliveR σ (k + 1) from aliveR_n (live_0 (iAl k (by omega)) c_9 (by omega) c_17)) (lv_sub hl [0, 1, 2] rfl) (by omega)
      · skip
        refine lv_iinc (v := (aliveR σ k) + 1) (lv' := [(1, .int ((aliveR σ k) + 1)), (2, .int (nI k)), (0, .ref (ad 0))]) hx hb dX1_countAlive_20 hl (k := 1) rfl (rfl) (by decide) rfl (fun ls hl => ?_)
        refine lv_iinc (v := nI (k + 1)) (lv' := [(2, .int (nI (k + 1))), (1, .int ((aliveR σ k) + 1)), (0, .ref (ad 0))]) hx hb dX1_countAlive_23 hl (k := 1) rfl (nI_1 _) (by decide) rfl (fun ls hl => ?_)
        refine lv_goto (tgt := 4) hx hb dX1_countAlive_26 (by decide) ?_
        exact ih4 (k + 1) (nI (k + 1)) ((aliveR σ k) + 1) ls (by omega) (show nI (k + 1) = nI (k + 1) from rfl) (show (aliveR σ k) + 1 = aliveR σ (k + 1) from aliveR_y (live_1 c_9 (by omega) c_17)) (lv_sub hl [0, 1, 2] rfl) (by omega)
abbrev rm_c_X1_countNotGone : Room := { frames := 1, cells := 0, slots := 0, locals := 21 }
set_option maxHeartbeats 4000000 in
set_option maxRecDepth 100000 in
theorem c_X1_countNotGone (l : Launch) (dC : Nat → ClassId) (dI : Nat → Nat → Nat) (cI cZ : ClassId) (ad : Nat → Nat) (σ : St) (Hn B L C V M : Nat) (hI : Inv σ Hn B L C V M)  : Met l yX1_countNotGone wsX1_countNotGone rm_c_X1_countNotGone (va_Pc [.ref (ad 0)] (fun U => va_P (dC, dI) vwCl (mw cI cZ ad σ) U.heap ∧ va_K (dC, dI) vwCl (tyIZ cI cZ) U)) (vp_Si (fun r : Int32 => r = thereR σ B)) 0 0 (fun _ => False) := by
  refine z_pureI (cc := cX1_countNotGone) (maxL := 3) (av := [.ref (ad 0)]) (by decide) rfl (Nat.le_of_ble_eq_true rfl) ?_
  intro p e s m below meth c Q ls hx hb hml hown hts ⟨hP, hK⟩ hq hl
  have hown : s.vm.findClass RX1 = some m.cls := hown
  have hin1 : ∀ w ∈ wsX10, w ∈ wsX1_countNotGone := fun _ h => List.mem_cons_of_mem _ (List.mem_append_right _ h)
  have L41 := hts (.fieldLink RX1 41 "BestBeast$Manor" "beasts" "I") (List.mem_of_getElem? (i := 1) rfl)
  have L47 := hts (.fieldLink RX1 47 "BestBeast$Manor" "owner" "[I") (List.mem_of_getElem? (i := 2) rfl)
  obtain ⟨⟨iL, iC, iV, iM, iH, iB, jL, jC, jV, jM, jH, jB⟩, iK, iDe, iAl, iHe, iWo, iO1, iO2⟩ := id hI
  have hl : lv_has ls 3 [(0, .ref (ad 0))] := hl
  refine lv_iconst (v := nI 0) hx hb dX1_countNotGone_0 (by decide) ?_
  refine lv_istore_n (lv' := [(1, .int (nI 0)), (0, .ref (ad 0))]) hx hb dX1_countNotGone_1 rfl hl (by decide) rfl (fun ls hl => ?_)
  refine lv_iconst (v := nI 0) hx hb dX1_countNotGone_2 (by decide) ?_
  refine lv_istore_n (lv' := [(2, .int (nI 0)), (1, .int (nI 0)), (0, .ref (ad 0))]) hx hb dX1_countNotGone_3 rfl hl (by decide) rfl (fun ls hl => ?_)
  suffices hlp4 : ∀ (nf : Nat) (k : Nat) (x4_2 : Int32) (x4_1 : Int32) (ls : Array Slot), (k ≤ B) → x4_2 = nI k → x4_1 = thereR σ k → lv_has ls 3 [(2, .int x4_2), (1, .int x4_1), (0, .ref (ad 0))] → B - k < nf → W p l e rm_c_X1_countNotGone s m ([.ref (ad 0)] : List Value).toArray below meth c s.heap [] 0 0 Q (F0 m 4 ls []) by
    exact hlp4 ((B - 0) + 1) 0 (nI 0) (nI 0) ls (by omega) rfl rfl (lv_sub hl [0, 1, 2] rfl) (by omega)
  intro nf
  induction nf with
  | zero => intro k x4_2 x4_1 ls hk e4_2 e4_1 hl hn; omega
  | succ nf ih4 =>
    intro k x4_2 x4_1 ls hk e4_2 e4_1 hl hn
    subst e4_2
    subst e4_1
    refine lv_iload_n hx hb dX1_countNotGone_4 rfl (lv_at hl 0 rfl) ?_
    refine lv_aload_n hx hb dX1_countNotGone_5 rfl (lv_at hl 2 rfl) ?_
    refine va_get (D := (dC, dI)) (ci := 1) (v := .int (nI B)) (C := RX1) (T := TX1) (N := 17) hx hb hts hin1 hown hK hP 0 rfl rfl 9 (by decide) L41 (fun _ h9 => h9) (congrArg (fun z => some (Value.int z)) iB) dX1_countNotGone_6 ?_
    refine z_icmp_ge (a := k) (b := B) (tgt := 39) hx hb (by omega) (by omega) dX1_countNotGone_9 (by decide) (fun (c_9 : B ≤ k) => ?_) (fun (c_9 : k < B) => ?_)
    · skip
      refine lv_iload_n hx hb dX1_countNotGone_39 rfl (lv_at hl 1 rfl) ?_
      exact hq (thereR σ k) 40 ls dX1_countNotGone_40 (show (thereR σ k) = thereR σ B from (by rw [show B = k by omega]))
    · skip
      refine lv_aload_n hx hb dX1_countNotGone_12 rfl (lv_at hl 2 rfl) ?_
      refine lv_iload_n hx hb dX1_countNotGone_13 rfl (lv_at hl 0 rfl) ?_
      refine z_callV (As := [.int (nI k)]) (rest := []) ⟨hx, hb, hml, hown, hts⟩ (c_X1_hasBeast l dC dI cI cZ ad σ Hn B L C V M hI.1 (nI k)) (cwV 1 hts gX1_countNotGone_X1_hasBeast rfl rfl rfl (by decide +kernel) ⟨Nat.le_of_ble_eq_true rfl, Nat.le_of_ble_eq_true rfl⟩) hP hK (va_recv hK hP (ci := 1) (q0 := 0) rfl rfl) rfl hl.1 rfl (Nat.le_of_ble_eq_true rfl) ⟨Nat.zero_le _, Nat.zero_le _⟩ dX1_countNotGone_14 (fun r hr => ?_)
      obtain rfl : r = zb (hasP B (nI k)) := hr
      refine z_ifeq_b (P := hasP B (nI k)) (tgt := 33) hx hb dX1_countNotGone_17 (by decide) (fun (z9 : ¬ (hasP B (nI k))) => absurd (hasP_nI c_9) z9) (fun (c_17 : hasP B (nI k)) => ?_)
      refine lv_aload_n hx hb dX1_countNotGone_20 rfl (lv_at hl 2 rfl) ?_
      refine va_get (D := (dC, dI)) (ci := 1) (v := .ref (ad 6)) (C := RX1) (T := TX1) (N := 17) hx hb hts hin1 hown hK hP 0 rfl rfl 11 (by decide) L47 (fun _ h9 => h9) rfl dX1_countNotGone_21 ?_
      refine lv_iload_n hx hb dX1_countNotGone_24 rfl (lv_at hl 0 rfl) ?_
      refine z_iald (D := (dC, dI)) hx hb hK hP 6 0 rfl rfl k (rfl) (by omega) (by omega) (v := (σ 6) k) (rfl) dX1_countNotGone_25 ?_
      refine lv_iconst (v := (-1)) hx hb dX1_countNotGone_26 (by decide) ?_
      refine lv_icmp_eq (tgt := 33) hx hb dX1_countNotGone_27 (by decide) (fun (c_27 : ((σ 6) k) = (-1)) => ?_) (fun (c_27 : ¬ (((σ 6) k) = (-1))) => ?_)
      · skip
        refine lv_iinc (v := nI (k + 1)) (lv' := [(2, .int (nI (k + 1))), (1, .int (thereR σ k)), (0, .ref (ad 0))]) hx hb dX1_countNotGone_33 hl (k := 0) rfl (nI_1 _) (by decide) rfl (fun ls hl => ?_)
        refine lv_goto (tgt := 4) hx hb dX1_countNotGone_36 (by decide) ?_
        exact ih4 (k + 1) (nI (k + 1)) (thereR σ k) ls (by omega) (show nI (k + 1) = nI (k + 1) from rfl) (show thereR σ k = thereR σ (k + 1) from thereR_n c_27) (lv_sub hl [0, 1, 2] rfl) (by omega)
      · skip
        refine lv_iinc (v := (thereR σ k) + 1) (lv' := [(1, .int ((thereR σ k) + 1)), (2, .int (nI k)), (0, .ref (ad 0))]) hx hb dX1_countNotGone_30 hl (k := 1) rfl (rfl) (by decide) rfl (fun ls hl => ?_)
        refine lv_iinc (v := nI (k + 1)) (lv' := [(2, .int (nI (k + 1))), (1, .int ((thereR σ k) + 1)), (0, .ref (ad 0))]) hx hb dX1_countNotGone_33 hl (k := 1) rfl (nI_1 _) (by decide) rfl (fun ls hl => ?_)
        refine lv_goto (tgt := 4) hx hb dX1_countNotGone_36 (by decide) ?_
        exact ih4 (k + 1) (nI (k + 1)) ((thereR σ k) + 1) ls (by omega) (show nI (k + 1) = nI (k + 1) from rfl) (show (thereR σ k) + 1 = thereR σ (k + 1) from thereR_y c_27) (lv_sub hl [0, 1, 2] rfl) (by omega)
abbrev rm_c_X1_lordMay : Room := { frames := 1, cells := 0, slots := 0, locals := 17 }
set_option maxHeartbeats 4000000 in
set_option maxRecDepth 100000 in
theorem c_X1_lordMay (l : Launch) (dC : Nat → ClassId) (dI : Nat → Nat → Nat) (cI cZ : ClassId) (ad : Nat → Nat) (σ : St) (Hn B L C V M : Nat) (hI : Inv σ Hn B L C V M) (K : Nat) (hK4 : K ≤ 4) : Met l yX1_lordMay wsX1_lordMay rm_c_X1_lordMay (va_Pc [.ref (ad 0), .int (nI K)] (fun U => va_P (dC, dI) vwCl (mw cI cZ ad σ) U.heap ∧ va_K (dC, dI) vwCl (tyIZ cI cZ) U)) (vp_Si (fun r : Int32 => r = nI (lordN L K))) 0 0 (fun _ => False) := by
  refine z_pureI (cc := cX1_lordMay) (maxL := 2) (av := [.ref (ad 0), .int (nI K)]) (by decide) rfl (Nat.le_of_ble_eq_true rfl) ?_
  intro p e s m below meth c Q ls hx hb hml hown hts ⟨hP, hK⟩ hq hl
  have hown : s.vm.findClass RX1 = some m.cls := hown
  have hin1 : ∀ w ∈ wsX10, w ∈ wsX1_lordMay := fun _ h => List.mem_cons_of_mem _ (List.mem_append_right _ h)
  have L9 := hts (.fieldLink RX1 9 "BestBeast$Manor" "lord" "I") (List.mem_of_getElem? (i := 1) rfl)
  obtain ⟨⟨iL, iC, iV, iM, iH, iB, jL, jC, jV, jM, jH, jB⟩, iK, iDe, iAl, iHe, iWo, iO1, iO2⟩ := id hI
  have hl : lv_has ls 2 [(0, .ref (ad 0)), (1, .int (nI K))] := hl
  refine lv_iload_n hx hb dX1_lordMay_0 rfl (lv_at hl 1 rfl) ?_
  refine lv_iconst (v := nI 3) hx hb dX1_lordMay_1 (by decide) ?_
  refine z_icmp_eq (a := K) (b := 3) (tgt := 10) hx hb (by omega) (by omega) dX1_lordMay_2 (by decide) (fun (c_2 : K = 3) => ?_) (fun (c_2 : K ≠ 3) => ?_)
  · skip
    refine lv_iconst (v := nI 0) hx hb dX1_lordMay_10 (by decide) ?_
    exact hq (nI 0) 11 ls dX1_lordMay_11 (show (nI 0) = nI (lordN L K) from (by subst c_2; rfl))
  · skip
    refine lv_iload_n hx hb dX1_lordMay_5 rfl (lv_at hl 1 rfl) ?_
    refine lv_iconst (v := nI 4) hx hb dX1_lordMay_6 (by decide) ?_
    refine z_icmp_ne (a := K) (b := 4) (tgt := 12) hx hb (by omega) (by omega) dX1_lordMay_7 (by decide) (fun (c_7 : K ≠ 4) => ?_) (fun (c_7 : K = 4) => ?_)
    · skip
      refine lv_iload_n hx hb dX1_lordMay_12 rfl (lv_at hl 1 rfl) ?_
      refine lv_iconst (v := nI 1) hx hb dX1_lordMay_13 (by decide) ?_
      refine z_icmp_ne (a := K) (b := 1) (tgt := 30) hx hb (by omega) (by omega) dX1_lordMay_14 (by decide) (fun (c_14 : K ≠ 1) => ?_) (fun (c_14 : K = 1) => ?_)
      · skip
        refine lv_aload_n hx hb dX1_lordMay_30 rfl (lv_at hl 0 rfl) ?_
        refine va_get (D := (dC, dI)) (ci := 1) (v := .int (nI L)) (C := RX1) (T := TX1) (N := 17) hx hb hts hin1 hown hK hP 0 rfl rfl 0 (by decide) L9 (fun _ h9 => h9) (congrArg (fun z => some (Value.int z)) iL) dX1_lordMay_31 ?_
        exact hq (nI L) 34 ls dX1_lordMay_34 (show (nI L) = nI (lordN L K) from (by unfold lordN; rw [if_neg (by omega), if_neg c_14]))
      · skip
        refine lv_iconst (v := nI 0) hx hb dX1_lordMay_17 (by decide) ?_
        refine lv_aload_n hx hb dX1_lordMay_18 rfl (lv_at hl 0 rfl) ?_
        refine va_get (D := (dC, dI)) (ci := 1) (v := .int (nI L)) (C := RX1) (T := TX1) (N := 17) hx hb hts hin1 hown hK hP 0 rfl rfl 0 (by decide) L9 (fun _ h9 => h9) (congrArg (fun z => some (Value.int z)) iL) dX1_lordMay_19 ?_
        refine lv_iconst (v := nI 1) hx hb dX1_lordMay_22 (by decide) ?_
        refine z_isub (v := (nI L) - (nI 1)) hx hb dX1_lordMay_23 (rfl) ?_
        refine va_mmax hx hb (by rw [hml]; exact hl.1.symm) hown (hts (.methodLink RX1 89 Lib.Math.max.name) (List.mem_of_getElem? (i := 2) rfl)) (hts (.static Lib.Math.max.name) (List.mem_of_getElem? (i := 3) rfl)) (hts (.initialized "java/lang/Math") (List.mem_of_getElem? (i := 4) rfl)) (hts (.code Lib.Math.max.name Lib.Math.max.code 2 (some .int)) (List.mem_of_getElem? (i := 5) rfl)) (Nat.le_of_ble_eq_true rfl) (Nat.le_of_ble_eq_true rfl) (Nat.zero_le _) (Nat.zero_le _) dX1_lordMay_24 ?_
        refine z_topi (v := nI (L - 1)) (mx1 L (by omega)) ?_
        refine lv_goto (tgt := 34) hx hb dX1_lordMay_27 (by decide) ?_
        exact hq (nI (L - 1)) 34 ls dX1_lordMay_34 (show (nI (L - 1)) = nI (lordN L K) from (by subst c_14; rfl))
    · skip
      refine lv_iconst (v := nI 0) hx hb dX1_lordMay_10 (by decide) ?_
      exact hq (nI 0) 11 ls dX1_lordMay_11 (show (nI 0) = nI (lordN L K) from (by subst c_7; rfl))
abbrev rm_c_X1_churchMay : Room := { frames := 1, cells := 0, slots := 0, locals := 17 }
set_option maxHeartbeats 4000000 in
set_option maxRecDepth 100000 in
theorem c_X1_churchMay (l : Launch) (dC : Nat → ClassId) (dI : Nat → Nat → Nat) (cI cZ : ClassId) (ad : Nat → Nat) (σ : St) (Hn B L C V M : Nat) (hI : Inv σ Hn B L C V M) (K : Nat) (hK4 : K ≤ 4) : Met l yX1_churchMay wsX1_churchMay rm_c_X1_churchMay (va_Pc [.ref (ad 0), .int (nI K)] (fun U => va_P (dC, dI) vwCl (mw cI cZ ad σ) U.heap ∧ va_K (dC, dI) vwCl (tyIZ cI cZ) U)) (vp_Si (fun r : Int32 => r = nI (churchN C K))) 0 0 (fun _ => False) := by
  refine z_pureI (cc := cX1_churchMay) (maxL := 2) (av := [.ref (ad 0), .int (nI K)]) (by decide) rfl (Nat.le_of_ble_eq_true rfl) ?_
  intro p e s m below meth c Q ls hx hb hml hown hts ⟨hP, hK⟩ hq hl
  have hown : s.vm.findClass RX1 = some m.cls := hown
  have hin1 : ∀ w ∈ wsX10, w ∈ wsX1_churchMay := fun _ h => List.mem_cons_of_mem _ (List.mem_append_right _ h)
  have L15 := hts (.fieldLink RX1 15 "BestBeast$Manor" "church" "I") (List.mem_of_getElem? (i := 1) rfl)
  obtain ⟨⟨iL, iC, iV, iM, iH, iB, jL, jC, jV, jM, jH, jB⟩, iK, iDe, iAl, iHe, iWo, iO1, iO2⟩ := id hI
  have hl : lv_has ls 2 [(0, .ref (ad 0)), (1, .int (nI K))] := hl
  refine lv_iload_n hx hb dX1_churchMay_0 rfl (lv_at hl 1 rfl) ?_
  refine lv_iconst (v := nI 2) hx hb dX1_churchMay_1 (by decide) ?_
  refine z_icmp_ne (a := K) (b := 2) (tgt := 12) hx hb (by omega) (by omega) dX1_churchMay_2 (by decide) (fun (c_2 : K ≠ 2) => ?_) (fun (c_2 : K = 2) => ?_)
  · skip
    refine lv_iload_n hx hb dX1_churchMay_12 rfl (lv_at hl 1 rfl) ?_
    refine lv_iconst (v := nI 4) hx hb dX1_churchMay_13 (by decide) ?_
    refine z_icmp_ne (a := K) (b := 4) (tgt := 30) hx hb (by omega) (by omega) dX1_churchMay_14 (by decide) (fun (c_14 : K ≠ 4) => ?_) (fun (c_14 : K = 4) => ?_)
    · skip
      refine lv_aload_n hx hb dX1_churchMay_30 rfl (lv_at hl 0 rfl) ?_
      refine va_get (D := (dC, dI)) (ci := 1) (v := .int (nI C)) (C := RX1) (T := TX1) (N := 17) hx hb hts hin1 hown hK hP 0 rfl rfl 1 (by decide) L15 (fun _ h9 => h9) (congrArg (fun z => some (Value.int z)) iC) dX1_churchMay_31 ?_
      exact hq (nI C) 34 ls dX1_churchMay_34 (show (nI C) = nI (churchN C K) from (by unfold churchN; rw [if_neg c_2, if_neg c_14]))
    · skip
      refine lv_iconst (v := nI 0) hx hb dX1_churchMay_17 (by decide) ?_
      refine lv_aload_n hx hb dX1_churchMay_18 rfl (lv_at hl 0 rfl) ?_
      refine va_get (D := (dC, dI)) (ci := 1) (v := .int (nI C)) (C := RX1) (T := TX1) (N := 17) hx hb hts hin1 hown hK hP 0 rfl rfl 1 (by decide) L15 (fun _ h9 => h9) (congrArg (fun z => some (Value.int z)) iC) dX1_churchMay_19 ?_
      refine lv_iconst (v := nI 2) hx hb dX1_churchMay_22 (by decide) ?_
      refine z_isub (v := (nI C) - (nI 2)) hx hb dX1_churchMay_23 (rfl) ?_
      refine va_mmax hx hb (by rw [hml]; exact hl.1.symm) hown (hts (.methodLink RX1 89 Lib.Math.max.name) (List.mem_of_getElem? (i := 2) rfl)) (hts (.static Lib.Math.max.name) (List.mem_of_getElem? (i := 3) rfl)) (hts (.initialized "java/lang/Math") (List.mem_of_getElem? (i := 4) rfl)) (hts (.code Lib.Math.max.name Lib.Math.max.code 2 (some .int)) (List.mem_of_getElem? (i := 5) rfl)) (Nat.le_of_ble_eq_true rfl) (Nat.le_of_ble_eq_true rfl) (Nat.zero_le _) (Nat.zero_le _) dX1_churchMay_24 ?_
      refine z_topi (v := nI (C - 2)) (mx2 C (by omega)) ?_
      refine lv_goto (tgt := 34) hx hb dX1_churchMay_27 (by decide) ?_
      exact hq (nI (C - 2)) 34 ls dX1_churchMay_34 (show (nI (C - 2)) = nI (churchN C K) from (by subst c_14; rfl))
  · skip
    refine lv_aload_n hx hb dX1_churchMay_5 rfl (lv_at hl 0 rfl) ?_
    refine va_get (D := (dC, dI)) (ci := 1) (v := .int (nI C)) (C := RX1) (T := TX1) (N := 17) hx hb hts hin1 hown hK hP 0 rfl rfl 1 (by decide) L15 (fun _ h9 => h9) (congrArg (fun z => some (Value.int z)) iC) dX1_churchMay_6 ?_
    refine lv_iconst (v := nI 1) hx hb dX1_churchMay_9 (by decide) ?_
    refine z_iadd (v := nI (C + 1)) hx hb dX1_churchMay_10 (nI_add _ _) ?_
    exact hq (nI (C + 1)) 11 ls dX1_churchMay_11 (show (nI (C + 1)) = nI (churchN C K) from (by subst c_2; rfl))
abbrev rm_c_X1_ownBits : Room := { frames := 1, cells := 0, slots := 0, locals := 21 }
set_option maxHeartbeats 4000000 in
set_option maxRecDepth 100000 in
theorem c_X1_ownBits (l : Launch) (dC : Nat → ClassId) (dI : Nat → Nat → Nat) (cI cZ : ClassId) (ad : Nat → Nat) (σ : St) (Hn B L C V M : Nat) (hI : Inv σ Hn B L C V M) (h : Int32) : Met l yX1_ownBits wsX1_ownBits rm_c_X1_ownBits (va_Pc [.ref (ad 0), .int h] (fun U => va_P (dC, dI) vwCl (mw cI cZ ad σ) U.heap ∧ va_K (dC, dI) vwCl (tyIZ cI cZ) U)) (vp_Si (fun r : Int32 => r = ownR σ h B)) 0 0 (fun _ => False) := by
  refine z_pureI (cc := cX1_ownBits) (maxL := 4) (av := [.ref (ad 0), .int h]) (by decide) rfl (Nat.le_of_ble_eq_true rfl) ?_
  intro p e s m below meth c Q ls hx hb hml hown hts ⟨hP, hK⟩ hq hl
  have hown : s.vm.findClass RX1 = some m.cls := hown
  have hin1 : ∀ w ∈ wsX10, w ∈ wsX1_ownBits := fun _ h => List.mem_cons_of_mem _ (List.mem_append_right _ h)
  have L41 := hts (.fieldLink RX1 41 "BestBeast$Manor" "beasts" "I") (List.mem_of_getElem? (i := 1) rfl)
  have L47 := hts (.fieldLink RX1 47 "BestBeast$Manor" "owner" "[I") (List.mem_of_getElem? (i := 2) rfl)
  obtain ⟨⟨iL, iC, iV, iM, iH, iB, jL, jC, jV, jM, jH, jB⟩, iK, iDe, iAl, iHe, iWo, iO1, iO2⟩ := id hI
  have hl : lv_has ls 4 [(0, .ref (ad 0)), (1, .int h)] := hl
  refine lv_iconst (v := nI 0) hx hb dX1_ownBits_0 (by decide) ?_
  refine lv_istore_n (lv' := [(2, .int (nI 0)), (0, .ref (ad 0)), (1, .int h)]) hx hb dX1_ownBits_1 rfl hl (by decide) rfl (fun ls hl => ?_)
  refine lv_iconst (v := nI 0) hx hb dX1_ownBits_2 (by decide) ?_
  refine lv_istore_n (lv' := [(3, .int (nI 0)), (2, .int (nI 0)), (0, .ref (ad 0)), (1, .int h)]) hx hb dX1_ownBits_3 rfl hl (by decide) rfl (fun ls hl => ?_)
  suffices hlp4 : ∀ (nf : Nat) (k : Nat) (x4_3 : Int32) (x4_2 : Int32) (ls : Array Slot), (k ≤ B) → x4_3 = nI k → x4_2 = ownR σ h k → lv_has ls 4 [(3, .int x4_3), (2, .int x4_2), (0, .ref (ad 0)), (1, .int h)] → B - k < nf → W p l e rm_c_X1_ownBits s m ([.ref (ad 0), .int h] : List Value).toArray below meth c s.heap [] 0 0 Q (F0 m 4 ls []) by
    exact hlp4 ((B - 0) + 1) 0 (nI 0) (nI 0) ls (by omega) rfl rfl (lv_sub hl [0, 1, 2, 3] rfl) (by omega)
  intro nf
  induction nf with
  | zero => intro k x4_3 x4_2 ls hk e4_3 e4_2 hl hn; omega
  | succ nf ih4 =>
    intro k x4_3 x4_2 ls hk e4_3 e4_2 hl hn
    subst e4_3
    subst e4_2
    refine lv_iload_n hx hb dX1_ownBits_4 rfl (lv_at hl 0 rfl) ?_
    refine lv_aload_n hx hb dX1_ownBits_5 rfl (lv_at hl 2 rfl) ?_
    refine va_get (D := (dC, dI)) (ci := 1) (v := .int (nI B)) (C := RX1) (T := TX1) (N := 17) hx hb hts hin1 hown hK hP 0 rfl rfl 9 (by decide) L41 (fun _ h9 => h9) (congrArg (fun z => some (Value.int z)) iB) dX1_ownBits_6 ?_
    refine z_icmp_ge (a := k) (b := B) (tgt := 42) hx hb (by omega) (by omega) dX1_ownBits_9 (by decide) (fun (c_9 : B ≤ k) => ?_) (fun (c_9 : k < B) => ?_)
    · skip
      refine lv_iload_n hx hb dX1_ownBits_42 rfl (lv_at hl 1 rfl) ?_
      exact hq (ownR σ h k) 43 ls dX1_ownBits_43 (show (ownR σ h k) = ownR σ h B from (by rw [show B = k by omega]))
    · skip
      refine lv_aload_n hx hb dX1_ownBits_12 rfl (lv_at hl 2 rfl) ?_
      refine lv_iload_n hx hb dX1_ownBits_13 rfl (lv_at hl 0 rfl) ?_
      refine z_callV (As := [.int (nI k)]) (rest := []) ⟨hx, hb, hml, hown, hts⟩ (c_X1_hasBeast l dC dI cI cZ ad σ Hn B L C V M hI.1 (nI k)) (cwV 1 hts gX1_ownBits_X1_hasBeast rfl rfl rfl (by decide +kernel) ⟨Nat.le_of_ble_eq_true rfl, Nat.le_of_ble_eq_true rfl⟩) hP hK (va_recv hK hP (ci := 1) (q0 := 0) rfl rfl) rfl hl.1 rfl (Nat.le_of_ble_eq_true rfl) ⟨Nat.zero_le _, Nat.zero_le _⟩ dX1_ownBits_14 (fun r hr => ?_)
      obtain rfl : r = zb (hasP B (nI k)) := hr
      refine z_ifeq_b (P := hasP B (nI k)) (tgt := 36) hx hb dX1_ownBits_17 (by decide) (fun (z9 : ¬ (hasP B (nI k))) => absurd (hasP_nI c_9) z9) (fun (c_17 : hasP B (nI k)) => ?_)
      refine lv_aload_n hx hb dX1_ownBits_20 rfl (lv_at hl 2 rfl) ?_
      refine va_get (D := (dC, dI)) (ci := 1) (v := .ref (ad 6)) (C := RX1) (T := TX1) (N := 17) hx hb hts hin1 hown hK hP 0 rfl rfl 11 (by decide) L47 (fun _ h9 => h9) rfl dX1_ownBits_21 ?_
      refine lv_iload_n hx hb dX1_ownBits_24 rfl (lv_at hl 0 rfl) ?_
      refine z_iald (D := (dC, dI)) hx hb hK hP 6 0 rfl rfl k (rfl) (by omega) (by omega) (v := (σ 6) k) (rfl) dX1_ownBits_25 ?_
      refine lv_iload_n hx hb dX1_ownBits_26 rfl (lv_at hl 3 rfl) ?_
      refine lv_icmp_ne (tgt := 36) hx hb dX1_ownBits_27 (by decide) (fun (c_27 : ¬ ((σ 6) k) = h) => ?_) (fun (c_27 : ((σ 6) k) = h) => ?_)
      · skip
        refine lv_iinc (v := nI (k + 1)) (lv' := [(3, .int (nI (k + 1))), (2, .int (ownR σ h k)), (0, .ref (ad 0)), (1, .int h)]) hx hb dX1_ownBits_36 hl (k := 0) rfl (nI_1 _) (by decide) rfl (fun ls hl => ?_)
        refine lv_goto (tgt := 4) hx hb dX1_ownBits_39 (by decide) ?_
        exact ih4 (k + 1) (nI (k + 1)) (ownR σ h k) ls (by omega) (show nI (k + 1) = nI (k + 1) from rfl) (show ownR σ h k = ownR σ h (k + 1) from ownR_n c_27) (lv_sub hl [0, 1, 2, 3] rfl) (by omega)
      · skip
        refine lv_iload_n hx hb dX1_ownBits_30 rfl (lv_at hl 1 rfl) ?_
        refine lv_iconst (v := nI 1) hx hb dX1_ownBits_31 (by decide) ?_
        refine lv_iload_n hx hb dX1_ownBits_32 rfl (lv_at hl 0 rfl) ?_
        refine z_ishl (v := zbit k) hx hb dX1_ownBits_33 (rfl) ?_
        refine z_ior (v := (ownR σ h k) ||| (zbit k)) hx hb dX1_ownBits_34 (rfl) ?_
        refine lv_istore_n (lv' := [(2, .int ((ownR σ h k) ||| (zbit k))), (3, .int (nI k)), (0, .ref (ad 0)), (1, .int h)]) hx hb dX1_ownBits_35 rfl hl (by decide) rfl (fun ls hl => ?_)
        refine lv_iinc (v := nI (k + 1)) (lv' := [(3, .int (nI (k + 1))), (2, .int ((ownR σ h k) ||| (zbit k))), (0, .ref (ad 0)), (1, .int h)]) hx hb dX1_ownBits_36 hl (k := 1) rfl (nI_1 _) (by decide) rfl (fun ls hl => ?_)
        refine lv_goto (tgt := 4) hx hb dX1_ownBits_39 (by decide) ?_
        exact ih4 (k + 1) (nI (k + 1)) ((ownR σ h k) ||| (zbit k)) ls (by omega) (show nI (k + 1) = nI (k + 1) from rfl) (show (ownR σ h k) ||| (zbit k) = ownR σ h (k + 1) from ownR_y c_27) (lv_sub hl [0, 1, 2, 3] rfl) (by omega)
abbrev rm_c_X1_heldLater : Room := { frames := 2, cells := 0, slots := 0, locals := 44 }
set_option maxHeartbeats 4000000 in
set_option maxRecDepth 100000 in
theorem c_X1_heldLater (l : Launch) (dC : Nat → ClassId) (dI : Nat → Nat → Nat) (cI cZ : ClassId) (ad : Nat → Nat) (σ : St) (Hn B L C V M : Nat) (hI : Inv σ Hn B L C V M) (h later gift : Int32) : Met l yX1_heldLater wsX1_heldLater rm_c_X1_heldLater (va_Pc [.ref (ad 0), .int h, .int later, .int gift] (fun U => va_P (dC, dI) vwCl (mw cI cZ ad σ) U.heap ∧ va_K (dC, dI) vwCl (tyIZ cI cZ) U)) (vp_Si (fun r : Int32 => r = heldL σ B h later gift)) 0 0 (fun _ => False) := by
  refine z_pureI (cc := cX1_heldLater) (maxL := 6) (av := [.ref (ad 0), .int h, .int later, .int gift]) (by decide) rfl (Nat.le_of_ble_eq_true rfl) ?_
  intro p e s m below meth c Q ls hx hb hml hown hts ⟨hP, hK⟩ hq hl
  have hown : s.vm.findClass RX1 = some m.cls := hown
  have hin1 : ∀ w ∈ wsX10, w ∈ wsX1_heldLater := fun _ h => List.mem_cons_of_mem _ (List.mem_append_right _ h)
  have L18 := hts (.fieldLink RX1 18 "BestBeast$Manor" "voidYears" "I") (List.mem_of_getElem? (i := 1) rfl)
  have L41 := hts (.fieldLink RX1 41 "BestBeast$Manor" "beasts" "I") (List.mem_of_getElem? (i := 2) rfl)
  have L50 := hts (.fieldLink RX1 50 "BestBeast$Manor" "giver" "[I") (List.mem_of_getElem? (i := 3) rfl)
  have L59 := hts (.fieldLink RX1 59 "BestBeast$Manor" "yearNow" "I") (List.mem_of_getElem? (i := 4) rfl)
  have L53 := hts (.fieldLink RX1 53 "BestBeast$Manor" "givenIn" "[I") (List.mem_of_getElem? (i := 5) rfl)
  obtain ⟨⟨iL, iC, iV, iM, iH, iB, jL, jC, jV, jM, jH, jB⟩, iK, iDe, iAl, iHe, iWo, iO1, iO2⟩ := id hI
  have hl : lv_has ls 6 [(0, .ref (ad 0)), (1, .int h), (2, .int later), (3, .int gift)] := hl
  refine lv_aload_n hx hb dX1_heldLater_0 rfl (lv_at hl 0 rfl) ?_
  refine lv_iload_n hx hb dX1_heldLater_1 rfl (lv_at hl 1 rfl) ?_
  refine z_callV (As := [.int h]) (rest := []) ⟨hx, hb, hml, hown, hts⟩ (c_X1_ownBits l dC dI cI cZ ad σ Hn B L C V M hI h) (cwV 1 hts gX1_heldLater_X1_ownBits rfl rfl rfl (by decide +kernel) ⟨Nat.le_of_ble_eq_true rfl, Nat.le_of_ble_eq_true rfl⟩) hP hK (va_recv hK hP (ci := 1) (q0 := 0) rfl rfl) rfl hl.1 rfl (Nat.le_of_ble_eq_true rfl) ⟨Nat.zero_le _, Nat.zero_le _⟩ dX1_heldLater_2 (fun r hr => ?_)
  obtain rfl : r = ownR σ h B := hr
  refine lv_istore (lv' := [(4, .int (ownR σ h B)), (0, .ref (ad 0)), (1, .int h), (2, .int later), (3, .int gift)]) hx hb dX1_heldLater_5 hl (by decide) rfl (fun ls hl => ?_)
  refine lv_iload_n hx hb dX1_heldLater_7 rfl (lv_at hl 3 rfl) ?_
  refine lv_aload_n hx hb dX1_heldLater_8 rfl (lv_at hl 1 rfl) ?_
  refine va_get (D := (dC, dI)) (ci := 1) (v := .int (σ 0 2)) (C := RX1) (T := TX1) (N := 17) hx hb hts hin1 hown hK hP 0 rfl rfl 2 (by decide) L18 (fun _ h9 => h9) rfl dX1_heldLater_9 ?_
  refine lv_icmp_lt (tgt := 23) hx hb dX1_heldLater_12 (by decide) (fun (c_12 : later < (σ 0 2)) => ?_) (fun (c_12 : ¬ (later < (σ 0 2))) => ?_)
  · skip
    refine lv_iconst (v := nI 0) hx hb dX1_heldLater_23 (by decide) ?_
    refine lv_istore (lv' := [(5, .int (nI 0)), (4, .int (ownR σ h B)), (0, .ref (ad 0)), (1, .int h), (2, .int later), (3, .int gift)]) hx hb dX1_heldLater_24 hl (by decide) rfl (fun ls hl => ?_)
    suffices hlp26 : ∀ (nf : Nat) (k : Nat) (x26_5 : Int32) (x26_4 : Int32) (ls : Array Slot), (k ≤ B) → x26_5 = nI k → x26_4 = heldR σ h (σ 0 6 + later) (ownR σ h B) k → lv_has ls 6 [(5, .int x26_5), (4, .int x26_4), (0, .ref (ad 0)), (1, .int h), (2, .int later), (3, .int gift)] → B - k < nf → W p l e rm_c_X1_heldLater s m ([.ref (ad 0), .int h, .int later, .int gift] : List Value).toArray below meth c s.heap [] 0 0 Q (F0 m 26 ls []) by
      exact hlp26 ((B - 0) + 1) 0 (nI 0) (ownR σ h B) ls (by omega) rfl rfl (lv_sub hl [0, 1, 2, 3, 4, 5] rfl) (by omega)
    intro nf
    induction nf with
    | zero => intro k x26_5 x26_4 ls hk e26_5 e26_4 hl hn; omega
    | succ nf ih26 =>
      intro k x26_5 x26_4 ls hk e26_5 e26_4 hl hn
      subst e26_5
      subst e26_4
      refine lv_iload hx hb dX1_heldLater_26 (lv_at hl 0 rfl) ?_
      refine lv_aload_n hx hb dX1_heldLater_28 rfl (lv_at hl 2 rfl) ?_
      refine va_get (D := (dC, dI)) (ci := 1) (v := .int (nI B)) (C := RX1) (T := TX1) (N := 17) hx hb hts hin1 hown hK hP 0 rfl rfl 9 (by decide) L41 (fun _ h9 => h9) (congrArg (fun z => some (Value.int z)) iB) dX1_heldLater_29 ?_
      refine z_icmp_ge (a := k) (b := B) (tgt := 91) hx hb (by omega) (by omega) dX1_heldLater_32 (by decide) (fun (c_32 : B ≤ k) => ?_) (fun (c_32 : k < B) => ?_)
      · skip
        refine lv_iload hx hb dX1_heldLater_91 (lv_at hl 1 rfl) ?_
        exact hq (heldR σ h (σ 0 6 + later) (ownR σ h B) k) 93 ls dX1_heldLater_93 (show (heldR σ h (σ 0 6 + later) (ownR σ h B) k) = heldL σ B h later gift from (by unfold heldL; rw [show B = k by omega, if_neg (Int32.not_le.mpr c_12)]))
      · skip
        refine lv_aload_n hx hb dX1_heldLater_35 rfl (lv_at hl 2 rfl) ?_
        refine lv_iload hx hb dX1_heldLater_36 (lv_at hl 0 rfl) ?_
        refine z_callV (As := [.int (nI k)]) (rest := []) ⟨hx, hb, hml, hown, hts⟩ (c_X1_hasBeast l dC dI cI cZ ad σ Hn B L C V M hI.1 (nI k)) (cwV 1 hts gX1_heldLater_X1_hasBeast rfl rfl rfl (by decide +kernel) ⟨Nat.le_of_ble_eq_true rfl, Nat.le_of_ble_eq_true rfl⟩) hP hK (va_recv hK hP (ci := 1) (q0 := 0) rfl rfl) rfl hl.1 rfl (Nat.le_of_ble_eq_true rfl) ⟨Nat.zero_le _, Nat.zero_le _⟩ dX1_heldLater_38 (fun r hr => ?_)
        obtain rfl : r = zb (hasP B (nI k)) := hr
        refine z_ifeq_b (P := hasP B (nI k)) (tgt := 85) hx hb dX1_heldLater_41 (by decide) (fun (z9 : ¬ (hasP B (nI k))) => absurd (hasP_nI c_32) z9) (fun (c_41 : hasP B (nI k)) => ?_)
        refine lv_aload_n hx hb dX1_heldLater_44 rfl (lv_at hl 2 rfl) ?_
        refine va_get (D := (dC, dI)) (ci := 1) (v := .ref (ad 7)) (C := RX1) (T := TX1) (N := 17) hx hb hts hin1 hown hK hP 0 rfl rfl 12 (by decide) L50 (fun _ h9 => h9) rfl dX1_heldLater_45 ?_
        refine lv_iload hx hb dX1_heldLater_48 (lv_at hl 0 rfl) ?_
        refine z_iald (D := (dC, dI)) hx hb hK hP 7 0 rfl rfl k (rfl) (by omega) (by omega) (v := (σ 7) k) (rfl) dX1_heldLater_50 ?_
        refine lv_iload_n hx hb dX1_heldLater_51 rfl (lv_at hl 3 rfl) ?_
        refine lv_icmp_ne (tgt := 85) hx hb dX1_heldLater_52 (by decide) (fun (c_52 : ¬ ((σ 7) k) = h) => ?_) (fun (c_52 : ((σ 7) k) = h) => ?_)
        · skip
          refine lv_iinc (v := nI (k + 1)) (lv' := [(5, .int (nI (k + 1))), (4, .int (heldR σ h (σ 0 6 + later) (ownR σ h B) k)), (0, .ref (ad 0)), (1, .int h), (2, .int later), (3, .int gift)]) hx hb dX1_heldLater_85 hl (k := 0) rfl (nI_1 _) (by decide) rfl (fun ls hl => ?_)
          refine lv_goto (tgt := 26) hx hb dX1_heldLater_88 (by decide) ?_
          exact ih26 (k + 1) (nI (k + 1)) (heldR σ h (σ 0 6 + later) (ownR σ h B) k) ls (by omega) (show nI (k + 1) = nI (k + 1) from rfl) (show heldR σ h (σ 0 6 + later) (ownR σ h B) k = heldR σ h (σ 0 6 + later) (ownR σ h B) (k + 1) from heldR_n (fun z => c_52 z.1)) (lv_sub hl [0, 1, 2, 3, 4, 5] rfl) (by omega)
        · skip
          refine lv_aload_n hx hb dX1_heldLater_55 rfl (lv_at hl 2 rfl) ?_
          refine va_get (D := (dC, dI)) (ci := 1) (v := .int (σ 0 6)) (C := RX1) (T := TX1) (N := 17) hx hb hts hin1 hown hK hP 0 rfl rfl 15 (by decide) L59 (fun _ h9 => h9) rfl dX1_heldLater_56 ?_
          refine lv_iload_n hx hb dX1_heldLater_59 rfl (lv_at hl 4 rfl) ?_
          refine z_iadd (v := (σ 0 6) + later) hx hb dX1_heldLater_60 (rfl) ?_
          refine lv_aload_n hx hb dX1_heldLater_61 rfl (lv_at hl 2 rfl) ?_
          refine va_get (D := (dC, dI)) (ci := 1) (v := .ref (ad 8)) (C := RX1) (T := TX1) (N := 17) hx hb hts hin1 hown hK hP 0 rfl rfl 13 (by decide) L53 (fun _ h9 => h9) rfl dX1_heldLater_62 ?_
          refine lv_iload hx hb dX1_heldLater_65 (lv_at hl 0 rfl) ?_
          refine z_iald (D := (dC, dI)) hx hb hK hP 8 0 rfl rfl k (rfl) (by omega) (by omega) (v := (σ 8) k) (rfl) dX1_heldLater_67 ?_
          refine z_isub (v := ((σ 0 6) + later) - ((σ 8) k)) hx hb dX1_heldLater_68 (rfl) ?_
          refine lv_aload_n hx hb dX1_heldLater_69 rfl (lv_at hl 2 rfl) ?_
          refine va_get (D := (dC, dI)) (ci := 1) (v := .int (σ 0 2)) (C := RX1) (T := TX1) (N := 17) hx hb hts hin1 hown hK hP 0 rfl rfl 2 (by decide) L18 (fun _ h9 => h9) rfl dX1_heldLater_70 ?_
          refine lv_icmp_ge (tgt := 85) hx hb dX1_heldLater_73 (by decide) (fun (c_73 : (σ 0 2) ≤ (((σ 0 6) + later) - ((σ 8) k))) => ?_) (fun (c_73 : ¬ ((σ 0 2) ≤ (((σ 0 6) + later) - ((σ 8) k)))) => ?_)
          · skip
            refine lv_iinc (v := nI (k + 1)) (lv' := [(5, .int (nI (k + 1))), (4, .int (heldR σ h (σ 0 6 + later) (ownR σ h B) k)), (0, .ref (ad 0)), (1, .int h), (2, .int later), (3, .int gift)]) hx hb dX1_heldLater_85 hl (k := 0) rfl (nI_1 _) (by decide) rfl (fun ls hl => ?_)
            refine lv_goto (tgt := 26) hx hb dX1_heldLater_88 (by decide) ?_
            exact ih26 (k + 1) (nI (k + 1)) (heldR σ h (σ 0 6 + later) (ownR σ h B) k) ls (by omega) (show nI (k + 1) = nI (k + 1) from rfl) (show heldR σ h (σ 0 6 + later) (ownR σ h B) k = heldR σ h (σ 0 6 + later) (ownR σ h B) (k + 1) from heldR_n (fun z => Int32.not_lt.mpr c_73 z.2)) (lv_sub hl [0, 1, 2, 3, 4, 5] rfl) (by omega)
          · skip
            refine lv_iload hx hb dX1_heldLater_76 (lv_at hl 1 rfl) ?_
            refine lv_iconst (v := nI 1) hx hb dX1_heldLater_78 (by decide) ?_
            refine lv_iload hx hb dX1_heldLater_79 (lv_at hl 0 rfl) ?_
            refine z_ishl (v := zbit k) hx hb dX1_heldLater_81 (rfl) ?_
            refine z_ior (v := (heldR σ h (σ 0 6 + later) (ownR σ h B) k) ||| (zbit k)) hx hb dX1_heldLater_82 (rfl) ?_
            refine lv_istore (lv' := [(4, .int ((heldR σ h (σ 0 6 + later) (ownR σ h B) k) ||| (zbit k))), (5, .int (nI k)), (0, .ref (ad 0)), (1, .int h), (2, .int later), (3, .int gift)]) hx hb dX1_heldLater_83 hl (by decide) rfl (fun ls hl => ?_)
            refine lv_iinc (v := nI (k + 1)) (lv' := [(5, .int (nI (k + 1))), (4, .int ((heldR σ h (σ 0 6 + later) (ownR σ h B) k) ||| (zbit k))), (0, .ref (ad 0)), (1, .int h), (2, .int later), (3, .int gift)]) hx hb dX1_heldLater_85 hl (k := 1) rfl (nI_1 _) (by decide) rfl (fun ls hl => ?_)
            refine lv_goto (tgt := 26) hx hb dX1_heldLater_88 (by decide) ?_
            exact ih26 (k + 1) (nI (k + 1)) ((heldR σ h (σ 0 6 + later) (ownR σ h B) k) ||| (zbit k)) ls (by omega) (show nI (k + 1) = nI (k + 1) from rfl) (show (heldR σ h (σ 0 6 + later) (ownR σ h B) k) ||| (zbit k) = heldR σ h (σ 0 6 + later) (ownR σ h B) (k + 1) from heldR_y c_52 (Int32.not_le.mp c_73)) (lv_sub hl [0, 1, 2, 3, 4, 5] rfl) (by omega)
  · skip
    refine lv_iload hx hb dX1_heldLater_15 (lv_at hl 0 rfl) ?_
    refine lv_iload_n hx hb dX1_heldLater_17 rfl (lv_at hl 4 rfl) ?_
    refine lv_iconst (v := (-1)) hx hb dX1_heldLater_18 (by decide) ?_
    refine z_ixor (v := znot gift) hx hb dX1_heldLater_19 (rfl) ?_
    refine z_iand (v := (ownR σ h B) &&& (znot gift)) hx hb dX1_heldLater_20 (rfl) ?_
    refine lv_istore (lv' := [(4, .int ((ownR σ h B) &&& (znot gift))), (0, .ref (ad 0)), (1, .int h), (2, .int later), (3, .int gift)]) hx hb dX1_heldLater_21 hl (by decide) rfl (fun ls hl => ?_)
    refine lv_iconst (v := nI 0) hx hb dX1_heldLater_23 (by decide) ?_
    refine lv_istore (lv' := [(5, .int (nI 0)), (4, .int ((ownR σ h B) &&& (znot gift))), (0, .ref (ad 0)), (1, .int h), (2, .int later), (3, .int gift)]) hx hb dX1_heldLater_24 hl (by decide) rfl (fun ls hl => ?_)
    suffices hlp26 : ∀ (nf : Nat) (k : Nat) (x26_5 : Int32) (x26_4 : Int32) (ls : Array Slot), (k ≤ B) → x26_5 = nI k → x26_4 = heldR σ h (σ 0 6 + later) ((ownR σ h B) &&& (znot gift)) k → lv_has ls 6 [(5, .int x26_5), (4, .int x26_4), (0, .ref (ad 0)), (1, .int h), (2, .int later), (3, .int gift)] → B - k < nf → W p l e rm_c_X1_heldLater s m ([.ref (ad 0), .int h, .int later, .int gift] : List Value).toArray below meth c s.heap [] 0 0 Q (F0 m 26 ls []) by
      exact hlp26 ((B - 0) + 1) 0 (nI 0) ((ownR σ h B) &&& (znot gift)) ls (by omega) rfl rfl (lv_sub hl [0, 1, 2, 3, 4, 5] rfl) (by omega)
    intro nf
    induction nf with
    | zero => intro k x26_5 x26_4 ls hk e26_5 e26_4 hl hn; omega
    | succ nf ih26 =>
      intro k x26_5 x26_4 ls hk e26_5 e26_4 hl hn
      subst e26_5
      subst e26_4
      refine lv_iload hx hb dX1_heldLater_26 (lv_at hl 0 rfl) ?_
      refine lv_aload_n hx hb dX1_heldLater_28 rfl (lv_at hl 2 rfl) ?_
      refine va_get (D := (dC, dI)) (ci := 1) (v := .int (nI B)) (C := RX1) (T := TX1) (N := 17) hx hb hts hin1 hown hK hP 0 rfl rfl 9 (by decide) L41 (fun _ h9 => h9) (congrArg (fun z => some (Value.int z)) iB) dX1_heldLater_29 ?_
      refine z_icmp_ge (a := k) (b := B) (tgt := 91) hx hb (by omega) (by omega) dX1_heldLater_32 (by decide) (fun (c_32 : B ≤ k) => ?_) (fun (c_32 : k < B) => ?_)
      · skip
        refine lv_iload hx hb dX1_heldLater_91 (lv_at hl 1 rfl) ?_
        exact hq (heldR σ h (σ 0 6 + later) ((ownR σ h B) &&& (znot gift)) k) 93 ls dX1_heldLater_93 (show (heldR σ h (σ 0 6 + later) ((ownR σ h B) &&& (znot gift)) k) = heldL σ B h later gift from (by unfold heldL; rw [show B = k by omega, if_pos (Int32.not_lt.mp c_12)]))
      · skip
        refine lv_aload_n hx hb dX1_heldLater_35 rfl (lv_at hl 2 rfl) ?_
        refine lv_iload hx hb dX1_heldLater_36 (lv_at hl 0 rfl) ?_
        refine z_callV (As := [.int (nI k)]) (rest := []) ⟨hx, hb, hml, hown, hts⟩ (c_X1_hasBeast l dC dI cI cZ ad σ Hn B L C V M hI.1 (nI k)) (cwV 1 hts gX1_heldLater_X1_hasBeast rfl rfl rfl (by decide +kernel) ⟨Nat.le_of_ble_eq_true rfl, Nat.le_of_ble_eq_true rfl⟩) hP hK (va_recv hK hP (ci := 1) (q0 := 0) rfl rfl) rfl hl.1 rfl (Nat.le_of_ble_eq_true rfl) ⟨Nat.zero_le _, Nat.zero_le _⟩ dX1_heldLater_38 (fun r hr => ?_)
        obtain rfl : r = zb (hasP B (nI k)) := hr
        refine z_ifeq_b (P := hasP B (nI k)) (tgt := 85) hx hb dX1_heldLater_41 (by decide) (fun (z9 : ¬ (hasP B (nI k))) => absurd (hasP_nI c_32) z9) (fun (c_41 : hasP B (nI k)) => ?_)
        refine lv_aload_n hx hb dX1_heldLater_44 rfl (lv_at hl 2 rfl) ?_
        refine va_get (D := (dC, dI)) (ci := 1) (v := .ref (ad 7)) (C := RX1) (T := TX1) (N := 17) hx hb hts hin1 hown hK hP 0 rfl rfl 12 (by decide) L50 (fun _ h9 => h9) rfl dX1_heldLater_45 ?_
        refine lv_iload hx hb dX1_heldLater_48 (lv_at hl 0 rfl) ?_
        refine z_iald (D := (dC, dI)) hx hb hK hP 7 0 rfl rfl k (rfl) (by omega) (by omega) (v := (σ 7) k) (rfl) dX1_heldLater_50 ?_
        refine lv_iload_n hx hb dX1_heldLater_51 rfl (lv_at hl 3 rfl) ?_
        refine lv_icmp_ne (tgt := 85) hx hb dX1_heldLater_52 (by decide) (fun (c_52 : ¬ ((σ 7) k) = h) => ?_) (fun (c_52 : ((σ 7) k) = h) => ?_)
        · skip
          refine lv_iinc (v := nI (k + 1)) (lv' := [(5, .int (nI (k + 1))), (4, .int (heldR σ h (σ 0 6 + later) ((ownR σ h B) &&& (znot gift)) k)), (0, .ref (ad 0)), (1, .int h), (2, .int later), (3, .int gift)]) hx hb dX1_heldLater_85 hl (k := 0) rfl (nI_1 _) (by decide) rfl (fun ls hl => ?_)
          refine lv_goto (tgt := 26) hx hb dX1_heldLater_88 (by decide) ?_
          exact ih26 (k + 1) (nI (k + 1)) (heldR σ h (σ 0 6 + later) ((ownR σ h B) &&& (znot gift)) k) ls (by omega) (show nI (k + 1) = nI (k + 1) from rfl) (show heldR σ h (σ 0 6 + later) ((ownR σ h B) &&& (znot gift)) k = heldR σ h (σ 0 6 + later) ((ownR σ h B) &&& (znot gift)) (k + 1) from heldR_n (fun z => c_52 z.1)) (lv_sub hl [0, 1, 2, 3, 4, 5] rfl) (by omega)
        · skip
          refine lv_aload_n hx hb dX1_heldLater_55 rfl (lv_at hl 2 rfl) ?_
          refine va_get (D := (dC, dI)) (ci := 1) (v := .int (σ 0 6)) (C := RX1) (T := TX1) (N := 17) hx hb hts hin1 hown hK hP 0 rfl rfl 15 (by decide) L59 (fun _ h9 => h9) rfl dX1_heldLater_56 ?_
          refine lv_iload_n hx hb dX1_heldLater_59 rfl (lv_at hl 4 rfl) ?_
          refine z_iadd (v := (σ 0 6) + later) hx hb dX1_heldLater_60 (rfl) ?_
          refine lv_aload_n hx hb dX1_heldLater_61 rfl (lv_at hl 2 rfl) ?_
          refine va_get (D := (dC, dI)) (ci := 1) (v := .ref (ad 8)) (C := RX1) (T := TX1) (N := 17) hx hb hts hin1 hown hK hP 0 rfl rfl 13 (by decide) L53 (fun _ h9 => h9) rfl dX1_heldLater_62 ?_
          refine lv_iload hx hb dX1_heldLater_65 (lv_at hl 0 rfl) ?_
          refine z_iald (D := (dC, dI)) hx hb hK hP 8 0 rfl rfl k (rfl) (by omega) (by omega) (v := (σ 8) k) (rfl) dX1_heldLater_67 ?_
          refine z_isub (v := ((σ 0 6) + later) - ((σ 8) k)) hx hb dX1_heldLater_68 (rfl) ?_
          refine lv_aload_n hx hb dX1_heldLater_69 rfl (lv_at hl 2 rfl) ?_
          refine va_get (D := (dC, dI)) (ci := 1) (v := .int (σ 0 2)) (C := RX1) (T := TX1) (N := 17) hx hb hts hin1 hown hK hP 0 rfl rfl 2 (by decide) L18 (fun _ h9 => h9) rfl dX1_heldLater_70 ?_
          refine lv_icmp_ge (tgt := 85) hx hb dX1_heldLater_73 (by decide) (fun (c_73 : (σ 0 2) ≤ (((σ 0 6) + later) - ((σ 8) k))) => ?_) (fun (c_73 : ¬ ((σ 0 2) ≤ (((σ 0 6) + later) - ((σ 8) k)))) => ?_)
          · skip
            refine lv_iinc (v := nI (k + 1)) (lv' := [(5, .int (nI (k + 1))), (4, .int (heldR σ h (σ 0 6 + later) ((ownR σ h B) &&& (znot gift)) k)), (0, .ref (ad 0)), (1, .int h), (2, .int later), (3, .int gift)]) hx hb dX1_heldLater_85 hl (k := 0) rfl (nI_1 _) (by decide) rfl (fun ls hl => ?_)
            refine lv_goto (tgt := 26) hx hb dX1_heldLater_88 (by decide) ?_
            exact ih26 (k + 1) (nI (k + 1)) (heldR σ h (σ 0 6 + later) ((ownR σ h B) &&& (znot gift)) k) ls (by omega) (show nI (k + 1) = nI (k + 1) from rfl) (show heldR σ h (σ 0 6 + later) ((ownR σ h B) &&& (znot gift)) k = heldR σ h (σ 0 6 + later) ((ownR σ h B) &&& (znot gift)) (k + 1) from heldR_n (fun z => Int32.not_lt.mpr c_73 z.2)) (lv_sub hl [0, 1, 2, 3, 4, 5] rfl) (by omega)
          · skip
            refine lv_iload hx hb dX1_heldLater_76 (lv_at hl 1 rfl) ?_
            refine lv_iconst (v := nI 1) hx hb dX1_heldLater_78 (by decide) ?_
            refine lv_iload hx hb dX1_heldLater_79 (lv_at hl 0 rfl) ?_
            refine z_ishl (v := zbit k) hx hb dX1_heldLater_81 (rfl) ?_
            refine z_ior (v := (heldR σ h (σ 0 6 + later) ((ownR σ h B) &&& (znot gift)) k) ||| (zbit k)) hx hb dX1_heldLater_82 (rfl) ?_
            refine lv_istore (lv' := [(4, .int ((heldR σ h (σ 0 6 + later) ((ownR σ h B) &&& (znot gift)) k) ||| (zbit k))), (5, .int (nI k)), (0, .ref (ad 0)), (1, .int h), (2, .int later), (3, .int gift)]) hx hb dX1_heldLater_83 hl (by decide) rfl (fun ls hl => ?_)
            refine lv_iinc (v := nI (k + 1)) (lv' := [(5, .int (nI (k + 1))), (4, .int ((heldR σ h (σ 0 6 + later) ((ownR σ h B) &&& (znot gift)) k) ||| (zbit k))), (0, .ref (ad 0)), (1, .int h), (2, .int later), (3, .int gift)]) hx hb dX1_heldLater_85 hl (k := 1) rfl (nI_1 _) (by decide) rfl (fun ls hl => ?_)
            refine lv_goto (tgt := 26) hx hb dX1_heldLater_88 (by decide) ?_
            exact ih26 (k + 1) (nI (k + 1)) ((heldR σ h (σ 0 6 + later) ((ownR σ h B) &&& (znot gift)) k) ||| (zbit k)) ls (by omega) (show nI (k + 1) = nI (k + 1) from rfl) (show (heldR σ h (σ 0 6 + later) ((ownR σ h B) &&& (znot gift)) k) ||| (zbit k) = heldR σ h (σ 0 6 + later) ((ownR σ h B) &&& (znot gift)) (k + 1) from heldR_y c_52 (Int32.not_le.mp c_73)) (lv_sub hl [0, 1, 2, 3, 4, 5] rfl) (by omega)
abbrev rm_c_X1_heldBits : Room := { frames := 3, cells := 0, slots := 0, locals := 69 }
set_option maxHeartbeats 4000000 in
set_option maxRecDepth 100000 in
theorem c_X1_heldBits (l : Launch) (dC : Nat → ClassId) (dI : Nat → Nat → Nat) (cI cZ : ClassId) (ad : Nat → Nat) (σ : St) (Hn B L C V M : Nat) (hI : Inv σ Hn B L C V M) (h : Int32) : Met l yX1_heldBits wsX1_heldBits rm_c_X1_heldBits (va_Pc [.ref (ad 0), .int h] (fun U => va_P (dC, dI) vwCl (mw cI cZ ad σ) U.heap ∧ va_K (dC, dI) vwCl (tyIZ cI cZ) U)) (vp_Si (fun r : Int32 => r = heldF σ B h)) 0 0 (fun _ => False) := by
  refine z_pureI (cc := cX1_heldBits) (maxL := 2) (av := [.ref (ad 0), .int h]) (by decide) rfl (Nat.le_of_ble_eq_true rfl) ?_
  intro p e s m below meth c Q ls hx hb hml hown hts ⟨hP, hK⟩ hq hl
  have hown : s.vm.findClass RX1 = some m.cls := hown
  have hin1 : ∀ w ∈ wsX10, w ∈ wsX1_heldBits := fun _ h => List.mem_cons_of_mem _ (List.mem_append_right _ h)
  obtain ⟨⟨iL, iC, iV, iM, iH, iB, jL, jC, jV, jM, jH, jB⟩, iK, iDe, iAl, iHe, iWo, iO1, iO2⟩ := id hI
  have hl : lv_has ls 2 [(0, .ref (ad 0)), (1, .int h)] := hl
  refine lv_aload_n hx hb dX1_heldBits_0 rfl (lv_at hl 0 rfl) ?_
  refine lv_iload_n hx hb dX1_heldBits_1 rfl (lv_at hl 1 rfl) ?_
  refine lv_iconst (v := nI 0) hx hb dX1_heldBits_2 (by decide) ?_
  refine lv_iconst (v := nI 0) hx hb dX1_heldBits_3 (by decide) ?_
  refine z_callV (As := [.int h, .int (nI 0), .int (nI 0)]) (rest := []) ⟨hx, hb, hml, hown, hts⟩ (c_X1_heldLater l dC dI cI cZ ad σ Hn B L C V M hI h (nI 0) (nI 0)) (cwV 3 hts gX1_heldBits_X1_heldLater rfl rfl rfl (by decide +kernel) ⟨Nat.le_of_ble_eq_true rfl, Nat.le_of_ble_eq_true rfl⟩) hP hK (va_recv hK hP (ci := 1) (q0 := 0) rfl rfl) rfl hl.1 rfl (Nat.le_of_ble_eq_true rfl) ⟨Nat.zero_le _, Nat.zero_le _⟩ dX1_heldBits_4 (fun r hr => ?_)
  obtain rfl : r = heldL σ B h (nI 0) (nI 0) := hr
  refine z_topi (v := heldF σ B h) (heldL_0 σ B h) ?_
  exact hq (heldF σ B h) 7 ls dX1_heldBits_7 (show (heldF σ B h) = heldF σ B h from rfl)
abbrev rm_c_X1_bestOf : Room := { frames := 1, cells := 0, slots := 0, locals := 21 }
set_option maxHeartbeats 4000000 in
set_option maxRecDepth 100000 in
theorem c_X1_bestOf (l : Launch) (dC : Nat → ClassId) (dI : Nat → Nat → Nat) (cI cZ : ClassId) (ad : Nat → Nat) (σ : St) (Hn B L C V M : Nat) (hI : Inv σ Hn B L C V M) (set : Int32) : Met l yX1_bestOf wsX1_bestOf rm_c_X1_bestOf (va_Pc [.ref (ad 0), .int set] (fun U => va_P (dC, dI) vwCl (mw cI cZ ad σ) U.heap ∧ va_K (dC, dI) vwCl (tyIZ cI cZ) U)) (vp_Si (fun r : Int32 => r = bestR σ set B)) 0 0 (fun _ => False) := by
  refine z_pureI (cc := cX1_bestOf) (maxL := 5) (av := [.ref (ad 0), .int set]) (by decide) rfl (Nat.le_of_ble_eq_true rfl) ?_
  intro p e s m below meth c Q ls hx hb hml hown hts ⟨hP, hK⟩ hq hl
  have hown : s.vm.findClass RX1 = some m.cls := hown
  have hin1 : ∀ w ∈ wsX10, w ∈ wsX1_bestOf := fun _ h => List.mem_cons_of_mem _ (List.mem_append_right _ h)
  have L21 := hts (.fieldLink RX1 21 "BestBeast$Manor" "least" "I") (List.mem_of_getElem? (i := 1) rfl)
  have L41 := hts (.fieldLink RX1 41 "BestBeast$Manor" "beasts" "I") (List.mem_of_getElem? (i := 2) rfl)
  have L44 := hts (.fieldLink RX1 44 "BestBeast$Manor" "worth" "[I") (List.mem_of_getElem? (i := 3) rfl)
  obtain ⟨⟨iL, iC, iV, iM, iH, iB, jL, jC, jV, jM, jH, jB⟩, iK, iDe, iAl, iHe, iWo, iO1, iO2⟩ := id hI
  have hl : lv_has ls 5 [(0, .ref (ad 0)), (1, .int set)] := hl
  refine lv_iconst (v := (-1)) hx hb dX1_bestOf_0 (by decide) ?_
  refine lv_istore_n (lv' := [(2, .int (-1)), (0, .ref (ad 0)), (1, .int set)]) hx hb dX1_bestOf_1 rfl hl (by decide) rfl (fun ls hl => ?_)
  refine lv_aload_n hx hb dX1_bestOf_2 rfl (lv_at hl 1 rfl) ?_
  refine va_get (D := (dC, dI)) (ci := 1) (v := .int (σ 0 3)) (C := RX1) (T := TX1) (N := 17) hx hb hts hin1 hown hK hP 0 rfl rfl 3 (by decide) L21 (fun _ h9 => h9) rfl dX1_bestOf_3 ?_
  refine lv_iconst (v := nI 1) hx hb dX1_bestOf_6 (by decide) ?_
  refine z_isub (v := σ 0 3 - 1) hx hb dX1_bestOf_7 (rfl) ?_
  refine lv_istore_n (lv' := [(3, .int (σ 0 3 - 1)), (2, .int (-1)), (0, .ref (ad 0)), (1, .int set)]) hx hb dX1_bestOf_8 rfl hl (by decide) rfl (fun ls hl => ?_)
  refine lv_iconst (v := nI 0) hx hb dX1_bestOf_9 (by decide) ?_
  refine lv_istore (lv' := [(4, .int (nI 0)), (3, .int (σ 0 3 - 1)), (2, .int (-1)), (0, .ref (ad 0)), (1, .int set)]) hx hb dX1_bestOf_10 hl (by decide) rfl (fun ls hl => ?_)
  suffices hlp12 : ∀ (nf : Nat) (k : Nat) (x12_4 : Int32) (x12_3 : Int32) (x12_2 : Int32) (ls : Array Slot), (k ≤ B) → x12_4 = nI k → x12_3 = bwF σ set k → x12_2 = bestR σ set k → lv_has ls 5 [(4, .int x12_4), (3, .int x12_3), (2, .int x12_2), (0, .ref (ad 0)), (1, .int set)] → B - k < nf → W p l e rm_c_X1_bestOf s m ([.ref (ad 0), .int set] : List Value).toArray below meth c s.heap [] 0 0 Q (F0 m 12 ls []) by
    exact hlp12 ((B - 0) + 1) 0 (nI 0) (σ 0 3 - 1) (-1) ls (by omega) rfl bwF_0.symm rfl (lv_sub hl [0, 1, 2, 3, 4] rfl) (by omega)
  intro nf
  induction nf with
  | zero => intro k x12_4 x12_3 x12_2 ls hk e12_4 e12_3 e12_2 hl hn; omega
  | succ nf ih12 =>
    intro k x12_4 x12_3 x12_2 ls hk e12_4 e12_3 e12_2 hl hn
    subst e12_4
    subst e12_3
    subst e12_2
    refine lv_iload hx hb dX1_bestOf_12 (lv_at hl 0 rfl) ?_
    refine lv_aload_n hx hb dX1_bestOf_14 rfl (lv_at hl 3 rfl) ?_
    refine va_get (D := (dC, dI)) (ci := 1) (v := .int (nI B)) (C := RX1) (T := TX1) (N := 17) hx hb hts hin1 hown hK hP 0 rfl rfl 9 (by decide) L41 (fun _ h9 => h9) (congrArg (fun z => some (Value.int z)) iB) dX1_bestOf_15 ?_
    refine z_icmp_ge (a := k) (b := B) (tgt := 68) hx hb (by omega) (by omega) dX1_bestOf_18 (by decide) (fun (c_18 : B ≤ k) => ?_) (fun (c_18 : k < B) => ?_)
    · skip
      refine lv_iload_n hx hb dX1_bestOf_68 rfl (lv_at hl 2 rfl) ?_
      exact hq (bestR σ set k) 69 ls dX1_bestOf_69 (show (bestR σ set k) = bestR σ set B from (by rw [show B = k by omega]))
    · skip
      refine lv_iload_n hx hb dX1_bestOf_21 rfl (lv_at hl 4 rfl) ?_
      refine lv_iload hx hb dX1_bestOf_22 (lv_at hl 0 rfl) ?_
      refine z_ishr (v := set >>> (nI k &&& 31)) hx hb dX1_bestOf_24 (rfl) ?_
      refine lv_iconst (v := nI 1) hx hb dX1_bestOf_25 (by decide) ?_
      refine z_iand (v := zin set k) hx hb dX1_bestOf_26 (rfl) ?_
      refine lv_iconst (v := nI 1) hx hb dX1_bestOf_27 (by decide) ?_
      refine lv_icmp_ne (tgt := 62) hx hb dX1_bestOf_28 (by decide) (fun (c_28 : ¬ (zin set k) = 1) => ?_) (fun (c_28 : (zin set k) = 1) => ?_)
      · skip
        refine lv_iinc (v := nI (k + 1)) (lv' := [(4, .int (nI (k + 1))), (3, .int (bwF σ set k)), (2, .int (bestR σ set k)), (0, .ref (ad 0)), (1, .int set)]) hx hb dX1_bestOf_62 hl (k := 0) rfl (nI_1 _) (by decide) rfl (fun ls hl => ?_)
        refine lv_goto (tgt := 12) hx hb dX1_bestOf_65 (by decide) ?_
        exact ih12 (k + 1) (nI (k + 1)) (bwF σ set k) (bestR σ set k) ls (by omega) (show nI (k + 1) = nI (k + 1) from rfl) (show bwF σ set k = bwF σ set (k + 1) from bwF_n c_28) (show bestR σ set k = bestR σ set (k + 1) from bestR_n c_28) (lv_sub hl [0, 1, 2, 3, 4] rfl) (by omega)
      · skip
        refine lv_aload_n hx hb dX1_bestOf_31 rfl (lv_at hl 3 rfl) ?_
        refine lv_iload hx hb dX1_bestOf_32 (lv_at hl 0 rfl) ?_
        refine z_callV (As := [.int (nI k)]) (rest := []) ⟨hx, hb, hml, hown, hts⟩ (c_X1_hasBeast l dC dI cI cZ ad σ Hn B L C V M hI.1 (nI k)) (cwV 1 hts gX1_bestOf_X1_hasBeast rfl rfl rfl (by decide +kernel) ⟨Nat.le_of_ble_eq_true rfl, Nat.le_of_ble_eq_true rfl⟩) hP hK (va_recv hK hP (ci := 1) (q0 := 0) rfl rfl) rfl hl.1 rfl (Nat.le_of_ble_eq_true rfl) ⟨Nat.zero_le _, Nat.zero_le _⟩ dX1_bestOf_34 (fun r hr => ?_)
        obtain rfl : r = zb (hasP B (nI k)) := hr
        refine z_ifeq_b (P := hasP B (nI k)) (tgt := 62) hx hb dX1_bestOf_37 (by decide) (fun (z9 : ¬ (hasP B (nI k))) => absurd (hasP_nI c_18) z9) (fun (c_37 : hasP B (nI k)) => ?_)
        refine lv_aload_n hx hb dX1_bestOf_40 rfl (lv_at hl 3 rfl) ?_
        refine va_get (D := (dC, dI)) (ci := 1) (v := .ref (ad 5)) (C := RX1) (T := TX1) (N := 17) hx hb hts hin1 hown hK hP 0 rfl rfl 10 (by decide) L44 (fun _ h9 => h9) rfl dX1_bestOf_41 ?_
        refine lv_iload hx hb dX1_bestOf_44 (lv_at hl 0 rfl) ?_
        refine z_iald (D := (dC, dI)) hx hb hK hP 5 0 rfl rfl k (rfl) (by omega) (by omega) (v := (σ 5) k) (rfl) dX1_bestOf_46 ?_
        refine lv_iload_n hx hb dX1_bestOf_47 rfl (lv_at hl 1 rfl) ?_
        refine lv_icmp_le (tgt := 62) hx hb dX1_bestOf_48 (by decide) (fun (c_48 : ((σ 5) k) ≤ (bwF σ set k)) => ?_) (fun (c_48 : ¬ (((σ 5) k) ≤ (bwF σ set k))) => ?_)
        · skip
          refine lv_iinc (v := nI (k + 1)) (lv' := [(4, .int (nI (k + 1))), (3, .int (bwF σ set k)), (2, .int (bestR σ set k)), (0, .ref (ad 0)), (1, .int set)]) hx hb dX1_bestOf_62 hl (k := 0) rfl (nI_1 _) (by decide) rfl (fun ls hl => ?_)
          refine lv_goto (tgt := 12) hx hb dX1_bestOf_65 (by decide) ?_
          exact ih12 (k + 1) (nI (k + 1)) (bwF σ set k) (bestR σ set k) ls (by omega) (show nI (k + 1) = nI (k + 1) from rfl) (show bwF σ set k = bwF σ set (k + 1) from bwF_l iM jM c_48) (show bestR σ set k = bestR σ set (k + 1) from bestR_l iM jM c_48) (lv_sub hl [0, 1, 2, 3, 4] rfl) (by omega)
        · skip
          refine lv_iload hx hb dX1_bestOf_51 (lv_at hl 0 rfl) ?_
          refine lv_istore_n (lv' := [(2, .int (nI k)), (4, .int (nI k)), (3, .int (bwF σ set k)), (0, .ref (ad 0)), (1, .int set)]) hx hb dX1_bestOf_53 rfl hl (by decide) rfl (fun ls hl => ?_)
          refine lv_aload_n hx hb dX1_bestOf_54 rfl (lv_at hl 3 rfl) ?_
          refine va_get (D := (dC, dI)) (ci := 1) (v := .ref (ad 5)) (C := RX1) (T := TX1) (N := 17) hx hb hts hin1 hown hK hP 0 rfl rfl 10 (by decide) L44 (fun _ h9 => h9) rfl dX1_bestOf_55 ?_
          refine lv_iload hx hb dX1_bestOf_58 (lv_at hl 1 rfl) ?_
          refine z_iald (D := (dC, dI)) hx hb hK hP 5 0 rfl rfl k (rfl) (by omega) (by omega) (v := (σ 5) k) (rfl) dX1_bestOf_60 ?_
          refine lv_istore_n (lv' := [(3, .int ((σ 5) k)), (2, .int (nI k)), (4, .int (nI k)), (0, .ref (ad 0)), (1, .int set)]) hx hb dX1_bestOf_61 rfl hl (by decide) rfl (fun ls hl => ?_)
          refine lv_iinc (v := nI (k + 1)) (lv' := [(4, .int (nI (k + 1))), (3, .int ((σ 5) k)), (2, .int (nI k)), (0, .ref (ad 0)), (1, .int set)]) hx hb dX1_bestOf_62 hl (k := 2) rfl (nI_1 _) (by decide) rfl (fun ls hl => ?_)
          refine lv_goto (tgt := 12) hx hb dX1_bestOf_65 (by decide) ?_
          exact ih12 (k + 1) (nI (k + 1)) ((σ 5) k) (nI k) ls (by omega) (show nI (k + 1) = nI (k + 1) from rfl) (show (σ 5) k = bwF σ set (k + 1) from bwF_y (by omega) iM jM c_28 c_48) (show nI k = bestR σ set (k + 1) from bestR_y (by omega) iM jM c_28 c_48) (lv_sub hl [0, 1, 2, 3, 4] rfl) (by omega)
abbrev rm_c_X1_takenFrom : Room := { frames := 2, cells := 0, slots := 0, locals := 45 }
set_option maxHeartbeats 4000000 in
set_option maxRecDepth 100000 in
theorem c_X1_takenFrom (l : Launch) (dC : Nat → ClassId) (dI : Nat → Nat → Nat) (cI cZ : ClassId) (ad : Nat → Nat) (σ : St) (Hn B L C V M : Nat) (hI : Inv σ Hn B L C V M) (j : Nat) (hj : j < Hn) (set : Int32) : Met l yX1_takenFrom wsX1_takenFrom rm_c_X1_takenFrom (va_Pc [.ref (ad 0), .int (nI j), .int set] (fun U => va_P (dC, dI) vwCl (mw cI cZ ad σ) U.heap ∧ va_K (dC, dI) vwCl (tyIZ cI cZ) U)) (vp_Si (fun r : Int32 => r = takenF σ B j set)) 0 0 (fun _ => False) := by
  refine z_pureI (cc := cX1_takenFrom) (maxL := 7) (av := [.ref (ad 0), .int (nI j), .int set]) (by decide) rfl (Nat.le_of_ble_eq_true rfl) ?_
  intro p e s m below meth c Q ls hx hb hml hown hts ⟨hP, hK⟩ hq hl
  have hown : s.vm.findClass RX1 = some m.cls := hown
  have hin1 : ∀ w ∈ wsX10, w ∈ wsX1_takenFrom := fun _ h => List.mem_cons_of_mem _ (List.mem_append_right _ h)
  have L27 := hts (.fieldLink RX1 27 "BestBeast$Manor" "kind" "[I") (List.mem_of_getElem? (i := 1) rfl)
  obtain ⟨⟨iL, iC, iV, iM, iH, iB, jL, jC, jV, jM, jH, jB⟩, iK, iDe, iAl, iHe, iWo, iO1, iO2⟩ := id hI
  have hl : lv_has ls 7 [(0, .ref (ad 0)), (1, .int (nI j)), (2, .int set)] := hl
  obtain ⟨K, hK4, hKj⟩ := iK j (by omega)
  have hmF : manyF σ j = lordN L K + churchN C K := manyF_eq iL iC hKj (by omega) (by omega) (by omega)
  have hm7 : lordN L K + churchN C K ≤ 7 := many7 (by omega) (by omega)
  refine lv_aload_n hx hb dX1_takenFrom_0 rfl (lv_at hl 0 rfl) ?_
  refine lv_iload_n hx hb dX1_takenFrom_1 rfl (lv_at hl 1 rfl) ?_
  refine z_callV (As := [.int (nI j)]) (rest := []) ⟨hx, hb, hml, hown, hts⟩ (c_X1_hasHolder l dC dI cI cZ ad σ Hn B L C V M hI.1 (nI j)) (cwV 1 hts gX1_takenFrom_X1_hasHolder rfl rfl rfl (by decide +kernel) ⟨Nat.le_of_ble_eq_true rfl, Nat.le_of_ble_eq_true rfl⟩) hP hK (va_recv hK hP (ci := 1) (q0 := 0) rfl rfl) rfl hl.1 rfl (Nat.le_of_ble_eq_true rfl) ⟨Nat.zero_le _, Nat.zero_le _⟩ dX1_takenFrom_2 (fun r hr => ?_)
  obtain rfl : r = zb (hasP Hn (nI j)) := hr
  refine z_ifne_b (P := hasP Hn (nI j)) (tgt := 10) hx hb dX1_takenFrom_5 (by decide) (fun (c_5 : hasP Hn (nI j)) => ?_) (fun (z9 : ¬ (hasP Hn (nI j))) => absurd (hasP_nI hj) z9)
  refine lv_aload_n hx hb dX1_takenFrom_10 rfl (lv_at hl 0 rfl) ?_
  refine lv_aload_n hx hb dX1_takenFrom_11 rfl (lv_at hl 0 rfl) ?_
  refine va_get (D := (dC, dI)) (ci := 1) (v := .ref (ad 1)) (C := RX1) (T := TX1) (N := 17) hx hb hts hin1 hown hK hP 0 rfl rfl 5 (by decide) L27 (fun _ h9 => h9) rfl dX1_takenFrom_12 ?_
  refine lv_iload_n hx hb dX1_takenFrom_15 rfl (lv_at hl 1 rfl) ?_
  refine z_iald (D := (dC, dI)) hx hb hK hP 1 0 rfl rfl j (rfl) (by omega) (by omega) (v := nI K) (hKj) dX1_takenFrom_16 ?_
  refine z_callV (As := [.int (nI K)]) (rest := []) ⟨hx, hb, hml, hown, hts⟩ (c_X1_lordMay l dC dI cI cZ ad σ Hn B L C V M hI K (by omega)) (cwV 1 hts gX1_takenFrom_X1_lordMay rfl rfl rfl (by decide +kernel) ⟨Nat.le_of_ble_eq_true rfl, Nat.le_of_ble_eq_true rfl⟩) hP hK (va_recv hK hP (ci := 1) (q0 := 0) rfl rfl) rfl hl.1 rfl (Nat.le_of_ble_eq_true rfl) ⟨Nat.zero_le _, Nat.zero_le _⟩ dX1_takenFrom_17 (fun r hr => ?_)
  obtain rfl : r = nI (lordN L K) := hr
  refine lv_aload_n hx hb dX1_takenFrom_20 rfl (lv_at hl 0 rfl) ?_
  refine lv_aload_n hx hb dX1_takenFrom_21 rfl (lv_at hl 0 rfl) ?_
  refine va_get (D := (dC, dI)) (ci := 1) (v := .ref (ad 1)) (C := RX1) (T := TX1) (N := 17) hx hb hts hin1 hown hK hP 0 rfl rfl 5 (by decide) L27 (fun _ h9 => h9) rfl dX1_takenFrom_22 ?_
  refine lv_iload_n hx hb dX1_takenFrom_25 rfl (lv_at hl 1 rfl) ?_
  refine z_iald (D := (dC, dI)) hx hb hK hP 1 0 rfl rfl j (rfl) (by omega) (by omega) (v := nI K) (hKj) dX1_takenFrom_26 ?_
  refine z_callV (As := [.int (nI K)]) (rest := [.int (nI (lordN L K))]) ⟨hx, hb, hml, hown, hts⟩ (c_X1_churchMay l dC dI cI cZ ad σ Hn B L C V M hI K (by omega)) (cwV 1 hts gX1_takenFrom_X1_churchMay rfl rfl rfl (by decide +kernel) ⟨Nat.le_of_ble_eq_true rfl, Nat.le_of_ble_eq_true rfl⟩) hP hK (va_recv hK hP (ci := 1) (q0 := 0) rfl rfl) rfl hl.1 rfl (Nat.le_of_ble_eq_true rfl) ⟨Nat.zero_le _, Nat.zero_le _⟩ dX1_takenFrom_27 (fun r hr => ?_)
  obtain rfl : r = nI (churchN C K) := hr
  refine z_iadd (v := nI ((lordN L K) + (churchN C K))) hx hb dX1_takenFrom_30 (nI_add _ _) ?_
  refine lv_istore_n (lv' := [(3, .int (nI ((lordN L K) + (churchN C K)))), (0, .ref (ad 0)), (1, .int (nI j)), (2, .int set)]) hx hb dX1_takenFrom_31 rfl hl (by decide) rfl (fun ls hl => ?_)
  refine lv_iconst (v := nI 0) hx hb dX1_takenFrom_32 (by decide) ?_
  refine lv_istore (lv' := [(4, .int (nI 0)), (3, .int (nI ((lordN L K) + (churchN C K)))), (0, .ref (ad 0)), (1, .int (nI j)), (2, .int set)]) hx hb dX1_takenFrom_33 hl (by decide) rfl (fun ls hl => ?_)
  refine lv_iconst (v := nI 0) hx hb dX1_takenFrom_35 (by decide) ?_
  refine lv_istore (lv' := [(5, .int (nI 0)), (4, .int (nI 0)), (3, .int (nI ((lordN L K) + (churchN C K)))), (0, .ref (ad 0)), (1, .int (nI j)), (2, .int set)]) hx hb dX1_takenFrom_36 hl (by decide) rfl (fun ls hl => ?_)
  suffices hlp38 : ∀ (nf : Nat) (k : Nat) (x38_5 : Int32) (x38_4 : Int32) (ls : Array Slot), (k ≤ lordN L K + churchN C K) → x38_5 = nI k → x38_4 = takR σ B set k → lv_has ls 7 [(5, .int x38_5), (4, .int x38_4), (3, .int (nI ((lordN L K) + (churchN C K)))), (0, .ref (ad 0)), (1, .int (nI j)), (2, .int set)] → lordN L K + churchN C K - k < nf → W p l e rm_c_X1_takenFrom s m ([.ref (ad 0), .int (nI j), .int set] : List Value).toArray below meth c s.heap [] 0 0 Q (F0 m 38 ls []) by
    exact hlp38 ((lordN L K + churchN C K - 0) + 1) 0 (nI 0) (nI 0) ls (by omega) rfl rfl (lv_sub hl [0, 1, 2, 3, 4, 5] rfl) (by omega)
  intro nf
  induction nf with
  | zero => intro k x38_5 x38_4 ls hk e38_5 e38_4 hl hn; omega
  | succ nf ih38 =>
    intro k x38_5 x38_4 ls hk e38_5 e38_4 hl hn
    subst e38_5
    subst e38_4
    refine lv_iload hx hb dX1_takenFrom_38 (lv_at hl 0 rfl) ?_
    refine lv_iload_n hx hb dX1_takenFrom_40 rfl (lv_at hl 2 rfl) ?_
    refine z_icmp_ge (a := k) (b := (lordN L K) + (churchN C K)) (tgt := 80) hx hb (by omega) (by omega) dX1_takenFrom_41 (by decide) (fun (c_41 : ((lordN L K) + (churchN C K)) ≤ k) => ?_) (fun (c_41 : k < ((lordN L K) + (churchN C K))) => ?_)
    · skip
      refine lv_iload hx hb dX1_takenFrom_80 (lv_at hl 1 rfl) ?_
      exact hq (takR σ B set k) 82 ls dX1_takenFrom_82 (show (takR σ B set k) = takenF σ B j set from (by unfold takenF; rw [hmF, show lordN L K + churchN C K = k by omega]))
    · skip
      refine lv_aload_n hx hb dX1_takenFrom_44 rfl (lv_at hl 3 rfl) ?_
      refine lv_iload_n hx hb dX1_takenFrom_45 rfl (lv_at hl 5 rfl) ?_
      refine lv_iload hx hb dX1_takenFrom_46 (lv_at hl 1 rfl) ?_
      refine lv_iconst (v := (-1)) hx hb dX1_takenFrom_48 (by decide) ?_
      refine z_ixor (v := znot (takR σ B set k)) hx hb dX1_takenFrom_49 (rfl) ?_
      refine z_iand (v := set &&& (znot (takR σ B set k))) hx hb dX1_takenFrom_50 (rfl) ?_
      refine z_callV (As := [.int (set &&& (znot (takR σ B set k)))]) (rest := []) ⟨hx, hb, hml, hown, hts⟩ (c_X1_bestOf l dC dI cI cZ ad σ Hn B L C V M hI (set &&& (znot (takR σ B set k)))) (cwV 1 hts gX1_takenFrom_X1_bestOf rfl rfl rfl (by decide +kernel) ⟨Nat.le_of_ble_eq_true rfl, Nat.le_of_ble_eq_true rfl⟩) hP hK (va_recv hK hP (ci := 1) (q0 := 0) rfl rfl) rfl hl.1 rfl (Nat.le_of_ble_eq_true rfl) ⟨Nat.zero_le _, Nat.zero_le _⟩ dX1_takenFrom_51 (fun r hr => ?_)
      obtain rfl : r = bestR σ (set &&& (znot (takR σ B set k))) B := hr
      refine lv_istore (lv' := [(6, .int (bestR σ (set &&& (znot (takR σ B set k))) B)), (5, .int (nI k)), (4, .int (takR σ B set k)), (3, .int (nI ((lordN L K) + (churchN C K)))), (0, .ref (ad 0)), (1, .int (nI j)), (2, .int set)]) hx hb dX1_takenFrom_54 hl (by decide) rfl (fun ls hl => ?_)
      refine lv_iload hx hb dX1_takenFrom_56 (lv_at hl 0 rfl) ?_
      refine lv_iconst (v := (-1)) hx hb dX1_takenFrom_58 (by decide) ?_
      refine lv_icmp_ne (tgt := 65) hx hb dX1_takenFrom_59 (by decide) (fun (c_59 : ¬ (bestR σ (set &&& (znot (takR σ B set k))) B) = (-1)) => ?_) (fun (c_59 : (bestR σ (set &&& (znot (takR σ B set k))) B) = (-1)) => ?_)
      · skip
        refine lv_iload hx hb dX1_takenFrom_65 (lv_at hl 2 rfl) ?_
        refine lv_iconst (v := nI 1) hx hb dX1_takenFrom_67 (by decide) ?_
        refine lv_iload hx hb dX1_takenFrom_68 (lv_at hl 0 rfl) ?_
        refine z_ishl (v := zbit (tn (bestR σ (set &&& znot (takR σ B set k)) B))) hx hb dX1_takenFrom_70 (zbit_tn (bestR_has c_59) (by omega)) ?_
        refine z_ior (v := (takR σ B set k) ||| (zbit (tn (bestR σ (set &&& znot (takR σ B set k)) B)))) hx hb dX1_takenFrom_71 (rfl) ?_
        refine lv_istore (lv' := [(4, .int ((takR σ B set k) ||| (zbit (tn (bestR σ (set &&& znot (takR σ B set k)) B))))), (6, .int (bestR σ (set &&& (znot (takR σ B set k))) B)), (5, .int (nI k)), (3, .int (nI ((lordN L K) + (churchN C K)))), (0, .ref (ad 0)), (1, .int (nI j)), (2, .int set)]) hx hb dX1_takenFrom_72 hl (by decide) rfl (fun ls hl => ?_)
        refine lv_iinc (v := nI (k + 1)) (lv' := [(5, .int (nI (k + 1))), (4, .int ((takR σ B set k) ||| (zbit (tn (bestR σ (set &&& znot (takR σ B set k)) B))))), (6, .int (bestR σ (set &&& (znot (takR σ B set k))) B)), (3, .int (nI ((lordN L K) + (churchN C K)))), (0, .ref (ad 0)), (1, .int (nI j)), (2, .int set)]) hx hb dX1_takenFrom_74 hl (k := 2) rfl (nI_1 _) (by decide) rfl (fun ls hl => ?_)
        refine lv_goto (tgt := 38) hx hb dX1_takenFrom_77 (by decide) ?_
        exact ih38 (k + 1) (nI (k + 1)) ((takR σ B set k) ||| (zbit (tn (bestR σ (set &&& znot (takR σ B set k)) B)))) ls (by omega) (show nI (k + 1) = nI (k + 1) from rfl) (show (takR σ B set k) ||| (zbit (tn (bestR σ (set &&& znot (takR σ B set k)) B))) = takR σ B set (k + 1) from takR_y c_59) (lv_sub hl [0, 1, 3, 4, 5, 6] rfl) (by omega)
      · skip
        refine lv_goto (tgt := 80) hx hb dX1_takenFrom_62 (by decide) ?_
        refine lv_iload hx hb dX1_takenFrom_80 (lv_at hl 2 rfl) ?_
        exact hq (takR σ B set k) 82 ls dX1_takenFrom_82 (show (takR σ B set k) = takenF σ B j set from (by unfold takenF; rw [hmF]; exact (takR_stop c_59 hk).symm))
abbrev rm_c_X1_worthOf : Room := { frames := 1, cells := 0, slots := 0, locals := 21 }
set_option maxHeartbeats 4000000 in
set_option maxRecDepth 100000 in
theorem c_X1_worthOf (l : Launch) (dC : Nat → ClassId) (dI : Nat → Nat → Nat) (cI cZ : ClassId) (ad : Nat → Nat) (σ : St) (Hn B L C V M : Nat) (hI : Inv σ Hn B L C V M) (set : Int32) : Met l yX1_worthOf wsX1_worthOf rm_c_X1_worthOf (va_Pc [.ref (ad 0), .int set] (fun U => va_P (dC, dI) vwCl (mw cI cZ ad σ) U.heap ∧ va_K (dC, dI) vwCl (tyIZ cI cZ) U)) (vp_Si (fun r : Int32 => r = worthR σ set B)) 0 0 (fun _ => False) := by
  refine z_pureI (cc := cX1_worthOf) (maxL := 4) (av := [.ref (ad 0), .int set]) (by decide) rfl (Nat.le_of_ble_eq_true rfl) ?_
  intro p e s m below meth c Q ls hx hb hml hown hts ⟨hP, hK⟩ hq hl
  have hown : s.vm.findClass RX1 = some m.cls := hown
  have hin1 : ∀ w ∈ wsX10, w ∈ wsX1_worthOf := fun _ h => List.mem_cons_of_mem _ (List.mem_append_right _ h)
  have L41 := hts (.fieldLink RX1 41 "BestBeast$Manor" "beasts" "I") (List.mem_of_getElem? (i := 1) rfl)
  have L44 := hts (.fieldLink RX1 44 "BestBeast$Manor" "worth" "[I") (List.mem_of_getElem? (i := 2) rfl)
  obtain ⟨⟨iL, iC, iV, iM, iH, iB, jL, jC, jV, jM, jH, jB⟩, iK, iDe, iAl, iHe, iWo, iO1, iO2⟩ := id hI
  have hl : lv_has ls 4 [(0, .ref (ad 0)), (1, .int set)] := hl
  refine lv_iconst (v := nI 0) hx hb dX1_worthOf_0 (by decide) ?_
  refine lv_istore_n (lv' := [(2, .int (nI 0)), (0, .ref (ad 0)), (1, .int set)]) hx hb dX1_worthOf_1 rfl hl (by decide) rfl (fun ls hl => ?_)
  refine lv_iconst (v := nI 0) hx hb dX1_worthOf_2 (by decide) ?_
  refine lv_istore_n (lv' := [(3, .int (nI 0)), (2, .int (nI 0)), (0, .ref (ad 0)), (1, .int set)]) hx hb dX1_worthOf_3 rfl hl (by decide) rfl (fun ls hl => ?_)
  suffices hlp4 : ∀ (nf : Nat) (k : Nat) (x4_3 : Int32) (x4_2 : Int32) (ls : Array Slot), (k ≤ B) → x4_3 = nI k → x4_2 = worthR σ set k → lv_has ls 4 [(3, .int x4_3), (2, .int x4_2), (0, .ref (ad 0)), (1, .int set)] → B - k < nf → W p l e rm_c_X1_worthOf s m ([.ref (ad 0), .int set] : List Value).toArray below meth c s.heap [] 0 0 Q (F0 m 4 ls []) by
    exact hlp4 ((B - 0) + 1) 0 (nI 0) (nI 0) ls (by omega) rfl rfl (lv_sub hl [0, 1, 2, 3] rfl) (by omega)
  intro nf
  induction nf with
  | zero => intro k x4_3 x4_2 ls hk e4_3 e4_2 hl hn; omega
  | succ nf ih4 =>
    intro k x4_3 x4_2 ls hk e4_3 e4_2 hl hn
    subst e4_3
    subst e4_2
    refine lv_iload_n hx hb dX1_worthOf_4 rfl (lv_at hl 0 rfl) ?_
    refine lv_aload_n hx hb dX1_worthOf_5 rfl (lv_at hl 2 rfl) ?_
    refine va_get (D := (dC, dI)) (ci := 1) (v := .int (nI B)) (C := RX1) (T := TX1) (N := 17) hx hb hts hin1 hown hK hP 0 rfl rfl 9 (by decide) L41 (fun _ h9 => h9) (congrArg (fun z => some (Value.int z)) iB) dX1_worthOf_6 ?_
    refine z_icmp_ge (a := k) (b := B) (tgt := 44) hx hb (by omega) (by omega) dX1_worthOf_9 (by decide) (fun (c_9 : B ≤ k) => ?_) (fun (c_9 : k < B) => ?_)
    · skip
      refine lv_iload_n hx hb dX1_worthOf_44 rfl (lv_at hl 1 rfl) ?_
      exact hq (worthR σ set k) 45 ls dX1_worthOf_45 (show (worthR σ set k) = worthR σ set B from (by rw [show B = k by omega]))
    · skip
      refine lv_iload_n hx hb dX1_worthOf_12 rfl (lv_at hl 3 rfl) ?_
      refine lv_iload_n hx hb dX1_worthOf_13 rfl (lv_at hl 0 rfl) ?_
      refine z_ishr (v := set >>> (nI k &&& 31)) hx hb dX1_worthOf_14 (rfl) ?_
      refine lv_iconst (v := nI 1) hx hb dX1_worthOf_15 (by decide) ?_
      refine z_iand (v := zin set k) hx hb dX1_worthOf_16 (rfl) ?_
      refine lv_iconst (v := nI 1) hx hb dX1_worthOf_17 (by decide) ?_
      refine lv_icmp_ne (tgt := 38) hx hb dX1_worthOf_18 (by decide) (fun (c_18 : ¬ (zin set k) = 1) => ?_) (fun (c_18 : (zin set k) = 1) => ?_)
      · skip
        refine lv_iinc (v := nI (k + 1)) (lv' := [(3, .int (nI (k + 1))), (2, .int (worthR σ set k)), (0, .ref (ad 0)), (1, .int set)]) hx hb dX1_worthOf_38 hl (k := 0) rfl (nI_1 _) (by decide) rfl (fun ls hl => ?_)
        refine lv_goto (tgt := 4) hx hb dX1_worthOf_41 (by decide) ?_
        exact ih4 (k + 1) (nI (k + 1)) (worthR σ set k) ls (by omega) (show nI (k + 1) = nI (k + 1) from rfl) (show worthR σ set k = worthR σ set (k + 1) from worthR_n c_18) (lv_sub hl [0, 1, 2, 3] rfl) (by omega)
      · skip
        refine lv_aload_n hx hb dX1_worthOf_21 rfl (lv_at hl 2 rfl) ?_
        refine lv_iload_n hx hb dX1_worthOf_22 rfl (lv_at hl 0 rfl) ?_
        refine z_callV (As := [.int (nI k)]) (rest := []) ⟨hx, hb, hml, hown, hts⟩ (c_X1_hasBeast l dC dI cI cZ ad σ Hn B L C V M hI.1 (nI k)) (cwV 1 hts gX1_worthOf_X1_hasBeast rfl rfl rfl (by decide +kernel) ⟨Nat.le_of_ble_eq_true rfl, Nat.le_of_ble_eq_true rfl⟩) hP hK (va_recv hK hP (ci := 1) (q0 := 0) rfl rfl) rfl hl.1 rfl (Nat.le_of_ble_eq_true rfl) ⟨Nat.zero_le _, Nat.zero_le _⟩ dX1_worthOf_23 (fun r hr => ?_)
        obtain rfl : r = zb (hasP B (nI k)) := hr
        refine z_ifeq_b (P := hasP B (nI k)) (tgt := 38) hx hb dX1_worthOf_26 (by decide) (fun (z9 : ¬ (hasP B (nI k))) => absurd (hasP_nI c_9) z9) (fun (c_26 : hasP B (nI k)) => ?_)
        refine lv_iload_n hx hb dX1_worthOf_29 rfl (lv_at hl 1 rfl) ?_
        refine lv_aload_n hx hb dX1_worthOf_30 rfl (lv_at hl 2 rfl) ?_
        refine va_get (D := (dC, dI)) (ci := 1) (v := .ref (ad 5)) (C := RX1) (T := TX1) (N := 17) hx hb hts hin1 hown hK hP 0 rfl rfl 10 (by decide) L44 (fun _ h9 => h9) rfl dX1_worthOf_31 ?_
        refine lv_iload_n hx hb dX1_worthOf_34 rfl (lv_at hl 0 rfl) ?_
        refine z_iald (D := (dC, dI)) hx hb hK hP 5 0 rfl rfl k (rfl) (by omega) (by omega) (v := (σ 5) k) (rfl) dX1_worthOf_35 ?_
        refine z_iadd (v := (worthR σ set k) + ((σ 5) k)) hx hb dX1_worthOf_36 (rfl) ?_
        refine lv_istore_n (lv' := [(2, .int ((worthR σ set k) + ((σ 5) k))), (3, .int (nI k)), (0, .ref (ad 0)), (1, .int set)]) hx hb dX1_worthOf_37 rfl hl (by decide) rfl (fun ls hl => ?_)
        refine lv_iinc (v := nI (k + 1)) (lv' := [(3, .int (nI (k + 1))), (2, .int ((worthR σ set k) + ((σ 5) k))), (0, .ref (ad 0)), (1, .int set)]) hx hb dX1_worthOf_38 hl (k := 1) rfl (nI_1 _) (by decide) rfl (fun ls hl => ?_)
        refine lv_goto (tgt := 4) hx hb dX1_worthOf_41 (by decide) ?_
        exact ih4 (k + 1) (nI (k + 1)) ((worthR σ set k) + ((σ 5) k)) ls (by omega) (show nI (k + 1) = nI (k + 1) from rfl) (show (worthR σ set k) + ((σ 5) k) = worthR σ set (k + 1) from worthR_y c_18) (lv_sub hl [0, 1, 2, 3] rfl) (by omega)
abbrev rm_c_X1_lossOf : Room := { frames := 4, cells := 0, slots := 0, locals := 90 }
set_option maxHeartbeats 4000000 in
set_option maxRecDepth 100000 in
theorem c_X1_lossOf (l : Launch) (dC : Nat → ClassId) (dI : Nat → Nat → Nat) (cI cZ : ClassId) (ad : Nat → Nat) (σ : St) (Hn B L C V M : Nat) (hI : Inv σ Hn B L C V M) (j : Nat) (hj : j < Hn) : Met l yX1_lossOf wsX1_lossOf rm_c_X1_lossOf (va_Pc [.ref (ad 0), .int (nI j)] (fun U => va_P (dC, dI) vwCl (mw cI cZ ad σ) U.heap ∧ va_K (dC, dI) vwCl (tyIZ cI cZ) U)) (vp_Si (fun r : Int32 => r = lossA σ B j)) 0 0 (fun _ => False) := by
  refine z_pureI (cc := cX1_lossOf) (maxL := 2) (av := [.ref (ad 0), .int (nI j)]) (by decide) rfl (Nat.le_of_ble_eq_true rfl) ?_
  intro p e s m below meth c Q ls hx hb hml hown hts ⟨hP, hK⟩ hq hl
  have hown : s.vm.findClass RX1 = some m.cls := hown
  have hin1 : ∀ w ∈ wsX10, w ∈ wsX1_lossOf := fun _ h => List.mem_cons_of_mem _ (List.mem_append_right _ h)
  obtain ⟨⟨iL, iC, iV, iM, iH, iB, jL, jC, jV, jM, jH, jB⟩, iK, iDe, iAl, iHe, iWo, iO1, iO2⟩ := id hI
  have hl : lv_has ls 2 [(0, .ref (ad 0)), (1, .int (nI j))] := hl
  refine lv_aload_n hx hb dX1_lossOf_0 rfl (lv_at hl 0 rfl) ?_
  refine lv_iload_n hx hb dX1_lossOf_1 rfl (lv_at hl 1 rfl) ?_
  refine z_callV (As := [.int (nI j)]) (rest := []) ⟨hx, hb, hml, hown, hts⟩ (c_X1_isAlive l dC dI cI cZ ad σ Hn B L C V M hI (nI j)) (cwV 1 hts gX1_lossOf_X1_isAlive rfl rfl rfl (by decide +kernel) ⟨Nat.le_of_ble_eq_true rfl, Nat.le_of_ble_eq_true rfl⟩) hP hK (va_recv hK hP (ci := 1) (q0 := 0) rfl rfl) rfl hl.1 rfl (Nat.le_of_ble_eq_true rfl) ⟨Nat.zero_le _, Nat.zero_le _⟩ dX1_lossOf_2 (fun r hr => ?_)
  obtain rfl : r = zb (liveP σ Hn (nI j)) := hr
  refine z_ifeq_b (P := liveP σ Hn (nI j)) (tgt := 25) hx hb dX1_lossOf_5 (by decide) (fun (c_5 : ¬ (liveP σ Hn (nI j))) => ?_) (fun (c_5 : liveP σ Hn (nI j)) => ?_)
  · skip
    refine lv_iconst (v := nI 0) hx hb dX1_lossOf_25 (by decide) ?_
    exact hq (nI 0) 26 ls dX1_lossOf_26 (show (nI 0) = lossA σ B j from (by unfold lossA; rw [if_neg (al_0 (live_0 (iAl j (by omega)) hj jH c_5))]; rfl))
  · skip
    refine lv_aload_n hx hb dX1_lossOf_8 rfl (lv_at hl 0 rfl) ?_
    refine lv_aload_n hx hb dX1_lossOf_9 rfl (lv_at hl 0 rfl) ?_
    refine lv_iload_n hx hb dX1_lossOf_10 rfl (lv_at hl 1 rfl) ?_
    refine lv_aload_n hx hb dX1_lossOf_11 rfl (lv_at hl 0 rfl) ?_
    refine lv_iload_n hx hb dX1_lossOf_12 rfl (lv_at hl 1 rfl) ?_
    refine z_callV (As := [.int (nI j)]) (rest := [.int (nI j), .ref (ad 0), .ref (ad 0)]) ⟨hx, hb, hml, hown, hts⟩ (c_X1_heldBits l dC dI cI cZ ad σ Hn B L C V M hI (nI j)) (cwV 1 hts gX1_lossOf_X1_heldBits rfl rfl rfl (by decide +kernel) ⟨Nat.le_of_ble_eq_true rfl, Nat.le_of_ble_eq_true rfl⟩) hP hK (va_recv hK hP (ci := 1) (q0 := 0) rfl rfl) rfl hl.1 rfl (Nat.le_of_ble_eq_true rfl) ⟨Nat.zero_le _, Nat.zero_le _⟩ dX1_lossOf_13 (fun r hr => ?_)
    obtain rfl : r = heldF σ B (nI j) := hr
    refine z_callV (As := [.int (nI j), .int (heldF σ B (nI j))]) (rest := [.ref (ad 0)]) ⟨hx, hb, hml, hown, hts⟩ (c_X1_takenFrom l dC dI cI cZ ad σ Hn B L C V M hI j (by omega) (heldF σ B (nI j))) (cwV 2 hts gX1_lossOf_X1_takenFrom rfl rfl rfl (by decide +kernel) ⟨Nat.le_of_ble_eq_true rfl, Nat.le_of_ble_eq_true rfl⟩) hP hK (va_recv hK hP (ci := 1) (q0 := 0) rfl rfl) rfl hl.1 rfl (Nat.le_of_ble_eq_true rfl) ⟨Nat.zero_le _, Nat.zero_le _⟩ dX1_lossOf_16 (fun r hr => ?_)
    obtain rfl : r = takenF σ B j (heldF σ B (nI j)) := hr
    refine z_callV (As := [.int (takenF σ B j (heldF σ B (nI j)))]) (rest := []) ⟨hx, hb, hml, hown, hts⟩ (c_X1_worthOf l dC dI cI cZ ad σ Hn B L C V M hI (takenF σ B j (heldF σ B (nI j)))) (cwV 1 hts gX1_lossOf_X1_worthOf rfl rfl rfl (by decide +kernel) ⟨Nat.le_of_ble_eq_true rfl, Nat.le_of_ble_eq_true rfl⟩) hP hK (va_recv hK hP (ci := 1) (q0 := 0) rfl rfl) rfl hl.1 rfl (Nat.le_of_ble_eq_true rfl) ⟨Nat.zero_le _, Nat.zero_le _⟩ dX1_lossOf_19 (fun r hr => ?_)
    obtain rfl : r = worthR σ (takenF σ B j (heldF σ B (nI j))) B := hr
    refine lv_goto (tgt := 26) hx hb dX1_lossOf_22 (by decide) ?_
    exact hq (worthR σ (takenF σ B j (heldF σ B (nI j))) B) 26 ls dX1_lossOf_26 (show (worthR σ (takenF σ B j (heldF σ B (nI j))) B) = lossA σ B j from (by unfold lossA lossF; rw [if_pos (live_1 hj jH c_5)]))
abbrev rm_c_J6_bitCount_0f7a4 : Room := { frames := 0, cells := 0, slots := 0, locals := 0 }
set_option maxHeartbeats 4000000 in
set_option maxRecDepth 100000 in
theorem c_J6_bitCount_0f7a4 (l : Launch) (x : Int32) : Met l yJ6_bitCount_0f7a4 wsJ6_bitCount_0f7a4 rm_c_J6_bitCount_0f7a4 (va_Pc [.int x] (fun _ => True)) (vp_Si (fun r : Int32 => r = bcF x)) 0 0 (fun _ => False) := by
  refine z_pureI (cc := cJ6_bitCount_0f7a4) (maxL := 1) (av := [.int x]) (by decide) rfl (Nat.le_of_ble_eq_true rfl) ?_
  intro p e s m below meth c Q ls hx hb hml hown hts _ hq hl
  have hown : s.vm.findClass RJ6 = some m.cls := hown
  have L265 := hts (.constant RJ6 265 (1431655765)) (List.mem_of_getElem? (i := 1) rfl)
  have L266 := hts (.constant RJ6 266 (858993459)) (List.mem_of_getElem? (i := 2) rfl)
  have L267 := hts (.constant RJ6 267 (252645135)) (List.mem_of_getElem? (i := 3) rfl)
  have hl : lv_has ls 1 [(0, .int x)] := hl
  refine lv_iload_n hx hb dJ6_bitCount_0f7a4_0 rfl (lv_at hl 0 rfl) ?_
  refine lv_iload_n hx hb dJ6_bitCount_0f7a4_1 rfl (lv_at hl 0 rfl) ?_
  refine lv_iconst (v := nI 1) hx hb dJ6_bitCount_0f7a4_2 (by decide) ?_
  refine lv_iushr (v := ush x 1) hx hb dJ6_bitCount_0f7a4_3 (rfl) ?_
  refine lv_ldcw hx hb hown L265 dJ6_bitCount_0f7a4_4 ?_
  refine z_iand (v := (ush x 1) &&& 1431655765) hx hb dJ6_bitCount_0f7a4_7 (rfl) ?_
  refine z_isub (v := bc1 x) hx hb dJ6_bitCount_0f7a4_8 (rfl) ?_
  refine lv_istore_n (lv' := [(0, .int (bc1 x))]) hx hb dJ6_bitCount_0f7a4_9 rfl hl (by decide) rfl (fun ls hl => ?_)
  refine lv_iload_n hx hb dJ6_bitCount_0f7a4_10 rfl (lv_at hl 0 rfl) ?_
  refine lv_ldcw hx hb hown L266 dJ6_bitCount_0f7a4_11 ?_
  refine z_iand (v := (bc1 x) &&& 858993459) hx hb dJ6_bitCount_0f7a4_14 (rfl) ?_
  refine lv_iload_n hx hb dJ6_bitCount_0f7a4_15 rfl (lv_at hl 0 rfl) ?_
  refine lv_iconst (v := nI 2) hx hb dJ6_bitCount_0f7a4_16 (by decide) ?_
  refine lv_iushr (v := ush (bc1 x) 2) hx hb dJ6_bitCount_0f7a4_17 (rfl) ?_
  refine lv_ldcw hx hb hown L266 dJ6_bitCount_0f7a4_18 ?_
  refine z_iand (v := (ush (bc1 x) 2) &&& 858993459) hx hb dJ6_bitCount_0f7a4_21 (rfl) ?_
  refine z_iadd (v := bc2 (bc1 x)) hx hb dJ6_bitCount_0f7a4_22 (rfl) ?_
  refine lv_istore_n (lv' := [(0, .int (bc2 (bc1 x)))]) hx hb dJ6_bitCount_0f7a4_23 rfl hl (by decide) rfl (fun ls hl => ?_)
  refine lv_iload_n hx hb dJ6_bitCount_0f7a4_24 rfl (lv_at hl 0 rfl) ?_
  refine lv_iload_n hx hb dJ6_bitCount_0f7a4_25 rfl (lv_at hl 0 rfl) ?_
  refine lv_iconst (v := nI 4) hx hb dJ6_bitCount_0f7a4_26 (by decide) ?_
  refine lv_iushr (v := ush (bc2 (bc1 x)) 4) hx hb dJ6_bitCount_0f7a4_27 (rfl) ?_
  refine z_iadd (v := (bc2 (bc1 x)) + (ush (bc2 (bc1 x)) 4)) hx hb dJ6_bitCount_0f7a4_28 (rfl) ?_
  refine lv_ldcw hx hb hown L267 dJ6_bitCount_0f7a4_29 ?_
  refine z_iand (v := bc3 (bc2 (bc1 x))) hx hb dJ6_bitCount_0f7a4_32 (rfl) ?_
  refine lv_istore_n (lv' := [(0, .int (bc3 (bc2 (bc1 x))))]) hx hb dJ6_bitCount_0f7a4_33 rfl hl (by decide) rfl (fun ls hl => ?_)
  refine lv_iload_n hx hb dJ6_bitCount_0f7a4_34 rfl (lv_at hl 0 rfl) ?_
  refine lv_iload_n hx hb dJ6_bitCount_0f7a4_35 rfl (lv_at hl 0 rfl) ?_
  refine lv_bipush (v := nI 8) hx hb dJ6_bitCount_0f7a4_36 (by decide) ?_
  refine lv_iushr (v := ush (bc3 (bc2 (bc1 x))) 8) hx hb dJ6_bitCount_0f7a4_38 (rfl) ?_
  refine z_iadd (v := bc4 (bc3 (bc2 (bc1 x)))) hx hb dJ6_bitCount_0f7a4_39 (rfl) ?_
  refine lv_istore_n (lv' := [(0, .int (bc4 (bc3 (bc2 (bc1 x)))))]) hx hb dJ6_bitCount_0f7a4_40 rfl hl (by decide) rfl (fun ls hl => ?_)
  refine lv_iload_n hx hb dJ6_bitCount_0f7a4_41 rfl (lv_at hl 0 rfl) ?_
  refine lv_iload_n hx hb dJ6_bitCount_0f7a4_42 rfl (lv_at hl 0 rfl) ?_
  refine lv_bipush (v := nI 16) hx hb dJ6_bitCount_0f7a4_43 (by decide) ?_
  refine lv_iushr (v := ush (bc4 (bc3 (bc2 (bc1 x)))) 16) hx hb dJ6_bitCount_0f7a4_45 (rfl) ?_
  refine z_iadd (v := bc5 (bc4 (bc3 (bc2 (bc1 x))))) hx hb dJ6_bitCount_0f7a4_46 (rfl) ?_
  refine lv_istore_n (lv' := [(0, .int (bc5 (bc4 (bc3 (bc2 (bc1 x))))))]) hx hb dJ6_bitCount_0f7a4_47 rfl hl (by decide) rfl (fun ls hl => ?_)
  refine lv_iload_n hx hb dJ6_bitCount_0f7a4_48 rfl (lv_at hl 0 rfl) ?_
  refine lv_bipush (v := nI 63) hx hb dJ6_bitCount_0f7a4_49 (by decide) ?_
  refine z_iand (v := (bc5 (bc4 (bc3 (bc2 (bc1 x))))) &&& (nI 63)) hx hb dJ6_bitCount_0f7a4_51 (rfl) ?_
  exact hq ((bc5 (bc4 (bc3 (bc2 (bc1 x))))) &&& (nI 63)) 52 ls dJ6_bitCount_0f7a4_52 (show ((bc5 (bc4 (bc3 (bc2 (bc1 x))))) &&& (nI 63)) = bcF x from rfl)
abbrev rm_c_X1_fewestToBeSafe : Room := { frames := 4, cells := 0, slots := 0, locals := 90 }
set_option maxHeartbeats 4000000 in
set_option maxRecDepth 100000 in
theorem c_X1_fewestToBeSafe (l : Launch) (dC : Nat → ClassId) (dI : Nat → Nat → Nat) (cI cZ : ClassId) (ad : Nat → Nat) (σ : St) (Hn B L C V M : Nat) (hI : Inv σ Hn B L C V M) (j : Nat) (hj : j < Hn) : Met l yX1_fewestToBeSafe wsX1_fewestToBeSafe rm_c_X1_fewestToBeSafe (va_Pc [.ref (ad 0), .int (nI j)] (fun U => va_P (dC, dI) vwCl (mw cI cZ ad σ) U.heap ∧ va_K (dC, dI) vwCl (tyIZ cI cZ) U)) (vp_Si (fun r : Int32 => r = fewF σ B j)) 0 0 (fun _ => False) := by
  refine z_pureI (cc := cX1_fewestToBeSafe) (maxL := 6) (av := [.ref (ad 0), .int (nI j)]) (by decide) rfl (Nat.le_of_ble_eq_true rfl) ?_
  intro p e s m below meth c Q ls hx hb hml hown hts ⟨hP, hK⟩ hq hl
  have hown : s.vm.findClass RX1 = some m.cls := hown
  have hin1 : ∀ w ∈ wsX10, w ∈ wsX1_fewestToBeSafe := fun _ h => List.mem_cons_of_mem _ (List.mem_append_right _ h)
  obtain ⟨⟨iL, iC, iV, iM, iH, iB, jL, jC, jV, jM, jH, jB⟩, iK, iDe, iAl, iHe, iWo, iO1, iO2⟩ := id hI
  have hl : lv_has ls 6 [(0, .ref (ad 0)), (1, .int (nI j))] := hl
  obtain ⟨w, hw, ew⟩ := own64 σ (nI j) jB
  refine lv_aload_n hx hb dX1_fewestToBeSafe_0 rfl (lv_at hl 0 rfl) ?_
  refine lv_iload_n hx hb dX1_fewestToBeSafe_1 rfl (lv_at hl 1 rfl) ?_
  refine z_callV (As := [.int (nI j)]) (rest := []) ⟨hx, hb, hml, hown, hts⟩ (c_X1_ownBits l dC dI cI cZ ad σ Hn B L C V M hI (nI j)) (cwV 1 hts gX1_fewestToBeSafe_X1_ownBits rfl rfl rfl (by decide +kernel) ⟨Nat.le_of_ble_eq_true rfl, Nat.le_of_ble_eq_true rfl⟩) hP hK (va_recv hK hP (ci := 1) (q0 := 0) rfl rfl) rfl hl.1 rfl (Nat.le_of_ble_eq_true rfl) ⟨Nat.zero_le _, Nat.zero_le _⟩ dX1_fewestToBeSafe_2 (fun r hr => ?_)
  obtain rfl : r = ownR σ (nI j) B := hr
  refine z_topi (v := nI w) (ew) ?_
  refine lv_istore_n (lv' := [(2, .int (nI w)), (0, .ref (ad 0)), (1, .int (nI j))]) hx hb dX1_fewestToBeSafe_5 rfl hl (by decide) rfl (fun ls hl => ?_)
  refine lv_aload_n hx hb dX1_fewestToBeSafe_6 rfl (lv_at hl 1 rfl) ?_
  refine lv_iload_n hx hb dX1_fewestToBeSafe_7 rfl (lv_at hl 2 rfl) ?_
  refine z_callV (As := [.int (nI j)]) (rest := []) ⟨hx, hb, hml, hown, hts⟩ (c_X1_heldBits l dC dI cI cZ ad σ Hn B L C V M hI (nI j)) (cwV 1 hts gX1_fewestToBeSafe_X1_heldBits rfl rfl rfl (by decide +kernel) ⟨Nat.le_of_ble_eq_true rfl, Nat.le_of_ble_eq_true rfl⟩) hP hK (va_recv hK hP (ci := 1) (q0 := 0) rfl rfl) rfl hl.1 rfl (Nat.le_of_ble_eq_true rfl) ⟨Nat.zero_le _, Nat.zero_le _⟩ dX1_fewestToBeSafe_8 (fun r hr => ?_)
  obtain rfl : r = heldF σ B (nI j) := hr
  refine lv_istore_n (lv' := [(3, .int (heldF σ B (nI j))), (2, .int (nI w)), (0, .ref (ad 0)), (1, .int (nI j))]) hx hb dX1_fewestToBeSafe_11 rfl hl (by decide) rfl (fun ls hl => ?_)
  refine lv_iconst (v := (-1)) hx hb dX1_fewestToBeSafe_12 (by decide) ?_
  refine lv_istore (lv' := [(4, .int (-1)), (3, .int (heldF σ B (nI j))), (2, .int (nI w)), (0, .ref (ad 0)), (1, .int (nI j))]) hx hb dX1_fewestToBeSafe_13 hl (by decide) rfl (fun ls hl => ?_)
  refine lv_iconst (v := nI 0) hx hb dX1_fewestToBeSafe_15 (by decide) ?_
  refine lv_istore (lv' := [(5, .int (nI 0)), (4, .int (-1)), (3, .int (heldF σ B (nI j))), (2, .int (nI w)), (0, .ref (ad 0)), (1, .int (nI j))]) hx hb dX1_fewestToBeSafe_16 hl (by decide) rfl (fun ls hl => ?_)
  suffices hlp18 : ∀ (nf : Nat) (k : Nat) (x18_5 : Int32) (x18_4 : Int32) (ls : Array Slot), (k ≤ w + 1) → x18_5 = nI k → x18_4 = fewR σ B j (nI w) (heldF σ B (nI j)) k → lv_has ls 6 [(5, .int x18_5), (4, .int x18_4), (3, .int (heldF σ B (nI j))), (2, .int (nI w)), (0, .ref (ad 0)), (1, .int (nI j))] → w + 1 - k < nf → W p l e rm_c_X1_fewestToBeSafe s m ([.ref (ad 0), .int (nI j)] : List Value).toArray below meth c s.heap [] 0 0 Q (F0 m 18 ls []) by
    exact hlp18 ((w + 1 - 0) + 1) 0 (nI 0) (-1) ls (by omega) rfl rfl (lv_sub hl [0, 1, 2, 3, 4, 5] rfl) (by omega)
  intro nf
  induction nf with
  | zero => intro k x18_5 x18_4 ls hk e18_5 e18_4 hl hn; omega
  | succ nf ih18 =>
    intro k x18_5 x18_4 ls hk e18_5 e18_4 hl hn
    subst e18_5
    subst e18_4
    have o1 := ones_lt k
    have o2 := ones_lt (tn (fewR σ B j (nI w) (heldF σ B (nI j)) k))
    refine lv_iload hx hb dX1_fewestToBeSafe_18 (lv_at hl 0 rfl) ?_
    refine lv_iload_n hx hb dX1_fewestToBeSafe_20 rfl (lv_at hl 3 rfl) ?_
    refine z_icmp_gt (a := k) (b := w) (tgt := 79) hx hb (by omega) (by omega) dX1_fewestToBeSafe_21 (by decide) (fun (c_21 : w < k) => ?_) (fun (c_21 : k ≤ w) => ?_)
    · skip
      refine lv_iload hx hb dX1_fewestToBeSafe_79 (lv_at hl 1 rfl) ?_
      exact hq (fewR σ B j (nI w) (heldF σ B (nI j)) k) 81 ls dX1_fewestToBeSafe_81 (show (fewR σ B j (nI w) (heldF σ B (nI j)) k) = fewF σ B j from (by unfold fewF; rw [ew, fewR_top hw 64 (by omega) (Nat.le_refl _), show w + 1 = k by omega]))
    · skip
      refine lv_iload hx hb dX1_fewestToBeSafe_24 (lv_at hl 0 rfl) ?_
      refine lv_iload_n hx hb dX1_fewestToBeSafe_26 rfl (lv_at hl 3 rfl) ?_
      refine lv_iconst (v := (-1)) hx hb dX1_fewestToBeSafe_27 (by decide) ?_
      refine z_ixor (v := znot (nI w)) hx hb dX1_fewestToBeSafe_28 (rfl) ?_
      refine z_iand (v := (nI k) &&& (znot (nI w))) hx hb dX1_fewestToBeSafe_29 (rfl) ?_
      refine lv_if_ne (tgt := 73) hx hb dX1_fewestToBeSafe_30 (by decide) (fun (c_30 : ¬ ((nI k) &&& (znot (nI w))) = 0) => ?_) (fun (c_30 : ((nI k) &&& (znot (nI w))) = 0) => ?_)
      · skip
        refine lv_iinc (v := nI (k + 1)) (lv' := [(5, .int (nI (k + 1))), (4, .int (fewR σ B j (nI w) (heldF σ B (nI j)) k)), (3, .int (heldF σ B (nI j))), (2, .int (nI w)), (0, .ref (ad 0)), (1, .int (nI j))]) hx hb dX1_fewestToBeSafe_73 hl (k := 0) rfl (nI_1 _) (by decide) rfl (fun ls hl => ?_)
        refine lv_goto (tgt := 18) hx hb dX1_fewestToBeSafe_76 (by decide) ?_
        exact ih18 (k + 1) (nI (k + 1)) (fewR σ B j (nI w) (heldF σ B (nI j)) k) ls (by omega) (show nI (k + 1) = nI (k + 1) from rfl) (show fewR σ B j (nI w) (heldF σ B (nI j)) k = fewR σ B j (nI w) (heldF σ B (nI j)) (k + 1) from fewR_a c_30) (lv_sub hl [0, 1, 2, 3, 4, 5] rfl) (by omega)
      · skip
        refine lv_aload_n hx hb dX1_fewestToBeSafe_33 rfl (lv_at hl 4 rfl) ?_
        refine lv_iload_n hx hb dX1_fewestToBeSafe_34 rfl (lv_at hl 5 rfl) ?_
        refine lv_iload_n hx hb dX1_fewestToBeSafe_35 rfl (lv_at hl 2 rfl) ?_
        refine lv_iload hx hb dX1_fewestToBeSafe_36 (lv_at hl 0 rfl) ?_
        refine lv_iconst (v := (-1)) hx hb dX1_fewestToBeSafe_38 (by decide) ?_
        refine z_ixor (v := znot (nI k)) hx hb dX1_fewestToBeSafe_39 (rfl) ?_
        refine z_iand (v := (heldF σ B (nI j)) &&& (znot (nI k))) hx hb dX1_fewestToBeSafe_40 (rfl) ?_
        refine z_callV (As := [.int (nI j), .int ((heldF σ B (nI j)) &&& (znot (nI k)))]) (rest := []) ⟨hx, hb, hml, hown, hts⟩ (c_X1_takenFrom l dC dI cI cZ ad σ Hn B L C V M hI j (by omega) ((heldF σ B (nI j)) &&& (znot (nI k)))) (cwV 2 hts gX1_fewestToBeSafe_X1_takenFrom rfl rfl rfl (by decide +kernel) ⟨Nat.le_of_ble_eq_true rfl, Nat.le_of_ble_eq_true rfl⟩) hP hK (va_recv hK hP (ci := 1) (q0 := 0) rfl rfl) rfl hl.1 rfl (Nat.le_of_ble_eq_true rfl) ⟨Nat.zero_le _, Nat.zero_le _⟩ dX1_fewestToBeSafe_41 (fun r hr => ?_)
        obtain rfl : r = takenF σ B j ((heldF σ B (nI j)) &&& (znot (nI k))) := hr
        refine lv_if_eq (tgt := 50) hx hb dX1_fewestToBeSafe_44 (by decide) (fun (c_44 : (takenF σ B j ((heldF σ B (nI j)) &&& (znot (nI k)))) = 0) => ?_) (fun (c_44 : ¬ ((takenF σ B j ((heldF σ B (nI j)) &&& (znot (nI k)))) = 0)) => ?_)
        · skip
          refine lv_iload hx hb dX1_fewestToBeSafe_50 (lv_at hl 1 rfl) ?_
          refine lv_iconst (v := (-1)) hx hb dX1_fewestToBeSafe_52 (by decide) ?_
          refine lv_icmp_eq (tgt := 69) hx hb dX1_fewestToBeSafe_53 (by decide) (fun (c_53 : (fewR σ B j (nI w) (heldF σ B (nI j)) k) = (-1)) => ?_) (fun (c_53 : ¬ ((fewR σ B j (nI w) (heldF σ B (nI j)) k) = (-1))) => ?_)
          · skip
            refine lv_iload hx hb dX1_fewestToBeSafe_69 (lv_at hl 0 rfl) ?_
            refine lv_istore (lv' := [(4, .int (nI k)), (5, .int (nI k)), (3, .int (heldF σ B (nI j))), (2, .int (nI w)), (0, .ref (ad 0)), (1, .int (nI j))]) hx hb dX1_fewestToBeSafe_71 hl (by decide) rfl (fun ls hl => ?_)
            refine lv_iinc (v := nI (k + 1)) (lv' := [(5, .int (nI (k + 1))), (4, .int (nI k)), (3, .int (heldF σ B (nI j))), (2, .int (nI w)), (0, .ref (ad 0)), (1, .int (nI j))]) hx hb dX1_fewestToBeSafe_73 hl (k := 1) rfl (nI_1 _) (by decide) rfl (fun ls hl => ?_)
            refine lv_goto (tgt := 18) hx hb dX1_fewestToBeSafe_76 (by decide) ?_
            exact ih18 (k + 1) (nI (k + 1)) (nI k) ls (by omega) (show nI (k + 1) = nI (k + 1) from rfl) (show nI k = fewR σ B j (nI w) (heldF σ B (nI j)) (k + 1) from fewR_c c_30 c_44 (Or.inl c_53)) (lv_sub hl [0, 1, 2, 3, 4, 5] rfl) (by omega)
          · skip
            refine lv_iload hx hb dX1_fewestToBeSafe_56 (lv_at hl 0 rfl) ?_
            refine z_callS (As := [.int (nI k)]) (rest := []) ⟨hx, hb, hml, hown, hts⟩ (c_J6_bitCount_0f7a4 l (nI k)) (va_cwS 1 hts gX1_fewestToBeSafe_J6_bitCount_0f7a4 rfl rfl rfl (by decide +kernel) ⟨Nat.le_of_ble_eq_true rfl, Nat.le_of_ble_eq_true rfl⟩) rfl hl.1 rfl (Nat.le_of_ble_eq_true rfl) ⟨Nat.zero_le _, Nat.zero_le _⟩ dX1_fewestToBeSafe_58 (fun r hr => ?_)
            obtain rfl : r = bcF (nI k) := hr
            refine z_topi (v := nI (ones k)) (bc_nI k (by omega)) ?_
            refine lv_iload hx hb dX1_fewestToBeSafe_61 (lv_at hl 1 rfl) ?_
            refine z_callS (As := [.int (fewR σ B j (nI w) (heldF σ B (nI j)) k)]) (rest := [.int (nI (ones k))]) ⟨hx, hb, hml, hown, hts⟩ (c_J6_bitCount_0f7a4 l (fewR σ B j (nI w) (heldF σ B (nI j)) k)) (va_cwS 1 hts gX1_fewestToBeSafe_J6_bitCount_0f7a4 rfl rfl rfl (by decide +kernel) ⟨Nat.le_of_ble_eq_true rfl, Nat.le_of_ble_eq_true rfl⟩) rfl hl.1 rfl (Nat.le_of_ble_eq_true rfl) ⟨Nat.zero_le _, Nat.zero_le _⟩ dX1_fewestToBeSafe_63 (fun r hr => ?_)
            obtain rfl : r = bcF (fewR σ B j (nI w) (heldF σ B (nI j)) k) := hr
            refine z_topi (v := nI (ones (tn (fewR σ B j (nI w) (heldF σ B (nI j)) k)))) (bc_tn (let ⟨i, hi, e⟩ := (fewR_in k).resolve_left c_53; ⟨i, by omega, e⟩)) ?_
            refine z_icmp_ge (a := ones k) (b := ones (tn (fewR σ B j (nI w) (heldF σ B (nI j)) k))) (tgt := 73) hx hb (by omega) (by omega) dX1_fewestToBeSafe_66 (by decide) (fun (c_66 : (ones (tn (fewR σ B j (nI w) (heldF σ B (nI j)) k))) ≤ (ones k)) => ?_) (fun (c_66 : (ones k) < (ones (tn (fewR σ B j (nI w) (heldF σ B (nI j)) k)))) => ?_)
            · skip
              refine lv_iinc (v := nI (k + 1)) (lv' := [(5, .int (nI (k + 1))), (4, .int (fewR σ B j (nI w) (heldF σ B (nI j)) k)), (3, .int (heldF σ B (nI j))), (2, .int (nI w)), (0, .ref (ad 0)), (1, .int (nI j))]) hx hb dX1_fewestToBeSafe_73 hl (k := 0) rfl (nI_1 _) (by decide) rfl (fun ls hl => ?_)
              refine lv_goto (tgt := 18) hx hb dX1_fewestToBeSafe_76 (by decide) ?_
              exact ih18 (k + 1) (nI (k + 1)) (fewR σ B j (nI w) (heldF σ B (nI j)) k) ls (by omega) (show nI (k + 1) = nI (k + 1) from rfl) (show fewR σ B j (nI w) (heldF σ B (nI j)) k = fewR σ B j (nI w) (heldF σ B (nI j)) (k + 1) from fewR_d c_53 c_66) (lv_sub hl [0, 1, 2, 3, 4, 5] rfl) (by omega)
            · skip
              refine lv_iload hx hb dX1_fewestToBeSafe_69 (lv_at hl 0 rfl) ?_
              refine lv_istore (lv' := [(4, .int (nI k)), (5, .int (nI k)), (3, .int (heldF σ B (nI j))), (2, .int (nI w)), (0, .ref (ad 0)), (1, .int (nI j))]) hx hb dX1_fewestToBeSafe_71 hl (by decide) rfl (fun ls hl => ?_)
              refine lv_iinc (v := nI (k + 1)) (lv' := [(5, .int (nI (k + 1))), (4, .int (nI k)), (3, .int (heldF σ B (nI j))), (2, .int (nI w)), (0, .ref (ad 0)), (1, .int (nI j))]) hx hb dX1_fewestToBeSafe_73 hl (k := 1) rfl (nI_1 _) (by decide) rfl (fun ls hl => ?_)
              refine lv_goto (tgt := 18) hx hb dX1_fewestToBeSafe_76 (by decide) ?_
              exact ih18 (k + 1) (nI (k + 1)) (nI k) ls (by omega) (show nI (k + 1) = nI (k + 1) from rfl) (show nI k = fewR σ B j (nI w) (heldF σ B (nI j)) (k + 1) from fewR_c c_30 c_44 (Or.inr c_66)) (lv_sub hl [0, 1, 2, 3, 4, 5] rfl) (by omega)
        · skip
          refine lv_goto (tgt := 73) hx hb dX1_fewestToBeSafe_47 (by decide) ?_
          refine lv_iinc (v := nI (k + 1)) (lv' := [(5, .int (nI (k + 1))), (4, .int (fewR σ B j (nI w) (heldF σ B (nI j)) k)), (3, .int (heldF σ B (nI j))), (2, .int (nI w)), (0, .ref (ad 0)), (1, .int (nI j))]) hx hb dX1_fewestToBeSafe_73 hl (k := 0) rfl (nI_1 _) (by decide) rfl (fun ls hl => ?_)
          refine lv_goto (tgt := 18) hx hb dX1_fewestToBeSafe_76 (by decide) ?_
          exact ih18 (k + 1) (nI (k + 1)) (fewR σ B j (nI w) (heldF σ B (nI j)) k) ls (by omega) (show nI (k + 1) = nI (k + 1) from rfl) (show fewR σ B j (nI w) (heldF σ B (nI j)) k = fewR σ B j (nI w) (heldF σ B (nI j)) (k + 1) from fewR_b c_44) (lv_sub hl [0, 1, 2, 3, 4, 5] rfl) (by omega)
abbrev rm_c_X1_lostOnMean : Room := { frames := 3, cells := 0, slots := 0, locals := 71 }
set_option maxHeartbeats 4000000 in
set_option maxRecDepth 100000 in
theorem c_X1_lostOnMean (l : Launch) (dC : Nat → ClassId) (dI : Nat → Nat → Nat) (cI cZ : ClassId) (ad : Nat → Nat) (σ : St) (Hn B L C V M : Nat) (hI : Inv σ Hn B L C V M) (j : Nat) (hj : j < Hn) (y : Nat) (hy : y ≤ 4) (gift : Int32) : Met l yX1_lostOnMean wsX1_lostOnMean rm_c_X1_lostOnMean (va_Pc [.ref (ad 0), .int (nI j), .int (nI y), .int gift] (fun U => va_P (dC, dI) vwCl (mw cI cZ ad σ) U.heap ∧ va_K (dC, dI) vwCl (tyIZ cI cZ) U)) (vp_Si (fun r : Int32 => r = lostR σ B j gift y)) 0 0 (fun _ => False) := by
  refine z_pureI (cc := cX1_lostOnMean) (maxL := 8) (av := [.ref (ad 0), .int (nI j), .int (nI y), .int gift]) (by decide) rfl (Nat.le_of_ble_eq_true rfl) ?_
  intro p e s m below meth c Q ls hx hb hml hown hts ⟨hP, hK⟩ hq hl
  have hown : s.vm.findClass RX1 = some m.cls := hown
  have hin1 : ∀ w ∈ wsX10, w ∈ wsX1_lostOnMean := fun _ h => List.mem_cons_of_mem _ (List.mem_append_right _ h)
  have L31 := hts (.fieldLink RX1 31 "BestBeast$Manor" "death" "[I") (List.mem_of_getElem? (i := 1) rfl)
  obtain ⟨⟨iL, iC, iV, iM, iH, iB, jL, jC, jV, jM, jH, jB⟩, iK, iDe, iAl, iHe, iWo, iO1, iO2⟩ := id hI
  have hl : lv_has ls 8 [(0, .ref (ad 0)), (1, .int (nI j)), (2, .int (nI y)), (3, .int gift)] := hl
  refine lv_aload_n hx hb dX1_lostOnMean_0 rfl (lv_at hl 0 rfl) ?_
  refine lv_iload_n hx hb dX1_lostOnMean_1 rfl (lv_at hl 1 rfl) ?_
  refine z_callV (As := [.int (nI j)]) (rest := []) ⟨hx, hb, hml, hown, hts⟩ (c_X1_hasHolder l dC dI cI cZ ad σ Hn B L C V M hI.1 (nI j)) (cwV 1 hts gX1_lostOnMean_X1_hasHolder rfl rfl rfl (by decide +kernel) ⟨Nat.le_of_ble_eq_true rfl, Nat.le_of_ble_eq_true rfl⟩) hP hK (va_recv hK hP (ci := 1) (q0 := 0) rfl rfl) rfl hl.1 rfl (Nat.le_of_ble_eq_true rfl) ⟨Nat.zero_le _, Nat.zero_le _⟩ dX1_lostOnMean_2 (fun r hr => ?_)
  obtain rfl : r = zb (hasP Hn (nI j)) := hr
  refine z_ifne_b (P := hasP Hn (nI j)) (tgt := 10) hx hb dX1_lostOnMean_5 (by decide) (fun (c_5 : hasP Hn (nI j)) => ?_) (fun (z9 : ¬ (hasP Hn (nI j))) => absurd (hasP_nI hj) z9)
  refine lv_iconst (v := nI 0) hx hb dX1_lostOnMean_10 (by decide) ?_
  refine lv_istore (lv' := [(4, .int (nI 0)), (0, .ref (ad 0)), (1, .int (nI j)), (2, .int (nI y)), (3, .int gift)]) hx hb dX1_lostOnMean_11 hl (by decide) rfl (fun ls hl => ?_)
  refine lv_iconst (v := nI 1) hx hb dX1_lostOnMean_13 (by decide) ?_
  refine lv_istore (lv' := [(5, .int (nI 1)), (4, .int (nI 0)), (0, .ref (ad 0)), (1, .int (nI j)), (2, .int (nI y)), (3, .int gift)]) hx hb dX1_lostOnMean_14 hl (by decide) rfl (fun ls hl => ?_)
  refine lv_iconst (v := nI 0) hx hb dX1_lostOnMean_16 (by decide) ?_
  refine lv_istore (lv' := [(6, .int (nI 0)), (5, .int (nI 1)), (4, .int (nI 0)), (0, .ref (ad 0)), (1, .int (nI j)), (2, .int (nI y)), (3, .int gift)]) hx hb dX1_lostOnMean_17 hl (by decide) rfl (fun ls hl => ?_)
  suffices hlp19 : ∀ (nf : Nat) (k : Nat) (x19_6 : Int32) (x19_5 : Int32) (x19_4 : Int32) (ls : Array Slot), (k ≤ y) → x19_6 = nI k → x19_5 = stillR σ j k → x19_4 = lostR σ B j gift k → lv_has ls 8 [(6, .int x19_6), (5, .int x19_5), (4, .int x19_4), (0, .ref (ad 0)), (1, .int (nI j)), (2, .int (nI y)), (3, .int gift)] → y - k < nf → W p l e rm_c_X1_lostOnMean s m ([.ref (ad 0), .int (nI j), .int (nI y), .int gift] : List Value).toArray below meth c s.heap [] 0 0 Q (F0 m 19 ls []) by
    exact hlp19 ((y - 0) + 1) 0 (nI 0) (nI 1) (nI 0) ls (by omega) rfl rfl rfl (lv_sub hl [0, 1, 2, 3, 4, 5, 6] rfl) (by omega)
  intro nf
  induction nf with
  | zero => intro k x19_6 x19_5 x19_4 ls hk e19_6 e19_5 e19_4 hl hn; omega
  | succ nf ih19 =>
    intro k x19_6 x19_5 x19_4 ls hk e19_6 e19_5 e19_4 hl hn
    subst e19_6
    subst e19_5
    subst e19_4
    refine lv_iload hx hb dX1_lostOnMean_19 (lv_at hl 0 rfl) ?_
    refine lv_iload_n hx hb dX1_lostOnMean_21 rfl (lv_at hl 5 rfl) ?_
    refine z_icmp_ge (a := k) (b := y) (tgt := 84) hx hb (by omega) (by omega) dX1_lostOnMean_22 (by decide) (fun (c_22 : y ≤ k) => ?_) (fun (c_22 : k < y) => ?_)
    · skip
      refine lv_iload hx hb dX1_lostOnMean_84 (lv_at hl 2 rfl) ?_
      exact hq (lostR σ B j gift k) 86 ls dX1_lostOnMean_86 (show (lostR σ B j gift k) = lostR σ B j gift y from (by rw [show y = k by omega]))
    · skip
      refine lv_aload_n hx hb dX1_lostOnMean_25 rfl (lv_at hl 3 rfl) ?_
      refine lv_aload_n hx hb dX1_lostOnMean_26 rfl (lv_at hl 3 rfl) ?_
      refine lv_iload_n hx hb dX1_lostOnMean_27 rfl (lv_at hl 4 rfl) ?_
      refine lv_aload_n hx hb dX1_lostOnMean_28 rfl (lv_at hl 3 rfl) ?_
      refine lv_iload_n hx hb dX1_lostOnMean_29 rfl (lv_at hl 4 rfl) ?_
      refine lv_iload hx hb dX1_lostOnMean_30 (lv_at hl 0 rfl) ?_
      refine lv_iload_n hx hb dX1_lostOnMean_32 rfl (lv_at hl 6 rfl) ?_
      refine z_callV (As := [.int (nI j), .int (nI k), .int gift]) (rest := [.int (nI j), .ref (ad 0), .ref (ad 0)]) ⟨hx, hb, hml, hown, hts⟩ (c_X1_heldLater l dC dI cI cZ ad σ Hn B L C V M hI (nI j) (nI k) gift) (cwV 3 hts gX1_lostOnMean_X1_heldLater rfl rfl rfl (by decide +kernel) ⟨Nat.le_of_ble_eq_true rfl, Nat.le_of_ble_eq_true rfl⟩) hP hK (va_recv hK hP (ci := 1) (q0 := 0) rfl rfl) rfl hl.1 rfl (Nat.le_of_ble_eq_true rfl) ⟨Nat.zero_le _, Nat.zero_le _⟩ dX1_lostOnMean_33 (fun r hr => ?_)
      obtain rfl : r = heldL σ B (nI j) (nI k) gift := hr
      refine z_callV (As := [.int (nI j), .int (heldL σ B (nI j) (nI k) gift)]) (rest := [.ref (ad 0)]) ⟨hx, hb, hml, hown, hts⟩ (c_X1_takenFrom l dC dI cI cZ ad σ Hn B L C V M hI j (by omega) (heldL σ B (nI j) (nI k) gift)) (cwV 2 hts gX1_lostOnMean_X1_takenFrom rfl rfl rfl (by decide +kernel) ⟨Nat.le_of_ble_eq_true rfl, Nat.le_of_ble_eq_true rfl⟩) hP hK (va_recv hK hP (ci := 1) (q0 := 0) rfl rfl) rfl hl.1 rfl (Nat.le_of_ble_eq_true rfl) ⟨Nat.zero_le _, Nat.zero_le _⟩ dX1_lostOnMean_36 (fun r hr => ?_)
      obtain rfl : r = takenF σ B j (heldL σ B (nI j) (nI k) gift) := hr
      refine z_callV (As := [.int (takenF σ B j (heldL σ B (nI j) (nI k) gift))]) (rest := []) ⟨hx, hb, hml, hown, hts⟩ (c_X1_worthOf l dC dI cI cZ ad σ Hn B L C V M hI (takenF σ B j (heldL σ B (nI j) (nI k) gift))) (cwV 1 hts gX1_lostOnMean_X1_worthOf rfl rfl rfl (by decide +kernel) ⟨Nat.le_of_ble_eq_true rfl, Nat.le_of_ble_eq_true rfl⟩) hP hK (va_recv hK hP (ci := 1) (q0 := 0) rfl rfl) rfl hl.1 rfl (Nat.le_of_ble_eq_true rfl) ⟨Nat.zero_le _, Nat.zero_le _⟩ dX1_lostOnMean_39 (fun r hr => ?_)
      obtain rfl : r = worthR σ (takenF σ B j (heldL σ B (nI j) (nI k) gift)) B := hr
      refine lv_istore (lv' := [(7, .int (worthR σ (takenF σ B j (heldL σ B (nI j) (nI k) gift)) B)), (6, .int (nI k)), (5, .int (stillR σ j k)), (4, .int (lostR σ B j gift k)), (0, .ref (ad 0)), (1, .int (nI j)), (2, .int (nI y)), (3, .int gift)]) hx hb dX1_lostOnMean_42 hl (by decide) rfl (fun ls hl => ?_)
      refine lv_iload hx hb dX1_lostOnMean_44 (lv_at hl 3 rfl) ?_
      refine lv_bipush (v := nI 10) hx hb dX1_lostOnMean_46 (by decide) ?_
      refine z_imul (v := (lostR σ B j gift k) * (nI 10)) hx hb dX1_lostOnMean_48 (rfl) ?_
      refine lv_iload hx hb dX1_lostOnMean_49 (lv_at hl 2 rfl) ?_
      refine lv_aload_n hx hb dX1_lostOnMean_51 rfl (lv_at hl 4 rfl) ?_
      refine va_get (D := (dC, dI)) (ci := 1) (v := .ref (ad 2)) (C := RX1) (T := TX1) (N := 17) hx hb hts hin1 hown hK hP 0 rfl rfl 6 (by decide) L31 (fun _ h9 => h9) rfl dX1_lostOnMean_52 ?_
      refine lv_iload_n hx hb dX1_lostOnMean_55 rfl (lv_at hl 5 rfl) ?_
      refine z_iald (D := (dC, dI)) hx hb hK hP 2 0 rfl rfl j (rfl) (by omega) (by omega) (v := (σ 2) j) (rfl) dX1_lostOnMean_56 ?_
      refine z_imul (v := (stillR σ j k) * ((σ 2) j)) hx hb dX1_lostOnMean_57 (rfl) ?_
      refine lv_iload hx hb dX1_lostOnMean_58 (lv_at hl 0 rfl) ?_
      refine z_imul (v := ((stillR σ j k) * ((σ 2) j)) * (worthR σ (takenF σ B j (heldL σ B (nI j) (nI k) gift)) B)) hx hb dX1_lostOnMean_60 (rfl) ?_
      refine z_iadd (v := ((lostR σ B j gift k) * (nI 10)) + (((stillR σ j k) * ((σ 2) j)) * (worthR σ (takenF σ B j (heldL σ B (nI j) (nI k) gift)) B))) hx hb dX1_lostOnMean_61 (rfl) ?_
      refine lv_istore (lv' := [(4, .int (((lostR σ B j gift k) * (nI 10)) + (((stillR σ j k) * ((σ 2) j)) * (worthR σ (takenF σ B j (heldL σ B (nI j) (nI k) gift)) B)))), (7, .int (worthR σ (takenF σ B j (heldL σ B (nI j) (nI k) gift)) B)), (6, .int (nI k)), (5, .int (stillR σ j k)), (0, .ref (ad 0)), (1, .int (nI j)), (2, .int (nI y)), (3, .int gift)]) hx hb dX1_lostOnMean_62 hl (by decide) rfl (fun ls hl => ?_)
      refine lv_iload hx hb dX1_lostOnMean_64 (lv_at hl 3 rfl) ?_
      refine lv_bipush (v := nI 10) hx hb dX1_lostOnMean_66 (by decide) ?_
      refine lv_aload_n hx hb dX1_lostOnMean_68 rfl (lv_at hl 4 rfl) ?_
      refine va_get (D := (dC, dI)) (ci := 1) (v := .ref (ad 2)) (C := RX1) (T := TX1) (N := 17) hx hb hts hin1 hown hK hP 0 rfl rfl 6 (by decide) L31 (fun _ h9 => h9) rfl dX1_lostOnMean_69 ?_
      refine lv_iload_n hx hb dX1_lostOnMean_72 rfl (lv_at hl 5 rfl) ?_
      refine z_iald (D := (dC, dI)) hx hb hK hP 2 0 rfl rfl j (rfl) (by omega) (by omega) (v := (σ 2) j) (rfl) dX1_lostOnMean_73 ?_
      refine z_isub (v := (nI 10) - ((σ 2) j)) hx hb dX1_lostOnMean_74 (rfl) ?_
      refine z_imul (v := (stillR σ j k) * ((nI 10) - ((σ 2) j))) hx hb dX1_lostOnMean_75 (rfl) ?_
      refine lv_istore (lv' := [(5, .int ((stillR σ j k) * ((nI 10) - ((σ 2) j)))), (4, .int (((lostR σ B j gift k) * (nI 10)) + (((stillR σ j k) * ((σ 2) j)) * (worthR σ (takenF σ B j (heldL σ B (nI j) (nI k) gift)) B)))), (7, .int (worthR σ (takenF σ B j (heldL σ B (nI j) (nI k) gift)) B)), (6, .int (nI k)), (0, .ref (ad 0)), (1, .int (nI j)), (2, .int (nI y)), (3, .int gift)]) hx hb dX1_lostOnMean_76 hl (by decide) rfl (fun ls hl => ?_)
      refine lv_iinc (v := nI (k + 1)) (lv' := [(6, .int (nI (k + 1))), (5, .int ((stillR σ j k) * ((nI 10) - ((σ 2) j)))), (4, .int (((lostR σ B j gift k) * (nI 10)) + (((stillR σ j k) * ((σ 2) j)) * (worthR σ (takenF σ B j (heldL σ B (nI j) (nI k) gift)) B)))), (7, .int (worthR σ (takenF σ B j (heldL σ B (nI j) (nI k) gift)) B)), (0, .ref (ad 0)), (1, .int (nI j)), (2, .int (nI y)), (3, .int gift)]) hx hb dX1_lostOnMean_78 hl (k := 3) rfl (nI_1 _) (by decide) rfl (fun ls hl => ?_)
      refine lv_goto (tgt := 19) hx hb dX1_lostOnMean_81 (by decide) ?_
      exact ih19 (k + 1) (nI (k + 1)) ((stillR σ j k) * ((nI 10) - ((σ 2) j))) (((lostR σ B j gift k) * (nI 10)) + (((stillR σ j k) * ((σ 2) j)) * (worthR σ (takenF σ B j (heldL σ B (nI j) (nI k) gift)) B))) ls (by omega) (show nI (k + 1) = nI (k + 1) from rfl) (show (stillR σ j k) * ((nI 10) - ((σ 2) j)) = stillR σ j (k + 1) from rfl) (show ((lostR σ B j gift k) * (nI 10)) + (((stillR σ j k) * ((σ 2) j)) * (worthR σ (takenF σ B j (heldL σ B (nI j) (nI k) gift)) B)) = lostR σ B j gift (k + 1) from rfl) (lv_sub hl [0, 1, 2, 4, 5, 6, 7] rfl) (by omega)
abbrev rm_c_X1_bestGift : Room := { frames := 4, cells := 0, slots := 0, locals := 98 }
set_option maxHeartbeats 4000000 in
set_option maxRecDepth 100000 in
theorem c_X1_bestGift (l : Launch) (dC : Nat → ClassId) (dI : Nat → Nat → Nat) (cI cZ : ClassId) (ad : Nat → Nat) (σ : St) (Hn B L C V M : Nat) (hI : Inv σ Hn B L C V M) (j : Nat) (hj : j < Hn) (y : Nat) (hy : y ≤ 4) : Met l yX1_bestGift wsX1_bestGift rm_c_X1_bestGift (va_Pc [.ref (ad 0), .int (nI j), .int (nI y)] (fun U => va_P (dC, dI) vwCl (mw cI cZ ad σ) U.heap ∧ va_K (dC, dI) vwCl (tyIZ cI cZ) U)) (vp_Si (fun r : Int32 => r = giveF σ B j y)) 0 0 (fun _ => False) := by
  refine z_pureI (cc := cX1_bestGift) (maxL := 9) (av := [.ref (ad 0), .int (nI j), .int (nI y)]) (by decide) rfl (Nat.le_of_ble_eq_true rfl) ?_
  intro p e s m below meth c Q ls hx hb hml hown hts ⟨hP, hK⟩ hq hl
  have hown : s.vm.findClass RX1 = some m.cls := hown
  have hin1 : ∀ w ∈ wsX10, w ∈ wsX1_bestGift := fun _ h => List.mem_cons_of_mem _ (List.mem_append_right _ h)
  obtain ⟨⟨iL, iC, iV, iM, iH, iB, jL, jC, jV, jM, jH, jB⟩, iK, iDe, iAl, iHe, iWo, iO1, iO2⟩ := id hI
  have hl : lv_has ls 9 [(0, .ref (ad 0)), (1, .int (nI j)), (2, .int (nI y))] := hl
  obtain ⟨w, hw, ew⟩ := own64 σ (nI j) jB
  refine lv_aload_n hx hb dX1_bestGift_0 rfl (lv_at hl 0 rfl) ?_
  refine lv_iload_n hx hb dX1_bestGift_1 rfl (lv_at hl 1 rfl) ?_
  refine z_callV (As := [.int (nI j)]) (rest := []) ⟨hx, hb, hml, hown, hts⟩ (c_X1_ownBits l dC dI cI cZ ad σ Hn B L C V M hI (nI j)) (cwV 1 hts gX1_bestGift_X1_ownBits rfl rfl rfl (by decide +kernel) ⟨Nat.le_of_ble_eq_true rfl, Nat.le_of_ble_eq_true rfl⟩) hP hK (va_recv hK hP (ci := 1) (q0 := 0) rfl rfl) rfl hl.1 rfl (Nat.le_of_ble_eq_true rfl) ⟨Nat.zero_le _, Nat.zero_le _⟩ dX1_bestGift_2 (fun r hr => ?_)
  obtain rfl : r = ownR σ (nI j) B := hr
  refine z_topi (v := nI w) (ew) ?_
  refine lv_istore_n (lv' := [(3, .int (nI w)), (0, .ref (ad 0)), (1, .int (nI j)), (2, .int (nI y))]) hx hb dX1_bestGift_5 rfl hl (by decide) rfl (fun ls hl => ?_)
  refine lv_iconst (v := nI 0) hx hb dX1_bestGift_6 (by decide) ?_
  refine lv_istore (lv' := [(4, .int (nI 0)), (3, .int (nI w)), (0, .ref (ad 0)), (1, .int (nI j)), (2, .int (nI y))]) hx hb dX1_bestGift_7 hl (by decide) rfl (fun ls hl => ?_)
  refine lv_aload_n hx hb dX1_bestGift_9 rfl (lv_at hl 2 rfl) ?_
  refine lv_iload_n hx hb dX1_bestGift_10 rfl (lv_at hl 3 rfl) ?_
  refine lv_iload_n hx hb dX1_bestGift_11 rfl (lv_at hl 4 rfl) ?_
  refine lv_iconst (v := nI 0) hx hb dX1_bestGift_12 (by decide) ?_
  refine z_callV (As := [.int (nI j), .int (nI y), .int (nI 0)]) (rest := []) ⟨hx, hb, hml, hown, hts⟩ (c_X1_lostOnMean l dC dI cI cZ ad σ Hn B L C V M hI j (by omega) y (by omega) (nI 0)) (cwV 3 hts gX1_bestGift_X1_lostOnMean rfl rfl rfl (by decide +kernel) ⟨Nat.le_of_ble_eq_true rfl, Nat.le_of_ble_eq_true rfl⟩) hP hK (va_recv hK hP (ci := 1) (q0 := 0) rfl rfl) rfl hl.1 rfl (Nat.le_of_ble_eq_true rfl) ⟨Nat.zero_le _, Nat.zero_le _⟩ dX1_bestGift_13 (fun r hr => ?_)
  obtain rfl : r = lostR σ B j (nI 0) y := hr
  refine lv_istore (lv' := [(5, .int (lostR σ B j (nI 0) y)), (4, .int (nI 0)), (3, .int (nI w)), (0, .ref (ad 0)), (1, .int (nI j)), (2, .int (nI y))]) hx hb dX1_bestGift_16 hl (by decide) rfl (fun ls hl => ?_)
  refine lv_iconst (v := nI 1) hx hb dX1_bestGift_18 (by decide) ?_
  refine lv_istore (lv' := [(6, .int (nI 1)), (5, .int (lostR σ B j (nI 0) y)), (4, .int (nI 0)), (3, .int (nI w)), (0, .ref (ad 0)), (1, .int (nI j)), (2, .int (nI y))]) hx hb dX1_bestGift_19 hl (by decide) rfl (fun ls hl => ?_)
  suffices hlp21 : ∀ (nf : Nat) (k : Nat) (t : Nat) (x21_6 : Int32) (x21_5 : Int32) (x21_4 : Int32) (ls : Array Slot), (1 ≤ k ∧ k ≤ w + 1) → (t < 64) → (giveR σ B j y (nI w) k = nI t) → x21_6 = nI k → x21_5 = lostR σ B j (nI t) y → x21_4 = nI t → lv_has ls 9 [(6, .int x21_6), (5, .int x21_5), (4, .int x21_4), (3, .int (nI w)), (0, .ref (ad 0)), (1, .int (nI j)), (2, .int (nI y))] → w + 1 - k < nf → W p l e rm_c_X1_bestGift s m ([.ref (ad 0), .int (nI j), .int (nI y)] : List Value).toArray below meth c s.heap [] 0 0 Q (F0 m 21 ls []) by
    exact hlp21 ((w + 1 - 1) + 1) 1 0 (nI 1) (lostR σ B j (nI 0) y) (nI 0) ls (by omega) (by omega) (giveR_1 _) rfl rfl rfl (lv_sub hl [0, 1, 2, 3, 4, 5, 6] rfl) (by omega)
  intro nf
  induction nf with
  | zero => intro k t x21_6 x21_5 x21_4 ls hk ht6 ht e21_6 e21_5 e21_4 hl hn; omega
  | succ nf ih21 =>
    intro k t x21_6 x21_5 x21_4 ls hk ht6 ht e21_6 e21_5 e21_4 hl hn
    subst e21_6
    subst e21_5
    subst e21_4
    have o1 := ones_lt k
    have o2 := ones_lt t
    refine lv_iload hx hb dX1_bestGift_21 (lv_at hl 0 rfl) ?_
    refine lv_iload_n hx hb dX1_bestGift_23 rfl (lv_at hl 3 rfl) ?_
    refine z_icmp_gt (a := k) (b := w) (tgt := 102) hx hb (by omega) (by omega) dX1_bestGift_24 (by decide) (fun (c_24 : w < k) => ?_) (fun (c_24 : k ≤ w) => ?_)
    · skip
      refine lv_iload hx hb dX1_bestGift_102 (lv_at hl 2 rfl) ?_
      exact hq (nI t) 104 ls dX1_bestGift_104 (show (nI t) = giveF σ B j y from (by unfold giveF; rw [ew, giveR_top hw 64 (by omega) (Nat.le_refl _), show w + 1 = k by omega]; exact ht.symm))
    · skip
      refine lv_iload hx hb dX1_bestGift_27 (lv_at hl 0 rfl) ?_
      refine lv_iload_n hx hb dX1_bestGift_29 rfl (lv_at hl 3 rfl) ?_
      refine lv_iconst (v := (-1)) hx hb dX1_bestGift_30 (by decide) ?_
      refine z_ixor (v := znot (nI w)) hx hb dX1_bestGift_31 (rfl) ?_
      refine z_iand (v := (nI k) &&& (znot (nI w))) hx hb dX1_bestGift_32 (rfl) ?_
      refine lv_if_eq (tgt := 39) hx hb dX1_bestGift_33 (by decide) (fun (c_33 : ((nI k) &&& (znot (nI w))) = 0) => ?_) (fun (c_33 : ¬ (((nI k) &&& (znot (nI w))) = 0)) => ?_)
      · skip
        refine lv_aload_n hx hb dX1_bestGift_39 rfl (lv_at hl 4 rfl) ?_
        refine lv_iload_n hx hb dX1_bestGift_40 rfl (lv_at hl 5 rfl) ?_
        refine lv_iload_n hx hb dX1_bestGift_41 rfl (lv_at hl 6 rfl) ?_
        refine lv_iload hx hb dX1_bestGift_42 (lv_at hl 0 rfl) ?_
        refine z_callV (As := [.int (nI j), .int (nI y), .int (nI k)]) (rest := []) ⟨hx, hb, hml, hown, hts⟩ (c_X1_lostOnMean l dC dI cI cZ ad σ Hn B L C V M hI j (by omega) y (by omega) (nI k)) (cwV 3 hts gX1_bestGift_X1_lostOnMean rfl rfl rfl (by decide +kernel) ⟨Nat.le_of_ble_eq_true rfl, Nat.le_of_ble_eq_true rfl⟩) hP hK (va_recv hK hP (ci := 1) (q0 := 0) rfl rfl) rfl hl.1 rfl (Nat.le_of_ble_eq_true rfl) ⟨Nat.zero_le _, Nat.zero_le _⟩ dX1_bestGift_44 (fun r hr => ?_)
        obtain rfl : r = lostR σ B j (nI k) y := hr
        refine lv_istore (lv' := [(7, .int (lostR σ B j (nI k) y)), (6, .int (nI k)), (5, .int (lostR σ B j (nI t) y)), (4, .int (nI t)), (3, .int (nI w)), (0, .ref (ad 0)), (1, .int (nI j)), (2, .int (nI y))]) hx hb dX1_bestGift_47 hl (by decide) rfl (fun ls hl => ?_)
        refine lv_iload hx hb dX1_bestGift_49 (lv_at hl 1 rfl) ?_
        refine z_callS (As := [.int (nI k)]) (rest := []) ⟨hx, hb, hml, hown, hts⟩ (c_J6_bitCount_0f7a4 l (nI k)) (va_cwS 1 hts gX1_bestGift_J6_bitCount_0f7a4 rfl rfl rfl (by decide +kernel) ⟨Nat.le_of_ble_eq_true rfl, Nat.le_of_ble_eq_true rfl⟩) rfl hl.1 rfl (Nat.le_of_ble_eq_true rfl) ⟨Nat.zero_le _, Nat.zero_le _⟩ dX1_bestGift_51 (fun r hr => ?_)
        obtain rfl : r = bcF (nI k) := hr
        refine z_topi (v := nI (ones k)) (bc_nI k (by omega)) ?_
        refine lv_iload hx hb dX1_bestGift_54 (lv_at hl 3 rfl) ?_
        refine z_callS (As := [.int (nI t)]) (rest := [.int (nI (ones k))]) ⟨hx, hb, hml, hown, hts⟩ (c_J6_bitCount_0f7a4 l (nI t)) (va_cwS 1 hts gX1_bestGift_J6_bitCount_0f7a4 rfl rfl rfl (by decide +kernel) ⟨Nat.le_of_ble_eq_true rfl, Nat.le_of_ble_eq_true rfl⟩) rfl hl.1 rfl (Nat.le_of_ble_eq_true rfl) ⟨Nat.zero_le _, Nat.zero_le _⟩ dX1_bestGift_56 (fun r hr => ?_)
        obtain rfl : r = bcF (nI t) := hr
        refine z_topi (v := nI (ones t)) (bc_nI t (by omega)) ?_
        refine z_icmp_ge (a := ones k) (b := ones t) (tgt := 66) hx hb (by omega) (by omega) dX1_bestGift_59 (by decide) (fun (c_59 : (ones t) ≤ (ones k)) => ?_) (fun (c_59 : (ones k) < (ones t)) => ?_)
        · skip
          refine lv_iconst (v := nI 0) hx hb dX1_bestGift_66 (by decide) ?_
          refine lv_istore (lv' := [(8, .int (nI 0)), (7, .int (lostR σ B j (nI k) y)), (6, .int (nI k)), (5, .int (lostR σ B j (nI t) y)), (4, .int (nI t)), (3, .int (nI w)), (0, .ref (ad 0)), (1, .int (nI j)), (2, .int (nI y))]) hx hb dX1_bestGift_67 hl (by decide) rfl (fun ls hl => ?_)
          refine lv_iload hx hb dX1_bestGift_69 (lv_at hl 1 rfl) ?_
          refine lv_iload hx hb dX1_bestGift_71 (lv_at hl 3 rfl) ?_
          refine lv_icmp_lt (tgt := 88) hx hb dX1_bestGift_73 (by decide) (fun (c_73 : (lostR σ B j (nI k) y) < (lostR σ B j (nI t) y)) => ?_) (fun (c_73 : ¬ ((lostR σ B j (nI k) y) < (lostR σ B j (nI t) y))) => ?_)
          · skip
            refine lv_iload hx hb dX1_bestGift_88 (lv_at hl 2 rfl) ?_
            refine lv_istore (lv' := [(4, .int (nI k)), (8, .int (nI 0)), (7, .int (lostR σ B j (nI k) y)), (6, .int (nI k)), (5, .int (lostR σ B j (nI t) y)), (3, .int (nI w)), (0, .ref (ad 0)), (1, .int (nI j)), (2, .int (nI y))]) hx hb dX1_bestGift_90 hl (by decide) rfl (fun ls hl => ?_)
            refine lv_iload hx hb dX1_bestGift_92 (lv_at hl 2 rfl) ?_
            refine lv_istore (lv' := [(5, .int (lostR σ B j (nI k) y)), (4, .int (nI k)), (8, .int (nI 0)), (7, .int (lostR σ B j (nI k) y)), (6, .int (nI k)), (3, .int (nI w)), (0, .ref (ad 0)), (1, .int (nI j)), (2, .int (nI y))]) hx hb dX1_bestGift_94 hl (by decide) rfl (fun ls hl => ?_)
            refine lv_iinc (v := nI (k + 1)) (lv' := [(6, .int (nI (k + 1))), (5, .int (lostR σ B j (nI k) y)), (4, .int (nI k)), (8, .int (nI 0)), (7, .int (lostR σ B j (nI k) y)), (3, .int (nI w)), (0, .ref (ad 0)), (1, .int (nI j)), (2, .int (nI y))]) hx hb dX1_bestGift_96 hl (k := 4) rfl (nI_1 _) (by decide) rfl (fun ls hl => ?_)
            refine lv_goto (tgt := 21) hx hb dX1_bestGift_99 (by decide) ?_
            exact ih21 (k + 1) k (nI (k + 1)) (lostR σ B j (nI k) y) (nI k) ls (by omega) (by omega) (giveR_s ht (by omega) c_33 (Or.inl c_73)) (show nI (k + 1) = nI (k + 1) from rfl) (show lostR σ B j (nI k) y = lostR σ B j (nI k) y from rfl) (show nI k = nI k from rfl) (lv_sub hl [0, 1, 2, 5, 6, 7, 8] rfl) (by omega)
          · skip
            refine lv_iload hx hb dX1_bestGift_76 (lv_at hl 1 rfl) ?_
            refine lv_iload hx hb dX1_bestGift_78 (lv_at hl 3 rfl) ?_
            refine lv_icmp_ne (tgt := 96) hx hb dX1_bestGift_80 (by decide) (fun (c_80 : ¬ (lostR σ B j (nI k) y) = (lostR σ B j (nI t) y)) => ?_) (fun (c_80 : (lostR σ B j (nI k) y) = (lostR σ B j (nI t) y)) => ?_)
            · skip
              refine lv_iinc (v := nI (k + 1)) (lv' := [(6, .int (nI (k + 1))), (8, .int (nI 0)), (7, .int (lostR σ B j (nI k) y)), (5, .int (lostR σ B j (nI t) y)), (4, .int (nI t)), (3, .int (nI w)), (0, .ref (ad 0)), (1, .int (nI j)), (2, .int (nI y))]) hx hb dX1_bestGift_96 hl (k := 2) rfl (nI_1 _) (by decide) rfl (fun ls hl => ?_)
              refine lv_goto (tgt := 21) hx hb dX1_bestGift_99 (by decide) ?_
              exact ih21 (k + 1) t (nI (k + 1)) (lostR σ B j (nI t) y) (nI t) ls (by omega) (by omega) (giveR_k ht (by omega) (fun z => z.elim c_73 (fun z => c_80 z.1))) (show nI (k + 1) = nI (k + 1) from rfl) (show lostR σ B j (nI t) y = lostR σ B j (nI t) y from rfl) (show nI t = nI t from rfl) (lv_sub hl [0, 3, 4, 5, 6, 7, 8] rfl) (by omega)
            · skip
              refine lv_iload hx hb dX1_bestGift_83 (lv_at hl 0 rfl) ?_
              refine lv_if_eq (tgt := 96) hx hb dX1_bestGift_85 (by decide) (fun _ => ?_) (fun z9 => absurd (by decide) z9)
              refine lv_iinc (v := nI (k + 1)) (lv' := [(6, .int (nI (k + 1))), (8, .int (nI 0)), (7, .int (lostR σ B j (nI k) y)), (5, .int (lostR σ B j (nI t) y)), (4, .int (nI t)), (3, .int (nI w)), (0, .ref (ad 0)), (1, .int (nI j)), (2, .int (nI y))]) hx hb dX1_bestGift_96 hl (k := 2) rfl (nI_1 _) (by decide) rfl (fun ls hl => ?_)
              refine lv_goto (tgt := 21) hx hb dX1_bestGift_99 (by decide) ?_
              exact ih21 (k + 1) t (nI (k + 1)) (lostR σ B j (nI t) y) (nI t) ls (by omega) (by omega) (giveR_k ht (by omega) (fun z => z.elim c_73 (fun z => absurd z.2 (by omega)))) (show nI (k + 1) = nI (k + 1) from rfl) (show lostR σ B j (nI t) y = lostR σ B j (nI t) y from rfl) (show nI t = nI t from rfl) (lv_sub hl [0, 3, 4, 5, 6, 7, 8] rfl) (by omega)
        · skip
          refine lv_iconst (v := nI 1) hx hb dX1_bestGift_62 (by decide) ?_
          refine lv_goto (tgt := 67) hx hb dX1_bestGift_63 (by decide) ?_
          refine lv_istore (lv' := [(8, .int (nI 1)), (7, .int (lostR σ B j (nI k) y)), (6, .int (nI k)), (5, .int (lostR σ B j (nI t) y)), (4, .int (nI t)), (3, .int (nI w)), (0, .ref (ad 0)), (1, .int (nI j)), (2, .int (nI y))]) hx hb dX1_bestGift_67 hl (by decide) rfl (fun ls hl => ?_)
          refine lv_iload hx hb dX1_bestGift_69 (lv_at hl 1 rfl) ?_
          refine lv_iload hx hb dX1_bestGift_71 (lv_at hl 3 rfl) ?_
          refine lv_icmp_lt (tgt := 88) hx hb dX1_bestGift_73 (by decide) (fun (c_73 : (lostR σ B j (nI k) y) < (lostR σ B j (nI t) y)) => ?_) (fun (c_73 : ¬ ((lostR σ B j (nI k) y) < (lostR σ B j (nI t) y))) => ?_)
          · skip
            refine lv_iload hx hb dX1_bestGift_88 (lv_at hl 2 rfl) ?_
            refine lv_istore (lv' := [(4, .int (nI k)), (8, .int (nI 1)), (7, .int (lostR σ B j (nI k) y)), (6, .int (nI k)), (5, .int (lostR σ B j (nI t) y)), (3, .int (nI w)), (0, .ref (ad 0)), (1, .int (nI j)), (2, .int (nI y))]) hx hb dX1_bestGift_90 hl (by decide) rfl (fun ls hl => ?_)
            refine lv_iload hx hb dX1_bestGift_92 (lv_at hl 2 rfl) ?_
            refine lv_istore (lv' := [(5, .int (lostR σ B j (nI k) y)), (4, .int (nI k)), (8, .int (nI 1)), (7, .int (lostR σ B j (nI k) y)), (6, .int (nI k)), (3, .int (nI w)), (0, .ref (ad 0)), (1, .int (nI j)), (2, .int (nI y))]) hx hb dX1_bestGift_94 hl (by decide) rfl (fun ls hl => ?_)
            refine lv_iinc (v := nI (k + 1)) (lv' := [(6, .int (nI (k + 1))), (5, .int (lostR σ B j (nI k) y)), (4, .int (nI k)), (8, .int (nI 1)), (7, .int (lostR σ B j (nI k) y)), (3, .int (nI w)), (0, .ref (ad 0)), (1, .int (nI j)), (2, .int (nI y))]) hx hb dX1_bestGift_96 hl (k := 4) rfl (nI_1 _) (by decide) rfl (fun ls hl => ?_)
            refine lv_goto (tgt := 21) hx hb dX1_bestGift_99 (by decide) ?_
            exact ih21 (k + 1) k (nI (k + 1)) (lostR σ B j (nI k) y) (nI k) ls (by omega) (by omega) (giveR_s ht (by omega) c_33 (Or.inl c_73)) (show nI (k + 1) = nI (k + 1) from rfl) (show lostR σ B j (nI k) y = lostR σ B j (nI k) y from rfl) (show nI k = nI k from rfl) (lv_sub hl [0, 1, 2, 5, 6, 7, 8] rfl) (by omega)
          · skip
            refine lv_iload hx hb dX1_bestGift_76 (lv_at hl 1 rfl) ?_
            refine lv_iload hx hb dX1_bestGift_78 (lv_at hl 3 rfl) ?_
            refine lv_icmp_ne (tgt := 96) hx hb dX1_bestGift_80 (by decide) (fun (c_80 : ¬ (lostR σ B j (nI k) y) = (lostR σ B j (nI t) y)) => ?_) (fun (c_80 : (lostR σ B j (nI k) y) = (lostR σ B j (nI t) y)) => ?_)
            · skip
              refine lv_iinc (v := nI (k + 1)) (lv' := [(6, .int (nI (k + 1))), (8, .int (nI 1)), (7, .int (lostR σ B j (nI k) y)), (5, .int (lostR σ B j (nI t) y)), (4, .int (nI t)), (3, .int (nI w)), (0, .ref (ad 0)), (1, .int (nI j)), (2, .int (nI y))]) hx hb dX1_bestGift_96 hl (k := 2) rfl (nI_1 _) (by decide) rfl (fun ls hl => ?_)
              refine lv_goto (tgt := 21) hx hb dX1_bestGift_99 (by decide) ?_
              exact ih21 (k + 1) t (nI (k + 1)) (lostR σ B j (nI t) y) (nI t) ls (by omega) (by omega) (giveR_k ht (by omega) (fun z => z.elim c_73 (fun z => c_80 z.1))) (show nI (k + 1) = nI (k + 1) from rfl) (show lostR σ B j (nI t) y = lostR σ B j (nI t) y from rfl) (show nI t = nI t from rfl) (lv_sub hl [0, 3, 4, 5, 6, 7, 8] rfl) (by omega)
            · skip
              refine lv_iload hx hb dX1_bestGift_83 (lv_at hl 0 rfl) ?_
              refine lv_if_eq (tgt := 96) hx hb dX1_bestGift_85 (by decide) (fun z9 => absurd z9 (by decide)) (fun _ => ?_)
              refine lv_iload hx hb dX1_bestGift_88 (lv_at hl 2 rfl) ?_
              refine lv_istore (lv' := [(4, .int (nI k)), (8, .int (nI 1)), (7, .int (lostR σ B j (nI k) y)), (6, .int (nI k)), (5, .int (lostR σ B j (nI t) y)), (3, .int (nI w)), (0, .ref (ad 0)), (1, .int (nI j)), (2, .int (nI y))]) hx hb dX1_bestGift_90 hl (by decide) rfl (fun ls hl => ?_)
              refine lv_iload hx hb dX1_bestGift_92 (lv_at hl 2 rfl) ?_
              refine lv_istore (lv' := [(5, .int (lostR σ B j (nI k) y)), (4, .int (nI k)), (8, .int (nI 1)), (7, .int (lostR σ B j (nI k) y)), (6, .int (nI k)), (3, .int (nI w)), (0, .ref (ad 0)), (1, .int (nI j)), (2, .int (nI y))]) hx hb dX1_bestGift_94 hl (by decide) rfl (fun ls hl => ?_)
              refine lv_iinc (v := nI (k + 1)) (lv' := [(6, .int (nI (k + 1))), (5, .int (lostR σ B j (nI k) y)), (4, .int (nI k)), (8, .int (nI 1)), (7, .int (lostR σ B j (nI k) y)), (3, .int (nI w)), (0, .ref (ad 0)), (1, .int (nI j)), (2, .int (nI y))]) hx hb dX1_bestGift_96 hl (k := 4) rfl (nI_1 _) (by decide) rfl (fun ls hl => ?_)
              refine lv_goto (tgt := 21) hx hb dX1_bestGift_99 (by decide) ?_
              exact ih21 (k + 1) k (nI (k + 1)) (lostR σ B j (nI k) y) (nI k) ls (by omega) (by omega) (giveR_s ht (by omega) c_33 (Or.inr ⟨c_80, by omega⟩)) (show nI (k + 1) = nI (k + 1) from rfl) (show lostR σ B j (nI k) y = lostR σ B j (nI k) y from rfl) (show nI k = nI k from rfl) (lv_sub hl [0, 1, 2, 5, 6, 7, 8] rfl) (by omega)
      · skip
        refine lv_goto (tgt := 96) hx hb dX1_bestGift_36 (by decide) ?_
        refine lv_iinc (v := nI (k + 1)) (lv' := [(6, .int (nI (k + 1))), (5, .int (lostR σ B j (nI t) y)), (4, .int (nI t)), (3, .int (nI w)), (0, .ref (ad 0)), (1, .int (nI j)), (2, .int (nI y))]) hx hb dX1_bestGift_96 hl (k := 0) rfl (nI_1 _) (by decide) rfl (fun ls hl => ?_)
        refine lv_goto (tgt := 21) hx hb dX1_bestGift_99 (by decide) ?_
        exact ih21 (k + 1) t (nI (k + 1)) (lostR σ B j (nI t) y) (nI t) ls (by omega) (by omega) (giveR_a ht c_33) (show nI (k + 1) = nI (k + 1) from rfl) (show lostR σ B j (nI t) y = lostR σ B j (nI t) y from rfl) (show nI t = nI t from rfl) (lv_sub hl [0, 1, 2, 3, 4, 5, 6] rfl) (by omega)
abbrev rm_c_X1_isAsTold : Room := { frames := 1, cells := 0, slots := 0, locals := 21 }
set_option maxHeartbeats 4000000 in
set_option maxRecDepth 100000 in
theorem c_X1_isAsTold (l : Launch) (dC : Nat → ClassId) (dI : Nat → Nat → Nat) (cI cZ : ClassId) (ad : Nat → Nat) (σ : St) (Hn B L C V M : Nat) (hI : Inv σ Hn B L C V M) (taken : Int32) : Met l yX1_isAsTold wsX1_isAsTold rm_c_X1_isAsTold (va_Pc [.ref (ad 0), .int taken] (fun U => va_P (dC, dI) vwCl (mw cI cZ ad σ) U.heap ∧ va_K (dC, dI) vwCl (tyIZ cI cZ) U)) (vp_Si (fun r : Int32 => r = zb (toldR σ taken B))) 0 0 (fun _ => False) := by
  refine z_pureZ (cc := cX1_isAsTold) (maxL := 3) (av := [.ref (ad 0), .int taken]) (by decide) rfl (Nat.le_of_ble_eq_true rfl) ?_
  intro p e s m below meth c Q ls hx hb hml hown hts ⟨hP, hK⟩ hq hl
  have hown : s.vm.findClass RX1 = some m.cls := hown
  have hin1 : ∀ w ∈ wsX10, w ∈ wsX1_isAsTold := fun _ h => List.mem_cons_of_mem _ (List.mem_append_right _ h)
  have L41 := hts (.fieldLink RX1 41 "BestBeast$Manor" "beasts" "I") (List.mem_of_getElem? (i := 1) rfl)
  have L56 := hts (.fieldLink RX1 56 "BestBeast$Manor" "told" "[I") (List.mem_of_getElem? (i := 2) rfl)
  obtain ⟨⟨iL, iC, iV, iM, iH, iB, jL, jC, jV, jM, jH, jB⟩, iK, iDe, iAl, iHe, iWo, iO1, iO2⟩ := id hI
  have hl : lv_has ls 3 [(0, .ref (ad 0)), (1, .int taken)] := hl
  refine lv_iconst (v := nI 0) hx hb dX1_isAsTold_0 (by decide) ?_
  refine lv_istore_n (lv' := [(2, .int (nI 0)), (0, .ref (ad 0)), (1, .int taken)]) hx hb dX1_isAsTold_1 rfl hl (by decide) rfl (fun ls hl => ?_)
  suffices hlp2 : ∀ (nf : Nat) (k : Nat) (x2_2 : Int32) (ls : Array Slot), (k ≤ B) → (toldR σ taken k) → x2_2 = nI k → lv_has ls 3 [(2, .int x2_2), (0, .ref (ad 0)), (1, .int taken)] → B - k < nf → W p l e rm_c_X1_isAsTold s m ([.ref (ad 0), .int taken] : List Value).toArray below meth c s.heap [] 0 0 Q (F0 m 2 ls []) by
    exact hlp2 ((B - 0) + 1) 0 (nI 0) ls (by omega) (fun i hi => absurd hi (Nat.not_lt_zero i)) rfl (lv_sub hl [0, 1, 2] rfl) (by omega)
  intro nf
  induction nf with
  | zero => intro k x2_2 ls hk ht e2_2 hl hn; omega
  | succ nf ih2 =>
    intro k x2_2 ls hk ht e2_2 hl hn
    subst e2_2
    refine lv_iload_n hx hb dX1_isAsTold_2 rfl (lv_at hl 0 rfl) ?_
    refine lv_aload_n hx hb dX1_isAsTold_3 rfl (lv_at hl 1 rfl) ?_
    refine va_get (D := (dC, dI)) (ci := 1) (v := .int (nI B)) (C := RX1) (T := TX1) (N := 17) hx hb hts hin1 hown hK hP 0 rfl rfl 9 (by decide) L41 (fun _ h9 => h9) (congrArg (fun z => some (Value.int z)) iB) dX1_isAsTold_4 ?_
    refine z_icmp_ge (a := k) (b := B) (tgt := 50) hx hb (by omega) (by omega) dX1_isAsTold_7 (by decide) (fun (c_7 : B ≤ k) => ?_) (fun (c_7 : k < B) => ?_)
    · skip
      refine lv_iconst (v := nI 1) hx hb dX1_isAsTold_50 (by decide) ?_
      exact hq (nI 1) 51 ls dX1_isAsTold_51 (Or.inr rfl) (show (nI 1) = zb (toldR σ taken B) from (zb_t (by rw [show B = k by omega]; exact ht)).symm)
    · skip
      refine lv_aload_n hx hb dX1_isAsTold_10 rfl (lv_at hl 1 rfl) ?_
      refine lv_iload_n hx hb dX1_isAsTold_11 rfl (lv_at hl 0 rfl) ?_
      refine z_callV (As := [.int (nI k)]) (rest := []) ⟨hx, hb, hml, hown, hts⟩ (c_X1_hasBeast l dC dI cI cZ ad σ Hn B L C V M hI.1 (nI k)) (cwV 1 hts gX1_isAsTold_X1_hasBeast rfl rfl rfl (by decide +kernel) ⟨Nat.le_of_ble_eq_true rfl, Nat.le_of_ble_eq_true rfl⟩) hP hK (va_recv hK hP (ci := 1) (q0 := 0) rfl rfl) rfl hl.1 rfl (Nat.le_of_ble_eq_true rfl) ⟨Nat.zero_le _, Nat.zero_le _⟩ dX1_isAsTold_12 (fun r hr => ?_)
      obtain rfl : r = zb (hasP B (nI k)) := hr
      refine z_ifeq_b (P := hasP B (nI k)) (tgt := 44) hx hb dX1_isAsTold_15 (by decide) (fun (z9 : ¬ (hasP B (nI k))) => absurd (hasP_nI c_7) z9) (fun (c_15 : hasP B (nI k)) => ?_)
      refine lv_aload_n hx hb dX1_isAsTold_18 rfl (lv_at hl 1 rfl) ?_
      refine va_get (D := (dC, dI)) (ci := 1) (v := .ref (ad 9)) (C := RX1) (T := TX1) (N := 17) hx hb hts hin1 hown hK hP 0 rfl rfl 14 (by decide) L56 (fun _ h9 => h9) rfl dX1_isAsTold_19 ?_
      refine lv_iload_n hx hb dX1_isAsTold_22 rfl (lv_at hl 0 rfl) ?_
      refine z_iald (D := (dC, dI)) hx hb hK hP 9 0 rfl rfl k (rfl) (by omega) (by omega) (v := (σ 9) k) (rfl) dX1_isAsTold_23 ?_
      refine lv_iconst (v := (-1)) hx hb dX1_isAsTold_24 (by decide) ?_
      refine lv_icmp_eq (tgt := 44) hx hb dX1_isAsTold_25 (by decide) (fun (c_25 : ((σ 9) k) = (-1)) => ?_) (fun (c_25 : ¬ (((σ 9) k) = (-1))) => ?_)
      · skip
        refine lv_iinc (v := nI (k + 1)) (lv' := [(2, .int (nI (k + 1))), (0, .ref (ad 0)), (1, .int taken)]) hx hb dX1_isAsTold_44 hl (k := 0) rfl (nI_1 _) (by decide) rfl (fun ls hl => ?_)
        refine lv_goto (tgt := 2) hx hb dX1_isAsTold_47 (by decide) ?_
        exact ih2 (k + 1) (nI (k + 1)) ls (by omega) (toldR_s ht (Or.inl c_25)) (show nI (k + 1) = nI (k + 1) from rfl) (lv_sub hl [0, 1, 2] rfl) (by omega)
      · skip
        refine lv_aload_n hx hb dX1_isAsTold_28 rfl (lv_at hl 1 rfl) ?_
        refine va_get (D := (dC, dI)) (ci := 1) (v := .ref (ad 9)) (C := RX1) (T := TX1) (N := 17) hx hb hts hin1 hown hK hP 0 rfl rfl 14 (by decide) L56 (fun _ h9 => h9) rfl dX1_isAsTold_29 ?_
        refine lv_iload_n hx hb dX1_isAsTold_32 rfl (lv_at hl 0 rfl) ?_
        refine z_iald (D := (dC, dI)) hx hb hK hP 9 0 rfl rfl k (rfl) (by omega) (by omega) (v := (σ 9) k) (rfl) dX1_isAsTold_33 ?_
        refine lv_iload_n hx hb dX1_isAsTold_34 rfl (lv_at hl 2 rfl) ?_
        refine lv_iload_n hx hb dX1_isAsTold_35 rfl (lv_at hl 0 rfl) ?_
        refine z_ishr (v := taken >>> (nI k &&& 31)) hx hb dX1_isAsTold_36 (rfl) ?_
        refine lv_iconst (v := nI 1) hx hb dX1_isAsTold_37 (by decide) ?_
        refine z_iand (v := zin taken k) hx hb dX1_isAsTold_38 (rfl) ?_
        refine lv_icmp_eq (tgt := 44) hx hb dX1_isAsTold_39 (by decide) (fun (c_39 : ((σ 9) k) = (zin taken k)) => ?_) (fun (c_39 : ¬ (((σ 9) k) = (zin taken k))) => ?_)
        · skip
          refine lv_iinc (v := nI (k + 1)) (lv' := [(2, .int (nI (k + 1))), (0, .ref (ad 0)), (1, .int taken)]) hx hb dX1_isAsTold_44 hl (k := 0) rfl (nI_1 _) (by decide) rfl (fun ls hl => ?_)
          refine lv_goto (tgt := 2) hx hb dX1_isAsTold_47 (by decide) ?_
          exact ih2 (k + 1) (nI (k + 1)) ls (by omega) (toldR_s ht (Or.inr c_39)) (show nI (k + 1) = nI (k + 1) from rfl) (lv_sub hl [0, 1, 2] rfl) (by omega)
        · skip
          refine lv_iconst (v := nI 0) hx hb dX1_isAsTold_42 (by decide) ?_
          exact hq (nI 0) 43 ls dX1_isAsTold_43 (Or.inl rfl) (show (nI 0) = zb (toldR σ taken B) from (zb_f (fun z => (z k (by omega)).elim c_25 c_39)).symm)
abbrev rm_c_X1_mayGive : Room := { frames := 2, cells := 0, slots := 0, locals := 42 }
set_option maxHeartbeats 4000000 in
set_option maxRecDepth 100000 in
theorem c_X1_mayGive (l : Launch) (dC : Nat → ClassId) (dI : Nat → Nat → Nat) (cI cZ : ClassId) (ad : Nat → Nat) (σ : St) (Hn B L C V M : Nat) (hI : Inv σ Hn B L C V M) (b : Nat) (hb6 : b < B) (t : Nat) (ht4 : t < Hn) : Met l yX1_mayGive wsX1_mayGive rm_c_X1_mayGive (va_Pc [.ref (ad 0), .int (nI b), .int (nI t)] (fun U => va_P (dC, dI) vwCl (mw cI cZ ad σ) U.heap ∧ va_K (dC, dI) vwCl (tyIZ cI cZ) U)) (vp_Si (fun r : Int32 => r = zb (giveP σ b t))) 0 0 (fun _ => False) := by
  refine z_pureZ (cc := cX1_mayGive) (maxL := 3) (av := [.ref (ad 0), .int (nI b), .int (nI t)]) (by decide) rfl (Nat.le_of_ble_eq_true rfl) ?_
  intro p e s m below meth c Q ls hx hb hml hown hts ⟨hP, hK⟩ hq hl
  have hown : s.vm.findClass RX1 = some m.cls := hown
  have hin1 : ∀ w ∈ wsX10, w ∈ wsX1_mayGive := fun _ h => List.mem_cons_of_mem _ (List.mem_append_right _ h)
  have L47 := hts (.fieldLink RX1 47 "BestBeast$Manor" "owner" "[I") (List.mem_of_getElem? (i := 1) rfl)
  obtain ⟨⟨iL, iC, iV, iM, iH, iB, jL, jC, jV, jM, jH, jB⟩, iK, iDe, iAl, iHe, iWo, iO1, iO2⟩ := id hI
  have hl : lv_has ls 3 [(0, .ref (ad 0)), (1, .int (nI b)), (2, .int (nI t))] := hl
  refine lv_aload_n hx hb dX1_mayGive_0 rfl (lv_at hl 0 rfl) ?_
  refine lv_iload_n hx hb dX1_mayGive_1 rfl (lv_at hl 1 rfl) ?_
  refine z_callV (As := [.int (nI b)]) (rest := []) ⟨hx, hb, hml, hown, hts⟩ (c_X1_hasBeast l dC dI cI cZ ad σ Hn B L C V M hI.1 (nI b)) (cwV 1 hts gX1_mayGive_X1_hasBeast rfl rfl rfl (by decide +kernel) ⟨Nat.le_of_ble_eq_true rfl, Nat.le_of_ble_eq_true rfl⟩) hP hK (va_recv hK hP (ci := 1) (q0 := 0) rfl rfl) rfl hl.1 rfl (Nat.le_of_ble_eq_true rfl) ⟨Nat.zero_le _, Nat.zero_le _⟩ dX1_mayGive_2 (fun r hr => ?_)
  obtain rfl : r = zb (hasP B (nI b)) := hr
  refine z_ifeq_b (P := hasP B (nI b)) (tgt := 40) hx hb dX1_mayGive_5 (by decide) (fun (z9 : ¬ (hasP B (nI b))) => absurd (hasP_nI hb6) z9) (fun (c_5 : hasP B (nI b)) => ?_)
  refine lv_aload_n hx hb dX1_mayGive_8 rfl (lv_at hl 0 rfl) ?_
  refine lv_iload_n hx hb dX1_mayGive_9 rfl (lv_at hl 2 rfl) ?_
  refine z_callV (As := [.int (nI t)]) (rest := []) ⟨hx, hb, hml, hown, hts⟩ (c_X1_isAlive l dC dI cI cZ ad σ Hn B L C V M hI (nI t)) (cwV 1 hts gX1_mayGive_X1_isAlive rfl rfl rfl (by decide +kernel) ⟨Nat.le_of_ble_eq_true rfl, Nat.le_of_ble_eq_true rfl⟩) hP hK (va_recv hK hP (ci := 1) (q0 := 0) rfl rfl) rfl hl.1 rfl (Nat.le_of_ble_eq_true rfl) ⟨Nat.zero_le _, Nat.zero_le _⟩ dX1_mayGive_10 (fun r hr => ?_)
  obtain rfl : r = zb (liveP σ Hn (nI t)) := hr
  refine z_ifeq_b (P := liveP σ Hn (nI t)) (tgt := 40) hx hb dX1_mayGive_13 (by decide) (fun (c_13 : ¬ (liveP σ Hn (nI t))) => ?_) (fun (c_13 : liveP σ Hn (nI t)) => ?_)
  · skip
    refine lv_iconst (v := nI 0) hx hb dX1_mayGive_40 (by decide) ?_
    exact hq (nI 0) 41 ls dX1_mayGive_41 (Or.inl rfl) (show (nI 0) = zb (giveP σ b t) from (zb_f (fun z => c_13 (live_yes ht4 z.1))).symm)
  · skip
    refine lv_aload_n hx hb dX1_mayGive_16 rfl (lv_at hl 0 rfl) ?_
    refine va_get (D := (dC, dI)) (ci := 1) (v := .ref (ad 6)) (C := RX1) (T := TX1) (N := 17) hx hb hts hin1 hown hK hP 0 rfl rfl 11 (by decide) L47 (fun _ h9 => h9) rfl dX1_mayGive_17 ?_
    refine lv_iload_n hx hb dX1_mayGive_20 rfl (lv_at hl 1 rfl) ?_
    refine z_iald (D := (dC, dI)) hx hb hK hP 6 0 rfl rfl b (rfl) (by omega) (by omega) (v := (σ 6) b) (rfl) dX1_mayGive_21 ?_
    refine lv_iconst (v := (-1)) hx hb dX1_mayGive_22 (by decide) ?_
    refine lv_icmp_eq (tgt := 40) hx hb dX1_mayGive_23 (by decide) (fun (c_23 : ((σ 6) b) = (-1)) => ?_) (fun (c_23 : ¬ (((σ 6) b) = (-1))) => ?_)
    · skip
      refine lv_iconst (v := nI 0) hx hb dX1_mayGive_40 (by decide) ?_
      exact hq (nI 0) 41 ls dX1_mayGive_41 (Or.inl rfl) (show (nI 0) = zb (giveP σ b t) from (zb_f (fun z => z.2.1 c_23)).symm)
    · skip
      refine lv_aload_n hx hb dX1_mayGive_26 rfl (lv_at hl 0 rfl) ?_
      refine va_get (D := (dC, dI)) (ci := 1) (v := .ref (ad 6)) (C := RX1) (T := TX1) (N := 17) hx hb hts hin1 hown hK hP 0 rfl rfl 11 (by decide) L47 (fun _ h9 => h9) rfl dX1_mayGive_27 ?_
      refine lv_iload_n hx hb dX1_mayGive_30 rfl (lv_at hl 1 rfl) ?_
      refine z_iald (D := (dC, dI)) hx hb hK hP 6 0 rfl rfl b (rfl) (by omega) (by omega) (v := (σ 6) b) (rfl) dX1_mayGive_31 ?_
      refine lv_iload_n hx hb dX1_mayGive_32 rfl (lv_at hl 2 rfl) ?_
      refine lv_icmp_eq (tgt := 40) hx hb dX1_mayGive_33 (by decide) (fun (c_33 : ((σ 6) b) = (nI t)) => ?_) (fun (c_33 : ¬ (((σ 6) b) = (nI t))) => ?_)
      · skip
        refine lv_iconst (v := nI 0) hx hb dX1_mayGive_40 (by decide) ?_
        exact hq (nI 0) 41 ls dX1_mayGive_41 (Or.inl rfl) (show (nI 0) = zb (giveP σ b t) from (zb_f (fun z => z.2.2 c_33)).symm)
      · skip
        refine lv_iconst (v := nI 1) hx hb dX1_mayGive_36 (by decide) ?_
        refine lv_goto (tgt := 41) hx hb dX1_mayGive_37 (by decide) ?_
        exact hq (nI 1) 41 ls dX1_mayGive_41 (Or.inr rfl) (show (nI 1) = zb (giveP σ b t) from (zb_t ⟨live_1 ht4 jH c_13, c_23, c_33⟩).symm)
