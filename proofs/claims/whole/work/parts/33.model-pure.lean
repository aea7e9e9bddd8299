/-! ===== the reference: what changes nothing ===== -/
abbrev rm_c_X3_in : Room := { frames := 0, cells := 0, slots := 0, locals := 0 }
set_option maxHeartbeats 4000000 in
set_option maxRecDepth 100000 in
theorem c_X3_in (l : Launch) (v a b : Int64) : Met l yX3_in wsX3_in rm_c_X3_in (va_Pc [.long v, .long a, .long b] (fun _ => True)) (vp_Si (fun r : Int32 => r = zb (a ≤ v ∧ v ≤ b))) 0 0 (fun _ => False) := by
  refine z_pureZ (cc := cX3_in) (maxL := 6) (av := [.long v, .long a, .long b]) (by decide) rfl (Nat.le_of_ble_eq_true rfl) ?_
  intro p e s m below meth c Q ls hx hb hml hown hts _ hq hl
  have hown : s.vm.findClass RX3 = some m.cls := hown
  have hl : lv_has ls 6 [(0, .long v), (2, .long a), (4, .long b)] := hl
  refine lv_lload_n hx hb dX3_in_0 rfl (lv_at hl 0 rfl) ?_
  refine lv_lload_n hx hb dX3_in_1 rfl (lv_at hl 1 rfl) ?_
  refine W.lcmp hx hb dX3_in_2 ?_
  refine lv_if_lt (tgt := 17) hx hb dX3_in_3 (by decide) (fun (c_3 : (lg_cmp v a) < 0) => ?_) (fun (c_3 : ¬ ((lg_cmp v a) < 0)) => ?_)
  · skip
    refine lv_iconst (v := nI 0) hx hb dX3_in_17 (by decide) ?_
    exact hq (nI 0) 18 ls dX3_in_18 (Or.inl rfl) (show (nI 0) = zb (a ≤ v ∧ v ≤ b) from (zb_f (fun h => absurd h.1 (Int64.not_le.mpr (cmp_lt.mp c_3)))).symm)
  · skip
    refine lv_lload_n hx hb dX3_in_6 rfl (lv_at hl 0 rfl) ?_
    refine lv_lload hx hb dX3_in_7 (lv_at hl 2 rfl) ?_
    refine W.lcmp hx hb dX3_in_9 ?_
    refine lv_if_gt (tgt := 17) hx hb dX3_in_10 (by decide) (fun (c_10 : 0 < (lg_cmp v b)) => ?_) (fun (c_10 : ¬ (0 < (lg_cmp v b))) => ?_)
    · skip
      refine lv_iconst (v := nI 0) hx hb dX3_in_17 (by decide) ?_
      exact hq (nI 0) 18 ls dX3_in_18 (Or.inl rfl) (show (nI 0) = zb (a ≤ v ∧ v ≤ b) from (zb_f (fun h => absurd h.2 (Int64.not_le.mpr (cmp_gt.mp c_10)))).symm)
    · skip
      refine lv_iconst (v := nI 1) hx hb dX3_in_13 (by decide) ?_
      refine lv_goto (tgt := 18) hx hb dX3_in_14 (by decide) ?_
      exact hq (nI 1) 18 ls dX3_in_18 (Or.inr rfl) (show (nI 1) = zb (a ≤ v ∧ v ≤ b) from (zb_t ⟨Int64.not_lt.mp (fun z => c_3 (cmp_lt.mpr z)), Int64.not_lt.mp (fun z => c_10 (cmp_gt.mpr z))⟩).symm)
abbrev rm_c_X3_ones : Room := { frames := 0, cells := 0, slots := 0, locals := 0 }
set_option maxHeartbeats 4000000 in
set_option maxRecDepth 100000 in
theorem c_X3_ones (l : Launch) (k : Nat) (hk64 : k < 64) : Met l yX3_ones wsX3_ones rm_c_X3_ones (va_Pc [.int (nI k)] (fun _ => True)) (vp_Si (fun r : Int32 => r = nI (ones k))) 0 0 (fun _ => False) := by
  refine z_pureI (cc := cX3_ones) (maxL := 3) (av := [.int (nI k)]) (by decide) rfl (Nat.le_of_ble_eq_true rfl) ?_
  intro p e s m below meth c Q ls hx hb hml hown hts _ hq hl
  have hown : s.vm.findClass RX3 = some m.cls := hown
  have hl : lv_has ls 3 [(0, .int (nI k))] := hl
  refine lv_iconst (v := nI 0) hx hb dX3_ones_0 (by decide) ?_
  refine lv_istore_n (lv' := [(1, .int (nI 0)), (0, .int (nI k))]) hx hb dX3_ones_1 rfl hl (by decide) rfl (fun ls hl => ?_)
  refine lv_iconst (v := nI 0) hx hb dX3_ones_2 (by decide) ?_
  refine lv_istore_n (lv' := [(2, .int (nI 0)), (1, .int (nI 0)), (0, .int (nI k))]) hx hb dX3_ones_3 rfl hl (by decide) rfl (fun ls hl => ?_)
  suffices hlp4 : ∀ (nf : Nat) (i : Nat) (x4_2 : Int32) (x4_1 : Int32) (ls : Array Slot), (i ≤ 6) → x4_2 = nI i → x4_1 = nI (onesR k i) → lv_has ls 3 [(2, .int x4_2), (1, .int x4_1), (0, .int (nI k))] → 6 - i < nf → W p l e rm_c_X3_ones s m ([.int (nI k)] : List Value).toArray below meth c s.heap [] 0 0 Q (F0 m 4 ls []) by
    exact hlp4 ((6 - 0) + 1) 0 (nI 0) (nI 0) ls (by omega) rfl rfl (lv_sub hl [0, 1, 2] rfl) (by omega)
  intro nf
  induction nf with
  | zero => intro i x4_2 x4_1 ls hi e4_2 e4_1 hl hn; omega
  | succ nf ih4 =>
    intro i x4_2 x4_1 ls hi e4_2 e4_1 hl hn
    subst e4_2
    subst e4_1
    refine lv_iload_n hx hb dX3_ones_4 rfl (lv_at hl 0 rfl) ?_
    refine lv_bipush (v := nI 6) hx hb dX3_ones_5 (by decide) ?_
    refine z_icmp_ge (a := i) (b := 6) (tgt := 24) hx hb (by omega) (by omega) dX3_ones_7 (by decide) (fun (c_7 : 6 ≤ i) => ?_) (fun (c_7 : i < 6) => ?_)
    · skip
      refine lv_iload_n hx hb dX3_ones_24 rfl (lv_at hl 1 rfl) ?_
      exact hq (nI (onesR k i)) 25 ls dX3_ones_25 (show (nI (onesR k i)) = nI (ones k) from (by rw [← onesR_6, show 6 = i by omega]))
    · skip
      refine lv_iload_n hx hb dX3_ones_10 rfl (lv_at hl 1 rfl) ?_
      refine lv_iload_n hx hb dX3_ones_11 rfl (lv_at hl 2 rfl) ?_
      refine lv_iload_n hx hb dX3_ones_12 rfl (lv_at hl 0 rfl) ?_
      refine z_ishr (v := (nI k) >>> (nI i &&& 31)) hx hb dX3_ones_13 (rfl) ?_
      refine lv_iconst (v := nI 1) hx hb dX3_ones_14 (by decide) ?_
      refine z_iand (v := nI (k / 2 ^ i % 2)) hx hb dX3_ones_15 (zin_nI k (by omega) i (by omega)) ?_
      refine z_iadd (v := nI ((onesR k i) + (k / 2 ^ i % 2))) hx hb dX3_ones_16 (nI_add _ _) ?_
      refine lv_istore_n (lv' := [(1, .int (nI ((onesR k i) + (k / 2 ^ i % 2)))), (2, .int (nI i)), (0, .int (nI k))]) hx hb dX3_ones_17 rfl hl (by decide) rfl (fun ls hl => ?_)
      refine lv_iinc (v := nI (i + 1)) (lv' := [(2, .int (nI (i + 1))), (1, .int (nI ((onesR k i) + (k / 2 ^ i % 2)))), (0, .int (nI k))]) hx hb dX3_ones_18 hl (k := 1) rfl (nI_1 _) (by decide) rfl (fun ls hl => ?_)
      refine lv_goto (tgt := 4) hx hb dX3_ones_21 (by decide) ?_
      exact ih4 (i + 1) (nI (i + 1)) (nI ((onesR k i) + (k / 2 ^ i % 2))) ls (by omega) (show nI (i + 1) = nI (i + 1) from rfl) (show nI ((onesR k i) + (k / 2 ^ i % 2)) = nI (onesR k (i + 1)) from rfl) (lv_sub hl [0, 1, 2] rfl) (by omega)
abbrev rm_c_X3_term : Room := { frames := 0, cells := 0, slots := 0, locals := 0 }
set_option maxHeartbeats 4000000 in
set_option maxRecDepth 100000 in
theorem c_X3_term (l : Launch) (u v o : Nat) (hu : u < 2 ^ 30) (hv : v < 2 ^ 20) (hv0 : 0 < v) (hp : o ≤ 1) : Met l yX3_term wsX3_term rm_c_X3_term (va_Pc [.int (nI u), .int (nI v), .int (nI o)] (fun _ => True)) (vp_Si (fun r : Int32 => r = nI ((if o = 0 then u else v) / Nat.gcd u v))) 0 0 (fun _ => False) := by
  refine z_pureI (cc := cX3_term) (maxL := 6) (av := [.int (nI u), .int (nI v), .int (nI o)]) (by decide) rfl (Nat.le_of_ble_eq_true rfl) ?_
  intro p e s m below meth c Q ls hx hb hml hown hts _ hq hl
  have hown : s.vm.findClass RX3 = some m.cls := hown
  have hl : lv_has ls 6 [(0, .int (nI u)), (1, .int (nI v)), (2, .int (nI o))] := hl
  refine lv_iload_n hx hb dX3_term_0 rfl (lv_at hl 0 rfl) ?_
  refine lv_istore_n (lv' := [(3, .int (nI u)), (0, .int (nI u)), (1, .int (nI v)), (2, .int (nI o))]) hx hb dX3_term_1 rfl hl (by decide) rfl (fun ls hl => ?_)
  refine lv_iload_n hx hb dX3_term_2 rfl (lv_at hl 2 rfl) ?_
  refine lv_istore (lv' := [(4, .int (nI v)), (3, .int (nI u)), (0, .int (nI u)), (1, .int (nI v)), (2, .int (nI o))]) hx hb dX3_term_3 hl (by decide) rfl (fun ls hl => ?_)
  suffices hlp5 : ∀ (nf : Nat) (a : Nat) (b : Nat) (x5_4 : Int32) (x5_3 : Int32) (ls : Array Slot), (Nat.gcd a b = Nat.gcd u v) → (a < 2 ^ 30) → (b < 2 ^ 30) → x5_4 = nI b → x5_3 = nI a → lv_has ls 6 [(4, .int x5_4), (3, .int x5_3), (0, .int (nI u)), (1, .int (nI v)), (2, .int (nI o))] → a < nf → W p l e rm_c_X3_term s m ([.int (nI u), .int (nI v), .int (nI o)] : List Value).toArray below meth c s.heap [] 0 0 Q (F0 m 5 ls []) by
    exact hlp5 (u + 1) u v (nI v) (nI u) ls rfl (by omega) (by omega) rfl rfl (lv_sub hl [0, 1, 2, 3, 4] rfl) (by omega)
  intro nf
  induction nf with
  | zero => intro a b x5_4 x5_3 ls hg ha hb9 e5_4 e5_3 hl hn; omega
  | succ nf ih5 =>
    intro a b x5_4 x5_3 ls hg ha hb9 e5_4 e5_3 hl hn
    subst e5_4
    subst e5_3
    refine lv_iload_n hx hb dX3_term_5 rfl (lv_at hl 1 rfl) ?_
    refine z_if_eq (a := a) (tgt := 24) hx hb (by omega) dX3_term_6 (by decide) (fun (c_6 : a = 0) => ?_) (fun (c_6 : a ≠ 0) => ?_)
    · skip
      have hgg : b = Nat.gcd u v := by rw [← hg, c_6, Nat.gcd_zero_left]
      have hgp : 0 < Nat.gcd u v := gcd_pos hv0
      refine lv_iload_n hx hb dX3_term_24 rfl (lv_at hl 4 rfl) ?_
      refine z_if_ne (a := o) (tgt := 35) hx hb (by omega) dX3_term_25 (by decide) (fun (c_25 : o ≠ 0) => ?_) (fun (c_25 : o = 0) => ?_)
      · skip
        refine lv_iload_n hx hb dX3_term_35 rfl (lv_at hl 3 rfl) ?_
        refine lv_iload hx hb dX3_term_36 (lv_at hl 0 rfl) ?_
        refine z_idiv (v := nI (v / Nat.gcd u v)) hx hb dX3_term_38 (nI_ne0 (by omega) (by omega)) (by rw [← hgg]; exact pk_div (by omega) (by omega) (by omega)) ?_
        exact hq (nI (v / Nat.gcd u v)) 39 ls dX3_term_39 (show (nI (v / Nat.gcd u v)) = nI ((if o = 0 then u else v) / Nat.gcd u v) from (by rw [if_neg c_25]))
      · skip
        refine lv_iload_n hx hb dX3_term_28 rfl (lv_at hl 2 rfl) ?_
        refine lv_iload hx hb dX3_term_29 (lv_at hl 0 rfl) ?_
        refine z_idiv (v := nI (u / Nat.gcd u v)) hx hb dX3_term_31 (nI_ne0 (by omega) (by omega)) (by rw [← hgg]; exact pk_div (by omega) (by omega) (by omega)) ?_
        refine lv_goto (tgt := 39) hx hb dX3_term_32 (by decide) ?_
        exact hq (nI (u / Nat.gcd u v)) 39 ls dX3_term_39 (show (nI (u / Nat.gcd u v)) = nI ((if o = 0 then u else v) / Nat.gcd u v) from (by rw [if_pos c_25]))
    · skip
      have hma : b % a < a := Nat.mod_lt _ (by omega)
      refine lv_iload hx hb dX3_term_9 (lv_at hl 0 rfl) ?_
      refine lv_iload_n hx hb dX3_term_11 rfl (lv_at hl 1 rfl) ?_
      refine z_irem (v := nI (b % a)) hx hb dX3_term_12 (nI_ne0 (by omega) (by omega)) (pk_rem (by omega) (by omega) (by omega)) ?_
      refine lv_istore (lv' := [(5, .int (nI (b % a))), (4, .int (nI b)), (3, .int (nI a)), (0, .int (nI u)), (1, .int (nI v)), (2, .int (nI o))]) hx hb dX3_term_13 hl (by decide) rfl (fun ls hl => ?_)
      refine lv_iload_n hx hb dX3_term_15 rfl (lv_at hl 2 rfl) ?_
      refine lv_istore (lv' := [(4, .int (nI a)), (5, .int (nI (b % a))), (3, .int (nI a)), (0, .int (nI u)), (1, .int (nI v)), (2, .int (nI o))]) hx hb dX3_term_16 hl (by decide) rfl (fun ls hl => ?_)
      refine lv_iload hx hb dX3_term_18 (lv_at hl 1 rfl) ?_
      refine lv_istore_n (lv' := [(3, .int (nI (b % a))), (4, .int (nI a)), (5, .int (nI (b % a))), (0, .int (nI u)), (1, .int (nI v)), (2, .int (nI o))]) hx hb dX3_term_20 rfl hl (by decide) rfl (fun ls hl => ?_)
      refine lv_goto (tgt := 5) hx hb dX3_term_21 (by decide) ?_
      exact ih5 (b % a) a (nI a) (nI (b % a)) ls (((Nat.gcd_comm _ _).trans ((gcd_step b a).symm.trans (Nat.gcd_comm _ _))).trans hg) (Nat.lt_trans (Nat.mod_lt _ (by omega)) ha) (by omega) (show nI a = nI a from rfl) (show nI (b % a) = nI (b % a) from rfl) (lv_sub hl [1, 0, 3, 4, 5] rfl) (by omega)
abbrev rm_c_X3_isHolder : Room := { frames := 1, cells := 0, slots := 0, locals := 25 }
set_option maxHeartbeats 4000000 in
set_option maxRecDepth 100000 in
theorem c_X3_isHolder (l : Launch) (dC : Nat → ClassId) (dI : Nat → Nat → Nat) (cI cZ : ClassId) (bd : Nat → Nat) (σ : St) (Hn B L C V M : Nat) (hI : Inv σ Hn B L C V M) (ξ : Nat → Int32) (tk sd : Int32) (kv : Nat → Int32) (hh : Int64) (x : Int32) : Met l yX3_isHolder wsX3_isHolder rm_c_X3_isHolder (va_Pc [.ref (bd 0), .int x] (fun U => va_P (dC, dI) vwCl ([bo bd σ ξ tk sd kv hh, (bd 2, .inl (cI, 16, .inl (menOf σ))), (bd 3, .inl (cI, 30, .inl (rowsOf σ)))]) U.heap ∧ va_K (dC, dI) vwCl (tyIZ cI cZ) U)) (vp_Si (fun r : Int32 => r = zb (hasP Hn x))) 0 0 (fun _ => False) := by
  refine z_pureZ (cc := cX3_isHolder) (maxL := 2) (av := [.ref (bd 0), .int x]) (by decide) rfl (Nat.le_of_ble_eq_true rfl) ?_
  intro p e s m below meth c Q ls hx hb hml hown hts ⟨hP, hK⟩ hq hl
  have hown : s.vm.findClass RX3 = some m.cls := hown
  have hin3 : ∀ w ∈ wsX30, w ∈ wsX3_isHolder := fun _ h => List.mem_cons_of_mem _ (List.mem_append_right _ h)
  have L76 := hts (.fieldLink RX3 76 "BestBeastModel" "holders" "I") (List.mem_of_getElem? (i := 1) rfl)
  obtain ⟨⟨iL, iC, iV, iM, iH, iB, jL, jC, jV, jM, jH, jB⟩, iK, iDe, iAl, iHe, iWo, iO1, iO2⟩ := id hI
  have hl : lv_has ls 2 [(0, .ref (bd 0)), (1, .int x)] := hl
  refine lv_iload_n hx hb dX3_isHolder_0 rfl (lv_at hl 1 rfl) ?_
  refine lv_i2l (v := x.toInt64) hx hb dX3_isHolder_1 (rfl) ?_
  refine lv_lconst (v := 0) hx hb dX3_isHolder_2 (by decide) ?_
  refine lv_aload_n hx hb dX3_isHolder_3 rfl (lv_at hl 0 rfl) ?_
  refine va_get (D := (dC, dI)) (ci := 3) (v := .int (nI Hn)) (C := RX3) (T := TX3) (N := 24) hx hb hts hin3 hown hK hP 0 rfl rfl 9 (by decide) L76 (fun _ h9 => h9) (congrArg (fun z => some (Value.int z)) iH) dX3_isHolder_4 ?_
  refine lv_iconst (v := nI 1) hx hb dX3_isHolder_7 (by decide) ?_
  refine z_isub (v := (nI Hn) - (nI 1)) hx hb dX3_isHolder_8 (rfl) ?_
  refine lv_i2l (v := ((nI Hn) - (nI 1)).toInt64) hx hb dX3_isHolder_9 (rfl) ?_
  refine z_callS (As := [.long x.toInt64, .long 0, .long (((nI Hn) - (nI 1)).toInt64)]) (rest := []) ⟨hx, hb, hml, hown, hts⟩ (c_X3_in l x.toInt64 0 (((nI Hn) - (nI 1)).toInt64)) (va_cwS 3 hts gX3_isHolder_X3_in rfl rfl rfl (by decide +kernel) ⟨Nat.le_of_ble_eq_true rfl, Nat.le_of_ble_eq_true rfl⟩) rfl hl.1 rfl (Nat.le_of_ble_eq_true rfl) ⟨Nat.zero_le _, Nat.zero_le _⟩ dX3_isHolder_10 (fun r hr => ?_)
  obtain rfl : r = zb (0 ≤ x.toInt64 ∧ x.toInt64 ≤ (((nI Hn) - (nI 1)).toInt64)) := hr
  refine z_topi (v := zb (hasP Hn x)) (zb_iff (has64 (N := Hn) (by omega))) ?_
  exact hq (zb (hasP Hn x)) 13 ls dX3_isHolder_13 (zb_cases _) (show (zb (hasP Hn x)) = zb (hasP Hn x) from rfl)
abbrev rm_c_X3_isBeast : Room := { frames := 1, cells := 0, slots := 0, locals := 25 }
set_option maxHeartbeats 4000000 in
set_option maxRecDepth 100000 in
theorem c_X3_isBeast (l : Launch) (dC : Nat → ClassId) (dI : Nat → Nat → Nat) (cI cZ : ClassId) (bd : Nat → Nat) (σ : St) (Hn B L C V M : Nat) (hI : Inv σ Hn B L C V M) (ξ : Nat → Int32) (tk sd : Int32) (kv : Nat → Int32) (hh : Int64) (x : Int32) : Met l yX3_isBeast wsX3_isBeast rm_c_X3_isBeast (va_Pc [.ref (bd 0), .int x] (fun U => va_P (dC, dI) vwCl ([bo bd σ ξ tk sd kv hh, (bd 2, .inl (cI, 16, .inl (menOf σ))), (bd 3, .inl (cI, 30, .inl (rowsOf σ)))]) U.heap ∧ va_K (dC, dI) vwCl (tyIZ cI cZ) U)) (vp_Si (fun r : Int32 => r = zb (hasP B x))) 0 0 (fun _ => False) := by
  refine z_pureZ (cc := cX3_isBeast) (maxL := 2) (av := [.ref (bd 0), .int x]) (by decide) rfl (Nat.le_of_ble_eq_true rfl) ?_
  intro p e s m below meth c Q ls hx hb hml hown hts ⟨hP, hK⟩ hq hl
  have hown : s.vm.findClass RX3 = some m.cls := hown
  have hin3 : ∀ w ∈ wsX30, w ∈ wsX3_isBeast := fun _ h => List.mem_cons_of_mem _ (List.mem_append_right _ h)
  have L79 := hts (.fieldLink RX3 79 "BestBeastModel" "beasts" "I") (List.mem_of_getElem? (i := 1) rfl)
  obtain ⟨⟨iL, iC, iV, iM, iH, iB, jL, jC, jV, jM, jH, jB⟩, iK, iDe, iAl, iHe, iWo, iO1, iO2⟩ := id hI
  have hl : lv_has ls 2 [(0, .ref (bd 0)), (1, .int x)] := hl
  refine lv_iload_n hx hb dX3_isBeast_0 rfl (lv_at hl 1 rfl) ?_
  refine lv_i2l (v := x.toInt64) hx hb dX3_isBeast_1 (rfl) ?_
  refine lv_lconst (v := 0) hx hb dX3_isBeast_2 (by decide) ?_
  refine lv_aload_n hx hb dX3_isBeast_3 rfl (lv_at hl 0 rfl) ?_
  refine va_get (D := (dC, dI)) (ci := 3) (v := .int (nI B)) (C := RX3) (T := TX3) (N := 24) hx hb hts hin3 hown hK hP 0 rfl rfl 10 (by decide) L79 (fun _ h9 => h9) (congrArg (fun z => some (Value.int z)) iB) dX3_isBeast_4 ?_
  refine lv_iconst (v := nI 1) hx hb dX3_isBeast_7 (by decide) ?_
  refine z_isub (v := (nI B) - (nI 1)) hx hb dX3_isBeast_8 (rfl) ?_
  refine lv_i2l (v := ((nI B) - (nI 1)).toInt64) hx hb dX3_isBeast_9 (rfl) ?_
  refine z_callS (As := [.long x.toInt64, .long 0, .long (((nI B) - (nI 1)).toInt64)]) (rest := []) ⟨hx, hb, hml, hown, hts⟩ (c_X3_in l x.toInt64 0 (((nI B) - (nI 1)).toInt64)) (va_cwS 3 hts gX3_isBeast_X3_in rfl rfl rfl (by decide +kernel) ⟨Nat.le_of_ble_eq_true rfl, Nat.le_of_ble_eq_true rfl⟩) rfl hl.1 rfl (Nat.le_of_ble_eq_true rfl) ⟨Nat.zero_le _, Nat.zero_le _⟩ dX3_isBeast_10 (fun r hr => ?_)
  obtain rfl : r = zb (0 ≤ x.toInt64 ∧ x.toInt64 ≤ (((nI B) - (nI 1)).toInt64)) := hr
  refine z_topi (v := zb (hasP B x)) (zb_iff (has64 (N := B) (by omega))) ?_
  exact hq (zb (hasP B x)) 13 ls dX3_isBeast_13 (zb_cases _) (show (zb (hasP B x)) = zb (hasP B x) from rfl)
abbrev rm_c_X3_lives : Room := { frames := 0, cells := 0, slots := 0, locals := 0 }
set_option maxHeartbeats 4000000 in
set_option maxRecDepth 100000 in
theorem c_X3_lives (l : Launch) (dC : Nat → ClassId) (dI : Nat → Nat → Nat) (cI cZ : ClassId) (bd : Nat → Nat) (σ : St) (Hn B L C V M : Nat) (hI : Inv σ Hn B L C V M) (ξ : Nat → Int32) (tk sd : Int32) (kv : Nat → Int32) (hh : Int64) (j : Nat) (hj : j < 4) : Met l yX3_lives wsX3_lives rm_c_X3_lives (va_Pc [.ref (bd 0), .int (nI j)] (fun U => va_P (dC, dI) vwCl ([bo bd σ ξ tk sd kv hh, (bd 2, .inl (cI, 16, .inl (menOf σ))), (bd 3, .inl (cI, 30, .inl (rowsOf σ)))]) U.heap ∧ va_K (dC, dI) vwCl (tyIZ cI cZ) U)) (vp_Si (fun r : Int32 => r = zb (σ 3 j = 1))) 0 0 (fun _ => False) := by
  refine z_pureZ (cc := cX3_lives) (maxL := 2) (av := [.ref (bd 0), .int (nI j)]) (by decide) rfl (Nat.le_of_ble_eq_true rfl) ?_
  intro p e s m below meth c Q ls hx hb hml hown hts ⟨hP, hK⟩ hq hl
  have hown : s.vm.findClass RX3 = some m.cls := hown
  have hin3 : ∀ w ∈ wsX30, w ∈ wsX3_lives := fun _ h => List.mem_cons_of_mem _ (List.mem_append_right _ h)
  have L13 := hts (.fieldLink RX3 13 "BestBeastModel" "men" "[I") (List.mem_of_getElem? (i := 1) rfl)
  obtain ⟨⟨iL, iC, iV, iM, iH, iB, jL, jC, jV, jM, jH, jB⟩, iK, iDe, iAl, iHe, iWo, iO1, iO2⟩ := id hI
  have hl : lv_has ls 2 [(0, .ref (bd 0)), (1, .int (nI j))] := hl
  refine lv_aload_n hx hb dX3_lives_0 rfl (lv_at hl 0 rfl) ?_
  refine va_get (D := (dC, dI)) (ci := 3) (v := .ref (bd 2)) (C := RX3) (T := TX3) (N := 24) hx hb hts hin3 hown hK hP 0 rfl rfl 11 (by decide) L13 (fun _ h9 => h9) rfl dX3_lives_1 ?_
  refine lv_iconst (v := nI 4) hx hb dX3_lives_4 (by decide) ?_
  refine lv_iload_n hx hb dX3_lives_5 rfl (lv_at hl 1 rfl) ?_
  refine z_imul (v := nI (4 * j)) hx hb dX3_lives_6 (pk_mul _ _) ?_
  refine lv_iconst (v := nI 2) hx hb dX3_lives_7 (by decide) ?_
  refine z_iadd (v := nI ((4 * j) + 2)) hx hb dX3_lives_8 (nI_add _ _) ?_
  refine z_iald (D := (dC, dI)) hx hb hK hP 1 0 rfl rfl ((4 * j) + 2) (rfl) (by omega) (by omega) (v := σ 3 j) (menR σ j 2 (by decide)) dX3_lives_9 ?_
  refine lv_iconst (v := nI 1) hx hb dX3_lives_10 (by decide) ?_
  refine lv_icmp_ne (tgt := 18) hx hb dX3_lives_11 (by decide) (fun (c_11 : ¬ (σ 3 j) = 1) => ?_) (fun (c_11 : (σ 3 j) = 1) => ?_)
  · skip
    refine lv_iconst (v := nI 0) hx hb dX3_lives_18 (by decide) ?_
    exact hq (nI 0) 19 ls dX3_lives_19 (Or.inl rfl) (show (nI 0) = zb (σ 3 j = 1) from (zb_f c_11).symm)
  · skip
    refine lv_iconst (v := nI 1) hx hb dX3_lives_14 (by decide) ?_
    refine lv_goto (tgt := 19) hx hb dX3_lives_15 (by decide) ?_
    exact hq (nI 1) 19 ls dX3_lives_19 (Or.inr rfl) (show (nI 1) = zb (σ 3 j = 1) from (zb_t c_11).symm)
abbrev rm_c_X3_lordOf : Room := { frames := 0, cells := 0, slots := 0, locals := 0 }
set_option maxHeartbeats 4000000 in
set_option maxRecDepth 100000 in
theorem c_X3_lordOf (l : Launch) (dC : Nat → ClassId) (dI : Nat → Nat → Nat) (cI cZ : ClassId) (bd : Nat → Nat) (σ : St) (Hn B L C V M : Nat) (hI : Inv σ Hn B L C V M) (ξ : Nat → Int32) (tk sd : Int32) (kv : Nat → Int32) (hh : Int64) (j : Nat) (hj : j < 4) : Met l yX3_lordOf wsX3_lordOf rm_c_X3_lordOf (va_Pc [.ref (bd 0), .int (nI j)] (fun U => va_P (dC, dI) vwCl ([bo bd σ ξ tk sd kv hh, (bd 2, .inl (cI, 16, .inl (menOf σ))), (bd 3, .inl (cI, 30, .inl (rowsOf σ)))]) U.heap ∧ va_K (dC, dI) vwCl (tyIZ cI cZ) U)) (vp_Si (fun r : Int32 => r = nI (lordA σ j))) 0 0 (fun _ => False) := by
  refine z_pureI (cc := cX3_lordOf) (maxL := 4) (av := [.ref (bd 0), .int (nI j)]) (by decide) rfl (Nat.le_of_ble_eq_true rfl) ?_
  intro p e s m below meth c Q ls hx hb hml hown hts ⟨hP, hK⟩ hq hl
  have hown : s.vm.findClass RX3 = some m.cls := hown
  have hin3 : ∀ w ∈ wsX30, w ∈ wsX3_lordOf := fun _ h => List.mem_cons_of_mem _ (List.mem_append_right _ h)
  have L13 := hts (.fieldLink RX3 13 "BestBeastModel" "men" "[I") (List.mem_of_getElem? (i := 1) rfl)
  have L34 := hts (.fieldLink RX3 34 "BestBeastModel" "lord" "I") (List.mem_of_getElem? (i := 2) rfl)
  obtain ⟨⟨iL, iC, iV, iM, iH, iB, jL, jC, jV, jM, jH, jB⟩, iK, iDe, iAl, iHe, iWo, iO1, iO2⟩ := id hI
  have hl : lv_has ls 4 [(0, .ref (bd 0)), (1, .int (nI j))] := hl
  obtain ⟨K, hK4, hKj⟩ := iK j (by omega)
  have hA : lordA σ j = lordN L K := lordA_eq iL hKj (by omega) (by omega)
  refine lv_aload_n hx hb dX3_lordOf_0 rfl (lv_at hl 0 rfl) ?_
  refine va_get (D := (dC, dI)) (ci := 3) (v := .ref (bd 2)) (C := RX3) (T := TX3) (N := 24) hx hb hts hin3 hown hK hP 0 rfl rfl 11 (by decide) L13 (fun _ h9 => h9) rfl dX3_lordOf_1 ?_
  refine lv_iconst (v := nI 4) hx hb dX3_lordOf_4 (by decide) ?_
  refine lv_iload_n hx hb dX3_lordOf_5 rfl (lv_at hl 1 rfl) ?_
  refine z_imul (v := nI (4 * j)) hx hb dX3_lordOf_6 (pk_mul _ _) ?_
  refine z_iald (D := (dC, dI)) hx hb hK hP 1 0 rfl rfl (4 * j) (rfl) (by omega) (by omega) (v := nI K) ((menR σ j 0 (by decide)).trans hKj) dX3_lordOf_7 ?_
  refine lv_istore_n (lv' := [(2, .int (nI K)), (0, .ref (bd 0)), (1, .int (nI j))]) hx hb dX3_lordOf_8 rfl hl (by decide) rfl (fun ls hl => ?_)
  refine lv_iload_n hx hb dX3_lordOf_9 rfl (lv_at hl 0 rfl) ?_
  refine lv_iconst (v := nI 2) hx hb dX3_lordOf_10 (by decide) ?_
  refine z_icmp_le (a := K) (b := 2) (tgt := 18) hx hb (by omega) (by omega) dX3_lordOf_11 (by decide) (fun (c_11 : K ≤ 2) => ?_) (fun (c_11 : 2 < K) => ?_)
  · skip
    refine lv_iload_n hx hb dX3_lordOf_18 rfl (lv_at hl 0 rfl) ?_
    refine lv_iconst (v := nI 1) hx hb dX3_lordOf_19 (by decide) ?_
    refine z_icmp_ne (a := K) (b := 1) (tgt := 32) hx hb (by omega) (by omega) dX3_lordOf_20 (by decide) (fun (c_20 : K ≠ 1) => ?_) (fun (c_20 : K = 1) => ?_)
    · skip
      refine lv_aload_n hx hb dX3_lordOf_32 rfl (lv_at hl 1 rfl) ?_
      refine va_get (D := (dC, dI)) (ci := 3) (v := .int (nI L)) (C := RX3) (T := TX3) (N := 24) hx hb hts hin3 hown hK hP 0 rfl rfl 2 (by decide) L34 (fun _ h9 => h9) (congrArg (fun z => some (Value.int z)) iL) dX3_lordOf_33 ?_
      refine lv_istore_n (lv' := [(3, .int (nI L)), (2, .int (nI K)), (0, .ref (bd 0)), (1, .int (nI j))]) hx hb dX3_lordOf_36 rfl hl (by decide) rfl (fun ls hl => ?_)
      refine lv_iload_n hx hb dX3_lordOf_37 rfl (lv_at hl 0 rfl) ?_
      refine lv_if_ge (tgt := 45) hx hb dX3_lordOf_38 (by decide) (fun (c_38 : 0 ≤ (nI L)) => ?_) (fun (z9 : ¬ (0 ≤ (nI L))) => absurd (nI_pos' (by omega)) z9)
      refine lv_iload_n hx hb dX3_lordOf_45 rfl (lv_at hl 0 rfl) ?_
      exact hq (nI L) 46 ls dX3_lordOf_46 (show (nI L) = nI (lordA σ j) from (by rw [hA]; unfold lordN; rw [if_neg (by omega), if_neg c_20]))
    · skip
      refine lv_aload_n hx hb dX3_lordOf_23 rfl (lv_at hl 1 rfl) ?_
      refine va_get (D := (dC, dI)) (ci := 3) (v := .int (nI L)) (C := RX3) (T := TX3) (N := 24) hx hb hts hin3 hown hK hP 0 rfl rfl 2 (by decide) L34 (fun _ h9 => h9) (congrArg (fun z => some (Value.int z)) iL) dX3_lordOf_24 ?_
      refine lv_iconst (v := nI 1) hx hb dX3_lordOf_27 (by decide) ?_
      refine z_isub (v := (nI L) - (nI 1)) hx hb dX3_lordOf_28 (rfl) ?_
      refine lv_goto (tgt := 36) hx hb dX3_lordOf_29 (by decide) ?_
      refine lv_istore_n (lv' := [(3, .int ((nI L) - (nI 1))), (2, .int (nI K)), (0, .ref (bd 0)), (1, .int (nI j))]) hx hb dX3_lordOf_36 rfl hl (by decide) rfl (fun ls hl => ?_)
      refine lv_iload_n hx hb dX3_lordOf_37 rfl (lv_at hl 0 rfl) ?_
      refine lv_if_ge (tgt := 45) hx hb dX3_lordOf_38 (by decide) (fun (c_38 : 0 ≤ ((nI L) - (nI 1))) => ?_) (fun (c_38 : ¬ (0 ≤ ((nI L) - (nI 1)))) => ?_)
      · skip
        refine lv_iload_n hx hb dX3_lordOf_45 rfl (lv_at hl 0 rfl) ?_
        exact hq ((nI L) - (nI 1)) 46 ls dX3_lordOf_46 (show ((nI L) - (nI 1)) = nI (lordA σ j) from (by rw [hA]; unfold lordN; rw [if_neg (by omega), if_pos c_20]; exact sub_ge1 L (by omega) c_38))
      · skip
        refine lv_iconst (v := nI 0) hx hb dX3_lordOf_41 (by decide) ?_
        refine lv_goto (tgt := 46) hx hb dX3_lordOf_42 (by decide) ?_
        exact hq (nI 0) 46 ls dX3_lordOf_46 (show (nI 0) = nI (lordA σ j) from (by rw [hA]; unfold lordN; rw [if_neg (by omega), if_pos c_20]; exact sub_lt1 L (by omega) c_38))
  · skip
    refine lv_iconst (v := nI 0) hx hb dX3_lordOf_14 (by decide) ?_
    refine lv_goto (tgt := 36) hx hb dX3_lordOf_15 (by decide) ?_
    refine lv_istore_n (lv' := [(3, .int (nI 0)), (2, .int (nI K)), (0, .ref (bd 0)), (1, .int (nI j))]) hx hb dX3_lordOf_36 rfl hl (by decide) rfl (fun ls hl => ?_)
    refine lv_iload_n hx hb dX3_lordOf_37 rfl (lv_at hl 0 rfl) ?_
    refine lv_if_ge (tgt := 45) hx hb dX3_lordOf_38 (by decide) (fun _ => ?_) (fun z9 => absurd (by decide) z9)
    refine lv_iload_n hx hb dX3_lordOf_45 rfl (lv_at hl 0 rfl) ?_
    exact hq (nI 0) 46 ls dX3_lordOf_46 (show (nI 0) = nI (lordA σ j) from (by rw [hA]; unfold lordN; rw [if_pos (by omega)]))
abbrev rm_c_X3_churchOf : Room := { frames := 0, cells := 0, slots := 0, locals := 0 }
set_option maxHeartbeats 4000000 in
set_option maxRecDepth 100000 in
theorem c_X3_churchOf (l : Launch) (dC : Nat → ClassId) (dI : Nat → Nat → Nat) (cI cZ : ClassId) (bd : Nat → Nat) (σ : St) (Hn B L C V M : Nat) (hI : Inv σ Hn B L C V M) (ξ : Nat → Int32) (tk sd : Int32) (kv : Nat → Int32) (hh : Int64) (j : Nat) (hj : j < 4) : Met l yX3_churchOf wsX3_churchOf rm_c_X3_churchOf (va_Pc [.ref (bd 0), .int (nI j)] (fun U => va_P (dC, dI) vwCl ([bo bd σ ξ tk sd kv hh, (bd 2, .inl (cI, 16, .inl (menOf σ))), (bd 3, .inl (cI, 30, .inl (rowsOf σ)))]) U.heap ∧ va_K (dC, dI) vwCl (tyIZ cI cZ) U)) (vp_Si (fun r : Int32 => r = nI (churchA σ j))) 0 0 (fun _ => False) := by
  refine z_pureI (cc := cX3_churchOf) (maxL := 4) (av := [.ref (bd 0), .int (nI j)]) (by decide) rfl (Nat.le_of_ble_eq_true rfl) ?_
  intro p e s m below meth c Q ls hx hb hml hown hts ⟨hP, hK⟩ hq hl
  have hown : s.vm.findClass RX3 = some m.cls := hown
  have hin3 : ∀ w ∈ wsX30, w ∈ wsX3_churchOf := fun _ h => List.mem_cons_of_mem _ (List.mem_append_right _ h)
  have L13 := hts (.fieldLink RX3 13 "BestBeastModel" "men" "[I") (List.mem_of_getElem? (i := 1) rfl)
  have L38 := hts (.fieldLink RX3 38 "BestBeastModel" "church" "I") (List.mem_of_getElem? (i := 2) rfl)
  obtain ⟨⟨iL, iC, iV, iM, iH, iB, jL, jC, jV, jM, jH, jB⟩, iK, iDe, iAl, iHe, iWo, iO1, iO2⟩ := id hI
  have hl : lv_has ls 4 [(0, .ref (bd 0)), (1, .int (nI j))] := hl
  obtain ⟨K, hK4, hKj⟩ := iK j (by omega)
  have hA : churchA σ j = churchN C K := churchA_eq iC hKj (by omega) (by omega)
  refine lv_aload_n hx hb dX3_churchOf_0 rfl (lv_at hl 0 rfl) ?_
  refine va_get (D := (dC, dI)) (ci := 3) (v := .ref (bd 2)) (C := RX3) (T := TX3) (N := 24) hx hb hts hin3 hown hK hP 0 rfl rfl 11 (by decide) L13 (fun _ h9 => h9) rfl dX3_churchOf_1 ?_
  refine lv_iconst (v := nI 4) hx hb dX3_churchOf_4 (by decide) ?_
  refine lv_iload_n hx hb dX3_churchOf_5 rfl (lv_at hl 1 rfl) ?_
  refine z_imul (v := nI (4 * j)) hx hb dX3_churchOf_6 (pk_mul _ _) ?_
  refine z_iald (D := (dC, dI)) hx hb hK hP 1 0 rfl rfl (4 * j) (rfl) (by omega) (by omega) (v := nI K) ((menR σ j 0 (by decide)).trans hKj) dX3_churchOf_7 ?_
  refine lv_istore_n (lv' := [(2, .int (nI K)), (0, .ref (bd 0)), (1, .int (nI j))]) hx hb dX3_churchOf_8 rfl hl (by decide) rfl (fun ls hl => ?_)
  refine lv_iload_n hx hb dX3_churchOf_9 rfl (lv_at hl 0 rfl) ?_
  refine lv_iconst (v := nI 2) hx hb dX3_churchOf_10 (by decide) ?_
  refine z_icmp_ne (a := K) (b := 2) (tgt := 23) hx hb (by omega) (by omega) dX3_churchOf_11 (by decide) (fun (c_11 : K ≠ 2) => ?_) (fun (c_11 : K = 2) => ?_)
  · skip
    refine lv_iload_n hx hb dX3_churchOf_23 rfl (lv_at hl 0 rfl) ?_
    refine lv_iconst (v := nI 4) hx hb dX3_churchOf_24 (by decide) ?_
    refine z_icmp_ne (a := K) (b := 4) (tgt := 37) hx hb (by omega) (by omega) dX3_churchOf_25 (by decide) (fun (c_25 : K ≠ 4) => ?_) (fun (c_25 : K = 4) => ?_)
    · skip
      refine lv_aload_n hx hb dX3_churchOf_37 rfl (lv_at hl 1 rfl) ?_
      refine va_get (D := (dC, dI)) (ci := 3) (v := .int (nI C)) (C := RX3) (T := TX3) (N := 24) hx hb hts hin3 hown hK hP 0 rfl rfl 3 (by decide) L38 (fun _ h9 => h9) (congrArg (fun z => some (Value.int z)) iC) dX3_churchOf_38 ?_
      refine lv_istore_n (lv' := [(3, .int (nI C)), (2, .int (nI K)), (0, .ref (bd 0)), (1, .int (nI j))]) hx hb dX3_churchOf_41 rfl hl (by decide) rfl (fun ls hl => ?_)
      refine lv_iload_n hx hb dX3_churchOf_42 rfl (lv_at hl 0 rfl) ?_
      refine lv_if_ge (tgt := 50) hx hb dX3_churchOf_43 (by decide) (fun (c_43 : 0 ≤ (nI C)) => ?_) (fun (z9 : ¬ (0 ≤ (nI C))) => absurd (nI_pos' (by omega)) z9)
      refine lv_iload_n hx hb dX3_churchOf_50 rfl (lv_at hl 0 rfl) ?_
      exact hq (nI C) 51 ls dX3_churchOf_51 (show (nI C) = nI (churchA σ j) from (by rw [hA]; unfold churchN; rw [if_neg c_11, if_neg c_25]))
    · skip
      refine lv_aload_n hx hb dX3_churchOf_28 rfl (lv_at hl 1 rfl) ?_
      refine va_get (D := (dC, dI)) (ci := 3) (v := .int (nI C)) (C := RX3) (T := TX3) (N := 24) hx hb hts hin3 hown hK hP 0 rfl rfl 3 (by decide) L38 (fun _ h9 => h9) (congrArg (fun z => some (Value.int z)) iC) dX3_churchOf_29 ?_
      refine lv_iconst (v := nI 2) hx hb dX3_churchOf_32 (by decide) ?_
      refine z_isub (v := (nI C) - (nI 2)) hx hb dX3_churchOf_33 (rfl) ?_
      refine lv_goto (tgt := 41) hx hb dX3_churchOf_34 (by decide) ?_
      refine lv_istore_n (lv' := [(3, .int ((nI C) - (nI 2))), (2, .int (nI K)), (0, .ref (bd 0)), (1, .int (nI j))]) hx hb dX3_churchOf_41 rfl hl (by decide) rfl (fun ls hl => ?_)
      refine lv_iload_n hx hb dX3_churchOf_42 rfl (lv_at hl 0 rfl) ?_
      refine lv_if_ge (tgt := 50) hx hb dX3_churchOf_43 (by decide) (fun (c_43 : 0 ≤ ((nI C) - (nI 2))) => ?_) (fun (c_43 : ¬ (0 ≤ ((nI C) - (nI 2)))) => ?_)
      · skip
        refine lv_iload_n hx hb dX3_churchOf_50 rfl (lv_at hl 0 rfl) ?_
        exact hq ((nI C) - (nI 2)) 51 ls dX3_churchOf_51 (show ((nI C) - (nI 2)) = nI (churchA σ j) from (by rw [hA]; unfold churchN; rw [if_neg c_11, if_pos c_25]; exact sub_ge2 C (by omega) c_43))
      · skip
        refine lv_iconst (v := nI 0) hx hb dX3_churchOf_46 (by decide) ?_
        refine lv_goto (tgt := 51) hx hb dX3_churchOf_47 (by decide) ?_
        exact hq (nI 0) 51 ls dX3_churchOf_51 (show (nI 0) = nI (churchA σ j) from (by rw [hA]; unfold churchN; rw [if_neg c_11, if_pos c_25]; exact sub_lt2 C (by omega) c_43))
  · skip
    refine lv_aload_n hx hb dX3_churchOf_14 rfl (lv_at hl 1 rfl) ?_
    refine va_get (D := (dC, dI)) (ci := 3) (v := .int (nI C)) (C := RX3) (T := TX3) (N := 24) hx hb hts hin3 hown hK hP 0 rfl rfl 3 (by decide) L38 (fun _ h9 => h9) (congrArg (fun z => some (Value.int z)) iC) dX3_churchOf_15 ?_
    refine lv_iconst (v := nI 1) hx hb dX3_churchOf_18 (by decide) ?_
    refine z_iadd (v := nI (C + 1)) hx hb dX3_churchOf_19 (nI_add _ _) ?_
    refine lv_goto (tgt := 41) hx hb dX3_churchOf_20 (by decide) ?_
    refine lv_istore_n (lv' := [(3, .int (nI (C + 1))), (2, .int (nI K)), (0, .ref (bd 0)), (1, .int (nI j))]) hx hb dX3_churchOf_41 rfl hl (by decide) rfl (fun ls hl => ?_)
    refine lv_iload_n hx hb dX3_churchOf_42 rfl (lv_at hl 0 rfl) ?_
    refine lv_if_ge (tgt := 50) hx hb dX3_churchOf_43 (by decide) (fun (c_43 : 0 ≤ (nI (C + 1))) => ?_) (fun (z9 : ¬ (0 ≤ (nI (C + 1)))) => absurd (nI_pos' (by omega)) z9)
    refine lv_iload_n hx hb dX3_churchOf_50 rfl (lv_at hl 0 rfl) ?_
    exact hq (nI (C + 1)) 51 ls dX3_churchOf_51 (show (nI (C + 1)) = nI (churchA σ j) from (by rw [hA]; unfold churchN; rw [if_pos c_11]))
abbrev rm_c_X3_hisBits : Room := { frames := 0, cells := 0, slots := 0, locals := 0 }
set_option maxHeartbeats 4000000 in
set_option maxRecDepth 100000 in
theorem c_X3_hisBits (l : Launch) (dC : Nat → ClassId) (dI : Nat → Nat → Nat) (cI cZ : ClassId) (bd : Nat → Nat) (σ : St) (Hn B L C V M : Nat) (hI : Inv σ Hn B L C V M) (ξ : Nat → Int32) (tk sd : Int32) (kv : Nat → Int32) (hh : Int64) (h : Int32) : Met l yX3_hisBits wsX3_hisBits rm_c_X3_hisBits (va_Pc [.ref (bd 0), .int h] (fun U => va_P (dC, dI) vwCl ([bo bd σ ξ tk sd kv hh, (bd 2, .inl (cI, 16, .inl (menOf σ))), (bd 3, .inl (cI, 30, .inl (rowsOf σ)))]) U.heap ∧ va_K (dC, dI) vwCl (tyIZ cI cZ) U)) (vp_Si (fun r : Int32 => r = ownR σ h B)) 0 0 (fun _ => False) := by
  refine z_pureI (cc := cX3_hisBits) (maxL := 4) (av := [.ref (bd 0), .int h]) (by decide) rfl (Nat.le_of_ble_eq_true rfl) ?_
  intro p e s m below meth c Q ls hx hb hml hown hts ⟨hP, hK⟩ hq hl
  have hown : s.vm.findClass RX3 = some m.cls := hown
  have hin3 : ∀ w ∈ wsX30, w ∈ wsX3_hisBits := fun _ h => List.mem_cons_of_mem _ (List.mem_append_right _ h)
  have L79 := hts (.fieldLink RX3 79 "BestBeastModel" "beasts" "I") (List.mem_of_getElem? (i := 1) rfl)
  have L16 := hts (.fieldLink RX3 16 "BestBeastModel" "rows" "[I") (List.mem_of_getElem? (i := 2) rfl)
  obtain ⟨⟨iL, iC, iV, iM, iH, iB, jL, jC, jV, jM, jH, jB⟩, iK, iDe, iAl, iHe, iWo, iO1, iO2⟩ := id hI
  have hl : lv_has ls 4 [(0, .ref (bd 0)), (1, .int h)] := hl
  refine lv_iconst (v := nI 0) hx hb dX3_hisBits_0 (by decide) ?_
  refine lv_istore_n (lv' := [(2, .int (nI 0)), (0, .ref (bd 0)), (1, .int h)]) hx hb dX3_hisBits_1 rfl hl (by decide) rfl (fun ls hl => ?_)
  refine lv_iconst (v := nI 0) hx hb dX3_hisBits_2 (by decide) ?_
  refine lv_istore_n (lv' := [(3, .int (nI 0)), (2, .int (nI 0)), (0, .ref (bd 0)), (1, .int h)]) hx hb dX3_hisBits_3 rfl hl (by decide) rfl (fun ls hl => ?_)
  suffices hlp4 : ∀ (nf : Nat) (k : Nat) (x4_3 : Int32) (x4_2 : Int32) (ls : Array Slot), (k ≤ B) → x4_3 = nI k → x4_2 = ownR σ h k → lv_has ls 4 [(3, .int x4_3), (2, .int x4_2), (0, .ref (bd 0)), (1, .int h)] → B - k < nf → W p l e rm_c_X3_hisBits s m ([.ref (bd 0), .int h] : List Value).toArray below meth c s.heap [] 0 0 Q (F0 m 4 ls []) by
    exact hlp4 ((B - 0) + 1) 0 (nI 0) (nI 0) ls (by omega) rfl rfl (lv_sub hl [0, 1, 2, 3] rfl) (by omega)
  intro nf
  induction nf with
  | zero => intro k x4_3 x4_2 ls hk e4_3 e4_2 hl hn; omega
  | succ nf ih4 =>
    intro k x4_3 x4_2 ls hk e4_3 e4_2 hl hn
    subst e4_3
    subst e4_2
    refine lv_iload_n hx hb dX3_hisBits_4 rfl (lv_at hl 0 rfl) ?_
    refine lv_aload_n hx hb dX3_hisBits_5 rfl (lv_at hl 2 rfl) ?_
    refine va_get (D := (dC, dI)) (ci := 3) (v := .int (nI B)) (C := RX3) (T := TX3) (N := 24) hx hb hts hin3 hown hK hP 0 rfl rfl 10 (by decide) L79 (fun _ h9 => h9) (congrArg (fun z => some (Value.int z)) iB) dX3_hisBits_6 ?_
    refine z_icmp_ge (a := k) (b := B) (tgt := 42) hx hb (by omega) (by omega) dX3_hisBits_9 (by decide) (fun (c_9 : B ≤ k) => ?_) (fun (c_9 : k < B) => ?_)
    · skip
      refine lv_iload_n hx hb dX3_hisBits_42 rfl (lv_at hl 1 rfl) ?_
      exact hq (ownR σ h k) 43 ls dX3_hisBits_43 (show (ownR σ h k) = ownR σ h B from (by rw [show B = k by omega]))
    · skip
      refine lv_iload_n hx hb dX3_hisBits_12 rfl (lv_at hl 1 rfl) ?_
      refine lv_aload_n hx hb dX3_hisBits_13 rfl (lv_at hl 2 rfl) ?_
      refine va_get (D := (dC, dI)) (ci := 3) (v := .ref (bd 3)) (C := RX3) (T := TX3) (N := 24) hx hb hts hin3 hown hK hP 0 rfl rfl 12 (by decide) L16 (fun _ h9 => h9) rfl dX3_hisBits_14 ?_
      refine lv_iconst (v := nI 5) hx hb dX3_hisBits_17 (by decide) ?_
      refine lv_iload_n hx hb dX3_hisBits_18 rfl (lv_at hl 0 rfl) ?_
      refine z_imul (v := nI (5 * k)) hx hb dX3_hisBits_19 (pk_mul _ _) ?_
      refine lv_iconst (v := nI 1) hx hb dX3_hisBits_20 (by decide) ?_
      refine z_iadd (v := nI ((5 * k) + 1)) hx hb dX3_hisBits_21 (nI_add _ _) ?_
      refine z_iald (D := (dC, dI)) hx hb hK hP 2 0 rfl rfl ((5 * k) + 1) (rfl) (by omega) (by omega) (v := σ 6 k) (rowsR σ k 1 (by decide)) dX3_hisBits_22 ?_
      refine lv_iload_n hx hb dX3_hisBits_23 rfl (lv_at hl 3 rfl) ?_
      refine lv_icmp_ne (tgt := 33) hx hb dX3_hisBits_24 (by decide) (fun (c_24 : ¬ (σ 6 k) = h) => ?_) (fun (c_24 : (σ 6 k) = h) => ?_)
      · skip
        refine lv_iconst (v := nI 0) hx hb dX3_hisBits_33 (by decide) ?_
        refine z_ior (v := (ownR σ h k) ||| (nI 0)) hx hb dX3_hisBits_34 (rfl) ?_
        refine lv_istore_n (lv' := [(2, .int ((ownR σ h k) ||| (nI 0))), (3, .int (nI k)), (0, .ref (bd 0)), (1, .int h)]) hx hb dX3_hisBits_35 rfl hl (by decide) rfl (fun ls hl => ?_)
        refine lv_iinc (v := nI (k + 1)) (lv' := [(3, .int (nI (k + 1))), (2, .int ((ownR σ h k) ||| (nI 0))), (0, .ref (bd 0)), (1, .int h)]) hx hb dX3_hisBits_36 hl (k := 1) rfl (nI_1 _) (by decide) rfl (fun ls hl => ?_)
        refine lv_goto (tgt := 4) hx hb dX3_hisBits_39 (by decide) ?_
        exact ih4 (k + 1) (nI (k + 1)) ((ownR σ h k) ||| (nI 0)) ls (by omega) (show nI (k + 1) = nI (k + 1) from rfl) (show (ownR σ h k) ||| (nI 0) = ownR σ h (k + 1) from ownM_n c_24) (lv_sub hl [0, 1, 2, 3] rfl) (by omega)
      · skip
        refine lv_iconst (v := nI 1) hx hb dX3_hisBits_27 (by decide) ?_
        refine lv_iload_n hx hb dX3_hisBits_28 rfl (lv_at hl 0 rfl) ?_
        refine z_ishl (v := zbit k) hx hb dX3_hisBits_29 (rfl) ?_
        refine lv_goto (tgt := 34) hx hb dX3_hisBits_30 (by decide) ?_
        refine z_ior (v := (ownR σ h k) ||| (zbit k)) hx hb dX3_hisBits_34 (rfl) ?_
        refine lv_istore_n (lv' := [(2, .int ((ownR σ h k) ||| (zbit k))), (3, .int (nI k)), (0, .ref (bd 0)), (1, .int h)]) hx hb dX3_hisBits_35 rfl hl (by decide) rfl (fun ls hl => ?_)
        refine lv_iinc (v := nI (k + 1)) (lv' := [(3, .int (nI (k + 1))), (2, .int ((ownR σ h k) ||| (zbit k))), (0, .ref (bd 0)), (1, .int h)]) hx hb dX3_hisBits_36 hl (k := 1) rfl (nI_1 _) (by decide) rfl (fun ls hl => ?_)
        refine lv_goto (tgt := 4) hx hb dX3_hisBits_39 (by decide) ?_
        exact ih4 (k + 1) (nI (k + 1)) ((ownR σ h k) ||| (zbit k)) ls (by omega) (show nI (k + 1) = nI (k + 1) from rfl) (show (ownR σ h k) ||| (zbit k) = ownR σ h (k + 1) from ownR_y c_24) (lv_sub hl [0, 1, 2, 3] rfl) (by omega)
abbrev rm_c_X3_heldBits : Room := { frames := 1, cells := 0, slots := 0, locals := 23 }
set_option maxHeartbeats 4000000 in
set_option maxRecDepth 100000 in
theorem c_X3_heldBits (l : Launch) (dC : Nat → ClassId) (dI : Nat → Nat → Nat) (cI cZ : ClassId) (bd : Nat → Nat) (σ : St) (Hn B L C V M : Nat) (hI : Inv σ Hn B L C V M) (ξ : Nat → Int32) (tk sd : Int32) (kv : Nat → Int32) (hh : Int64) (h yr : Int32) (hne : ¬ h = -1) : Met l yX3_heldBits wsX3_heldBits rm_c_X3_heldBits (va_Pc [.ref (bd 0), .int h, .int yr] (fun U => va_P (dC, dI) vwCl ([bo bd σ ξ tk sd kv hh, (bd 2, .inl (cI, 16, .inl (menOf σ))), (bd 3, .inl (cI, 30, .inl (rowsOf σ)))]) U.heap ∧ va_K (dC, dI) vwCl (tyIZ cI cZ) U)) (vp_Si (fun r : Int32 => r = heldR σ h yr (ownR σ h B) B)) 0 0 (fun _ => False) := by
  refine z_pureI (cc := cX3_heldBits) (maxL := 6) (av := [.ref (bd 0), .int h, .int yr]) (by decide) rfl (Nat.le_of_ble_eq_true rfl) ?_
  intro p e s m below meth c Q ls hx hb hml hown hts ⟨hP, hK⟩ hq hl
  have hown : s.vm.findClass RX3 = some m.cls := hown
  have hin3 : ∀ w ∈ wsX30, w ∈ wsX3_heldBits := fun _ h => List.mem_cons_of_mem _ (List.mem_append_right _ h)
  have L79 := hts (.fieldLink RX3 79 "BestBeastModel" "beasts" "I") (List.mem_of_getElem? (i := 1) rfl)
  have L16 := hts (.fieldLink RX3 16 "BestBeastModel" "rows" "[I") (List.mem_of_getElem? (i := 2) rfl)
  have L41 := hts (.fieldLink RX3 41 "BestBeastModel" "voidYears" "I") (List.mem_of_getElem? (i := 3) rfl)
  obtain ⟨⟨iL, iC, iV, iM, iH, iB, jL, jC, jV, jM, jH, jB⟩, iK, iDe, iAl, iHe, iWo, iO1, iO2⟩ := id hI
  have hl : lv_has ls 6 [(0, .ref (bd 0)), (1, .int h), (2, .int yr)] := hl
  refine lv_aload_n hx hb dX3_heldBits_0 rfl (lv_at hl 0 rfl) ?_
  refine lv_iload_n hx hb dX3_heldBits_1 rfl (lv_at hl 1 rfl) ?_
  refine z_callV (As := [.int h]) (rest := []) ⟨hx, hb, hml, hown, hts⟩ (c_X3_hisBits l dC dI cI cZ bd σ Hn B L C V M hI ξ tk sd kv hh h) (cwV 1 hts gX3_heldBits_X3_hisBits rfl rfl rfl (by decide +kernel) ⟨Nat.le_of_ble_eq_true rfl, Nat.le_of_ble_eq_true rfl⟩) hP hK (va_recv hK hP (ci := 3) (q0 := 0) rfl rfl) rfl hl.1 rfl (Nat.le_of_ble_eq_true rfl) ⟨Nat.zero_le _, Nat.zero_le _⟩ dX3_heldBits_2 (fun r hr => ?_)
  obtain rfl : r = ownR σ h B := hr
  refine lv_istore_n (lv' := [(3, .int (ownR σ h B)), (0, .ref (bd 0)), (1, .int h), (2, .int yr)]) hx hb dX3_heldBits_5 rfl hl (by decide) rfl (fun ls hl => ?_)
  refine lv_iconst (v := nI 0) hx hb dX3_heldBits_6 (by decide) ?_
  refine lv_istore (lv' := [(4, .int (nI 0)), (3, .int (ownR σ h B)), (0, .ref (bd 0)), (1, .int h), (2, .int yr)]) hx hb dX3_heldBits_7 hl (by decide) rfl (fun ls hl => ?_)
  suffices hlp9 : ∀ (nf : Nat) (k : Nat) (x9_4 : Int32) (x9_3 : Int32) (ls : Array Slot), (k ≤ B) → x9_4 = nI k → x9_3 = heldR σ h yr (ownR σ h B) k → lv_has ls 6 [(4, .int x9_4), (3, .int x9_3), (0, .ref (bd 0)), (1, .int h), (2, .int yr)] → B - k < nf → W p l e rm_c_X3_heldBits s m ([.ref (bd 0), .int h, .int yr] : List Value).toArray below meth c s.heap [] 0 0 Q (F0 m 9 ls []) by
    exact hlp9 ((B - 0) + 1) 0 (nI 0) (ownR σ h B) ls (by omega) rfl rfl (lv_sub hl [0, 1, 2, 3, 4] rfl) (by omega)
  intro nf
  induction nf with
  | zero => intro k x9_4 x9_3 ls hk e9_4 e9_3 hl hn; omega
  | succ nf ih9 =>
    intro k x9_4 x9_3 ls hk e9_4 e9_3 hl hn
    subst e9_4
    subst e9_3
    refine lv_iload hx hb dX3_heldBits_9 (lv_at hl 0 rfl) ?_
    refine lv_aload_n hx hb dX3_heldBits_11 rfl (lv_at hl 2 rfl) ?_
    refine va_get (D := (dC, dI)) (ci := 3) (v := .int (nI B)) (C := RX3) (T := TX3) (N := 24) hx hb hts hin3 hown hK hP 0 rfl rfl 10 (by decide) L79 (fun _ h9 => h9) (congrArg (fun z => some (Value.int z)) iB) dX3_heldBits_12 ?_
    refine z_icmp_ge (a := k) (b := B) (tgt := 97) hx hb (by omega) (by omega) dX3_heldBits_15 (by decide) (fun (c_15 : B ≤ k) => ?_) (fun (c_15 : k < B) => ?_)
    · skip
      refine lv_iload_n hx hb dX3_heldBits_97 rfl (lv_at hl 1 rfl) ?_
      exact hq (heldR σ h yr (ownR σ h B) k) 98 ls dX3_heldBits_98 (show (heldR σ h yr (ownR σ h B) k) = heldR σ h yr (ownR σ h B) B from (by rw [show B = k by omega]))
    · skip
      refine lv_aload_n hx hb dX3_heldBits_18 rfl (lv_at hl 2 rfl) ?_
      refine va_get (D := (dC, dI)) (ci := 3) (v := .ref (bd 3)) (C := RX3) (T := TX3) (N := 24) hx hb hts hin3 hown hK hP 0 rfl rfl 12 (by decide) L16 (fun _ h9 => h9) rfl dX3_heldBits_19 ?_
      refine lv_iconst (v := nI 5) hx hb dX3_heldBits_22 (by decide) ?_
      refine lv_iload hx hb dX3_heldBits_23 (lv_at hl 0 rfl) ?_
      refine z_imul (v := nI (5 * k)) hx hb dX3_heldBits_25 (pk_mul _ _) ?_
      refine lv_iconst (v := nI 1) hx hb dX3_heldBits_26 (by decide) ?_
      refine z_iadd (v := nI ((5 * k) + 1)) hx hb dX3_heldBits_27 (nI_add _ _) ?_
      refine z_iald (D := (dC, dI)) hx hb hK hP 2 0 rfl rfl ((5 * k) + 1) (rfl) (by omega) (by omega) (v := σ 6 k) (rowsR σ k 1 (by decide)) dX3_heldBits_28 ?_
      refine lv_iconst (v := (-1)) hx hb dX3_heldBits_29 (by decide) ?_
      refine lv_icmp_eq (tgt := 72) hx hb dX3_heldBits_30 (by decide) (fun (c_30 : (σ 6 k) = (-1)) => ?_) (fun (c_30 : ¬ ((σ 6 k) = (-1))) => ?_)
      · skip
        refine lv_iconst (v := nI 0) hx hb dX3_heldBits_72 (by decide) ?_
        refine lv_istore (lv' := [(5, .int (nI 0)), (4, .int (nI k)), (3, .int (heldR σ h yr (ownR σ h B) k)), (0, .ref (bd 0)), (1, .int h), (2, .int yr)]) hx hb dX3_heldBits_73 hl (by decide) rfl (fun ls hl => ?_)
        refine lv_iload_n hx hb dX3_heldBits_75 rfl (lv_at hl 2 rfl) ?_
        refine lv_iload hx hb dX3_heldBits_76 (lv_at hl 0 rfl) ?_
        refine lv_if_eq (tgt := 88) hx hb dX3_heldBits_78 (by decide) (fun _ => ?_) (fun z9 => absurd (by decide) z9)
        refine lv_iconst (v := nI 0) hx hb dX3_heldBits_88 (by decide) ?_
        refine z_ior (v := (heldR σ h yr (ownR σ h B) k) ||| (nI 0)) hx hb dX3_heldBits_89 (rfl) ?_
        refine lv_istore_n (lv' := [(3, .int ((heldR σ h yr (ownR σ h B) k) ||| (nI 0))), (5, .int (nI 0)), (4, .int (nI k)), (0, .ref (bd 0)), (1, .int h), (2, .int yr)]) hx hb dX3_heldBits_90 rfl hl (by decide) rfl (fun ls hl => ?_)
        refine lv_iinc (v := nI (k + 1)) (lv' := [(4, .int (nI (k + 1))), (3, .int ((heldR σ h yr (ownR σ h B) k) ||| (nI 0))), (5, .int (nI 0)), (0, .ref (bd 0)), (1, .int h), (2, .int yr)]) hx hb dX3_heldBits_91 hl (k := 2) rfl (nI_1 _) (by decide) rfl (fun ls hl => ?_)
        refine lv_goto (tgt := 9) hx hb dX3_heldBits_94 (by decide) ?_
        exact ih9 (k + 1) (nI (k + 1)) ((heldR σ h yr (ownR σ h B) k) ||| (nI 0)) ls (by omega) (show nI (k + 1) = nI (k + 1) from rfl) (show (heldR σ h yr (ownR σ h B) k) ||| (nI 0) = heldR σ h yr (ownR σ h B) (k + 1) from heldM_n (fun z => hne (by rw [← z.1]; exact iO1 k (by omega) c_30))) (lv_sub hl [0, 1, 3, 4, 5] rfl) (by omega)
      · skip
        refine lv_aload_n hx hb dX3_heldBits_33 rfl (lv_at hl 2 rfl) ?_
        refine va_get (D := (dC, dI)) (ci := 3) (v := .ref (bd 3)) (C := RX3) (T := TX3) (N := 24) hx hb hts hin3 hown hK hP 0 rfl rfl 12 (by decide) L16 (fun _ h9 => h9) rfl dX3_heldBits_34 ?_
        refine lv_iconst (v := nI 5) hx hb dX3_heldBits_37 (by decide) ?_
        refine lv_iload hx hb dX3_heldBits_38 (lv_at hl 0 rfl) ?_
        refine z_imul (v := nI (5 * k)) hx hb dX3_heldBits_40 (pk_mul _ _) ?_
        refine lv_iconst (v := nI 2) hx hb dX3_heldBits_41 (by decide) ?_
        refine z_iadd (v := nI ((5 * k) + 2)) hx hb dX3_heldBits_42 (nI_add _ _) ?_
        refine z_iald (D := (dC, dI)) hx hb hK hP 2 0 rfl rfl ((5 * k) + 2) (rfl) (by omega) (by omega) (v := σ 7 k) (rowsR σ k 2 (by decide)) dX3_heldBits_43 ?_
        refine lv_iload_n hx hb dX3_heldBits_44 rfl (lv_at hl 3 rfl) ?_
        refine lv_icmp_ne (tgt := 72) hx hb dX3_heldBits_45 (by decide) (fun (c_45 : ¬ (σ 7 k) = h) => ?_) (fun (c_45 : (σ 7 k) = h) => ?_)
        · skip
          refine lv_iconst (v := nI 0) hx hb dX3_heldBits_72 (by decide) ?_
          refine lv_istore (lv' := [(5, .int (nI 0)), (4, .int (nI k)), (3, .int (heldR σ h yr (ownR σ h B) k)), (0, .ref (bd 0)), (1, .int h), (2, .int yr)]) hx hb dX3_heldBits_73 hl (by decide) rfl (fun ls hl => ?_)
          refine lv_iload_n hx hb dX3_heldBits_75 rfl (lv_at hl 2 rfl) ?_
          refine lv_iload hx hb dX3_heldBits_76 (lv_at hl 0 rfl) ?_
          refine lv_if_eq (tgt := 88) hx hb dX3_heldBits_78 (by decide) (fun _ => ?_) (fun z9 => absurd (by decide) z9)
          refine lv_iconst (v := nI 0) hx hb dX3_heldBits_88 (by decide) ?_
          refine z_ior (v := (heldR σ h yr (ownR σ h B) k) ||| (nI 0)) hx hb dX3_heldBits_89 (rfl) ?_
          refine lv_istore_n (lv' := [(3, .int ((heldR σ h yr (ownR σ h B) k) ||| (nI 0))), (5, .int (nI 0)), (4, .int (nI k)), (0, .ref (bd 0)), (1, .int h), (2, .int yr)]) hx hb dX3_heldBits_90 rfl hl (by decide) rfl (fun ls hl => ?_)
          refine lv_iinc (v := nI (k + 1)) (lv' := [(4, .int (nI (k + 1))), (3, .int ((heldR σ h yr (ownR σ h B) k) ||| (nI 0))), (5, .int (nI 0)), (0, .ref (bd 0)), (1, .int h), (2, .int yr)]) hx hb dX3_heldBits_91 hl (k := 2) rfl (nI_1 _) (by decide) rfl (fun ls hl => ?_)
          refine lv_goto (tgt := 9) hx hb dX3_heldBits_94 (by decide) ?_
          exact ih9 (k + 1) (nI (k + 1)) ((heldR σ h yr (ownR σ h B) k) ||| (nI 0)) ls (by omega) (show nI (k + 1) = nI (k + 1) from rfl) (show (heldR σ h yr (ownR σ h B) k) ||| (nI 0) = heldR σ h yr (ownR σ h B) (k + 1) from heldM_n (fun z => c_45 z.1)) (lv_sub hl [0, 1, 3, 4, 5] rfl) (by omega)
        · skip
          refine lv_iload_n hx hb dX3_heldBits_48 rfl (lv_at hl 4 rfl) ?_
          refine lv_aload_n hx hb dX3_heldBits_49 rfl (lv_at hl 2 rfl) ?_
          refine va_get (D := (dC, dI)) (ci := 3) (v := .ref (bd 3)) (C := RX3) (T := TX3) (N := 24) hx hb hts hin3 hown hK hP 0 rfl rfl 12 (by decide) L16 (fun _ h9 => h9) rfl dX3_heldBits_50 ?_
          refine lv_iconst (v := nI 5) hx hb dX3_heldBits_53 (by decide) ?_
          refine lv_iload hx hb dX3_heldBits_54 (lv_at hl 0 rfl) ?_
          refine z_imul (v := nI (5 * k)) hx hb dX3_heldBits_56 (pk_mul _ _) ?_
          refine lv_iconst (v := nI 3) hx hb dX3_heldBits_57 (by decide) ?_
          refine z_iadd (v := nI ((5 * k) + 3)) hx hb dX3_heldBits_58 (nI_add _ _) ?_
          refine z_iald (D := (dC, dI)) hx hb hK hP 2 0 rfl rfl ((5 * k) + 3) (rfl) (by omega) (by omega) (v := σ 8 k) (rowsR σ k 3 (by decide)) dX3_heldBits_59 ?_
          refine z_isub (v := yr - (σ 8 k)) hx hb dX3_heldBits_60 (rfl) ?_
          refine lv_aload_n hx hb dX3_heldBits_61 rfl (lv_at hl 2 rfl) ?_
          refine va_get (D := (dC, dI)) (ci := 3) (v := .int (σ 0 2)) (C := RX3) (T := TX3) (N := 24) hx hb hts hin3 hown hK hP 0 rfl rfl 4 (by decide) L41 (fun _ h9 => h9) rfl dX3_heldBits_62 ?_
          refine lv_icmp_ge (tgt := 72) hx hb dX3_heldBits_65 (by decide) (fun (c_65 : (σ 0 2) ≤ (yr - (σ 8 k))) => ?_) (fun (c_65 : ¬ ((σ 0 2) ≤ (yr - (σ 8 k)))) => ?_)
          · skip
            refine lv_iconst (v := nI 0) hx hb dX3_heldBits_72 (by decide) ?_
            refine lv_istore (lv' := [(5, .int (nI 0)), (4, .int (nI k)), (3, .int (heldR σ h yr (ownR σ h B) k)), (0, .ref (bd 0)), (1, .int h), (2, .int yr)]) hx hb dX3_heldBits_73 hl (by decide) rfl (fun ls hl => ?_)
            refine lv_iload_n hx hb dX3_heldBits_75 rfl (lv_at hl 2 rfl) ?_
            refine lv_iload hx hb dX3_heldBits_76 (lv_at hl 0 rfl) ?_
            refine lv_if_eq (tgt := 88) hx hb dX3_heldBits_78 (by decide) (fun _ => ?_) (fun z9 => absurd (by decide) z9)
            refine lv_iconst (v := nI 0) hx hb dX3_heldBits_88 (by decide) ?_
            refine z_ior (v := (heldR σ h yr (ownR σ h B) k) ||| (nI 0)) hx hb dX3_heldBits_89 (rfl) ?_
            refine lv_istore_n (lv' := [(3, .int ((heldR σ h yr (ownR σ h B) k) ||| (nI 0))), (5, .int (nI 0)), (4, .int (nI k)), (0, .ref (bd 0)), (1, .int h), (2, .int yr)]) hx hb dX3_heldBits_90 rfl hl (by decide) rfl (fun ls hl => ?_)
            refine lv_iinc (v := nI (k + 1)) (lv' := [(4, .int (nI (k + 1))), (3, .int ((heldR σ h yr (ownR σ h B) k) ||| (nI 0))), (5, .int (nI 0)), (0, .ref (bd 0)), (1, .int h), (2, .int yr)]) hx hb dX3_heldBits_91 hl (k := 2) rfl (nI_1 _) (by decide) rfl (fun ls hl => ?_)
            refine lv_goto (tgt := 9) hx hb dX3_heldBits_94 (by decide) ?_
            exact ih9 (k + 1) (nI (k + 1)) ((heldR σ h yr (ownR σ h B) k) ||| (nI 0)) ls (by omega) (show nI (k + 1) = nI (k + 1) from rfl) (show (heldR σ h yr (ownR σ h B) k) ||| (nI 0) = heldR σ h yr (ownR σ h B) (k + 1) from heldM_n (fun z => Int32.not_lt.mpr c_65 z.2)) (lv_sub hl [0, 1, 3, 4, 5] rfl) (by omega)
          · skip
            refine lv_iconst (v := nI 1) hx hb dX3_heldBits_68 (by decide) ?_
            refine lv_goto (tgt := 73) hx hb dX3_heldBits_69 (by decide) ?_
            refine lv_istore (lv' := [(5, .int (nI 1)), (4, .int (nI k)), (3, .int (heldR σ h yr (ownR σ h B) k)), (0, .ref (bd 0)), (1, .int h), (2, .int yr)]) hx hb dX3_heldBits_73 hl (by decide) rfl (fun ls hl => ?_)
            refine lv_iload_n hx hb dX3_heldBits_75 rfl (lv_at hl 2 rfl) ?_
            refine lv_iload hx hb dX3_heldBits_76 (lv_at hl 0 rfl) ?_
            refine lv_if_eq (tgt := 88) hx hb dX3_heldBits_78 (by decide) (fun z9 => absurd z9 (by decide)) (fun _ => ?_)
            refine lv_iconst (v := nI 1) hx hb dX3_heldBits_81 (by decide) ?_
            refine lv_iload hx hb dX3_heldBits_82 (lv_at hl 1 rfl) ?_
            refine z_ishl (v := zbit k) hx hb dX3_heldBits_84 (rfl) ?_
            refine lv_goto (tgt := 89) hx hb dX3_heldBits_85 (by decide) ?_
            refine z_ior (v := (heldR σ h yr (ownR σ h B) k) ||| (zbit k)) hx hb dX3_heldBits_89 (rfl) ?_
            refine lv_istore_n (lv' := [(3, .int ((heldR σ h yr (ownR σ h B) k) ||| (zbit k))), (5, .int (nI 1)), (4, .int (nI k)), (0, .ref (bd 0)), (1, .int h), (2, .int yr)]) hx hb dX3_heldBits_90 rfl hl (by decide) rfl (fun ls hl => ?_)
            refine lv_iinc (v := nI (k + 1)) (lv' := [(4, .int (nI (k + 1))), (3, .int ((heldR σ h yr (ownR σ h B) k) ||| (zbit k))), (5, .int (nI 1)), (0, .ref (bd 0)), (1, .int h), (2, .int yr)]) hx hb dX3_heldBits_91 hl (k := 2) rfl (nI_1 _) (by decide) rfl (fun ls hl => ?_)
            refine lv_goto (tgt := 9) hx hb dX3_heldBits_94 (by decide) ?_
            exact ih9 (k + 1) (nI (k + 1)) ((heldR σ h yr (ownR σ h B) k) ||| (zbit k)) ls (by omega) (show nI (k + 1) = nI (k + 1) from rfl) (show (heldR σ h yr (ownR σ h B) k) ||| (zbit k) = heldR σ h yr (ownR σ h B) (k + 1) from heldR_y c_45 (Int32.not_le.mp c_65)) (lv_sub hl [0, 1, 3, 4, 5] rfl) (by omega)
abbrev rm_c_X3_bestOf : Room := { frames := 0, cells := 0, slots := 0, locals := 0 }
set_option maxHeartbeats 4000000 in
set_option maxRecDepth 100000 in
theorem c_X3_bestOf (l : Launch) (dC : Nat → ClassId) (dI : Nat → Nat → Nat) (cI cZ : ClassId) (bd : Nat → Nat) (σ : St) (Hn B L C V M : Nat) (hI : Inv σ Hn B L C V M) (ξ : Nat → Int32) (tk sd : Int32) (kv : Nat → Int32) (hh : Int64) (set : Int32) : Met l yX3_bestOf wsX3_bestOf rm_c_X3_bestOf (va_Pc [.ref (bd 0), .int set] (fun U => va_P (dC, dI) vwCl ([bo bd σ ξ tk sd kv hh, (bd 2, .inl (cI, 16, .inl (menOf σ))), (bd 3, .inl (cI, 30, .inl (rowsOf σ)))]) U.heap ∧ va_K (dC, dI) vwCl (tyIZ cI cZ) U)) (vp_Si (fun r : Int32 => r = bestR σ set B)) 0 0 (fun _ => False) := by
  refine z_pureI (cc := cX3_bestOf) (maxL := 5) (av := [.ref (bd 0), .int set]) (by decide) rfl (Nat.le_of_ble_eq_true rfl) ?_
  intro p e s m below meth c Q ls hx hb hml hown hts ⟨hP, hK⟩ hq hl
  have hown : s.vm.findClass RX3 = some m.cls := hown
  have hin3 : ∀ w ∈ wsX30, w ∈ wsX3_bestOf := fun _ h => List.mem_cons_of_mem _ (List.mem_append_right _ h)
  have L79 := hts (.fieldLink RX3 79 "BestBeastModel" "beasts" "I") (List.mem_of_getElem? (i := 1) rfl)
  have L16 := hts (.fieldLink RX3 16 "BestBeastModel" "rows" "[I") (List.mem_of_getElem? (i := 2) rfl)
  have L70 := hts (.fieldLink RX3 70 "BestBeastModel" "least" "I") (List.mem_of_getElem? (i := 3) rfl)
  obtain ⟨⟨iL, iC, iV, iM, iH, iB, jL, jC, jV, jM, jH, jB⟩, iK, iDe, iAl, iHe, iWo, iO1, iO2⟩ := id hI
  have hl : lv_has ls 5 [(0, .ref (bd 0)), (1, .int set)] := hl
  refine lv_iconst (v := (-1)) hx hb dX3_bestOf_0 (by decide) ?_
  refine lv_istore_n (lv' := [(2, .int (-1)), (0, .ref (bd 0)), (1, .int set)]) hx hb dX3_bestOf_1 rfl hl (by decide) rfl (fun ls hl => ?_)
  refine lv_iconst (v := nI 0) hx hb dX3_bestOf_2 (by decide) ?_
  refine lv_istore_n (lv' := [(3, .int (nI 0)), (2, .int (-1)), (0, .ref (bd 0)), (1, .int set)]) hx hb dX3_bestOf_3 rfl hl (by decide) rfl (fun ls hl => ?_)
  suffices hlp4 : ∀ (nf : Nat) (k : Nat) (x4_3 : Int32) (x4_2 : Int32) (ls : Array Slot), (k ≤ B) → x4_3 = nI k → x4_2 = bestR σ set k → lv_has ls 5 [(3, .int x4_3), (2, .int x4_2), (0, .ref (bd 0)), (1, .int set)] → B - k < nf → W p l e rm_c_X3_bestOf s m ([.ref (bd 0), .int set] : List Value).toArray below meth c s.heap [] 0 0 Q (F0 m 4 ls []) by
    exact hlp4 ((B - 0) + 1) 0 (nI 0) (-1) ls (by omega) rfl rfl (lv_sub hl [0, 1, 2, 3] rfl) (by omega)
  intro nf
  induction nf with
  | zero => intro k x4_3 x4_2 ls hk e4_3 e4_2 hl hn; omega
  | succ nf ih4 =>
    intro k x4_3 x4_2 ls hk e4_3 e4_2 hl hn
    subst e4_3
    subst e4_2
    refine lv_iload_n hx hb dX3_bestOf_4 rfl (lv_at hl 0 rfl) ?_
    refine lv_aload_n hx hb dX3_bestOf_5 rfl (lv_at hl 2 rfl) ?_
    refine va_get (D := (dC, dI)) (ci := 3) (v := .int (nI B)) (C := RX3) (T := TX3) (N := 24) hx hb hts hin3 hown hK hP 0 rfl rfl 10 (by decide) L79 (fun _ h9 => h9) (congrArg (fun z => some (Value.int z)) iB) dX3_bestOf_6 ?_
    refine z_icmp_ge (a := k) (b := B) (tgt := 84) hx hb (by omega) (by omega) dX3_bestOf_9 (by decide) (fun (c_9 : B ≤ k) => ?_) (fun (c_9 : k < B) => ?_)
    · skip
      refine lv_iload_n hx hb dX3_bestOf_84 rfl (lv_at hl 1 rfl) ?_
      exact hq (bestR σ set k) 85 ls dX3_bestOf_85 (show (bestR σ set k) = bestR σ set B from (by rw [show B = k by omega]))
    · skip
      refine lv_iload_n hx hb dX3_bestOf_12 rfl (lv_at hl 3 rfl) ?_
      refine lv_iload_n hx hb dX3_bestOf_13 rfl (lv_at hl 0 rfl) ?_
      refine z_ishr (v := set >>> (nI k &&& 31)) hx hb dX3_bestOf_14 (rfl) ?_
      refine lv_iconst (v := nI 1) hx hb dX3_bestOf_15 (by decide) ?_
      refine z_iand (v := zin set k) hx hb dX3_bestOf_16 (rfl) ?_
      refine lv_iconst (v := nI 1) hx hb dX3_bestOf_17 (by decide) ?_
      refine lv_icmp_ne (tgt := 40) hx hb dX3_bestOf_18 (by decide) (fun (c_18 : ¬ (zin set k) = 1) => ?_) (fun (c_18 : (zin set k) = 1) => ?_)
      · skip
        refine lv_iconst (v := nI 0) hx hb dX3_bestOf_40 (by decide) ?_
        refine lv_istore (lv' := [(4, .int (nI 0)), (3, .int (nI k)), (2, .int (bestR σ set k)), (0, .ref (bd 0)), (1, .int set)]) hx hb dX3_bestOf_41 hl (by decide) rfl (fun ls hl => ?_)
        refine lv_iload hx hb dX3_bestOf_43 (lv_at hl 0 rfl) ?_
        refine lv_if_eq (tgt := 76) hx hb dX3_bestOf_45 (by decide) (fun _ => ?_) (fun z9 => absurd (by decide) z9)
        refine lv_iload_n hx hb dX3_bestOf_76 rfl (lv_at hl 2 rfl) ?_
        refine lv_istore_n (lv' := [(2, .int (bestR σ set k)), (4, .int (nI 0)), (3, .int (nI k)), (0, .ref (bd 0)), (1, .int set)]) hx hb dX3_bestOf_77 rfl hl (by decide) rfl (fun ls hl => ?_)
        refine lv_iinc (v := nI (k + 1)) (lv' := [(3, .int (nI (k + 1))), (2, .int (bestR σ set k)), (4, .int (nI 0)), (0, .ref (bd 0)), (1, .int set)]) hx hb dX3_bestOf_78 hl (k := 2) rfl (nI_1 _) (by decide) rfl (fun ls hl => ?_)
        refine lv_goto (tgt := 4) hx hb dX3_bestOf_81 (by decide) ?_
        exact ih4 (k + 1) (nI (k + 1)) (bestR σ set k) ls (by omega) (show nI (k + 1) = nI (k + 1) from rfl) (show bestR σ set k = bestR σ set (k + 1) from bestM_k (fun z => c_18 z.1)) (lv_sub hl [0, 1, 3, 4] rfl) (by omega)
      · skip
        refine lv_aload_n hx hb dX3_bestOf_21 rfl (lv_at hl 2 rfl) ?_
        refine va_get (D := (dC, dI)) (ci := 3) (v := .ref (bd 3)) (C := RX3) (T := TX3) (N := 24) hx hb hts hin3 hown hK hP 0 rfl rfl 12 (by decide) L16 (fun _ h9 => h9) rfl dX3_bestOf_22 ?_
        refine lv_iconst (v := nI 5) hx hb dX3_bestOf_25 (by decide) ?_
        refine lv_iload_n hx hb dX3_bestOf_26 rfl (lv_at hl 0 rfl) ?_
        refine z_imul (v := nI (5 * k)) hx hb dX3_bestOf_27 (pk_mul _ _) ?_
        refine z_iald (D := (dC, dI)) hx hb hK hP 2 0 rfl rfl (5 * k) (rfl) (by omega) (by omega) (v := σ 5 k) (rowsR σ k 0 (by decide)) dX3_bestOf_28 ?_
        refine lv_aload_n hx hb dX3_bestOf_29 rfl (lv_at hl 2 rfl) ?_
        refine va_get (D := (dC, dI)) (ci := 3) (v := .int (σ 0 3)) (C := RX3) (T := TX3) (N := 24) hx hb hts hin3 hown hK hP 0 rfl rfl 5 (by decide) L70 (fun _ h9 => h9) rfl dX3_bestOf_30 ?_
        refine lv_icmp_lt (tgt := 40) hx hb dX3_bestOf_33 (by decide) (fun (c_33 : (σ 5 k) < (σ 0 3)) => ?_) (fun (c_33 : ¬ ((σ 5 k) < (σ 0 3))) => ?_)
        · skip
          refine lv_iconst (v := nI 0) hx hb dX3_bestOf_40 (by decide) ?_
          refine lv_istore (lv' := [(4, .int (nI 0)), (3, .int (nI k)), (2, .int (bestR σ set k)), (0, .ref (bd 0)), (1, .int set)]) hx hb dX3_bestOf_41 hl (by decide) rfl (fun ls hl => ?_)
          refine lv_iload hx hb dX3_bestOf_43 (lv_at hl 0 rfl) ?_
          refine lv_if_eq (tgt := 76) hx hb dX3_bestOf_45 (by decide) (fun _ => ?_) (fun z9 => absurd (by decide) z9)
          refine lv_iload_n hx hb dX3_bestOf_76 rfl (lv_at hl 2 rfl) ?_
          refine lv_istore_n (lv' := [(2, .int (bestR σ set k)), (4, .int (nI 0)), (3, .int (nI k)), (0, .ref (bd 0)), (1, .int set)]) hx hb dX3_bestOf_77 rfl hl (by decide) rfl (fun ls hl => ?_)
          refine lv_iinc (v := nI (k + 1)) (lv' := [(3, .int (nI (k + 1))), (2, .int (bestR σ set k)), (4, .int (nI 0)), (0, .ref (bd 0)), (1, .int set)]) hx hb dX3_bestOf_78 hl (k := 2) rfl (nI_1 _) (by decide) rfl (fun ls hl => ?_)
          refine lv_goto (tgt := 4) hx hb dX3_bestOf_81 (by decide) ?_
          exact ih4 (k + 1) (nI (k + 1)) (bestR σ set k) ls (by omega) (show nI (k + 1) = nI (k + 1) from rfl) (show bestR σ set k = bestR σ set (k + 1) from bestM_k (fun z => Int32.not_le.mpr c_33 z.2.1)) (lv_sub hl [0, 1, 3, 4] rfl) (by omega)
        · skip
          refine lv_iconst (v := nI 1) hx hb dX3_bestOf_36 (by decide) ?_
          refine lv_goto (tgt := 41) hx hb dX3_bestOf_37 (by decide) ?_
          refine lv_istore (lv' := [(4, .int (nI 1)), (3, .int (nI k)), (2, .int (bestR σ set k)), (0, .ref (bd 0)), (1, .int set)]) hx hb dX3_bestOf_41 hl (by decide) rfl (fun ls hl => ?_)
          refine lv_iload hx hb dX3_bestOf_43 (lv_at hl 0 rfl) ?_
          refine lv_if_eq (tgt := 76) hx hb dX3_bestOf_45 (by decide) (fun z9 => absurd z9 (by decide)) (fun _ => ?_)
          refine lv_iload_n hx hb dX3_bestOf_48 rfl (lv_at hl 2 rfl) ?_
          refine lv_iconst (v := (-1)) hx hb dX3_bestOf_49 (by decide) ?_
          refine lv_icmp_eq (tgt := 72) hx hb dX3_bestOf_50 (by decide) (fun (c_50 : (bestR σ set k) = (-1)) => ?_) (fun (c_50 : ¬ ((bestR σ set k) = (-1))) => ?_)
          · skip
            refine lv_iload_n hx hb dX3_bestOf_72 rfl (lv_at hl 1 rfl) ?_
            refine lv_goto (tgt := 77) hx hb dX3_bestOf_73 (by decide) ?_
            refine lv_istore_n (lv' := [(2, .int (nI k)), (4, .int (nI 1)), (3, .int (nI k)), (0, .ref (bd 0)), (1, .int set)]) hx hb dX3_bestOf_77 rfl hl (by decide) rfl (fun ls hl => ?_)
            refine lv_iinc (v := nI (k + 1)) (lv' := [(3, .int (nI (k + 1))), (2, .int (nI k)), (4, .int (nI 1)), (0, .ref (bd 0)), (1, .int set)]) hx hb dX3_bestOf_78 hl (k := 2) rfl (nI_1 _) (by decide) rfl (fun ls hl => ?_)
            refine lv_goto (tgt := 4) hx hb dX3_bestOf_81 (by decide) ?_
            exact ih4 (k + 1) (nI (k + 1)) (nI k) ls (by omega) (show nI (k + 1) = nI (k + 1) from rfl) (show nI k = bestR σ set (k + 1) from bestM_s ⟨c_18, Int32.not_lt.mp c_33, Or.inl c_50⟩) (lv_sub hl [0, 1, 3, 4] rfl) (by omega)
          · skip
            refine lv_aload_n hx hb dX3_bestOf_53 rfl (lv_at hl 3 rfl) ?_
            refine va_get (D := (dC, dI)) (ci := 3) (v := .ref (bd 3)) (C := RX3) (T := TX3) (N := 24) hx hb hts hin3 hown hK hP 0 rfl rfl 12 (by decide) L16 (fun _ h9 => h9) rfl dX3_bestOf_54 ?_
            refine lv_iconst (v := nI 5) hx hb dX3_bestOf_57 (by decide) ?_
            refine lv_iload_n hx hb dX3_bestOf_58 rfl (lv_at hl 1 rfl) ?_
            refine z_imul (v := nI (5 * k)) hx hb dX3_bestOf_59 (pk_mul _ _) ?_
            refine z_iald (D := (dC, dI)) hx hb hK hP 2 0 rfl rfl (5 * k) (rfl) (by omega) (by omega) (v := σ 5 k) (rowsR σ k 0 (by decide)) dX3_bestOf_60 ?_
            refine lv_aload_n hx hb dX3_bestOf_61 rfl (lv_at hl 3 rfl) ?_
            refine va_get (D := (dC, dI)) (ci := 3) (v := .ref (bd 3)) (C := RX3) (T := TX3) (N := 24) hx hb hts hin3 hown hK hP 0 rfl rfl 12 (by decide) L16 (fun _ h9 => h9) rfl dX3_bestOf_62 ?_
            refine lv_iconst (v := nI 5) hx hb dX3_bestOf_65 (by decide) ?_
            refine lv_iload_n hx hb dX3_bestOf_66 rfl (lv_at hl 2 rfl) ?_
            refine z_imul (v := (nI 5) * (bestR σ set k)) hx hb dX3_bestOf_67 (rfl) ?_
            refine z_iald (D := (dC, dI)) hx hb hK hP 2 0 rfl rfl (5 * tn (bestR σ set k)) ((by obtain ⟨i, hi, e⟩ := bestR_has c_50; rw [e, tn_nI (by omega)]; exact pk_mul 5 i)) (by obtain ⟨i, hi, e⟩ := bestR_has c_50; rw [e, tn_nI (by omega)]; omega) (by omega) (v := σ 5 (tn (bestR σ set k))) (rowsR σ _ 0 (by decide)) dX3_bestOf_68 ?_
            refine lv_icmp_le (tgt := 76) hx hb dX3_bestOf_69 (by decide) (fun (c_69 : (σ 5 k) ≤ (σ 5 (tn (bestR σ set k)))) => ?_) (fun (c_69 : ¬ ((σ 5 k) ≤ (σ 5 (tn (bestR σ set k))))) => ?_)
            · skip
              refine lv_iload_n hx hb dX3_bestOf_76 rfl (lv_at hl 2 rfl) ?_
              refine lv_istore_n (lv' := [(2, .int (bestR σ set k)), (4, .int (nI 1)), (3, .int (nI k)), (0, .ref (bd 0)), (1, .int set)]) hx hb dX3_bestOf_77 rfl hl (by decide) rfl (fun ls hl => ?_)
              refine lv_iinc (v := nI (k + 1)) (lv' := [(3, .int (nI (k + 1))), (2, .int (bestR σ set k)), (4, .int (nI 1)), (0, .ref (bd 0)), (1, .int set)]) hx hb dX3_bestOf_78 hl (k := 2) rfl (nI_1 _) (by decide) rfl (fun ls hl => ?_)
              refine lv_goto (tgt := 4) hx hb dX3_bestOf_81 (by decide) ?_
              exact ih4 (k + 1) (nI (k + 1)) (bestR σ set k) ls (by omega) (show nI (k + 1) = nI (k + 1) from rfl) (show bestR σ set k = bestR σ set (k + 1) from bestM_k (fun z => z.2.2.elim c_50 (fun q => Int32.not_lt.mpr c_69 q))) (lv_sub hl [0, 1, 3, 4] rfl) (by omega)
            · skip
              refine lv_iload_n hx hb dX3_bestOf_72 rfl (lv_at hl 1 rfl) ?_
              refine lv_goto (tgt := 77) hx hb dX3_bestOf_73 (by decide) ?_
              refine lv_istore_n (lv' := [(2, .int (nI k)), (4, .int (nI 1)), (3, .int (nI k)), (0, .ref (bd 0)), (1, .int set)]) hx hb dX3_bestOf_77 rfl hl (by decide) rfl (fun ls hl => ?_)
              refine lv_iinc (v := nI (k + 1)) (lv' := [(3, .int (nI (k + 1))), (2, .int (nI k)), (4, .int (nI 1)), (0, .ref (bd 0)), (1, .int set)]) hx hb dX3_bestOf_78 hl (k := 2) rfl (nI_1 _) (by decide) rfl (fun ls hl => ?_)
              refine lv_goto (tgt := 4) hx hb dX3_bestOf_81 (by decide) ?_
              exact ih4 (k + 1) (nI (k + 1)) (nI k) ls (by omega) (show nI (k + 1) = nI (k + 1) from rfl) (show nI k = bestR σ set (k + 1) from bestM_s ⟨c_18, Int32.not_lt.mp c_33, Or.inr (Int32.not_le.mp c_69)⟩) (lv_sub hl [0, 1, 3, 4] rfl) (by omega)
abbrev rm_c_X3_takenOf : Room := { frames := 1, cells := 0, slots := 0, locals := 24 }
set_option maxHeartbeats 4000000 in
set_option maxRecDepth 100000 in
theorem c_X3_takenOf (l : Launch) (dC : Nat → ClassId) (dI : Nat → Nat → Nat) (cI cZ : ClassId) (bd : Nat → Nat) (σ : St) (Hn B L C V M : Nat) (hI : Inv σ Hn B L C V M) (ξ : Nat → Int32) (tk sd : Int32) (kv : Nat → Int32) (hh : Int64) (j : Nat) (hj : j < Hn) (set : Int32) : Met l yX3_takenOf wsX3_takenOf rm_c_X3_takenOf (va_Pc [.ref (bd 0), .int (nI j), .int set] (fun U => va_P (dC, dI) vwCl ([bo bd σ ξ tk sd kv hh, (bd 2, .inl (cI, 16, .inl (menOf σ))), (bd 3, .inl (cI, 30, .inl (rowsOf σ)))]) U.heap ∧ va_K (dC, dI) vwCl (tyIZ cI cZ) U)) (vp_Si (fun r : Int32 => r = takenF σ B j set)) 0 0 (fun _ => False) := by
  refine z_pureI (cc := cX3_takenOf) (maxL := 7) (av := [.ref (bd 0), .int (nI j), .int set]) (by decide) rfl (Nat.le_of_ble_eq_true rfl) ?_
  intro p e s m below meth c Q ls hx hb hml hown hts ⟨hP, hK⟩ hq hl
  have hown : s.vm.findClass RX3 = some m.cls := hown
  have hin3 : ∀ w ∈ wsX30, w ∈ wsX3_takenOf := fun _ h => List.mem_cons_of_mem _ (List.mem_append_right _ h)
  obtain ⟨⟨iL, iC, iV, iM, iH, iB, jL, jC, jV, jM, jH, jB⟩, iK, iDe, iAl, iHe, iWo, iO1, iO2⟩ := id hI
  have hl : lv_has ls 7 [(0, .ref (bd 0)), (1, .int (nI j)), (2, .int set)] := hl
  obtain ⟨K, hK4, hKj⟩ := iK j (by omega)
  have hm7 : lordA σ j + churchA σ j ≤ 7 := by rw [lordA_eq iL hKj (by omega) (by omega), churchA_eq iC hKj (by omega) (by omega)]; exact many7 jL jC
  refine lv_iload_n hx hb dX3_takenOf_0 rfl (lv_at hl 2 rfl) ?_
  refine lv_istore_n (lv' := [(3, .int set), (0, .ref (bd 0)), (1, .int (nI j)), (2, .int set)]) hx hb dX3_takenOf_1 rfl hl (by decide) rfl (fun ls hl => ?_)
  refine lv_iconst (v := nI 0) hx hb dX3_takenOf_2 (by decide) ?_
  refine lv_istore (lv' := [(4, .int (nI 0)), (3, .int set), (0, .ref (bd 0)), (1, .int (nI j)), (2, .int set)]) hx hb dX3_takenOf_3 hl (by decide) rfl (fun ls hl => ?_)
  refine lv_iconst (v := nI 0) hx hb dX3_takenOf_5 (by decide) ?_
  refine lv_istore (lv' := [(5, .int (nI 0)), (4, .int (nI 0)), (3, .int set), (0, .ref (bd 0)), (1, .int (nI j)), (2, .int set)]) hx hb dX3_takenOf_6 hl (by decide) rfl (fun ls hl => ?_)
  suffices hlp8 : ∀ (nf : Nat) (k : Nat) (x8_5 : Int32) (x8_4 : Int32) (x8_3 : Int32) (ls : Array Slot), (k ≤ lordA σ j + churchA σ j) → x8_5 = nI k → x8_4 = takR σ B set k → x8_3 = set &&& znot (takR σ B set k) → lv_has ls 7 [(5, .int x8_5), (4, .int x8_4), (3, .int x8_3), (0, .ref (bd 0)), (1, .int (nI j)), (2, .int set)] → lordA σ j + churchA σ j - k < nf → W p l e rm_c_X3_takenOf s m ([.ref (bd 0), .int (nI j), .int set] : List Value).toArray below meth c s.heap [] 0 0 Q (F0 m 8 ls []) by
    exact hlp8 ((lordA σ j + churchA σ j - 0) + 1) 0 (nI 0) (nI 0) set ls (by omega) rfl rfl (and_znot0 _) (lv_sub hl [0, 1, 2, 3, 4, 5] rfl) (by omega)
  intro nf
  induction nf with
  | zero => intro k x8_5 x8_4 x8_3 ls hk e8_5 e8_4 e8_3 hl hn; omega
  | succ nf ih8 =>
    intro k x8_5 x8_4 x8_3 ls hk e8_5 e8_4 e8_3 hl hn
    subst e8_5
    subst e8_4
    subst e8_3
    refine lv_iload hx hb dX3_takenOf_8 (lv_at hl 0 rfl) ?_
    refine lv_aload_n hx hb dX3_takenOf_10 rfl (lv_at hl 3 rfl) ?_
    refine lv_iload_n hx hb dX3_takenOf_11 rfl (lv_at hl 4 rfl) ?_
    refine z_callV (As := [.int (nI j)]) (rest := [.int (nI k)]) ⟨hx, hb, hml, hown, hts⟩ (c_X3_lordOf l dC dI cI cZ bd σ Hn B L C V M hI ξ tk sd kv hh j (by omega)) (cwV 1 hts gX3_takenOf_X3_lordOf rfl rfl rfl (by decide +kernel) ⟨Nat.le_of_ble_eq_true rfl, Nat.le_of_ble_eq_true rfl⟩) hP hK (va_recv hK hP (ci := 3) (q0 := 0) rfl rfl) rfl hl.1 rfl (Nat.le_of_ble_eq_true rfl) ⟨Nat.zero_le _, Nat.zero_le _⟩ dX3_takenOf_12 (fun r hr => ?_)
    obtain rfl : r = nI (lordA σ j) := hr
    refine lv_aload_n hx hb dX3_takenOf_15 rfl (lv_at hl 3 rfl) ?_
    refine lv_iload_n hx hb dX3_takenOf_16 rfl (lv_at hl 4 rfl) ?_
    refine z_callV (As := [.int (nI j)]) (rest := [.int (nI (lordA σ j)), .int (nI k)]) ⟨hx, hb, hml, hown, hts⟩ (c_X3_churchOf l dC dI cI cZ bd σ Hn B L C V M hI ξ tk sd kv hh j (by omega)) (cwV 1 hts gX3_takenOf_X3_churchOf rfl rfl rfl (by decide +kernel) ⟨Nat.le_of_ble_eq_true rfl, Nat.le_of_ble_eq_true rfl⟩) hP hK (va_recv hK hP (ci := 3) (q0 := 0) rfl rfl) rfl hl.1 rfl (Nat.le_of_ble_eq_true rfl) ⟨Nat.zero_le _, Nat.zero_le _⟩ dX3_takenOf_17 (fun r hr => ?_)
    obtain rfl : r = nI (churchA σ j) := hr
    refine z_iadd (v := nI ((lordA σ j) + (churchA σ j))) hx hb dX3_takenOf_20 (nI_add _ _) ?_
    refine z_icmp_ge (a := k) (b := (lordA σ j) + (churchA σ j)) (tgt := 75) hx hb (by omega) (by omega) dX3_takenOf_21 (by decide) (fun (c_21 : ((lordA σ j) + (churchA σ j)) ≤ k) => ?_) (fun (c_21 : k < ((lordA σ j) + (churchA σ j))) => ?_)
    · skip
      refine lv_iload hx hb dX3_takenOf_75 (lv_at hl 1 rfl) ?_
      exact hq (takR σ B set k) 77 ls dX3_takenOf_77 (show (takR σ B set k) = takenF σ B j set from (by unfold takenF; rw [show manyF σ j = k from (show lordA σ j + churchA σ j = k by omega)]))
    · skip
      refine lv_aload_n hx hb dX3_takenOf_24 rfl (lv_at hl 3 rfl) ?_
      refine lv_iload_n hx hb dX3_takenOf_25 rfl (lv_at hl 2 rfl) ?_
      refine z_callV (As := [.int (set &&& znot (takR σ B set k))]) (rest := []) ⟨hx, hb, hml, hown, hts⟩ (c_X3_bestOf l dC dI cI cZ bd σ Hn B L C V M hI ξ tk sd kv hh (set &&& znot (takR σ B set k))) (cwV 1 hts gX3_takenOf_X3_bestOf rfl rfl rfl (by decide +kernel) ⟨Nat.le_of_ble_eq_true rfl, Nat.le_of_ble_eq_true rfl⟩) hP hK (va_recv hK hP (ci := 3) (q0 := 0) rfl rfl) rfl hl.1 rfl (Nat.le_of_ble_eq_true rfl) ⟨Nat.zero_le _, Nat.zero_le _⟩ dX3_takenOf_26 (fun r hr => ?_)
      obtain rfl : r = bestR σ (set &&& znot (takR σ B set k)) B := hr
      refine lv_istore (lv' := [(6, .int (bestR σ (set &&& znot (takR σ B set k)) B)), (5, .int (nI k)), (4, .int (takR σ B set k)), (3, .int (set &&& znot (takR σ B set k))), (0, .ref (bd 0)), (1, .int (nI j)), (2, .int set)]) hx hb dX3_takenOf_29 hl (by decide) rfl (fun ls hl => ?_)
      refine lv_iload hx hb dX3_takenOf_31 (lv_at hl 2 rfl) ?_
      refine lv_iload hx hb dX3_takenOf_33 (lv_at hl 0 rfl) ?_
      refine lv_iconst (v := (-1)) hx hb dX3_takenOf_35 (by decide) ?_
      refine lv_icmp_ne (tgt := 43) hx hb dX3_takenOf_36 (by decide) (fun (c_36 : ¬ (bestR σ (set &&& znot (takR σ B set k)) B) = (-1)) => ?_) (fun (c_36 : (bestR σ (set &&& znot (takR σ B set k)) B) = (-1)) => ?_)
      · skip
        refine lv_iconst (v := nI 1) hx hb dX3_takenOf_43 (by decide) ?_
        refine lv_iload hx hb dX3_takenOf_44 (lv_at hl 0 rfl) ?_
        refine z_ishl (v := zbit (tn (bestR σ (set &&& znot (takR σ B set k)) B))) hx hb dX3_takenOf_46 (zbit_tn (bestR_has c_36) (by omega)) ?_
        refine z_ior (v := (takR σ B set k) ||| (zbit (tn (bestR σ (set &&& znot (takR σ B set k)) B)))) hx hb dX3_takenOf_47 (rfl) ?_
        refine lv_istore (lv' := [(4, .int ((takR σ B set k) ||| (zbit (tn (bestR σ (set &&& znot (takR σ B set k)) B))))), (6, .int (bestR σ (set &&& znot (takR σ B set k)) B)), (5, .int (nI k)), (3, .int (set &&& znot (takR σ B set k))), (0, .ref (bd 0)), (1, .int (nI j)), (2, .int set)]) hx hb dX3_takenOf_48 hl (by decide) rfl (fun ls hl => ?_)
        refine lv_iload_n hx hb dX3_takenOf_50 rfl (lv_at hl 3 rfl) ?_
        refine lv_iload hx hb dX3_takenOf_51 (lv_at hl 1 rfl) ?_
        refine lv_iconst (v := (-1)) hx hb dX3_takenOf_53 (by decide) ?_
        refine lv_icmp_ne (tgt := 61) hx hb dX3_takenOf_54 (by decide) (fun (c_54 : ¬ (bestR σ (set &&& znot (takR σ B set k)) B) = (-1)) => ?_) (fun (z9 : (bestR σ (set &&& znot (takR σ B set k)) B) = (-1)) => absurd z9 c_36)
        refine lv_iconst (v := nI 1) hx hb dX3_takenOf_61 (by decide) ?_
        refine lv_iload hx hb dX3_takenOf_62 (lv_at hl 1 rfl) ?_
        refine z_ishl (v := zbit (tn (bestR σ (set &&& znot (takR σ B set k)) B))) hx hb dX3_takenOf_64 (zbit_tn (bestR_has c_36) (by omega)) ?_
        refine lv_iconst (v := (-1)) hx hb dX3_takenOf_65 (by decide) ?_
        refine z_ixor (v := znot (zbit (tn (bestR σ (set &&& znot (takR σ B set k)) B)))) hx hb dX3_takenOf_66 (rfl) ?_
        refine z_iand (v := (set &&& znot (takR σ B set k)) &&& (znot (zbit (tn (bestR σ (set &&& znot (takR σ B set k)) B))))) hx hb dX3_takenOf_67 (rfl) ?_
        refine lv_istore_n (lv' := [(3, .int ((set &&& znot (takR σ B set k)) &&& (znot (zbit (tn (bestR σ (set &&& znot (takR σ B set k)) B)))))), (4, .int ((takR σ B set k) ||| (zbit (tn (bestR σ (set &&& znot (takR σ B set k)) B))))), (6, .int (bestR σ (set &&& znot (takR σ B set k)) B)), (5, .int (nI k)), (0, .ref (bd 0)), (1, .int (nI j)), (2, .int set)]) hx hb dX3_takenOf_68 rfl hl (by decide) rfl (fun ls hl => ?_)
        refine lv_iinc (v := nI (k + 1)) (lv' := [(5, .int (nI (k + 1))), (3, .int ((set &&& znot (takR σ B set k)) &&& (znot (zbit (tn (bestR σ (set &&& znot (takR σ B set k)) B)))))), (4, .int ((takR σ B set k) ||| (zbit (tn (bestR σ (set &&& znot (takR σ B set k)) B))))), (6, .int (bestR σ (set &&& znot (takR σ B set k)) B)), (0, .ref (bd 0)), (1, .int (nI j)), (2, .int set)]) hx hb dX3_takenOf_69 hl (k := 3) rfl (nI_1 _) (by decide) rfl (fun ls hl => ?_)
        refine lv_goto (tgt := 8) hx hb dX3_takenOf_72 (by decide) ?_
        exact ih8 (k + 1) (nI (k + 1)) ((takR σ B set k) ||| (zbit (tn (bestR σ (set &&& znot (takR σ B set k)) B)))) ((set &&& znot (takR σ B set k)) &&& (znot (zbit (tn (bestR σ (set &&& znot (takR σ B set k)) B))))) ls (by omega) (show nI (k + 1) = nI (k + 1) from rfl) (show (takR σ B set k) ||| (zbit (tn (bestR σ (set &&& znot (takR σ B set k)) B))) = takR σ B set (k + 1) from takR_y c_36) (show (set &&& znot (takR σ B set k)) &&& (znot (zbit (tn (bestR σ (set &&& znot (takR σ B set k)) B)))) = set &&& znot (takR σ B set (k + 1)) from takM_l c_36) (lv_sub hl [0, 2, 1, 4, 5, 6] rfl) (by omega)
      · skip
        refine lv_iconst (v := nI 0) hx hb dX3_takenOf_39 (by decide) ?_
        refine lv_goto (tgt := 47) hx hb dX3_takenOf_40 (by decide) ?_
        refine z_ior (v := (takR σ B set k) ||| (nI 0)) hx hb dX3_takenOf_47 (rfl) ?_
        refine lv_istore (lv' := [(4, .int ((takR σ B set k) ||| (nI 0))), (6, .int (bestR σ (set &&& znot (takR σ B set k)) B)), (5, .int (nI k)), (3, .int (set &&& znot (takR σ B set k))), (0, .ref (bd 0)), (1, .int (nI j)), (2, .int set)]) hx hb dX3_takenOf_48 hl (by decide) rfl (fun ls hl => ?_)
        refine lv_iload_n hx hb dX3_takenOf_50 rfl (lv_at hl 3 rfl) ?_
        refine lv_iload hx hb dX3_takenOf_51 (lv_at hl 1 rfl) ?_
        refine lv_iconst (v := (-1)) hx hb dX3_takenOf_53 (by decide) ?_
        refine lv_icmp_ne (tgt := 61) hx hb dX3_takenOf_54 (by decide) (fun (z9 : ¬ (bestR σ (set &&& znot (takR σ B set k)) B) = (-1)) => absurd c_36 z9) (fun (c_54 : (bestR σ (set &&& znot (takR σ B set k)) B) = (-1)) => ?_)
        refine lv_iload_n hx hb dX3_takenOf_57 rfl (lv_at hl 3 rfl) ?_
        refine lv_goto (tgt := 67) hx hb dX3_takenOf_58 (by decide) ?_
        refine z_iand (v := (set &&& znot (takR σ B set k)) &&& (set &&& znot (takR σ B set k))) hx hb dX3_takenOf_67 (rfl) ?_
        refine lv_istore_n (lv' := [(3, .int ((set &&& znot (takR σ B set k)) &&& (set &&& znot (takR σ B set k)))), (4, .int ((takR σ B set k) ||| (nI 0))), (6, .int (bestR σ (set &&& znot (takR σ B set k)) B)), (5, .int (nI k)), (0, .ref (bd 0)), (1, .int (nI j)), (2, .int set)]) hx hb dX3_takenOf_68 rfl hl (by decide) rfl (fun ls hl => ?_)
        refine lv_iinc (v := nI (k + 1)) (lv' := [(5, .int (nI (k + 1))), (3, .int ((set &&& znot (takR σ B set k)) &&& (set &&& znot (takR σ B set k)))), (4, .int ((takR σ B set k) ||| (nI 0))), (6, .int (bestR σ (set &&& znot (takR σ B set k)) B)), (0, .ref (bd 0)), (1, .int (nI j)), (2, .int set)]) hx hb dX3_takenOf_69 hl (k := 3) rfl (nI_1 _) (by decide) rfl (fun ls hl => ?_)
        refine lv_goto (tgt := 8) hx hb dX3_takenOf_72 (by decide) ?_
        exact ih8 (k + 1) (nI (k + 1)) ((takR σ B set k) ||| (nI 0)) ((set &&& znot (takR σ B set k)) &&& (set &&& znot (takR σ B set k))) ls (by omega) (show nI (k + 1) = nI (k + 1) from rfl) (show (takR σ B set k) ||| (nI 0) = takR σ B set (k + 1) from takM_n c_36) (show (set &&& znot (takR σ B set k)) &&& (set &&& znot (takR σ B set k)) = set &&& znot (takR σ B set (k + 1)) from takM_m c_36) (lv_sub hl [0, 2, 1, 4, 5, 6] rfl) (by omega)
abbrev rm_c_X3_worthOf : Room := { frames := 0, cells := 0, slots := 0, locals := 0 }
set_option maxHeartbeats 4000000 in
set_option maxRecDepth 100000 in
theorem c_X3_worthOf (l : Launch) (dC : Nat → ClassId) (dI : Nat → Nat → Nat) (cI cZ : ClassId) (bd : Nat → Nat) (σ : St) (Hn B L C V M : Nat) (hI : Inv σ Hn B L C V M) (ξ : Nat → Int32) (tk sd : Int32) (kv : Nat → Int32) (hh : Int64) (set : Int32) : Met l yX3_worthOf wsX3_worthOf rm_c_X3_worthOf (va_Pc [.ref (bd 0), .int set] (fun U => va_P (dC, dI) vwCl ([bo bd σ ξ tk sd kv hh, (bd 2, .inl (cI, 16, .inl (menOf σ))), (bd 3, .inl (cI, 30, .inl (rowsOf σ)))]) U.heap ∧ va_K (dC, dI) vwCl (tyIZ cI cZ) U)) (vp_Si (fun r : Int32 => r = worthR σ set B)) 0 0 (fun _ => False) := by
  refine z_pureI (cc := cX3_worthOf) (maxL := 4) (av := [.ref (bd 0), .int set]) (by decide) rfl (Nat.le_of_ble_eq_true rfl) ?_
  intro p e s m below meth c Q ls hx hb hml hown hts ⟨hP, hK⟩ hq hl
  have hown : s.vm.findClass RX3 = some m.cls := hown
  have hin3 : ∀ w ∈ wsX30, w ∈ wsX3_worthOf := fun _ h => List.mem_cons_of_mem _ (List.mem_append_right _ h)
  have L79 := hts (.fieldLink RX3 79 "BestBeastModel" "beasts" "I") (List.mem_of_getElem? (i := 1) rfl)
  have L16 := hts (.fieldLink RX3 16 "BestBeastModel" "rows" "[I") (List.mem_of_getElem? (i := 2) rfl)
  obtain ⟨⟨iL, iC, iV, iM, iH, iB, jL, jC, jV, jM, jH, jB⟩, iK, iDe, iAl, iHe, iWo, iO1, iO2⟩ := id hI
  have hl : lv_has ls 4 [(0, .ref (bd 0)), (1, .int set)] := hl
  refine lv_iconst (v := nI 0) hx hb dX3_worthOf_0 (by decide) ?_
  refine lv_istore_n (lv' := [(2, .int (nI 0)), (0, .ref (bd 0)), (1, .int set)]) hx hb dX3_worthOf_1 rfl hl (by decide) rfl (fun ls hl => ?_)
  refine lv_iconst (v := nI 0) hx hb dX3_worthOf_2 (by decide) ?_
  refine lv_istore_n (lv' := [(3, .int (nI 0)), (2, .int (nI 0)), (0, .ref (bd 0)), (1, .int set)]) hx hb dX3_worthOf_3 rfl hl (by decide) rfl (fun ls hl => ?_)
  suffices hlp4 : ∀ (nf : Nat) (k : Nat) (x4_3 : Int32) (x4_2 : Int32) (ls : Array Slot), (k ≤ B) → x4_3 = nI k → x4_2 = worthR σ set k → lv_has ls 4 [(3, .int x4_3), (2, .int x4_2), (0, .ref (bd 0)), (1, .int set)] → B - k < nf → W p l e rm_c_X3_worthOf s m ([.ref (bd 0), .int set] : List Value).toArray below meth c s.heap [] 0 0 Q (F0 m 4 ls []) by
    exact hlp4 ((B - 0) + 1) 0 (nI 0) (nI 0) ls (by omega) rfl rfl (lv_sub hl [0, 1, 2, 3] rfl) (by omega)
  intro nf
  induction nf with
  | zero => intro k x4_3 x4_2 ls hk e4_3 e4_2 hl hn; omega
  | succ nf ih4 =>
    intro k x4_3 x4_2 ls hk e4_3 e4_2 hl hn
    subst e4_3
    subst e4_2
    refine lv_iload_n hx hb dX3_worthOf_4 rfl (lv_at hl 0 rfl) ?_
    refine lv_aload_n hx hb dX3_worthOf_5 rfl (lv_at hl 2 rfl) ?_
    refine va_get (D := (dC, dI)) (ci := 3) (v := .int (nI B)) (C := RX3) (T := TX3) (N := 24) hx hb hts hin3 hown hK hP 0 rfl rfl 10 (by decide) L79 (fun _ h9 => h9) (congrArg (fun z => some (Value.int z)) iB) dX3_worthOf_6 ?_
    refine z_icmp_ge (a := k) (b := B) (tgt := 42) hx hb (by omega) (by omega) dX3_worthOf_9 (by decide) (fun (c_9 : B ≤ k) => ?_) (fun (c_9 : k < B) => ?_)
    · skip
      refine lv_iload_n hx hb dX3_worthOf_42 rfl (lv_at hl 1 rfl) ?_
      exact hq (worthR σ set k) 43 ls dX3_worthOf_43 (show (worthR σ set k) = worthR σ set B from (by rw [show B = k by omega]))
    · skip
      refine lv_iload_n hx hb dX3_worthOf_12 rfl (lv_at hl 1 rfl) ?_
      refine lv_iload_n hx hb dX3_worthOf_13 rfl (lv_at hl 3 rfl) ?_
      refine lv_iload_n hx hb dX3_worthOf_14 rfl (lv_at hl 0 rfl) ?_
      refine z_ishr (v := set >>> (nI k &&& 31)) hx hb dX3_worthOf_15 (rfl) ?_
      refine lv_iconst (v := nI 1) hx hb dX3_worthOf_16 (by decide) ?_
      refine z_iand (v := zin set k) hx hb dX3_worthOf_17 (rfl) ?_
      refine lv_iconst (v := nI 1) hx hb dX3_worthOf_18 (by decide) ?_
      refine lv_icmp_ne (tgt := 33) hx hb dX3_worthOf_19 (by decide) (fun (c_19 : ¬ (zin set k) = 1) => ?_) (fun (c_19 : (zin set k) = 1) => ?_)
      · skip
        refine lv_iconst (v := nI 0) hx hb dX3_worthOf_33 (by decide) ?_
        refine z_iadd (v := (worthR σ set k) + (nI 0)) hx hb dX3_worthOf_34 (rfl) ?_
        refine lv_istore_n (lv' := [(2, .int ((worthR σ set k) + (nI 0))), (3, .int (nI k)), (0, .ref (bd 0)), (1, .int set)]) hx hb dX3_worthOf_35 rfl hl (by decide) rfl (fun ls hl => ?_)
        refine lv_iinc (v := nI (k + 1)) (lv' := [(3, .int (nI (k + 1))), (2, .int ((worthR σ set k) + (nI 0))), (0, .ref (bd 0)), (1, .int set)]) hx hb dX3_worthOf_36 hl (k := 1) rfl (nI_1 _) (by decide) rfl (fun ls hl => ?_)
        refine lv_goto (tgt := 4) hx hb dX3_worthOf_39 (by decide) ?_
        exact ih4 (k + 1) (nI (k + 1)) ((worthR σ set k) + (nI 0)) ls (by omega) (show nI (k + 1) = nI (k + 1) from rfl) (show (worthR σ set k) + (nI 0) = worthR σ set (k + 1) from worthM_n c_19) (lv_sub hl [0, 1, 2, 3] rfl) (by omega)
      · skip
        refine lv_aload_n hx hb dX3_worthOf_22 rfl (lv_at hl 2 rfl) ?_
        refine va_get (D := (dC, dI)) (ci := 3) (v := .ref (bd 3)) (C := RX3) (T := TX3) (N := 24) hx hb hts hin3 hown hK hP 0 rfl rfl 12 (by decide) L16 (fun _ h9 => h9) rfl dX3_worthOf_23 ?_
        refine lv_iconst (v := nI 5) hx hb dX3_worthOf_26 (by decide) ?_
        refine lv_iload_n hx hb dX3_worthOf_27 rfl (lv_at hl 0 rfl) ?_
        refine z_imul (v := nI (5 * k)) hx hb dX3_worthOf_28 (pk_mul _ _) ?_
        refine z_iald (D := (dC, dI)) hx hb hK hP 2 0 rfl rfl (5 * k) (rfl) (by omega) (by omega) (v := σ 5 k) (rowsR σ k 0 (by decide)) dX3_worthOf_29 ?_
        refine lv_goto (tgt := 34) hx hb dX3_worthOf_30 (by decide) ?_
        refine z_iadd (v := (worthR σ set k) + (σ 5 k)) hx hb dX3_worthOf_34 (rfl) ?_
        refine lv_istore_n (lv' := [(2, .int ((worthR σ set k) + (σ 5 k))), (3, .int (nI k)), (0, .ref (bd 0)), (1, .int set)]) hx hb dX3_worthOf_35 rfl hl (by decide) rfl (fun ls hl => ?_)
        refine lv_iinc (v := nI (k + 1)) (lv' := [(3, .int (nI (k + 1))), (2, .int ((worthR σ set k) + (σ 5 k))), (0, .ref (bd 0)), (1, .int set)]) hx hb dX3_worthOf_36 hl (k := 1) rfl (nI_1 _) (by decide) rfl (fun ls hl => ?_)
        refine lv_goto (tgt := 4) hx hb dX3_worthOf_39 (by decide) ?_
        exact ih4 (k + 1) (nI (k + 1)) ((worthR σ set k) + (σ 5 k)) ls (by omega) (show nI (k + 1) = nI (k + 1) from rfl) (show (worthR σ set k) + (σ 5 k) = worthR σ set (k + 1) from worthR_y c_19) (lv_sub hl [0, 1, 2, 3] rfl) (by omega)
abbrev rm_c_X3_lossBy : Room := { frames := 2, cells := 0, slots := 0, locals := 50 }
set_option maxHeartbeats 4000000 in
set_option maxRecDepth 100000 in
theorem c_X3_lossBy (l : Launch) (dC : Nat → ClassId) (dI : Nat → Nat → Nat) (cI cZ : ClassId) (bd : Nat → Nat) (σ : St) (Hn B L C V M : Nat) (hI : Inv σ Hn B L C V M) (ξ : Nat → Int32) (tk sd : Int32) (kv : Nat → Int32) (hh : Int64) (j : Nat) (hj : j < Hn) (set : Int32) : Met l yX3_lossBy wsX3_lossBy rm_c_X3_lossBy (va_Pc [.ref (bd 0), .int (nI j), .int set] (fun U => va_P (dC, dI) vwCl ([bo bd σ ξ tk sd kv hh, (bd 2, .inl (cI, 16, .inl (menOf σ))), (bd 3, .inl (cI, 30, .inl (rowsOf σ)))]) U.heap ∧ va_K (dC, dI) vwCl (tyIZ cI cZ) U)) (vp_Si (fun r : Int32 => r = lossF σ B j set)) 0 0 (fun _ => False) := by
  refine z_pureI (cc := cX3_lossBy) (maxL := 3) (av := [.ref (bd 0), .int (nI j), .int set]) (by decide) rfl (Nat.le_of_ble_eq_true rfl) ?_
  intro p e s m below meth c Q ls hx hb hml hown hts ⟨hP, hK⟩ hq hl
  have hown : s.vm.findClass RX3 = some m.cls := hown
  have hin3 : ∀ w ∈ wsX30, w ∈ wsX3_lossBy := fun _ h => List.mem_cons_of_mem _ (List.mem_append_right _ h)
  obtain ⟨⟨iL, iC, iV, iM, iH, iB, jL, jC, jV, jM, jH, jB⟩, iK, iDe, iAl, iHe, iWo, iO1, iO2⟩ := id hI
  have hl : lv_has ls 3 [(0, .ref (bd 0)), (1, .int (nI j)), (2, .int set)] := hl
  refine lv_aload_n hx hb dX3_lossBy_0 rfl (lv_at hl 0 rfl) ?_
  refine lv_aload_n hx hb dX3_lossBy_1 rfl (lv_at hl 0 rfl) ?_
  refine lv_iload_n hx hb dX3_lossBy_2 rfl (lv_at hl 1 rfl) ?_
  refine lv_iload_n hx hb dX3_lossBy_3 rfl (lv_at hl 2 rfl) ?_
  refine z_callV (As := [.int (nI j), .int set]) (rest := [.ref (bd 0)]) ⟨hx, hb, hml, hown, hts⟩ (c_X3_takenOf l dC dI cI cZ bd σ Hn B L C V M hI ξ tk sd kv hh j (by omega) set) (cwV 2 hts gX3_lossBy_X3_takenOf rfl rfl rfl (by decide +kernel) ⟨Nat.le_of_ble_eq_true rfl, Nat.le_of_ble_eq_true rfl⟩) hP hK (va_recv hK hP (ci := 3) (q0 := 0) rfl rfl) rfl hl.1 rfl (Nat.le_of_ble_eq_true rfl) ⟨Nat.zero_le _, Nat.zero_le _⟩ dX3_lossBy_4 (fun r hr => ?_)
  obtain rfl : r = takenF σ B j set := hr
  refine z_callV (As := [.int (takenF σ B j set)]) (rest := []) ⟨hx, hb, hml, hown, hts⟩ (c_X3_worthOf l dC dI cI cZ bd σ Hn B L C V M hI ξ tk sd kv hh (takenF σ B j set)) (cwV 1 hts gX3_lossBy_X3_worthOf rfl rfl rfl (by decide +kernel) ⟨Nat.le_of_ble_eq_true rfl, Nat.le_of_ble_eq_true rfl⟩) hP hK (va_recv hK hP (ci := 3) (q0 := 0) rfl rfl) rfl hl.1 rfl (Nat.le_of_ble_eq_true rfl) ⟨Nat.zero_le _, Nat.zero_le _⟩ dX3_lossBy_7 (fun r hr => ?_)
  obtain rfl : r = worthR σ (takenF σ B j set) B := hr
  exact hq (worthR σ (takenF σ B j set) B) 10 ls dX3_lossBy_10 (show (worthR σ (takenF σ B j set) B) = lossF σ B j set from rfl)
abbrev rm_c_X3_tell : Room := { frames := 3, cells := 0, slots := 0, locals := 72 }
set_option maxHeartbeats 4000000 in
set_option maxRecDepth 100000 in
theorem c_X3_tell (l : Launch) (dC : Nat → ClassId) (dI : Nat → Nat → Nat) (cI cZ : ClassId) (bd : Nat → Nat) (σ : St) (Hn B L C V M : Nat) (hI : Inv σ Hn B L C V M) (ξ : Nat → Int32) (tk sd : Int32) (kv : Nat → Int32) (hh : Int64) (j : Nat) (hj : j < Hn) (what : Int32) : Met l yX3_tell wsX3_tell rm_c_X3_tell (va_Pc [.ref (bd 0), .int (nI j), .int what] (fun U => va_P (dC, dI) vwCl ([bo bd σ ξ tk sd kv hh, (bd 2, .inl (cI, 16, .inl (menOf σ))), (bd 3, .inl (cI, 30, .inl (rowsOf σ)))]) U.heap ∧ va_K (dC, dI) vwCl (tyIZ cI cZ) U)) (vp_Si (fun r : Int32 => r = zif (hasP 9 what) (aboutN σ B j (tn what)) (-102))) 0 0 (fun _ => False) := by
  refine z_pureI (cc := cX3_tell) (maxL := 3) (av := [.ref (bd 0), .int (nI j), .int what]) (by decide) rfl (Nat.le_of_ble_eq_true rfl) ?_
  intro p e s m below meth c Q ls hx hb hml hown hts ⟨hP, hK⟩ hq hl
  have hown : s.vm.findClass RX3 = some m.cls := hown
  have hin3 : ∀ w ∈ wsX30, w ∈ wsX3_tell := fun _ h => List.mem_cons_of_mem _ (List.mem_append_right _ h)
  have L13 := hts (.fieldLink RX3 13 "BestBeastModel" "men" "[I") (List.mem_of_getElem? (i := 1) rfl)
  have L104 := hts (.fieldLink RX3 104 "BestBeastModel" "yearNow" "I") (List.mem_of_getElem? (i := 2) rfl)
  obtain ⟨⟨iL, iC, iV, iM, iH, iB, jL, jC, jV, jM, jH, jB⟩, iK, iDe, iAl, iHe, iWo, iO1, iO2⟩ := id hI
  have hl : lv_has ls 3 [(0, .ref (bd 0)), (1, .int (nI j)), (2, .int what)] := hl
  refine lv_iload_n hx hb dX3_tell_0 rfl (lv_at hl 2 rfl) ?_
  by_cases hw1 : hasP 9 what
  · obtain ⟨jj, hjj, rfl⟩ := hw1
    match jj, hjj with
    | 0, _ =>
      refine lv_tableIn (off := 51) (tgt := 52) hx hb dX3_tell_1 (by decide +kernel) (by decide +kernel) (by decide +kernel) (by decide) ?_
      refine lv_aload_n hx hb dX3_tell_52 rfl (lv_at hl 0 rfl) ?_
      refine va_get (D := (dC, dI)) (ci := 3) (v := .ref (bd 2)) (C := RX3) (T := TX3) (N := 24) hx hb hts hin3 hown hK hP 0 rfl rfl 11 (by decide) L13 (fun _ h9 => h9) rfl dX3_tell_53 ?_
      refine lv_iconst (v := nI 4) hx hb dX3_tell_56 (by decide) ?_
      refine lv_iload_n hx hb dX3_tell_57 rfl (lv_at hl 1 rfl) ?_
      refine z_imul (v := nI (4 * j)) hx hb dX3_tell_58 (pk_mul _ _) ?_
      refine lv_iload_n hx hb dX3_tell_59 rfl (lv_at hl 2 rfl) ?_
      refine z_iadd (v := nI ((4 * j) + 0)) hx hb dX3_tell_60 (nI_add _ _) ?_
      refine z_iald (D := (dC, dI)) hx hb hK hP 1 0 rfl rfl ((4 * j) + 0) (rfl) (by omega) (by omega) (v := σ 1 j) (menR σ j 0 (by decide)) dX3_tell_61 ?_
      exact hq (σ 1 j) 62 ls dX3_tell_62 (show (σ 1 j) = zif (hasP 9 (nI 0)) (aboutN σ B j (tn (nI 0))) (-102) from (by rw [zif_t (hasP_nI (by decide)), tn_nI (by decide)]; rfl))
    | 1, _ =>
      refine lv_tableIn (off := 51) (tgt := 52) hx hb dX3_tell_1 (by decide +kernel) (by decide +kernel) (by decide +kernel) (by decide) ?_
      refine lv_aload_n hx hb dX3_tell_52 rfl (lv_at hl 0 rfl) ?_
      refine va_get (D := (dC, dI)) (ci := 3) (v := .ref (bd 2)) (C := RX3) (T := TX3) (N := 24) hx hb hts hin3 hown hK hP 0 rfl rfl 11 (by decide) L13 (fun _ h9 => h9) rfl dX3_tell_53 ?_
      refine lv_iconst (v := nI 4) hx hb dX3_tell_56 (by decide) ?_
      refine lv_iload_n hx hb dX3_tell_57 rfl (lv_at hl 1 rfl) ?_
      refine z_imul (v := nI (4 * j)) hx hb dX3_tell_58 (pk_mul _ _) ?_
      refine lv_iload_n hx hb dX3_tell_59 rfl (lv_at hl 2 rfl) ?_
      refine z_iadd (v := nI ((4 * j) + 1)) hx hb dX3_tell_60 (nI_add _ _) ?_
      refine z_iald (D := (dC, dI)) hx hb hK hP 1 0 rfl rfl ((4 * j) + 1) (rfl) (by omega) (by omega) (v := σ 2 j) (menR σ j 1 (by decide)) dX3_tell_61 ?_
      exact hq (σ 2 j) 62 ls dX3_tell_62 (show (σ 2 j) = zif (hasP 9 (nI 1)) (aboutN σ B j (tn (nI 1))) (-102) from (by rw [zif_t (hasP_nI (by decide)), tn_nI (by decide)]; rfl))
    | 2, _ =>
      refine lv_tableIn (off := 51) (tgt := 52) hx hb dX3_tell_1 (by decide +kernel) (by decide +kernel) (by decide +kernel) (by decide) ?_
      refine lv_aload_n hx hb dX3_tell_52 rfl (lv_at hl 0 rfl) ?_
      refine va_get (D := (dC, dI)) (ci := 3) (v := .ref (bd 2)) (C := RX3) (T := TX3) (N := 24) hx hb hts hin3 hown hK hP 0 rfl rfl 11 (by decide) L13 (fun _ h9 => h9) rfl dX3_tell_53 ?_
      refine lv_iconst (v := nI 4) hx hb dX3_tell_56 (by decide) ?_
      refine lv_iload_n hx hb dX3_tell_57 rfl (lv_at hl 1 rfl) ?_
      refine z_imul (v := nI (4 * j)) hx hb dX3_tell_58 (pk_mul _ _) ?_
      refine lv_iload_n hx hb dX3_tell_59 rfl (lv_at hl 2 rfl) ?_
      refine z_iadd (v := nI ((4 * j) + 2)) hx hb dX3_tell_60 (nI_add _ _) ?_
      refine z_iald (D := (dC, dI)) hx hb hK hP 1 0 rfl rfl ((4 * j) + 2) (rfl) (by omega) (by omega) (v := σ 3 j) (menR σ j 2 (by decide)) dX3_tell_61 ?_
      exact hq (σ 3 j) 62 ls dX3_tell_62 (show (σ 3 j) = zif (hasP 9 (nI 2)) (aboutN σ B j (tn (nI 2))) (-102) from (by rw [zif_t (hasP_nI (by decide)), tn_nI (by decide)]; rfl))
    | 3, _ =>
      refine lv_tableIn (off := 51) (tgt := 52) hx hb dX3_tell_1 (by decide +kernel) (by decide +kernel) (by decide +kernel) (by decide) ?_
      refine lv_aload_n hx hb dX3_tell_52 rfl (lv_at hl 0 rfl) ?_
      refine va_get (D := (dC, dI)) (ci := 3) (v := .ref (bd 2)) (C := RX3) (T := TX3) (N := 24) hx hb hts hin3 hown hK hP 0 rfl rfl 11 (by decide) L13 (fun _ h9 => h9) rfl dX3_tell_53 ?_
      refine lv_iconst (v := nI 4) hx hb dX3_tell_56 (by decide) ?_
      refine lv_iload_n hx hb dX3_tell_57 rfl (lv_at hl 1 rfl) ?_
      refine z_imul (v := nI (4 * j)) hx hb dX3_tell_58 (pk_mul _ _) ?_
      refine lv_iload_n hx hb dX3_tell_59 rfl (lv_at hl 2 rfl) ?_
      refine z_iadd (v := nI ((4 * j) + 3)) hx hb dX3_tell_60 (nI_add _ _) ?_
      refine z_iald (D := (dC, dI)) hx hb hK hP 1 0 rfl rfl ((4 * j) + 3) (rfl) (by omega) (by omega) (v := σ 4 j) (menR σ j 3 (by decide)) dX3_tell_61 ?_
      exact hq (σ 4 j) 62 ls dX3_tell_62 (show (σ 4 j) = zif (hasP 9 (nI 3)) (aboutN σ B j (tn (nI 3))) (-102) from (by rw [zif_t (hasP_nI (by decide)), tn_nI (by decide)]; rfl))
    | 4, _ =>
      refine lv_tableIn (off := 62) (tgt := 63) hx hb dX3_tell_1 (by decide +kernel) (by decide +kernel) (by decide +kernel) (by decide) ?_
      refine lv_aload_n hx hb dX3_tell_63 rfl (lv_at hl 0 rfl) ?_
      refine lv_iload_n hx hb dX3_tell_64 rfl (lv_at hl 1 rfl) ?_
      refine z_callV (As := [.int (nI j)]) (rest := []) ⟨hx, hb, hml, hown, hts⟩ (c_X3_hisBits l dC dI cI cZ bd σ Hn B L C V M hI ξ tk sd kv hh (nI j)) (cwV 1 hts gX3_tell_X3_hisBits rfl rfl rfl (by decide +kernel) ⟨Nat.le_of_ble_eq_true rfl, Nat.le_of_ble_eq_true rfl⟩) hP hK (va_recv hK hP (ci := 3) (q0 := 0) rfl rfl) rfl hl.1 rfl (Nat.le_of_ble_eq_true rfl) ⟨Nat.zero_le _, Nat.zero_le _⟩ dX3_tell_65 (fun r hr => ?_)
      obtain rfl : r = ownR σ (nI j) B := hr
      exact hq (ownR σ (nI j) B) 68 ls dX3_tell_68 (show (ownR σ (nI j) B) = zif (hasP 9 (nI 4)) (aboutN σ B j (tn (nI 4))) (-102) from (by rw [zif_t (hasP_nI (by decide)), tn_nI (by decide)]; rfl))
    | 5, _ =>
      refine lv_tableIn (off := 68) (tgt := 69) hx hb dX3_tell_1 (by decide +kernel) (by decide +kernel) (by decide +kernel) (by decide) ?_
      refine lv_aload_n hx hb dX3_tell_69 rfl (lv_at hl 0 rfl) ?_
      refine lv_iload_n hx hb dX3_tell_70 rfl (lv_at hl 1 rfl) ?_
      refine lv_aload_n hx hb dX3_tell_71 rfl (lv_at hl 0 rfl) ?_
      refine va_get (D := (dC, dI)) (ci := 3) (v := .int (σ 0 6)) (C := RX3) (T := TX3) (N := 24) hx hb hts hin3 hown hK hP 0 rfl rfl 7 (by decide) L104 (fun _ h9 => h9) rfl dX3_tell_72 ?_
      refine z_callV (As := [.int (nI j), .int (σ 0 6)]) (rest := []) ⟨hx, hb, hml, hown, hts⟩ (c_X3_heldBits l dC dI cI cZ bd σ Hn B L C V M hI ξ tk sd kv hh (nI j) (σ 0 6) (nI_m1 (by omega))) (cwV 2 hts gX3_tell_X3_heldBits rfl rfl rfl (by decide +kernel) ⟨Nat.le_of_ble_eq_true rfl, Nat.le_of_ble_eq_true rfl⟩) hP hK (va_recv hK hP (ci := 3) (q0 := 0) rfl rfl) rfl hl.1 rfl (Nat.le_of_ble_eq_true rfl) ⟨Nat.zero_le _, Nat.zero_le _⟩ dX3_tell_75 (fun r hr => ?_)
      obtain rfl : r = heldR σ (nI j) (σ 0 6) (ownR σ (nI j) B) B := hr
      refine z_topi (v := heldF σ B (nI j)) (rfl) ?_
      exact hq (heldF σ B (nI j)) 78 ls dX3_tell_78 (show (heldF σ B (nI j)) = zif (hasP 9 (nI 5)) (aboutN σ B j (tn (nI 5))) (-102) from (by rw [zif_t (hasP_nI (by decide)), tn_nI (by decide)]; rfl))
    | 6, _ =>
      refine lv_tableIn (off := 78) (tgt := 79) hx hb dX3_tell_1 (by decide +kernel) (by decide +kernel) (by decide +kernel) (by decide) ?_
      refine lv_aload_n hx hb dX3_tell_79 rfl (lv_at hl 0 rfl) ?_
      refine lv_iload_n hx hb dX3_tell_80 rfl (lv_at hl 1 rfl) ?_
      refine z_callV (As := [.int (nI j)]) (rest := []) ⟨hx, hb, hml, hown, hts⟩ (c_X3_lordOf l dC dI cI cZ bd σ Hn B L C V M hI ξ tk sd kv hh j (by omega)) (cwV 1 hts gX3_tell_X3_lordOf rfl rfl rfl (by decide +kernel) ⟨Nat.le_of_ble_eq_true rfl, Nat.le_of_ble_eq_true rfl⟩) hP hK (va_recv hK hP (ci := 3) (q0 := 0) rfl rfl) rfl hl.1 rfl (Nat.le_of_ble_eq_true rfl) ⟨Nat.zero_le _, Nat.zero_le _⟩ dX3_tell_81 (fun r hr => ?_)
      obtain rfl : r = nI (lordA σ j) := hr
      exact hq (nI (lordA σ j)) 84 ls dX3_tell_84 (show (nI (lordA σ j)) = zif (hasP 9 (nI 6)) (aboutN σ B j (tn (nI 6))) (-102) from (by rw [zif_t (hasP_nI (by decide)), tn_nI (by decide)]; rfl))
    | 7, _ =>
      refine lv_tableIn (off := 84) (tgt := 85) hx hb dX3_tell_1 (by decide +kernel) (by decide +kernel) (by decide +kernel) (by decide) ?_
      refine lv_aload_n hx hb dX3_tell_85 rfl (lv_at hl 0 rfl) ?_
      refine lv_iload_n hx hb dX3_tell_86 rfl (lv_at hl 1 rfl) ?_
      refine z_callV (As := [.int (nI j)]) (rest := []) ⟨hx, hb, hml, hown, hts⟩ (c_X3_churchOf l dC dI cI cZ bd σ Hn B L C V M hI ξ tk sd kv hh j (by omega)) (cwV 1 hts gX3_tell_X3_churchOf rfl rfl rfl (by decide +kernel) ⟨Nat.le_of_ble_eq_true rfl, Nat.le_of_ble_eq_true rfl⟩) hP hK (va_recv hK hP (ci := 3) (q0 := 0) rfl rfl) rfl hl.1 rfl (Nat.le_of_ble_eq_true rfl) ⟨Nat.zero_le _, Nat.zero_le _⟩ dX3_tell_87 (fun r hr => ?_)
      obtain rfl : r = nI (churchA σ j) := hr
      exact hq (nI (churchA σ j)) 90 ls dX3_tell_90 (show (nI (churchA σ j)) = zif (hasP 9 (nI 7)) (aboutN σ B j (tn (nI 7))) (-102) from (by rw [zif_t (hasP_nI (by decide)), tn_nI (by decide)]; rfl))
    | 8, _ =>
      refine lv_tableIn (off := 90) (tgt := 91) hx hb dX3_tell_1 (by decide +kernel) (by decide +kernel) (by decide +kernel) (by decide) ?_
      refine lv_aload_n hx hb dX3_tell_91 rfl (lv_at hl 0 rfl) ?_
      refine lv_iload_n hx hb dX3_tell_92 rfl (lv_at hl 1 rfl) ?_
      refine z_callV (As := [.int (nI j)]) (rest := []) ⟨hx, hb, hml, hown, hts⟩ (c_X3_lives l dC dI cI cZ bd σ Hn B L C V M hI ξ tk sd kv hh j (by omega)) (cwV 1 hts gX3_tell_X3_lives rfl rfl rfl (by decide +kernel) ⟨Nat.le_of_ble_eq_true rfl, Nat.le_of_ble_eq_true rfl⟩) hP hK (va_recv hK hP (ci := 3) (q0 := 0) rfl rfl) rfl hl.1 rfl (Nat.le_of_ble_eq_true rfl) ⟨Nat.zero_le _, Nat.zero_le _⟩ dX3_tell_93 (fun r hr => ?_)
      obtain rfl : r = zb (σ 3 j = 1) := hr
      refine z_ifeq_b (P := σ 3 j = 1) (tgt := 116) hx hb dX3_tell_96 (by decide) (fun (c_96 : ¬ (σ 3 j = 1)) => ?_) (fun (c_96 : σ 3 j = 1) => ?_)
      · skip
        refine lv_iconst (v := nI 0) hx hb dX3_tell_116 (by decide) ?_
        exact hq (nI 0) 117 ls dX3_tell_117 (show (nI 0) = zif (hasP 9 (nI 8)) (aboutN σ B j (tn (nI 8))) (-102) from (by rw [zif_t (hasP_nI (by decide)), tn_nI (by decide)]; show _ = if σ 3 j = 1 then _ else _; rw [if_neg c_96]; rfl))
      · skip
        refine lv_aload_n hx hb dX3_tell_99 rfl (lv_at hl 0 rfl) ?_
        refine lv_iload_n hx hb dX3_tell_100 rfl (lv_at hl 1 rfl) ?_
        refine lv_aload_n hx hb dX3_tell_101 rfl (lv_at hl 0 rfl) ?_
        refine lv_iload_n hx hb dX3_tell_102 rfl (lv_at hl 1 rfl) ?_
        refine lv_aload_n hx hb dX3_tell_103 rfl (lv_at hl 0 rfl) ?_
        refine va_get (D := (dC, dI)) (ci := 3) (v := .int (σ 0 6)) (C := RX3) (T := TX3) (N := 24) hx hb hts hin3 hown hK hP 0 rfl rfl 7 (by decide) L104 (fun _ h9 => h9) rfl dX3_tell_104 ?_
        refine z_callV (As := [.int (nI j), .int (σ 0 6)]) (rest := [.int (nI j), .ref (bd 0)]) ⟨hx, hb, hml, hown, hts⟩ (c_X3_heldBits l dC dI cI cZ bd σ Hn B L C V M hI ξ tk sd kv hh (nI j) (σ 0 6) (nI_m1 (by omega))) (cwV 2 hts gX3_tell_X3_heldBits rfl rfl rfl (by decide +kernel) ⟨Nat.le_of_ble_eq_true rfl, Nat.le_of_ble_eq_true rfl⟩) hP hK (va_recv hK hP (ci := 3) (q0 := 0) rfl rfl) rfl hl.1 rfl (Nat.le_of_ble_eq_true rfl) ⟨Nat.zero_le _, Nat.zero_le _⟩ dX3_tell_107 (fun r hr => ?_)
        obtain rfl : r = heldR σ (nI j) (σ 0 6) (ownR σ (nI j) B) B := hr
        refine z_topi (v := heldF σ B (nI j)) (rfl) ?_
        refine z_callV (As := [.int (nI j), .int (heldF σ B (nI j))]) (rest := []) ⟨hx, hb, hml, hown, hts⟩ (c_X3_lossBy l dC dI cI cZ bd σ Hn B L C V M hI ξ tk sd kv hh j (by omega) (heldF σ B (nI j))) (cwV 2 hts gX3_tell_X3_lossBy rfl rfl rfl (by decide +kernel) ⟨Nat.le_of_ble_eq_true rfl, Nat.le_of_ble_eq_true rfl⟩) hP hK (va_recv hK hP (ci := 3) (q0 := 0) rfl rfl) rfl hl.1 rfl (Nat.le_of_ble_eq_true rfl) ⟨Nat.zero_le _, Nat.zero_le _⟩ dX3_tell_110 (fun r hr => ?_)
        obtain rfl : r = lossF σ B j (heldF σ B (nI j)) := hr
        refine lv_goto (tgt := 117) hx hb dX3_tell_113 (by decide) ?_
        exact hq (lossF σ B j (heldF σ B (nI j))) 117 ls dX3_tell_117 (show (lossF σ B j (heldF σ B (nI j))) = zif (hasP 9 (nI 8)) (aboutN σ B j (tn (nI 8))) (-102) from (by rw [zif_t (hasP_nI (by decide)), tn_nI (by decide)]; show _ = if σ 3 j = 1 then _ else _; rw [if_pos c_96]))
    | jj + 9, hjj => exact absurd hjj (by omega)
  · refine lv_tableOut (tgt := 118) hx hb dX3_tell_1 (hasP_out 9 hw1) (by decide) ?_
    refine lv_bipush (v := (-102)) hx hb dX3_tell_118 (by decide) ?_
    exact hq (-102) 120 ls dX3_tell_120 (show (-102) = zif (hasP 9 what) (aboutN σ B j (tn what)) (-102) from (by rw [zif_f hw1]))
abbrev rm_c_X3_about : Room := { frames := 4, cells := 0, slots := 0, locals := 94 }
set_option maxHeartbeats 4000000 in
set_option maxRecDepth 100000 in
theorem c_X3_about (l : Launch) (dC : Nat → ClassId) (dI : Nat → Nat → Nat) (cI cZ : ClassId) (bd : Nat → Nat) (σ : St) (Hn B L C V M : Nat) (hI : Inv σ Hn B L C V M) (ξ : Nat → Int32) (tk sd : Int32) (kv : Nat → Int32) (hh : Int64) (x what : Int32) : Met l yX3_about wsX3_about rm_c_X3_about (va_Pc [.ref (bd 0), .int x, .int what] (fun U => va_P (dC, dI) vwCl ([bo bd σ ξ tk sd kv hh, (bd 2, .inl (cI, 16, .inl (menOf σ))), (bd 3, .inl (cI, 30, .inl (rowsOf σ)))]) U.heap ∧ va_K (dC, dI) vwCl (tyIZ cI cZ) U)) (vp_Si (fun r : Int32 => r = aboutF σ Hn B x what)) 0 0 (fun _ => False) := by
  refine z_pureI (cc := cX3_about) (maxL := 3) (av := [.ref (bd 0), .int x, .int what]) (by decide) rfl (Nat.le_of_ble_eq_true rfl) ?_
  intro p e s m below meth c Q ls hx hb hml hown hts ⟨hP, hK⟩ hq hl
  have hown : s.vm.findClass RX3 = some m.cls := hown
  have hin3 : ∀ w ∈ wsX30, w ∈ wsX3_about := fun _ h => List.mem_cons_of_mem _ (List.mem_append_right _ h)
  obtain ⟨⟨iL, iC, iV, iM, iH, iB, jL, jC, jV, jM, jH, jB⟩, iK, iDe, iAl, iHe, iWo, iO1, iO2⟩ := id hI
  have hl : lv_has ls 3 [(0, .ref (bd 0)), (1, .int x), (2, .int what)] := hl
  refine lv_aload_n hx hb dX3_about_0 rfl (lv_at hl 0 rfl) ?_
  refine lv_iload_n hx hb dX3_about_1 rfl (lv_at hl 1 rfl) ?_
  refine z_callV (As := [.int x]) (rest := []) ⟨hx, hb, hml, hown, hts⟩ (c_X3_isHolder l dC dI cI cZ bd σ Hn B L C V M hI ξ tk sd kv hh x) (cwV 1 hts gX3_about_X3_isHolder rfl rfl rfl (by decide +kernel) ⟨Nat.le_of_ble_eq_true rfl, Nat.le_of_ble_eq_true rfl⟩) hP hK (va_recv hK hP (ci := 3) (q0 := 0) rfl rfl) rfl hl.1 rfl (Nat.le_of_ble_eq_true rfl) ⟨Nat.zero_le _, Nat.zero_le _⟩ dX3_about_2 (fun r hr => ?_)
  obtain rfl : r = zb (hasP Hn x) := hr
  refine z_ifeq_b (P := hasP Hn x) (tgt := 17) hx hb dX3_about_5 (by decide) (fun (c_5 : ¬ (hasP Hn x)) => ?_) (fun (c_5 : hasP Hn x) => ?_)
  · skip
    refine lv_bipush (v := (-101)) hx hb dX3_about_17 (by decide) ?_
    exact hq (-101) 19 ls dX3_about_19 (show (-101) = aboutF σ Hn B x what from (aboutF_u c_5).symm)
  · skip
    obtain ⟨j, hj, rfl⟩ := c_5
    refine lv_aload_n hx hb dX3_about_8 rfl (lv_at hl 0 rfl) ?_
    refine lv_iload_n hx hb dX3_about_9 rfl (lv_at hl 1 rfl) ?_
    refine lv_iload_n hx hb dX3_about_10 rfl (lv_at hl 2 rfl) ?_
    refine z_callV (As := [.int (nI j), .int what]) (rest := []) ⟨hx, hb, hml, hown, hts⟩ (c_X3_tell l dC dI cI cZ bd σ Hn B L C V M hI ξ tk sd kv hh j (by omega) what) (cwV 2 hts gX3_about_X3_tell rfl rfl rfl (by decide +kernel) ⟨Nat.le_of_ble_eq_true rfl, Nat.le_of_ble_eq_true rfl⟩) hP hK (va_recv hK hP (ci := 3) (q0 := 0) rfl rfl) rfl hl.1 rfl (Nat.le_of_ble_eq_true rfl) ⟨Nat.zero_le _, Nat.zero_le _⟩ dX3_about_11 (fun r hr => ?_)
    obtain rfl : r = zif (hasP 9 what) (aboutN σ B j (tn what)) (-102) := hr
    refine lv_goto (tgt := 19) hx hb dX3_about_14 (by decide) ?_
    exact hq (zif (hasP 9 what) (aboutN σ B j (tn what)) (-102)) 19 ls dX3_about_19 (show (zif (hasP 9 what) (aboutN σ B j (tn what)) (-102)) = aboutF σ Hn B (nI j) what from (by unfold aboutF; rw [zif_t (hasP_nI hj), tn_nI (show j < 2 ^ 31 by omega)]))
abbrev rm_c_X3_as : Room := { frames := 2, cells := 0, slots := 0, locals := 46 }
set_option maxHeartbeats 4000000 in
set_option maxRecDepth 100000 in
theorem c_X3_as (l : Launch) (dC : Nat → ClassId) (dI : Nat → Nat → Nat) (cI cZ : ClassId) (bd : Nat → Nat) (σ : St) (Hn B L C V M : Nat) (hI : Inv σ Hn B L C V M) (ξ : Nat → Int32) (tk sd : Int32) (kv : Nat → Int32) (hh : Int64) (x kd : Int32) : Met l yX3_as wsX3_as rm_c_X3_as (va_Pc [.ref (bd 0), .int x, .int kd] (fun U => va_P (dC, dI) vwCl ([bo bd σ ξ tk sd kv hh, (bd 2, .inl (cI, 16, .inl (menOf σ))), (bd 3, .inl (cI, 30, .inl (rowsOf σ)))]) U.heap ∧ va_K (dC, dI) vwCl (tyIZ cI cZ) U)) (vp_Si (fun r : Int32 => r = asF σ Hn x kd)) 0 0 (fun _ => False) := by
  refine z_pureI (cc := cX3_as) (maxL := 5) (av := [.ref (bd 0), .int x, .int kd]) (by decide) rfl (Nat.le_of_ble_eq_true rfl) ?_
  intro p e s m below meth c Q ls hx hb hml hown hts ⟨hP, hK⟩ hq hl
  have hown : s.vm.findClass RX3 = some m.cls := hown
  have hin3 : ∀ w ∈ wsX30, w ∈ wsX3_as := fun _ h => List.mem_cons_of_mem _ (List.mem_append_right _ h)
  have L82 := hts (.constantLong RX3 82 (4)) (List.mem_of_getElem? (i := 1) rfl)
  have L13 := hts (.fieldLink RX3 13 "BestBeastModel" "men" "[I") (List.mem_of_getElem? (i := 2) rfl)
  obtain ⟨⟨iL, iC, iV, iM, iH, iB, jL, jC, jV, jM, jH, jB⟩, iK, iDe, iAl, iHe, iWo, iO1, iO2⟩ := id hI
  have hl : lv_has ls 5 [(0, .ref (bd 0)), (1, .int x), (2, .int kd)] := hl
  refine lv_aload_n hx hb dX3_as_0 rfl (lv_at hl 0 rfl) ?_
  refine lv_iload_n hx hb dX3_as_1 rfl (lv_at hl 1 rfl) ?_
  refine z_callV (As := [.int x]) (rest := []) ⟨hx, hb, hml, hown, hts⟩ (c_X3_isHolder l dC dI cI cZ bd σ Hn B L C V M hI ξ tk sd kv hh x) (cwV 1 hts gX3_as_X3_isHolder rfl rfl rfl (by decide +kernel) ⟨Nat.le_of_ble_eq_true rfl, Nat.le_of_ble_eq_true rfl⟩) hP hK (va_recv hK hP (ci := 3) (q0 := 0) rfl rfl) rfl hl.1 rfl (Nat.le_of_ble_eq_true rfl) ⟨Nat.zero_le _, Nat.zero_le _⟩ dX3_as_2 (fun r hr => ?_)
  obtain rfl : r = zb (hasP Hn x) := hr
  refine z_ifne_b (P := hasP Hn x) (tgt := 11) hx hb dX3_as_5 (by decide) (fun (c_5 : hasP Hn x) => ?_) (fun (c_5 : ¬ (hasP Hn x)) => ?_)
  · skip
    obtain ⟨j, hj, rfl⟩ := c_5
    refine lv_iload_n hx hb dX3_as_11 rfl (lv_at hl 2 rfl) ?_
    refine lv_i2l (v := kd.toInt64) hx hb dX3_as_12 (rfl) ?_
    refine lv_lconst (v := 0) hx hb dX3_as_13 (by decide) ?_
    refine lv_ldc2 hx hb hown L82 dX3_as_14 ?_
    refine z_callS (As := [.long kd.toInt64, .long 0, .long 4]) (rest := []) ⟨hx, hb, hml, hown, hts⟩ (c_X3_in l kd.toInt64 0 4) (va_cwS 3 hts gX3_as_X3_in rfl rfl rfl (by decide +kernel) ⟨Nat.le_of_ble_eq_true rfl, Nat.le_of_ble_eq_true rfl⟩) rfl hl.1 rfl (Nat.le_of_ble_eq_true rfl) ⟨Nat.zero_le _, Nat.zero_le _⟩ dX3_as_17 (fun r hr => ?_)
    obtain rfl : r = zb (0 ≤ kd.toInt64 ∧ kd.toInt64 ≤ 4) := hr
    refine z_topi (v := zb (inP 0 4 kd)) (zb_iff (in64 (a := 0) (b := 4) (by decide) (by decide))) ?_
    refine z_ifne_b (P := inP 0 4 kd) (tgt := 26) hx hb dX3_as_20 (by decide) (fun (c_20 : inP 0 4 kd) => ?_) (fun (c_20 : ¬ (inP 0 4 kd)) => ?_)
    · skip
      refine lv_aload_n hx hb dX3_as_26 rfl (lv_at hl 0 rfl) ?_
      refine va_get (D := (dC, dI)) (ci := 3) (v := .ref (bd 2)) (C := RX3) (T := TX3) (N := 24) hx hb hts hin3 hown hK hP 0 rfl rfl 11 (by decide) L13 (fun _ h9 => h9) rfl dX3_as_27 ?_
      refine lv_iconst (v := nI 4) hx hb dX3_as_30 (by decide) ?_
      refine lv_iload_n hx hb dX3_as_31 rfl (lv_at hl 1 rfl) ?_
      refine z_imul (v := nI (4 * j)) hx hb dX3_as_32 (pk_mul _ _) ?_
      refine z_iald (D := (dC, dI)) hx hb hK hP 1 0 rfl rfl (4 * j) (rfl) (by omega) (by omega) (v := σ 1 j) (menR σ j 0 (by decide)) dX3_as_33 ?_
      refine lv_istore_n (lv' := [(3, .int (σ 1 j)), (0, .ref (bd 0)), (1, .int (nI j)), (2, .int kd)]) hx hb dX3_as_34 rfl hl (by decide) rfl (fun ls hl => ?_)
      refine lv_iload_n hx hb dX3_as_35 rfl (lv_at hl 3 rfl) ?_
      refine lv_if_eq (tgt := 54) hx hb dX3_as_36 (by decide) (fun (c_36 : kd = 0) => ?_) (fun (c_36 : ¬ (kd = 0)) => ?_)
      · skip
        refine lv_iconst (v := nI 1) hx hb dX3_as_54 (by decide) ?_
        refine lv_goto (tgt := 59) hx hb dX3_as_55 (by decide) ?_
        refine lv_istore (lv' := [(4, .int (nI 1)), (3, .int (σ 1 j)), (0, .ref (bd 0)), (1, .int (nI j)), (2, .int kd)]) hx hb dX3_as_59 hl (by decide) rfl (fun ls hl => ?_)
        refine lv_iload hx hb dX3_as_61 (lv_at hl 0 rfl) ?_
        refine lv_if_eq (tgt := 70) hx hb dX3_as_63 (by decide) (fun z9 => absurd z9 (by decide)) (fun _ => ?_)
        refine lv_iload_n hx hb dX3_as_66 rfl (lv_at hl 3 rfl) ?_
        refine lv_goto (tgt := 71) hx hb dX3_as_67 (by decide) ?_
        exact hq (nI j) 71 ls dX3_as_71 (show (nI j) = asF σ Hn (nI j) kd from (by unfold asF; rw [zif_t (hasP_nI hj), zif_t c_20, tn_nI (by omega), zif_t (show suchP (σ 1 j) kd from Or.inl c_36)]))
      · skip
        refine lv_iload_n hx hb dX3_as_39 rfl (lv_at hl 3 rfl) ?_
        refine lv_iload_n hx hb dX3_as_40 rfl (lv_at hl 0 rfl) ?_
        refine lv_icmp_eq (tgt := 54) hx hb dX3_as_41 (by decide) (fun (c_41 : kd = (σ 1 j)) => ?_) (fun (c_41 : ¬ (kd = (σ 1 j))) => ?_)
        · skip
          refine lv_iconst (v := nI 1) hx hb dX3_as_54 (by decide) ?_
          refine lv_goto (tgt := 59) hx hb dX3_as_55 (by decide) ?_
          refine lv_istore (lv' := [(4, .int (nI 1)), (3, .int (σ 1 j)), (0, .ref (bd 0)), (1, .int (nI j)), (2, .int kd)]) hx hb dX3_as_59 hl (by decide) rfl (fun ls hl => ?_)
          refine lv_iload hx hb dX3_as_61 (lv_at hl 0 rfl) ?_
          refine lv_if_eq (tgt := 70) hx hb dX3_as_63 (by decide) (fun z9 => absurd z9 (by decide)) (fun _ => ?_)
          refine lv_iload_n hx hb dX3_as_66 rfl (lv_at hl 3 rfl) ?_
          refine lv_goto (tgt := 71) hx hb dX3_as_67 (by decide) ?_
          exact hq (nI j) 71 ls dX3_as_71 (show (nI j) = asF σ Hn (nI j) kd from (by unfold asF; rw [zif_t (hasP_nI hj), zif_t c_20, tn_nI (by omega), zif_t (show suchP (σ 1 j) kd from Or.inr (Or.inl c_41))]))
        · skip
          refine lv_iload_n hx hb dX3_as_44 rfl (lv_at hl 3 rfl) ?_
          refine lv_iconst (v := nI 3) hx hb dX3_as_45 (by decide) ?_
          refine lv_icmp_ne (tgt := 58) hx hb dX3_as_46 (by decide) (fun (c_46 : ¬ kd = 3) => ?_) (fun (c_46 : kd = 3) => ?_)
          · skip
            refine lv_iconst (v := nI 0) hx hb dX3_as_58 (by decide) ?_
            refine lv_istore (lv' := [(4, .int (nI 0)), (3, .int (σ 1 j)), (0, .ref (bd 0)), (1, .int (nI j)), (2, .int kd)]) hx hb dX3_as_59 hl (by decide) rfl (fun ls hl => ?_)
            refine lv_iload hx hb dX3_as_61 (lv_at hl 0 rfl) ?_
            refine lv_if_eq (tgt := 70) hx hb dX3_as_63 (by decide) (fun _ => ?_) (fun z9 => absurd (by decide) z9)
            refine lv_iconst (v := (-1)) hx hb dX3_as_70 (by decide) ?_
            exact hq (-1) 71 ls dX3_as_71 (show (-1) = asF σ Hn (nI j) kd from (by unfold asF; rw [zif_t (hasP_nI hj), zif_t c_20, tn_nI (by omega), zif_f (fun z => z.elim c_36 (fun z => z.elim c_41 (fun z => c_46 z.1)))]))
          · skip
            refine lv_iload_n hx hb dX3_as_49 rfl (lv_at hl 0 rfl) ?_
            refine lv_iconst (v := nI 4) hx hb dX3_as_50 (by decide) ?_
            refine lv_icmp_ne (tgt := 58) hx hb dX3_as_51 (by decide) (fun (c_51 : ¬ (σ 1 j) = 4) => ?_) (fun (c_51 : (σ 1 j) = 4) => ?_)
            · skip
              refine lv_iconst (v := nI 0) hx hb dX3_as_58 (by decide) ?_
              refine lv_istore (lv' := [(4, .int (nI 0)), (3, .int (σ 1 j)), (0, .ref (bd 0)), (1, .int (nI j)), (2, .int kd)]) hx hb dX3_as_59 hl (by decide) rfl (fun ls hl => ?_)
              refine lv_iload hx hb dX3_as_61 (lv_at hl 0 rfl) ?_
              refine lv_if_eq (tgt := 70) hx hb dX3_as_63 (by decide) (fun _ => ?_) (fun z9 => absurd (by decide) z9)
              refine lv_iconst (v := (-1)) hx hb dX3_as_70 (by decide) ?_
              exact hq (-1) 71 ls dX3_as_71 (show (-1) = asF σ Hn (nI j) kd from (by unfold asF; rw [zif_t (hasP_nI hj), zif_t c_20, tn_nI (by omega), zif_f (fun z => z.elim c_36 (fun z => z.elim c_41 (fun z => c_51 z.2)))]))
            · skip
              refine lv_iconst (v := nI 1) hx hb dX3_as_54 (by decide) ?_
              refine lv_goto (tgt := 59) hx hb dX3_as_55 (by decide) ?_
              refine lv_istore (lv' := [(4, .int (nI 1)), (3, .int (σ 1 j)), (0, .ref (bd 0)), (1, .int (nI j)), (2, .int kd)]) hx hb dX3_as_59 hl (by decide) rfl (fun ls hl => ?_)
              refine lv_iload hx hb dX3_as_61 (lv_at hl 0 rfl) ?_
              refine lv_if_eq (tgt := 70) hx hb dX3_as_63 (by decide) (fun z9 => absurd z9 (by decide)) (fun _ => ?_)
              refine lv_iload_n hx hb dX3_as_66 rfl (lv_at hl 3 rfl) ?_
              refine lv_goto (tgt := 71) hx hb dX3_as_67 (by decide) ?_
              exact hq (nI j) 71 ls dX3_as_71 (show (nI j) = asF σ Hn (nI j) kd from (by unfold asF; rw [zif_t (hasP_nI hj), zif_t c_20, tn_nI (by omega), zif_t (show suchP (σ 1 j) kd from Or.inr (Or.inr ⟨c_46, c_51⟩))]))
    · skip
      refine lv_bipush (v := (-102)) hx hb dX3_as_23 (by decide) ?_
      exact hq (-102) 25 ls dX3_as_25 (show (-102) = asF σ Hn (nI j) kd from (by unfold asF; rw [zif_t (hasP_nI hj), zif_f c_20]))
  · skip
    refine lv_bipush (v := (-101)) hx hb dX3_as_8 (by decide) ?_
    exact hq (-101) 10 ls dX3_as_10 (show (-101) = asF σ Hn x kd from (by unfold asF; rw [zif_f c_5]))
abbrev rm_c_X3_beastOf : Room := { frames := 2, cells := 0, slots := 0, locals := 46 }
set_option maxHeartbeats 4000000 in
set_option maxRecDepth 100000 in
theorem c_X3_beastOf (l : Launch) (dC : Nat → ClassId) (dI : Nat → Nat → Nat) (cI cZ : ClassId) (bd : Nat → Nat) (σ : St) (Hn B L C V M : Nat) (hI : Inv σ Hn B L C V M) (ξ : Nat → Int32) (tk sd : Int32) (kv : Nat → Int32) (hh : Int64) (x what : Int32) : Met l yX3_beastOf wsX3_beastOf rm_c_X3_beastOf (va_Pc [.ref (bd 0), .int x, .int what] (fun U => va_P (dC, dI) vwCl ([bo bd σ ξ tk sd kv hh, (bd 2, .inl (cI, 16, .inl (menOf σ))), (bd 3, .inl (cI, 30, .inl (rowsOf σ)))]) U.heap ∧ va_K (dC, dI) vwCl (tyIZ cI cZ) U)) (vp_Si (fun r : Int32 => r = beastOfF σ B x what)) 0 0 (fun _ => False) := by
  refine z_pureI (cc := cX3_beastOf) (maxL := 3) (av := [.ref (bd 0), .int x, .int what]) (by decide) rfl (Nat.le_of_ble_eq_true rfl) ?_
  intro p e s m below meth c Q ls hx hb hml hown hts ⟨hP, hK⟩ hq hl
  have hown : s.vm.findClass RX3 = some m.cls := hown
  have hin3 : ∀ w ∈ wsX30, w ∈ wsX3_beastOf := fun _ h => List.mem_cons_of_mem _ (List.mem_append_right _ h)
  have L82 := hts (.constantLong RX3 82 (4)) (List.mem_of_getElem? (i := 1) rfl)
  have L16 := hts (.fieldLink RX3 16 "BestBeastModel" "rows" "[I") (List.mem_of_getElem? (i := 2) rfl)
  obtain ⟨⟨iL, iC, iV, iM, iH, iB, jL, jC, jV, jM, jH, jB⟩, iK, iDe, iAl, iHe, iWo, iO1, iO2⟩ := id hI
  have hl : lv_has ls 3 [(0, .ref (bd 0)), (1, .int x), (2, .int what)] := hl
  refine lv_aload_n hx hb dX3_beastOf_0 rfl (lv_at hl 0 rfl) ?_
  refine lv_iload_n hx hb dX3_beastOf_1 rfl (lv_at hl 1 rfl) ?_
  refine z_callV (As := [.int x]) (rest := []) ⟨hx, hb, hml, hown, hts⟩ (c_X3_isBeast l dC dI cI cZ bd σ Hn B L C V M hI ξ tk sd kv hh x) (cwV 1 hts gX3_beastOf_X3_isBeast rfl rfl rfl (by decide +kernel) ⟨Nat.le_of_ble_eq_true rfl, Nat.le_of_ble_eq_true rfl⟩) hP hK (va_recv hK hP (ci := 3) (q0 := 0) rfl rfl) rfl hl.1 rfl (Nat.le_of_ble_eq_true rfl) ⟨Nat.zero_le _, Nat.zero_le _⟩ dX3_beastOf_2 (fun r hr => ?_)
  obtain rfl : r = zb (hasP B x) := hr
  refine z_ifne_b (P := hasP B x) (tgt := 11) hx hb dX3_beastOf_5 (by decide) (fun (c_5 : hasP B x) => ?_) (fun (c_5 : ¬ (hasP B x)) => ?_)
  · skip
    obtain ⟨b, hb5, rfl⟩ := c_5
    refine lv_iload_n hx hb dX3_beastOf_11 rfl (lv_at hl 2 rfl) ?_
    refine lv_i2l (v := what.toInt64) hx hb dX3_beastOf_12 (rfl) ?_
    refine lv_lconst (v := 0) hx hb dX3_beastOf_13 (by decide) ?_
    refine lv_ldc2 hx hb hown L82 dX3_beastOf_14 ?_
    refine z_callS (As := [.long what.toInt64, .long 0, .long 4]) (rest := []) ⟨hx, hb, hml, hown, hts⟩ (c_X3_in l what.toInt64 0 4) (va_cwS 3 hts gX3_beastOf_X3_in rfl rfl rfl (by decide +kernel) ⟨Nat.le_of_ble_eq_true rfl, Nat.le_of_ble_eq_true rfl⟩) rfl hl.1 rfl (Nat.le_of_ble_eq_true rfl) ⟨Nat.zero_le _, Nat.zero_le _⟩ dX3_beastOf_17 (fun r hr => ?_)
    obtain rfl : r = zb (0 ≤ what.toInt64 ∧ what.toInt64 ≤ 4) := hr
    refine z_topi (v := zb (inP 0 4 what)) (zb_iff (in64 (a := 0) (b := 4) (by decide) (by decide))) ?_
    refine z_ifeq_b (P := inP 0 4 what) (tgt := 36) hx hb dX3_beastOf_20 (by decide) (fun (c_20 : ¬ (inP 0 4 what)) => ?_) (fun (c_20 : inP 0 4 what) => ?_)
    · skip
      refine lv_bipush (v := (-102)) hx hb dX3_beastOf_36 (by decide) ?_
      exact hq (-102) 38 ls dX3_beastOf_38 (show (-102) = beastOfF σ B (nI b) what from (beastOfF_o hb5 (fun z => c_20 (hasP5.mpr z))).symm)
    · skip
      obtain ⟨w, -, hw4, rfl⟩ := c_20
      refine lv_aload_n hx hb dX3_beastOf_23 rfl (lv_at hl 0 rfl) ?_
      refine va_get (D := (dC, dI)) (ci := 3) (v := .ref (bd 3)) (C := RX3) (T := TX3) (N := 24) hx hb hts hin3 hown hK hP 0 rfl rfl 12 (by decide) L16 (fun _ h9 => h9) rfl dX3_beastOf_24 ?_
      refine lv_iconst (v := nI 5) hx hb dX3_beastOf_27 (by decide) ?_
      refine lv_iload_n hx hb dX3_beastOf_28 rfl (lv_at hl 1 rfl) ?_
      refine z_imul (v := nI (5 * b)) hx hb dX3_beastOf_29 (pk_mul _ _) ?_
      refine lv_iload_n hx hb dX3_beastOf_30 rfl (lv_at hl 2 rfl) ?_
      refine z_iadd (v := nI ((5 * b) + w)) hx hb dX3_beastOf_31 (nI_add _ _) ?_
      refine z_iald (D := (dC, dI)) hx hb hK hP 2 0 rfl rfl ((5 * b) + w) (rfl) (by omega) (by omega) (v := σ (w + 5) b) (rowsR σ b w (by omega)) dX3_beastOf_32 ?_
      refine lv_goto (tgt := 38) hx hb dX3_beastOf_33 (by decide) ?_
      exact hq (σ (w + 5) b) 38 ls dX3_beastOf_38 (show (σ (w + 5) b) = beastOfF σ B (nI b) (nI w) from (beastOfF_in hb5 jB (by omega)).symm)
  · skip
    refine lv_bipush (v := (-101)) hx hb dX3_beastOf_8 (by decide) ?_
    exact hq (-101) 10 ls dX3_beastOf_10 (show (-101) = beastOfF σ B x what from (beastOfF_u c_5).symm)
abbrev rm_c_X3_mayGive : Room := { frames := 1, cells := 0, slots := 0, locals := 21 }
set_option maxHeartbeats 4000000 in
set_option maxRecDepth 100000 in
theorem c_X3_mayGive (l : Launch) (dC : Nat → ClassId) (dI : Nat → Nat → Nat) (cI cZ : ClassId) (bd : Nat → Nat) (σ : St) (Hn B L C V M : Nat) (hI : Inv σ Hn B L C V M) (ξ : Nat → Int32) (tk sd : Int32) (kv : Nat → Int32) (hh : Int64) (b : Nat) (hb6 : b < B) (t : Nat) (ht4 : t < Hn) : Met l yX3_mayGive wsX3_mayGive rm_c_X3_mayGive (va_Pc [.ref (bd 0), .int (nI b), .int (nI t)] (fun U => va_P (dC, dI) vwCl ([bo bd σ ξ tk sd kv hh, (bd 2, .inl (cI, 16, .inl (menOf σ))), (bd 3, .inl (cI, 30, .inl (rowsOf σ)))]) U.heap ∧ va_K (dC, dI) vwCl (tyIZ cI cZ) U)) (vp_Si (fun r : Int32 => r = zb (giveP σ b t))) 0 0 (fun _ => False) := by
  refine z_pureZ (cc := cX3_mayGive) (maxL := 4) (av := [.ref (bd 0), .int (nI b), .int (nI t)]) (by decide) rfl (Nat.le_of_ble_eq_true rfl) ?_
  intro p e s m below meth c Q ls hx hb hml hown hts ⟨hP, hK⟩ hq hl
  have hown : s.vm.findClass RX3 = some m.cls := hown
  have hin3 : ∀ w ∈ wsX30, w ∈ wsX3_mayGive := fun _ h => List.mem_cons_of_mem _ (List.mem_append_right _ h)
  have L16 := hts (.fieldLink RX3 16 "BestBeastModel" "rows" "[I") (List.mem_of_getElem? (i := 1) rfl)
  obtain ⟨⟨iL, iC, iV, iM, iH, iB, jL, jC, jV, jM, jH, jB⟩, iK, iDe, iAl, iHe, iWo, iO1, iO2⟩ := id hI
  have hl : lv_has ls 4 [(0, .ref (bd 0)), (1, .int (nI b)), (2, .int (nI t))] := hl
  refine lv_aload_n hx hb dX3_mayGive_0 rfl (lv_at hl 0 rfl) ?_
  refine va_get (D := (dC, dI)) (ci := 3) (v := .ref (bd 3)) (C := RX3) (T := TX3) (N := 24) hx hb hts hin3 hown hK hP 0 rfl rfl 12 (by decide) L16 (fun _ h9 => h9) rfl dX3_mayGive_1 ?_
  refine lv_iconst (v := nI 5) hx hb dX3_mayGive_4 (by decide) ?_
  refine lv_iload_n hx hb dX3_mayGive_5 rfl (lv_at hl 1 rfl) ?_
  refine z_imul (v := nI (5 * b)) hx hb dX3_mayGive_6 (pk_mul _ _) ?_
  refine lv_iconst (v := nI 1) hx hb dX3_mayGive_7 (by decide) ?_
  refine z_iadd (v := nI ((5 * b) + 1)) hx hb dX3_mayGive_8 (nI_add _ _) ?_
  refine z_iald (D := (dC, dI)) hx hb hK hP 2 0 rfl rfl ((5 * b) + 1) (rfl) (by omega) (by omega) (v := σ 6 b) (rowsR σ b 1 (by decide)) dX3_mayGive_9 ?_
  refine lv_istore_n (lv' := [(3, .int (σ 6 b)), (0, .ref (bd 0)), (1, .int (nI b)), (2, .int (nI t))]) hx hb dX3_mayGive_10 rfl hl (by decide) rfl (fun ls hl => ?_)
  refine lv_iload_n hx hb dX3_mayGive_11 rfl (lv_at hl 0 rfl) ?_
  refine lv_iconst (v := (-1)) hx hb dX3_mayGive_12 (by decide) ?_
  refine lv_icmp_eq (tgt := 33) hx hb dX3_mayGive_13 (by decide) (fun (c_13 : (σ 6 b) = (-1)) => ?_) (fun (c_13 : ¬ ((σ 6 b) = (-1))) => ?_)
  · skip
    refine lv_iconst (v := nI 0) hx hb dX3_mayGive_33 (by decide) ?_
    exact hq (nI 0) 34 ls dX3_mayGive_34 (Or.inl rfl) (show (nI 0) = zb (giveP σ b t) from (zb_f (fun z => z.2.1 c_13)).symm)
  · skip
    refine lv_iload_n hx hb dX3_mayGive_16 rfl (lv_at hl 0 rfl) ?_
    refine lv_iload_n hx hb dX3_mayGive_17 rfl (lv_at hl 3 rfl) ?_
    refine lv_icmp_eq (tgt := 33) hx hb dX3_mayGive_18 (by decide) (fun (c_18 : (σ 6 b) = (nI t)) => ?_) (fun (c_18 : ¬ ((σ 6 b) = (nI t))) => ?_)
    · skip
      refine lv_iconst (v := nI 0) hx hb dX3_mayGive_33 (by decide) ?_
      exact hq (nI 0) 34 ls dX3_mayGive_34 (Or.inl rfl) (show (nI 0) = zb (giveP σ b t) from (zb_f (fun z => z.2.2 c_18)).symm)
    · skip
      refine lv_aload_n hx hb dX3_mayGive_21 rfl (lv_at hl 1 rfl) ?_
      refine lv_iload_n hx hb dX3_mayGive_22 rfl (lv_at hl 3 rfl) ?_
      refine z_callV (As := [.int (nI t)]) (rest := []) ⟨hx, hb, hml, hown, hts⟩ (c_X3_lives l dC dI cI cZ bd σ Hn B L C V M hI ξ tk sd kv hh t (by omega)) (cwV 1 hts gX3_mayGive_X3_lives rfl rfl rfl (by decide +kernel) ⟨Nat.le_of_ble_eq_true rfl, Nat.le_of_ble_eq_true rfl⟩) hP hK (va_recv hK hP (ci := 3) (q0 := 0) rfl rfl) rfl hl.1 rfl (Nat.le_of_ble_eq_true rfl) ⟨Nat.zero_le _, Nat.zero_le _⟩ dX3_mayGive_23 (fun r hr => ?_)
      obtain rfl : r = zb (σ 3 t = 1) := hr
      refine z_ifeq_b (P := σ 3 t = 1) (tgt := 33) hx hb dX3_mayGive_26 (by decide) (fun (c_26 : ¬ (σ 3 t = 1)) => ?_) (fun (c_26 : σ 3 t = 1) => ?_)
      · skip
        refine lv_iconst (v := nI 0) hx hb dX3_mayGive_33 (by decide) ?_
        exact hq (nI 0) 34 ls dX3_mayGive_34 (Or.inl rfl) (show (nI 0) = zb (giveP σ b t) from (zb_f (fun z => c_26 z.1)).symm)
      · skip
        refine lv_iconst (v := nI 1) hx hb dX3_mayGive_29 (by decide) ?_
        refine lv_goto (tgt := 34) hx hb dX3_mayGive_30 (by decide) ?_
        exact hq (nI 1) 34 ls dX3_mayGive_34 (Or.inr rfl) (show (nI 1) = zb (giveP σ b t) from (zb_t ⟨c_26, c_13, c_18⟩).symm)
abbrev rm_c_X3_safeOf : Room := { frames := 3, cells := 0, slots := 0, locals := 72 }
set_option maxHeartbeats 4000000 in
set_option maxRecDepth 100000 in
theorem c_X3_safeOf (l : Launch) (dC : Nat → ClassId) (dI : Nat → Nat → Nat) (cI cZ : ClassId) (bd : Nat → Nat) (σ : St) (Hn B L C V M : Nat) (hI : Inv σ Hn B L C V M) (ξ : Nat → Int32) (tk sd : Int32) (kv : Nat → Int32) (hh : Int64) (j : Nat) (hj : j < Hn) (w : Nat) (hw1 : w ≤ 1) : Met l yX3_safeOf wsX3_safeOf rm_c_X3_safeOf (va_Pc [.ref (bd 0), .int (nI j), .int (nI w)] (fun U => va_P (dC, dI) vwCl ([bo bd σ ξ tk sd kv hh, (bd 2, .inl (cI, 16, .inl (menOf σ))), (bd 3, .inl (cI, 30, .inl (rowsOf σ)))]) U.heap ∧ va_K (dC, dI) vwCl (tyIZ cI cZ) U)) (vp_Si (fun r : Int32 => r = safeN σ B j w)) 0 0 (fun _ => False) := by
  refine z_pureI (cc := cX3_safeOf) (maxL := 8) (av := [.ref (bd 0), .int (nI j), .int (nI w)]) (by decide) rfl (Nat.le_of_ble_eq_true rfl) ?_
  intro p e s m below meth c Q ls hx hb hml hown hts ⟨hP, hK⟩ hq hl
  have hown : s.vm.findClass RX3 = some m.cls := hown
  have hin3 : ∀ w ∈ wsX30, w ∈ wsX3_safeOf := fun _ h => List.mem_cons_of_mem _ (List.mem_append_right _ h)
  have L104 := hts (.fieldLink RX3 104 "BestBeastModel" "yearNow" "I") (List.mem_of_getElem? (i := 1) rfl)
  obtain ⟨⟨iL, iC, iV, iM, iH, iB, jL, jC, jV, jM, jH, jB⟩, iK, iDe, iAl, iHe, iWo, iO1, iO2⟩ := id hI
  have hl : lv_has ls 8 [(0, .ref (bd 0)), (1, .int (nI j)), (2, .int (nI w))] := hl
  refine lv_aload_n hx hb dX3_safeOf_0 rfl (lv_at hl 0 rfl) ?_
  refine lv_iload_n hx hb dX3_safeOf_1 rfl (lv_at hl 1 rfl) ?_
  refine z_callV (As := [.int (nI j)]) (rest := []) ⟨hx, hb, hml, hown, hts⟩ (c_X3_hisBits l dC dI cI cZ bd σ Hn B L C V M hI ξ tk sd kv hh (nI j)) (cwV 1 hts gX3_safeOf_X3_hisBits rfl rfl rfl (by decide +kernel) ⟨Nat.le_of_ble_eq_true rfl, Nat.le_of_ble_eq_true rfl⟩) hP hK (va_recv hK hP (ci := 3) (q0 := 0) rfl rfl) rfl hl.1 rfl (Nat.le_of_ble_eq_true rfl) ⟨Nat.zero_le _, Nat.zero_le _⟩ dX3_safeOf_2 (fun r hr => ?_)
  obtain rfl : r = ownR σ (nI j) B := hr
  refine lv_istore_n (lv' := [(3, .int (ownR σ (nI j) B)), (0, .ref (bd 0)), (1, .int (nI j)), (2, .int (nI w))]) hx hb dX3_safeOf_5 rfl hl (by decide) rfl (fun ls hl => ?_)
  refine lv_aload_n hx hb dX3_safeOf_6 rfl (lv_at hl 1 rfl) ?_
  refine lv_iload_n hx hb dX3_safeOf_7 rfl (lv_at hl 2 rfl) ?_
  refine lv_aload_n hx hb dX3_safeOf_8 rfl (lv_at hl 1 rfl) ?_
  refine va_get (D := (dC, dI)) (ci := 3) (v := .int (σ 0 6)) (C := RX3) (T := TX3) (N := 24) hx hb hts hin3 hown hK hP 0 rfl rfl 7 (by decide) L104 (fun _ h9 => h9) rfl dX3_safeOf_9 ?_
  refine z_callV (As := [.int (nI j), .int (σ 0 6)]) (rest := []) ⟨hx, hb, hml, hown, hts⟩ (c_X3_heldBits l dC dI cI cZ bd σ Hn B L C V M hI ξ tk sd kv hh (nI j) (σ 0 6) (nI_m1 (by omega))) (cwV 2 hts gX3_safeOf_X3_heldBits rfl rfl rfl (by decide +kernel) ⟨Nat.le_of_ble_eq_true rfl, Nat.le_of_ble_eq_true rfl⟩) hP hK (va_recv hK hP (ci := 3) (q0 := 0) rfl rfl) rfl hl.1 rfl (Nat.le_of_ble_eq_true rfl) ⟨Nat.zero_le _, Nat.zero_le _⟩ dX3_safeOf_12 (fun r hr => ?_)
  obtain rfl : r = heldR σ (nI j) (σ 0 6) (ownR σ (nI j) B) B := hr
  refine z_topi (v := heldF σ B (nI j)) (rfl) ?_
  refine lv_istore (lv' := [(4, .int (heldF σ B (nI j))), (3, .int (ownR σ (nI j) B)), (0, .ref (bd 0)), (1, .int (nI j)), (2, .int (nI w))]) hx hb dX3_safeOf_15 hl (by decide) rfl (fun ls hl => ?_)
  refine lv_iconst (v := (-1)) hx hb dX3_safeOf_17 (by decide) ?_
  refine lv_istore (lv' := [(5, .int (-1)), (4, .int (heldF σ B (nI j))), (3, .int (ownR σ (nI j) B)), (0, .ref (bd 0)), (1, .int (nI j)), (2, .int (nI w))]) hx hb dX3_safeOf_18 hl (by decide) rfl (fun ls hl => ?_)
  refine lv_iconst (v := nI 0) hx hb dX3_safeOf_20 (by decide) ?_
  refine lv_istore (lv' := [(6, .int (nI 0)), (5, .int (-1)), (4, .int (heldF σ B (nI j))), (3, .int (ownR σ (nI j) B)), (0, .ref (bd 0)), (1, .int (nI j)), (2, .int (nI w))]) hx hb dX3_safeOf_21 hl (by decide) rfl (fun ls hl => ?_)
  suffices hlp23 : ∀ (nf : Nat) (k : Nat) (x23_6 : Int32) (x23_5 : Int32) (ls : Array Slot), (k ≤ 64) → x23_6 = nI k → x23_5 = fewR σ B j (ownR σ (nI j) B) (heldF σ B (nI j)) k → lv_has ls 8 [(6, .int x23_6), (5, .int x23_5), (4, .int (heldF σ B (nI j))), (3, .int (ownR σ (nI j) B)), (0, .ref (bd 0)), (1, .int (nI j)), (2, .int (nI w))] → 64 - k < nf → W p l e rm_c_X3_safeOf s m ([.ref (bd 0), .int (nI j), .int (nI w)] : List Value).toArray below meth c s.heap [] 0 0 Q (F0 m 23 ls []) by
    exact hlp23 ((64 - 0) + 1) 0 (nI 0) (-1) ls (by omega) rfl rfl (lv_sub hl [0, 1, 2, 3, 4, 5, 6] rfl) (by omega)
  intro nf
  induction nf with
  | zero => intro k x23_6 x23_5 ls hk e23_6 e23_5 hl hn; omega
  | succ nf ih23 =>
    intro k x23_6 x23_5 ls hk e23_6 e23_5 hl hn
    subst e23_6
    subst e23_5
    have o1 := ones_lt k
    have o2 := ones_lt (tn (fewR σ B j (ownR σ (nI j) B) (heldF σ B (nI j)) k))
    refine lv_iload hx hb dX3_safeOf_23 (lv_at hl 0 rfl) ?_
    refine lv_bipush (v := nI 64) hx hb dX3_safeOf_25 (by decide) ?_
    refine z_icmp_ge (a := k) (b := 64) (tgt := 100) hx hb (by omega) (by omega) dX3_safeOf_27 (by decide) (fun (c_27 : 64 ≤ k) => ?_) (fun (c_27 : k < 64) => ?_)
    · skip
      refine lv_iload hx hb dX3_safeOf_100 (lv_at hl 1 rfl) ?_
      refine lv_iconst (v := (-1)) hx hb dX3_safeOf_102 (by decide) ?_
      refine lv_icmp_eq (tgt := 111) hx hb dX3_safeOf_103 (by decide) (fun (c_103 : (fewR σ B j (ownR σ (nI j) B) (heldF σ B (nI j)) k) = (-1)) => ?_) (fun (c_103 : ¬ ((fewR σ B j (ownR σ (nI j) B) (heldF σ B (nI j)) k) = (-1))) => ?_)
      · skip
        refine lv_iload hx hb dX3_safeOf_111 (lv_at hl 1 rfl) ?_
        refine lv_goto (tgt := 121) hx hb dX3_safeOf_113 (by decide) ?_
        exact hq (fewR σ B j (ownR σ (nI j) B) (heldF σ B (nI j)) k) 121 ls dX3_safeOf_121 (show (fewR σ B j (ownR σ (nI j) B) (heldF σ B (nI j)) k) = safeN σ B j w from (by have e64 : k = 64 := (by omega); subst e64; unfold safeN; split; exact (by rw [if_pos (show fewF σ B j = -1 from c_103)]; exact c_103); rfl))
      · skip
        refine lv_iload_n hx hb dX3_safeOf_106 rfl (lv_at hl 6 rfl) ?_
        refine lv_iconst (v := nI 1) hx hb dX3_safeOf_107 (by decide) ?_
        refine z_icmp_ne (a := w) (b := 1) (tgt := 116) hx hb (by omega) (by omega) dX3_safeOf_108 (by decide) (fun (c_108 : w ≠ 1) => ?_) (fun (c_108 : w = 1) => ?_)
        · skip
          refine lv_iload hx hb dX3_safeOf_116 (lv_at hl 1 rfl) ?_
          refine z_topi (v := nI (tn (fewR σ B j (ownR σ (nI j) B) (heldF σ B (nI j)) k))) ((has_tn ((fewR_in k).resolve_left c_103) (by omega)).1) ?_
          refine z_callS (As := [.int (nI (tn (fewR σ B j (ownR σ (nI j) B) (heldF σ B (nI j)) k)))]) (rest := []) ⟨hx, hb, hml, hown, hts⟩ (c_X3_ones l (tn (fewR σ B j (ownR σ (nI j) B) (heldF σ B (nI j)) k)) (Nat.lt_of_lt_of_le (has_tn ((fewR_in k).resolve_left c_103) (by omega)).2 hk)) (va_cwS 1 hts gX3_safeOf_X3_ones rfl rfl rfl (by decide +kernel) ⟨Nat.le_of_ble_eq_true rfl, Nat.le_of_ble_eq_true rfl⟩) rfl hl.1 rfl (Nat.le_of_ble_eq_true rfl) ⟨Nat.zero_le _, Nat.zero_le _⟩ dX3_safeOf_118 (fun r hr => ?_)
          obtain rfl : r = nI (ones (tn (fewR σ B j (ownR σ (nI j) B) (heldF σ B (nI j)) k))) := hr
          exact hq (nI (ones (tn (fewR σ B j (ownR σ (nI j) B) (heldF σ B (nI j)) k)))) 121 ls dX3_safeOf_121 (show (nI (ones (tn (fewR σ B j (ownR σ (nI j) B) (heldF σ B (nI j)) k)))) = safeN σ B j w from (by have e64 : k = 64 := (by omega); subst e64; unfold safeN; rw [if_pos (show w = 0 by omega), if_neg (show ¬ fewF σ B j = -1 from c_103)]; rfl))
        · skip
          refine lv_iload hx hb dX3_safeOf_111 (lv_at hl 1 rfl) ?_
          refine lv_goto (tgt := 121) hx hb dX3_safeOf_113 (by decide) ?_
          exact hq (fewR σ B j (ownR σ (nI j) B) (heldF σ B (nI j)) k) 121 ls dX3_safeOf_121 (show (fewR σ B j (ownR σ (nI j) B) (heldF σ B (nI j)) k) = safeN σ B j w from (by have e64 : k = 64 := (by omega); subst e64; unfold safeN; rw [if_neg (show ¬ w = 0 by omega)]; rfl))
    · skip
      refine lv_iload hx hb dX3_safeOf_30 (lv_at hl 0 rfl) ?_
      refine lv_iload_n hx hb dX3_safeOf_32 rfl (lv_at hl 3 rfl) ?_
      refine lv_iconst (v := (-1)) hx hb dX3_safeOf_33 (by decide) ?_
      refine z_ixor (v := znot (ownR σ (nI j) B)) hx hb dX3_safeOf_34 (rfl) ?_
      refine z_iand (v := (nI k) &&& (znot (ownR σ (nI j) B))) hx hb dX3_safeOf_35 (rfl) ?_
      refine lv_if_ne (tgt := 62) hx hb dX3_safeOf_36 (by decide) (fun (c_36 : ¬ ((nI k) &&& (znot (ownR σ (nI j) B))) = 0) => ?_) (fun (c_36 : ((nI k) &&& (znot (ownR σ (nI j) B))) = 0) => ?_)
      · skip
        refine lv_iconst (v := nI 0) hx hb dX3_safeOf_62 (by decide) ?_
        refine lv_istore (lv' := [(7, .int (nI 0)), (6, .int (nI k)), (5, .int (fewR σ B j (ownR σ (nI j) B) (heldF σ B (nI j)) k)), (4, .int (heldF σ B (nI j))), (3, .int (ownR σ (nI j) B)), (0, .ref (bd 0)), (1, .int (nI j)), (2, .int (nI w))]) hx hb dX3_safeOf_63 hl (by decide) rfl (fun ls hl => ?_)
        refine lv_iload hx hb dX3_safeOf_65 (lv_at hl 0 rfl) ?_
        refine lv_if_eq (tgt := 90) hx hb dX3_safeOf_67 (by decide) (fun _ => ?_) (fun z9 => absurd (by decide) z9)
        refine lv_iload hx hb dX3_safeOf_90 (lv_at hl 2 rfl) ?_
        refine lv_istore (lv' := [(5, .int (fewR σ B j (ownR σ (nI j) B) (heldF σ B (nI j)) k)), (7, .int (nI 0)), (6, .int (nI k)), (4, .int (heldF σ B (nI j))), (3, .int (ownR σ (nI j) B)), (0, .ref (bd 0)), (1, .int (nI j)), (2, .int (nI w))]) hx hb dX3_safeOf_92 hl (by decide) rfl (fun ls hl => ?_)
        refine lv_iinc (v := nI (k + 1)) (lv' := [(6, .int (nI (k + 1))), (5, .int (fewR σ B j (ownR σ (nI j) B) (heldF σ B (nI j)) k)), (7, .int (nI 0)), (4, .int (heldF σ B (nI j))), (3, .int (ownR σ (nI j) B)), (0, .ref (bd 0)), (1, .int (nI j)), (2, .int (nI w))]) hx hb dX3_safeOf_94 hl (k := 2) rfl (nI_1 _) (by decide) rfl (fun ls hl => ?_)
        refine lv_goto (tgt := 23) hx hb dX3_safeOf_97 (by decide) ?_
        exact ih23 (k + 1) (nI (k + 1)) (fewR σ B j (ownR σ (nI j) B) (heldF σ B (nI j)) k) ls (by omega) (show nI (k + 1) = nI (k + 1) from rfl) (show fewR σ B j (ownR σ (nI j) B) (heldF σ B (nI j)) k = fewR σ B j (ownR σ (nI j) B) (heldF σ B (nI j)) (k + 1) from fewR_a c_36) (lv_sub hl [0, 1, 3, 4, 5, 6, 7] rfl) (by omega)
      · skip
        refine lv_iload hx hb dX3_safeOf_39 (lv_at hl 1 rfl) ?_
        refine lv_iconst (v := (-1)) hx hb dX3_safeOf_41 (by decide) ?_
        refine lv_icmp_eq (tgt := 58) hx hb dX3_safeOf_42 (by decide) (fun (c_42 : (fewR σ B j (ownR σ (nI j) B) (heldF σ B (nI j)) k) = (-1)) => ?_) (fun (c_42 : ¬ ((fewR σ B j (ownR σ (nI j) B) (heldF σ B (nI j)) k) = (-1))) => ?_)
        · skip
          refine lv_iconst (v := nI 1) hx hb dX3_safeOf_58 (by decide) ?_
          refine lv_goto (tgt := 63) hx hb dX3_safeOf_59 (by decide) ?_
          refine lv_istore (lv' := [(7, .int (nI 1)), (6, .int (nI k)), (5, .int (fewR σ B j (ownR σ (nI j) B) (heldF σ B (nI j)) k)), (4, .int (heldF σ B (nI j))), (3, .int (ownR σ (nI j) B)), (0, .ref (bd 0)), (1, .int (nI j)), (2, .int (nI w))]) hx hb dX3_safeOf_63 hl (by decide) rfl (fun ls hl => ?_)
          refine lv_iload hx hb dX3_safeOf_65 (lv_at hl 0 rfl) ?_
          refine lv_if_eq (tgt := 90) hx hb dX3_safeOf_67 (by decide) (fun z9 => absurd z9 (by decide)) (fun _ => ?_)
          refine lv_aload_n hx hb dX3_safeOf_70 rfl (lv_at hl 5 rfl) ?_
          refine lv_iload_n hx hb dX3_safeOf_71 rfl (lv_at hl 6 rfl) ?_
          refine lv_iload hx hb dX3_safeOf_72 (lv_at hl 3 rfl) ?_
          refine lv_iload hx hb dX3_safeOf_74 (lv_at hl 1 rfl) ?_
          refine lv_iconst (v := (-1)) hx hb dX3_safeOf_76 (by decide) ?_
          refine z_ixor (v := znot (nI k)) hx hb dX3_safeOf_77 (rfl) ?_
          refine z_iand (v := (heldF σ B (nI j)) &&& (znot (nI k))) hx hb dX3_safeOf_78 (rfl) ?_
          refine z_callV (As := [.int (nI j), .int ((heldF σ B (nI j)) &&& (znot (nI k)))]) (rest := []) ⟨hx, hb, hml, hown, hts⟩ (c_X3_lossBy l dC dI cI cZ bd σ Hn B L C V M hI ξ tk sd kv hh j (by omega) ((heldF σ B (nI j)) &&& (znot (nI k)))) (cwV 2 hts gX3_safeOf_X3_lossBy rfl rfl rfl (by decide +kernel) ⟨Nat.le_of_ble_eq_true rfl, Nat.le_of_ble_eq_true rfl⟩) hP hK (va_recv hK hP (ci := 3) (q0 := 0) rfl rfl) rfl hl.1 rfl (Nat.le_of_ble_eq_true rfl) ⟨Nat.zero_le _, Nat.zero_le _⟩ dX3_safeOf_79 (fun r hr => ?_)
          obtain rfl : r = lossF σ B j ((heldF σ B (nI j)) &&& (znot (nI k))) := hr
          refine lv_if_ne (tgt := 90) hx hb dX3_safeOf_82 (by decide) (fun (c_82 : ¬ (lossF σ B j ((heldF σ B (nI j)) &&& (znot (nI k)))) = 0) => ?_) (fun (c_82 : (lossF σ B j ((heldF σ B (nI j)) &&& (znot (nI k)))) = 0) => ?_)
          · skip
            refine lv_iload hx hb dX3_safeOf_90 (lv_at hl 2 rfl) ?_
            refine lv_istore (lv' := [(5, .int (fewR σ B j (ownR σ (nI j) B) (heldF σ B (nI j)) k)), (7, .int (nI 1)), (6, .int (nI k)), (4, .int (heldF σ B (nI j))), (3, .int (ownR σ (nI j) B)), (0, .ref (bd 0)), (1, .int (nI j)), (2, .int (nI w))]) hx hb dX3_safeOf_92 hl (by decide) rfl (fun ls hl => ?_)
            refine lv_iinc (v := nI (k + 1)) (lv' := [(6, .int (nI (k + 1))), (5, .int (fewR σ B j (ownR σ (nI j) B) (heldF σ B (nI j)) k)), (7, .int (nI 1)), (4, .int (heldF σ B (nI j))), (3, .int (ownR σ (nI j) B)), (0, .ref (bd 0)), (1, .int (nI j)), (2, .int (nI w))]) hx hb dX3_safeOf_94 hl (k := 2) rfl (nI_1 _) (by decide) rfl (fun ls hl => ?_)
            refine lv_goto (tgt := 23) hx hb dX3_safeOf_97 (by decide) ?_
            exact ih23 (k + 1) (nI (k + 1)) (fewR σ B j (ownR σ (nI j) B) (heldF σ B (nI j)) k) ls (by omega) (show nI (k + 1) = nI (k + 1) from rfl) (show fewR σ B j (ownR σ (nI j) B) (heldF σ B (nI j)) k = fewR σ B j (ownR σ (nI j) B) (heldF σ B (nI j)) (k + 1) from fewR_b (fun z => c_82 ((loss_0 hI j _).mpr z))) (lv_sub hl [0, 1, 3, 4, 5, 6, 7] rfl) (by omega)
          · skip
            refine lv_iload hx hb dX3_safeOf_85 (lv_at hl 1 rfl) ?_
            refine lv_goto (tgt := 92) hx hb dX3_safeOf_87 (by decide) ?_
            refine lv_istore (lv' := [(5, .int (nI k)), (7, .int (nI 1)), (6, .int (nI k)), (4, .int (heldF σ B (nI j))), (3, .int (ownR σ (nI j) B)), (0, .ref (bd 0)), (1, .int (nI j)), (2, .int (nI w))]) hx hb dX3_safeOf_92 hl (by decide) rfl (fun ls hl => ?_)
            refine lv_iinc (v := nI (k + 1)) (lv' := [(6, .int (nI (k + 1))), (5, .int (nI k)), (7, .int (nI 1)), (4, .int (heldF σ B (nI j))), (3, .int (ownR σ (nI j) B)), (0, .ref (bd 0)), (1, .int (nI j)), (2, .int (nI w))]) hx hb dX3_safeOf_94 hl (k := 2) rfl (nI_1 _) (by decide) rfl (fun ls hl => ?_)
            refine lv_goto (tgt := 23) hx hb dX3_safeOf_97 (by decide) ?_
            exact ih23 (k + 1) (nI (k + 1)) (nI k) ls (by omega) (show nI (k + 1) = nI (k + 1) from rfl) (show nI k = fewR σ B j (ownR σ (nI j) B) (heldF σ B (nI j)) (k + 1) from fewR_c c_36 ((loss_0 hI j _).mp c_82) (Or.inl c_42)) (lv_sub hl [0, 1, 3, 4, 5, 6, 7] rfl) (by omega)
        · skip
          refine lv_iload hx hb dX3_safeOf_45 (lv_at hl 0 rfl) ?_
          refine z_callS (As := [.int (nI k)]) (rest := []) ⟨hx, hb, hml, hown, hts⟩ (c_X3_ones l k (by omega)) (va_cwS 1 hts gX3_safeOf_X3_ones rfl rfl rfl (by decide +kernel) ⟨Nat.le_of_ble_eq_true rfl, Nat.le_of_ble_eq_true rfl⟩) rfl hl.1 rfl (Nat.le_of_ble_eq_true rfl) ⟨Nat.zero_le _, Nat.zero_le _⟩ dX3_safeOf_47 (fun r hr => ?_)
          obtain rfl : r = nI (ones k) := hr
          refine lv_iload hx hb dX3_safeOf_50 (lv_at hl 1 rfl) ?_
          refine z_topi (v := nI (tn (fewR σ B j (ownR σ (nI j) B) (heldF σ B (nI j)) k))) ((has_tn ((fewR_in k).resolve_left c_42) (by omega)).1) ?_
          refine z_callS (As := [.int (nI (tn (fewR σ B j (ownR σ (nI j) B) (heldF σ B (nI j)) k)))]) (rest := [.int (nI (ones k))]) ⟨hx, hb, hml, hown, hts⟩ (c_X3_ones l (tn (fewR σ B j (ownR σ (nI j) B) (heldF σ B (nI j)) k)) (Nat.lt_of_lt_of_le (has_tn ((fewR_in k).resolve_left c_42) (by omega)).2 hk)) (va_cwS 1 hts gX3_safeOf_X3_ones rfl rfl rfl (by decide +kernel) ⟨Nat.le_of_ble_eq_true rfl, Nat.le_of_ble_eq_true rfl⟩) rfl hl.1 rfl (Nat.le_of_ble_eq_true rfl) ⟨Nat.zero_le _, Nat.zero_le _⟩ dX3_safeOf_52 (fun r hr => ?_)
          obtain rfl : r = nI (ones (tn (fewR σ B j (ownR σ (nI j) B) (heldF σ B (nI j)) k))) := hr
          refine z_icmp_ge (a := ones k) (b := ones (tn (fewR σ B j (ownR σ (nI j) B) (heldF σ B (nI j)) k))) (tgt := 62) hx hb (by omega) (by omega) dX3_safeOf_55 (by decide) (fun (c_55 : (ones (tn (fewR σ B j (ownR σ (nI j) B) (heldF σ B (nI j)) k))) ≤ (ones k)) => ?_) (fun (c_55 : (ones k) < (ones (tn (fewR σ B j (ownR σ (nI j) B) (heldF σ B (nI j)) k)))) => ?_)
          · skip
            refine lv_iconst (v := nI 0) hx hb dX3_safeOf_62 (by decide) ?_
            refine lv_istore (lv' := [(7, .int (nI 0)), (6, .int (nI k)), (5, .int (fewR σ B j (ownR σ (nI j) B) (heldF σ B (nI j)) k)), (4, .int (heldF σ B (nI j))), (3, .int (ownR σ (nI j) B)), (0, .ref (bd 0)), (1, .int (nI j)), (2, .int (nI w))]) hx hb dX3_safeOf_63 hl (by decide) rfl (fun ls hl => ?_)
            refine lv_iload hx hb dX3_safeOf_65 (lv_at hl 0 rfl) ?_
            refine lv_if_eq (tgt := 90) hx hb dX3_safeOf_67 (by decide) (fun _ => ?_) (fun z9 => absurd (by decide) z9)
            refine lv_iload hx hb dX3_safeOf_90 (lv_at hl 2 rfl) ?_
            refine lv_istore (lv' := [(5, .int (fewR σ B j (ownR σ (nI j) B) (heldF σ B (nI j)) k)), (7, .int (nI 0)), (6, .int (nI k)), (4, .int (heldF σ B (nI j))), (3, .int (ownR σ (nI j) B)), (0, .ref (bd 0)), (1, .int (nI j)), (2, .int (nI w))]) hx hb dX3_safeOf_92 hl (by decide) rfl (fun ls hl => ?_)
            refine lv_iinc (v := nI (k + 1)) (lv' := [(6, .int (nI (k + 1))), (5, .int (fewR σ B j (ownR σ (nI j) B) (heldF σ B (nI j)) k)), (7, .int (nI 0)), (4, .int (heldF σ B (nI j))), (3, .int (ownR σ (nI j) B)), (0, .ref (bd 0)), (1, .int (nI j)), (2, .int (nI w))]) hx hb dX3_safeOf_94 hl (k := 2) rfl (nI_1 _) (by decide) rfl (fun ls hl => ?_)
            refine lv_goto (tgt := 23) hx hb dX3_safeOf_97 (by decide) ?_
            exact ih23 (k + 1) (nI (k + 1)) (fewR σ B j (ownR σ (nI j) B) (heldF σ B (nI j)) k) ls (by omega) (show nI (k + 1) = nI (k + 1) from rfl) (show fewR σ B j (ownR σ (nI j) B) (heldF σ B (nI j)) k = fewR σ B j (ownR σ (nI j) B) (heldF σ B (nI j)) (k + 1) from fewR_d c_42 c_55) (lv_sub hl [0, 1, 3, 4, 5, 6, 7] rfl) (by omega)
          · skip
            refine lv_iconst (v := nI 1) hx hb dX3_safeOf_58 (by decide) ?_
            refine lv_goto (tgt := 63) hx hb dX3_safeOf_59 (by decide) ?_
            refine lv_istore (lv' := [(7, .int (nI 1)), (6, .int (nI k)), (5, .int (fewR σ B j (ownR σ (nI j) B) (heldF σ B (nI j)) k)), (4, .int (heldF σ B (nI j))), (3, .int (ownR σ (nI j) B)), (0, .ref (bd 0)), (1, .int (nI j)), (2, .int (nI w))]) hx hb dX3_safeOf_63 hl (by decide) rfl (fun ls hl => ?_)
            refine lv_iload hx hb dX3_safeOf_65 (lv_at hl 0 rfl) ?_
            refine lv_if_eq (tgt := 90) hx hb dX3_safeOf_67 (by decide) (fun z9 => absurd z9 (by decide)) (fun _ => ?_)
            refine lv_aload_n hx hb dX3_safeOf_70 rfl (lv_at hl 5 rfl) ?_
            refine lv_iload_n hx hb dX3_safeOf_71 rfl (lv_at hl 6 rfl) ?_
            refine lv_iload hx hb dX3_safeOf_72 (lv_at hl 3 rfl) ?_
            refine lv_iload hx hb dX3_safeOf_74 (lv_at hl 1 rfl) ?_
            refine lv_iconst (v := (-1)) hx hb dX3_safeOf_76 (by decide) ?_
            refine z_ixor (v := znot (nI k)) hx hb dX3_safeOf_77 (rfl) ?_
            refine z_iand (v := (heldF σ B (nI j)) &&& (znot (nI k))) hx hb dX3_safeOf_78 (rfl) ?_
            refine z_callV (As := [.int (nI j), .int ((heldF σ B (nI j)) &&& (znot (nI k)))]) (rest := []) ⟨hx, hb, hml, hown, hts⟩ (c_X3_lossBy l dC dI cI cZ bd σ Hn B L C V M hI ξ tk sd kv hh j (by omega) ((heldF σ B (nI j)) &&& (znot (nI k)))) (cwV 2 hts gX3_safeOf_X3_lossBy rfl rfl rfl (by decide +kernel) ⟨Nat.le_of_ble_eq_true rfl, Nat.le_of_ble_eq_true rfl⟩) hP hK (va_recv hK hP (ci := 3) (q0 := 0) rfl rfl) rfl hl.1 rfl (Nat.le_of_ble_eq_true rfl) ⟨Nat.zero_le _, Nat.zero_le _⟩ dX3_safeOf_79 (fun r hr => ?_)
            obtain rfl : r = lossF σ B j ((heldF σ B (nI j)) &&& (znot (nI k))) := hr
            refine lv_if_ne (tgt := 90) hx hb dX3_safeOf_82 (by decide) (fun (c_82 : ¬ (lossF σ B j ((heldF σ B (nI j)) &&& (znot (nI k)))) = 0) => ?_) (fun (c_82 : (lossF σ B j ((heldF σ B (nI j)) &&& (znot (nI k)))) = 0) => ?_)
            · skip
              refine lv_iload hx hb dX3_safeOf_90 (lv_at hl 2 rfl) ?_
              refine lv_istore (lv' := [(5, .int (fewR σ B j (ownR σ (nI j) B) (heldF σ B (nI j)) k)), (7, .int (nI 1)), (6, .int (nI k)), (4, .int (heldF σ B (nI j))), (3, .int (ownR σ (nI j) B)), (0, .ref (bd 0)), (1, .int (nI j)), (2, .int (nI w))]) hx hb dX3_safeOf_92 hl (by decide) rfl (fun ls hl => ?_)
              refine lv_iinc (v := nI (k + 1)) (lv' := [(6, .int (nI (k + 1))), (5, .int (fewR σ B j (ownR σ (nI j) B) (heldF σ B (nI j)) k)), (7, .int (nI 1)), (4, .int (heldF σ B (nI j))), (3, .int (ownR σ (nI j) B)), (0, .ref (bd 0)), (1, .int (nI j)), (2, .int (nI w))]) hx hb dX3_safeOf_94 hl (k := 2) rfl (nI_1 _) (by decide) rfl (fun ls hl => ?_)
              refine lv_goto (tgt := 23) hx hb dX3_safeOf_97 (by decide) ?_
              exact ih23 (k + 1) (nI (k + 1)) (fewR σ B j (ownR σ (nI j) B) (heldF σ B (nI j)) k) ls (by omega) (show nI (k + 1) = nI (k + 1) from rfl) (show fewR σ B j (ownR σ (nI j) B) (heldF σ B (nI j)) k = fewR σ B j (ownR σ (nI j) B) (heldF σ B (nI j)) (k + 1) from fewR_b (fun z => c_82 ((loss_0 hI j _).mpr z))) (lv_sub hl [0, 1, 3, 4, 5, 6, 7] rfl) (by omega)
            · skip
              refine lv_iload hx hb dX3_safeOf_85 (lv_at hl 1 rfl) ?_
              refine lv_goto (tgt := 92) hx hb dX3_safeOf_87 (by decide) ?_
              refine lv_istore (lv' := [(5, .int (nI k)), (7, .int (nI 1)), (6, .int (nI k)), (4, .int (heldF σ B (nI j))), (3, .int (ownR σ (nI j) B)), (0, .ref (bd 0)), (1, .int (nI j)), (2, .int (nI w))]) hx hb dX3_safeOf_92 hl (by decide) rfl (fun ls hl => ?_)
              refine lv_iinc (v := nI (k + 1)) (lv' := [(6, .int (nI (k + 1))), (5, .int (nI k)), (7, .int (nI 1)), (4, .int (heldF σ B (nI j))), (3, .int (ownR σ (nI j) B)), (0, .ref (bd 0)), (1, .int (nI j)), (2, .int (nI w))]) hx hb dX3_safeOf_94 hl (k := 2) rfl (nI_1 _) (by decide) rfl (fun ls hl => ?_)
              refine lv_goto (tgt := 23) hx hb dX3_safeOf_97 (by decide) ?_
              exact ih23 (k + 1) (nI (k + 1)) (nI k) ls (by omega) (show nI (k + 1) = nI (k + 1) from rfl) (show nI k = fewR σ B j (ownR σ (nI j) B) (heldF σ B (nI j)) (k + 1) from fewR_c c_36 ((loss_0 hI j _).mp c_82) (Or.inr c_55)) (lv_sub hl [0, 1, 3, 4, 5, 6, 7] rfl) (by omega)
abbrev rm_c_X3_safe : Room := { frames := 4, cells := 0, slots := 0, locals := 99 }
set_option maxHeartbeats 4000000 in
set_option maxRecDepth 100000 in
theorem c_X3_safe (l : Launch) (dC : Nat → ClassId) (dI : Nat → Nat → Nat) (cI cZ : ClassId) (bd : Nat → Nat) (σ : St) (Hn B L C V M : Nat) (hI : Inv σ Hn B L C V M) (ξ : Nat → Int32) (tk sd : Int32) (kv : Nat → Int32) (hh : Int64) (x what : Int32) : Met l yX3_safe wsX3_safe rm_c_X3_safe (va_Pc [.ref (bd 0), .int x, .int what] (fun U => va_P (dC, dI) vwCl ([bo bd σ ξ tk sd kv hh, (bd 2, .inl (cI, 16, .inl (menOf σ))), (bd 3, .inl (cI, 30, .inl (rowsOf σ)))]) U.heap ∧ va_K (dC, dI) vwCl (tyIZ cI cZ) U)) (vp_Si (fun r : Int32 => r = safeF σ Hn B x what)) 0 0 (fun _ => False) := by
  refine z_pureI (cc := cX3_safe) (maxL := 3) (av := [.ref (bd 0), .int x, .int what]) (by decide) rfl (Nat.le_of_ble_eq_true rfl) ?_
  intro p e s m below meth c Q ls hx hb hml hown hts ⟨hP, hK⟩ hq hl
  have hown : s.vm.findClass RX3 = some m.cls := hown
  have hin3 : ∀ w ∈ wsX30, w ∈ wsX3_safe := fun _ h => List.mem_cons_of_mem _ (List.mem_append_right _ h)
  obtain ⟨⟨iL, iC, iV, iM, iH, iB, jL, jC, jV, jM, jH, jB⟩, iK, iDe, iAl, iHe, iWo, iO1, iO2⟩ := id hI
  have hl : lv_has ls 3 [(0, .ref (bd 0)), (1, .int x), (2, .int what)] := hl
  refine lv_aload_n hx hb dX3_safe_0 rfl (lv_at hl 0 rfl) ?_
  refine lv_iload_n hx hb dX3_safe_1 rfl (lv_at hl 1 rfl) ?_
  refine z_callV (As := [.int x]) (rest := []) ⟨hx, hb, hml, hown, hts⟩ (c_X3_isHolder l dC dI cI cZ bd σ Hn B L C V M hI ξ tk sd kv hh x) (cwV 1 hts gX3_safe_X3_isHolder rfl rfl rfl (by decide +kernel) ⟨Nat.le_of_ble_eq_true rfl, Nat.le_of_ble_eq_true rfl⟩) hP hK (va_recv hK hP (ci := 3) (q0 := 0) rfl rfl) rfl hl.1 rfl (Nat.le_of_ble_eq_true rfl) ⟨Nat.zero_le _, Nat.zero_le _⟩ dX3_safe_2 (fun r hr => ?_)
  obtain rfl : r = zb (hasP Hn x) := hr
  refine z_ifne_b (P := hasP Hn x) (tgt := 11) hx hb dX3_safe_5 (by decide) (fun (c_5 : hasP Hn x) => ?_) (fun (c_5 : ¬ (hasP Hn x)) => ?_)
  · skip
    obtain ⟨j, hj, rfl⟩ := c_5
    refine lv_iload_n hx hb dX3_safe_11 rfl (lv_at hl 2 rfl) ?_
    refine lv_i2l (v := what.toInt64) hx hb dX3_safe_12 (rfl) ?_
    refine lv_lconst (v := 0) hx hb dX3_safe_13 (by decide) ?_
    refine lv_lconst (v := 1) hx hb dX3_safe_14 (by decide) ?_
    refine z_callS (As := [.long what.toInt64, .long 0, .long 1]) (rest := []) ⟨hx, hb, hml, hown, hts⟩ (c_X3_in l what.toInt64 0 1) (va_cwS 3 hts gX3_safe_X3_in rfl rfl rfl (by decide +kernel) ⟨Nat.le_of_ble_eq_true rfl, Nat.le_of_ble_eq_true rfl⟩) rfl hl.1 rfl (Nat.le_of_ble_eq_true rfl) ⟨Nat.zero_le _, Nat.zero_le _⟩ dX3_safe_15 (fun r hr => ?_)
    obtain rfl : r = zb (0 ≤ what.toInt64 ∧ what.toInt64 ≤ 1) := hr
    refine z_topi (v := zb (inP 0 1 what)) (zb_iff (in64 (a := 0) (b := 1) (by decide) (by decide))) ?_
    refine z_ifne_b (P := inP 0 1 what) (tgt := 24) hx hb dX3_safe_18 (by decide) (fun (c_18 : inP 0 1 what) => ?_) (fun (c_18 : ¬ (inP 0 1 what)) => ?_)
    · skip
      obtain ⟨w, -, hw1, rfl⟩ := c_18
      refine lv_aload_n hx hb dX3_safe_24 rfl (lv_at hl 0 rfl) ?_
      refine lv_iload_n hx hb dX3_safe_25 rfl (lv_at hl 1 rfl) ?_
      refine z_callV (As := [.int (nI j)]) (rest := []) ⟨hx, hb, hml, hown, hts⟩ (c_X3_lives l dC dI cI cZ bd σ Hn B L C V M hI ξ tk sd kv hh j (by omega)) (cwV 1 hts gX3_safe_X3_lives rfl rfl rfl (by decide +kernel) ⟨Nat.le_of_ble_eq_true rfl, Nat.le_of_ble_eq_true rfl⟩) hP hK (va_recv hK hP (ci := 3) (q0 := 0) rfl rfl) rfl hl.1 rfl (Nat.le_of_ble_eq_true rfl) ⟨Nat.zero_le _, Nat.zero_le _⟩ dX3_safe_26 (fun r hr => ?_)
      obtain rfl : r = zb (σ 3 j = 1) := hr
      refine z_ifeq_b (P := σ 3 j = 1) (tgt := 41) hx hb dX3_safe_29 (by decide) (fun (c_29 : ¬ (σ 3 j = 1)) => ?_) (fun (c_29 : σ 3 j = 1) => ?_)
      · skip
        refine lv_bipush (v := (-103)) hx hb dX3_safe_41 (by decide) ?_
        exact hq (-103) 43 ls dX3_safe_43 (show (-103) = safeF σ Hn B (nI j) (nI w) from (by unfold safeF; rw [zif_t (hasP_nI hj), zif_t (inP_nI (Nat.zero_le _) hw1), tn_nI (by omega), zif_f c_29]))
      · skip
        refine lv_aload_n hx hb dX3_safe_32 rfl (lv_at hl 0 rfl) ?_
        refine lv_iload_n hx hb dX3_safe_33 rfl (lv_at hl 1 rfl) ?_
        refine lv_iload_n hx hb dX3_safe_34 rfl (lv_at hl 2 rfl) ?_
        refine z_callV (As := [.int (nI j), .int (nI w)]) (rest := []) ⟨hx, hb, hml, hown, hts⟩ (c_X3_safeOf l dC dI cI cZ bd σ Hn B L C V M hI ξ tk sd kv hh j (by omega) w (by omega)) (cwV 2 hts gX3_safe_X3_safeOf rfl rfl rfl (by decide +kernel) ⟨Nat.le_of_ble_eq_true rfl, Nat.le_of_ble_eq_true rfl⟩) hP hK (va_recv hK hP (ci := 3) (q0 := 0) rfl rfl) rfl hl.1 rfl (Nat.le_of_ble_eq_true rfl) ⟨Nat.zero_le _, Nat.zero_le _⟩ dX3_safe_35 (fun r hr => ?_)
        obtain rfl : r = safeN σ B j w := hr
        refine lv_goto (tgt := 43) hx hb dX3_safe_38 (by decide) ?_
        exact hq (safeN σ B j w) 43 ls dX3_safe_43 (show (safeN σ B j w) = safeF σ Hn B (nI j) (nI w) from (safeF_in hj jH hw1 c_29).symm)
    · skip
      refine lv_bipush (v := (-102)) hx hb dX3_safe_21 (by decide) ?_
      exact hq (-102) 23 ls dX3_safe_23 (show (-102) = safeF σ Hn B (nI j) what from (by unfold safeF; rw [zif_t (hasP_nI hj), zif_f c_18]))
  · skip
    refine lv_bipush (v := (-101)) hx hb dX3_safe_8 (by decide) ?_
    exact hq (-101) 10 ls dX3_safe_10 (show (-101) = safeF σ Hn B x what from (by unfold safeF; rw [zif_f c_5]))
abbrev rm_c_X3_lostBy : Room := { frames := 3, cells := 0, slots := 0, locals := 72 }
set_option maxHeartbeats 4000000 in
set_option maxRecDepth 100000 in
theorem c_X3_lostBy (l : Launch) (dC : Nat → ClassId) (dI : Nat → Nat → Nat) (cI cZ : ClassId) (bd : Nat → Nat) (σ : St) (Hn B L C V M : Nat) (hI : Inv σ Hn B L C V M) (ξ : Nat → Int32) (tk sd : Int32) (kv : Nat → Int32) (hh : Int64) (j : Nat) (hj : j < Hn) (set : Int32) (y : Nat) (hy : y ≤ 4) (hsub : ∃ z, z < 64 ∧ set = nI z ∧ nI z &&& znot (ownR σ (nI j) B) = 0) : Met l yX3_lostBy wsX3_lostBy rm_c_X3_lostBy (va_Pc [.ref (bd 0), .int (nI j), .int set, .int (nI y)] (fun U => va_P (dC, dI) vwCl ([bo bd σ ξ tk sd kv hh, (bd 2, .inl (cI, 16, .inl (menOf σ))), (bd 3, .inl (cI, 30, .inl (rowsOf σ)))]) U.heap ∧ va_K (dC, dI) vwCl (tyIZ cI cZ) U)) (vp_Si (fun r : Int32 => r = lostR σ B j set y)) 0 0 (fun _ => False) := by
  refine z_pureI (cc := cX3_lostBy) (maxL := 11) (av := [.ref (bd 0), .int (nI j), .int set, .int (nI y)]) (by decide) rfl (Nat.le_of_ble_eq_true rfl) ?_
  intro p e s m below meth c Q ls hx hb hml hown hts ⟨hP, hK⟩ hq hl
  have hown : s.vm.findClass RX3 = some m.cls := hown
  have hin3 : ∀ w ∈ wsX30, w ∈ wsX3_lostBy := fun _ h => List.mem_cons_of_mem _ (List.mem_append_right _ h)
  have L13 := hts (.fieldLink RX3 13 "BestBeastModel" "men" "[I") (List.mem_of_getElem? (i := 1) rfl)
  have L104 := hts (.fieldLink RX3 104 "BestBeastModel" "yearNow" "I") (List.mem_of_getElem? (i := 2) rfl)
  have L41 := hts (.fieldLink RX3 41 "BestBeastModel" "voidYears" "I") (List.mem_of_getElem? (i := 3) rfl)
  obtain ⟨⟨iL, iC, iV, iM, iH, iB, jL, jC, jV, jM, jH, jB⟩, iK, iDe, iAl, iHe, iWo, iO1, iO2⟩ := id hI
  have hl : lv_has ls 11 [(0, .ref (bd 0)), (1, .int (nI j)), (2, .int set), (3, .int (nI y))] := hl
  refine lv_aload_n hx hb dX3_lostBy_0 rfl (lv_at hl 0 rfl) ?_
  refine va_get (D := (dC, dI)) (ci := 3) (v := .ref (bd 2)) (C := RX3) (T := TX3) (N := 24) hx hb hts hin3 hown hK hP 0 rfl rfl 11 (by decide) L13 (fun _ h9 => h9) rfl dX3_lostBy_1 ?_
  refine lv_iconst (v := nI 4) hx hb dX3_lostBy_4 (by decide) ?_
  refine lv_iload_n hx hb dX3_lostBy_5 rfl (lv_at hl 1 rfl) ?_
  refine z_imul (v := nI (4 * j)) hx hb dX3_lostBy_6 (pk_mul _ _) ?_
  refine lv_iconst (v := nI 1) hx hb dX3_lostBy_7 (by decide) ?_
  refine z_iadd (v := nI ((4 * j) + 1)) hx hb dX3_lostBy_8 (nI_add _ _) ?_
  refine z_iald (D := (dC, dI)) hx hb hK hP 1 0 rfl rfl ((4 * j) + 1) (rfl) (by omega) (by omega) (v := σ 2 j) (menR σ j 1 (by decide)) dX3_lostBy_9 ?_
  refine lv_istore (lv' := [(4, .int (σ 2 j)), (0, .ref (bd 0)), (1, .int (nI j)), (2, .int set), (3, .int (nI y))]) hx hb dX3_lostBy_10 hl (by decide) rfl (fun ls hl => ?_)
  refine lv_iconst (v := nI 1) hx hb dX3_lostBy_12 (by decide) ?_
  refine lv_istore (lv' := [(5, .int (nI 1)), (4, .int (σ 2 j)), (0, .ref (bd 0)), (1, .int (nI j)), (2, .int set), (3, .int (nI y))]) hx hb dX3_lostBy_13 hl (by decide) rfl (fun ls hl => ?_)
  refine lv_iconst (v := nI 0) hx hb dX3_lostBy_15 (by decide) ?_
  refine lv_istore (lv' := [(6, .int (nI 0)), (5, .int (nI 1)), (4, .int (σ 2 j)), (0, .ref (bd 0)), (1, .int (nI j)), (2, .int set), (3, .int (nI y))]) hx hb dX3_lostBy_16 hl (by decide) rfl (fun ls hl => ?_)
  refine lv_iconst (v := nI 0) hx hb dX3_lostBy_18 (by decide) ?_
  refine lv_istore (lv' := [(7, .int (nI 0)), (6, .int (nI 0)), (5, .int (nI 1)), (4, .int (σ 2 j)), (0, .ref (bd 0)), (1, .int (nI j)), (2, .int set), (3, .int (nI y))]) hx hb dX3_lostBy_19 hl (by decide) rfl (fun ls hl => ?_)
  suffices hlp21 : ∀ (nf : Nat) (k : Nat) (x21_7 : Int32) (x21_6 : Int32) (x21_5 : Int32) (ls : Array Slot), (k ≤ y) → x21_7 = nI k → x21_6 = mul10 (lostR σ B j set k) (y - k) → x21_5 = stillR σ j k → lv_has ls 11 [(7, .int x21_7), (6, .int x21_6), (5, .int x21_5), (4, .int (σ 2 j)), (0, .ref (bd 0)), (1, .int (nI j)), (2, .int set), (3, .int (nI y))] → y - k < nf → W p l e rm_c_X3_lostBy s m ([.ref (bd 0), .int (nI j), .int set, .int (nI y)] : List Value).toArray below meth c s.heap [] 0 0 Q (F0 m 21 ls []) by
    exact hlp21 ((y - 0) + 1) 0 (nI 0) (nI 0) (nI 1) ls (by omega) rfl ((mul10_0 _).symm) rfl (lv_sub hl [0, 1, 2, 3, 4, 5, 6, 7] rfl) (by omega)
  intro nf
  induction nf with
  | zero => intro k x21_7 x21_6 x21_5 ls hk e21_7 e21_6 e21_5 hl hn; omega
  | succ nf ih21 =>
    intro k x21_7 x21_6 x21_5 ls hk e21_7 e21_6 e21_5 hl hn
    subst e21_7
    subst e21_6
    subst e21_5
    refine lv_iload hx hb dX3_lostBy_21 (lv_at hl 0 rfl) ?_
    refine lv_iload_n hx hb dX3_lostBy_23 rfl (lv_at hl 7 rfl) ?_
    refine z_icmp_ge (a := k) (b := y) (tgt := 126) hx hb (by omega) (by omega) dX3_lostBy_24 (by decide) (fun (c_24 : y ≤ k) => ?_) (fun (c_24 : k < y) => ?_)
    · skip
      refine lv_iload hx hb dX3_lostBy_126 (lv_at hl 1 rfl) ?_
      exact hq (mul10 (lostR σ B j set k) (y - k)) 128 ls dX3_lostBy_128 (show (mul10 (lostR σ B j set k) (y - k)) = lostR σ B j set y from (by rw [show y = k by omega, Nat.sub_self]; rfl))
    · skip
      refine lv_aload_n hx hb dX3_lostBy_27 rfl (lv_at hl 4 rfl) ?_
      refine lv_iload_n hx hb dX3_lostBy_28 rfl (lv_at hl 5 rfl) ?_
      refine lv_aload_n hx hb dX3_lostBy_29 rfl (lv_at hl 4 rfl) ?_
      refine va_get (D := (dC, dI)) (ci := 3) (v := .int (σ 0 6)) (C := RX3) (T := TX3) (N := 24) hx hb hts hin3 hown hK hP 0 rfl rfl 7 (by decide) L104 (fun _ h9 => h9) rfl dX3_lostBy_30 ?_
      refine lv_iload hx hb dX3_lostBy_33 (lv_at hl 0 rfl) ?_
      refine z_iadd (v := (σ 0 6) + (nI k)) hx hb dX3_lostBy_35 (rfl) ?_
      refine z_callV (As := [.int (nI j), .int ((σ 0 6) + (nI k))]) (rest := []) ⟨hx, hb, hml, hown, hts⟩ (c_X3_heldBits l dC dI cI cZ bd σ Hn B L C V M hI ξ tk sd kv hh (nI j) ((σ 0 6) + (nI k)) (nI_m1 (by omega))) (cwV 2 hts gX3_lostBy_X3_heldBits rfl rfl rfl (by decide +kernel) ⟨Nat.le_of_ble_eq_true rfl, Nat.le_of_ble_eq_true rfl⟩) hP hK (va_recv hK hP (ci := 3) (q0 := 0) rfl rfl) rfl hl.1 rfl (Nat.le_of_ble_eq_true rfl) ⟨Nat.zero_le _, Nat.zero_le _⟩ dX3_lostBy_36 (fun r hr => ?_)
      obtain rfl : r = heldR σ (nI j) ((σ 0 6) + (nI k)) (ownR σ (nI j) B) B := hr
      refine lv_istore (lv' := [(8, .int (heldR σ (nI j) ((σ 0 6) + (nI k)) (ownR σ (nI j) B) B)), (7, .int (nI k)), (6, .int (mul10 (lostR σ B j set k) (y - k))), (5, .int (stillR σ j k)), (4, .int (σ 2 j)), (0, .ref (bd 0)), (1, .int (nI j)), (2, .int set), (3, .int (nI y))]) hx hb dX3_lostBy_39 hl (by decide) rfl (fun ls hl => ?_)
      refine lv_iload hx hb dX3_lostBy_41 (lv_at hl 1 rfl) ?_
      refine lv_aload_n hx hb dX3_lostBy_43 rfl (lv_at hl 5 rfl) ?_
      refine va_get (D := (dC, dI)) (ci := 3) (v := .int (σ 0 2)) (C := RX3) (T := TX3) (N := 24) hx hb hts hin3 hown hK hP 0 rfl rfl 4 (by decide) L41 (fun _ h9 => h9) rfl dX3_lostBy_44 ?_
      refine lv_icmp_ge (tgt := 55) hx hb dX3_lostBy_47 (by decide) (fun (c_47 : (σ 0 2) ≤ (nI k)) => ?_) (fun (c_47 : ¬ ((σ 0 2) ≤ (nI k))) => ?_)
      · skip
        have hhl : heldR σ (nI j) (σ 0 6 + nI k) (ownR σ (nI j) B) B &&& znot set = heldL σ B (nI j) (nI k) set := by
          obtain ⟨z, hz, rfl, hz2⟩ := hsub
          unfold heldL
          rw [if_pos c_47]
          exact heldM hI (nI_m1 (by omega)) hz hz2
        refine lv_iload hx hb dX3_lostBy_55 (lv_at hl 0 rfl) ?_
        refine lv_iload_n hx hb dX3_lostBy_57 rfl (lv_at hl 7 rfl) ?_
        refine lv_iconst (v := (-1)) hx hb dX3_lostBy_58 (by decide) ?_
        refine z_ixor (v := znot set) hx hb dX3_lostBy_59 (rfl) ?_
        refine z_iand (v := heldL σ B (nI j) (nI k) set) hx hb dX3_lostBy_60 (hhl) ?_
        refine lv_istore (lv' := [(8, .int (heldL σ B (nI j) (nI k) set)), (7, .int (nI k)), (6, .int (mul10 (lostR σ B j set k) (y - k))), (5, .int (stillR σ j k)), (4, .int (σ 2 j)), (0, .ref (bd 0)), (1, .int (nI j)), (2, .int set), (3, .int (nI y))]) hx hb dX3_lostBy_61 hl (by decide) rfl (fun ls hl => ?_)
        refine lv_iload hx hb dX3_lostBy_63 (lv_at hl 3 rfl) ?_
        refine lv_iload hx hb dX3_lostBy_65 (lv_at hl 4 rfl) ?_
        refine z_imul (v := (stillR σ j k) * (σ 2 j)) hx hb dX3_lostBy_67 (rfl) ?_
        refine lv_aload_n hx hb dX3_lostBy_68 rfl (lv_at hl 5 rfl) ?_
        refine lv_iload_n hx hb dX3_lostBy_69 rfl (lv_at hl 6 rfl) ?_
        refine lv_iload hx hb dX3_lostBy_70 (lv_at hl 0 rfl) ?_
        refine z_callV (As := [.int (nI j), .int (heldL σ B (nI j) (nI k) set)]) (rest := [.int ((stillR σ j k) * (σ 2 j))]) ⟨hx, hb, hml, hown, hts⟩ (c_X3_lossBy l dC dI cI cZ bd σ Hn B L C V M hI ξ tk sd kv hh j (by omega) (heldL σ B (nI j) (nI k) set)) (cwV 2 hts gX3_lostBy_X3_lossBy rfl rfl rfl (by decide +kernel) ⟨Nat.le_of_ble_eq_true rfl, Nat.le_of_ble_eq_true rfl⟩) hP hK (va_recv hK hP (ci := 3) (q0 := 0) rfl rfl) rfl hl.1 rfl (Nat.le_of_ble_eq_true rfl) ⟨Nat.zero_le _, Nat.zero_le _⟩ dX3_lostBy_72 (fun r hr => ?_)
        obtain rfl : r = lossF σ B j (heldL σ B (nI j) (nI k) set) := hr
        refine z_imul (v := termF σ B j set k) hx hb dX3_lostBy_75 (rfl) ?_
        refine lv_istore (lv' := [(9, .int (termF σ B j set k)), (8, .int (heldL σ B (nI j) (nI k) set)), (7, .int (nI k)), (6, .int (mul10 (lostR σ B j set k) (y - k))), (5, .int (stillR σ j k)), (4, .int (σ 2 j)), (0, .ref (bd 0)), (1, .int (nI j)), (2, .int set), (3, .int (nI y))]) hx hb dX3_lostBy_76 hl (by decide) rfl (fun ls hl => ?_)
        refine lv_iload hx hb dX3_lostBy_78 (lv_at hl 2 rfl) ?_
        refine lv_iconst (v := nI 1) hx hb dX3_lostBy_80 (by decide) ?_
        refine z_iadd (v := nI (k + 1)) hx hb dX3_lostBy_81 (nI_add _ _) ?_
        refine lv_istore (lv' := [(10, .int (nI (k + 1))), (9, .int (termF σ B j set k)), (8, .int (heldL σ B (nI j) (nI k) set)), (7, .int (nI k)), (6, .int (mul10 (lostR σ B j set k) (y - k))), (5, .int (stillR σ j k)), (4, .int (σ 2 j)), (0, .ref (bd 0)), (1, .int (nI j)), (2, .int set), (3, .int (nI y))]) hx hb dX3_lostBy_82 hl (by decide) rfl (fun ls hl => ?_)
        suffices hlp84 : ∀ (nf : Nat) (q : Nat) (x84_10 : Int32) (x84_9 : Int32) (ls : Array Slot), (k + 1 + q ≤ y) → x84_10 = nI (k + 1 + q) → x84_9 = mul10 (termF σ B j set k) q → lv_has ls 11 [(10, .int x84_10), (9, .int x84_9), (8, .int (heldL σ B (nI j) (nI k) set)), (7, .int (nI k)), (6, .int (mul10 (lostR σ B j set k) (y - k))), (5, .int (stillR σ j k)), (4, .int (σ 2 j)), (0, .ref (bd 0)), (1, .int (nI j)), (2, .int set), (3, .int (nI y))] → y - (k + 1 + q) < nf → W p l e rm_c_X3_lostBy s m ([.ref (bd 0), .int (nI j), .int set, .int (nI y)] : List Value).toArray below meth c s.heap [] 0 0 Q (F0 m 84 ls []) by
          exact hlp84 ((y - (k + 1 + 0)) + 1) 0 (nI (k + 1)) (termF σ B j set k) ls (by omega) rfl rfl (lv_sub hl [0, 1, 2, 3, 4, 5, 6, 7, 8, 9, 10] rfl) (by omega)
        intro nf
        induction nf with
        | zero => intro q x84_10 x84_9 ls hq e84_10 e84_9 hl hn; omega
        | succ nf ih84 =>
          intro q x84_10 x84_9 ls hq e84_10 e84_9 hl hn
          subst e84_10
          subst e84_9
          refine lv_iload hx hb dX3_lostBy_84 (lv_at hl 0 rfl) ?_
          refine lv_iload_n hx hb dX3_lostBy_86 rfl (lv_at hl 10 rfl) ?_
          refine z_icmp_ge (a := k + 1 + q) (b := y) (tgt := 103) hx hb (by omega) (by omega) dX3_lostBy_87 (by decide) (fun (c_87 : y ≤ (k + 1 + q)) => ?_) (fun (c_87 : (k + 1 + q) < y) => ?_)
          · skip
            refine lv_iload hx hb dX3_lostBy_103 (lv_at hl 4 rfl) ?_
            refine lv_iload hx hb dX3_lostBy_105 (lv_at hl 1 rfl) ?_
            refine z_iadd (v := (mul10 (lostR σ B j set k) (y - k)) + (mul10 (termF σ B j set k) q)) hx hb dX3_lostBy_107 (rfl) ?_
            refine lv_istore (lv' := [(6, .int ((mul10 (lostR σ B j set k) (y - k)) + (mul10 (termF σ B j set k) q))), (10, .int (nI (k + 1 + q))), (9, .int (mul10 (termF σ B j set k) q)), (8, .int (heldL σ B (nI j) (nI k) set)), (7, .int (nI k)), (5, .int (stillR σ j k)), (4, .int (σ 2 j)), (0, .ref (bd 0)), (1, .int (nI j)), (2, .int set), (3, .int (nI y))]) hx hb dX3_lostBy_108 hl (by decide) rfl (fun ls hl => ?_)
            refine lv_iload hx hb dX3_lostBy_110 (lv_at hl 5 rfl) ?_
            refine lv_bipush (v := nI 10) hx hb dX3_lostBy_112 (by decide) ?_
            refine lv_iload hx hb dX3_lostBy_114 (lv_at hl 6 rfl) ?_
            refine z_isub (v := (nI 10) - (σ 2 j)) hx hb dX3_lostBy_116 (rfl) ?_
            refine z_imul (v := (stillR σ j k) * ((nI 10) - (σ 2 j))) hx hb dX3_lostBy_117 (rfl) ?_
            refine lv_istore (lv' := [(5, .int ((stillR σ j k) * ((nI 10) - (σ 2 j)))), (6, .int ((mul10 (lostR σ B j set k) (y - k)) + (mul10 (termF σ B j set k) q))), (10, .int (nI (k + 1 + q))), (9, .int (mul10 (termF σ B j set k) q)), (8, .int (heldL σ B (nI j) (nI k) set)), (7, .int (nI k)), (4, .int (σ 2 j)), (0, .ref (bd 0)), (1, .int (nI j)), (2, .int set), (3, .int (nI y))]) hx hb dX3_lostBy_118 hl (by decide) rfl (fun ls hl => ?_)
            refine lv_iinc (v := nI (k + 1)) (lv' := [(7, .int (nI (k + 1))), (5, .int ((stillR σ j k) * ((nI 10) - (σ 2 j)))), (6, .int ((mul10 (lostR σ B j set k) (y - k)) + (mul10 (termF σ B j set k) q))), (10, .int (nI (k + 1 + q))), (9, .int (mul10 (termF σ B j set k) q)), (8, .int (heldL σ B (nI j) (nI k) set)), (4, .int (σ 2 j)), (0, .ref (bd 0)), (1, .int (nI j)), (2, .int set), (3, .int (nI y))]) hx hb dX3_lostBy_120 hl (k := 5) rfl (nI_1 _) (by decide) rfl (fun ls hl => ?_)
            refine lv_goto (tgt := 21) hx hb dX3_lostBy_123 (by decide) ?_
            exact ih21 (k + 1) (nI (k + 1)) ((mul10 (lostR σ B j set k) (y - k)) + (mul10 (termF σ B j set k) q)) ((stillR σ j k) * ((nI 10) - (σ 2 j))) ls (by omega) (show nI (k + 1) = nI (k + 1) from rfl) (show (mul10 (lostR σ B j set k) (y - k)) + (mul10 (termF σ B j set k) q) = mul10 (lostR σ B j set (k + 1)) (y - (k + 1)) from (by rw [show q = y - (k + 1) by omega]; exact sum_step c_24)) (show (stillR σ j k) * ((nI 10) - (σ 2 j)) = stillR σ j (k + 1) from rfl) (lv_sub hl [0, 2, 1, 6, 7, 8, 9, 10] rfl) (by omega)
          · skip
            refine lv_iload hx hb dX3_lostBy_90 (lv_at hl 1 rfl) ?_
            refine lv_bipush (v := nI 10) hx hb dX3_lostBy_92 (by decide) ?_
            refine z_imul (v := (mul10 (termF σ B j set k) q) * (nI 10)) hx hb dX3_lostBy_94 (rfl) ?_
            refine lv_istore (lv' := [(9, .int ((mul10 (termF σ B j set k) q) * (nI 10))), (10, .int (nI (k + 1 + q))), (8, .int (heldL σ B (nI j) (nI k) set)), (7, .int (nI k)), (6, .int (mul10 (lostR σ B j set k) (y - k))), (5, .int (stillR σ j k)), (4, .int (σ 2 j)), (0, .ref (bd 0)), (1, .int (nI j)), (2, .int set), (3, .int (nI y))]) hx hb dX3_lostBy_95 hl (by decide) rfl (fun ls hl => ?_)
            refine lv_iinc (v := nI (k + 1 + q + 1)) (lv' := [(10, .int (nI (k + 1 + q + 1))), (9, .int ((mul10 (termF σ B j set k) q) * (nI 10))), (8, .int (heldL σ B (nI j) (nI k) set)), (7, .int (nI k)), (6, .int (mul10 (lostR σ B j set k) (y - k))), (5, .int (stillR σ j k)), (4, .int (σ 2 j)), (0, .ref (bd 0)), (1, .int (nI j)), (2, .int set), (3, .int (nI y))]) hx hb dX3_lostBy_97 hl (k := 1) rfl (nI_1 _) (by decide) rfl (fun ls hl => ?_)
            refine lv_goto (tgt := 84) hx hb dX3_lostBy_100 (by decide) ?_
            exact ih84 (q + 1) (nI (k + 1 + q + 1)) ((mul10 (termF σ B j set k) q) * (nI 10)) ls (by omega) (show nI (k + 1 + q + 1) = nI (k + 1 + (q + 1)) from rfl) (show (mul10 (termF σ B j set k) q) * (nI 10) = mul10 (termF σ B j set k) (q + 1) from rfl) (lv_sub hl [0, 1, 2, 3, 4, 5, 6, 7, 8, 9, 10] rfl) (by omega)
      · skip
        have hhl : heldR σ (nI j) (σ 0 6 + nI k) (ownR σ (nI j) B) B = heldL σ B (nI j) (nI k) set := by unfold heldL; rw [if_neg c_47]
        refine lv_iload hx hb dX3_lostBy_50 (lv_at hl 0 rfl) ?_
        refine z_topi (v := heldL σ B (nI j) (nI k) set) (hhl) ?_
        refine lv_goto (tgt := 61) hx hb dX3_lostBy_52 (by decide) ?_
        refine lv_istore (lv' := [(8, .int (heldL σ B (nI j) (nI k) set)), (7, .int (nI k)), (6, .int (mul10 (lostR σ B j set k) (y - k))), (5, .int (stillR σ j k)), (4, .int (σ 2 j)), (0, .ref (bd 0)), (1, .int (nI j)), (2, .int set), (3, .int (nI y))]) hx hb dX3_lostBy_61 hl (by decide) rfl (fun ls hl => ?_)
        refine lv_iload hx hb dX3_lostBy_63 (lv_at hl 3 rfl) ?_
        refine lv_iload hx hb dX3_lostBy_65 (lv_at hl 4 rfl) ?_
        refine z_imul (v := (stillR σ j k) * (σ 2 j)) hx hb dX3_lostBy_67 (rfl) ?_
        refine lv_aload_n hx hb dX3_lostBy_68 rfl (lv_at hl 5 rfl) ?_
        refine lv_iload_n hx hb dX3_lostBy_69 rfl (lv_at hl 6 rfl) ?_
        refine lv_iload hx hb dX3_lostBy_70 (lv_at hl 0 rfl) ?_
        refine z_callV (As := [.int (nI j), .int (heldL σ B (nI j) (nI k) set)]) (rest := [.int ((stillR σ j k) * (σ 2 j))]) ⟨hx, hb, hml, hown, hts⟩ (c_X3_lossBy l dC dI cI cZ bd σ Hn B L C V M hI ξ tk sd kv hh j (by omega) (heldL σ B (nI j) (nI k) set)) (cwV 2 hts gX3_lostBy_X3_lossBy rfl rfl rfl (by decide +kernel) ⟨Nat.le_of_ble_eq_true rfl, Nat.le_of_ble_eq_true rfl⟩) hP hK (va_recv hK hP (ci := 3) (q0 := 0) rfl rfl) rfl hl.1 rfl (Nat.le_of_ble_eq_true rfl) ⟨Nat.zero_le _, Nat.zero_le _⟩ dX3_lostBy_72 (fun r hr => ?_)
        obtain rfl : r = lossF σ B j (heldL σ B (nI j) (nI k) set) := hr
        refine z_imul (v := termF σ B j set k) hx hb dX3_lostBy_75 (rfl) ?_
        refine lv_istore (lv' := [(9, .int (termF σ B j set k)), (8, .int (heldL σ B (nI j) (nI k) set)), (7, .int (nI k)), (6, .int (mul10 (lostR σ B j set k) (y - k))), (5, .int (stillR σ j k)), (4, .int (σ 2 j)), (0, .ref (bd 0)), (1, .int (nI j)), (2, .int set), (3, .int (nI y))]) hx hb dX3_lostBy_76 hl (by decide) rfl (fun ls hl => ?_)
        refine lv_iload hx hb dX3_lostBy_78 (lv_at hl 2 rfl) ?_
        refine lv_iconst (v := nI 1) hx hb dX3_lostBy_80 (by decide) ?_
        refine z_iadd (v := nI (k + 1)) hx hb dX3_lostBy_81 (nI_add _ _) ?_
        refine lv_istore (lv' := [(10, .int (nI (k + 1))), (9, .int (termF σ B j set k)), (8, .int (heldL σ B (nI j) (nI k) set)), (7, .int (nI k)), (6, .int (mul10 (lostR σ B j set k) (y - k))), (5, .int (stillR σ j k)), (4, .int (σ 2 j)), (0, .ref (bd 0)), (1, .int (nI j)), (2, .int set), (3, .int (nI y))]) hx hb dX3_lostBy_82 hl (by decide) rfl (fun ls hl => ?_)
        suffices hlp84 : ∀ (nf : Nat) (q : Nat) (x84_10 : Int32) (x84_9 : Int32) (ls : Array Slot), (k + 1 + q ≤ y) → x84_10 = nI (k + 1 + q) → x84_9 = mul10 (termF σ B j set k) q → lv_has ls 11 [(10, .int x84_10), (9, .int x84_9), (8, .int (heldL σ B (nI j) (nI k) set)), (7, .int (nI k)), (6, .int (mul10 (lostR σ B j set k) (y - k))), (5, .int (stillR σ j k)), (4, .int (σ 2 j)), (0, .ref (bd 0)), (1, .int (nI j)), (2, .int set), (3, .int (nI y))] → y - (k + 1 + q) < nf → W p l e rm_c_X3_lostBy s m ([.ref (bd 0), .int (nI j), .int set, .int (nI y)] : List Value).toArray below meth c s.heap [] 0 0 Q (F0 m 84 ls []) by
          exact hlp84 ((y - (k + 1 + 0)) + 1) 0 (nI (k + 1)) (termF σ B j set k) ls (by omega) rfl rfl (lv_sub hl [0, 1, 2, 3, 4, 5, 6, 7, 8, 9, 10] rfl) (by omega)
        intro nf
        induction nf with
        | zero => intro q x84_10 x84_9 ls hq e84_10 e84_9 hl hn; omega
        | succ nf ih84 =>
          intro q x84_10 x84_9 ls hq e84_10 e84_9 hl hn
          subst e84_10
          subst e84_9
          refine lv_iload hx hb dX3_lostBy_84 (lv_at hl 0 rfl) ?_
          refine lv_iload_n hx hb dX3_lostBy_86 rfl (lv_at hl 10 rfl) ?_
          refine z_icmp_ge (a := k + 1 + q) (b := y) (tgt := 103) hx hb (by omega) (by omega) dX3_lostBy_87 (by decide) (fun (c_87 : y ≤ (k + 1 + q)) => ?_) (fun (c_87 : (k + 1 + q) < y) => ?_)
          · skip
            refine lv_iload hx hb dX3_lostBy_103 (lv_at hl 4 rfl) ?_
            refine lv_iload hx hb dX3_lostBy_105 (lv_at hl 1 rfl) ?_
            refine z_iadd (v := (mul10 (lostR σ B j set k) (y - k)) + (mul10 (termF σ B j set k) q)) hx hb dX3_lostBy_107 (rfl) ?_
            refine lv_istore (lv' := [(6, .int ((mul10 (lostR σ B j set k) (y - k)) + (mul10 (termF σ B j set k) q))), (10, .int (nI (k + 1 + q))), (9, .int (mul10 (termF σ B j set k) q)), (8, .int (heldL σ B (nI j) (nI k) set)), (7, .int (nI k)), (5, .int (stillR σ j k)), (4, .int (σ 2 j)), (0, .ref (bd 0)), (1, .int (nI j)), (2, .int set), (3, .int (nI y))]) hx hb dX3_lostBy_108 hl (by decide) rfl (fun ls hl => ?_)
            refine lv_iload hx hb dX3_lostBy_110 (lv_at hl 5 rfl) ?_
            refine lv_bipush (v := nI 10) hx hb dX3_lostBy_112 (by decide) ?_
            refine lv_iload hx hb dX3_lostBy_114 (lv_at hl 6 rfl) ?_
            refine z_isub (v := (nI 10) - (σ 2 j)) hx hb dX3_lostBy_116 (rfl) ?_
            refine z_imul (v := (stillR σ j k) * ((nI 10) - (σ 2 j))) hx hb dX3_lostBy_117 (rfl) ?_
            refine lv_istore (lv' := [(5, .int ((stillR σ j k) * ((nI 10) - (σ 2 j)))), (6, .int ((mul10 (lostR σ B j set k) (y - k)) + (mul10 (termF σ B j set k) q))), (10, .int (nI (k + 1 + q))), (9, .int (mul10 (termF σ B j set k) q)), (8, .int (heldL σ B (nI j) (nI k) set)), (7, .int (nI k)), (4, .int (σ 2 j)), (0, .ref (bd 0)), (1, .int (nI j)), (2, .int set), (3, .int (nI y))]) hx hb dX3_lostBy_118 hl (by decide) rfl (fun ls hl => ?_)
            refine lv_iinc (v := nI (k + 1)) (lv' := [(7, .int (nI (k + 1))), (5, .int ((stillR σ j k) * ((nI 10) - (σ 2 j)))), (6, .int ((mul10 (lostR σ B j set k) (y - k)) + (mul10 (termF σ B j set k) q))), (10, .int (nI (k + 1 + q))), (9, .int (mul10 (termF σ B j set k) q)), (8, .int (heldL σ B (nI j) (nI k) set)), (4, .int (σ 2 j)), (0, .ref (bd 0)), (1, .int (nI j)), (2, .int set), (3, .int (nI y))]) hx hb dX3_lostBy_120 hl (k := 5) rfl (nI_1 _) (by decide) rfl (fun ls hl => ?_)
            refine lv_goto (tgt := 21) hx hb dX3_lostBy_123 (by decide) ?_
            exact ih21 (k + 1) (nI (k + 1)) ((mul10 (lostR σ B j set k) (y - k)) + (mul10 (termF σ B j set k) q)) ((stillR σ j k) * ((nI 10) - (σ 2 j))) ls (by omega) (show nI (k + 1) = nI (k + 1) from rfl) (show (mul10 (lostR σ B j set k) (y - k)) + (mul10 (termF σ B j set k) q) = mul10 (lostR σ B j set (k + 1)) (y - (k + 1)) from (by rw [show q = y - (k + 1) by omega]; exact sum_step c_24)) (show (stillR σ j k) * ((nI 10) - (σ 2 j)) = stillR σ j (k + 1) from rfl) (lv_sub hl [0, 2, 1, 6, 7, 8, 9, 10] rfl) (by omega)
          · skip
            refine lv_iload hx hb dX3_lostBy_90 (lv_at hl 1 rfl) ?_
            refine lv_bipush (v := nI 10) hx hb dX3_lostBy_92 (by decide) ?_
            refine z_imul (v := (mul10 (termF σ B j set k) q) * (nI 10)) hx hb dX3_lostBy_94 (rfl) ?_
            refine lv_istore (lv' := [(9, .int ((mul10 (termF σ B j set k) q) * (nI 10))), (10, .int (nI (k + 1 + q))), (8, .int (heldL σ B (nI j) (nI k) set)), (7, .int (nI k)), (6, .int (mul10 (lostR σ B j set k) (y - k))), (5, .int (stillR σ j k)), (4, .int (σ 2 j)), (0, .ref (bd 0)), (1, .int (nI j)), (2, .int set), (3, .int (nI y))]) hx hb dX3_lostBy_95 hl (by decide) rfl (fun ls hl => ?_)
            refine lv_iinc (v := nI (k + 1 + q + 1)) (lv' := [(10, .int (nI (k + 1 + q + 1))), (9, .int ((mul10 (termF σ B j set k) q) * (nI 10))), (8, .int (heldL σ B (nI j) (nI k) set)), (7, .int (nI k)), (6, .int (mul10 (lostR σ B j set k) (y - k))), (5, .int (stillR σ j k)), (4, .int (σ 2 j)), (0, .ref (bd 0)), (1, .int (nI j)), (2, .int set), (3, .int (nI y))]) hx hb dX3_lostBy_97 hl (k := 1) rfl (nI_1 _) (by decide) rfl (fun ls hl => ?_)
            refine lv_goto (tgt := 84) hx hb dX3_lostBy_100 (by decide) ?_
            exact ih84 (q + 1) (nI (k + 1 + q + 1)) ((mul10 (termF σ B j set k) q) * (nI 10)) ls (by omega) (show nI (k + 1 + q + 1) = nI (k + 1 + (q + 1)) from rfl) (show (mul10 (termF σ B j set k) q) * (nI 10) = mul10 (termF σ B j set k) (q + 1) from rfl) (lv_sub hl [0, 1, 2, 3, 4, 5, 6, 7, 8, 9, 10] rfl) (by omega)
abbrev rm_c_X3_givingOf : Room := { frames := 4, cells := 0, slots := 0, locals := 102 }
set_option maxHeartbeats 4000000 in
set_option maxRecDepth 100000 in
theorem c_X3_givingOf (l : Launch) (dC : Nat → ClassId) (dI : Nat → Nat → Nat) (cI cZ : ClassId) (bd : Nat → Nat) (σ : St) (Hn B L C V M : Nat) (hI : Inv σ Hn B L C V M) (ξ : Nat → Int32) (tk sd : Int32) (kv : Nat → Int32) (hh : Int64) (j : Nat) (hj : j < Hn) (y : Nat) (hy : y ≤ 4) : Met l yX3_givingOf wsX3_givingOf rm_c_X3_givingOf (va_Pc [.ref (bd 0), .int (nI j), .int (nI y)] (fun U => va_P (dC, dI) vwCl ([bo bd σ ξ tk sd kv hh, (bd 2, .inl (cI, 16, .inl (menOf σ))), (bd 3, .inl (cI, 30, .inl (rowsOf σ)))]) U.heap ∧ va_K (dC, dI) vwCl (tyIZ cI cZ) U)) (vp_Si (fun r : Int32 => r = giveF σ B j y)) 0 0 (fun _ => False) := by
  refine z_pureI (cc := cX3_givingOf) (maxL := 9) (av := [.ref (bd 0), .int (nI j), .int (nI y)]) (by decide) rfl (Nat.le_of_ble_eq_true rfl) ?_
  intro p e s m below meth c Q ls hx hb hml hown hts ⟨hP, hK⟩ hq hl
  have hown : s.vm.findClass RX3 = some m.cls := hown
  have hin3 : ∀ w ∈ wsX30, w ∈ wsX3_givingOf := fun _ h => List.mem_cons_of_mem _ (List.mem_append_right _ h)
  obtain ⟨⟨iL, iC, iV, iM, iH, iB, jL, jC, jV, jM, jH, jB⟩, iK, iDe, iAl, iHe, iWo, iO1, iO2⟩ := id hI
  have hl : lv_has ls 9 [(0, .ref (bd 0)), (1, .int (nI j)), (2, .int (nI y))] := hl
  refine lv_aload_n hx hb dX3_givingOf_0 rfl (lv_at hl 0 rfl) ?_
  refine lv_iload_n hx hb dX3_givingOf_1 rfl (lv_at hl 1 rfl) ?_
  refine z_callV (As := [.int (nI j)]) (rest := []) ⟨hx, hb, hml, hown, hts⟩ (c_X3_hisBits l dC dI cI cZ bd σ Hn B L C V M hI ξ tk sd kv hh (nI j)) (cwV 1 hts gX3_givingOf_X3_hisBits rfl rfl rfl (by decide +kernel) ⟨Nat.le_of_ble_eq_true rfl, Nat.le_of_ble_eq_true rfl⟩) hP hK (va_recv hK hP (ci := 3) (q0 := 0) rfl rfl) rfl hl.1 rfl (Nat.le_of_ble_eq_true rfl) ⟨Nat.zero_le _, Nat.zero_le _⟩ dX3_givingOf_2 (fun r hr => ?_)
  obtain rfl : r = ownR σ (nI j) B := hr
  refine lv_istore_n (lv' := [(3, .int (ownR σ (nI j) B)), (0, .ref (bd 0)), (1, .int (nI j)), (2, .int (nI y))]) hx hb dX3_givingOf_5 rfl hl (by decide) rfl (fun ls hl => ?_)
  refine lv_iconst (v := (-1)) hx hb dX3_givingOf_6 (by decide) ?_
  refine lv_istore (lv' := [(4, .int (-1)), (3, .int (ownR σ (nI j) B)), (0, .ref (bd 0)), (1, .int (nI j)), (2, .int (nI y))]) hx hb dX3_givingOf_7 hl (by decide) rfl (fun ls hl => ?_)
  refine lv_iconst (v := (-1)) hx hb dX3_givingOf_9 (by decide) ?_
  refine lv_istore (lv' := [(5, .int (-1)), (4, .int (-1)), (3, .int (ownR σ (nI j) B)), (0, .ref (bd 0)), (1, .int (nI j)), (2, .int (nI y))]) hx hb dX3_givingOf_10 hl (by decide) rfl (fun ls hl => ?_)
  refine lv_iconst (v := nI 0) hx hb dX3_givingOf_12 (by decide) ?_
  refine lv_istore (lv' := [(6, .int (nI 0)), (5, .int (-1)), (4, .int (-1)), (3, .int (ownR σ (nI j) B)), (0, .ref (bd 0)), (1, .int (nI j)), (2, .int (nI y))]) hx hb dX3_givingOf_13 hl (by decide) rfl (fun ls hl => ?_)
  suffices hlp15 : ∀ (nf : Nat) (k : Nat) (x15_6 : Int32) (x15_5 : Int32) (x15_4 : Int32) (ls : Array Slot), (k ≤ 64) → x15_6 = nI k → x15_5 = lessF σ B j y (ownR σ (nI j) B) k → x15_4 = giveR σ B j y (ownR σ (nI j) B) k → lv_has ls 9 [(6, .int x15_6), (5, .int x15_5), (4, .int x15_4), (3, .int (ownR σ (nI j) B)), (0, .ref (bd 0)), (1, .int (nI j)), (2, .int (nI y))] → 64 - k < nf → W p l e rm_c_X3_givingOf s m ([.ref (bd 0), .int (nI j), .int (nI y)] : List Value).toArray below meth c s.heap [] 0 0 Q (F0 m 15 ls []) by
    exact hlp15 ((64 - 0) + 1) 0 (nI 0) (-1) (-1) ls (by omega) rfl (by unfold lessF; rw [if_pos (show giveR σ B j y (ownR σ (nI j) B) 0 = -1 from rfl)]) rfl (lv_sub hl [0, 1, 2, 3, 4, 5, 6] rfl) (by omega)
  intro nf
  induction nf with
  | zero => intro k x15_6 x15_5 x15_4 ls hk e15_6 e15_5 e15_4 hl hn; omega
  | succ nf ih15 =>
    intro k x15_6 x15_5 x15_4 ls hk e15_6 e15_5 e15_4 hl hn
    subst e15_6
    subst e15_5
    subst e15_4
    have o1 := ones_lt k
    have o2 := ones_lt (tn (giveR σ B j y (ownR σ (nI j) B) k))
    refine lv_iload hx hb dX3_givingOf_15 (lv_at hl 0 rfl) ?_
    refine lv_bipush (v := nI 64) hx hb dX3_givingOf_17 (by decide) ?_
    refine z_icmp_ge (a := k) (b := 64) (tgt := 115) hx hb (by omega) (by omega) dX3_givingOf_19 (by decide) (fun (c_19 : 64 ≤ k) => ?_) (fun (c_19 : k < 64) => ?_)
    · skip
      refine lv_iload hx hb dX3_givingOf_115 (lv_at hl 2 rfl) ?_
      exact hq (giveR σ B j y (ownR σ (nI j) B) k) 117 ls dX3_givingOf_117 (show (giveR σ B j y (ownR σ (nI j) B) k) = giveF σ B j y from (by unfold giveF; rw [show 64 = k by omega]))
    · skip
      refine lv_iload hx hb dX3_givingOf_22 (lv_at hl 0 rfl) ?_
      refine lv_iload_n hx hb dX3_givingOf_24 rfl (lv_at hl 3 rfl) ?_
      refine lv_iconst (v := (-1)) hx hb dX3_givingOf_25 (by decide) ?_
      refine z_ixor (v := znot (ownR σ (nI j) B)) hx hb dX3_givingOf_26 (rfl) ?_
      refine z_iand (v := (nI k) &&& (znot (ownR σ (nI j) B))) hx hb dX3_givingOf_27 (rfl) ?_
      refine lv_if_ne (tgt := 109) hx hb dX3_givingOf_28 (by decide) (fun (c_28 : ¬ ((nI k) &&& (znot (ownR σ (nI j) B))) = 0) => ?_) (fun (c_28 : ((nI k) &&& (znot (ownR σ (nI j) B))) = 0) => ?_)
      · skip
        refine lv_iinc (v := nI (k + 1)) (lv' := [(6, .int (nI (k + 1))), (5, .int (lessF σ B j y (ownR σ (nI j) B) k)), (4, .int (giveR σ B j y (ownR σ (nI j) B) k)), (3, .int (ownR σ (nI j) B)), (0, .ref (bd 0)), (1, .int (nI j)), (2, .int (nI y))]) hx hb dX3_givingOf_109 hl (k := 0) rfl (nI_1 _) (by decide) rfl (fun ls hl => ?_)
        refine lv_goto (tgt := 15) hx hb dX3_givingOf_112 (by decide) ?_
        exact ih15 (k + 1) (nI (k + 1)) (lessF σ B j y (ownR σ (nI j) B) k) (giveR σ B j y (ownR σ (nI j) B) k) ls (by omega) (show nI (k + 1) = nI (k + 1) from rfl) (show lessF σ B j y (ownR σ (nI j) B) k = lessF σ B j y (ownR σ (nI j) B) (k + 1) from lessF_n (giveM_n c_28)) (show giveR σ B j y (ownR σ (nI j) B) k = giveR σ B j y (ownR σ (nI j) B) (k + 1) from giveM_n c_28) (lv_sub hl [0, 1, 2, 3, 4, 5, 6] rfl) (by omega)
      · skip
        refine lv_aload_n hx hb dX3_givingOf_31 rfl (lv_at hl 4 rfl) ?_
        refine lv_iload_n hx hb dX3_givingOf_32 rfl (lv_at hl 5 rfl) ?_
        refine lv_iload hx hb dX3_givingOf_33 (lv_at hl 0 rfl) ?_
        refine lv_iload_n hx hb dX3_givingOf_35 rfl (lv_at hl 6 rfl) ?_
        refine z_callV (As := [.int (nI j), .int (nI k), .int (nI y)]) (rest := []) ⟨hx, hb, hml, hown, hts⟩ (c_X3_lostBy l dC dI cI cZ bd σ Hn B L C V M hI ξ tk sd kv hh j (by omega) (nI k) y (by omega) ⟨k, by omega, rfl, c_28⟩) (cwV 3 hts gX3_givingOf_X3_lostBy rfl rfl rfl (by decide +kernel) ⟨Nat.le_of_ble_eq_true rfl, Nat.le_of_ble_eq_true rfl⟩) hP hK (va_recv hK hP (ci := 3) (q0 := 0) rfl rfl) rfl hl.1 rfl (Nat.le_of_ble_eq_true rfl) ⟨Nat.zero_le _, Nat.zero_le _⟩ dX3_givingOf_36 (fun r hr => ?_)
        obtain rfl : r = lostR σ B j (nI k) y := hr
        refine lv_istore (lv' := [(7, .int (lostR σ B j (nI k) y)), (6, .int (nI k)), (5, .int (lessF σ B j y (ownR σ (nI j) B) k)), (4, .int (giveR σ B j y (ownR σ (nI j) B) k)), (3, .int (ownR σ (nI j) B)), (0, .ref (bd 0)), (1, .int (nI j)), (2, .int (nI y))]) hx hb dX3_givingOf_39 hl (by decide) rfl (fun ls hl => ?_)
        refine lv_iload hx hb dX3_givingOf_41 (lv_at hl 3 rfl) ?_
        refine lv_iconst (v := (-1)) hx hb dX3_givingOf_43 (by decide) ?_
        refine lv_icmp_eq (tgt := 74) hx hb dX3_givingOf_44 (by decide) (fun (c_44 : (giveR σ B j y (ownR σ (nI j) B) k) = (-1)) => ?_) (fun (c_44 : ¬ ((giveR σ B j y (ownR σ (nI j) B) k) = (-1))) => ?_)
        · skip
          refine lv_iconst (v := nI 1) hx hb dX3_givingOf_74 (by decide) ?_
          refine lv_goto (tgt := 79) hx hb dX3_givingOf_75 (by decide) ?_
          refine lv_istore (lv' := [(8, .int (nI 1)), (7, .int (lostR σ B j (nI k) y)), (6, .int (nI k)), (5, .int (lessF σ B j y (ownR σ (nI j) B) k)), (4, .int (giveR σ B j y (ownR σ (nI j) B) k)), (3, .int (ownR σ (nI j) B)), (0, .ref (bd 0)), (1, .int (nI j)), (2, .int (nI y))]) hx hb dX3_givingOf_79 hl (by decide) rfl (fun ls hl => ?_)
          refine lv_iload hx hb dX3_givingOf_81 (lv_at hl 0 rfl) ?_
          refine lv_if_eq (tgt := 91) hx hb dX3_givingOf_83 (by decide) (fun z9 => absurd z9 (by decide)) (fun _ => ?_)
          refine lv_iload hx hb dX3_givingOf_86 (lv_at hl 2 rfl) ?_
          refine lv_goto (tgt := 93) hx hb dX3_givingOf_88 (by decide) ?_
          refine lv_istore (lv' := [(4, .int (nI k)), (8, .int (nI 1)), (7, .int (lostR σ B j (nI k) y)), (6, .int (nI k)), (5, .int (lessF σ B j y (ownR σ (nI j) B) k)), (3, .int (ownR σ (nI j) B)), (0, .ref (bd 0)), (1, .int (nI j)), (2, .int (nI y))]) hx hb dX3_givingOf_93 hl (by decide) rfl (fun ls hl => ?_)
          refine lv_iload hx hb dX3_givingOf_95 (lv_at hl 1 rfl) ?_
          refine lv_if_eq (tgt := 105) hx hb dX3_givingOf_97 (by decide) (fun z9 => absurd z9 (by decide)) (fun _ => ?_)
          refine lv_iload hx hb dX3_givingOf_100 (lv_at hl 2 rfl) ?_
          refine lv_goto (tgt := 107) hx hb dX3_givingOf_102 (by decide) ?_
          refine lv_istore (lv' := [(5, .int (lostR σ B j (nI k) y)), (4, .int (nI k)), (8, .int (nI 1)), (7, .int (lostR σ B j (nI k) y)), (6, .int (nI k)), (3, .int (ownR σ (nI j) B)), (0, .ref (bd 0)), (1, .int (nI j)), (2, .int (nI y))]) hx hb dX3_givingOf_107 hl (by decide) rfl (fun ls hl => ?_)
          refine lv_iinc (v := nI (k + 1)) (lv' := [(6, .int (nI (k + 1))), (5, .int (lostR σ B j (nI k) y)), (4, .int (nI k)), (8, .int (nI 1)), (7, .int (lostR σ B j (nI k) y)), (3, .int (ownR σ (nI j) B)), (0, .ref (bd 0)), (1, .int (nI j)), (2, .int (nI y))]) hx hb dX3_givingOf_109 hl (k := 4) rfl (nI_1 _) (by decide) rfl (fun ls hl => ?_)
          refine lv_goto (tgt := 15) hx hb dX3_givingOf_112 (by decide) ?_
          exact ih15 (k + 1) (nI (k + 1)) (lostR σ B j (nI k) y) (nI k) ls (by omega) (show nI (k + 1) = nI (k + 1) from rfl) (show lostR σ B j (nI k) y = lessF σ B j y (ownR σ (nI j) B) (k + 1) from lessF_s (by omega) (giveM_s c_28 (Or.inl c_44))) (show nI k = giveR σ B j y (ownR σ (nI j) B) (k + 1) from giveM_s c_28 (Or.inl c_44)) (lv_sub hl [0, 1, 2, 5, 6, 7, 8] rfl) (by omega)
        · skip
          refine lv_iload hx hb dX3_givingOf_47 (lv_at hl 0 rfl) ?_
          refine lv_iload hx hb dX3_givingOf_49 (lv_at hl 2 rfl) ?_
          refine lv_icmp_lt (tgt := 74) hx hb dX3_givingOf_51 (by decide) (fun (c_51 : (lostR σ B j (nI k) y) < (lessF σ B j y (ownR σ (nI j) B) k)) => ?_) (fun (c_51 : ¬ ((lostR σ B j (nI k) y) < (lessF σ B j y (ownR σ (nI j) B) k))) => ?_)
          · skip
            refine lv_iconst (v := nI 1) hx hb dX3_givingOf_74 (by decide) ?_
            refine lv_goto (tgt := 79) hx hb dX3_givingOf_75 (by decide) ?_
            refine lv_istore (lv' := [(8, .int (nI 1)), (7, .int (lostR σ B j (nI k) y)), (6, .int (nI k)), (5, .int (lessF σ B j y (ownR σ (nI j) B) k)), (4, .int (giveR σ B j y (ownR σ (nI j) B) k)), (3, .int (ownR σ (nI j) B)), (0, .ref (bd 0)), (1, .int (nI j)), (2, .int (nI y))]) hx hb dX3_givingOf_79 hl (by decide) rfl (fun ls hl => ?_)
            refine lv_iload hx hb dX3_givingOf_81 (lv_at hl 0 rfl) ?_
            refine lv_if_eq (tgt := 91) hx hb dX3_givingOf_83 (by decide) (fun z9 => absurd z9 (by decide)) (fun _ => ?_)
            refine lv_iload hx hb dX3_givingOf_86 (lv_at hl 2 rfl) ?_
            refine lv_goto (tgt := 93) hx hb dX3_givingOf_88 (by decide) ?_
            refine lv_istore (lv' := [(4, .int (nI k)), (8, .int (nI 1)), (7, .int (lostR σ B j (nI k) y)), (6, .int (nI k)), (5, .int (lessF σ B j y (ownR σ (nI j) B) k)), (3, .int (ownR σ (nI j) B)), (0, .ref (bd 0)), (1, .int (nI j)), (2, .int (nI y))]) hx hb dX3_givingOf_93 hl (by decide) rfl (fun ls hl => ?_)
            refine lv_iload hx hb dX3_givingOf_95 (lv_at hl 1 rfl) ?_
            refine lv_if_eq (tgt := 105) hx hb dX3_givingOf_97 (by decide) (fun z9 => absurd z9 (by decide)) (fun _ => ?_)
            refine lv_iload hx hb dX3_givingOf_100 (lv_at hl 2 rfl) ?_
            refine lv_goto (tgt := 107) hx hb dX3_givingOf_102 (by decide) ?_
            refine lv_istore (lv' := [(5, .int (lostR σ B j (nI k) y)), (4, .int (nI k)), (8, .int (nI 1)), (7, .int (lostR σ B j (nI k) y)), (6, .int (nI k)), (3, .int (ownR σ (nI j) B)), (0, .ref (bd 0)), (1, .int (nI j)), (2, .int (nI y))]) hx hb dX3_givingOf_107 hl (by decide) rfl (fun ls hl => ?_)
            refine lv_iinc (v := nI (k + 1)) (lv' := [(6, .int (nI (k + 1))), (5, .int (lostR σ B j (nI k) y)), (4, .int (nI k)), (8, .int (nI 1)), (7, .int (lostR σ B j (nI k) y)), (3, .int (ownR σ (nI j) B)), (0, .ref (bd 0)), (1, .int (nI j)), (2, .int (nI y))]) hx hb dX3_givingOf_109 hl (k := 4) rfl (nI_1 _) (by decide) rfl (fun ls hl => ?_)
            refine lv_goto (tgt := 15) hx hb dX3_givingOf_112 (by decide) ?_
            exact ih15 (k + 1) (nI (k + 1)) (lostR σ B j (nI k) y) (nI k) ls (by omega) (show nI (k + 1) = nI (k + 1) from rfl) (show lostR σ B j (nI k) y = lessF σ B j y (ownR σ (nI j) B) (k + 1) from lessF_s (by omega) (giveM_s c_28 (Or.inr (Or.inl (by rw [← lessF_g c_44]; exact c_51))))) (show nI k = giveR σ B j y (ownR σ (nI j) B) (k + 1) from giveM_s c_28 (Or.inr (Or.inl (by rw [← lessF_g c_44]; exact c_51)))) (lv_sub hl [0, 1, 2, 5, 6, 7, 8] rfl) (by omega)
          · skip
            refine lv_iload hx hb dX3_givingOf_54 (lv_at hl 0 rfl) ?_
            refine lv_iload hx hb dX3_givingOf_56 (lv_at hl 2 rfl) ?_
            refine lv_icmp_ne (tgt := 78) hx hb dX3_givingOf_58 (by decide) (fun (c_58 : ¬ (lostR σ B j (nI k) y) = (lessF σ B j y (ownR σ (nI j) B) k)) => ?_) (fun (c_58 : (lostR σ B j (nI k) y) = (lessF σ B j y (ownR σ (nI j) B) k)) => ?_)
            · skip
              refine lv_iconst (v := nI 0) hx hb dX3_givingOf_78 (by decide) ?_
              refine lv_istore (lv' := [(8, .int (nI 0)), (7, .int (lostR σ B j (nI k) y)), (6, .int (nI k)), (5, .int (lessF σ B j y (ownR σ (nI j) B) k)), (4, .int (giveR σ B j y (ownR σ (nI j) B) k)), (3, .int (ownR σ (nI j) B)), (0, .ref (bd 0)), (1, .int (nI j)), (2, .int (nI y))]) hx hb dX3_givingOf_79 hl (by decide) rfl (fun ls hl => ?_)
              refine lv_iload hx hb dX3_givingOf_81 (lv_at hl 0 rfl) ?_
              refine lv_if_eq (tgt := 91) hx hb dX3_givingOf_83 (by decide) (fun _ => ?_) (fun z9 => absurd (by decide) z9)
              refine lv_iload hx hb dX3_givingOf_91 (lv_at hl 4 rfl) ?_
              refine lv_istore (lv' := [(4, .int (giveR σ B j y (ownR σ (nI j) B) k)), (8, .int (nI 0)), (7, .int (lostR σ B j (nI k) y)), (6, .int (nI k)), (5, .int (lessF σ B j y (ownR σ (nI j) B) k)), (3, .int (ownR σ (nI j) B)), (0, .ref (bd 0)), (1, .int (nI j)), (2, .int (nI y))]) hx hb dX3_givingOf_93 hl (by decide) rfl (fun ls hl => ?_)
              refine lv_iload hx hb dX3_givingOf_95 (lv_at hl 1 rfl) ?_
              refine lv_if_eq (tgt := 105) hx hb dX3_givingOf_97 (by decide) (fun _ => ?_) (fun z9 => absurd (by decide) z9)
              refine lv_iload hx hb dX3_givingOf_105 (lv_at hl 4 rfl) ?_
              refine lv_istore (lv' := [(5, .int (lessF σ B j y (ownR σ (nI j) B) k)), (4, .int (giveR σ B j y (ownR σ (nI j) B) k)), (8, .int (nI 0)), (7, .int (lostR σ B j (nI k) y)), (6, .int (nI k)), (3, .int (ownR σ (nI j) B)), (0, .ref (bd 0)), (1, .int (nI j)), (2, .int (nI y))]) hx hb dX3_givingOf_107 hl (by decide) rfl (fun ls hl => ?_)
              refine lv_iinc (v := nI (k + 1)) (lv' := [(6, .int (nI (k + 1))), (5, .int (lessF σ B j y (ownR σ (nI j) B) k)), (4, .int (giveR σ B j y (ownR σ (nI j) B) k)), (8, .int (nI 0)), (7, .int (lostR σ B j (nI k) y)), (3, .int (ownR σ (nI j) B)), (0, .ref (bd 0)), (1, .int (nI j)), (2, .int (nI y))]) hx hb dX3_givingOf_109 hl (k := 4) rfl (nI_1 _) (by decide) rfl (fun ls hl => ?_)
              refine lv_goto (tgt := 15) hx hb dX3_givingOf_112 (by decide) ?_
              exact ih15 (k + 1) (nI (k + 1)) (lessF σ B j y (ownR σ (nI j) B) k) (giveR σ B j y (ownR σ (nI j) B) k) ls (by omega) (show nI (k + 1) = nI (k + 1) from rfl) (show lessF σ B j y (ownR σ (nI j) B) k = lessF σ B j y (ownR σ (nI j) B) (k + 1) from lessF_n (giveM_k (fun z => z.elim c_44 (fun z => z.elim (fun z => c_51 (by rw [lessF_g c_44]; exact z)) (fun z => c_58 (by rw [lessF_g c_44]; exact z.1)))))) (show giveR σ B j y (ownR σ (nI j) B) k = giveR σ B j y (ownR σ (nI j) B) (k + 1) from giveM_k (fun z => z.elim c_44 (fun z => z.elim (fun z => c_51 (by rw [lessF_g c_44]; exact z)) (fun z => c_58 (by rw [lessF_g c_44]; exact z.1))))) (lv_sub hl [0, 1, 2, 5, 6, 7, 8] rfl) (by omega)
            · skip
              refine lv_iload hx hb dX3_givingOf_61 (lv_at hl 1 rfl) ?_
              refine z_callS (As := [.int (nI k)]) (rest := []) ⟨hx, hb, hml, hown, hts⟩ (c_X3_ones l k (by omega)) (va_cwS 1 hts gX3_givingOf_X3_ones rfl rfl rfl (by decide +kernel) ⟨Nat.le_of_ble_eq_true rfl, Nat.le_of_ble_eq_true rfl⟩) rfl hl.1 rfl (Nat.le_of_ble_eq_true rfl) ⟨Nat.zero_le _, Nat.zero_le _⟩ dX3_givingOf_63 (fun r hr => ?_)
              obtain rfl : r = nI (ones k) := hr
              refine lv_iload hx hb dX3_givingOf_66 (lv_at hl 3 rfl) ?_
              refine z_topi (v := nI (tn (giveR σ B j y (ownR σ (nI j) B) k))) ((has_tn (giveM_has c_44) (by omega)).1) ?_
              refine z_callS (As := [.int (nI (tn (giveR σ B j y (ownR σ (nI j) B) k)))]) (rest := [.int (nI (ones k))]) ⟨hx, hb, hml, hown, hts⟩ (c_X3_ones l (tn (giveR σ B j y (ownR σ (nI j) B) k)) (Nat.lt_of_lt_of_le (has_tn (giveM_has c_44) (by omega)).2 hk)) (va_cwS 1 hts gX3_givingOf_X3_ones rfl rfl rfl (by decide +kernel) ⟨Nat.le_of_ble_eq_true rfl, Nat.le_of_ble_eq_true rfl⟩) rfl hl.1 rfl (Nat.le_of_ble_eq_true rfl) ⟨Nat.zero_le _, Nat.zero_le _⟩ dX3_givingOf_68 (fun r hr => ?_)
              obtain rfl : r = nI (ones (tn (giveR σ B j y (ownR σ (nI j) B) k))) := hr
              refine z_icmp_ge (a := ones k) (b := ones (tn (giveR σ B j y (ownR σ (nI j) B) k))) (tgt := 78) hx hb (by omega) (by omega) dX3_givingOf_71 (by decide) (fun (c_71 : (ones (tn (giveR σ B j y (ownR σ (nI j) B) k))) ≤ (ones k)) => ?_) (fun (c_71 : (ones k) < (ones (tn (giveR σ B j y (ownR σ (nI j) B) k)))) => ?_)
              · skip
                refine lv_iconst (v := nI 0) hx hb dX3_givingOf_78 (by decide) ?_
                refine lv_istore (lv' := [(8, .int (nI 0)), (7, .int (lostR σ B j (nI k) y)), (6, .int (nI k)), (5, .int (lessF σ B j y (ownR σ (nI j) B) k)), (4, .int (giveR σ B j y (ownR σ (nI j) B) k)), (3, .int (ownR σ (nI j) B)), (0, .ref (bd 0)), (1, .int (nI j)), (2, .int (nI y))]) hx hb dX3_givingOf_79 hl (by decide) rfl (fun ls hl => ?_)
                refine lv_iload hx hb dX3_givingOf_81 (lv_at hl 0 rfl) ?_
                refine lv_if_eq (tgt := 91) hx hb dX3_givingOf_83 (by decide) (fun _ => ?_) (fun z9 => absurd (by decide) z9)
                refine lv_iload hx hb dX3_givingOf_91 (lv_at hl 4 rfl) ?_
                refine lv_istore (lv' := [(4, .int (giveR σ B j y (ownR σ (nI j) B) k)), (8, .int (nI 0)), (7, .int (lostR σ B j (nI k) y)), (6, .int (nI k)), (5, .int (lessF σ B j y (ownR σ (nI j) B) k)), (3, .int (ownR σ (nI j) B)), (0, .ref (bd 0)), (1, .int (nI j)), (2, .int (nI y))]) hx hb dX3_givingOf_93 hl (by decide) rfl (fun ls hl => ?_)
                refine lv_iload hx hb dX3_givingOf_95 (lv_at hl 1 rfl) ?_
                refine lv_if_eq (tgt := 105) hx hb dX3_givingOf_97 (by decide) (fun _ => ?_) (fun z9 => absurd (by decide) z9)
                refine lv_iload hx hb dX3_givingOf_105 (lv_at hl 4 rfl) ?_
                refine lv_istore (lv' := [(5, .int (lessF σ B j y (ownR σ (nI j) B) k)), (4, .int (giveR σ B j y (ownR σ (nI j) B) k)), (8, .int (nI 0)), (7, .int (lostR σ B j (nI k) y)), (6, .int (nI k)), (3, .int (ownR σ (nI j) B)), (0, .ref (bd 0)), (1, .int (nI j)), (2, .int (nI y))]) hx hb dX3_givingOf_107 hl (by decide) rfl (fun ls hl => ?_)
                refine lv_iinc (v := nI (k + 1)) (lv' := [(6, .int (nI (k + 1))), (5, .int (lessF σ B j y (ownR σ (nI j) B) k)), (4, .int (giveR σ B j y (ownR σ (nI j) B) k)), (8, .int (nI 0)), (7, .int (lostR σ B j (nI k) y)), (3, .int (ownR σ (nI j) B)), (0, .ref (bd 0)), (1, .int (nI j)), (2, .int (nI y))]) hx hb dX3_givingOf_109 hl (k := 4) rfl (nI_1 _) (by decide) rfl (fun ls hl => ?_)
                refine lv_goto (tgt := 15) hx hb dX3_givingOf_112 (by decide) ?_
                exact ih15 (k + 1) (nI (k + 1)) (lessF σ B j y (ownR σ (nI j) B) k) (giveR σ B j y (ownR σ (nI j) B) k) ls (by omega) (show nI (k + 1) = nI (k + 1) from rfl) (show lessF σ B j y (ownR σ (nI j) B) k = lessF σ B j y (ownR σ (nI j) B) (k + 1) from lessF_n (giveM_k (fun z => z.elim c_44 (fun z => z.elim (fun z => c_51 (by rw [lessF_g c_44]; exact z)) (fun z => absurd z.2 (by omega)))))) (show giveR σ B j y (ownR σ (nI j) B) k = giveR σ B j y (ownR σ (nI j) B) (k + 1) from giveM_k (fun z => z.elim c_44 (fun z => z.elim (fun z => c_51 (by rw [lessF_g c_44]; exact z)) (fun z => absurd z.2 (by omega))))) (lv_sub hl [0, 1, 2, 5, 6, 7, 8] rfl) (by omega)
              · skip
                refine lv_iconst (v := nI 1) hx hb dX3_givingOf_74 (by decide) ?_
                refine lv_goto (tgt := 79) hx hb dX3_givingOf_75 (by decide) ?_
                refine lv_istore (lv' := [(8, .int (nI 1)), (7, .int (lostR σ B j (nI k) y)), (6, .int (nI k)), (5, .int (lessF σ B j y (ownR σ (nI j) B) k)), (4, .int (giveR σ B j y (ownR σ (nI j) B) k)), (3, .int (ownR σ (nI j) B)), (0, .ref (bd 0)), (1, .int (nI j)), (2, .int (nI y))]) hx hb dX3_givingOf_79 hl (by decide) rfl (fun ls hl => ?_)
                refine lv_iload hx hb dX3_givingOf_81 (lv_at hl 0 rfl) ?_
                refine lv_if_eq (tgt := 91) hx hb dX3_givingOf_83 (by decide) (fun z9 => absurd z9 (by decide)) (fun _ => ?_)
                refine lv_iload hx hb dX3_givingOf_86 (lv_at hl 2 rfl) ?_
                refine lv_goto (tgt := 93) hx hb dX3_givingOf_88 (by decide) ?_
                refine lv_istore (lv' := [(4, .int (nI k)), (8, .int (nI 1)), (7, .int (lostR σ B j (nI k) y)), (6, .int (nI k)), (5, .int (lessF σ B j y (ownR σ (nI j) B) k)), (3, .int (ownR σ (nI j) B)), (0, .ref (bd 0)), (1, .int (nI j)), (2, .int (nI y))]) hx hb dX3_givingOf_93 hl (by decide) rfl (fun ls hl => ?_)
                refine lv_iload hx hb dX3_givingOf_95 (lv_at hl 1 rfl) ?_
                refine lv_if_eq (tgt := 105) hx hb dX3_givingOf_97 (by decide) (fun z9 => absurd z9 (by decide)) (fun _ => ?_)
                refine lv_iload hx hb dX3_givingOf_100 (lv_at hl 2 rfl) ?_
                refine lv_goto (tgt := 107) hx hb dX3_givingOf_102 (by decide) ?_
                refine lv_istore (lv' := [(5, .int (lostR σ B j (nI k) y)), (4, .int (nI k)), (8, .int (nI 1)), (7, .int (lostR σ B j (nI k) y)), (6, .int (nI k)), (3, .int (ownR σ (nI j) B)), (0, .ref (bd 0)), (1, .int (nI j)), (2, .int (nI y))]) hx hb dX3_givingOf_107 hl (by decide) rfl (fun ls hl => ?_)
                refine lv_iinc (v := nI (k + 1)) (lv' := [(6, .int (nI (k + 1))), (5, .int (lostR σ B j (nI k) y)), (4, .int (nI k)), (8, .int (nI 1)), (7, .int (lostR σ B j (nI k) y)), (3, .int (ownR σ (nI j) B)), (0, .ref (bd 0)), (1, .int (nI j)), (2, .int (nI y))]) hx hb dX3_givingOf_109 hl (k := 4) rfl (nI_1 _) (by decide) rfl (fun ls hl => ?_)
                refine lv_goto (tgt := 15) hx hb dX3_givingOf_112 (by decide) ?_
                exact ih15 (k + 1) (nI (k + 1)) (lostR σ B j (nI k) y) (nI k) ls (by omega) (show nI (k + 1) = nI (k + 1) from rfl) (show lostR σ B j (nI k) y = lessF σ B j y (ownR σ (nI j) B) (k + 1) from lessF_s (by omega) (giveM_s c_28 (Or.inr (Or.inr ⟨by rw [← lessF_g c_44]; exact c_58, c_71⟩)))) (show nI k = giveR σ B j y (ownR σ (nI j) B) (k + 1) from giveM_s c_28 (Or.inr (Or.inr ⟨by rw [← lessF_g c_44]; exact c_58, c_71⟩))) (lv_sub hl [0, 1, 2, 5, 6, 7, 8] rfl) (by omega)
abbrev rm_c_X3_giving : Room := { frames := 5, cells := 0, slots := 0, locals := 130 }
set_option maxHeartbeats 4000000 in
set_option maxRecDepth 100000 in
theorem c_X3_giving (l : Launch) (dC : Nat → ClassId) (dI : Nat → Nat → Nat) (cI cZ : ClassId) (bd : Nat → Nat) (σ : St) (Hn B L C V M : Nat) (hI : Inv σ Hn B L C V M) (ξ : Nat → Int32) (tk sd : Int32) (kv : Nat → Int32) (hh : Int64) (x y : Int32) : Met l yX3_giving wsX3_giving rm_c_X3_giving (va_Pc [.ref (bd 0), .int x, .int y] (fun U => va_P (dC, dI) vwCl ([bo bd σ ξ tk sd kv hh, (bd 2, .inl (cI, 16, .inl (menOf σ))), (bd 3, .inl (cI, 30, .inl (rowsOf σ)))]) U.heap ∧ va_K (dC, dI) vwCl (tyIZ cI cZ) U)) (vp_Si (fun r : Int32 => r = givingF σ Hn B x y)) 0 0 (fun _ => False) := by
  refine z_pureI (cc := cX3_giving) (maxL := 3) (av := [.ref (bd 0), .int x, .int y]) (by decide) rfl (Nat.le_of_ble_eq_true rfl) ?_
  intro p e s m below meth c Q ls hx hb hml hown hts ⟨hP, hK⟩ hq hl
  have hown : s.vm.findClass RX3 = some m.cls := hown
  have hin3 : ∀ w ∈ wsX30, w ∈ wsX3_giving := fun _ h => List.mem_cons_of_mem _ (List.mem_append_right _ h)
  have L82 := hts (.constantLong RX3 82 (4)) (List.mem_of_getElem? (i := 1) rfl)
  obtain ⟨⟨iL, iC, iV, iM, iH, iB, jL, jC, jV, jM, jH, jB⟩, iK, iDe, iAl, iHe, iWo, iO1, iO2⟩ := id hI
  have hl : lv_has ls 3 [(0, .ref (bd 0)), (1, .int x), (2, .int y)] := hl
  refine lv_aload_n hx hb dX3_giving_0 rfl (lv_at hl 0 rfl) ?_
  refine lv_iload_n hx hb dX3_giving_1 rfl (lv_at hl 1 rfl) ?_
  refine z_callV (As := [.int x]) (rest := []) ⟨hx, hb, hml, hown, hts⟩ (c_X3_isHolder l dC dI cI cZ bd σ Hn B L C V M hI ξ tk sd kv hh x) (cwV 1 hts gX3_giving_X3_isHolder rfl rfl rfl (by decide +kernel) ⟨Nat.le_of_ble_eq_true rfl, Nat.le_of_ble_eq_true rfl⟩) hP hK (va_recv hK hP (ci := 3) (q0 := 0) rfl rfl) rfl hl.1 rfl (Nat.le_of_ble_eq_true rfl) ⟨Nat.zero_le _, Nat.zero_le _⟩ dX3_giving_2 (fun r hr => ?_)
  obtain rfl : r = zb (hasP Hn x) := hr
  refine z_ifne_b (P := hasP Hn x) (tgt := 11) hx hb dX3_giving_5 (by decide) (fun (c_5 : hasP Hn x) => ?_) (fun (c_5 : ¬ (hasP Hn x)) => ?_)
  · skip
    obtain ⟨j, hj, rfl⟩ := c_5
    refine lv_iload_n hx hb dX3_giving_11 rfl (lv_at hl 2 rfl) ?_
    refine lv_i2l (v := y.toInt64) hx hb dX3_giving_12 (rfl) ?_
    refine lv_lconst (v := 1) hx hb dX3_giving_13 (by decide) ?_
    refine lv_ldc2 hx hb hown L82 dX3_giving_14 ?_
    refine z_callS (As := [.long y.toInt64, .long 1, .long 4]) (rest := []) ⟨hx, hb, hml, hown, hts⟩ (c_X3_in l y.toInt64 1 4) (va_cwS 3 hts gX3_giving_X3_in rfl rfl rfl (by decide +kernel) ⟨Nat.le_of_ble_eq_true rfl, Nat.le_of_ble_eq_true rfl⟩) rfl hl.1 rfl (Nat.le_of_ble_eq_true rfl) ⟨Nat.zero_le _, Nat.zero_le _⟩ dX3_giving_17 (fun r hr => ?_)
    obtain rfl : r = zb (1 ≤ y.toInt64 ∧ y.toInt64 ≤ 4) := hr
    refine z_topi (v := zb (inP 1 4 y)) (zb_iff (in64 (a := 1) (b := 4) (by decide) (by decide))) ?_
    refine z_ifne_b (P := inP 1 4 y) (tgt := 26) hx hb dX3_giving_20 (by decide) (fun (c_20 : inP 1 4 y) => ?_) (fun (c_20 : ¬ (inP 1 4 y)) => ?_)
    · skip
      obtain ⟨w, hw0, hw1, rfl⟩ := c_20
      refine lv_aload_n hx hb dX3_giving_26 rfl (lv_at hl 0 rfl) ?_
      refine lv_iload_n hx hb dX3_giving_27 rfl (lv_at hl 1 rfl) ?_
      refine z_callV (As := [.int (nI j)]) (rest := []) ⟨hx, hb, hml, hown, hts⟩ (c_X3_lives l dC dI cI cZ bd σ Hn B L C V M hI ξ tk sd kv hh j (by omega)) (cwV 1 hts gX3_giving_X3_lives rfl rfl rfl (by decide +kernel) ⟨Nat.le_of_ble_eq_true rfl, Nat.le_of_ble_eq_true rfl⟩) hP hK (va_recv hK hP (ci := 3) (q0 := 0) rfl rfl) rfl hl.1 rfl (Nat.le_of_ble_eq_true rfl) ⟨Nat.zero_le _, Nat.zero_le _⟩ dX3_giving_28 (fun r hr => ?_)
      obtain rfl : r = zb (σ 3 j = 1) := hr
      refine z_ifeq_b (P := σ 3 j = 1) (tgt := 43) hx hb dX3_giving_31 (by decide) (fun (c_31 : ¬ (σ 3 j = 1)) => ?_) (fun (c_31 : σ 3 j = 1) => ?_)
      · skip
        refine lv_bipush (v := (-103)) hx hb dX3_giving_43 (by decide) ?_
        exact hq (-103) 45 ls dX3_giving_45 (show (-103) = givingF σ Hn B (nI j) (nI w) from (by unfold givingF; rw [zif_t (hasP_nI hj), zif_t (inP_nI hw0 hw1), tn_nI (by omega), zif_f c_31]))
      · skip
        refine lv_aload_n hx hb dX3_giving_34 rfl (lv_at hl 0 rfl) ?_
        refine lv_iload_n hx hb dX3_giving_35 rfl (lv_at hl 1 rfl) ?_
        refine lv_iload_n hx hb dX3_giving_36 rfl (lv_at hl 2 rfl) ?_
        refine z_callV (As := [.int (nI j), .int (nI w)]) (rest := []) ⟨hx, hb, hml, hown, hts⟩ (c_X3_givingOf l dC dI cI cZ bd σ Hn B L C V M hI ξ tk sd kv hh j (by omega) w (by omega)) (cwV 2 hts gX3_giving_X3_givingOf rfl rfl rfl (by decide +kernel) ⟨Nat.le_of_ble_eq_true rfl, Nat.le_of_ble_eq_true rfl⟩) hP hK (va_recv hK hP (ci := 3) (q0 := 0) rfl rfl) rfl hl.1 rfl (Nat.le_of_ble_eq_true rfl) ⟨Nat.zero_le _, Nat.zero_le _⟩ dX3_giving_37 (fun r hr => ?_)
        obtain rfl : r = giveF σ B j w := hr
        refine lv_goto (tgt := 45) hx hb dX3_giving_40 (by decide) ?_
        exact hq (giveF σ B j w) 45 ls dX3_giving_45 (show (giveF σ B j w) = givingF σ Hn B (nI j) (nI w) from (givingF_in hj jH hw0 hw1 c_31).symm)
    · skip
      refine lv_bipush (v := (-102)) hx hb dX3_giving_23 (by decide) ?_
      exact hq (-102) 25 ls dX3_giving_25 (show (-102) = givingF σ Hn B (nI j) y from (by unfold givingF; rw [zif_t (hasP_nI hj), zif_f c_20]))
  · skip
    refine lv_bipush (v := (-101)) hx hb dX3_giving_8 (by decide) ?_
    exact hq (-101) 10 ls dX3_giving_10 (show (-101) = givingF σ Hn B x y from (by unfold givingF; rw [zif_f c_5]))
abbrev rm_c_X3_meanOf : Room := { frames := 5, cells := 0, slots := 0, locals := 130 }
set_option maxHeartbeats 4000000 in
set_option maxRecDepth 100000 in
theorem c_X3_meanOf (l : Launch) (dC : Nat → ClassId) (dI : Nat → Nat → Nat) (cI cZ : ClassId) (bd : Nat → Nat) (σ : St) (Hn B L C V M : Nat) (hI : Inv σ Hn B L C V M) (ξ : Nat → Int32) (tk sd : Int32) (kv : Nat → Int32) (hh : Int64) (j : Nat) (hj : j < Hn) (y : Nat) (hy : y ≤ 4) (o : Nat) (ho : o ≤ 1) : Met l yX3_meanOf wsX3_meanOf rm_c_X3_meanOf (va_Pc [.ref (bd 0), .int (nI j), .int (nI y), .int (nI o)] (fun U => va_P (dC, dI) vwCl ([bo bd σ ξ tk sd kv hh, (bd 2, .inl (cI, 16, .inl (menOf σ))), (bd 3, .inl (cI, 30, .inl (rowsOf σ)))]) U.heap ∧ va_K (dC, dI) vwCl (tyIZ cI cZ) U)) (vp_Si (fun r : Int32 => r = meanN σ B j y o)) 0 0 (fun _ => False) := by
  refine z_pureI (cc := cX3_meanOf) (maxL := 6) (av := [.ref (bd 0), .int (nI j), .int (nI y), .int (nI o)]) (by decide) rfl (Nat.le_of_ble_eq_true rfl) ?_
  intro p e s m below meth c Q ls hx hb hml hown hts ⟨hP, hK⟩ hq hl
  have hown : s.vm.findClass RX3 = some m.cls := hown
  have hin3 : ∀ w ∈ wsX30, w ∈ wsX3_meanOf := fun _ h => List.mem_cons_of_mem _ (List.mem_append_right _ h)
  obtain ⟨⟨iL, iC, iV, iM, iH, iB, jL, jC, jV, jM, jH, jB⟩, iK, iDe, iAl, iHe, iWo, iO1, iO2⟩ := id hI
  have hl : lv_has ls 6 [(0, .ref (bd 0)), (1, .int (nI j)), (2, .int (nI y)), (3, .int (nI o))] := hl
  obtain ⟨u, hu30, hul⟩ := lost_4 hI (j := j) (by omega) (giveF σ B j y) (y := y) (by omega)
  have hpw : 10 ^ y ≤ 10 ^ 4 := Nat.pow_le_pow_right (by decide) hy
  have hp0 : 0 < 10 ^ y := Nat.pow_pos (by decide)
  have hmu : meanUp σ B j y = u := by unfold meanUp; rw [hul, tn_nI (by omega)]
  refine lv_iconst (v := nI 1) hx hb dX3_meanOf_0 (by decide) ?_
  refine lv_istore (lv' := [(4, .int (nI 1)), (0, .ref (bd 0)), (1, .int (nI j)), (2, .int (nI y)), (3, .int (nI o))]) hx hb dX3_meanOf_1 hl (by decide) rfl (fun ls hl => ?_)
  refine lv_iconst (v := nI 0) hx hb dX3_meanOf_3 (by decide) ?_
  refine lv_istore (lv' := [(5, .int (nI 0)), (4, .int (nI 1)), (0, .ref (bd 0)), (1, .int (nI j)), (2, .int (nI y)), (3, .int (nI o))]) hx hb dX3_meanOf_4 hl (by decide) rfl (fun ls hl => ?_)
  suffices hlp6 : ∀ (nf : Nat) (k : Nat) (x6_5 : Int32) (x6_4 : Int32) (ls : Array Slot), (k ≤ y) → x6_5 = nI k → x6_4 = nI (10 ^ k) → lv_has ls 6 [(5, .int x6_5), (4, .int x6_4), (0, .ref (bd 0)), (1, .int (nI j)), (2, .int (nI y)), (3, .int (nI o))] → y - k < nf → W p l e rm_c_X3_meanOf s m ([.ref (bd 0), .int (nI j), .int (nI y), .int (nI o)] : List Value).toArray below meth c s.heap [] 0 0 Q (F0 m 6 ls []) by
    exact hlp6 ((y - 0) + 1) 0 (nI 0) (nI 1) ls (by omega) rfl rfl (lv_sub hl [0, 1, 2, 3, 4, 5] rfl) (by omega)
  intro nf
  induction nf with
  | zero => intro k x6_5 x6_4 ls hk e6_5 e6_4 hl hn; omega
  | succ nf ih6 =>
    intro k x6_5 x6_4 ls hk e6_5 e6_4 hl hn
    subst e6_5
    subst e6_4
    refine lv_iload hx hb dX3_meanOf_6 (lv_at hl 0 rfl) ?_
    refine lv_iload_n hx hb dX3_meanOf_8 rfl (lv_at hl 4 rfl) ?_
    refine z_icmp_ge (a := k) (b := y) (tgt := 25) hx hb (by omega) (by omega) dX3_meanOf_9 (by decide) (fun (c_9 : y ≤ k) => ?_) (fun (c_9 : k < y) => ?_)
    · skip
      refine lv_aload_n hx hb dX3_meanOf_25 rfl (lv_at hl 2 rfl) ?_
      refine lv_iload_n hx hb dX3_meanOf_26 rfl (lv_at hl 3 rfl) ?_
      refine lv_aload_n hx hb dX3_meanOf_27 rfl (lv_at hl 2 rfl) ?_
      refine lv_iload_n hx hb dX3_meanOf_28 rfl (lv_at hl 3 rfl) ?_
      refine lv_iload_n hx hb dX3_meanOf_29 rfl (lv_at hl 4 rfl) ?_
      refine z_callV (As := [.int (nI j), .int (nI y)]) (rest := [.int (nI j), .ref (bd 0)]) ⟨hx, hb, hml, hown, hts⟩ (c_X3_givingOf l dC dI cI cZ bd σ Hn B L C V M hI ξ tk sd kv hh j (by omega) y (by omega)) (cwV 2 hts gX3_meanOf_X3_givingOf rfl rfl rfl (by decide +kernel) ⟨Nat.le_of_ble_eq_true rfl, Nat.le_of_ble_eq_true rfl⟩) hP hK (va_recv hK hP (ci := 3) (q0 := 0) rfl rfl) rfl hl.1 rfl (Nat.le_of_ble_eq_true rfl) ⟨Nat.zero_le _, Nat.zero_le _⟩ dX3_meanOf_30 (fun r hr => ?_)
      obtain rfl : r = giveF σ B j y := hr
      refine lv_iload_n hx hb dX3_meanOf_33 rfl (lv_at hl 4 rfl) ?_
      refine z_callV (As := [.int (nI j), .int (giveF σ B j y), .int (nI y)]) (rest := []) ⟨hx, hb, hml, hown, hts⟩ (c_X3_lostBy l dC dI cI cZ bd σ Hn B L C V M hI ξ tk sd kv hh j (by omega) (giveF σ B j y) y (by omega) giveF_in) (cwV 3 hts gX3_meanOf_X3_lostBy rfl rfl rfl (by decide +kernel) ⟨Nat.le_of_ble_eq_true rfl, Nat.le_of_ble_eq_true rfl⟩) hP hK (va_recv hK hP (ci := 3) (q0 := 0) rfl rfl) rfl hl.1 rfl (Nat.le_of_ble_eq_true rfl) ⟨Nat.zero_le _, Nat.zero_le _⟩ dX3_meanOf_34 (fun r hr => ?_)
      obtain rfl : r = lostR σ B j (giveF σ B j y) y := hr
      refine z_topi (v := nI u) (hul) ?_
      refine lv_iload hx hb dX3_meanOf_37 (lv_at hl 1 rfl) ?_
      refine z_topi (v := nI (10 ^ y)) (by rw [show k = y by omega]) ?_
      refine lv_iload_n hx hb dX3_meanOf_39 rfl (lv_at hl 5 rfl) ?_
      refine z_callS (As := [.int (nI u), .int (nI (10 ^ y)), .int (nI o)]) (rest := []) ⟨hx, hb, hml, hown, hts⟩ (c_X3_term l u (10 ^ y) o (by omega) (by omega) (by omega) (by omega)) (va_cwS 3 hts gX3_meanOf_X3_term rfl rfl rfl (by decide +kernel) ⟨Nat.le_of_ble_eq_true rfl, Nat.le_of_ble_eq_true rfl⟩) rfl hl.1 rfl (Nat.le_of_ble_eq_true rfl) ⟨Nat.zero_le _, Nat.zero_le _⟩ dX3_meanOf_40 (fun r hr => ?_)
      obtain rfl : r = nI ((if o = 0 then u else (10 ^ y)) / Nat.gcd u (10 ^ y)) := hr
      exact hq (nI ((if o = 0 then u else (10 ^ y)) / Nat.gcd u (10 ^ y))) 43 ls dX3_meanOf_43 (show (nI ((if o = 0 then u else (10 ^ y)) / Nat.gcd u (10 ^ y))) = meanN σ B j y o from (by unfold meanN; rw [hmu]))
    · skip
      refine lv_iload hx hb dX3_meanOf_12 (lv_at hl 1 rfl) ?_
      refine lv_bipush (v := nI 10) hx hb dX3_meanOf_14 (by decide) ?_
      refine z_imul (v := nI ((10 ^ k) * 10)) hx hb dX3_meanOf_16 (pk_mul _ _) ?_
      refine lv_istore (lv' := [(4, .int (nI ((10 ^ k) * 10))), (5, .int (nI k)), (0, .ref (bd 0)), (1, .int (nI j)), (2, .int (nI y)), (3, .int (nI o))]) hx hb dX3_meanOf_17 hl (by decide) rfl (fun ls hl => ?_)
      refine lv_iinc (v := nI (k + 1)) (lv' := [(5, .int (nI (k + 1))), (4, .int (nI ((10 ^ k) * 10))), (0, .ref (bd 0)), (1, .int (nI j)), (2, .int (nI y)), (3, .int (nI o))]) hx hb dX3_meanOf_19 hl (k := 1) rfl (nI_1 _) (by decide) rfl (fun ls hl => ?_)
      refine lv_goto (tgt := 6) hx hb dX3_meanOf_22 (by decide) ?_
      exact ih6 (k + 1) (nI (k + 1)) (nI ((10 ^ k) * 10)) ls (by omega) (show nI (k + 1) = nI (k + 1) from rfl) (show nI ((10 ^ k) * 10) = nI (10 ^ (k + 1)) from rfl) (lv_sub hl [0, 1, 2, 3, 4, 5] rfl) (by omega)
abbrev rm_c_X3_mean : Room := { frames := 6, cells := 0, slots := 0, locals := 155 }
set_option maxHeartbeats 4000000 in
set_option maxRecDepth 100000 in
theorem c_X3_mean (l : Launch) (dC : Nat → ClassId) (dI : Nat → Nat → Nat) (cI cZ : ClassId) (bd : Nat → Nat) (σ : St) (Hn B L C V M : Nat) (hI : Inv σ Hn B L C V M) (ξ : Nat → Int32) (tk sd : Int32) (kv : Nat → Int32) (hh : Int64) (x y q : Int32) : Met l yX3_mean wsX3_mean rm_c_X3_mean (va_Pc [.ref (bd 0), .int x, .int y, .int q] (fun U => va_P (dC, dI) vwCl ([bo bd σ ξ tk sd kv hh, (bd 2, .inl (cI, 16, .inl (menOf σ))), (bd 3, .inl (cI, 30, .inl (rowsOf σ)))]) U.heap ∧ va_K (dC, dI) vwCl (tyIZ cI cZ) U)) (vp_Si (fun r : Int32 => r = meanF σ Hn B x y q)) 0 0 (fun _ => False) := by
  refine z_pureI (cc := cX3_mean) (maxL := 4) (av := [.ref (bd 0), .int x, .int y, .int q]) (by decide) rfl (Nat.le_of_ble_eq_true rfl) ?_
  intro p e s m below meth c Q ls hx hb hml hown hts ⟨hP, hK⟩ hq hl
  have hown : s.vm.findClass RX3 = some m.cls := hown
  have hin3 : ∀ w ∈ wsX30, w ∈ wsX3_mean := fun _ h => List.mem_cons_of_mem _ (List.mem_append_right _ h)
  have L82 := hts (.constantLong RX3 82 (4)) (List.mem_of_getElem? (i := 1) rfl)
  obtain ⟨⟨iL, iC, iV, iM, iH, iB, jL, jC, jV, jM, jH, jB⟩, iK, iDe, iAl, iHe, iWo, iO1, iO2⟩ := id hI
  have hl : lv_has ls 4 [(0, .ref (bd 0)), (1, .int x), (2, .int y), (3, .int q)] := hl
  refine lv_aload_n hx hb dX3_mean_0 rfl (lv_at hl 0 rfl) ?_
  refine lv_iload_n hx hb dX3_mean_1 rfl (lv_at hl 1 rfl) ?_
  refine z_callV (As := [.int x]) (rest := []) ⟨hx, hb, hml, hown, hts⟩ (c_X3_isHolder l dC dI cI cZ bd σ Hn B L C V M hI ξ tk sd kv hh x) (cwV 1 hts gX3_mean_X3_isHolder rfl rfl rfl (by decide +kernel) ⟨Nat.le_of_ble_eq_true rfl, Nat.le_of_ble_eq_true rfl⟩) hP hK (va_recv hK hP (ci := 3) (q0 := 0) rfl rfl) rfl hl.1 rfl (Nat.le_of_ble_eq_true rfl) ⟨Nat.zero_le _, Nat.zero_le _⟩ dX3_mean_2 (fun r hr => ?_)
  obtain rfl : r = zb (hasP Hn x) := hr
  refine z_ifne_b (P := hasP Hn x) (tgt := 11) hx hb dX3_mean_5 (by decide) (fun (c_5 : hasP Hn x) => ?_) (fun (c_5 : ¬ (hasP Hn x)) => ?_)
  · skip
    obtain ⟨j, hj, rfl⟩ := c_5
    refine lv_iload_n hx hb dX3_mean_11 rfl (lv_at hl 2 rfl) ?_
    refine lv_i2l (v := y.toInt64) hx hb dX3_mean_12 (rfl) ?_
    refine lv_lconst (v := 1) hx hb dX3_mean_13 (by decide) ?_
    refine lv_ldc2 hx hb hown L82 dX3_mean_14 ?_
    refine z_callS (As := [.long y.toInt64, .long 1, .long 4]) (rest := []) ⟨hx, hb, hml, hown, hts⟩ (c_X3_in l y.toInt64 1 4) (va_cwS 3 hts gX3_mean_X3_in rfl rfl rfl (by decide +kernel) ⟨Nat.le_of_ble_eq_true rfl, Nat.le_of_ble_eq_true rfl⟩) rfl hl.1 rfl (Nat.le_of_ble_eq_true rfl) ⟨Nat.zero_le _, Nat.zero_le _⟩ dX3_mean_17 (fun r hr => ?_)
    obtain rfl : r = zb (1 ≤ y.toInt64 ∧ y.toInt64 ≤ 4) := hr
    refine z_topi (v := zb (inP 1 4 y)) (zb_iff (in64 (a := 1) (b := 4) (by decide) (by decide))) ?_
    refine z_ifeq_b (P := inP 1 4 y) (tgt := 33) hx hb dX3_mean_20 (by decide) (fun (c_20 : ¬ (inP 1 4 y)) => ?_) (fun (c_20 : inP 1 4 y) => ?_)
    · skip
      refine lv_bipush (v := (-102)) hx hb dX3_mean_33 (by decide) ?_
      exact hq (-102) 35 ls dX3_mean_35 (show (-102) = meanF σ Hn B (nI j) y q from (by unfold meanF; rw [zif_t (hasP_nI hj), zif_f (fun z => c_20 z.1)]))
    · skip
      obtain ⟨w, hw0, hw1, rfl⟩ := c_20
      refine lv_iload_n hx hb dX3_mean_23 rfl (lv_at hl 3 rfl) ?_
      refine lv_i2l (v := q.toInt64) hx hb dX3_mean_24 (rfl) ?_
      refine lv_lconst (v := 0) hx hb dX3_mean_25 (by decide) ?_
      refine lv_lconst (v := 1) hx hb dX3_mean_26 (by decide) ?_
      refine z_callS (As := [.long q.toInt64, .long 0, .long 1]) (rest := []) ⟨hx, hb, hml, hown, hts⟩ (c_X3_in l q.toInt64 0 1) (va_cwS 3 hts gX3_mean_X3_in rfl rfl rfl (by decide +kernel) ⟨Nat.le_of_ble_eq_true rfl, Nat.le_of_ble_eq_true rfl⟩) rfl hl.1 rfl (Nat.le_of_ble_eq_true rfl) ⟨Nat.zero_le _, Nat.zero_le _⟩ dX3_mean_27 (fun r hr => ?_)
      obtain rfl : r = zb (0 ≤ q.toInt64 ∧ q.toInt64 ≤ 1) := hr
      refine z_topi (v := zb (inP 0 1 q)) (zb_iff (in64 (a := 0) (b := 1) (by decide) (by decide))) ?_
      refine z_ifne_b (P := inP 0 1 q) (tgt := 36) hx hb dX3_mean_30 (by decide) (fun (c_30 : inP 0 1 q) => ?_) (fun (c_30 : ¬ (inP 0 1 q)) => ?_)
      · skip
        obtain ⟨o, -, ho1, rfl⟩ := c_30
        refine lv_aload_n hx hb dX3_mean_36 rfl (lv_at hl 0 rfl) ?_
        refine lv_iload_n hx hb dX3_mean_37 rfl (lv_at hl 1 rfl) ?_
        refine z_callV (As := [.int (nI j)]) (rest := []) ⟨hx, hb, hml, hown, hts⟩ (c_X3_lives l dC dI cI cZ bd σ Hn B L C V M hI ξ tk sd kv hh j (by omega)) (cwV 1 hts gX3_mean_X3_lives rfl rfl rfl (by decide +kernel) ⟨Nat.le_of_ble_eq_true rfl, Nat.le_of_ble_eq_true rfl⟩) hP hK (va_recv hK hP (ci := 3) (q0 := 0) rfl rfl) rfl hl.1 rfl (Nat.le_of_ble_eq_true rfl) ⟨Nat.zero_le _, Nat.zero_le _⟩ dX3_mean_38 (fun r hr => ?_)
        obtain rfl : r = zb (σ 3 j = 1) := hr
        refine z_ifeq_b (P := σ 3 j = 1) (tgt := 54) hx hb dX3_mean_41 (by decide) (fun (c_41 : ¬ (σ 3 j = 1)) => ?_) (fun (c_41 : σ 3 j = 1) => ?_)
        · skip
          refine lv_bipush (v := (-103)) hx hb dX3_mean_54 (by decide) ?_
          exact hq (-103) 56 ls dX3_mean_56 (show (-103) = meanF σ Hn B (nI j) (nI w) (nI o) from (by unfold meanF; rw [zif_t (hasP_nI hj), zif_t ⟨inP_nI hw0 hw1, inP_nI (Nat.zero_le _) ho1⟩, tn_nI (by omega), zif_f c_41]))
        · skip
          refine lv_aload_n hx hb dX3_mean_44 rfl (lv_at hl 0 rfl) ?_
          refine lv_iload_n hx hb dX3_mean_45 rfl (lv_at hl 1 rfl) ?_
          refine lv_iload_n hx hb dX3_mean_46 rfl (lv_at hl 2 rfl) ?_
          refine lv_iload_n hx hb dX3_mean_47 rfl (lv_at hl 3 rfl) ?_
          refine z_callV (As := [.int (nI j), .int (nI w), .int (nI o)]) (rest := []) ⟨hx, hb, hml, hown, hts⟩ (c_X3_meanOf l dC dI cI cZ bd σ Hn B L C V M hI ξ tk sd kv hh j (by omega) w (by omega) o (by omega)) (cwV 3 hts gX3_mean_X3_meanOf rfl rfl rfl (by decide +kernel) ⟨Nat.le_of_ble_eq_true rfl, Nat.le_of_ble_eq_true rfl⟩) hP hK (va_recv hK hP (ci := 3) (q0 := 0) rfl rfl) rfl hl.1 rfl (Nat.le_of_ble_eq_true rfl) ⟨Nat.zero_le _, Nat.zero_le _⟩ dX3_mean_48 (fun r hr => ?_)
          obtain rfl : r = meanN σ B j w o := hr
          refine lv_goto (tgt := 56) hx hb dX3_mean_51 (by decide) ?_
          exact hq (meanN σ B j w o) 56 ls dX3_mean_56 (show (meanN σ B j w o) = meanF σ Hn B (nI j) (nI w) (nI o) from (meanF_in hj jH hw0 hw1 ho1 c_41).symm)
      · skip
        refine lv_bipush (v := (-102)) hx hb dX3_mean_33 (by decide) ?_
        exact hq (-102) 35 ls dX3_mean_35 (show (-102) = meanF σ Hn B (nI j) (nI w) q from (by unfold meanF; rw [zif_t (hasP_nI hj), zif_f (fun z => c_30 z.2)]))
  · skip
    refine lv_bipush (v := (-101)) hx hb dX3_mean_8 (by decide) ?_
    exact hq (-101) 10 ls dX3_mean_10 (show (-101) = meanF σ Hn B x y q from (by unfold meanF; rw [zif_f c_5]))
abbrev rm_c_X3_isRolledBy : Room := { frames := 2, cells := 0, slots := 0, locals := 50 }
set_option maxHeartbeats 4000000 in
set_option maxRecDepth 100000 in
theorem c_X3_isRolledBy (l : Launch) (dC : Nat → ClassId) (dI : Nat → Nat → Nat) (cI cZ : ClassId) (bd : Nat → Nat) (σ : St) (Hn B L C V M : Nat) (hI : Inv σ Hn B L C V M) (ξ : Nat → Int32) (tk sd : Int32) (kv : Nat → Int32) (hh : Int64) (j : Nat) (hj : j < Hn) : Met l yX3_isRolledBy wsX3_isRolledBy rm_c_X3_isRolledBy (va_Pc [.ref (bd 0), .int (nI j)] (fun U => va_P (dC, dI) vwCl ([bo bd σ ξ tk sd kv hh, (bd 2, .inl (cI, 16, .inl (menOf σ))), (bd 3, .inl (cI, 30, .inl (rowsOf σ)))]) U.heap ∧ va_K (dC, dI) vwCl (tyIZ cI cZ) U)) (vp_Si (fun r : Int32 => r = zb (toldF σ B j))) 0 0 (fun _ => False) := by
  refine z_pureZ (cc := cX3_isRolledBy) (maxL := 5) (av := [.ref (bd 0), .int (nI j)]) (by decide) rfl (Nat.le_of_ble_eq_true rfl) ?_
  intro p e s m below meth c Q ls hx hb hml hown hts ⟨hP, hK⟩ hq hl
  have hown : s.vm.findClass RX3 = some m.cls := hown
  have hin3 : ∀ w ∈ wsX30, w ∈ wsX3_isRolledBy := fun _ h => List.mem_cons_of_mem _ (List.mem_append_right _ h)
  have L104 := hts (.fieldLink RX3 104 "BestBeastModel" "yearNow" "I") (List.mem_of_getElem? (i := 1) rfl)
  have L79 := hts (.fieldLink RX3 79 "BestBeastModel" "beasts" "I") (List.mem_of_getElem? (i := 2) rfl)
  have L16 := hts (.fieldLink RX3 16 "BestBeastModel" "rows" "[I") (List.mem_of_getElem? (i := 3) rfl)
  obtain ⟨⟨iL, iC, iV, iM, iH, iB, jL, jC, jV, jM, jH, jB⟩, iK, iDe, iAl, iHe, iWo, iO1, iO2⟩ := id hI
  have hl : lv_has ls 5 [(0, .ref (bd 0)), (1, .int (nI j))] := hl
  refine lv_aload_n hx hb dX3_isRolledBy_0 rfl (lv_at hl 0 rfl) ?_
  refine lv_iload_n hx hb dX3_isRolledBy_1 rfl (lv_at hl 1 rfl) ?_
  refine lv_aload_n hx hb dX3_isRolledBy_2 rfl (lv_at hl 0 rfl) ?_
  refine lv_iload_n hx hb dX3_isRolledBy_3 rfl (lv_at hl 1 rfl) ?_
  refine lv_aload_n hx hb dX3_isRolledBy_4 rfl (lv_at hl 0 rfl) ?_
  refine va_get (D := (dC, dI)) (ci := 3) (v := .int (σ 0 6)) (C := RX3) (T := TX3) (N := 24) hx hb hts hin3 hown hK hP 0 rfl rfl 7 (by decide) L104 (fun _ h9 => h9) rfl dX3_isRolledBy_5 ?_
  refine z_callV (As := [.int (nI j), .int (σ 0 6)]) (rest := [.int (nI j), .ref (bd 0)]) ⟨hx, hb, hml, hown, hts⟩ (c_X3_heldBits l dC dI cI cZ bd σ Hn B L C V M hI ξ tk sd kv hh (nI j) (σ 0 6) (nI_m1 (by omega))) (cwV 2 hts gX3_isRolledBy_X3_heldBits rfl rfl rfl (by decide +kernel) ⟨Nat.le_of_ble_eq_true rfl, Nat.le_of_ble_eq_true rfl⟩) hP hK (va_recv hK hP (ci := 3) (q0 := 0) rfl rfl) rfl hl.1 rfl (Nat.le_of_ble_eq_true rfl) ⟨Nat.zero_le _, Nat.zero_le _⟩ dX3_isRolledBy_8 (fun r hr => ?_)
  obtain rfl : r = heldR σ (nI j) (σ 0 6) (ownR σ (nI j) B) B := hr
  refine z_topi (v := heldF σ B (nI j)) (rfl) ?_
  refine z_callV (As := [.int (nI j), .int (heldF σ B (nI j))]) (rest := []) ⟨hx, hb, hml, hown, hts⟩ (c_X3_takenOf l dC dI cI cZ bd σ Hn B L C V M hI ξ tk sd kv hh j (by omega) (heldF σ B (nI j))) (cwV 2 hts gX3_isRolledBy_X3_takenOf rfl rfl rfl (by decide +kernel) ⟨Nat.le_of_ble_eq_true rfl, Nat.le_of_ble_eq_true rfl⟩) hP hK (va_recv hK hP (ci := 3) (q0 := 0) rfl rfl) rfl hl.1 rfl (Nat.le_of_ble_eq_true rfl) ⟨Nat.zero_le _, Nat.zero_le _⟩ dX3_isRolledBy_11 (fun r hr => ?_)
  obtain rfl : r = takenF σ B j (heldF σ B (nI j)) := hr
  refine lv_istore_n (lv' := [(2, .int (takenF σ B j (heldF σ B (nI j)))), (0, .ref (bd 0)), (1, .int (nI j))]) hx hb dX3_isRolledBy_14 rfl hl (by decide) rfl (fun ls hl => ?_)
  refine lv_iconst (v := nI 1) hx hb dX3_isRolledBy_15 (by decide) ?_
  refine lv_istore_n (lv' := [(3, .int (nI 1)), (2, .int (takenF σ B j (heldF σ B (nI j)))), (0, .ref (bd 0)), (1, .int (nI j))]) hx hb dX3_isRolledBy_16 rfl hl (by decide) rfl (fun ls hl => ?_)
  refine lv_iconst (v := nI 0) hx hb dX3_isRolledBy_17 (by decide) ?_
  refine lv_istore (lv' := [(4, .int (nI 0)), (3, .int (nI 1)), (2, .int (takenF σ B j (heldF σ B (nI j)))), (0, .ref (bd 0)), (1, .int (nI j))]) hx hb dX3_isRolledBy_18 hl (by decide) rfl (fun ls hl => ?_)
  suffices hlp20 : ∀ (nf : Nat) (k : Nat) (x20_4 : Int32) (x20_3 : Int32) (ls : Array Slot), (k ≤ B) → x20_4 = nI k → x20_3 = zb (toldR σ (takenF σ B j (heldF σ B (nI j))) k) → lv_has ls 5 [(4, .int x20_4), (3, .int x20_3), (2, .int (takenF σ B j (heldF σ B (nI j)))), (0, .ref (bd 0)), (1, .int (nI j))] → B - k < nf → W p l e rm_c_X3_isRolledBy s m ([.ref (bd 0), .int (nI j)] : List Value).toArray below meth c s.heap [] 0 0 Q (F0 m 20 ls []) by
    exact hlp20 ((B - 0) + 1) 0 (nI 0) (nI 1) ls (by omega) rfl ((zb_t (fun i hi => absurd hi (Nat.not_lt_zero i))).symm) (lv_sub hl [0, 1, 2, 3, 4] rfl) (by omega)
  intro nf
  induction nf with
  | zero => intro k x20_4 x20_3 ls hk e20_4 e20_3 hl hn; omega
  | succ nf ih20 =>
    intro k x20_4 x20_3 ls hk e20_4 e20_3 hl hn
    subst e20_4
    subst e20_3
    refine lv_iload hx hb dX3_isRolledBy_20 (lv_at hl 0 rfl) ?_
    refine lv_aload_n hx hb dX3_isRolledBy_22 rfl (lv_at hl 3 rfl) ?_
    refine va_get (D := (dC, dI)) (ci := 3) (v := .int (nI B)) (C := RX3) (T := TX3) (N := 24) hx hb hts hin3 hown hK hP 0 rfl rfl 10 (by decide) L79 (fun _ h9 => h9) (congrArg (fun z => some (Value.int z)) iB) dX3_isRolledBy_23 ?_
    refine z_icmp_ge (a := k) (b := B) (tgt := 80) hx hb (by omega) (by omega) dX3_isRolledBy_26 (by decide) (fun (c_26 : B ≤ k) => ?_) (fun (c_26 : k < B) => ?_)
    · skip
      refine lv_iload_n hx hb dX3_isRolledBy_80 rfl (lv_at hl 1 rfl) ?_
      exact hq (zb (toldR σ (takenF σ B j (heldF σ B (nI j))) k)) 81 ls dX3_isRolledBy_81 (zb_cases _) (show (zb (toldR σ (takenF σ B j (heldF σ B (nI j))) k)) = zb (toldF σ B j) from (by unfold toldF; rw [show B = k by omega]))
    · skip
      refine lv_iload_n hx hb dX3_isRolledBy_29 rfl (lv_at hl 1 rfl) ?_
      refine z_ifeq_b (P := toldR σ (takenF σ B j (heldF σ B (nI j))) k) (tgt := 72) hx hb dX3_isRolledBy_30 (by decide) (fun (c_30 : ¬ (toldR σ (takenF σ B j (heldF σ B (nI j))) k)) => ?_) (fun (c_30 : toldR σ (takenF σ B j (heldF σ B (nI j))) k) => ?_)
      · skip
        refine lv_iconst (v := nI 0) hx hb dX3_isRolledBy_72 (by decide) ?_
        refine lv_istore_n (lv' := [(3, .int (nI 0)), (4, .int (nI k)), (2, .int (takenF σ B j (heldF σ B (nI j)))), (0, .ref (bd 0)), (1, .int (nI j))]) hx hb dX3_isRolledBy_73 rfl hl (by decide) rfl (fun ls hl => ?_)
        refine lv_iinc (v := nI (k + 1)) (lv' := [(4, .int (nI (k + 1))), (3, .int (nI 0)), (2, .int (takenF σ B j (heldF σ B (nI j)))), (0, .ref (bd 0)), (1, .int (nI j))]) hx hb dX3_isRolledBy_74 hl (k := 1) rfl (nI_1 _) (by decide) rfl (fun ls hl => ?_)
        refine lv_goto (tgt := 20) hx hb dX3_isRolledBy_77 (by decide) ?_
        exact ih20 (k + 1) (nI (k + 1)) (nI 0) ls (by omega) (show nI (k + 1) = nI (k + 1) from rfl) (show nI 0 = zb (toldR σ (takenF σ B j (heldF σ B (nI j))) (k + 1)) from (zb_f (fun z => c_30 (fun i hi => z i (by omega)))).symm) (lv_sub hl [0, 1, 2, 3, 4] rfl) (by omega)
      · skip
        refine lv_aload_n hx hb dX3_isRolledBy_33 rfl (lv_at hl 3 rfl) ?_
        refine va_get (D := (dC, dI)) (ci := 3) (v := .ref (bd 3)) (C := RX3) (T := TX3) (N := 24) hx hb hts hin3 hown hK hP 0 rfl rfl 12 (by decide) L16 (fun _ h9 => h9) rfl dX3_isRolledBy_34 ?_
        refine lv_iconst (v := nI 5) hx hb dX3_isRolledBy_37 (by decide) ?_
        refine lv_iload hx hb dX3_isRolledBy_38 (lv_at hl 0 rfl) ?_
        refine z_imul (v := nI (5 * k)) hx hb dX3_isRolledBy_40 (pk_mul _ _) ?_
        refine lv_iconst (v := nI 4) hx hb dX3_isRolledBy_41 (by decide) ?_
        refine z_iadd (v := nI ((5 * k) + 4)) hx hb dX3_isRolledBy_42 (nI_add _ _) ?_
        refine z_iald (D := (dC, dI)) hx hb hK hP 2 0 rfl rfl ((5 * k) + 4) (rfl) (by omega) (by omega) (v := σ 9 k) (rowsR σ k 4 (by decide)) dX3_isRolledBy_43 ?_
        refine lv_iconst (v := (-1)) hx hb dX3_isRolledBy_44 (by decide) ?_
        refine lv_icmp_eq (tgt := 68) hx hb dX3_isRolledBy_45 (by decide) (fun (c_45 : (σ 9 k) = (-1)) => ?_) (fun (c_45 : ¬ ((σ 9 k) = (-1))) => ?_)
        · skip
          refine lv_iconst (v := nI 1) hx hb dX3_isRolledBy_68 (by decide) ?_
          refine lv_goto (tgt := 73) hx hb dX3_isRolledBy_69 (by decide) ?_
          refine lv_istore_n (lv' := [(3, .int (nI 1)), (4, .int (nI k)), (2, .int (takenF σ B j (heldF σ B (nI j)))), (0, .ref (bd 0)), (1, .int (nI j))]) hx hb dX3_isRolledBy_73 rfl hl (by decide) rfl (fun ls hl => ?_)
          refine lv_iinc (v := nI (k + 1)) (lv' := [(4, .int (nI (k + 1))), (3, .int (nI 1)), (2, .int (takenF σ B j (heldF σ B (nI j)))), (0, .ref (bd 0)), (1, .int (nI j))]) hx hb dX3_isRolledBy_74 hl (k := 1) rfl (nI_1 _) (by decide) rfl (fun ls hl => ?_)
          refine lv_goto (tgt := 20) hx hb dX3_isRolledBy_77 (by decide) ?_
          exact ih20 (k + 1) (nI (k + 1)) (nI 1) ls (by omega) (show nI (k + 1) = nI (k + 1) from rfl) (show nI 1 = zb (toldR σ (takenF σ B j (heldF σ B (nI j))) (k + 1)) from (zb_t (toldR_s c_30 (Or.inl c_45))).symm) (lv_sub hl [0, 1, 2, 3, 4] rfl) (by omega)
        · skip
          refine lv_aload_n hx hb dX3_isRolledBy_48 rfl (lv_at hl 3 rfl) ?_
          refine va_get (D := (dC, dI)) (ci := 3) (v := .ref (bd 3)) (C := RX3) (T := TX3) (N := 24) hx hb hts hin3 hown hK hP 0 rfl rfl 12 (by decide) L16 (fun _ h9 => h9) rfl dX3_isRolledBy_49 ?_
          refine lv_iconst (v := nI 5) hx hb dX3_isRolledBy_52 (by decide) ?_
          refine lv_iload hx hb dX3_isRolledBy_53 (lv_at hl 0 rfl) ?_
          refine z_imul (v := nI (5 * k)) hx hb dX3_isRolledBy_55 (pk_mul _ _) ?_
          refine lv_iconst (v := nI 4) hx hb dX3_isRolledBy_56 (by decide) ?_
          refine z_iadd (v := nI ((5 * k) + 4)) hx hb dX3_isRolledBy_57 (nI_add _ _) ?_
          refine z_iald (D := (dC, dI)) hx hb hK hP 2 0 rfl rfl ((5 * k) + 4) (rfl) (by omega) (by omega) (v := σ 9 k) (rowsR σ k 4 (by decide)) dX3_isRolledBy_58 ?_
          refine lv_iload_n hx hb dX3_isRolledBy_59 rfl (lv_at hl 2 rfl) ?_
          refine lv_iload hx hb dX3_isRolledBy_60 (lv_at hl 0 rfl) ?_
          refine z_ishr (v := (takenF σ B j (heldF σ B (nI j))) >>> (nI k &&& 31)) hx hb dX3_isRolledBy_62 (rfl) ?_
          refine lv_iconst (v := nI 1) hx hb dX3_isRolledBy_63 (by decide) ?_
          refine z_iand (v := zin (takenF σ B j (heldF σ B (nI j))) k) hx hb dX3_isRolledBy_64 (rfl) ?_
          refine lv_icmp_ne (tgt := 72) hx hb dX3_isRolledBy_65 (by decide) (fun (c_65 : ¬ (σ 9 k) = (zin (takenF σ B j (heldF σ B (nI j))) k)) => ?_) (fun (c_65 : (σ 9 k) = (zin (takenF σ B j (heldF σ B (nI j))) k)) => ?_)
          · skip
            refine lv_iconst (v := nI 0) hx hb dX3_isRolledBy_72 (by decide) ?_
            refine lv_istore_n (lv' := [(3, .int (nI 0)), (4, .int (nI k)), (2, .int (takenF σ B j (heldF σ B (nI j)))), (0, .ref (bd 0)), (1, .int (nI j))]) hx hb dX3_isRolledBy_73 rfl hl (by decide) rfl (fun ls hl => ?_)
            refine lv_iinc (v := nI (k + 1)) (lv' := [(4, .int (nI (k + 1))), (3, .int (nI 0)), (2, .int (takenF σ B j (heldF σ B (nI j)))), (0, .ref (bd 0)), (1, .int (nI j))]) hx hb dX3_isRolledBy_74 hl (k := 1) rfl (nI_1 _) (by decide) rfl (fun ls hl => ?_)
            refine lv_goto (tgt := 20) hx hb dX3_isRolledBy_77 (by decide) ?_
            exact ih20 (k + 1) (nI (k + 1)) (nI 0) ls (by omega) (show nI (k + 1) = nI (k + 1) from rfl) (show nI 0 = zb (toldR σ (takenF σ B j (heldF σ B (nI j))) (k + 1)) from (zb_f (fun z => (z k (by omega)).elim c_45 c_65)).symm) (lv_sub hl [0, 1, 2, 3, 4] rfl) (by omega)
          · skip
            refine lv_iconst (v := nI 1) hx hb dX3_isRolledBy_68 (by decide) ?_
            refine lv_goto (tgt := 73) hx hb dX3_isRolledBy_69 (by decide) ?_
            refine lv_istore_n (lv' := [(3, .int (nI 1)), (4, .int (nI k)), (2, .int (takenF σ B j (heldF σ B (nI j)))), (0, .ref (bd 0)), (1, .int (nI j))]) hx hb dX3_isRolledBy_73 rfl hl (by decide) rfl (fun ls hl => ?_)
            refine lv_iinc (v := nI (k + 1)) (lv' := [(4, .int (nI (k + 1))), (3, .int (nI 1)), (2, .int (takenF σ B j (heldF σ B (nI j)))), (0, .ref (bd 0)), (1, .int (nI j))]) hx hb dX3_isRolledBy_74 hl (k := 1) rfl (nI_1 _) (by decide) rfl (fun ls hl => ?_)
            refine lv_goto (tgt := 20) hx hb dX3_isRolledBy_77 (by decide) ?_
            exact ih20 (k + 1) (nI (k + 1)) (nI 1) ls (by omega) (show nI (k + 1) = nI (k + 1) from rfl) (show nI 1 = zb (toldR σ (takenF σ B j (heldF σ B (nI j))) (k + 1)) from (zb_t (toldR_s c_30 (Or.inr c_65))).symm) (lv_sub hl [0, 1, 2, 3, 4] rfl) (by omega)
abbrev rm_c_X3_livingMany : Room := { frames := 0, cells := 0, slots := 0, locals := 0 }
set_option maxHeartbeats 4000000 in
set_option maxRecDepth 100000 in
theorem c_X3_livingMany (l : Launch) (dC : Nat → ClassId) (dI : Nat → Nat → Nat) (cI cZ : ClassId) (bd : Nat → Nat) (σ : St) (Hn B L C V M : Nat) (hI : Inv σ Hn B L C V M) (ξ : Nat → Int32) (tk sd : Int32) (kv : Nat → Int32) (hh : Int64)  : Met l yX3_livingMany wsX3_livingMany rm_c_X3_livingMany (va_Pc [.ref (bd 0)] (fun U => va_P (dC, dI) vwCl ([bo bd σ ξ tk sd kv hh, (bd 2, .inl (cI, 16, .inl (menOf σ))), (bd 3, .inl (cI, 30, .inl (rowsOf σ)))]) U.heap ∧ va_K (dC, dI) vwCl (tyIZ cI cZ) U)) (vp_Si (fun r : Int32 => r = aliveR σ Hn)) 0 0 (fun _ => False) := by
  refine z_pureI (cc := cX3_livingMany) (maxL := 3) (av := [.ref (bd 0)]) (by decide) rfl (Nat.le_of_ble_eq_true rfl) ?_
  intro p e s m below meth c Q ls hx hb hml hown hts ⟨hP, hK⟩ hq hl
  have hown : s.vm.findClass RX3 = some m.cls := hown
  have hin3 : ∀ w ∈ wsX30, w ∈ wsX3_livingMany := fun _ h => List.mem_cons_of_mem _ (List.mem_append_right _ h)
  have L76 := hts (.fieldLink RX3 76 "BestBeastModel" "holders" "I") (List.mem_of_getElem? (i := 1) rfl)
  have L13 := hts (.fieldLink RX3 13 "BestBeastModel" "men" "[I") (List.mem_of_getElem? (i := 2) rfl)
  obtain ⟨⟨iL, iC, iV, iM, iH, iB, jL, jC, jV, jM, jH, jB⟩, iK, iDe, iAl, iHe, iWo, iO1, iO2⟩ := id hI
  have hl : lv_has ls 3 [(0, .ref (bd 0))] := hl
  refine lv_iconst (v := nI 0) hx hb dX3_livingMany_0 (by decide) ?_
  refine lv_istore_n (lv' := [(1, .int (nI 0)), (0, .ref (bd 0))]) hx hb dX3_livingMany_1 rfl hl (by decide) rfl (fun ls hl => ?_)
  refine lv_iconst (v := nI 0) hx hb dX3_livingMany_2 (by decide) ?_
  refine lv_istore_n (lv' := [(2, .int (nI 0)), (1, .int (nI 0)), (0, .ref (bd 0))]) hx hb dX3_livingMany_3 rfl hl (by decide) rfl (fun ls hl => ?_)
  suffices hlp4 : ∀ (nf : Nat) (k : Nat) (x4_2 : Int32) (x4_1 : Int32) (ls : Array Slot), (k ≤ Hn) → x4_2 = nI k → x4_1 = aliveR σ k → lv_has ls 3 [(2, .int x4_2), (1, .int x4_1), (0, .ref (bd 0))] → Hn - k < nf → W p l e rm_c_X3_livingMany s m ([.ref (bd 0)] : List Value).toArray below meth c s.heap [] 0 0 Q (F0 m 4 ls []) by
    exact hlp4 ((Hn - 0) + 1) 0 (nI 0) (nI 0) ls (by omega) rfl rfl (lv_sub hl [0, 1, 2] rfl) (by omega)
  intro nf
  induction nf with
  | zero => intro k x4_2 x4_1 ls hk e4_2 e4_1 hl hn; omega
  | succ nf ih4 =>
    intro k x4_2 x4_1 ls hk e4_2 e4_1 hl hn
    subst e4_2
    subst e4_1
    refine lv_iload_n hx hb dX3_livingMany_4 rfl (lv_at hl 0 rfl) ?_
    refine lv_aload_n hx hb dX3_livingMany_5 rfl (lv_at hl 2 rfl) ?_
    refine va_get (D := (dC, dI)) (ci := 3) (v := .int (nI Hn)) (C := RX3) (T := TX3) (N := 24) hx hb hts hin3 hown hK hP 0 rfl rfl 9 (by decide) L76 (fun _ h9 => h9) (congrArg (fun z => some (Value.int z)) iH) dX3_livingMany_6 ?_
    refine z_icmp_ge (a := k) (b := Hn) (tgt := 31) hx hb (by omega) (by omega) dX3_livingMany_9 (by decide) (fun (c_9 : Hn ≤ k) => ?_) (fun (c_9 : k < Hn) => ?_)
    · skip
      refine lv_iload_n hx hb dX3_livingMany_31 rfl (lv_at hl 1 rfl) ?_
      exact hq (aliveR σ k) 32 ls dX3_livingMany_32 (show (aliveR σ k) = aliveR σ Hn from (by rw [show Hn = k by omega]))
    · skip
      refine lv_iload_n hx hb dX3_livingMany_12 rfl (lv_at hl 1 rfl) ?_
      refine lv_aload_n hx hb dX3_livingMany_13 rfl (lv_at hl 2 rfl) ?_
      refine va_get (D := (dC, dI)) (ci := 3) (v := .ref (bd 2)) (C := RX3) (T := TX3) (N := 24) hx hb hts hin3 hown hK hP 0 rfl rfl 11 (by decide) L13 (fun _ h9 => h9) rfl dX3_livingMany_14 ?_
      refine lv_iconst (v := nI 4) hx hb dX3_livingMany_17 (by decide) ?_
      refine lv_iload_n hx hb dX3_livingMany_18 rfl (lv_at hl 0 rfl) ?_
      refine z_imul (v := nI (4 * k)) hx hb dX3_livingMany_19 (pk_mul _ _) ?_
      refine lv_iconst (v := nI 2) hx hb dX3_livingMany_20 (by decide) ?_
      refine z_iadd (v := nI ((4 * k) + 2)) hx hb dX3_livingMany_21 (nI_add _ _) ?_
      refine z_iald (D := (dC, dI)) hx hb hK hP 1 0 rfl rfl ((4 * k) + 2) (rfl) (by omega) (by omega) (v := σ 3 k) (menR σ k 2 (by decide)) dX3_livingMany_22 ?_
      refine z_iadd (v := (aliveR σ k) + (σ 3 k)) hx hb dX3_livingMany_23 (rfl) ?_
      refine lv_istore_n (lv' := [(1, .int ((aliveR σ k) + (σ 3 k))), (2, .int (nI k)), (0, .ref (bd 0))]) hx hb dX3_livingMany_24 rfl hl (by decide) rfl (fun ls hl => ?_)
      refine lv_iinc (v := nI (k + 1)) (lv' := [(2, .int (nI (k + 1))), (1, .int ((aliveR σ k) + (σ 3 k))), (0, .ref (bd 0))]) hx hb dX3_livingMany_25 hl (k := 1) rfl (nI_1 _) (by decide) rfl (fun ls hl => ?_)
      refine lv_goto (tgt := 4) hx hb dX3_livingMany_28 (by decide) ?_
      exact ih4 (k + 1) (nI (k + 1)) ((aliveR σ k) + (σ 3 k)) ls (by omega) (show nI (k + 1) = nI (k + 1) from rfl) (show (aliveR σ k) + (σ 3 k) = aliveR σ (k + 1) from rfl) (lv_sub hl [0, 1, 2] rfl) (by omega)
abbrev rm_c_X3_thereMany : Room := { frames := 0, cells := 0, slots := 0, locals := 0 }
set_option maxHeartbeats 4000000 in
set_option maxRecDepth 100000 in
theorem c_X3_thereMany (l : Launch) (dC : Nat → ClassId) (dI : Nat → Nat → Nat) (cI cZ : ClassId) (bd : Nat → Nat) (σ : St) (Hn B L C V M : Nat) (hI : Inv σ Hn B L C V M) (ξ : Nat → Int32) (tk sd : Int32) (kv : Nat → Int32) (hh : Int64)  : Met l yX3_thereMany wsX3_thereMany rm_c_X3_thereMany (va_Pc [.ref (bd 0)] (fun U => va_P (dC, dI) vwCl ([bo bd σ ξ tk sd kv hh, (bd 2, .inl (cI, 16, .inl (menOf σ))), (bd 3, .inl (cI, 30, .inl (rowsOf σ)))]) U.heap ∧ va_K (dC, dI) vwCl (tyIZ cI cZ) U)) (vp_Si (fun r : Int32 => r = thereR σ B)) 0 0 (fun _ => False) := by
  refine z_pureI (cc := cX3_thereMany) (maxL := 3) (av := [.ref (bd 0)]) (by decide) rfl (Nat.le_of_ble_eq_true rfl) ?_
  intro p e s m below meth c Q ls hx hb hml hown hts ⟨hP, hK⟩ hq hl
  have hown : s.vm.findClass RX3 = some m.cls := hown
  have hin3 : ∀ w ∈ wsX30, w ∈ wsX3_thereMany := fun _ h => List.mem_cons_of_mem _ (List.mem_append_right _ h)
  have L79 := hts (.fieldLink RX3 79 "BestBeastModel" "beasts" "I") (List.mem_of_getElem? (i := 1) rfl)
  have L16 := hts (.fieldLink RX3 16 "BestBeastModel" "rows" "[I") (List.mem_of_getElem? (i := 2) rfl)
  obtain ⟨⟨iL, iC, iV, iM, iH, iB, jL, jC, jV, jM, jH, jB⟩, iK, iDe, iAl, iHe, iWo, iO1, iO2⟩ := id hI
  have hl : lv_has ls 3 [(0, .ref (bd 0))] := hl
  refine lv_iconst (v := nI 0) hx hb dX3_thereMany_0 (by decide) ?_
  refine lv_istore_n (lv' := [(1, .int (nI 0)), (0, .ref (bd 0))]) hx hb dX3_thereMany_1 rfl hl (by decide) rfl (fun ls hl => ?_)
  refine lv_iconst (v := nI 0) hx hb dX3_thereMany_2 (by decide) ?_
  refine lv_istore_n (lv' := [(2, .int (nI 0)), (1, .int (nI 0)), (0, .ref (bd 0))]) hx hb dX3_thereMany_3 rfl hl (by decide) rfl (fun ls hl => ?_)
  suffices hlp4 : ∀ (nf : Nat) (k : Nat) (x4_2 : Int32) (x4_1 : Int32) (ls : Array Slot), (k ≤ B) → x4_2 = nI k → x4_1 = thereR σ k → lv_has ls 3 [(2, .int x4_2), (1, .int x4_1), (0, .ref (bd 0))] → B - k < nf → W p l e rm_c_X3_thereMany s m ([.ref (bd 0)] : List Value).toArray below meth c s.heap [] 0 0 Q (F0 m 4 ls []) by
    exact hlp4 ((B - 0) + 1) 0 (nI 0) (nI 0) ls (by omega) rfl rfl (lv_sub hl [0, 1, 2] rfl) (by omega)
  intro nf
  induction nf with
  | zero => intro k x4_2 x4_1 ls hk e4_2 e4_1 hl hn; omega
  | succ nf ih4 =>
    intro k x4_2 x4_1 ls hk e4_2 e4_1 hl hn
    subst e4_2
    subst e4_1
    refine lv_iload_n hx hb dX3_thereMany_4 rfl (lv_at hl 0 rfl) ?_
    refine lv_aload_n hx hb dX3_thereMany_5 rfl (lv_at hl 2 rfl) ?_
    refine va_get (D := (dC, dI)) (ci := 3) (v := .int (nI B)) (C := RX3) (T := TX3) (N := 24) hx hb hts hin3 hown hK hP 0 rfl rfl 10 (by decide) L79 (fun _ h9 => h9) (congrArg (fun z => some (Value.int z)) iB) dX3_thereMany_6 ?_
    refine z_icmp_ge (a := k) (b := B) (tgt := 40) hx hb (by omega) (by omega) dX3_thereMany_9 (by decide) (fun (c_9 : B ≤ k) => ?_) (fun (c_9 : k < B) => ?_)
    · skip
      refine lv_iload_n hx hb dX3_thereMany_40 rfl (lv_at hl 1 rfl) ?_
      exact hq (thereR σ k) 41 ls dX3_thereMany_41 (show (thereR σ k) = thereR σ B from (by rw [show B = k by omega]))
    · skip
      refine lv_iload_n hx hb dX3_thereMany_12 rfl (lv_at hl 1 rfl) ?_
      refine lv_aload_n hx hb dX3_thereMany_13 rfl (lv_at hl 2 rfl) ?_
      refine va_get (D := (dC, dI)) (ci := 3) (v := .ref (bd 3)) (C := RX3) (T := TX3) (N := 24) hx hb hts hin3 hown hK hP 0 rfl rfl 12 (by decide) L16 (fun _ h9 => h9) rfl dX3_thereMany_14 ?_
      refine lv_iconst (v := nI 5) hx hb dX3_thereMany_17 (by decide) ?_
      refine lv_iload_n hx hb dX3_thereMany_18 rfl (lv_at hl 0 rfl) ?_
      refine z_imul (v := nI (5 * k)) hx hb dX3_thereMany_19 (pk_mul _ _) ?_
      refine lv_iconst (v := nI 1) hx hb dX3_thereMany_20 (by decide) ?_
      refine z_iadd (v := nI ((5 * k) + 1)) hx hb dX3_thereMany_21 (nI_add _ _) ?_
      refine z_iald (D := (dC, dI)) hx hb hK hP 2 0 rfl rfl ((5 * k) + 1) (rfl) (by omega) (by omega) (v := σ 6 k) (rowsR σ k 1 (by decide)) dX3_thereMany_22 ?_
      refine lv_iconst (v := (-1)) hx hb dX3_thereMany_23 (by decide) ?_
      refine lv_icmp_ne (tgt := 31) hx hb dX3_thereMany_24 (by decide) (fun (c_24 : ¬ (σ 6 k) = (-1)) => ?_) (fun (c_24 : (σ 6 k) = (-1)) => ?_)
      · skip
        refine lv_iconst (v := nI 1) hx hb dX3_thereMany_31 (by decide) ?_
        refine z_iadd (v := (thereR σ k) + (nI 1)) hx hb dX3_thereMany_32 (rfl) ?_
        refine lv_istore_n (lv' := [(1, .int ((thereR σ k) + (nI 1))), (2, .int (nI k)), (0, .ref (bd 0))]) hx hb dX3_thereMany_33 rfl hl (by decide) rfl (fun ls hl => ?_)
        refine lv_iinc (v := nI (k + 1)) (lv' := [(2, .int (nI (k + 1))), (1, .int ((thereR σ k) + (nI 1))), (0, .ref (bd 0))]) hx hb dX3_thereMany_34 hl (k := 1) rfl (nI_1 _) (by decide) rfl (fun ls hl => ?_)
        refine lv_goto (tgt := 4) hx hb dX3_thereMany_37 (by decide) ?_
        exact ih4 (k + 1) (nI (k + 1)) ((thereR σ k) + (nI 1)) ls (by omega) (show nI (k + 1) = nI (k + 1) from rfl) (show (thereR σ k) + (nI 1) = thereR σ (k + 1) from thereR_y c_24) (lv_sub hl [0, 1, 2] rfl) (by omega)
      · skip
        refine lv_iconst (v := nI 0) hx hb dX3_thereMany_27 (by decide) ?_
        refine lv_goto (tgt := 32) hx hb dX3_thereMany_28 (by decide) ?_
        refine z_iadd (v := (thereR σ k) + (nI 0)) hx hb dX3_thereMany_32 (rfl) ?_
        refine lv_istore_n (lv' := [(1, .int ((thereR σ k) + (nI 0))), (2, .int (nI k)), (0, .ref (bd 0))]) hx hb dX3_thereMany_33 rfl hl (by decide) rfl (fun ls hl => ?_)
        refine lv_iinc (v := nI (k + 1)) (lv' := [(2, .int (nI (k + 1))), (1, .int ((thereR σ k) + (nI 0))), (0, .ref (bd 0))]) hx hb dX3_thereMany_34 hl (k := 1) rfl (nI_1 _) (by decide) rfl (fun ls hl => ?_)
        refine lv_goto (tgt := 4) hx hb dX3_thereMany_37 (by decide) ?_
        exact ih4 (k + 1) (nI (k + 1)) ((thereR σ k) + (nI 0)) ls (by omega) (show nI (k + 1) = nI (k + 1) from rfl) (show (thereR σ k) + (nI 0) = thereR σ (k + 1) from thereM_n c_24) (lv_sub hl [0, 1, 2] rfl) (by omega)
abbrev rm_c_X3_countOf : Room := { frames := 1, cells := 0, slots := 0, locals := 22 }
set_option maxHeartbeats 4000000 in
set_option maxRecDepth 100000 in
theorem c_X3_countOf (l : Launch) (dC : Nat → ClassId) (dI : Nat → Nat → Nat) (cI cZ : ClassId) (bd : Nat → Nat) (σ : St) (Hn B L C V M : Nat) (hI : Inv σ Hn B L C V M) (ξ : Nat → Int32) (tk sd : Int32) (kv : Nat → Int32) (hh : Int64) (what : Int32) (htk : tk = σ 0 7) : Met l yX3_countOf wsX3_countOf rm_c_X3_countOf (va_Pc [.ref (bd 0), .int what] (fun U => va_P (dC, dI) vwCl ([bo bd σ ξ tk sd kv hh, (bd 2, .inl (cI, 16, .inl (menOf σ))), (bd 3, .inl (cI, 30, .inl (rowsOf σ)))]) U.heap ∧ va_K (dC, dI) vwCl (tyIZ cI cZ) U)) (vp_Si (fun r : Int32 => r = countF σ Hn B ξ what)) 0 0 (fun _ => False) := by
  refine z_pureI (cc := cX3_countOf) (maxL := 2) (av := [.ref (bd 0), .int what]) (by decide) rfl (Nat.le_of_ble_eq_true rfl) ?_
  intro p e s m below meth c Q ls hx hb hml hown hts ⟨hP, hK⟩ hq hl
  have hown : s.vm.findClass RX3 = some m.cls := hown
  have hin3 : ∀ w ∈ wsX30, w ∈ wsX3_countOf := fun _ h => List.mem_cons_of_mem _ (List.mem_append_right _ h)
  have L34 := hts (.fieldLink RX3 34 "BestBeastModel" "lord" "I") (List.mem_of_getElem? (i := 1) rfl)
  have L38 := hts (.fieldLink RX3 38 "BestBeastModel" "church" "I") (List.mem_of_getElem? (i := 2) rfl)
  have L41 := hts (.fieldLink RX3 41 "BestBeastModel" "voidYears" "I") (List.mem_of_getElem? (i := 3) rfl)
  have L70 := hts (.fieldLink RX3 70 "BestBeastModel" "least" "I") (List.mem_of_getElem? (i := 4) rfl)
  have L76 := hts (.fieldLink RX3 76 "BestBeastModel" "holders" "I") (List.mem_of_getElem? (i := 5) rfl)
  have L79 := hts (.fieldLink RX3 79 "BestBeastModel" "beasts" "I") (List.mem_of_getElem? (i := 6) rfl)
  have L104 := hts (.fieldLink RX3 104 "BestBeastModel" "yearNow" "I") (List.mem_of_getElem? (i := 7) rfl)
  have L142 := hts (.fieldLink RX3 142 "BestBeastModel" "taken" "I") (List.mem_of_getElem? (i := 8) rfl)
  have L53 := hts (.fieldLink RX3 53 "BestBeastModel" "pageMany" "I") (List.mem_of_getElem? (i := 9) rfl)
  have L73 := hts (.fieldLink RX3 73 "BestBeastModel" "lawsRead" "I") (List.mem_of_getElem? (i := 10) rfl)
  obtain ⟨⟨iL, iC, iV, iM, iH, iB, jL, jC, jV, jM, jH, jB⟩, iK, iDe, iAl, iHe, iWo, iO1, iO2⟩ := id hI
  have hl : lv_has ls 2 [(0, .ref (bd 0)), (1, .int what)] := hl
  refine lv_iload_n hx hb dX3_countOf_0 rfl (lv_at hl 1 rfl) ?_
  by_cases hw1 : hasP 12 what
  · obtain ⟨jj, hjj, rfl⟩ := hw1
    match jj, hjj with
    | 0, _ =>
      refine lv_tableIn (off := 63) (tgt := 64) hx hb dX3_countOf_1 (by decide +kernel) (by decide +kernel) (by decide +kernel) (by decide) ?_
      refine lv_aload_n hx hb dX3_countOf_64 rfl (lv_at hl 0 rfl) ?_
      refine va_get (D := (dC, dI)) (ci := 3) (v := .int (nI L)) (C := RX3) (T := TX3) (N := 24) hx hb hts hin3 hown hK hP 0 rfl rfl 2 (by decide) L34 (fun _ h9 => h9) (congrArg (fun z => some (Value.int z)) iL) dX3_countOf_65 ?_
      exact hq (nI L) 68 ls dX3_countOf_68 (show (nI L) = countF σ Hn B ξ (nI 0) from ((countF_in (w := 0) (by decide)).trans iL).symm)
    | 1, _ =>
      refine lv_tableIn (off := 68) (tgt := 69) hx hb dX3_countOf_1 (by decide +kernel) (by decide +kernel) (by decide +kernel) (by decide) ?_
      refine lv_aload_n hx hb dX3_countOf_69 rfl (lv_at hl 0 rfl) ?_
      refine va_get (D := (dC, dI)) (ci := 3) (v := .int (nI C)) (C := RX3) (T := TX3) (N := 24) hx hb hts hin3 hown hK hP 0 rfl rfl 3 (by decide) L38 (fun _ h9 => h9) (congrArg (fun z => some (Value.int z)) iC) dX3_countOf_70 ?_
      exact hq (nI C) 73 ls dX3_countOf_73 (show (nI C) = countF σ Hn B ξ (nI 1) from ((countF_in (w := 1) (by decide)).trans iC).symm)
    | 2, _ =>
      refine lv_tableIn (off := 73) (tgt := 74) hx hb dX3_countOf_1 (by decide +kernel) (by decide +kernel) (by decide +kernel) (by decide) ?_
      refine lv_aload_n hx hb dX3_countOf_74 rfl (lv_at hl 0 rfl) ?_
      refine va_get (D := (dC, dI)) (ci := 3) (v := .int (σ 0 2)) (C := RX3) (T := TX3) (N := 24) hx hb hts hin3 hown hK hP 0 rfl rfl 4 (by decide) L41 (fun _ h9 => h9) rfl dX3_countOf_75 ?_
      exact hq (σ 0 2) 78 ls dX3_countOf_78 (show (σ 0 2) = countF σ Hn B ξ (nI 2) from (by rw [countF_in (w := 2) (by decide)]; rfl))
    | 3, _ =>
      refine lv_tableIn (off := 78) (tgt := 79) hx hb dX3_countOf_1 (by decide +kernel) (by decide +kernel) (by decide +kernel) (by decide) ?_
      refine lv_aload_n hx hb dX3_countOf_79 rfl (lv_at hl 0 rfl) ?_
      refine va_get (D := (dC, dI)) (ci := 3) (v := .int (σ 0 3)) (C := RX3) (T := TX3) (N := 24) hx hb hts hin3 hown hK hP 0 rfl rfl 5 (by decide) L70 (fun _ h9 => h9) rfl dX3_countOf_80 ?_
      exact hq (σ 0 3) 83 ls dX3_countOf_83 (show (σ 0 3) = countF σ Hn B ξ (nI 3) from (by rw [countF_in (w := 3) (by decide)]; rfl))
    | 4, _ =>
      refine lv_tableIn (off := 83) (tgt := 84) hx hb dX3_countOf_1 (by decide +kernel) (by decide +kernel) (by decide +kernel) (by decide) ?_
      refine lv_aload_n hx hb dX3_countOf_84 rfl (lv_at hl 0 rfl) ?_
      refine va_get (D := (dC, dI)) (ci := 3) (v := .int (nI Hn)) (C := RX3) (T := TX3) (N := 24) hx hb hts hin3 hown hK hP 0 rfl rfl 9 (by decide) L76 (fun _ h9 => h9) (congrArg (fun z => some (Value.int z)) iH) dX3_countOf_85 ?_
      exact hq (nI Hn) 88 ls dX3_countOf_88 (show (nI Hn) = countF σ Hn B ξ (nI 4) from (by rw [countF_in (w := 4) (by decide)]; rfl))
    | 5, _ =>
      refine lv_tableIn (off := 88) (tgt := 89) hx hb dX3_countOf_1 (by decide +kernel) (by decide +kernel) (by decide +kernel) (by decide) ?_
      refine lv_aload_n hx hb dX3_countOf_89 rfl (lv_at hl 0 rfl) ?_
      refine z_callV (As := []) (rest := []) ⟨hx, hb, hml, hown, hts⟩ (c_X3_livingMany l dC dI cI cZ bd σ Hn B L C V M hI ξ tk sd kv hh) (cwV 0 hts gX3_countOf_X3_livingMany rfl rfl rfl (by decide +kernel) ⟨Nat.le_of_ble_eq_true rfl, Nat.le_of_ble_eq_true rfl⟩) hP hK (va_recv hK hP (ci := 3) (q0 := 0) rfl rfl) rfl hl.1 rfl (Nat.le_of_ble_eq_true rfl) ⟨Nat.zero_le _, Nat.zero_le _⟩ dX3_countOf_90 (fun r hr => ?_)
      obtain rfl : r = aliveR σ Hn := hr
      exact hq (aliveR σ Hn) 93 ls dX3_countOf_93 (show (aliveR σ Hn) = countF σ Hn B ξ (nI 5) from (by rw [countF_in (w := 5) (by decide)]; rfl))
    | 6, _ =>
      refine lv_tableIn (off := 93) (tgt := 94) hx hb dX3_countOf_1 (by decide +kernel) (by decide +kernel) (by decide +kernel) (by decide) ?_
      refine lv_aload_n hx hb dX3_countOf_94 rfl (lv_at hl 0 rfl) ?_
      refine va_get (D := (dC, dI)) (ci := 3) (v := .int (nI B)) (C := RX3) (T := TX3) (N := 24) hx hb hts hin3 hown hK hP 0 rfl rfl 10 (by decide) L79 (fun _ h9 => h9) (congrArg (fun z => some (Value.int z)) iB) dX3_countOf_95 ?_
      exact hq (nI B) 98 ls dX3_countOf_98 (show (nI B) = countF σ Hn B ξ (nI 6) from (by rw [countF_in (w := 6) (by decide)]; rfl))
    | 7, _ =>
      refine lv_tableIn (off := 98) (tgt := 99) hx hb dX3_countOf_1 (by decide +kernel) (by decide +kernel) (by decide +kernel) (by decide) ?_
      refine lv_aload_n hx hb dX3_countOf_99 rfl (lv_at hl 0 rfl) ?_
      refine z_callV (As := []) (rest := []) ⟨hx, hb, hml, hown, hts⟩ (c_X3_thereMany l dC dI cI cZ bd σ Hn B L C V M hI ξ tk sd kv hh) (cwV 0 hts gX3_countOf_X3_thereMany rfl rfl rfl (by decide +kernel) ⟨Nat.le_of_ble_eq_true rfl, Nat.le_of_ble_eq_true rfl⟩) hP hK (va_recv hK hP (ci := 3) (q0 := 0) rfl rfl) rfl hl.1 rfl (Nat.le_of_ble_eq_true rfl) ⟨Nat.zero_le _, Nat.zero_le _⟩ dX3_countOf_100 (fun r hr => ?_)
      obtain rfl : r = thereR σ B := hr
      exact hq (thereR σ B) 103 ls dX3_countOf_103 (show (thereR σ B) = countF σ Hn B ξ (nI 7) from (by rw [countF_in (w := 7) (by decide)]; rfl))
    | 8, _ =>
      refine lv_tableIn (off := 103) (tgt := 104) hx hb dX3_countOf_1 (by decide +kernel) (by decide +kernel) (by decide +kernel) (by decide) ?_
      refine lv_aload_n hx hb dX3_countOf_104 rfl (lv_at hl 0 rfl) ?_
      refine va_get (D := (dC, dI)) (ci := 3) (v := .int (σ 0 6)) (C := RX3) (T := TX3) (N := 24) hx hb hts hin3 hown hK hP 0 rfl rfl 7 (by decide) L104 (fun _ h9 => h9) rfl dX3_countOf_105 ?_
      exact hq (σ 0 6) 108 ls dX3_countOf_108 (show (σ 0 6) = countF σ Hn B ξ (nI 8) from (by rw [countF_in (w := 8) (by decide)]; rfl))
    | 9, _ =>
      refine lv_tableIn (off := 108) (tgt := 109) hx hb dX3_countOf_1 (by decide +kernel) (by decide +kernel) (by decide +kernel) (by decide) ?_
      refine lv_aload_n hx hb dX3_countOf_109 rfl (lv_at hl 0 rfl) ?_
      refine va_get (D := (dC, dI)) (ci := 3) (v := .int tk) (C := RX3) (T := TX3) (N := 24) hx hb hts hin3 hown hK hP 0 rfl rfl 8 (by decide) L142 (fun _ h9 => h9) rfl dX3_countOf_110 ?_
      exact hq tk 113 ls dX3_countOf_113 (show tk = countF σ Hn B ξ (nI 9) from ((countF_in (w := 9) (by decide)).trans htk.symm).symm)
    | 10, _ =>
      refine lv_tableIn (off := 113) (tgt := 114) hx hb dX3_countOf_1 (by decide +kernel) (by decide +kernel) (by decide +kernel) (by decide) ?_
      refine lv_aload_n hx hb dX3_countOf_114 rfl (lv_at hl 0 rfl) ?_
      refine va_get (D := (dC, dI)) (ci := 3) (v := .int (ξ 0)) (C := RX3) (T := TX3) (N := 24) hx hb hts hin3 hown hK hP 0 rfl rfl 1 (by decide) L53 (fun _ h9 => h9) rfl dX3_countOf_115 ?_
      exact hq (ξ 0) 118 ls dX3_countOf_118 (show (ξ 0) = countF σ Hn B ξ (nI 10) from (by rw [countF_in (w := 10) (by decide)]; rfl))
    | 11, _ =>
      refine lv_tableIn (off := 118) (tgt := 119) hx hb dX3_countOf_1 (by decide +kernel) (by decide +kernel) (by decide +kernel) (by decide) ?_
      refine lv_aload_n hx hb dX3_countOf_119 rfl (lv_at hl 0 rfl) ?_
      refine va_get (D := (dC, dI)) (ci := 3) (v := .int (ξ 1)) (C := RX3) (T := TX3) (N := 24) hx hb hts hin3 hown hK hP 0 rfl rfl 6 (by decide) L73 (fun _ h9 => h9) rfl dX3_countOf_120 ?_
      exact hq (ξ 1) 123 ls dX3_countOf_123 (show (ξ 1) = countF σ Hn B ξ (nI 11) from (by rw [countF_in (w := 11) (by decide)]; rfl))
    | jj + 12, hjj => exact absurd hjj (by omega)
  · refine lv_tableOut (tgt := 124) hx hb dX3_countOf_1 (hasP_out 12 hw1) (by decide) ?_
    refine lv_bipush (v := (-102)) hx hb dX3_countOf_124 (by decide) ?_
    exact hq (-102) 126 ls dX3_countOf_126 (show (-102) = countF σ Hn B ξ what from (by unfold countF; rw [zif_f hw1]))
abbrev rm_c_X3_count : Room := { frames := 2, cells := 0, slots := 0, locals := 43 }
set_option maxHeartbeats 4000000 in
set_option maxRecDepth 100000 in
theorem c_X3_count (l : Launch) (dC : Nat → ClassId) (dI : Nat → Nat → Nat) (cI cZ : ClassId) (bd : Nat → Nat) (σ : St) (Hn B L C V M : Nat) (hI : Inv σ Hn B L C V M) (ξ : Nat → Int32) (tk sd : Int32) (kv : Nat → Int32) (hh : Int64) (what : Int32) (htk : tk = σ 0 7) : Met l yX3_count wsX3_count rm_c_X3_count (va_Pc [.ref (bd 0), .int what] (fun U => va_P (dC, dI) vwCl ([bo bd σ ξ tk sd kv hh, (bd 2, .inl (cI, 16, .inl (menOf σ))), (bd 3, .inl (cI, 30, .inl (rowsOf σ)))]) U.heap ∧ va_K (dC, dI) vwCl (tyIZ cI cZ) U)) (vp_Si (fun r : Int32 => r = countF σ Hn B ξ what)) 0 0 (fun _ => False) := by
  refine z_pureI (cc := cX3_count) (maxL := 2) (av := [.ref (bd 0), .int what]) (by decide) rfl (Nat.le_of_ble_eq_true rfl) ?_
  intro p e s m below meth c Q ls hx hb hml hown hts ⟨hP, hK⟩ hq hl
  have hown : s.vm.findClass RX3 = some m.cls := hown
  have hin3 : ∀ w ∈ wsX30, w ∈ wsX3_count := fun _ h => List.mem_cons_of_mem _ (List.mem_append_right _ h)
  obtain ⟨⟨iL, iC, iV, iM, iH, iB, jL, jC, jV, jM, jH, jB⟩, iK, iDe, iAl, iHe, iWo, iO1, iO2⟩ := id hI
  have hl : lv_has ls 2 [(0, .ref (bd 0)), (1, .int what)] := hl
  refine lv_aload_n hx hb dX3_count_0 rfl (lv_at hl 0 rfl) ?_
  refine lv_iload_n hx hb dX3_count_1 rfl (lv_at hl 1 rfl) ?_
  refine z_callV (As := [.int what]) (rest := []) ⟨hx, hb, hml, hown, hts⟩ (c_X3_countOf l dC dI cI cZ bd σ Hn B L C V M hI ξ tk sd kv hh what htk) (cwV 1 hts gX3_count_X3_countOf rfl rfl rfl (by decide +kernel) ⟨Nat.le_of_ble_eq_true rfl, Nat.le_of_ble_eq_true rfl⟩) hP hK (va_recv hK hP (ci := 3) (q0 := 0) rfl rfl) rfl hl.1 rfl (Nat.le_of_ble_eq_true rfl) ⟨Nat.zero_le _, Nat.zero_le _⟩ dX3_count_2 (fun r hr => ?_)
  obtain rfl : r = countF σ Hn B ξ what := hr
  exact hq (countF σ Hn B ξ what) 5 ls dX3_count_5 (show (countF σ Hn B ξ what) = countF σ Hn B ξ what from rfl)
