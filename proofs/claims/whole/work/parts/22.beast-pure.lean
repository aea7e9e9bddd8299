/-! ===== the class: what changes nothing ===== -/
abbrev rm_c_X2_within : Room := { frames := 0, cells := 0, slots := 0, locals := 0 }
set_option maxHeartbeats 4000000 in
set_option maxRecDepth 100000 in
theorem c_X2_within (l : Launch) (x a b : Int32) : Met l yX2_within wsX2_within rm_c_X2_within (va_Pc [.int x, .int a, .int b] (fun _ => True)) (vp_Si (fun r : Int32 => r = zb (a ≤ x ∧ x ≤ b))) 0 0 (fun _ => False) := by
  refine z_pureZ (cc := cX2_within) (maxL := 3) (av := [.int x, .int a, .int b]) (by decide) rfl (Nat.le_of_ble_eq_true rfl) ?_
  intro p e s m below meth c Q ls hx hb hml hown hts _ hq hl
  have hown : s.vm.findClass RX2 = some m.cls := hown
  have hl : lv_has ls 3 [(0, .int x), (1, .int a), (2, .int b)] := hl
  refine lv_iload_n hx hb dX2_within_0 rfl (lv_at hl 0 rfl) ?_
  refine lv_iload_n hx hb dX2_within_1 rfl (lv_at hl 1 rfl) ?_
  refine lv_icmp_lt (tgt := 14) hx hb dX2_within_2 (by decide) (fun (c_2 : x < a) => ?_) (fun (c_2 : ¬ (x < a)) => ?_)
  · skip
    refine lv_iconst (v := nI 0) hx hb dX2_within_14 (by decide) ?_
    exact hq (nI 0) 15 ls dX2_within_15 (Or.inl rfl) (show (nI 0) = zb (a ≤ x ∧ x ≤ b) from (zb_f (fun h => absurd h.1 (Int32.not_le.mpr c_2))).symm)
  · skip
    refine lv_iload_n hx hb dX2_within_5 rfl (lv_at hl 0 rfl) ?_
    refine lv_iload_n hx hb dX2_within_6 rfl (lv_at hl 2 rfl) ?_
    refine lv_icmp_gt (tgt := 14) hx hb dX2_within_7 (by decide) (fun (c_7 : b < x) => ?_) (fun (c_7 : ¬ (b < x)) => ?_)
    · skip
      refine lv_iconst (v := nI 0) hx hb dX2_within_14 (by decide) ?_
      exact hq (nI 0) 15 ls dX2_within_15 (Or.inl rfl) (show (nI 0) = zb (a ≤ x ∧ x ≤ b) from (zb_f (fun h => absurd h.2 (Int32.not_le.mpr c_7))).symm)
    · skip
      refine lv_iconst (v := nI 1) hx hb dX2_within_10 (by decide) ?_
      refine lv_goto (tgt := 15) hx hb dX2_within_11 (by decide) ?_
      exact hq (nI 1) 15 ls dX2_within_15 (Or.inr rfl) (show (nI 1) = zb (a ≤ x ∧ x ≤ b) from (zb_t ⟨Int32.not_lt.mp c_2, Int32.not_lt.mp c_7⟩).symm)
abbrev rm_c_X2_within_n : Room := { frames := 0, cells := 0, slots := 0, locals := 0 }
set_option maxHeartbeats 4000000 in
set_option maxRecDepth 100000 in
theorem c_X2_within_n (l : Launch) (x : Int32) (a b : Nat) (ha : a < 1000) (hb9 : b < 1000) : Met l yX2_within wsX2_within rm_c_X2_within_n (va_Pc [.int x, .int (nI a), .int (nI b)] (fun _ => True)) (vp_Si (fun r : Int32 => r = zb (inP a b x))) 0 0 (fun _ => False) := by
  refine z_pureZ (cc := cX2_within) (maxL := 3) (av := [.int x, .int (nI a), .int (nI b)]) (by decide) rfl (Nat.le_of_ble_eq_true rfl) ?_
  intro p e s m below meth c Q ls hx hb hml hown hts _ hq hl
  have hown : s.vm.findClass RX2 = some m.cls := hown
  have hl : lv_has ls 3 [(0, .int x), (1, .int (nI a)), (2, .int (nI b))] := hl
  refine lv_iload_n hx hb dX2_within_0 rfl (lv_at hl 0 rfl) ?_
  refine lv_iload_n hx hb dX2_within_1 rfl (lv_at hl 1 rfl) ?_
  refine lv_icmp_lt (tgt := 14) hx hb dX2_within_2 (by decide) (fun (c_2 : x < (nI a)) => ?_) (fun (c_2 : ¬ (x < (nI a))) => ?_)
  · skip
    refine lv_iconst (v := nI 0) hx hb dX2_within_14 (by decide) ?_
    exact hq (nI 0) 15 ls dX2_within_15 (Or.inl rfl) (show (nI 0) = zb (inP a b x) from (zb_f (fun h => absurd ((inP_iff (by omega) (by omega)).mpr h).1 (Int32.not_le.mpr c_2))).symm)
  · skip
    refine lv_iload_n hx hb dX2_within_5 rfl (lv_at hl 0 rfl) ?_
    refine lv_iload_n hx hb dX2_within_6 rfl (lv_at hl 2 rfl) ?_
    refine lv_icmp_gt (tgt := 14) hx hb dX2_within_7 (by decide) (fun (c_7 : (nI b) < x) => ?_) (fun (c_7 : ¬ ((nI b) < x)) => ?_)
    · skip
      refine lv_iconst (v := nI 0) hx hb dX2_within_14 (by decide) ?_
      exact hq (nI 0) 15 ls dX2_within_15 (Or.inl rfl) (show (nI 0) = zb (inP a b x) from (zb_f (fun h => absurd ((inP_iff (by omega) (by omega)).mpr h).2 (Int32.not_le.mpr c_7))).symm)
    · skip
      refine lv_iconst (v := nI 1) hx hb dX2_within_10 (by decide) ?_
      refine lv_goto (tgt := 15) hx hb dX2_within_11 (by decide) ?_
      exact hq (nI 1) 15 ls dX2_within_15 (Or.inr rfl) (show (nI 1) = zb (inP a b x) from (zb_t ((inP_iff (by omega) (by omega)).mp ⟨Int32.not_lt.mp c_2, Int32.not_lt.mp c_7⟩)).symm)
abbrev rm_c_X2_isSuch : Room := { frames := 0, cells := 0, slots := 0, locals := 0 }
set_option maxHeartbeats 4000000 in
set_option maxRecDepth 100000 in
theorem c_X2_isSuch (l : Launch) (k a : Int32) : Met l yX2_isSuch wsX2_isSuch rm_c_X2_isSuch (va_Pc [.int k, .int a] (fun _ => True)) (vp_Si (fun r : Int32 => r = zb (suchP k a))) 0 0 (fun _ => False) := by
  refine z_pureZ (cc := cX2_isSuch) (maxL := 2) (av := [.int k, .int a]) (by decide) rfl (Nat.le_of_ble_eq_true rfl) ?_
  intro p e s m below meth c Q ls hx hb hml hown hts _ hq hl
  have hown : s.vm.findClass RX2 = some m.cls := hown
  have hl : lv_has ls 2 [(0, .int k), (1, .int a)] := hl
  refine lv_iload_n hx hb dX2_isSuch_0 rfl (lv_at hl 1 rfl) ?_
  refine lv_if_eq (tgt := 19) hx hb dX2_isSuch_1 (by decide) (fun (c_1 : a = 0) => ?_) (fun (c_1 : ¬ (a = 0)) => ?_)
  · skip
    refine lv_iconst (v := nI 1) hx hb dX2_isSuch_19 (by decide) ?_
    refine lv_goto (tgt := 24) hx hb dX2_isSuch_20 (by decide) ?_
    exact hq (nI 1) 24 ls dX2_isSuch_24 (Or.inr rfl) (show (nI 1) = zb (suchP k a) from (zb_t (Or.inl c_1)).symm)
  · skip
    refine lv_iload_n hx hb dX2_isSuch_4 rfl (lv_at hl 1 rfl) ?_
    refine lv_iload_n hx hb dX2_isSuch_5 rfl (lv_at hl 0 rfl) ?_
    refine lv_icmp_eq (tgt := 19) hx hb dX2_isSuch_6 (by decide) (fun (c_6 : a = k) => ?_) (fun (c_6 : ¬ (a = k)) => ?_)
    · skip
      refine lv_iconst (v := nI 1) hx hb dX2_isSuch_19 (by decide) ?_
      refine lv_goto (tgt := 24) hx hb dX2_isSuch_20 (by decide) ?_
      exact hq (nI 1) 24 ls dX2_isSuch_24 (Or.inr rfl) (show (nI 1) = zb (suchP k a) from (zb_t (Or.inr (Or.inl c_6))).symm)
    · skip
      refine lv_iload_n hx hb dX2_isSuch_9 rfl (lv_at hl 1 rfl) ?_
      refine lv_iconst (v := nI 3) hx hb dX2_isSuch_10 (by decide) ?_
      refine lv_icmp_ne (tgt := 23) hx hb dX2_isSuch_11 (by decide) (fun (c_11 : ¬ a = 3) => ?_) (fun (c_11 : a = 3) => ?_)
      · skip
        refine lv_iconst (v := nI 0) hx hb dX2_isSuch_23 (by decide) ?_
        exact hq (nI 0) 24 ls dX2_isSuch_24 (Or.inl rfl) (show (nI 0) = zb (suchP k a) from (zb_f (fun h => h.elim c_1 (fun h => h.elim c_6 (fun h => c_11 h.1)))).symm)
      · skip
        refine lv_iload_n hx hb dX2_isSuch_14 rfl (lv_at hl 0 rfl) ?_
        refine lv_iconst (v := nI 4) hx hb dX2_isSuch_15 (by decide) ?_
        refine lv_icmp_ne (tgt := 23) hx hb dX2_isSuch_16 (by decide) (fun (c_16 : ¬ k = 4) => ?_) (fun (c_16 : k = 4) => ?_)
        · skip
          refine lv_iconst (v := nI 0) hx hb dX2_isSuch_23 (by decide) ?_
          exact hq (nI 0) 24 ls dX2_isSuch_24 (Or.inl rfl) (show (nI 0) = zb (suchP k a) from (zb_f (fun h => h.elim c_1 (fun h => h.elim c_6 (fun h => c_16 h.2)))).symm)
        · skip
          refine lv_iconst (v := nI 1) hx hb dX2_isSuch_19 (by decide) ?_
          refine lv_goto (tgt := 24) hx hb dX2_isSuch_20 (by decide) ?_
          exact hq (nI 1) 24 ls dX2_isSuch_24 (Or.inr rfl) (show (nI 1) = zb (suchP k a) from (zb_t (Or.inr (Or.inr ⟨c_11, c_16⟩))).symm)
abbrev rm_c_X2_powerOfTen : Room := { frames := 0, cells := 0, slots := 0, locals := 0 }
set_option maxHeartbeats 4000000 in
set_option maxRecDepth 100000 in
theorem c_X2_powerOfTen (l : Launch) (y : Nat) (hy : y ≤ 4) : Met l yX2_powerOfTen wsX2_powerOfTen rm_c_X2_powerOfTen (va_Pc [.int (nI y)] (fun _ => True)) (vp_Si (fun r : Int32 => r = nI (10 ^ y))) 0 0 (fun _ => False) := by
  refine z_pureI (cc := cX2_powerOfTen) (maxL := 3) (av := [.int (nI y)]) (by decide) rfl (Nat.le_of_ble_eq_true rfl) ?_
  intro p e s m below meth c Q ls hx hb hml hown hts _ hq hl
  have hown : s.vm.findClass RX2 = some m.cls := hown
  have hl : lv_has ls 3 [(0, .int (nI y))] := hl
  refine lv_iconst (v := nI 1) hx hb dX2_powerOfTen_0 (by decide) ?_
  refine lv_istore_n (lv' := [(1, .int (nI 1)), (0, .int (nI y))]) hx hb dX2_powerOfTen_1 rfl hl (by decide) rfl (fun ls hl => ?_)
  refine lv_iconst (v := nI 0) hx hb dX2_powerOfTen_2 (by decide) ?_
  refine lv_istore_n (lv' := [(2, .int (nI 0)), (1, .int (nI 1)), (0, .int (nI y))]) hx hb dX2_powerOfTen_3 rfl hl (by decide) rfl (fun ls hl => ?_)
  suffices hlp4 : ∀ (nf : Nat) (k : Nat) (x4_2 : Int32) (x4_1 : Int32) (ls : Array Slot), (k ≤ y) → x4_2 = nI k → x4_1 = nI (10 ^ k) → lv_has ls 3 [(2, .int x4_2), (1, .int x4_1), (0, .int (nI y))] → y - k < nf → W p l e rm_c_X2_powerOfTen s m ([.int (nI y)] : List Value).toArray below meth c s.heap [] 0 0 Q (F0 m 4 ls []) by
    exact hlp4 ((y - 0) + 1) 0 (nI 0) (nI 1) ls (by omega) rfl rfl (lv_sub hl [0, 1, 2] rfl) (by omega)
  intro nf
  induction nf with
  | zero => intro k x4_2 x4_1 ls hk e4_2 e4_1 hl hn; omega
  | succ nf ih4 =>
    intro k x4_2 x4_1 ls hk e4_2 e4_1 hl hn
    subst e4_2
    subst e4_1
    refine lv_iload_n hx hb dX2_powerOfTen_4 rfl (lv_at hl 0 rfl) ?_
    refine lv_iload_n hx hb dX2_powerOfTen_5 rfl (lv_at hl 2 rfl) ?_
    refine z_icmp_ge (a := k) (b := y) (tgt := 20) hx hb (by omega) (by omega) dX2_powerOfTen_6 (by decide) (fun (c_6 : y ≤ k) => ?_) (fun (c_6 : k < y) => ?_)
    · skip
      refine lv_iload_n hx hb dX2_powerOfTen_20 rfl (lv_at hl 1 rfl) ?_
      exact hq (nI (10 ^ k)) 21 ls dX2_powerOfTen_21 (show (nI (10 ^ k)) = nI (10 ^ y) from (by rw [show y = k by omega]))
    · skip
      refine lv_iload_n hx hb dX2_powerOfTen_9 rfl (lv_at hl 1 rfl) ?_
      refine lv_bipush (v := nI 10) hx hb dX2_powerOfTen_10 (by decide) ?_
      refine z_imul (v := nI ((10 ^ k) * 10)) hx hb dX2_powerOfTen_12 (pk_mul _ _) ?_
      refine lv_istore_n (lv' := [(1, .int (nI ((10 ^ k) * 10))), (2, .int (nI k)), (0, .int (nI y))]) hx hb dX2_powerOfTen_13 rfl hl (by decide) rfl (fun ls hl => ?_)
      refine lv_iinc (v := nI (k + 1)) (lv' := [(2, .int (nI (k + 1))), (1, .int (nI ((10 ^ k) * 10))), (0, .int (nI y))]) hx hb dX2_powerOfTen_14 hl (k := 1) rfl (nI_1 _) (by decide) rfl (fun ls hl => ?_)
      refine lv_goto (tgt := 4) hx hb dX2_powerOfTen_17 (by decide) ?_
      exact ih4 (k + 1) (nI (k + 1)) (nI ((10 ^ k) * 10)) ls (by omega) (show nI (k + 1) = nI (k + 1) from rfl) (show nI ((10 ^ k) * 10) = nI (10 ^ (k + 1)) from rfl) (lv_sub hl [0, 1, 2] rfl) (by omega)
abbrev rm_c_X2_commonDivisor : Room := { frames := 0, cells := 0, slots := 0, locals := 0 }
set_option maxHeartbeats 4000000 in
set_option maxRecDepth 100000 in
theorem c_X2_commonDivisor (l : Launch) (u v : Nat) (hu : u < 2 ^ 30) (hv : v < 2 ^ 20) : Met l yX2_commonDivisor wsX2_commonDivisor rm_c_X2_commonDivisor (va_Pc [.int (nI u), .int (nI v)] (fun _ => True)) (vp_Si (fun r : Int32 => r = nI (Nat.gcd u v))) 0 0 (fun _ => False) := by
  refine z_pureI (cc := cX2_commonDivisor) (maxL := 6) (av := [.int (nI u), .int (nI v)]) (by decide) rfl (Nat.le_of_ble_eq_true rfl) ?_
  intro p e s m below meth c Q ls hx hb hml hown hts _ hq hl
  have hown : s.vm.findClass RX2 = some m.cls := hown
  have hl : lv_has ls 6 [(0, .int (nI u)), (1, .int (nI v))] := hl
  refine lv_iload_n hx hb dX2_commonDivisor_0 rfl (lv_at hl 0 rfl) ?_
  refine lv_istore_n (lv' := [(2, .int (nI u)), (0, .int (nI u)), (1, .int (nI v))]) hx hb dX2_commonDivisor_1 rfl hl (by decide) rfl (fun ls hl => ?_)
  refine lv_iload_n hx hb dX2_commonDivisor_2 rfl (lv_at hl 2 rfl) ?_
  refine lv_istore_n (lv' := [(3, .int (nI v)), (2, .int (nI u)), (0, .int (nI u)), (1, .int (nI v))]) hx hb dX2_commonDivisor_3 rfl hl (by decide) rfl (fun ls hl => ?_)
  refine lv_iconst (v := nI 0) hx hb dX2_commonDivisor_4 (by decide) ?_
  refine lv_istore (lv' := [(4, .int (nI 0)), (3, .int (nI v)), (2, .int (nI u)), (0, .int (nI u)), (1, .int (nI v))]) hx hb dX2_commonDivisor_5 hl (by decide) rfl (fun ls hl => ?_)
  suffices hlp7 : ∀ (nf : Nat) (k : Nat) (a : Nat) (b : Nat) (x7_4 : Int32) (x7_3 : Int32) (x7_2 : Int32) (ls : Array Slot), (k ≤ 1000) → (Nat.gcd a b = Nat.gcd u v) → (a < 2 ^ 30) → (b < 2 ^ 20) → (cdI k a b) → x7_4 = nI k → x7_3 = nI b → x7_2 = nI a → lv_has ls 6 [(4, .int x7_4), (3, .int x7_3), (2, .int x7_2), (0, .int (nI u)), (1, .int (nI v))] → 1000 - k < nf → W p l e rm_c_X2_commonDivisor s m ([.int (nI u), .int (nI v)] : List Value).toArray below meth c s.heap [] 0 0 Q (F0 m 7 ls []) by
    exact hlp7 ((1000 - 0) + 1) 0 u v (nI 0) (nI v) (nI u) ls (by omega) rfl hu hv (Or.inl rfl) rfl rfl rfl (lv_sub hl [0, 1, 2, 3, 4] rfl) (by omega)
  intro nf
  induction nf with
  | zero => intro k a b x7_4 x7_3 x7_2 ls hk hg ha hb9 hc e7_4 e7_3 e7_2 hl hn; omega
  | succ nf ih7 =>
    intro k a b x7_4 x7_3 x7_2 ls hk hg ha hb9 hc e7_4 e7_3 e7_2 hl hn
    subst e7_4
    subst e7_3
    subst e7_2
    refine lv_iload hx hb dX2_commonDivisor_7 (lv_at hl 0 rfl) ?_
    refine lv_sipush (v := nI 1000) hx hb dX2_commonDivisor_9 (by decide) ?_
    refine z_icmp_ge (a := k) (b := 1000) (tgt := 35) hx hb (by omega) (by omega) dX2_commonDivisor_12 (by decide) (fun (c_12 : 1000 ≤ k) => ?_) (fun (c_12 : k < 1000) => ?_)
    · skip
      refine lv_iload_n hx hb dX2_commonDivisor_35 rfl (lv_at hl 2 rfl) ?_
      exact hq (nI a) 36 ls dX2_commonDivisor_36 (show (nI a) = nI (Nat.gcd u v) from (by rw [← hg, show b = 0 from cdI_end hc c_12, Nat.gcd_zero_right]))
    · skip
      refine lv_iload_n hx hb dX2_commonDivisor_15 rfl (lv_at hl 1 rfl) ?_
      refine z_if_eq (a := b) (tgt := 35) hx hb (by omega) dX2_commonDivisor_16 (by decide) (fun (c_16 : b = 0) => ?_) (fun (c_16 : b ≠ 0) => ?_)
      · skip
        refine lv_iload_n hx hb dX2_commonDivisor_35 rfl (lv_at hl 2 rfl) ?_
        exact hq (nI a) 36 ls dX2_commonDivisor_36 (show (nI a) = nI (Nat.gcd u v) from (by rw [← hg, show b = 0 from c_16, Nat.gcd_zero_right]))
      · skip
        refine lv_iload_n hx hb dX2_commonDivisor_19 rfl (lv_at hl 2 rfl) ?_
        refine lv_iload_n hx hb dX2_commonDivisor_20 rfl (lv_at hl 1 rfl) ?_
        refine z_irem (v := nI (a % b)) hx hb dX2_commonDivisor_21 (nI_ne0 (by omega) (by omega)) (pk_rem (by omega) (by omega) (by omega)) ?_
        refine lv_istore (lv' := [(5, .int (nI (a % b))), (4, .int (nI k)), (3, .int (nI b)), (2, .int (nI a)), (0, .int (nI u)), (1, .int (nI v))]) hx hb dX2_commonDivisor_22 hl (by decide) rfl (fun ls hl => ?_)
        refine lv_iload_n hx hb dX2_commonDivisor_24 rfl (lv_at hl 2 rfl) ?_
        refine lv_istore_n (lv' := [(2, .int (nI b)), (5, .int (nI (a % b))), (4, .int (nI k)), (3, .int (nI b)), (0, .int (nI u)), (1, .int (nI v))]) hx hb dX2_commonDivisor_25 rfl hl (by decide) rfl (fun ls hl => ?_)
        refine lv_iload hx hb dX2_commonDivisor_26 (lv_at hl 1 rfl) ?_
        refine lv_istore_n (lv' := [(3, .int (nI (a % b))), (2, .int (nI b)), (5, .int (nI (a % b))), (4, .int (nI k)), (0, .int (nI u)), (1, .int (nI v))]) hx hb dX2_commonDivisor_28 rfl hl (by decide) rfl (fun ls hl => ?_)
        refine lv_iinc (v := nI (k + 1)) (lv' := [(4, .int (nI (k + 1))), (3, .int (nI (a % b))), (2, .int (nI b)), (5, .int (nI (a % b))), (0, .int (nI u)), (1, .int (nI v))]) hx hb dX2_commonDivisor_29 hl (k := 3) rfl (nI_1 _) (by decide) rfl (fun ls hl => ?_)
        refine lv_goto (tgt := 7) hx hb dX2_commonDivisor_32 (by decide) ?_
        exact ih7 (k + 1) b (a % b) (nI (k + 1)) (nI (a % b)) (nI b) ls (by omega) ((gcd_step a b).symm.trans hg) (by omega) (Nat.lt_trans (Nat.mod_lt _ (by omega)) hb9) (cdI_s hc c_16 (fun _ => hb9)) (show nI (k + 1) = nI (k + 1) from rfl) (show nI (a % b) = nI (a % b) from rfl) (show nI b = nI b from rfl) (lv_sub hl [0, 1, 2, 4, 5] rfl) (by omega)
abbrev rm_c_X2_about : Room := { frames := 5, cells := 0, slots := 0, locals := 111 }
set_option maxHeartbeats 4000000 in
set_option maxRecDepth 100000 in
theorem c_X2_about (l : Launch) (dC : Nat → ClassId) (dI : Nat → Nat → Nat) (cI cZ : ClassId) (xd ma ka ta : Nat → Nat) (σ : St) (Hn B L C V M : Nat) (hI : Inv σ Hn B L C V M) (ξ : Nat → Int32) (hi : Int32) (x what : Int32) : Met l yX2_about wsX2_about rm_c_X2_about (va_Pc [.ref (xd 0), .int x, .int what] (fun U => va_P (dC, dI) vwCl (xo xd ma ka ta ξ hi :: mw cI cZ ma σ) U.heap ∧ va_K (dC, dI) vwCl (tyIZ cI cZ) U)) (vp_Si (fun r : Int32 => r = aboutF σ Hn B x what)) 0 0 (fun _ => False) := by
  refine z_pureI (cc := cX2_about) (maxL := 3) (av := [.ref (xd 0), .int x, .int what]) (by decide) rfl (Nat.le_of_ble_eq_true rfl) ?_
  intro p e s m below meth c Q ls hx hb hml hown hts ⟨hP, hK⟩ hq hl
  have hown : s.vm.findClass RX2 = some m.cls := hown
  have hin1 : ∀ w ∈ wsX10, w ∈ wsX2_about := fun _ h => List.mem_cons_of_mem _ (List.mem_append_right _ h)
  have hin2 : ∀ w ∈ wsX20, w ∈ wsX2_about := fun _ h => List.mem_cons_of_mem _ (List.mem_append_left _ (List.mem_append_right _ h))
  have L10 := hts (.fieldLink RX2 10 "BestBeast" "manor" "LBestBeast$Manor;") (List.mem_of_getElem? (i := 1) rfl)
  have L82 := hts (.fieldLink RX2 82 "BestBeast$Manor" "kind" "[I") (List.mem_of_getElem? (i := 2) rfl)
  have L85 := hts (.fieldLink RX2 85 "BestBeast$Manor" "death" "[I") (List.mem_of_getElem? (i := 3) rfl)
  have L88 := hts (.fieldLink RX2 88 "BestBeast$Manor" "alive" "[Z") (List.mem_of_getElem? (i := 4) rfl)
  have L92 := hts (.fieldLink RX2 92 "BestBeast$Manor" "heirOf" "[I") (List.mem_of_getElem? (i := 5) rfl)
  obtain ⟨⟨iL, iC, iV, iM, iH, iB, jL, jC, jV, jM, jH, jB⟩, iK, iDe, iAl, iHe, iWo, iO1, iO2⟩ := id hI
  have hl : lv_has ls 3 [(0, .ref (xd 0)), (1, .int x), (2, .int what)] := hl
  refine lv_aload_n hx hb dX2_about_0 rfl (lv_at hl 0 rfl) ?_
  refine va_get (D := (dC, dI)) (ci := 2) (v := .ref (ma 0)) (C := RX2) (T := TX2) (N := 8) hx hb hts hin2 hown hK hP 0 rfl rfl 0 (by decide) L10 (fun _ h9 => h9) rfl dX2_about_1 ?_
  refine lv_iload_n hx hb dX2_about_4 rfl (lv_at hl 1 rfl) ?_
  refine z_callV (As := [.int x]) (rest := []) ⟨hx, hb, hml, hown, hts⟩ (c_X1_hasHolder l dC dI cI cZ ma σ Hn B L C V M hI.1 x) (cwV 1 hts gX2_about_X1_hasHolder rfl rfl rfl (by decide +kernel) ⟨Nat.le_of_ble_eq_true rfl, Nat.le_of_ble_eq_true rfl⟩) (hP.sub [1, 2, 3, 4, 5, 6, 7, 8, 9, 10] rfl) hK (va_recv hK hP (ci := 1) (q0 := 1) rfl rfl) rfl hl.1 rfl (Nat.le_of_ble_eq_true rfl) ⟨Nat.zero_le _, Nat.zero_le _⟩ dX2_about_5 (fun r hr => ?_)
  obtain rfl : r = zb (hasP Hn x) := hr
  refine z_ifne_b (P := hasP Hn x) (tgt := 14) hx hb dX2_about_8 (by decide) (fun (c_8 : hasP Hn x) => ?_) (fun (c_8 : ¬ (hasP Hn x)) => ?_)
  · skip
    obtain ⟨j, hj, rfl⟩ := c_8
    obtain ⟨K, hK4, hKj⟩ := iK j (by omega)
    refine lv_iload_n hx hb dX2_about_14 rfl (lv_at hl 2 rfl) ?_
    by_cases hw15 : hasP 9 what
    · obtain ⟨jj, hjj, rfl⟩ := hw15
      match jj, hjj with
      | 0, _ =>
        refine lv_tableIn (off := 49) (tgt := 64) hx hb dX2_about_15 (by decide +kernel) (by decide +kernel) (by decide +kernel) (by decide) ?_
        refine lv_aload_n hx hb dX2_about_64 rfl (lv_at hl 0 rfl) ?_
        refine va_get (D := (dC, dI)) (ci := 2) (v := .ref (ma 0)) (C := RX2) (T := TX2) (N := 8) hx hb hts hin2 hown hK hP 0 rfl rfl 0 (by decide) L10 (fun _ h9 => h9) rfl dX2_about_65 ?_
        refine va_get (D := (dC, dI)) (ci := 1) (v := .ref (ma 1)) (C := RX1) (T := TX1) (N := 17) hx hb hts hin1 hown hK hP 1 rfl rfl 5 (by decide) L82 (fun _ h9 => h9) rfl dX2_about_68 ?_
        refine lv_iload_n hx hb dX2_about_71 rfl (lv_at hl 1 rfl) ?_
        refine z_iald (D := (dC, dI)) hx hb hK hP 2 0 rfl rfl j (rfl) (by omega) (by omega) (v := (σ 1) j) (rfl) dX2_about_72 ?_
        exact hq ((σ 1) j) 73 ls dX2_about_73 (show ((σ 1) j) = aboutF σ Hn B (nI j) (nI 0) from (by rw [aboutF_in (w := 0) hj jH (by decide)]; rfl))
      | 1, _ =>
        refine lv_tableIn (off := 59) (tgt := 74) hx hb dX2_about_15 (by decide +kernel) (by decide +kernel) (by decide +kernel) (by decide) ?_
        refine lv_aload_n hx hb dX2_about_74 rfl (lv_at hl 0 rfl) ?_
        refine va_get (D := (dC, dI)) (ci := 2) (v := .ref (ma 0)) (C := RX2) (T := TX2) (N := 8) hx hb hts hin2 hown hK hP 0 rfl rfl 0 (by decide) L10 (fun _ h9 => h9) rfl dX2_about_75 ?_
        refine va_get (D := (dC, dI)) (ci := 1) (v := .ref (ma 2)) (C := RX1) (T := TX1) (N := 17) hx hb hts hin1 hown hK hP 1 rfl rfl 6 (by decide) L85 (fun _ h9 => h9) rfl dX2_about_78 ?_
        refine lv_iload_n hx hb dX2_about_81 rfl (lv_at hl 1 rfl) ?_
        refine z_iald (D := (dC, dI)) hx hb hK hP 3 0 rfl rfl j (rfl) (by omega) (by omega) (v := (σ 2) j) (rfl) dX2_about_82 ?_
        exact hq ((σ 2) j) 83 ls dX2_about_83 (show ((σ 2) j) = aboutF σ Hn B (nI j) (nI 1) from (by rw [aboutF_in (w := 1) hj jH (by decide)]; rfl))
      | 2, _ =>
        refine lv_tableIn (off := 69) (tgt := 84) hx hb dX2_about_15 (by decide +kernel) (by decide +kernel) (by decide +kernel) (by decide) ?_
        refine lv_aload_n hx hb dX2_about_84 rfl (lv_at hl 0 rfl) ?_
        refine va_get (D := (dC, dI)) (ci := 2) (v := .ref (ma 0)) (C := RX2) (T := TX2) (N := 8) hx hb hts hin2 hown hK hP 0 rfl rfl 0 (by decide) L10 (fun _ h9 => h9) rfl dX2_about_85 ?_
        refine va_get (D := (dC, dI)) (ci := 1) (v := .ref (ma 3)) (C := RX1) (T := TX1) (N := 17) hx hb hts hin1 hown hK hP 1 rfl rfl 8 (by decide) L88 (fun _ h9 => h9) rfl dX2_about_88 ?_
        refine lv_iload_n hx hb dX2_about_91 rfl (lv_at hl 1 rfl) ?_
        refine z_zald (D := (dC, dI)) hx hb hK hP 4 1 rfl rfl j (rfl) (by omega) (by omega) (v := (σ 3) j) (rfl) dX2_about_92 ?_
        refine lv_if_eq (tgt := 100) hx hb dX2_about_93 (by decide) (fun (c_93 : ((σ 3) j) = 0) => ?_) (fun (c_93 : ¬ (((σ 3) j) = 0)) => ?_)
        · skip
          refine lv_iconst (v := nI 0) hx hb dX2_about_100 (by decide) ?_
          exact hq (nI 0) 101 ls dX2_about_101 (show (nI 0) = aboutF σ Hn B (nI j) (nI 2) from ((aboutF_in (w := 2) hj jH (by decide)).trans c_93).symm)
        · skip
          refine lv_iconst (v := nI 1) hx hb dX2_about_96 (by decide) ?_
          refine lv_goto (tgt := 101) hx hb dX2_about_97 (by decide) ?_
          exact hq (nI 1) 101 ls dX2_about_101 (show (nI 1) = aboutF σ Hn B (nI j) (nI 2) from ((aboutF_in (w := 2) hj jH (by decide)).trans (al_1 (iAl j (by omega)) c_93)).symm)
      | 3, _ =>
        refine lv_tableIn (off := 87) (tgt := 102) hx hb dX2_about_15 (by decide +kernel) (by decide +kernel) (by decide +kernel) (by decide) ?_
        refine lv_aload_n hx hb dX2_about_102 rfl (lv_at hl 0 rfl) ?_
        refine va_get (D := (dC, dI)) (ci := 2) (v := .ref (ma 0)) (C := RX2) (T := TX2) (N := 8) hx hb hts hin2 hown hK hP 0 rfl rfl 0 (by decide) L10 (fun _ h9 => h9) rfl dX2_about_103 ?_
        refine va_get (D := (dC, dI)) (ci := 1) (v := .ref (ma 4)) (C := RX1) (T := TX1) (N := 17) hx hb hts hin1 hown hK hP 1 rfl rfl 7 (by decide) L92 (fun _ h9 => h9) rfl dX2_about_106 ?_
        refine lv_iload_n hx hb dX2_about_109 rfl (lv_at hl 1 rfl) ?_
        refine z_iald (D := (dC, dI)) hx hb hK hP 5 0 rfl rfl j (rfl) (by omega) (by omega) (v := (σ 4) j) (rfl) dX2_about_110 ?_
        exact hq ((σ 4) j) 111 ls dX2_about_111 (show ((σ 4) j) = aboutF σ Hn B (nI j) (nI 3) from (by rw [aboutF_in (w := 3) hj jH (by decide)]; rfl))
      | 4, _ =>
        refine lv_tableIn (off := 97) (tgt := 112) hx hb dX2_about_15 (by decide +kernel) (by decide +kernel) (by decide +kernel) (by decide) ?_
        refine lv_aload_n hx hb dX2_about_112 rfl (lv_at hl 0 rfl) ?_
        refine va_get (D := (dC, dI)) (ci := 2) (v := .ref (ma 0)) (C := RX2) (T := TX2) (N := 8) hx hb hts hin2 hown hK hP 0 rfl rfl 0 (by decide) L10 (fun _ h9 => h9) rfl dX2_about_113 ?_
        refine lv_iload_n hx hb dX2_about_116 rfl (lv_at hl 1 rfl) ?_
        refine z_callV (As := [.int (nI j)]) (rest := []) ⟨hx, hb, hml, hown, hts⟩ (c_X1_ownBits l dC dI cI cZ ma σ Hn B L C V M hI (nI j)) (cwV 1 hts gX2_about_X1_ownBits rfl rfl rfl (by decide +kernel) ⟨Nat.le_of_ble_eq_true rfl, Nat.le_of_ble_eq_true rfl⟩) (hP.sub [1, 2, 3, 4, 5, 6, 7, 8, 9, 10] rfl) hK (va_recv hK hP (ci := 1) (q0 := 1) rfl rfl) rfl hl.1 rfl (Nat.le_of_ble_eq_true rfl) ⟨Nat.zero_le _, Nat.zero_le _⟩ dX2_about_117 (fun r hr => ?_)
        obtain rfl : r = ownR σ (nI j) B := hr
        exact hq (ownR σ (nI j) B) 120 ls dX2_about_120 (show (ownR σ (nI j) B) = aboutF σ Hn B (nI j) (nI 4) from (by rw [aboutF_in (w := 4) hj jH (by decide)]; rfl))
      | 5, _ =>
        refine lv_tableIn (off := 106) (tgt := 121) hx hb dX2_about_15 (by decide +kernel) (by decide +kernel) (by decide +kernel) (by decide) ?_
        refine lv_aload_n hx hb dX2_about_121 rfl (lv_at hl 0 rfl) ?_
        refine va_get (D := (dC, dI)) (ci := 2) (v := .ref (ma 0)) (C := RX2) (T := TX2) (N := 8) hx hb hts hin2 hown hK hP 0 rfl rfl 0 (by decide) L10 (fun _ h9 => h9) rfl dX2_about_122 ?_
        refine lv_iload_n hx hb dX2_about_125 rfl (lv_at hl 1 rfl) ?_
        refine z_callV (As := [.int (nI j)]) (rest := []) ⟨hx, hb, hml, hown, hts⟩ (c_X1_heldBits l dC dI cI cZ ma σ Hn B L C V M hI (nI j)) (cwV 1 hts gX2_about_X1_heldBits rfl rfl rfl (by decide +kernel) ⟨Nat.le_of_ble_eq_true rfl, Nat.le_of_ble_eq_true rfl⟩) (hP.sub [1, 2, 3, 4, 5, 6, 7, 8, 9, 10] rfl) hK (va_recv hK hP (ci := 1) (q0 := 1) rfl rfl) rfl hl.1 rfl (Nat.le_of_ble_eq_true rfl) ⟨Nat.zero_le _, Nat.zero_le _⟩ dX2_about_126 (fun r hr => ?_)
        obtain rfl : r = heldF σ B (nI j) := hr
        exact hq (heldF σ B (nI j)) 129 ls dX2_about_129 (show (heldF σ B (nI j)) = aboutF σ Hn B (nI j) (nI 5) from (by rw [aboutF_in (w := 5) hj jH (by decide)]; rfl))
      | 6, _ =>
        refine lv_tableIn (off := 115) (tgt := 130) hx hb dX2_about_15 (by decide +kernel) (by decide +kernel) (by decide +kernel) (by decide) ?_
        refine lv_aload_n hx hb dX2_about_130 rfl (lv_at hl 0 rfl) ?_
        refine va_get (D := (dC, dI)) (ci := 2) (v := .ref (ma 0)) (C := RX2) (T := TX2) (N := 8) hx hb hts hin2 hown hK hP 0 rfl rfl 0 (by decide) L10 (fun _ h9 => h9) rfl dX2_about_131 ?_
        refine lv_aload_n hx hb dX2_about_134 rfl (lv_at hl 0 rfl) ?_
        refine va_get (D := (dC, dI)) (ci := 2) (v := .ref (ma 0)) (C := RX2) (T := TX2) (N := 8) hx hb hts hin2 hown hK hP 0 rfl rfl 0 (by decide) L10 (fun _ h9 => h9) rfl dX2_about_135 ?_
        refine va_get (D := (dC, dI)) (ci := 1) (v := .ref (ma 1)) (C := RX1) (T := TX1) (N := 17) hx hb hts hin1 hown hK hP 1 rfl rfl 5 (by decide) L82 (fun _ h9 => h9) rfl dX2_about_138 ?_
        refine lv_iload_n hx hb dX2_about_141 rfl (lv_at hl 1 rfl) ?_
        refine z_iald (D := (dC, dI)) hx hb hK hP 2 0 rfl rfl j (rfl) (by omega) (by omega) (v := nI K) (hKj) dX2_about_142 ?_
        refine z_callV (As := [.int (nI K)]) (rest := []) ⟨hx, hb, hml, hown, hts⟩ (c_X1_lordMay l dC dI cI cZ ma σ Hn B L C V M hI K (by omega)) (cwV 1 hts gX2_about_X1_lordMay rfl rfl rfl (by decide +kernel) ⟨Nat.le_of_ble_eq_true rfl, Nat.le_of_ble_eq_true rfl⟩) (hP.sub [1, 2, 3, 4, 5, 6, 7, 8, 9, 10] rfl) hK (va_recv hK hP (ci := 1) (q0 := 1) rfl rfl) rfl hl.1 rfl (Nat.le_of_ble_eq_true rfl) ⟨Nat.zero_le _, Nat.zero_le _⟩ dX2_about_143 (fun r hr => ?_)
        obtain rfl : r = nI (lordN L K) := hr
        exact hq (nI (lordN L K)) 146 ls dX2_about_146 (show (nI (lordN L K)) = aboutF σ Hn B (nI j) (nI 6) from (by rw [aboutF_in (w := 6) hj jH (by decide)]; show _ = nI (lordA σ j); rw [lordA_eq iL hKj (by omega) (by omega)]))
      | 7, _ =>
        refine lv_tableIn (off := 132) (tgt := 147) hx hb dX2_about_15 (by decide +kernel) (by decide +kernel) (by decide +kernel) (by decide) ?_
        refine lv_aload_n hx hb dX2_about_147 rfl (lv_at hl 0 rfl) ?_
        refine va_get (D := (dC, dI)) (ci := 2) (v := .ref (ma 0)) (C := RX2) (T := TX2) (N := 8) hx hb hts hin2 hown hK hP 0 rfl rfl 0 (by decide) L10 (fun _ h9 => h9) rfl dX2_about_148 ?_
        refine lv_aload_n hx hb dX2_about_151 rfl (lv_at hl 0 rfl) ?_
        refine va_get (D := (dC, dI)) (ci := 2) (v := .ref (ma 0)) (C := RX2) (T := TX2) (N := 8) hx hb hts hin2 hown hK hP 0 rfl rfl 0 (by decide) L10 (fun _ h9 => h9) rfl dX2_about_152 ?_
        refine va_get (D := (dC, dI)) (ci := 1) (v := .ref (ma 1)) (C := RX1) (T := TX1) (N := 17) hx hb hts hin1 hown hK hP 1 rfl rfl 5 (by decide) L82 (fun _ h9 => h9) rfl dX2_about_155 ?_
        refine lv_iload_n hx hb dX2_about_158 rfl (lv_at hl 1 rfl) ?_
        refine z_iald (D := (dC, dI)) hx hb hK hP 2 0 rfl rfl j (rfl) (by omega) (by omega) (v := nI K) (hKj) dX2_about_159 ?_
        refine z_callV (As := [.int (nI K)]) (rest := []) ⟨hx, hb, hml, hown, hts⟩ (c_X1_churchMay l dC dI cI cZ ma σ Hn B L C V M hI K (by omega)) (cwV 1 hts gX2_about_X1_churchMay rfl rfl rfl (by decide +kernel) ⟨Nat.le_of_ble_eq_true rfl, Nat.le_of_ble_eq_true rfl⟩) (hP.sub [1, 2, 3, 4, 5, 6, 7, 8, 9, 10] rfl) hK (va_recv hK hP (ci := 1) (q0 := 1) rfl rfl) rfl hl.1 rfl (Nat.le_of_ble_eq_true rfl) ⟨Nat.zero_le _, Nat.zero_le _⟩ dX2_about_160 (fun r hr => ?_)
        obtain rfl : r = nI (churchN C K) := hr
        exact hq (nI (churchN C K)) 163 ls dX2_about_163 (show (nI (churchN C K)) = aboutF σ Hn B (nI j) (nI 7) from (by rw [aboutF_in (w := 7) hj jH (by decide)]; show _ = nI (churchA σ j); rw [churchA_eq iC hKj (by omega) (by omega)]))
      | 8, _ =>
        refine lv_tableIn (off := 149) (tgt := 164) hx hb dX2_about_15 (by decide +kernel) (by decide +kernel) (by decide +kernel) (by decide) ?_
        refine lv_aload_n hx hb dX2_about_164 rfl (lv_at hl 0 rfl) ?_
        refine va_get (D := (dC, dI)) (ci := 2) (v := .ref (ma 0)) (C := RX2) (T := TX2) (N := 8) hx hb hts hin2 hown hK hP 0 rfl rfl 0 (by decide) L10 (fun _ h9 => h9) rfl dX2_about_165 ?_
        refine lv_iload_n hx hb dX2_about_168 rfl (lv_at hl 1 rfl) ?_
        refine z_callV (As := [.int (nI j)]) (rest := []) ⟨hx, hb, hml, hown, hts⟩ (c_X1_lossOf l dC dI cI cZ ma σ Hn B L C V M hI j (by omega)) (cwV 1 hts gX2_about_X1_lossOf rfl rfl rfl (by decide +kernel) ⟨Nat.le_of_ble_eq_true rfl, Nat.le_of_ble_eq_true rfl⟩) (hP.sub [1, 2, 3, 4, 5, 6, 7, 8, 9, 10] rfl) hK (va_recv hK hP (ci := 1) (q0 := 1) rfl rfl) rfl hl.1 rfl (Nat.le_of_ble_eq_true rfl) ⟨Nat.zero_le _, Nat.zero_le _⟩ dX2_about_169 (fun r hr => ?_)
        obtain rfl : r = lossA σ B j := hr
        exact hq (lossA σ B j) 172 ls dX2_about_172 (show (lossA σ B j) = aboutF σ Hn B (nI j) (nI 8) from (by rw [aboutF_in (w := 8) hj jH (by decide)]; rfl))
      | jj + 9, hjj => exact absurd hjj (by omega)
    · refine lv_tableOut (tgt := 173) hx hb dX2_about_15 (hasP_out 9 hw15) (by decide) ?_
      refine lv_bipush (v := (-102)) hx hb dX2_about_173 (by decide) ?_
      exact hq (-102) 175 ls dX2_about_175 (show (-102) = aboutF σ Hn B (nI j) what from (aboutF_o hj hw15).symm)
  · skip
    refine lv_bipush (v := (-101)) hx hb dX2_about_11 (by decide) ?_
    exact hq (-101) 13 ls dX2_about_13 (show (-101) = aboutF σ Hn B x what from (aboutF_u c_8).symm)
abbrev rm_c_X2_as : Room := { frames := 1, cells := 0, slots := 0, locals := 22 }
set_option maxHeartbeats 4000000 in
set_option maxRecDepth 100000 in
theorem c_X2_as (l : Launch) (dC : Nat → ClassId) (dI : Nat → Nat → Nat) (cI cZ : ClassId) (xd ma ka ta : Nat → Nat) (σ : St) (Hn B L C V M : Nat) (hI : Inv σ Hn B L C V M) (ξ : Nat → Int32) (hi : Int32) (x kd : Int32) : Met l yX2_as wsX2_as rm_c_X2_as (va_Pc [.ref (xd 0), .int x, .int kd] (fun U => va_P (dC, dI) vwCl (xo xd ma ka ta ξ hi :: mw cI cZ ma σ) U.heap ∧ va_K (dC, dI) vwCl (tyIZ cI cZ) U)) (vp_Si (fun r : Int32 => r = asF σ Hn x kd)) 0 0 (fun _ => False) := by
  refine z_pureI (cc := cX2_as) (maxL := 3) (av := [.ref (xd 0), .int x, .int kd]) (by decide) rfl (Nat.le_of_ble_eq_true rfl) ?_
  intro p e s m below meth c Q ls hx hb hml hown hts ⟨hP, hK⟩ hq hl
  have hown : s.vm.findClass RX2 = some m.cls := hown
  have hin1 : ∀ w ∈ wsX10, w ∈ wsX2_as := fun _ h => List.mem_cons_of_mem _ (List.mem_append_right _ h)
  have hin2 : ∀ w ∈ wsX20, w ∈ wsX2_as := fun _ h => List.mem_cons_of_mem _ (List.mem_append_left _ (List.mem_append_right _ h))
  have L10 := hts (.fieldLink RX2 10 "BestBeast" "manor" "LBestBeast$Manor;") (List.mem_of_getElem? (i := 1) rfl)
  have L82 := hts (.fieldLink RX2 82 "BestBeast$Manor" "kind" "[I") (List.mem_of_getElem? (i := 2) rfl)
  obtain ⟨⟨iL, iC, iV, iM, iH, iB, jL, jC, jV, jM, jH, jB⟩, iK, iDe, iAl, iHe, iWo, iO1, iO2⟩ := id hI
  have hl : lv_has ls 3 [(0, .ref (xd 0)), (1, .int x), (2, .int kd)] := hl
  refine lv_aload_n hx hb dX2_as_0 rfl (lv_at hl 0 rfl) ?_
  refine va_get (D := (dC, dI)) (ci := 2) (v := .ref (ma 0)) (C := RX2) (T := TX2) (N := 8) hx hb hts hin2 hown hK hP 0 rfl rfl 0 (by decide) L10 (fun _ h9 => h9) rfl dX2_as_1 ?_
  refine lv_iload_n hx hb dX2_as_4 rfl (lv_at hl 1 rfl) ?_
  refine z_callV (As := [.int x]) (rest := []) ⟨hx, hb, hml, hown, hts⟩ (c_X1_hasHolder l dC dI cI cZ ma σ Hn B L C V M hI.1 x) (cwV 1 hts gX2_as_X1_hasHolder rfl rfl rfl (by decide +kernel) ⟨Nat.le_of_ble_eq_true rfl, Nat.le_of_ble_eq_true rfl⟩) (hP.sub [1, 2, 3, 4, 5, 6, 7, 8, 9, 10] rfl) hK (va_recv hK hP (ci := 1) (q0 := 1) rfl rfl) rfl hl.1 rfl (Nat.le_of_ble_eq_true rfl) ⟨Nat.zero_le _, Nat.zero_le _⟩ dX2_as_5 (fun r hr => ?_)
  obtain rfl : r = zb (hasP Hn x) := hr
  refine z_ifne_b (P := hasP Hn x) (tgt := 14) hx hb dX2_as_8 (by decide) (fun (c_8 : hasP Hn x) => ?_) (fun (c_8 : ¬ (hasP Hn x)) => ?_)
  · skip
    obtain ⟨j, hj, rfl⟩ := c_8
    obtain ⟨K, hK4, hKj⟩ := iK j (by omega)
    refine lv_iload_n hx hb dX2_as_14 rfl (lv_at hl 2 rfl) ?_
    refine lv_iconst (v := nI 0) hx hb dX2_as_15 (by decide) ?_
    refine lv_iconst (v := nI 4) hx hb dX2_as_16 (by decide) ?_
    refine z_callS (As := [.int kd, .int (nI 0), .int (nI 4)]) (rest := []) ⟨hx, hb, hml, hown, hts⟩ (c_X2_within_n l kd 0 4 (by omega) (by omega)) (va_cwS 3 hts gX2_as_X2_within rfl rfl rfl (by decide +kernel) ⟨Nat.le_of_ble_eq_true rfl, Nat.le_of_ble_eq_true rfl⟩) rfl hl.1 rfl (Nat.le_of_ble_eq_true rfl) ⟨Nat.zero_le _, Nat.zero_le _⟩ dX2_as_17 (fun r hr => ?_)
    obtain rfl : r = zb (inP 0 4 kd) := hr
    refine z_ifne_b (P := inP 0 4 kd) (tgt := 26) hx hb dX2_as_20 (by decide) (fun (c_20 : inP 0 4 kd) => ?_) (fun (c_20 : ¬ (inP 0 4 kd)) => ?_)
    · skip
      refine lv_aload_n hx hb dX2_as_26 rfl (lv_at hl 0 rfl) ?_
      refine va_get (D := (dC, dI)) (ci := 2) (v := .ref (ma 0)) (C := RX2) (T := TX2) (N := 8) hx hb hts hin2 hown hK hP 0 rfl rfl 0 (by decide) L10 (fun _ h9 => h9) rfl dX2_as_27 ?_
      refine va_get (D := (dC, dI)) (ci := 1) (v := .ref (ma 1)) (C := RX1) (T := TX1) (N := 17) hx hb hts hin1 hown hK hP 1 rfl rfl 5 (by decide) L82 (fun _ h9 => h9) rfl dX2_as_30 ?_
      refine lv_iload_n hx hb dX2_as_33 rfl (lv_at hl 1 rfl) ?_
      refine z_iald (D := (dC, dI)) hx hb hK hP 2 0 rfl rfl j (rfl) (by omega) (by omega) (v := (σ 1) j) (rfl) dX2_as_34 ?_
      refine lv_iload_n hx hb dX2_as_35 rfl (lv_at hl 2 rfl) ?_
      refine z_callS (As := [.int ((σ 1) j), .int kd]) (rest := []) ⟨hx, hb, hml, hown, hts⟩ (c_X2_isSuch l ((σ 1) j) kd) (va_cwS 2 hts gX2_as_X2_isSuch rfl rfl rfl (by decide +kernel) ⟨Nat.le_of_ble_eq_true rfl, Nat.le_of_ble_eq_true rfl⟩) rfl hl.1 rfl (Nat.le_of_ble_eq_true rfl) ⟨Nat.zero_le _, Nat.zero_le _⟩ dX2_as_36 (fun r hr => ?_)
      obtain rfl : r = zb (suchP ((σ 1) j) kd) := hr
      refine z_ifeq_b (P := suchP ((σ 1) j) kd) (tgt := 46) hx hb dX2_as_39 (by decide) (fun (c_39 : ¬ (suchP ((σ 1) j) kd)) => ?_) (fun (c_39 : suchP ((σ 1) j) kd) => ?_)
      · skip
        refine lv_iconst (v := (-1)) hx hb dX2_as_46 (by decide) ?_
        exact hq (-1) 47 ls dX2_as_47 (show (-1) = asF σ Hn (nI j) kd from (by unfold asF; rw [zif_t (hasP_nI hj), zif_t c_20, tn_nI (by omega), zif_f c_39]))
      · skip
        refine lv_iload_n hx hb dX2_as_42 rfl (lv_at hl 1 rfl) ?_
        refine lv_goto (tgt := 47) hx hb dX2_as_43 (by decide) ?_
        exact hq (nI j) 47 ls dX2_as_47 (show (nI j) = asF σ Hn (nI j) kd from (by unfold asF; rw [zif_t (hasP_nI hj), zif_t c_20, tn_nI (by omega), zif_t c_39]))
    · skip
      refine lv_bipush (v := (-102)) hx hb dX2_as_23 (by decide) ?_
      exact hq (-102) 25 ls dX2_as_25 (show (-102) = asF σ Hn (nI j) kd from (by unfold asF; rw [zif_t (hasP_nI hj), zif_f c_20]))
  · skip
    refine lv_bipush (v := (-101)) hx hb dX2_as_11 (by decide) ?_
    exact hq (-101) 13 ls dX2_as_13 (show (-101) = asF σ Hn x kd from (by unfold asF; rw [zif_f c_8]))
abbrev rm_c_X2_beastOf : Room := { frames := 1, cells := 0, slots := 0, locals := 21 }
set_option maxHeartbeats 4000000 in
set_option maxRecDepth 100000 in
theorem c_X2_beastOf (l : Launch) (dC : Nat → ClassId) (dI : Nat → Nat → Nat) (cI cZ : ClassId) (xd ma ka ta : Nat → Nat) (σ : St) (Hn B L C V M : Nat) (hI : Inv σ Hn B L C V M) (ξ : Nat → Int32) (hi : Int32) (x what : Int32) : Met l yX2_beastOf wsX2_beastOf rm_c_X2_beastOf (va_Pc [.ref (xd 0), .int x, .int what] (fun U => va_P (dC, dI) vwCl (xo xd ma ka ta ξ hi :: mw cI cZ ma σ) U.heap ∧ va_K (dC, dI) vwCl (tyIZ cI cZ) U)) (vp_Si (fun r : Int32 => r = beastOfF σ B x what)) 0 0 (fun _ => False) := by
  refine z_pureI (cc := cX2_beastOf) (maxL := 3) (av := [.ref (xd 0), .int x, .int what]) (by decide) rfl (Nat.le_of_ble_eq_true rfl) ?_
  intro p e s m below meth c Q ls hx hb hml hown hts ⟨hP, hK⟩ hq hl
  have hown : s.vm.findClass RX2 = some m.cls := hown
  have hin1 : ∀ w ∈ wsX10, w ∈ wsX2_beastOf := fun _ h => List.mem_cons_of_mem _ (List.mem_append_right _ h)
  have hin2 : ∀ w ∈ wsX20, w ∈ wsX2_beastOf := fun _ h => List.mem_cons_of_mem _ (List.mem_append_left _ (List.mem_append_right _ h))
  have L10 := hts (.fieldLink RX2 10 "BestBeast" "manor" "LBestBeast$Manor;") (List.mem_of_getElem? (i := 1) rfl)
  have L121 := hts (.fieldLink RX2 121 "BestBeast$Manor" "worth" "[I") (List.mem_of_getElem? (i := 2) rfl)
  have L124 := hts (.fieldLink RX2 124 "BestBeast$Manor" "owner" "[I") (List.mem_of_getElem? (i := 3) rfl)
  have L127 := hts (.fieldLink RX2 127 "BestBeast$Manor" "giver" "[I") (List.mem_of_getElem? (i := 4) rfl)
  have L130 := hts (.fieldLink RX2 130 "BestBeast$Manor" "givenIn" "[I") (List.mem_of_getElem? (i := 5) rfl)
  have L133 := hts (.fieldLink RX2 133 "BestBeast$Manor" "told" "[I") (List.mem_of_getElem? (i := 6) rfl)
  obtain ⟨⟨iL, iC, iV, iM, iH, iB, jL, jC, jV, jM, jH, jB⟩, iK, iDe, iAl, iHe, iWo, iO1, iO2⟩ := id hI
  have hl : lv_has ls 3 [(0, .ref (xd 0)), (1, .int x), (2, .int what)] := hl
  refine lv_aload_n hx hb dX2_beastOf_0 rfl (lv_at hl 0 rfl) ?_
  refine va_get (D := (dC, dI)) (ci := 2) (v := .ref (ma 0)) (C := RX2) (T := TX2) (N := 8) hx hb hts hin2 hown hK hP 0 rfl rfl 0 (by decide) L10 (fun _ h9 => h9) rfl dX2_beastOf_1 ?_
  refine lv_iload_n hx hb dX2_beastOf_4 rfl (lv_at hl 1 rfl) ?_
  refine z_callV (As := [.int x]) (rest := []) ⟨hx, hb, hml, hown, hts⟩ (c_X1_hasBeast l dC dI cI cZ ma σ Hn B L C V M hI.1 x) (cwV 1 hts gX2_beastOf_X1_hasBeast rfl rfl rfl (by decide +kernel) ⟨Nat.le_of_ble_eq_true rfl, Nat.le_of_ble_eq_true rfl⟩) (hP.sub [1, 2, 3, 4, 5, 6, 7, 8, 9, 10] rfl) hK (va_recv hK hP (ci := 1) (q0 := 1) rfl rfl) rfl hl.1 rfl (Nat.le_of_ble_eq_true rfl) ⟨Nat.zero_le _, Nat.zero_le _⟩ dX2_beastOf_5 (fun r hr => ?_)
  obtain rfl : r = zb (hasP B x) := hr
  refine z_ifne_b (P := hasP B x) (tgt := 14) hx hb dX2_beastOf_8 (by decide) (fun (c_8 : hasP B x) => ?_) (fun (c_8 : ¬ (hasP B x)) => ?_)
  · skip
    obtain ⟨b, hb5, rfl⟩ := c_8
    refine lv_iload_n hx hb dX2_beastOf_14 rfl (lv_at hl 2 rfl) ?_
    by_cases hw15 : hasP 5 what
    · obtain ⟨jj, hjj, rfl⟩ := hw15
      match jj, hjj with
      | 0, _ =>
        refine lv_tableIn (off := 33) (tgt := 48) hx hb dX2_beastOf_15 (by decide +kernel) (by decide +kernel) (by decide +kernel) (by decide) ?_
        refine lv_aload_n hx hb dX2_beastOf_48 rfl (lv_at hl 0 rfl) ?_
        refine va_get (D := (dC, dI)) (ci := 2) (v := .ref (ma 0)) (C := RX2) (T := TX2) (N := 8) hx hb hts hin2 hown hK hP 0 rfl rfl 0 (by decide) L10 (fun _ h9 => h9) rfl dX2_beastOf_49 ?_
        refine va_get (D := (dC, dI)) (ci := 1) (v := .ref (ma 5)) (C := RX1) (T := TX1) (N := 17) hx hb hts hin1 hown hK hP 1 rfl rfl 10 (by decide) L121 (fun _ h9 => h9) rfl dX2_beastOf_52 ?_
        refine lv_iload_n hx hb dX2_beastOf_55 rfl (lv_at hl 1 rfl) ?_
        refine z_iald (D := (dC, dI)) hx hb hK hP 6 0 rfl rfl b (rfl) (by omega) (by omega) (v := (σ 5) b) (rfl) dX2_beastOf_56 ?_
        exact hq ((σ 5) b) 57 ls dX2_beastOf_57 (show ((σ 5) b) = beastOfF σ B (nI b) (nI 0) from (by rw [beastOfF_in (w := 0) hb5 jB (by decide)]))
      | 1, _ =>
        refine lv_tableIn (off := 43) (tgt := 58) hx hb dX2_beastOf_15 (by decide +kernel) (by decide +kernel) (by decide +kernel) (by decide) ?_
        refine lv_aload_n hx hb dX2_beastOf_58 rfl (lv_at hl 0 rfl) ?_
        refine va_get (D := (dC, dI)) (ci := 2) (v := .ref (ma 0)) (C := RX2) (T := TX2) (N := 8) hx hb hts hin2 hown hK hP 0 rfl rfl 0 (by decide) L10 (fun _ h9 => h9) rfl dX2_beastOf_59 ?_
        refine va_get (D := (dC, dI)) (ci := 1) (v := .ref (ma 6)) (C := RX1) (T := TX1) (N := 17) hx hb hts hin1 hown hK hP 1 rfl rfl 11 (by decide) L124 (fun _ h9 => h9) rfl dX2_beastOf_62 ?_
        refine lv_iload_n hx hb dX2_beastOf_65 rfl (lv_at hl 1 rfl) ?_
        refine z_iald (D := (dC, dI)) hx hb hK hP 7 0 rfl rfl b (rfl) (by omega) (by omega) (v := (σ 6) b) (rfl) dX2_beastOf_66 ?_
        exact hq ((σ 6) b) 67 ls dX2_beastOf_67 (show ((σ 6) b) = beastOfF σ B (nI b) (nI 1) from (by rw [beastOfF_in (w := 1) hb5 jB (by decide)]))
      | 2, _ =>
        refine lv_tableIn (off := 53) (tgt := 68) hx hb dX2_beastOf_15 (by decide +kernel) (by decide +kernel) (by decide +kernel) (by decide) ?_
        refine lv_aload_n hx hb dX2_beastOf_68 rfl (lv_at hl 0 rfl) ?_
        refine va_get (D := (dC, dI)) (ci := 2) (v := .ref (ma 0)) (C := RX2) (T := TX2) (N := 8) hx hb hts hin2 hown hK hP 0 rfl rfl 0 (by decide) L10 (fun _ h9 => h9) rfl dX2_beastOf_69 ?_
        refine va_get (D := (dC, dI)) (ci := 1) (v := .ref (ma 7)) (C := RX1) (T := TX1) (N := 17) hx hb hts hin1 hown hK hP 1 rfl rfl 12 (by decide) L127 (fun _ h9 => h9) rfl dX2_beastOf_72 ?_
        refine lv_iload_n hx hb dX2_beastOf_75 rfl (lv_at hl 1 rfl) ?_
        refine z_iald (D := (dC, dI)) hx hb hK hP 8 0 rfl rfl b (rfl) (by omega) (by omega) (v := (σ 7) b) (rfl) dX2_beastOf_76 ?_
        exact hq ((σ 7) b) 77 ls dX2_beastOf_77 (show ((σ 7) b) = beastOfF σ B (nI b) (nI 2) from (by rw [beastOfF_in (w := 2) hb5 jB (by decide)]))
      | 3, _ =>
        refine lv_tableIn (off := 63) (tgt := 78) hx hb dX2_beastOf_15 (by decide +kernel) (by decide +kernel) (by decide +kernel) (by decide) ?_
        refine lv_aload_n hx hb dX2_beastOf_78 rfl (lv_at hl 0 rfl) ?_
        refine va_get (D := (dC, dI)) (ci := 2) (v := .ref (ma 0)) (C := RX2) (T := TX2) (N := 8) hx hb hts hin2 hown hK hP 0 rfl rfl 0 (by decide) L10 (fun _ h9 => h9) rfl dX2_beastOf_79 ?_
        refine va_get (D := (dC, dI)) (ci := 1) (v := .ref (ma 8)) (C := RX1) (T := TX1) (N := 17) hx hb hts hin1 hown hK hP 1 rfl rfl 13 (by decide) L130 (fun _ h9 => h9) rfl dX2_beastOf_82 ?_
        refine lv_iload_n hx hb dX2_beastOf_85 rfl (lv_at hl 1 rfl) ?_
        refine z_iald (D := (dC, dI)) hx hb hK hP 9 0 rfl rfl b (rfl) (by omega) (by omega) (v := (σ 8) b) (rfl) dX2_beastOf_86 ?_
        exact hq ((σ 8) b) 87 ls dX2_beastOf_87 (show ((σ 8) b) = beastOfF σ B (nI b) (nI 3) from (by rw [beastOfF_in (w := 3) hb5 jB (by decide)]))
      | 4, _ =>
        refine lv_tableIn (off := 73) (tgt := 88) hx hb dX2_beastOf_15 (by decide +kernel) (by decide +kernel) (by decide +kernel) (by decide) ?_
        refine lv_aload_n hx hb dX2_beastOf_88 rfl (lv_at hl 0 rfl) ?_
        refine va_get (D := (dC, dI)) (ci := 2) (v := .ref (ma 0)) (C := RX2) (T := TX2) (N := 8) hx hb hts hin2 hown hK hP 0 rfl rfl 0 (by decide) L10 (fun _ h9 => h9) rfl dX2_beastOf_89 ?_
        refine va_get (D := (dC, dI)) (ci := 1) (v := .ref (ma 9)) (C := RX1) (T := TX1) (N := 17) hx hb hts hin1 hown hK hP 1 rfl rfl 14 (by decide) L133 (fun _ h9 => h9) rfl dX2_beastOf_92 ?_
        refine lv_iload_n hx hb dX2_beastOf_95 rfl (lv_at hl 1 rfl) ?_
        refine z_iald (D := (dC, dI)) hx hb hK hP 10 0 rfl rfl b (rfl) (by omega) (by omega) (v := (σ 9) b) (rfl) dX2_beastOf_96 ?_
        exact hq ((σ 9) b) 97 ls dX2_beastOf_97 (show ((σ 9) b) = beastOfF σ B (nI b) (nI 4) from (by rw [beastOfF_in (w := 4) hb5 jB (by decide)]))
      | jj + 5, hjj => exact absurd hjj (by omega)
    · refine lv_tableOut (tgt := 98) hx hb dX2_beastOf_15 (hasP_out 5 hw15) (by decide) ?_
      refine lv_bipush (v := (-102)) hx hb dX2_beastOf_98 (by decide) ?_
      exact hq (-102) 100 ls dX2_beastOf_100 (show (-102) = beastOfF σ B (nI b) what from (beastOfF_o hb5 hw15).symm)
  · skip
    refine lv_bipush (v := (-101)) hx hb dX2_beastOf_11 (by decide) ?_
    exact hq (-101) 13 ls dX2_beastOf_13 (show (-101) = beastOfF σ B x what from (beastOfF_u c_8).symm)
abbrev rm_c_X2_safe : Room := { frames := 5, cells := 0, slots := 0, locals := 115 }
set_option maxHeartbeats 4000000 in
set_option maxRecDepth 100000 in
theorem c_X2_safe (l : Launch) (dC : Nat → ClassId) (dI : Nat → Nat → Nat) (cI cZ : ClassId) (xd ma ka ta : Nat → Nat) (σ : St) (Hn B L C V M : Nat) (hI : Inv σ Hn B L C V M) (ξ : Nat → Int32) (hi : Int32) (x what : Int32) : Met l yX2_safe wsX2_safe rm_c_X2_safe (va_Pc [.ref (xd 0), .int x, .int what] (fun U => va_P (dC, dI) vwCl (xo xd ma ka ta ξ hi :: mw cI cZ ma σ) U.heap ∧ va_K (dC, dI) vwCl (tyIZ cI cZ) U)) (vp_Si (fun r : Int32 => r = safeF σ Hn B x what)) 0 0 (fun _ => False) := by
  refine z_pureI (cc := cX2_safe) (maxL := 4) (av := [.ref (xd 0), .int x, .int what]) (by decide) rfl (Nat.le_of_ble_eq_true rfl) ?_
  intro p e s m below meth c Q ls hx hb hml hown hts ⟨hP, hK⟩ hq hl
  have hown : s.vm.findClass RX2 = some m.cls := hown
  have hin1 : ∀ w ∈ wsX10, w ∈ wsX2_safe := fun _ h => List.mem_cons_of_mem _ (List.mem_append_right _ h)
  have hin2 : ∀ w ∈ wsX20, w ∈ wsX2_safe := fun _ h => List.mem_cons_of_mem _ (List.mem_append_left _ (List.mem_append_right _ h))
  have L10 := hts (.fieldLink RX2 10 "BestBeast" "manor" "LBestBeast$Manor;") (List.mem_of_getElem? (i := 1) rfl)
  have L88 := hts (.fieldLink RX2 88 "BestBeast$Manor" "alive" "[Z") (List.mem_of_getElem? (i := 2) rfl)
  obtain ⟨⟨iL, iC, iV, iM, iH, iB, jL, jC, jV, jM, jH, jB⟩, iK, iDe, iAl, iHe, iWo, iO1, iO2⟩ := id hI
  have hl : lv_has ls 4 [(0, .ref (xd 0)), (1, .int x), (2, .int what)] := hl
  refine lv_aload_n hx hb dX2_safe_0 rfl (lv_at hl 0 rfl) ?_
  refine va_get (D := (dC, dI)) (ci := 2) (v := .ref (ma 0)) (C := RX2) (T := TX2) (N := 8) hx hb hts hin2 hown hK hP 0 rfl rfl 0 (by decide) L10 (fun _ h9 => h9) rfl dX2_safe_1 ?_
  refine lv_iload_n hx hb dX2_safe_4 rfl (lv_at hl 1 rfl) ?_
  refine z_callV (As := [.int x]) (rest := []) ⟨hx, hb, hml, hown, hts⟩ (c_X1_hasHolder l dC dI cI cZ ma σ Hn B L C V M hI.1 x) (cwV 1 hts gX2_safe_X1_hasHolder rfl rfl rfl (by decide +kernel) ⟨Nat.le_of_ble_eq_true rfl, Nat.le_of_ble_eq_true rfl⟩) (hP.sub [1, 2, 3, 4, 5, 6, 7, 8, 9, 10] rfl) hK (va_recv hK hP (ci := 1) (q0 := 1) rfl rfl) rfl hl.1 rfl (Nat.le_of_ble_eq_true rfl) ⟨Nat.zero_le _, Nat.zero_le _⟩ dX2_safe_5 (fun r hr => ?_)
  obtain rfl : r = zb (hasP Hn x) := hr
  refine z_ifne_b (P := hasP Hn x) (tgt := 14) hx hb dX2_safe_8 (by decide) (fun (c_8 : hasP Hn x) => ?_) (fun (c_8 : ¬ (hasP Hn x)) => ?_)
  · skip
    obtain ⟨j, hj, rfl⟩ := c_8
    obtain ⟨K, hK4, hKj⟩ := iK j (by omega)
    refine lv_iload_n hx hb dX2_safe_14 rfl (lv_at hl 2 rfl) ?_
    refine lv_iconst (v := nI 0) hx hb dX2_safe_15 (by decide) ?_
    refine lv_iconst (v := nI 1) hx hb dX2_safe_16 (by decide) ?_
    refine z_callS (As := [.int what, .int (nI 0), .int (nI 1)]) (rest := []) ⟨hx, hb, hml, hown, hts⟩ (c_X2_within_n l what 0 1 (by omega) (by omega)) (va_cwS 3 hts gX2_safe_X2_within rfl rfl rfl (by decide +kernel) ⟨Nat.le_of_ble_eq_true rfl, Nat.le_of_ble_eq_true rfl⟩) rfl hl.1 rfl (Nat.le_of_ble_eq_true rfl) ⟨Nat.zero_le _, Nat.zero_le _⟩ dX2_safe_17 (fun r hr => ?_)
    obtain rfl : r = zb (inP 0 1 what) := hr
    refine z_ifne_b (P := inP 0 1 what) (tgt := 26) hx hb dX2_safe_20 (by decide) (fun (c_20 : inP 0 1 what) => ?_) (fun (c_20 : ¬ (inP 0 1 what)) => ?_)
    · skip
      obtain ⟨w, -, hw1, rfl⟩ := c_20
      refine lv_aload_n hx hb dX2_safe_26 rfl (lv_at hl 0 rfl) ?_
      refine va_get (D := (dC, dI)) (ci := 2) (v := .ref (ma 0)) (C := RX2) (T := TX2) (N := 8) hx hb hts hin2 hown hK hP 0 rfl rfl 0 (by decide) L10 (fun _ h9 => h9) rfl dX2_safe_27 ?_
      refine va_get (D := (dC, dI)) (ci := 1) (v := .ref (ma 3)) (C := RX1) (T := TX1) (N := 17) hx hb hts hin1 hown hK hP 1 rfl rfl 8 (by decide) L88 (fun _ h9 => h9) rfl dX2_safe_30 ?_
      refine lv_iload_n hx hb dX2_safe_33 rfl (lv_at hl 1 rfl) ?_
      refine z_zald (D := (dC, dI)) hx hb hK hP 4 1 rfl rfl j (rfl) (by omega) (by omega) (v := (σ 3) j) (rfl) dX2_safe_34 ?_
      refine lv_if_ne (tgt := 41) hx hb dX2_safe_35 (by decide) (fun (c_35 : ¬ ((σ 3) j) = 0) => ?_) (fun (c_35 : ((σ 3) j) = 0) => ?_)
      · skip
        refine lv_aload_n hx hb dX2_safe_41 rfl (lv_at hl 0 rfl) ?_
        refine va_get (D := (dC, dI)) (ci := 2) (v := .ref (ma 0)) (C := RX2) (T := TX2) (N := 8) hx hb hts hin2 hown hK hP 0 rfl rfl 0 (by decide) L10 (fun _ h9 => h9) rfl dX2_safe_42 ?_
        refine lv_iload_n hx hb dX2_safe_45 rfl (lv_at hl 1 rfl) ?_
        refine z_callV (As := [.int (nI j)]) (rest := []) ⟨hx, hb, hml, hown, hts⟩ (c_X1_fewestToBeSafe l dC dI cI cZ ma σ Hn B L C V M hI j (by omega)) (cwV 1 hts gX2_safe_X1_fewestToBeSafe rfl rfl rfl (by decide +kernel) ⟨Nat.le_of_ble_eq_true rfl, Nat.le_of_ble_eq_true rfl⟩) (hP.sub [1, 2, 3, 4, 5, 6, 7, 8, 9, 10] rfl) hK (va_recv hK hP (ci := 1) (q0 := 1) rfl rfl) rfl hl.1 rfl (Nat.le_of_ble_eq_true rfl) ⟨Nat.zero_le _, Nat.zero_le _⟩ dX2_safe_46 (fun r hr => ?_)
        obtain rfl : r = fewF σ B j := hr
        refine lv_istore_n (lv' := [(3, .int (fewF σ B j)), (0, .ref (xd 0)), (1, .int (nI j)), (2, .int (nI w))]) hx hb dX2_safe_49 rfl hl (by decide) rfl (fun ls hl => ?_)
        refine lv_iload_n hx hb dX2_safe_50 rfl (lv_at hl 3 rfl) ?_
        refine z_if_ne (a := w) (tgt := 66) hx hb (by omega) dX2_safe_51 (by decide) (fun (c_51 : w ≠ 0) => ?_) (fun (c_51 : w = 0) => ?_)
        · skip
          refine lv_iload_n hx hb dX2_safe_66 rfl (lv_at hl 0 rfl) ?_
          exact hq (fewF σ B j) 67 ls dX2_safe_67 (show (fewF σ B j) = safeF σ Hn B (nI j) (nI w) from (by rw [safeF_in hj jH hw1 (al_1 (iAl j (by omega)) c_35)]; unfold safeN; rw [if_neg c_51]))
        · skip
          refine lv_iload_n hx hb dX2_safe_54 rfl (lv_at hl 0 rfl) ?_
          refine lv_iconst (v := (-1)) hx hb dX2_safe_55 (by decide) ?_
          refine lv_icmp_eq (tgt := 66) hx hb dX2_safe_56 (by decide) (fun (c_56 : (fewF σ B j) = (-1)) => ?_) (fun (c_56 : ¬ ((fewF σ B j) = (-1))) => ?_)
          · skip
            refine lv_iload_n hx hb dX2_safe_66 rfl (lv_at hl 0 rfl) ?_
            exact hq (fewF σ B j) 67 ls dX2_safe_67 (show (fewF σ B j) = safeF σ Hn B (nI j) (nI w) from (by rw [safeF_in hj jH hw1 (al_1 (iAl j (by omega)) c_35)]; unfold safeN; rw [if_pos c_51, if_pos c_56]; exact c_56))
          · skip
            refine lv_iload_n hx hb dX2_safe_59 rfl (lv_at hl 0 rfl) ?_
            refine z_callS (As := [.int (fewF σ B j)]) (rest := []) ⟨hx, hb, hml, hown, hts⟩ (c_J6_bitCount_0f7a4 l (fewF σ B j)) (va_cwS 1 hts gX2_safe_J6_bitCount_0f7a4 rfl rfl rfl (by decide +kernel) ⟨Nat.le_of_ble_eq_true rfl, Nat.le_of_ble_eq_true rfl⟩) rfl hl.1 rfl (Nat.le_of_ble_eq_true rfl) ⟨Nat.zero_le _, Nat.zero_le _⟩ dX2_safe_60 (fun r hr => ?_)
            obtain rfl : r = bcF (fewF σ B j) := hr
            refine z_topi (v := nI (ones (tn (fewF σ B j)))) (bc_tn ((fewR_in 64).resolve_left c_56)) ?_
            refine lv_goto (tgt := 67) hx hb dX2_safe_63 (by decide) ?_
            exact hq (nI (ones (tn (fewF σ B j)))) 67 ls dX2_safe_67 (show (nI (ones (tn (fewF σ B j)))) = safeF σ Hn B (nI j) (nI w) from (by rw [safeF_in hj jH hw1 (al_1 (iAl j (by omega)) c_35)]; unfold safeN; rw [if_pos c_51, if_neg c_56]))
      · skip
        refine lv_bipush (v := (-103)) hx hb dX2_safe_38 (by decide) ?_
        exact hq (-103) 40 ls dX2_safe_40 (show (-103) = safeF σ Hn B (nI j) (nI w) from (by unfold safeF; rw [zif_t (hasP_nI hj), zif_t (inP_nI (Nat.zero_le _) hw1), tn_nI (by omega), zif_f (al_0 c_35)]))
    · skip
      refine lv_bipush (v := (-102)) hx hb dX2_safe_23 (by decide) ?_
      exact hq (-102) 25 ls dX2_safe_25 (show (-102) = safeF σ Hn B (nI j) what from (by unfold safeF; rw [zif_t (hasP_nI hj), zif_f c_20]))
  · skip
    refine lv_bipush (v := (-101)) hx hb dX2_safe_11 (by decide) ?_
    exact hq (-101) 13 ls dX2_safe_13 (show (-101) = safeF σ Hn B x what from (by unfold safeF; rw [zif_f c_8]))
abbrev rm_c_X2_giving : Room := { frames := 5, cells := 0, slots := 0, locals := 126 }
set_option maxHeartbeats 4000000 in
set_option maxRecDepth 100000 in
theorem c_X2_giving (l : Launch) (dC : Nat → ClassId) (dI : Nat → Nat → Nat) (cI cZ : ClassId) (xd ma ka ta : Nat → Nat) (σ : St) (Hn B L C V M : Nat) (hI : Inv σ Hn B L C V M) (ξ : Nat → Int32) (hi : Int32) (x y : Int32) : Met l yX2_giving wsX2_giving rm_c_X2_giving (va_Pc [.ref (xd 0), .int x, .int y] (fun U => va_P (dC, dI) vwCl (xo xd ma ka ta ξ hi :: mw cI cZ ma σ) U.heap ∧ va_K (dC, dI) vwCl (tyIZ cI cZ) U)) (vp_Si (fun r : Int32 => r = givingF σ Hn B x y)) 0 0 (fun _ => False) := by
  refine z_pureI (cc := cX2_giving) (maxL := 3) (av := [.ref (xd 0), .int x, .int y]) (by decide) rfl (Nat.le_of_ble_eq_true rfl) ?_
  intro p e s m below meth c Q ls hx hb hml hown hts ⟨hP, hK⟩ hq hl
  have hown : s.vm.findClass RX2 = some m.cls := hown
  have hin1 : ∀ w ∈ wsX10, w ∈ wsX2_giving := fun _ h => List.mem_cons_of_mem _ (List.mem_append_right _ h)
  have hin2 : ∀ w ∈ wsX20, w ∈ wsX2_giving := fun _ h => List.mem_cons_of_mem _ (List.mem_append_left _ (List.mem_append_right _ h))
  have L10 := hts (.fieldLink RX2 10 "BestBeast" "manor" "LBestBeast$Manor;") (List.mem_of_getElem? (i := 1) rfl)
  have L88 := hts (.fieldLink RX2 88 "BestBeast$Manor" "alive" "[Z") (List.mem_of_getElem? (i := 2) rfl)
  obtain ⟨⟨iL, iC, iV, iM, iH, iB, jL, jC, jV, jM, jH, jB⟩, iK, iDe, iAl, iHe, iWo, iO1, iO2⟩ := id hI
  have hl : lv_has ls 3 [(0, .ref (xd 0)), (1, .int x), (2, .int y)] := hl
  refine lv_aload_n hx hb dX2_giving_0 rfl (lv_at hl 0 rfl) ?_
  refine va_get (D := (dC, dI)) (ci := 2) (v := .ref (ma 0)) (C := RX2) (T := TX2) (N := 8) hx hb hts hin2 hown hK hP 0 rfl rfl 0 (by decide) L10 (fun _ h9 => h9) rfl dX2_giving_1 ?_
  refine lv_iload_n hx hb dX2_giving_4 rfl (lv_at hl 1 rfl) ?_
  refine z_callV (As := [.int x]) (rest := []) ⟨hx, hb, hml, hown, hts⟩ (c_X1_hasHolder l dC dI cI cZ ma σ Hn B L C V M hI.1 x) (cwV 1 hts gX2_giving_X1_hasHolder rfl rfl rfl (by decide +kernel) ⟨Nat.le_of_ble_eq_true rfl, Nat.le_of_ble_eq_true rfl⟩) (hP.sub [1, 2, 3, 4, 5, 6, 7, 8, 9, 10] rfl) hK (va_recv hK hP (ci := 1) (q0 := 1) rfl rfl) rfl hl.1 rfl (Nat.le_of_ble_eq_true rfl) ⟨Nat.zero_le _, Nat.zero_le _⟩ dX2_giving_5 (fun r hr => ?_)
  obtain rfl : r = zb (hasP Hn x) := hr
  refine z_ifne_b (P := hasP Hn x) (tgt := 14) hx hb dX2_giving_8 (by decide) (fun (c_8 : hasP Hn x) => ?_) (fun (c_8 : ¬ (hasP Hn x)) => ?_)
  · skip
    obtain ⟨j, hj, rfl⟩ := c_8
    obtain ⟨K, hK4, hKj⟩ := iK j (by omega)
    refine lv_iload_n hx hb dX2_giving_14 rfl (lv_at hl 2 rfl) ?_
    refine lv_iconst (v := nI 1) hx hb dX2_giving_15 (by decide) ?_
    refine lv_iconst (v := nI 4) hx hb dX2_giving_16 (by decide) ?_
    refine z_callS (As := [.int y, .int (nI 1), .int (nI 4)]) (rest := []) ⟨hx, hb, hml, hown, hts⟩ (c_X2_within_n l y 1 4 (by omega) (by omega)) (va_cwS 3 hts gX2_giving_X2_within rfl rfl rfl (by decide +kernel) ⟨Nat.le_of_ble_eq_true rfl, Nat.le_of_ble_eq_true rfl⟩) rfl hl.1 rfl (Nat.le_of_ble_eq_true rfl) ⟨Nat.zero_le _, Nat.zero_le _⟩ dX2_giving_17 (fun r hr => ?_)
    obtain rfl : r = zb (inP 1 4 y) := hr
    refine z_ifne_b (P := inP 1 4 y) (tgt := 26) hx hb dX2_giving_20 (by decide) (fun (c_20 : inP 1 4 y) => ?_) (fun (c_20 : ¬ (inP 1 4 y)) => ?_)
    · skip
      obtain ⟨w, hw0, hw1, rfl⟩ := c_20
      refine lv_aload_n hx hb dX2_giving_26 rfl (lv_at hl 0 rfl) ?_
      refine va_get (D := (dC, dI)) (ci := 2) (v := .ref (ma 0)) (C := RX2) (T := TX2) (N := 8) hx hb hts hin2 hown hK hP 0 rfl rfl 0 (by decide) L10 (fun _ h9 => h9) rfl dX2_giving_27 ?_
      refine va_get (D := (dC, dI)) (ci := 1) (v := .ref (ma 3)) (C := RX1) (T := TX1) (N := 17) hx hb hts hin1 hown hK hP 1 rfl rfl 8 (by decide) L88 (fun _ h9 => h9) rfl dX2_giving_30 ?_
      refine lv_iload_n hx hb dX2_giving_33 rfl (lv_at hl 1 rfl) ?_
      refine z_zald (D := (dC, dI)) hx hb hK hP 4 1 rfl rfl j (rfl) (by omega) (by omega) (v := (σ 3) j) (rfl) dX2_giving_34 ?_
      refine lv_if_ne (tgt := 41) hx hb dX2_giving_35 (by decide) (fun (c_35 : ¬ ((σ 3) j) = 0) => ?_) (fun (c_35 : ((σ 3) j) = 0) => ?_)
      · skip
        refine lv_aload_n hx hb dX2_giving_41 rfl (lv_at hl 0 rfl) ?_
        refine va_get (D := (dC, dI)) (ci := 2) (v := .ref (ma 0)) (C := RX2) (T := TX2) (N := 8) hx hb hts hin2 hown hK hP 0 rfl rfl 0 (by decide) L10 (fun _ h9 => h9) rfl dX2_giving_42 ?_
        refine lv_iload_n hx hb dX2_giving_45 rfl (lv_at hl 1 rfl) ?_
        refine lv_iload_n hx hb dX2_giving_46 rfl (lv_at hl 2 rfl) ?_
        refine z_callV (As := [.int (nI j), .int (nI w)]) (rest := []) ⟨hx, hb, hml, hown, hts⟩ (c_X1_bestGift l dC dI cI cZ ma σ Hn B L C V M hI j (by omega) w (by omega)) (cwV 2 hts gX2_giving_X1_bestGift rfl rfl rfl (by decide +kernel) ⟨Nat.le_of_ble_eq_true rfl, Nat.le_of_ble_eq_true rfl⟩) (hP.sub [1, 2, 3, 4, 5, 6, 7, 8, 9, 10] rfl) hK (va_recv hK hP (ci := 1) (q0 := 1) rfl rfl) rfl hl.1 rfl (Nat.le_of_ble_eq_true rfl) ⟨Nat.zero_le _, Nat.zero_le _⟩ dX2_giving_47 (fun r hr => ?_)
        obtain rfl : r = giveF σ B j w := hr
        exact hq (giveF σ B j w) 50 ls dX2_giving_50 (show (giveF σ B j w) = givingF σ Hn B (nI j) (nI w) from (givingF_in hj jH hw0 hw1 (al_1 (iAl j (by omega)) c_35)).symm)
      · skip
        refine lv_bipush (v := (-103)) hx hb dX2_giving_38 (by decide) ?_
        exact hq (-103) 40 ls dX2_giving_40 (show (-103) = givingF σ Hn B (nI j) (nI w) from (by unfold givingF; rw [zif_t (hasP_nI hj), zif_t (inP_nI hw0 hw1), tn_nI (by omega), zif_f (al_0 c_35)]))
    · skip
      refine lv_bipush (v := (-102)) hx hb dX2_giving_23 (by decide) ?_
      exact hq (-102) 25 ls dX2_giving_25 (show (-102) = givingF σ Hn B (nI j) y from (by unfold givingF; rw [zif_t (hasP_nI hj), zif_f c_20]))
  · skip
    refine lv_bipush (v := (-101)) hx hb dX2_giving_11 (by decide) ?_
    exact hq (-101) 13 ls dX2_giving_13 (show (-101) = givingF σ Hn B x y from (by unfold givingF; rw [zif_f c_8]))
abbrev rm_c_X2_mean : Room := { frames := 5, cells := 0, slots := 0, locals := 126 }
set_option maxHeartbeats 4000000 in
set_option maxRecDepth 100000 in
theorem c_X2_mean (l : Launch) (dC : Nat → ClassId) (dI : Nat → Nat → Nat) (cI cZ : ClassId) (xd ma ka ta : Nat → Nat) (σ : St) (Hn B L C V M : Nat) (hI : Inv σ Hn B L C V M) (ξ : Nat → Int32) (hi : Int32) (x y q : Int32) : Met l yX2_mean wsX2_mean rm_c_X2_mean (va_Pc [.ref (xd 0), .int x, .int y, .int q] (fun U => va_P (dC, dI) vwCl (xo xd ma ka ta ξ hi :: mw cI cZ ma σ) U.heap ∧ va_K (dC, dI) vwCl (tyIZ cI cZ) U)) (vp_Si (fun r : Int32 => r = meanF σ Hn B x y q)) 0 0 (fun _ => False) := by
  refine z_pureI (cc := cX2_mean) (maxL := 7) (av := [.ref (xd 0), .int x, .int y, .int q]) (by decide) rfl (Nat.le_of_ble_eq_true rfl) ?_
  intro p e s m below meth c Q ls hx hb hml hown hts ⟨hP, hK⟩ hq hl
  have hown : s.vm.findClass RX2 = some m.cls := hown
  have hin1 : ∀ w ∈ wsX10, w ∈ wsX2_mean := fun _ h => List.mem_cons_of_mem _ (List.mem_append_right _ h)
  have hin2 : ∀ w ∈ wsX20, w ∈ wsX2_mean := fun _ h => List.mem_cons_of_mem _ (List.mem_append_left _ (List.mem_append_right _ h))
  have L10 := hts (.fieldLink RX2 10 "BestBeast" "manor" "LBestBeast$Manor;") (List.mem_of_getElem? (i := 1) rfl)
  have L88 := hts (.fieldLink RX2 88 "BestBeast$Manor" "alive" "[Z") (List.mem_of_getElem? (i := 2) rfl)
  obtain ⟨⟨iL, iC, iV, iM, iH, iB, jL, jC, jV, jM, jH, jB⟩, iK, iDe, iAl, iHe, iWo, iO1, iO2⟩ := id hI
  have hl : lv_has ls 7 [(0, .ref (xd 0)), (1, .int x), (2, .int y), (3, .int q)] := hl
  refine lv_aload_n hx hb dX2_mean_0 rfl (lv_at hl 0 rfl) ?_
  refine va_get (D := (dC, dI)) (ci := 2) (v := .ref (ma 0)) (C := RX2) (T := TX2) (N := 8) hx hb hts hin2 hown hK hP 0 rfl rfl 0 (by decide) L10 (fun _ h9 => h9) rfl dX2_mean_1 ?_
  refine lv_iload_n hx hb dX2_mean_4 rfl (lv_at hl 1 rfl) ?_
  refine z_callV (As := [.int x]) (rest := []) ⟨hx, hb, hml, hown, hts⟩ (c_X1_hasHolder l dC dI cI cZ ma σ Hn B L C V M hI.1 x) (cwV 1 hts gX2_mean_X1_hasHolder rfl rfl rfl (by decide +kernel) ⟨Nat.le_of_ble_eq_true rfl, Nat.le_of_ble_eq_true rfl⟩) (hP.sub [1, 2, 3, 4, 5, 6, 7, 8, 9, 10] rfl) hK (va_recv hK hP (ci := 1) (q0 := 1) rfl rfl) rfl hl.1 rfl (Nat.le_of_ble_eq_true rfl) ⟨Nat.zero_le _, Nat.zero_le _⟩ dX2_mean_5 (fun r hr => ?_)
  obtain rfl : r = zb (hasP Hn x) := hr
  refine z_ifne_b (P := hasP Hn x) (tgt := 14) hx hb dX2_mean_8 (by decide) (fun (c_8 : hasP Hn x) => ?_) (fun (c_8 : ¬ (hasP Hn x)) => ?_)
  · skip
    obtain ⟨j, hj, rfl⟩ := c_8
    obtain ⟨K, hK4, hKj⟩ := iK j (by omega)
    refine lv_iload_n hx hb dX2_mean_14 rfl (lv_at hl 2 rfl) ?_
    refine lv_iconst (v := nI 1) hx hb dX2_mean_15 (by decide) ?_
    refine lv_iconst (v := nI 4) hx hb dX2_mean_16 (by decide) ?_
    refine z_callS (As := [.int y, .int (nI 1), .int (nI 4)]) (rest := []) ⟨hx, hb, hml, hown, hts⟩ (c_X2_within_n l y 1 4 (by omega) (by omega)) (va_cwS 3 hts gX2_mean_X2_within rfl rfl rfl (by decide +kernel) ⟨Nat.le_of_ble_eq_true rfl, Nat.le_of_ble_eq_true rfl⟩) rfl hl.1 rfl (Nat.le_of_ble_eq_true rfl) ⟨Nat.zero_le _, Nat.zero_le _⟩ dX2_mean_17 (fun r hr => ?_)
    obtain rfl : r = zb (inP 1 4 y) := hr
    refine z_ifeq_b (P := inP 1 4 y) (tgt := 32) hx hb dX2_mean_20 (by decide) (fun (c_20 : ¬ (inP 1 4 y)) => ?_) (fun (c_20 : inP 1 4 y) => ?_)
    · skip
      refine lv_bipush (v := (-102)) hx hb dX2_mean_32 (by decide) ?_
      exact hq (-102) 34 ls dX2_mean_34 (show (-102) = meanF σ Hn B (nI j) y q from (by unfold meanF; rw [zif_t (hasP_nI hj), zif_f (fun z => c_20 z.1)]))
    · skip
      obtain ⟨w, hw0, hw1, rfl⟩ := c_20
      refine lv_iload_n hx hb dX2_mean_23 rfl (lv_at hl 3 rfl) ?_
      refine lv_iconst (v := nI 0) hx hb dX2_mean_24 (by decide) ?_
      refine lv_iconst (v := nI 1) hx hb dX2_mean_25 (by decide) ?_
      refine z_callS (As := [.int q, .int (nI 0), .int (nI 1)]) (rest := []) ⟨hx, hb, hml, hown, hts⟩ (c_X2_within_n l q 0 1 (by omega) (by omega)) (va_cwS 3 hts gX2_mean_X2_within rfl rfl rfl (by decide +kernel) ⟨Nat.le_of_ble_eq_true rfl, Nat.le_of_ble_eq_true rfl⟩) rfl hl.1 rfl (Nat.le_of_ble_eq_true rfl) ⟨Nat.zero_le _, Nat.zero_le _⟩ dX2_mean_26 (fun r hr => ?_)
      obtain rfl : r = zb (inP 0 1 q) := hr
      refine z_ifne_b (P := inP 0 1 q) (tgt := 35) hx hb dX2_mean_29 (by decide) (fun (c_29 : inP 0 1 q) => ?_) (fun (c_29 : ¬ (inP 0 1 q)) => ?_)
      · skip
        obtain ⟨o, -, ho1, rfl⟩ := c_29
        refine lv_aload_n hx hb dX2_mean_35 rfl (lv_at hl 0 rfl) ?_
        refine va_get (D := (dC, dI)) (ci := 2) (v := .ref (ma 0)) (C := RX2) (T := TX2) (N := 8) hx hb hts hin2 hown hK hP 0 rfl rfl 0 (by decide) L10 (fun _ h9 => h9) rfl dX2_mean_36 ?_
        refine va_get (D := (dC, dI)) (ci := 1) (v := .ref (ma 3)) (C := RX1) (T := TX1) (N := 17) hx hb hts hin1 hown hK hP 1 rfl rfl 8 (by decide) L88 (fun _ h9 => h9) rfl dX2_mean_39 ?_
        refine lv_iload_n hx hb dX2_mean_42 rfl (lv_at hl 1 rfl) ?_
        refine z_zald (D := (dC, dI)) hx hb hK hP 4 1 rfl rfl j (rfl) (by omega) (by omega) (v := (σ 3) j) (rfl) dX2_mean_43 ?_
        refine lv_if_ne (tgt := 50) hx hb dX2_mean_44 (by decide) (fun (c_44 : ¬ ((σ 3) j) = 0) => ?_) (fun (c_44 : ((σ 3) j) = 0) => ?_)
        · skip
          obtain ⟨u, hu30, hul⟩ := lost_4 hI (j := j) (by omega) (giveF σ B j w) (y := w) (by omega)
          have hpw : 10 ^ w ≤ 10 ^ 4 := Nat.pow_le_pow_right (by decide) hw1
          have hp0 : 0 < Nat.gcd u (10 ^ w) := gcd_pos (Nat.pow_pos (by decide))
          have hp1 : Nat.gcd u (10 ^ w) ≤ 10 ^ w := Nat.gcd_le_right _ (Nat.pow_pos (by decide))
          have hmu : meanUp σ B j w = u := by unfold meanUp; rw [hul, tn_nI (by omega)]
          refine lv_aload_n hx hb dX2_mean_50 rfl (lv_at hl 0 rfl) ?_
          refine va_get (D := (dC, dI)) (ci := 2) (v := .ref (ma 0)) (C := RX2) (T := TX2) (N := 8) hx hb hts hin2 hown hK hP 0 rfl rfl 0 (by decide) L10 (fun _ h9 => h9) rfl dX2_mean_51 ?_
          refine lv_iload_n hx hb dX2_mean_54 rfl (lv_at hl 1 rfl) ?_
          refine lv_iload_n hx hb dX2_mean_55 rfl (lv_at hl 2 rfl) ?_
          refine lv_aload_n hx hb dX2_mean_56 rfl (lv_at hl 0 rfl) ?_
          refine va_get (D := (dC, dI)) (ci := 2) (v := .ref (ma 0)) (C := RX2) (T := TX2) (N := 8) hx hb hts hin2 hown hK hP 0 rfl rfl 0 (by decide) L10 (fun _ h9 => h9) rfl dX2_mean_57 ?_
          refine lv_iload_n hx hb dX2_mean_60 rfl (lv_at hl 1 rfl) ?_
          refine lv_iload_n hx hb dX2_mean_61 rfl (lv_at hl 2 rfl) ?_
          refine z_callV (As := [.int (nI j), .int (nI w)]) (rest := [.int (nI w), .int (nI j), .ref (ma 0)]) ⟨hx, hb, hml, hown, hts⟩ (c_X1_bestGift l dC dI cI cZ ma σ Hn B L C V M hI j (by omega) w (by omega)) (cwV 2 hts gX2_mean_X1_bestGift rfl rfl rfl (by decide +kernel) ⟨Nat.le_of_ble_eq_true rfl, Nat.le_of_ble_eq_true rfl⟩) (hP.sub [1, 2, 3, 4, 5, 6, 7, 8, 9, 10] rfl) hK (va_recv hK hP (ci := 1) (q0 := 1) rfl rfl) rfl hl.1 rfl (Nat.le_of_ble_eq_true rfl) ⟨Nat.zero_le _, Nat.zero_le _⟩ dX2_mean_62 (fun r hr => ?_)
          obtain rfl : r = giveF σ B j w := hr
          refine z_callV (As := [.int (nI j), .int (nI w), .int (giveF σ B j w)]) (rest := []) ⟨hx, hb, hml, hown, hts⟩ (c_X1_lostOnMean l dC dI cI cZ ma σ Hn B L C V M hI j (by omega) w (by omega) (giveF σ B j w)) (cwV 3 hts gX2_mean_X1_lostOnMean rfl rfl rfl (by decide +kernel) ⟨Nat.le_of_ble_eq_true rfl, Nat.le_of_ble_eq_true rfl⟩) (hP.sub [1, 2, 3, 4, 5, 6, 7, 8, 9, 10] rfl) hK (va_recv hK hP (ci := 1) (q0 := 1) rfl rfl) rfl hl.1 rfl (Nat.le_of_ble_eq_true rfl) ⟨Nat.zero_le _, Nat.zero_le _⟩ dX2_mean_65 (fun r hr => ?_)
          obtain rfl : r = lostR σ B j (giveF σ B j w) w := hr
          refine z_topi (v := nI u) (hul) ?_
          refine lv_istore (lv' := [(4, .int (nI u)), (0, .ref (xd 0)), (1, .int (nI j)), (2, .int (nI w)), (3, .int (nI o))]) hx hb dX2_mean_68 hl (by decide) rfl (fun ls hl => ?_)
          refine lv_iload_n hx hb dX2_mean_70 rfl (lv_at hl 3 rfl) ?_
          refine z_callS (As := [.int (nI w)]) (rest := []) ⟨hx, hb, hml, hown, hts⟩ (c_X2_powerOfTen l w (by omega)) (va_cwS 1 hts gX2_mean_X2_powerOfTen rfl rfl rfl (by decide +kernel) ⟨Nat.le_of_ble_eq_true rfl, Nat.le_of_ble_eq_true rfl⟩) rfl hl.1 rfl (Nat.le_of_ble_eq_true rfl) ⟨Nat.zero_le _, Nat.zero_le _⟩ dX2_mean_71 (fun r hr => ?_)
          obtain rfl : r = nI (10 ^ w) := hr
          refine lv_istore (lv' := [(5, .int (nI (10 ^ w))), (4, .int (nI u)), (0, .ref (xd 0)), (1, .int (nI j)), (2, .int (nI w)), (3, .int (nI o))]) hx hb dX2_mean_74 hl (by decide) rfl (fun ls hl => ?_)
          refine lv_iload hx hb dX2_mean_76 (lv_at hl 1 rfl) ?_
          refine lv_iload hx hb dX2_mean_78 (lv_at hl 0 rfl) ?_
          refine z_callS (As := [.int (nI u), .int (nI (10 ^ w))]) (rest := []) ⟨hx, hb, hml, hown, hts⟩ (c_X2_commonDivisor l u (10 ^ w) (by omega) (by omega)) (va_cwS 2 hts gX2_mean_X2_commonDivisor rfl rfl rfl (by decide +kernel) ⟨Nat.le_of_ble_eq_true rfl, Nat.le_of_ble_eq_true rfl⟩) rfl hl.1 rfl (Nat.le_of_ble_eq_true rfl) ⟨Nat.zero_le _, Nat.zero_le _⟩ dX2_mean_80 (fun r hr => ?_)
          obtain rfl : r = nI (Nat.gcd u (10 ^ w)) := hr
          refine lv_istore (lv' := [(6, .int (nI (Nat.gcd u (10 ^ w)))), (5, .int (nI (10 ^ w))), (4, .int (nI u)), (0, .ref (xd 0)), (1, .int (nI j)), (2, .int (nI w)), (3, .int (nI o))]) hx hb dX2_mean_83 hl (by decide) rfl (fun ls hl => ?_)
          refine lv_iload hx hb dX2_mean_85 (lv_at hl 0 rfl) ?_
          refine z_if_ne (a := Nat.gcd u (10 ^ w)) (tgt := 92) hx hb (by omega) dX2_mean_87 (by decide) (fun (c_87 : (Nat.gcd u (10 ^ w)) ≠ 0) => ?_) (fun (z9 : (Nat.gcd u (10 ^ w)) = 0) => absurd z9 (by omega))
          refine lv_iload_n hx hb dX2_mean_92 rfl (lv_at hl 6 rfl) ?_
          refine z_if_ne (a := o) (tgt := 101) hx hb (by omega) dX2_mean_93 (by decide) (fun (c_93 : o ≠ 0) => ?_) (fun (c_93 : o = 0) => ?_)
          · skip
            refine lv_iload hx hb dX2_mean_101 (lv_at hl 1 rfl) ?_
            refine lv_iload hx hb dX2_mean_103 (lv_at hl 0 rfl) ?_
            refine z_idiv (v := nI ((10 ^ w) / (Nat.gcd u (10 ^ w)))) hx hb dX2_mean_105 (nI_ne0 (by omega) (by omega)) (pk_div (by omega) (by omega) (by omega)) ?_
            exact hq (nI ((10 ^ w) / (Nat.gcd u (10 ^ w)))) 106 ls dX2_mean_106 (show (nI ((10 ^ w) / (Nat.gcd u (10 ^ w)))) = meanF σ Hn B (nI j) (nI w) (nI o) from (by rw [meanF_in hj jH hw0 hw1 ho1 (al_1 (iAl j (by omega)) c_44)]; unfold meanN; rw [hmu, if_neg c_93]))
          · skip
            refine lv_iload hx hb dX2_mean_96 (lv_at hl 2 rfl) ?_
            refine lv_goto (tgt := 103) hx hb dX2_mean_98 (by decide) ?_
            refine lv_iload hx hb dX2_mean_103 (lv_at hl 0 rfl) ?_
            refine z_idiv (v := nI (u / (Nat.gcd u (10 ^ w)))) hx hb dX2_mean_105 (nI_ne0 (by omega) (by omega)) (pk_div (by omega) (by omega) (by omega)) ?_
            exact hq (nI (u / (Nat.gcd u (10 ^ w)))) 106 ls dX2_mean_106 (show (nI (u / (Nat.gcd u (10 ^ w)))) = meanF σ Hn B (nI j) (nI w) (nI o) from (by rw [meanF_in hj jH hw0 hw1 ho1 (al_1 (iAl j (by omega)) c_44)]; unfold meanN; rw [hmu, if_pos c_93]))
        · skip
          refine lv_bipush (v := (-103)) hx hb dX2_mean_47 (by decide) ?_
          exact hq (-103) 49 ls dX2_mean_49 (show (-103) = meanF σ Hn B (nI j) (nI w) (nI o) from (by unfold meanF; rw [zif_t (hasP_nI hj), zif_t ⟨inP_nI hw0 hw1, inP_nI (Nat.zero_le _) ho1⟩, tn_nI (by omega), zif_f (al_0 c_44)]))
      · skip
        refine lv_bipush (v := (-102)) hx hb dX2_mean_32 (by decide) ?_
        exact hq (-102) 34 ls dX2_mean_34 (show (-102) = meanF σ Hn B (nI j) (nI w) q from (by unfold meanF; rw [zif_t (hasP_nI hj), zif_f (fun z => c_29 z.2)]))
  · skip
    refine lv_bipush (v := (-101)) hx hb dX2_mean_11 (by decide) ?_
    exact hq (-101) 13 ls dX2_mean_13 (show (-101) = meanF σ Hn B x y q from (by unfold meanF; rw [zif_f c_8]))
abbrev rm_c_X2_count : Room := { frames := 3, cells := 0, slots := 0, locals := 64 }
set_option maxHeartbeats 4000000 in
set_option maxRecDepth 100000 in
theorem c_X2_count (l : Launch) (dC : Nat → ClassId) (dI : Nat → Nat → Nat) (cI cZ : ClassId) (xd ma ka ta : Nat → Nat) (σ : St) (Hn B L C V M : Nat) (hI : Inv σ Hn B L C V M) (ξ : Nat → Int32) (hi : Int32) (what : Int32) : Met l yX2_count wsX2_count rm_c_X2_count (va_Pc [.ref (xd 0), .int what] (fun U => va_P (dC, dI) vwCl (xo xd ma ka ta ξ hi :: mw cI cZ ma σ) U.heap ∧ va_K (dC, dI) vwCl (tyIZ cI cZ) U)) (vp_Si (fun r : Int32 => r = countF σ Hn B ξ what)) 0 0 (fun _ => False) := by
  refine z_pureI (cc := cX2_count) (maxL := 2) (av := [.ref (xd 0), .int what]) (by decide) rfl (Nat.le_of_ble_eq_true rfl) ?_
  intro p e s m below meth c Q ls hx hb hml hown hts ⟨hP, hK⟩ hq hl
  have hown : s.vm.findClass RX2 = some m.cls := hown
  have hin1 : ∀ w ∈ wsX10, w ∈ wsX2_count := fun _ h => List.mem_cons_of_mem _ (List.mem_append_right _ h)
  have hin2 : ∀ w ∈ wsX20, w ∈ wsX2_count := fun _ h => List.mem_cons_of_mem _ (List.mem_append_left _ (List.mem_append_right _ h))
  have L10 := hts (.fieldLink RX2 10 "BestBeast" "manor" "LBestBeast$Manor;") (List.mem_of_getElem? (i := 1) rfl)
  have L60 := hts (.fieldLink RX2 60 "BestBeast$Manor" "lord" "I") (List.mem_of_getElem? (i := 2) rfl)
  have L63 := hts (.fieldLink RX2 63 "BestBeast$Manor" "church" "I") (List.mem_of_getElem? (i := 3) rfl)
  have L66 := hts (.fieldLink RX2 66 "BestBeast$Manor" "voidYears" "I") (List.mem_of_getElem? (i := 4) rfl)
  have L69 := hts (.fieldLink RX2 69 "BestBeast$Manor" "least" "I") (List.mem_of_getElem? (i := 5) rfl)
  have L174 := hts (.fieldLink RX2 174 "BestBeast$Manor" "holders" "I") (List.mem_of_getElem? (i := 6) rfl)
  have L202 := hts (.fieldLink RX2 202 "BestBeast$Manor" "beasts" "I") (List.mem_of_getElem? (i := 7) rfl)
  have L146 := hts (.fieldLink RX2 146 "BestBeast$Manor" "yearNow" "I") (List.mem_of_getElem? (i := 8) rfl)
  have L196 := hts (.fieldLink RX2 196 "BestBeast$Manor" "takenWorth" "I") (List.mem_of_getElem? (i := 9) rfl)
  have L33 := hts (.fieldLink RX2 33 "BestBeast" "letters" "I") (List.mem_of_getElem? (i := 10) rfl)
  have L37 := hts (.fieldLink RX2 37 "BestBeast" "lawsRead" "I") (List.mem_of_getElem? (i := 11) rfl)
  obtain ⟨⟨iL, iC, iV, iM, iH, iB, jL, jC, jV, jM, jH, jB⟩, iK, iDe, iAl, iHe, iWo, iO1, iO2⟩ := id hI
  have hl : lv_has ls 2 [(0, .ref (xd 0)), (1, .int what)] := hl
  refine lv_iload_n hx hb dX2_count_0 rfl (lv_at hl 1 rfl) ?_
  by_cases hw1 : hasP 12 what
  · obtain ⟨jj, hjj, rfl⟩ := hw1
    match jj, hjj with
    | 0, _ =>
      refine lv_tableIn (off := 63) (tgt := 64) hx hb dX2_count_1 (by decide +kernel) (by decide +kernel) (by decide +kernel) (by decide) ?_
      refine lv_aload_n hx hb dX2_count_64 rfl (lv_at hl 0 rfl) ?_
      refine va_get (D := (dC, dI)) (ci := 2) (v := .ref (ma 0)) (C := RX2) (T := TX2) (N := 8) hx hb hts hin2 hown hK hP 0 rfl rfl 0 (by decide) L10 (fun _ h9 => h9) rfl dX2_count_65 ?_
      refine va_get (D := (dC, dI)) (ci := 1) (v := .int (nI L)) (C := RX1) (T := TX1) (N := 17) hx hb hts hin1 hown hK hP 1 rfl rfl 0 (by decide) L60 (fun _ h9 => h9) (congrArg (fun z => some (Value.int z)) iL) dX2_count_68 ?_
      exact hq (nI L) 71 ls dX2_count_71 (show (nI L) = countF σ Hn B ξ (nI 0) from ((countF_in (w := 0) (by decide)).trans iL).symm)
    | 1, _ =>
      refine lv_tableIn (off := 71) (tgt := 72) hx hb dX2_count_1 (by decide +kernel) (by decide +kernel) (by decide +kernel) (by decide) ?_
      refine lv_aload_n hx hb dX2_count_72 rfl (lv_at hl 0 rfl) ?_
      refine va_get (D := (dC, dI)) (ci := 2) (v := .ref (ma 0)) (C := RX2) (T := TX2) (N := 8) hx hb hts hin2 hown hK hP 0 rfl rfl 0 (by decide) L10 (fun _ h9 => h9) rfl dX2_count_73 ?_
      refine va_get (D := (dC, dI)) (ci := 1) (v := .int (nI C)) (C := RX1) (T := TX1) (N := 17) hx hb hts hin1 hown hK hP 1 rfl rfl 1 (by decide) L63 (fun _ h9 => h9) (congrArg (fun z => some (Value.int z)) iC) dX2_count_76 ?_
      exact hq (nI C) 79 ls dX2_count_79 (show (nI C) = countF σ Hn B ξ (nI 1) from ((countF_in (w := 1) (by decide)).trans iC).symm)
    | 2, _ =>
      refine lv_tableIn (off := 79) (tgt := 80) hx hb dX2_count_1 (by decide +kernel) (by decide +kernel) (by decide +kernel) (by decide) ?_
      refine lv_aload_n hx hb dX2_count_80 rfl (lv_at hl 0 rfl) ?_
      refine va_get (D := (dC, dI)) (ci := 2) (v := .ref (ma 0)) (C := RX2) (T := TX2) (N := 8) hx hb hts hin2 hown hK hP 0 rfl rfl 0 (by decide) L10 (fun _ h9 => h9) rfl dX2_count_81 ?_
      refine va_get (D := (dC, dI)) (ci := 1) (v := .int (σ 0 2)) (C := RX1) (T := TX1) (N := 17) hx hb hts hin1 hown hK hP 1 rfl rfl 2 (by decide) L66 (fun _ h9 => h9) rfl dX2_count_84 ?_
      exact hq (σ 0 2) 87 ls dX2_count_87 (show (σ 0 2) = countF σ Hn B ξ (nI 2) from (by rw [countF_in (w := 2) (by decide)]; rfl))
    | 3, _ =>
      refine lv_tableIn (off := 87) (tgt := 88) hx hb dX2_count_1 (by decide +kernel) (by decide +kernel) (by decide +kernel) (by decide) ?_
      refine lv_aload_n hx hb dX2_count_88 rfl (lv_at hl 0 rfl) ?_
      refine va_get (D := (dC, dI)) (ci := 2) (v := .ref (ma 0)) (C := RX2) (T := TX2) (N := 8) hx hb hts hin2 hown hK hP 0 rfl rfl 0 (by decide) L10 (fun _ h9 => h9) rfl dX2_count_89 ?_
      refine va_get (D := (dC, dI)) (ci := 1) (v := .int (σ 0 3)) (C := RX1) (T := TX1) (N := 17) hx hb hts hin1 hown hK hP 1 rfl rfl 3 (by decide) L69 (fun _ h9 => h9) rfl dX2_count_92 ?_
      exact hq (σ 0 3) 95 ls dX2_count_95 (show (σ 0 3) = countF σ Hn B ξ (nI 3) from (by rw [countF_in (w := 3) (by decide)]; rfl))
    | 4, _ =>
      refine lv_tableIn (off := 95) (tgt := 96) hx hb dX2_count_1 (by decide +kernel) (by decide +kernel) (by decide +kernel) (by decide) ?_
      refine lv_aload_n hx hb dX2_count_96 rfl (lv_at hl 0 rfl) ?_
      refine va_get (D := (dC, dI)) (ci := 2) (v := .ref (ma 0)) (C := RX2) (T := TX2) (N := 8) hx hb hts hin2 hown hK hP 0 rfl rfl 0 (by decide) L10 (fun _ h9 => h9) rfl dX2_count_97 ?_
      refine va_get (D := (dC, dI)) (ci := 1) (v := .int (nI Hn)) (C := RX1) (T := TX1) (N := 17) hx hb hts hin1 hown hK hP 1 rfl rfl 4 (by decide) L174 (fun _ h9 => h9) (congrArg (fun z => some (Value.int z)) iH) dX2_count_100 ?_
      exact hq (nI Hn) 103 ls dX2_count_103 (show (nI Hn) = countF σ Hn B ξ (nI 4) from (by rw [countF_in (w := 4) (by decide)]; rfl))
    | 5, _ =>
      refine lv_tableIn (off := 103) (tgt := 104) hx hb dX2_count_1 (by decide +kernel) (by decide +kernel) (by decide +kernel) (by decide) ?_
      refine lv_aload_n hx hb dX2_count_104 rfl (lv_at hl 0 rfl) ?_
      refine va_get (D := (dC, dI)) (ci := 2) (v := .ref (ma 0)) (C := RX2) (T := TX2) (N := 8) hx hb hts hin2 hown hK hP 0 rfl rfl 0 (by decide) L10 (fun _ h9 => h9) rfl dX2_count_105 ?_
      refine z_callV (As := []) (rest := []) ⟨hx, hb, hml, hown, hts⟩ (c_X1_countAlive l dC dI cI cZ ma σ Hn B L C V M hI) (cwV 0 hts gX2_count_X1_countAlive rfl rfl rfl (by decide +kernel) ⟨Nat.le_of_ble_eq_true rfl, Nat.le_of_ble_eq_true rfl⟩) (hP.sub [1, 2, 3, 4, 5, 6, 7, 8, 9, 10] rfl) hK (va_recv hK hP (ci := 1) (q0 := 1) rfl rfl) rfl hl.1 rfl (Nat.le_of_ble_eq_true rfl) ⟨Nat.zero_le _, Nat.zero_le _⟩ dX2_count_108 (fun r hr => ?_)
      obtain rfl : r = aliveR σ Hn := hr
      exact hq (aliveR σ Hn) 111 ls dX2_count_111 (show (aliveR σ Hn) = countF σ Hn B ξ (nI 5) from (by rw [countF_in (w := 5) (by decide)]; rfl))
    | 6, _ =>
      refine lv_tableIn (off := 111) (tgt := 112) hx hb dX2_count_1 (by decide +kernel) (by decide +kernel) (by decide +kernel) (by decide) ?_
      refine lv_aload_n hx hb dX2_count_112 rfl (lv_at hl 0 rfl) ?_
      refine va_get (D := (dC, dI)) (ci := 2) (v := .ref (ma 0)) (C := RX2) (T := TX2) (N := 8) hx hb hts hin2 hown hK hP 0 rfl rfl 0 (by decide) L10 (fun _ h9 => h9) rfl dX2_count_113 ?_
      refine va_get (D := (dC, dI)) (ci := 1) (v := .int (nI B)) (C := RX1) (T := TX1) (N := 17) hx hb hts hin1 hown hK hP 1 rfl rfl 9 (by decide) L202 (fun _ h9 => h9) (congrArg (fun z => some (Value.int z)) iB) dX2_count_116 ?_
      exact hq (nI B) 119 ls dX2_count_119 (show (nI B) = countF σ Hn B ξ (nI 6) from (by rw [countF_in (w := 6) (by decide)]; rfl))
    | 7, _ =>
      refine lv_tableIn (off := 119) (tgt := 120) hx hb dX2_count_1 (by decide +kernel) (by decide +kernel) (by decide +kernel) (by decide) ?_
      refine lv_aload_n hx hb dX2_count_120 rfl (lv_at hl 0 rfl) ?_
      refine va_get (D := (dC, dI)) (ci := 2) (v := .ref (ma 0)) (C := RX2) (T := TX2) (N := 8) hx hb hts hin2 hown hK hP 0 rfl rfl 0 (by decide) L10 (fun _ h9 => h9) rfl dX2_count_121 ?_
      refine z_callV (As := []) (rest := []) ⟨hx, hb, hml, hown, hts⟩ (c_X1_countNotGone l dC dI cI cZ ma σ Hn B L C V M hI) (cwV 0 hts gX2_count_X1_countNotGone rfl rfl rfl (by decide +kernel) ⟨Nat.le_of_ble_eq_true rfl, Nat.le_of_ble_eq_true rfl⟩) (hP.sub [1, 2, 3, 4, 5, 6, 7, 8, 9, 10] rfl) hK (va_recv hK hP (ci := 1) (q0 := 1) rfl rfl) rfl hl.1 rfl (Nat.le_of_ble_eq_true rfl) ⟨Nat.zero_le _, Nat.zero_le _⟩ dX2_count_124 (fun r hr => ?_)
      obtain rfl : r = thereR σ B := hr
      exact hq (thereR σ B) 127 ls dX2_count_127 (show (thereR σ B) = countF σ Hn B ξ (nI 7) from (by rw [countF_in (w := 7) (by decide)]; rfl))
    | 8, _ =>
      refine lv_tableIn (off := 127) (tgt := 128) hx hb dX2_count_1 (by decide +kernel) (by decide +kernel) (by decide +kernel) (by decide) ?_
      refine lv_aload_n hx hb dX2_count_128 rfl (lv_at hl 0 rfl) ?_
      refine va_get (D := (dC, dI)) (ci := 2) (v := .ref (ma 0)) (C := RX2) (T := TX2) (N := 8) hx hb hts hin2 hown hK hP 0 rfl rfl 0 (by decide) L10 (fun _ h9 => h9) rfl dX2_count_129 ?_
      refine va_get (D := (dC, dI)) (ci := 1) (v := .int (σ 0 6)) (C := RX1) (T := TX1) (N := 17) hx hb hts hin1 hown hK hP 1 rfl rfl 15 (by decide) L146 (fun _ h9 => h9) rfl dX2_count_132 ?_
      exact hq (σ 0 6) 135 ls dX2_count_135 (show (σ 0 6) = countF σ Hn B ξ (nI 8) from (by rw [countF_in (w := 8) (by decide)]; rfl))
    | 9, _ =>
      refine lv_tableIn (off := 135) (tgt := 136) hx hb dX2_count_1 (by decide +kernel) (by decide +kernel) (by decide +kernel) (by decide) ?_
      refine lv_aload_n hx hb dX2_count_136 rfl (lv_at hl 0 rfl) ?_
      refine va_get (D := (dC, dI)) (ci := 2) (v := .ref (ma 0)) (C := RX2) (T := TX2) (N := 8) hx hb hts hin2 hown hK hP 0 rfl rfl 0 (by decide) L10 (fun _ h9 => h9) rfl dX2_count_137 ?_
      refine va_get (D := (dC, dI)) (ci := 1) (v := .int (σ 0 7)) (C := RX1) (T := TX1) (N := 17) hx hb hts hin1 hown hK hP 1 rfl rfl 16 (by decide) L196 (fun _ h9 => h9) rfl dX2_count_140 ?_
      exact hq (σ 0 7) 143 ls dX2_count_143 (show (σ 0 7) = countF σ Hn B ξ (nI 9) from (by rw [countF_in (w := 9) (by decide)]; rfl))
    | 10, _ =>
      refine lv_tableIn (off := 143) (tgt := 144) hx hb dX2_count_1 (by decide +kernel) (by decide +kernel) (by decide +kernel) (by decide) ?_
      refine lv_aload_n hx hb dX2_count_144 rfl (lv_at hl 0 rfl) ?_
      refine va_get (D := (dC, dI)) (ci := 2) (v := .int (ξ 0)) (C := RX2) (T := TX2) (N := 8) hx hb hts hin2 hown hK hP 0 rfl rfl 5 (by decide) L33 (fun _ h9 => h9) rfl dX2_count_145 ?_
      exact hq (ξ 0) 148 ls dX2_count_148 (show (ξ 0) = countF σ Hn B ξ (nI 10) from (by rw [countF_in (w := 10) (by decide)]; rfl))
    | 11, _ =>
      refine lv_tableIn (off := 148) (tgt := 149) hx hb dX2_count_1 (by decide +kernel) (by decide +kernel) (by decide +kernel) (by decide) ?_
      refine lv_aload_n hx hb dX2_count_149 rfl (lv_at hl 0 rfl) ?_
      refine va_get (D := (dC, dI)) (ci := 2) (v := .int (ξ 1)) (C := RX2) (T := TX2) (N := 8) hx hb hts hin2 hown hK hP 0 rfl rfl 6 (by decide) L37 (fun _ h9 => h9) rfl dX2_count_150 ?_
      exact hq (ξ 1) 153 ls dX2_count_153 (show (ξ 1) = countF σ Hn B ξ (nI 11) from (by rw [countF_in (w := 11) (by decide)]; rfl))
    | jj + 12, hjj => exact absurd hjj (by omega)
  · refine lv_tableOut (tgt := 154) hx hb dX2_count_1 (hasP_out 12 hw1) (by decide) ?_
    refine lv_bipush (v := (-102)) hx hb dX2_count_154 (by decide) ?_
    exact hq (-102) 156 ls dX2_count_156 (show (-102) = countF σ Hn B ξ what from (by unfold countF; rw [zif_f hw1]))
