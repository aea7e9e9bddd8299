/-! ===== the class: what changes it ===== -/
abbrev rm_c_X2_digest : Room := { frames := 6, cells := 0, slots := 0, locals := 152 }
set_option maxHeartbeats 4000000 in
set_option maxRecDepth 100000 in
theorem c_X2_digest (l : Launch) (dC : Nat → ClassId) (dI : Nat → Nat → Nat) (cI cZ : ClassId) (xd ma ka ta : Nat → Nat) (σ : St) (Hn B L C V M : Nat) (hI : Inv σ Hn B L C V M) (ξ : Nat → Int32) (hi : Int32) (P : Nat → Int32) (n : Nat) (hn0 : ξ 0 = nI n) (hn8 : n ≤ 8) : Met l yX2_digest wsX2_digest rm_c_X2_digest (va_Pc [.ref (xd 0)] (fun U => va_P (dC, dI) vwCl (xo xd ma ka ta ξ hi :: (xd 1, .inl (cI, 8, .inl P)) :: mw cI cZ ma σ) U.heap ∧ va_K (dC, dI) vwCl (tyIZ cI cZ) U)) (vpL (fun r : Int64 => r = digF σ Hn B P ξ n)) 0 0 (fun _ => False) := by
  refine z_pureL (cc := cX2_digest) (maxL := 5) (av := [.ref (xd 0)]) (by decide) rfl (Nat.le_of_ble_eq_true rfl) ?_
  intro p e s m below meth c Q ls hx hb hml hown hts ⟨hP, hK⟩ hq hl
  have hown : s.vm.findClass RX2 = some m.cls := hown
  have hin1 : ∀ w ∈ wsX10, w ∈ wsX2_digest := fun _ h => List.mem_cons_of_mem _ (List.mem_append_right _ h)
  have hin2 : ∀ w ∈ wsX20, w ∈ wsX2_digest := fun _ h => List.mem_cons_of_mem _ (List.mem_append_left _ (List.mem_append_right _ h))
  have L208 := hts (.constantLong RX2 208 (827)) (List.mem_of_getElem? (i := 1) rfl)
  have L10 := hts (.fieldLink RX2 10 "BestBeast" "manor" "LBestBeast$Manor;") (List.mem_of_getElem? (i := 2) rfl)
  have L174 := hts (.fieldLink RX2 174 "BestBeast$Manor" "holders" "I") (List.mem_of_getElem? (i := 3) rfl)
  have L202 := hts (.fieldLink RX2 202 "BestBeast$Manor" "beasts" "I") (List.mem_of_getElem? (i := 5) rfl)
  have L33 := hts (.fieldLink RX2 33 "BestBeast" "letters" "I") (List.mem_of_getElem? (i := 6) rfl)
  have L210 := hts (.constantLong RX2 210 (31)) (List.mem_of_getElem? (i := 4) rfl)
  have L29 := hts (.fieldLink RX2 29 "BestBeast" "page" "[I") (List.mem_of_getElem? (i := 7) rfl)
  obtain ⟨⟨iL, iC, iV, iM, iH, iB, jL, jC, jV, jM, jH, jB⟩, iK, iDe, iAl, iHe, iWo, iO1, iO2⟩ := id hI
  have hl : lv_has ls 5 [(0, .ref (xd 0))] := hl
  refine lv_ldc2 hx hb hown L208 dX2_digest_0 ?_
  refine lv_lstore_n (lv' := [(1, .long 827), (0, .ref (xd 0))]) hx hb dX2_digest_3 rfl hl (by decide) rfl (fun ls hl => ?_)
  refine lv_iconst (v := nI 0) hx hb dX2_digest_4 (by decide) ?_
  refine lv_istore_n (lv' := [(3, .int (nI 0)), (1, .long 827), (0, .ref (xd 0))]) hx hb dX2_digest_5 rfl hl (by decide) rfl (fun ls hl => ?_)
  suffices hlp6 : ∀ (nf : Nat) (k : Nat) (x6_3 : Int32) (x6_1 : Int64) (ls : Array Slot), (k ≤ Hn) → x6_3 = nI k → x6_1 = digH σ B k → lv_has ls 5 [(3, .int x6_3), (1, .long x6_1), (0, .ref (xd 0))] → Hn - k < nf → W p l e rm_c_X2_digest s m ([.ref (xd 0)] : List Value).toArray below meth c s.heap [] 0 0 Q (F0 m 6 ls []) by
    exact hlp6 ((Hn - 0) + 1) 0 (nI 0) 827 ls (by omega) rfl rfl (lv_sub hl [0, 1, 2] rfl) (by omega)
  intro nf
  induction nf with
  | zero => intro k x6_3 x6_1 ls hk e6_3 e6_1 hl hn; omega
  | succ nf ih6 =>
    intro k x6_3 x6_1 ls hk e6_3 e6_1 hl hn
    subst e6_3
    subst e6_1
    refine lv_iload_n hx hb dX2_digest_6 rfl (lv_at hl 0 rfl) ?_
    refine lv_aload_n hx hb dX2_digest_7 rfl (lv_at hl 2 rfl) ?_
    refine va_get (D := (dC, dI)) (ci := 2) (v := .ref (ma 0)) (C := RX2) (T := TX2) (N := 8) hx hb hts hin2 hown hK hP 0 rfl rfl 0 (by decide) L10 (fun _ h9 => h9) rfl dX2_digest_8 ?_
    refine va_get (D := (dC, dI)) (ci := 1) (v := .int (nI Hn)) (C := RX1) (T := TX1) (N := 17) hx hb hts hin1 hown hK hP 2 rfl rfl 4 (by decide) L174 (fun _ h9 => h9) (congrArg (fun z => some (Value.int z)) iH) dX2_digest_11 ?_
    refine z_icmp_ge (a := k) (b := Hn) (tgt := 137) hx hb (by omega) (by omega) dX2_digest_14 (by decide) (fun (c_14 : Hn ≤ k) => ?_) (fun (c_14 : k < Hn) => ?_)
    · skip
      refine lv_iconst (v := nI 0) hx hb dX2_digest_137 (by decide) ?_
      refine lv_istore_n (lv' := [(3, .int (nI 0)), (1, .long (digH σ B k)), (0, .ref (xd 0))]) hx hb dX2_digest_138 rfl hl (by decide) rfl (fun ls hl => ?_)
      suffices hlp139 : ∀ (nf : Nat) (k : Nat) (x139_3 : Int32) (x139_1 : Int64) (ls : Array Slot), (k ≤ B) → x139_3 = nI k → x139_1 = digB σ (digH σ B Hn) k → lv_has ls 5 [(3, .int x139_3), (1, .long x139_1), (0, .ref (xd 0))] → B - k < nf → W p l e rm_c_X2_digest s m ([.ref (xd 0)] : List Value).toArray below meth c s.heap [] 0 0 Q (F0 m 139 ls []) by
        exact hlp139 ((B - 0) + 1) 0 (nI 0) (digH σ B k) ls (by omega) rfl (by rw [show Hn = k by omega]; rfl) (lv_sub hl [0, 1, 2] rfl) (by omega)
      intro nf
      induction nf with
      | zero => intro k x139_3 x139_1 ls hk e139_3 e139_1 hl hn; omega
      | succ nf ih139 =>
        intro k x139_3 x139_1 ls hk e139_3 e139_1 hl hn
        subst e139_3
        subst e139_1
        refine lv_iload_n hx hb dX2_digest_139 rfl (lv_at hl 0 rfl) ?_
        refine lv_aload_n hx hb dX2_digest_140 rfl (lv_at hl 2 rfl) ?_
        refine va_get (D := (dC, dI)) (ci := 2) (v := .ref (ma 0)) (C := RX2) (T := TX2) (N := 8) hx hb hts hin2 hown hK hP 0 rfl rfl 0 (by decide) L10 (fun _ h9 => h9) rfl dX2_digest_141 ?_
        refine va_get (D := (dC, dI)) (ci := 1) (v := .int (nI B)) (C := RX1) (T := TX1) (N := 17) hx hb hts hin1 hown hK hP 2 rfl rfl 9 (by decide) L202 (fun _ h9 => h9) (congrArg (fun z => some (Value.int z)) iB) dX2_digest_144 ?_
        refine z_icmp_ge (a := k) (b := B) (tgt := 186) hx hb (by omega) (by omega) dX2_digest_147 (by decide) (fun (c_147 : B ≤ k) => ?_) (fun (c_147 : k < B) => ?_)
        · skip
          refine lv_iconst (v := nI 0) hx hb dX2_digest_186 (by decide) ?_
          refine lv_istore_n (lv' := [(3, .int (nI 0)), (1, .long (digB σ (digH σ B Hn) k)), (0, .ref (xd 0))]) hx hb dX2_digest_187 rfl hl (by decide) rfl (fun ls hl => ?_)
          suffices hlp188 : ∀ (nf : Nat) (k : Nat) (x188_3 : Int32) (x188_1 : Int64) (ls : Array Slot), (k ≤ n) → x188_3 = nI k → x188_1 = digP P (digB σ (digH σ B Hn) B) k → lv_has ls 5 [(3, .int x188_3), (1, .long x188_1), (0, .ref (xd 0))] → n - k < nf → W p l e rm_c_X2_digest s m ([.ref (xd 0)] : List Value).toArray below meth c s.heap [] 0 0 Q (F0 m 188 ls []) by
            exact hlp188 ((n - 0) + 1) 0 (nI 0) (digB σ (digH σ B Hn) k) ls (by omega) rfl (by rw [show B = k by omega]; rfl) (lv_sub hl [0, 1, 2] rfl) (by omega)
          intro nf
          induction nf with
          | zero => intro k x188_3 x188_1 ls hk e188_3 e188_1 hl hn; omega
          | succ nf ih188 =>
            intro k x188_3 x188_1 ls hk e188_3 e188_1 hl hn
            subst e188_3
            subst e188_1
            refine lv_iload_n hx hb dX2_digest_188 rfl (lv_at hl 0 rfl) ?_
            refine lv_aload_n hx hb dX2_digest_189 rfl (lv_at hl 2 rfl) ?_
            refine va_get (D := (dC, dI)) (ci := 2) (v := .int (nI n)) (C := RX2) (T := TX2) (N := 8) hx hb hts hin2 hown hK hP 0 rfl rfl 5 (by decide) L33 (fun _ h9 => h9) (congrArg (fun z => some (Value.int z)) hn0) dX2_digest_190 ?_
            refine z_icmp_ge (a := k) (b := n) (tgt := 225) hx hb (by omega) (by omega) dX2_digest_193 (by decide) (fun (c_193 : n ≤ k) => ?_) (fun (c_193 : k < n) => ?_)
            · skip
              refine lv_iconst (v := nI 0) hx hb dX2_digest_225 (by decide) ?_
              refine lv_istore_n (lv' := [(3, .int (nI 0)), (1, .long (digP P (digB σ (digH σ B Hn) B) k)), (0, .ref (xd 0))]) hx hb dX2_digest_226 rfl hl (by decide) rfl (fun ls hl => ?_)
              suffices hlp227 : ∀ (nf : Nat) (k : Nat) (x227_3 : Int32) (x227_1 : Int64) (ls : Array Slot), (k ≤ 12) → x227_3 = nI k → x227_1 = digC σ Hn B ξ (digP P (digB σ (digH σ B Hn) B) n) k → lv_has ls 5 [(3, .int x227_3), (1, .long x227_1), (0, .ref (xd 0))] → 12 - k < nf → W p l e rm_c_X2_digest s m ([.ref (xd 0)] : List Value).toArray below meth c s.heap [] 0 0 Q (F0 m 227 ls []) by
                exact hlp227 ((12 - 0) + 1) 0 (nI 0) (digP P (digB σ (digH σ B Hn) B) k) ls (by omega) rfl (by rw [show n = k by omega]; rfl) (lv_sub hl [0, 1, 2] rfl) (by omega)
              intro nf
              induction nf with
              | zero => intro k x227_3 x227_1 ls hk e227_3 e227_1 hl hn; omega
              | succ nf ih227 =>
                intro k x227_3 x227_1 ls hk e227_3 e227_1 hl hn
                subst e227_3
                subst e227_1
                refine lv_iload_n hx hb dX2_digest_227 rfl (lv_at hl 0 rfl) ?_
                refine lv_bipush (v := nI 11) hx hb dX2_digest_228 (by decide) ?_
                refine z_icmp_gt (a := k) (b := 11) (tgt := 252) hx hb (by omega) (by omega) dX2_digest_230 (by decide) (fun (c_230 : 11 < k) => ?_) (fun (c_230 : k ≤ 11) => ?_)
                · skip
                  refine lv_lload_n hx hb dX2_digest_252 rfl (lv_at hl 1 rfl) ?_
                  exact hq (digC σ Hn B ξ (digP P (digB σ (digH σ B Hn) B) n) k) 253 ls dX2_digest_253 (show (digC σ Hn B ξ (digP P (digB σ (digH σ B Hn) B) n) k) = digF σ Hn B P ξ n from (by unfold digF; rw [show k = 11 + 1 by omega]))
                · skip
                  refine lv_ldc2 hx hb hown L210 dX2_digest_233 ?_
                  refine lv_lload_n hx hb dX2_digest_236 rfl (lv_at hl 1 rfl) ?_
                  refine lv_lmul hx hb dX2_digest_237 ?_
                  refine lv_aload_n hx hb dX2_digest_238 rfl (lv_at hl 2 rfl) ?_
                  refine lv_iload_n hx hb dX2_digest_239 rfl (lv_at hl 0 rfl) ?_
                  refine z_callV (As := [.int (nI k)]) (rest := [.long (31 * (digC σ Hn B ξ (digP P (digB σ (digH σ B Hn) B) n) k))]) ⟨hx, hb, hml, hown, hts⟩ (c_X2_count l dC dI cI cZ xd ma ka ta σ Hn B L C V M hI ξ hi (nI k)) (cwV 1 hts gX2_digest_X2_count rfl rfl rfl (by decide +kernel) ⟨Nat.le_of_ble_eq_true rfl, Nat.le_of_ble_eq_true rfl⟩) (hP.sub [0, 2, 3, 4, 5, 6, 7, 8, 9, 10, 11] rfl) hK (va_recv hK hP (ci := 2) (q0 := 0) rfl rfl) rfl hl.1 rfl (Nat.le_of_ble_eq_true rfl) ⟨Nat.zero_le _, Nat.zero_le _⟩ dX2_digest_240 (fun r hr => ?_)
                  obtain rfl : r = countF σ Hn B ξ (nI k) := hr
                  refine z_topi (v := cntN σ Hn B ξ k) (countF_in (by omega)) ?_
                  refine lv_i2l (v := (cntN σ Hn B ξ k).toInt64) hx hb dX2_digest_243 (rfl) ?_
                  refine lv_ladd hx hb dX2_digest_244 ?_
                  refine lv_lstore_n (lv' := [(1, .long ((31 * (digC σ Hn B ξ (digP P (digB σ (digH σ B Hn) B) n) k)) + ((cntN σ Hn B ξ k).toInt64))), (3, .int (nI k)), (0, .ref (xd 0))]) hx hb dX2_digest_245 rfl hl (by decide) rfl (fun ls hl => ?_)
                  refine lv_iinc (v := nI (k + 1)) (lv' := [(3, .int (nI (k + 1))), (1, .long ((31 * (digC σ Hn B ξ (digP P (digB σ (digH σ B Hn) B) n) k)) + ((cntN σ Hn B ξ k).toInt64))), (0, .ref (xd 0))]) hx hb dX2_digest_246 hl (k := 1) rfl (nI_1 _) (by decide) rfl (fun ls hl => ?_)
                  refine lv_goto (tgt := 227) hx hb dX2_digest_249 (by decide) ?_
                  exact ih227 (k + 1) (nI (k + 1)) ((31 * (digC σ Hn B ξ (digP P (digB σ (digH σ B Hn) B) n) k)) + ((cntN σ Hn B ξ k).toInt64)) ls (by omega) (show nI (k + 1) = nI (k + 1) from rfl) (show (31 * (digC σ Hn B ξ (digP P (digB σ (digH σ B Hn) B) n) k)) + ((cntN σ Hn B ξ k).toInt64) = digC σ Hn B ξ (digP P (digB σ (digH σ B Hn) B) n) (k + 1) from rfl) (lv_sub hl [0, 1, 2] rfl) (by omega)
            · skip
              refine lv_iload_n hx hb dX2_digest_196 rfl (lv_at hl 0 rfl) ?_
              refine lv_aload_n hx hb dX2_digest_197 rfl (lv_at hl 2 rfl) ?_
              refine va_get (D := (dC, dI)) (ci := 2) (v := .ref (xd 1)) (C := RX2) (T := TX2) (N := 8) hx hb hts hin2 hown hK hP 0 rfl rfl 4 (by decide) L29 (fun _ h9 => h9) rfl dX2_digest_198 ?_
              refine va_alen (D := (dC, dI)) (v := nI 8) hx hb hK hP 1 0 rfl rfl rfl dX2_digest_201 ?_
              refine z_icmp_ge (a := k) (b := 8) (tgt := 225) hx hb (by omega) (by omega) dX2_digest_202 (by decide) (fun z9 => absurd z9 (by omega)) (fun c_202 => ?_)
              refine lv_ldc2 hx hb hown L210 dX2_digest_205 ?_
              refine lv_lload_n hx hb dX2_digest_208 rfl (lv_at hl 1 rfl) ?_
              refine lv_lmul hx hb dX2_digest_209 ?_
              refine lv_aload_n hx hb dX2_digest_210 rfl (lv_at hl 2 rfl) ?_
              refine va_get (D := (dC, dI)) (ci := 2) (v := .ref (xd 1)) (C := RX2) (T := TX2) (N := 8) hx hb hts hin2 hown hK hP 0 rfl rfl 4 (by decide) L29 (fun _ h9 => h9) rfl dX2_digest_211 ?_
              refine lv_iload_n hx hb dX2_digest_214 rfl (lv_at hl 0 rfl) ?_
              refine z_iald (D := (dC, dI)) hx hb hK hP 1 0 rfl rfl k (rfl) (by omega) (by omega) (v := P k) (rfl) dX2_digest_215 ?_
              refine lv_i2l (v := (P k).toInt64) hx hb dX2_digest_216 (rfl) ?_
              refine lv_ladd hx hb dX2_digest_217 ?_
              refine lv_lstore_n (lv' := [(1, .long ((31 * (digP P (digB σ (digH σ B Hn) B) k)) + ((P k).toInt64))), (3, .int (nI k)), (0, .ref (xd 0))]) hx hb dX2_digest_218 rfl hl (by decide) rfl (fun ls hl => ?_)
              refine lv_iinc (v := nI (k + 1)) (lv' := [(3, .int (nI (k + 1))), (1, .long ((31 * (digP P (digB σ (digH σ B Hn) B) k)) + ((P k).toInt64))), (0, .ref (xd 0))]) hx hb dX2_digest_219 hl (k := 1) rfl (nI_1 _) (by decide) rfl (fun ls hl => ?_)
              refine lv_goto (tgt := 188) hx hb dX2_digest_222 (by decide) ?_
              exact ih188 (k + 1) (nI (k + 1)) ((31 * (digP P (digB σ (digH σ B Hn) B) k)) + ((P k).toInt64)) ls (by omega) (show nI (k + 1) = nI (k + 1) from rfl) (show (31 * (digP P (digB σ (digH σ B Hn) B) k)) + ((P k).toInt64) = digP P (digB σ (digH σ B Hn) B) (k + 1) from rfl) (lv_sub hl [0, 1, 2] rfl) (by omega)
        · skip
          refine lv_iconst (v := nI 0) hx hb dX2_digest_150 (by decide) ?_
          refine lv_istore (lv' := [(4, .int (nI 0)), (3, .int (nI k)), (1, .long (digB σ (digH σ B Hn) k)), (0, .ref (xd 0))]) hx hb dX2_digest_151 hl (by decide) rfl (fun ls hl => ?_)
          suffices hlp153 : ∀ (nf : Nat) (w : Nat) (x153_4 : Int32) (x153_1 : Int64) (ls : Array Slot), (w ≤ 5) → x153_4 = nI w → x153_1 = digX σ k (digB σ (digH σ B Hn) k) w → lv_has ls 5 [(4, .int x153_4), (3, .int (nI k)), (1, .long x153_1), (0, .ref (xd 0))] → 5 - w < nf → W p l e rm_c_X2_digest s m ([.ref (xd 0)] : List Value).toArray below meth c s.heap [] 0 0 Q (F0 m 153 ls []) by
            exact hlp153 ((5 - 0) + 1) 0 (nI 0) (digB σ (digH σ B Hn) k) ls (by omega) rfl rfl (lv_sub hl [0, 1, 2, 3] rfl) (by omega)
          intro nf
          induction nf with
          | zero => intro w x153_4 x153_1 ls hw e153_4 e153_1 hl hn; omega
          | succ nf ih153 =>
            intro w x153_4 x153_1 ls hw e153_4 e153_1 hl hn
            subst e153_4
            subst e153_1
            refine lv_iload hx hb dX2_digest_153 (lv_at hl 0 rfl) ?_
            refine lv_iconst (v := nI 4) hx hb dX2_digest_155 (by decide) ?_
            refine z_icmp_gt (a := w) (b := 4) (tgt := 180) hx hb (by omega) (by omega) dX2_digest_156 (by decide) (fun (c_156 : 4 < w) => ?_) (fun (c_156 : w ≤ 4) => ?_)
            · skip
              refine lv_iinc (v := nI (k + 1)) (lv' := [(3, .int (nI (k + 1))), (4, .int (nI w)), (1, .long (digX σ k (digB σ (digH σ B Hn) k) w)), (0, .ref (xd 0))]) hx hb dX2_digest_180 hl (k := 1) rfl (nI_1 _) (by decide) rfl (fun ls hl => ?_)
              refine lv_goto (tgt := 139) hx hb dX2_digest_183 (by decide) ?_
              exact ih139 (k + 1) (nI (k + 1)) (digX σ k (digB σ (digH σ B Hn) k) w) ls (by omega) (show nI (k + 1) = nI (k + 1) from rfl) (show digX σ k (digB σ (digH σ B Hn) k) w = digB σ (digH σ B Hn) (k + 1) from (by rw [digB, show w = 4 + 1 by omega])) (lv_sub hl [0, 2, 3] rfl) (by omega)
            · skip
              refine lv_ldc2 hx hb hown L210 dX2_digest_159 ?_
              refine lv_lload_n hx hb dX2_digest_162 rfl (lv_at hl 2 rfl) ?_
              refine lv_lmul hx hb dX2_digest_163 ?_
              refine lv_aload_n hx hb dX2_digest_164 rfl (lv_at hl 3 rfl) ?_
              refine lv_iload_n hx hb dX2_digest_165 rfl (lv_at hl 1 rfl) ?_
              refine lv_iload hx hb dX2_digest_166 (lv_at hl 0 rfl) ?_
              refine z_callV (As := [.int (nI k), .int (nI w)]) (rest := [.long (31 * (digX σ k (digB σ (digH σ B Hn) k) w))]) ⟨hx, hb, hml, hown, hts⟩ (c_X2_beastOf l dC dI cI cZ xd ma ka ta σ Hn B L C V M hI ξ hi (nI k) (nI w)) (cwV 2 hts gX2_digest_X2_beastOf rfl rfl rfl (by decide +kernel) ⟨Nat.le_of_ble_eq_true rfl, Nat.le_of_ble_eq_true rfl⟩) (hP.sub [0, 2, 3, 4, 5, 6, 7, 8, 9, 10, 11] rfl) hK (va_recv hK hP (ci := 2) (q0 := 0) rfl rfl) rfl hl.1 rfl (Nat.le_of_ble_eq_true rfl) ⟨Nat.zero_le _, Nat.zero_le _⟩ dX2_digest_168 (fun r hr => ?_)
              obtain rfl : r = beastOfF σ B (nI k) (nI w) := hr
              refine z_topi (v := σ (w + 5) k) (beastOfF_in c_147 jB (by omega)) ?_
              refine lv_i2l (v := (σ (w + 5) k).toInt64) hx hb dX2_digest_171 (rfl) ?_
              refine lv_ladd hx hb dX2_digest_172 ?_
              refine lv_lstore_n (lv' := [(1, .long ((31 * (digX σ k (digB σ (digH σ B Hn) k) w)) + ((σ (w + 5) k).toInt64))), (4, .int (nI w)), (3, .int (nI k)), (0, .ref (xd 0))]) hx hb dX2_digest_173 rfl hl (by decide) rfl (fun ls hl => ?_)
              refine lv_iinc (v := nI (w + 1)) (lv' := [(4, .int (nI (w + 1))), (1, .long ((31 * (digX σ k (digB σ (digH σ B Hn) k) w)) + ((σ (w + 5) k).toInt64))), (3, .int (nI k)), (0, .ref (xd 0))]) hx hb dX2_digest_174 hl (k := 1) rfl (nI_1 _) (by decide) rfl (fun ls hl => ?_)
              refine lv_goto (tgt := 153) hx hb dX2_digest_177 (by decide) ?_
              exact ih153 (w + 1) (nI (w + 1)) ((31 * (digX σ k (digB σ (digH σ B Hn) k) w)) + ((σ (w + 5) k).toInt64)) ls (by omega) (show nI (w + 1) = nI (w + 1) from rfl) (show (31 * (digX σ k (digB σ (digH σ B Hn) k) w)) + ((σ (w + 5) k).toInt64) = digX σ k (digB σ (digH σ B Hn) k) (w + 1) from rfl) (lv_sub hl [0, 2, 1, 3] rfl) (by omega)
    · skip
      refine lv_iconst (v := nI 0) hx hb dX2_digest_17 (by decide) ?_
      refine lv_istore (lv' := [(4, .int (nI 0)), (3, .int (nI k)), (1, .long (digH σ B k)), (0, .ref (xd 0))]) hx hb dX2_digest_18 hl (by decide) rfl (fun ls hl => ?_)
      suffices hlp20 : ∀ (nf : Nat) (w : Nat) (x20_4 : Int32) (x20_1 : Int64) (ls : Array Slot), (w ≤ 9) → x20_4 = nI w → x20_1 = digW σ B k (digH σ B k) w → lv_has ls 5 [(4, .int x20_4), (3, .int (nI k)), (1, .long x20_1), (0, .ref (xd 0))] → 9 - w < nf → W p l e rm_c_X2_digest s m ([.ref (xd 0)] : List Value).toArray below meth c s.heap [] 0 0 Q (F0 m 20 ls []) by
        exact hlp20 ((9 - 0) + 1) 0 (nI 0) (digH σ B k) ls (by omega) rfl rfl (lv_sub hl [0, 1, 2, 3] rfl) (by omega)
      intro nf
      induction nf with
      | zero => intro w x20_4 x20_1 ls hw e20_4 e20_1 hl hn; omega
      | succ nf ih20 =>
        intro w x20_4 x20_1 ls hw e20_4 e20_1 hl hn
        subst e20_4
        subst e20_1
        refine lv_iload hx hb dX2_digest_20 (lv_at hl 0 rfl) ?_
        refine lv_bipush (v := nI 8) hx hb dX2_digest_22 (by decide) ?_
        refine z_icmp_gt (a := w) (b := 8) (tgt := 48) hx hb (by omega) (by omega) dX2_digest_24 (by decide) (fun (c_24 : 8 < w) => ?_) (fun (c_24 : w ≤ 8) => ?_)
        · skip
          refine lv_aload_n hx hb dX2_digest_48 rfl (lv_at hl 3 rfl) ?_
          refine va_get (D := (dC, dI)) (ci := 2) (v := .ref (ma 0)) (C := RX2) (T := TX2) (N := 8) hx hb hts hin2 hown hK hP 0 rfl rfl 0 (by decide) L10 (fun _ h9 => h9) rfl dX2_digest_49 ?_
          refine lv_iload_n hx hb dX2_digest_52 rfl (lv_at hl 1 rfl) ?_
          refine z_callV (As := [.int (nI k)]) (rest := []) ⟨hx, hb, hml, hown, hts⟩ (c_X1_isAlive l dC dI cI cZ ma σ Hn B L C V M hI (nI k)) (cwV 1 hts gX2_digest_X1_isAlive rfl rfl rfl (by decide +kernel) ⟨Nat.le_of_ble_eq_true rfl, Nat.le_of_ble_eq_true rfl⟩) (hP.sub [2, 3, 4, 5, 6, 7, 8, 9, 10, 11] rfl) hK (va_recv hK hP (ci := 1) (q0 := 2) rfl rfl) rfl hl.1 rfl (Nat.le_of_ble_eq_true rfl) ⟨Nat.zero_le _, Nat.zero_le _⟩ dX2_digest_53 (fun r hr => ?_)
          obtain rfl : r = zb (liveP σ Hn (nI k)) := hr
          refine z_ifeq_b (P := liveP σ Hn (nI k)) (tgt := 131) hx hb dX2_digest_56 (by decide) (fun (c_56 : ¬ (liveP σ Hn (nI k))) => ?_) (fun (c_56 : liveP σ Hn (nI k)) => ?_)
          · skip
            refine lv_iinc (v := nI (k + 1)) (lv' := [(3, .int (nI (k + 1))), (4, .int (nI w)), (1, .long (digW σ B k (digH σ B k) w)), (0, .ref (xd 0))]) hx hb dX2_digest_131 hl (k := 1) rfl (nI_1 _) (by decide) rfl (fun ls hl => ?_)
            refine lv_goto (tgt := 6) hx hb dX2_digest_134 (by decide) ?_
            exact ih6 (k + 1) (nI (k + 1)) (digW σ B k (digH σ B k) w) ls (by omega) (show nI (k + 1) = nI (k + 1) from rfl) (show digW σ B k (digH σ B k) w = digH σ B (k + 1) from (by rw [digH]; unfold digJ; rw [show w = 8 + 1 by omega, if_neg (fun z => c_56 (live_yes c_14 z))])) (lv_sub hl [0, 2, 3] rfl) (by omega)
          · skip
            refine lv_ldc2 hx hb hown L210 dX2_digest_59 ?_
            refine lv_lload_n hx hb dX2_digest_62 rfl (lv_at hl 2 rfl) ?_
            refine lv_lmul hx hb dX2_digest_63 ?_
            refine lv_aload_n hx hb dX2_digest_64 rfl (lv_at hl 3 rfl) ?_
            refine lv_iload_n hx hb dX2_digest_65 rfl (lv_at hl 1 rfl) ?_
            refine lv_iconst (v := nI 0) hx hb dX2_digest_66 (by decide) ?_
            refine z_callV (As := [.int (nI k), .int (nI 0)]) (rest := [.long (31 * (digW σ B k (digH σ B k) w))]) ⟨hx, hb, hml, hown, hts⟩ (c_X2_safe l dC dI cI cZ xd ma ka ta σ Hn B L C V M hI ξ hi (nI k) (nI 0)) (cwV 2 hts gX2_digest_X2_safe rfl rfl rfl (by decide +kernel) ⟨Nat.le_of_ble_eq_true rfl, Nat.le_of_ble_eq_true rfl⟩) (hP.sub [0, 2, 3, 4, 5, 6, 7, 8, 9, 10, 11] rfl) hK (va_recv hK hP (ci := 2) (q0 := 0) rfl rfl) rfl hl.1 rfl (Nat.le_of_ble_eq_true rfl) ⟨Nat.zero_le _, Nat.zero_le _⟩ dX2_digest_67 (fun r hr => ?_)
            obtain rfl : r = safeF σ Hn B (nI k) (nI 0) := hr
            refine z_topi (v := safeN σ B k 0) (safeF_in c_14 jH (by decide) (live_1 c_14 jH c_56)) ?_
            refine lv_i2l (v := (safeN σ B k 0).toInt64) hx hb dX2_digest_70 (rfl) ?_
            refine lv_ladd hx hb dX2_digest_71 ?_
            refine lv_lstore_n (lv' := [(1, .long ((31 * (digW σ B k (digH σ B k) w)) + ((safeN σ B k 0).toInt64))), (4, .int (nI w)), (3, .int (nI k)), (0, .ref (xd 0))]) hx hb dX2_digest_72 rfl hl (by decide) rfl (fun ls hl => ?_)
            refine lv_ldc2 hx hb hown L210 dX2_digest_73 ?_
            refine lv_lload_n hx hb dX2_digest_76 rfl (lv_at hl 0 rfl) ?_
            refine lv_lmul hx hb dX2_digest_77 ?_
            refine lv_aload_n hx hb dX2_digest_78 rfl (lv_at hl 3 rfl) ?_
            refine lv_iload_n hx hb dX2_digest_79 rfl (lv_at hl 2 rfl) ?_
            refine lv_iconst (v := nI 1) hx hb dX2_digest_80 (by decide) ?_
            refine z_callV (As := [.int (nI k), .int (nI 1)]) (rest := [.long (31 * ((31 * (digW σ B k (digH σ B k) w)) + ((safeN σ B k 0).toInt64)))]) ⟨hx, hb, hml, hown, hts⟩ (c_X2_safe l dC dI cI cZ xd ma ka ta σ Hn B L C V M hI ξ hi (nI k) (nI 1)) (cwV 2 hts gX2_digest_X2_safe rfl rfl rfl (by decide +kernel) ⟨Nat.le_of_ble_eq_true rfl, Nat.le_of_ble_eq_true rfl⟩) (hP.sub [0, 2, 3, 4, 5, 6, 7, 8, 9, 10, 11] rfl) hK (va_recv hK hP (ci := 2) (q0 := 0) rfl rfl) rfl hl.1 rfl (Nat.le_of_ble_eq_true rfl) ⟨Nat.zero_le _, Nat.zero_le _⟩ dX2_digest_81 (fun r hr => ?_)
            obtain rfl : r = safeF σ Hn B (nI k) (nI 1) := hr
            refine z_topi (v := safeN σ B k 1) (safeF_in c_14 jH (by decide) (live_1 c_14 jH c_56)) ?_
            refine lv_i2l (v := (safeN σ B k 1).toInt64) hx hb dX2_digest_84 (rfl) ?_
            refine lv_ladd hx hb dX2_digest_85 ?_
            refine lv_lstore_n (lv' := [(1, .long ((31 * ((31 * (digW σ B k (digH σ B k) w)) + ((safeN σ B k 0).toInt64))) + ((safeN σ B k 1).toInt64))), (4, .int (nI w)), (3, .int (nI k)), (0, .ref (xd 0))]) hx hb dX2_digest_86 rfl hl (by decide) rfl (fun ls hl => ?_)
            refine lv_ldc2 hx hb hown L210 dX2_digest_87 ?_
            refine lv_lload_n hx hb dX2_digest_90 rfl (lv_at hl 0 rfl) ?_
            refine lv_lmul hx hb dX2_digest_91 ?_
            refine lv_aload_n hx hb dX2_digest_92 rfl (lv_at hl 3 rfl) ?_
            refine lv_iload_n hx hb dX2_digest_93 rfl (lv_at hl 2 rfl) ?_
            refine lv_iconst (v := nI 2) hx hb dX2_digest_94 (by decide) ?_
            refine z_callV (As := [.int (nI k), .int (nI 2)]) (rest := [.long (31 * ((31 * ((31 * (digW σ B k (digH σ B k) w)) + ((safeN σ B k 0).toInt64))) + ((safeN σ B k 1).toInt64)))]) ⟨hx, hb, hml, hown, hts⟩ (c_X2_giving l dC dI cI cZ xd ma ka ta σ Hn B L C V M hI ξ hi (nI k) (nI 2)) (cwV 2 hts gX2_digest_X2_giving rfl rfl rfl (by decide +kernel) ⟨Nat.le_of_ble_eq_true rfl, Nat.le_of_ble_eq_true rfl⟩) (hP.sub [0, 2, 3, 4, 5, 6, 7, 8, 9, 10, 11] rfl) hK (va_recv hK hP (ci := 2) (q0 := 0) rfl rfl) rfl hl.1 rfl (Nat.le_of_ble_eq_true rfl) ⟨Nat.zero_le _, Nat.zero_le _⟩ dX2_digest_95 (fun r hr => ?_)
            obtain rfl : r = givingF σ Hn B (nI k) (nI 2) := hr
            refine z_topi (v := giveF σ B k 2) (givingF_in c_14 jH (by decide) (by decide) (live_1 c_14 jH c_56)) ?_
            refine lv_i2l (v := (giveF σ B k 2).toInt64) hx hb dX2_digest_98 (rfl) ?_
            refine lv_ladd hx hb dX2_digest_99 ?_
            refine lv_lstore_n (lv' := [(1, .long ((31 * ((31 * ((31 * (digW σ B k (digH σ B k) w)) + ((safeN σ B k 0).toInt64))) + ((safeN σ B k 1).toInt64))) + ((giveF σ B k 2).toInt64))), (4, .int (nI w)), (3, .int (nI k)), (0, .ref (xd 0))]) hx hb dX2_digest_100 rfl hl (by decide) rfl (fun ls hl => ?_)
            refine lv_ldc2 hx hb hown L210 dX2_digest_101 ?_
            refine lv_lload_n hx hb dX2_digest_104 rfl (lv_at hl 0 rfl) ?_
            refine lv_lmul hx hb dX2_digest_105 ?_
            refine lv_aload_n hx hb dX2_digest_106 rfl (lv_at hl 3 rfl) ?_
            refine lv_iload_n hx hb dX2_digest_107 rfl (lv_at hl 2 rfl) ?_
            refine lv_iconst (v := nI 2) hx hb dX2_digest_108 (by decide) ?_
            refine lv_iconst (v := nI 0) hx hb dX2_digest_109 (by decide) ?_
            refine z_callV (As := [.int (nI k), .int (nI 2), .int (nI 0)]) (rest := [.long (31 * ((31 * ((31 * ((31 * (digW σ B k (digH σ B k) w)) + ((safeN σ B k 0).toInt64))) + ((safeN σ B k 1).toInt64))) + ((giveF σ B k 2).toInt64)))]) ⟨hx, hb, hml, hown, hts⟩ (c_X2_mean l dC dI cI cZ xd ma ka ta σ Hn B L C V M hI ξ hi (nI k) (nI 2) (nI 0)) (cwV 3 hts gX2_digest_X2_mean rfl rfl rfl (by decide +kernel) ⟨Nat.le_of_ble_eq_true rfl, Nat.le_of_ble_eq_true rfl⟩) (hP.sub [0, 2, 3, 4, 5, 6, 7, 8, 9, 10, 11] rfl) hK (va_recv hK hP (ci := 2) (q0 := 0) rfl rfl) rfl hl.1 rfl (Nat.le_of_ble_eq_true rfl) ⟨Nat.zero_le _, Nat.zero_le _⟩ dX2_digest_110 (fun r hr => ?_)
            obtain rfl : r = meanF σ Hn B (nI k) (nI 2) (nI 0) := hr
            refine z_topi (v := meanN σ B k 2 0) (meanF_in c_14 jH (by decide) (by decide) (by decide) (live_1 c_14 jH c_56)) ?_
            refine lv_i2l (v := (meanN σ B k 2 0).toInt64) hx hb dX2_digest_113 (rfl) ?_
            refine lv_ladd hx hb dX2_digest_114 ?_
            refine lv_lstore_n (lv' := [(1, .long ((31 * ((31 * ((31 * ((31 * (digW σ B k (digH σ B k) w)) + ((safeN σ B k 0).toInt64))) + ((safeN σ B k 1).toInt64))) + ((giveF σ B k 2).toInt64))) + ((meanN σ B k 2 0).toInt64))), (4, .int (nI w)), (3, .int (nI k)), (0, .ref (xd 0))]) hx hb dX2_digest_115 rfl hl (by decide) rfl (fun ls hl => ?_)
            refine lv_ldc2 hx hb hown L210 dX2_digest_116 ?_
            refine lv_lload_n hx hb dX2_digest_119 rfl (lv_at hl 0 rfl) ?_
            refine lv_lmul hx hb dX2_digest_120 ?_
            refine lv_aload_n hx hb dX2_digest_121 rfl (lv_at hl 3 rfl) ?_
            refine lv_iload_n hx hb dX2_digest_122 rfl (lv_at hl 2 rfl) ?_
            refine lv_iconst (v := nI 2) hx hb dX2_digest_123 (by decide) ?_
            refine lv_iconst (v := nI 1) hx hb dX2_digest_124 (by decide) ?_
            refine z_callV (As := [.int (nI k), .int (nI 2), .int (nI 1)]) (rest := [.long (31 * ((31 * ((31 * ((31 * ((31 * (digW σ B k (digH σ B k) w)) + ((safeN σ B k 0).toInt64))) + ((safeN σ B k 1).toInt64))) + ((giveF σ B k 2).toInt64))) + ((meanN σ B k 2 0).toInt64)))]) ⟨hx, hb, hml, hown, hts⟩ (c_X2_mean l dC dI cI cZ xd ma ka ta σ Hn B L C V M hI ξ hi (nI k) (nI 2) (nI 1)) (cwV 3 hts gX2_digest_X2_mean rfl rfl rfl (by decide +kernel) ⟨Nat.le_of_ble_eq_true rfl, Nat.le_of_ble_eq_true rfl⟩) (hP.sub [0, 2, 3, 4, 5, 6, 7, 8, 9, 10, 11] rfl) hK (va_recv hK hP (ci := 2) (q0 := 0) rfl rfl) rfl hl.1 rfl (Nat.le_of_ble_eq_true rfl) ⟨Nat.zero_le _, Nat.zero_le _⟩ dX2_digest_125 (fun r hr => ?_)
            obtain rfl : r = meanF σ Hn B (nI k) (nI 2) (nI 1) := hr
            refine z_topi (v := meanN σ B k 2 1) (meanF_in c_14 jH (by decide) (by decide) (by decide) (live_1 c_14 jH c_56)) ?_
            refine lv_i2l (v := (meanN σ B k 2 1).toInt64) hx hb dX2_digest_128 (rfl) ?_
            refine lv_ladd hx hb dX2_digest_129 ?_
            refine lv_lstore_n (lv' := [(1, .long ((31 * ((31 * ((31 * ((31 * ((31 * (digW σ B k (digH σ B k) w)) + ((safeN σ B k 0).toInt64))) + ((safeN σ B k 1).toInt64))) + ((giveF σ B k 2).toInt64))) + ((meanN σ B k 2 0).toInt64))) + ((meanN σ B k 2 1).toInt64))), (4, .int (nI w)), (3, .int (nI k)), (0, .ref (xd 0))]) hx hb dX2_digest_130 rfl hl (by decide) rfl (fun ls hl => ?_)
            refine lv_iinc (v := nI (k + 1)) (lv' := [(3, .int (nI (k + 1))), (1, .long ((31 * ((31 * ((31 * ((31 * ((31 * (digW σ B k (digH σ B k) w)) + ((safeN σ B k 0).toInt64))) + ((safeN σ B k 1).toInt64))) + ((giveF σ B k 2).toInt64))) + ((meanN σ B k 2 0).toInt64))) + ((meanN σ B k 2 1).toInt64))), (4, .int (nI w)), (0, .ref (xd 0))]) hx hb dX2_digest_131 hl (k := 2) rfl (nI_1 _) (by decide) rfl (fun ls hl => ?_)
            refine lv_goto (tgt := 6) hx hb dX2_digest_134 (by decide) ?_
            exact ih6 (k + 1) (nI (k + 1)) ((31 * ((31 * ((31 * ((31 * ((31 * (digW σ B k (digH σ B k) w)) + ((safeN σ B k 0).toInt64))) + ((safeN σ B k 1).toInt64))) + ((giveF σ B k 2).toInt64))) + ((meanN σ B k 2 0).toInt64))) + ((meanN σ B k 2 1).toInt64)) ls (by omega) (show nI (k + 1) = nI (k + 1) from rfl) (show (31 * ((31 * ((31 * ((31 * ((31 * (digW σ B k (digH σ B k) w)) + ((safeN σ B k 0).toInt64))) + ((safeN σ B k 1).toInt64))) + ((giveF σ B k 2).toInt64))) + ((meanN σ B k 2 0).toInt64))) + ((meanN σ B k 2 1).toInt64) = digH σ B (k + 1) from (by rw [digH]; unfold digJ; rw [show w = 8 + 1 by omega, if_pos (live_1 c_14 jH c_56)]; rfl)) (lv_sub hl [0, 1, 3] rfl) (by omega)
        · skip
          refine lv_ldc2 hx hb hown L210 dX2_digest_27 ?_
          refine lv_lload_n hx hb dX2_digest_30 rfl (lv_at hl 2 rfl) ?_
          refine lv_lmul hx hb dX2_digest_31 ?_
          refine lv_aload_n hx hb dX2_digest_32 rfl (lv_at hl 3 rfl) ?_
          refine lv_iload_n hx hb dX2_digest_33 rfl (lv_at hl 1 rfl) ?_
          refine lv_iload hx hb dX2_digest_34 (lv_at hl 0 rfl) ?_
          refine z_callV (As := [.int (nI k), .int (nI w)]) (rest := [.long (31 * (digW σ B k (digH σ B k) w))]) ⟨hx, hb, hml, hown, hts⟩ (c_X2_about l dC dI cI cZ xd ma ka ta σ Hn B L C V M hI ξ hi (nI k) (nI w)) (cwV 2 hts gX2_digest_X2_about rfl rfl rfl (by decide +kernel) ⟨Nat.le_of_ble_eq_true rfl, Nat.le_of_ble_eq_true rfl⟩) (hP.sub [0, 2, 3, 4, 5, 6, 7, 8, 9, 10, 11] rfl) hK (va_recv hK hP (ci := 2) (q0 := 0) rfl rfl) rfl hl.1 rfl (Nat.le_of_ble_eq_true rfl) ⟨Nat.zero_le _, Nat.zero_le _⟩ dX2_digest_36 (fun r hr => ?_)
          obtain rfl : r = aboutF σ Hn B (nI k) (nI w) := hr
          refine z_topi (v := aboutN σ B k w) (aboutF_in c_14 jH (by omega)) ?_
          refine lv_i2l (v := (aboutN σ B k w).toInt64) hx hb dX2_digest_39 (rfl) ?_
          refine lv_ladd hx hb dX2_digest_40 ?_
          refine lv_lstore_n (lv' := [(1, .long ((31 * (digW σ B k (digH σ B k) w)) + ((aboutN σ B k w).toInt64))), (4, .int (nI w)), (3, .int (nI k)), (0, .ref (xd 0))]) hx hb dX2_digest_41 rfl hl (by decide) rfl (fun ls hl => ?_)
          refine lv_iinc (v := nI (w + 1)) (lv' := [(4, .int (nI (w + 1))), (1, .long ((31 * (digW σ B k (digH σ B k) w)) + ((aboutN σ B k w).toInt64))), (3, .int (nI k)), (0, .ref (xd 0))]) hx hb dX2_digest_42 hl (k := 1) rfl (nI_1 _) (by decide) rfl (fun ls hl => ?_)
          refine lv_goto (tgt := 20) hx hb dX2_digest_45 (by decide) ?_
          exact ih20 (w + 1) (nI (w + 1)) ((31 * (digW σ B k (digH σ B k) w)) + ((aboutN σ B k w).toInt64)) ls (by omega) (show nI (w + 1) = nI (w + 1) from rfl) (show (31 * (digW σ B k (digH σ B k) w)) + ((aboutN σ B k w).toInt64) = digW σ B k (digH σ B k) (w + 1) from rfl) (lv_sub hl [0, 2, 1, 3] rfl) (by omega)
