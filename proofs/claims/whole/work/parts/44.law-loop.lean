/-! ===== the law: its loop ===== -/
set_option maxHeartbeats 4000000 in
set_option maxRecDepth 100000 in
theorem lw_loop (l : Launch) {p : Program} {e : Env} {s : State} {m : MethodId} {below : List Frame} {meth : Method} {c : Code} {b L : Nat} {xs : Nat → Int32} (hL : L ≤ 2048) (C0 : lw_At p s m meth c b L xs) {dC : Nat → ClassId} {dI : Nat → Nat → Nat} {cI cZ : ClassId} (hK : va_K (dC, dI) vwCl (tyIZ cI cZ) s) {tf tt : Nat} (hE : lawA tf tt (fun q : Nat => s.heap.size ≤ q) s) {xd ma ka ta bd : Nat → Nat} :
    ∀ (n y i : Nat), y ≤ i → i ≤ L → L + 1 ≤ i + n → ∀ (σ κ ρ : St) (P ξ : Nat → Int32) (hi sd sd2 : Int32) (kv : Nat → Int32) (hh : Int64) (sm sr fm fr fl : Nat → Int32) (ls : Array Slot) (H : Heap) (locs : List Loc), LI y σ κ ξ kv fm fr fl hi → va_P (dC, dI) vwCl (WL cI cZ xd ma ka ta bd σ κ ρ P ξ hi sd σ P ξ sd2 kv hh sm sr fm fr fl) H → va_D (fun q : Nat => s.heap.size ≤ q) (WL cI cZ xd ma ka ta bd σ κ ρ P ξ hi sd σ P ξ sd2 kv hh sm sr fm fr fl) → va_S (fun q : Nat => s.heap.size ≤ q) s.heap H locs → lv_has ls 4 [(3, .int (nI i)), (0, .ref b), (1, .ref (xd 0)), (2, .ref (bd 0))] → W p l e rmL s m #[Value.ref b] below meth c H locs 42 380 (lw_Z below #[Value.ref b] s) (F0 m 18 ls []) := by
  obtain ⟨hx, hb, hr, hml, hown, hts, hX, hbl, hlocks, hgv⟩ := id C0
  have X : LB p s m c b L xs := ⟨hx, hb, hml, hown, fun w h => hts w (wsL_law_in w h), hX, hbl⟩
  have hA : ∀ q : Nat, s.heap.size ≤ q → (fun q : Nat => s.heap.size ≤ q) q := fun _ h => h
  have hbA : ¬ (fun q : Nat => s.heap.size ≤ q) b := Nat.not_le.mpr hbl
  intro n
  induction n with
  | zero =>
    intro y i h1 h2 h3
    exact absurd h3 (by omega)
  | succ n ih =>
    intro y i hyi hiL hin σ κ ρ P ξ hi sd sd2 kv hh sm sr fm fr fl ls H locs hLI hP hD hS hl
    refine lv_iload_n hx hb dL_law_18 rfl (lv_at hl 0 rfl) ?_
    refine lv_aload_n hx hb dL_law_19 rfl (lv_at hl 1 rfl) ?_
    refine va_slen hx hb hX hbl hbA hS dL_law_20 ?_
    refine lv_iconst (v := nI 4) hx hb dL_law_21 (by decide) ?_
    refine lv_isub hx hb dL_law_22 ?_
    refine lv_icmp_gt (tgt := 756) hx hb dL_law_23 (by decide) (fun _ => ?_) (fun c1 => ?_)
    · refine lv_iconst (v := 1) hx hb dL_law_756 (by decide) ?_
      refine va_forget (fun q hq => hS.2.2 q hq) ?_
      exact lw_ret hx hb hr hlocks dL_law_757
    · have hi4 : i + 4 ≤ L := lw_bound hL hiL c1
      have hy : y < 2 ^ 20 := Nat.lt_of_le_of_lt (Nat.le_trans hyi (Nat.le_trans hiL hL)) (by decide)
      have kk : lawK p l e s m b below meth c (lw_Z below #[Value.ref b] s) dC dI cI cZ (fun q : Nat => s.heap.size ≤ q) xd ma ka ta bd y i := by
        intro σ κ ρ P ξ hi sd sd2 kv hh sm sr fm fr fl ls H locs hLI hP hD hS hl
        refine lv_iinc (v := nI (i + 4)) (lv' := [(3, .int (nI (i + 4))), (0, .ref b), (1, .ref (xd 0)), (2, .ref (bd 0))]) hx hb dL_law_750 hl (k := 0) rfl (nI_add i 4) (by decide) rfl (fun ls hl => ?_)
        refine lv_goto (tgt := 18) hx hb dL_law_753 (by decide) ?_
        exact ih (y + 1) (i + 4) (by omega) hi4 (by omega) σ κ ρ P ξ hi sd sd2 kv hh sm sr fm fr fl ls H locs hLI hP hD hS hl
      refine lv_aload_n hx hb dL_law_26 rfl (lv_at hl 1 rfl) ?_
      refine lv_iload_n hx hb dL_law_27 rfl (lv_at hl 0 rfl) ?_
      refine z_sld hx hb hX hbl hbA hS i (by omega) hL dL_law_28 ?_
      refine lv_bipush (v := nI 31) hx hb dL_law_29 (by decide) ?_
      refine lv_iand hx hb dL_law_31 ?_
      obtain ⟨j, hj, ej⟩ := nI_31 (xs i)
      rw [ej]
      match j, hj with
      | 0, _ =>
        refine lv_tableIn (off := 108) (tgt := 140) hx hb dL_law_32 (by decide +kernel) (by decide +kernel) (by decide +kernel) (by decide) ?_
        exact lw_c0 l X hA hbA hK hE hy hi4 hL hLI hP hD hS hl kk
      | 1, _ =>
        refine lv_tableIn (off := 131) (tgt := 163) hx hb dL_law_32 (by decide +kernel) (by decide +kernel) (by decide +kernel) (by decide) ?_
        exact lw_c1 l X hA hbA hK hE hy hi4 hL hLI hP hD hS hl kk
      | 2, _ =>
        refine lv_tableIn (off := 144) (tgt := 176) hx hb dL_law_32 (by decide +kernel) (by decide +kernel) (by decide +kernel) (by decide) ?_
        exact lw_c2 l X hA hbA hK hE hy hi4 hL hLI hP hD hS hl kk
      | 3, _ =>
        refine lv_tableIn (off := 157) (tgt := 189) hx hb dL_law_32 (by decide +kernel) (by decide +kernel) (by decide +kernel) (by decide) ?_
        exact lw_c3 l X hA hbA hK hE hy hi4 hL hLI hP hD hS hl kk
      | 4, _ =>
        refine lv_tableIn (off := 170) (tgt := 202) hx hb dL_law_32 (by decide +kernel) (by decide +kernel) (by decide +kernel) (by decide) ?_
        exact lw_c4 l X hA hbA hK hE hy hi4 hL hLI hP hD hS hl kk
      | 5, _ =>
        refine lv_tableIn (off := 203) (tgt := 235) hx hb dL_law_32 (by decide +kernel) (by decide +kernel) (by decide +kernel) (by decide) ?_
        exact lw_c5 l X hA hbA hK hE hy hi4 hL hLI hP hD hS hl kk
      | 6, _ =>
        refine lv_tableIn (off := 236) (tgt := 268) hx hb dL_law_32 (by decide +kernel) (by decide +kernel) (by decide +kernel) (by decide) ?_
        exact lw_c6 l X hA hbA hK hE hy hi4 hL hLI hP hD hS hl kk
      | 7, _ =>
        refine lv_tableIn (off := 269) (tgt := 301) hx hb dL_law_32 (by decide +kernel) (by decide +kernel) (by decide +kernel) (by decide) ?_
        exact lw_c7 l X hA hbA hK hE hy hi4 hL hLI hP hD hS hl kk
      | 8, _ =>
        refine lv_tableIn (off := 302) (tgt := 334) hx hb dL_law_32 (by decide +kernel) (by decide +kernel) (by decide +kernel) (by decide) ?_
        exact lw_c8 l X hA hbA hK hE hy hi4 hL hLI hP hD hS hl kk
      | 9, _ =>
        refine lv_tableIn (off := 335) (tgt := 367) hx hb dL_law_32 (by decide +kernel) (by decide +kernel) (by decide +kernel) (by decide) ?_
        exact lw_c9 l X hA hbA hK hE hy hi4 hL hLI hP hD hS hl kk
      | 10, _ =>
        refine lv_tableIn (off := 368) (tgt := 400) hx hb dL_law_32 (by decide +kernel) (by decide +kernel) (by decide +kernel) (by decide) ?_
        exact lw_c10 l X hA hbA hK hE hy hi4 hL hLI hP hD hS hl kk
      | 11, _ =>
        refine lv_tableIn (off := 401) (tgt := 433) hx hb dL_law_32 (by decide +kernel) (by decide +kernel) (by decide +kernel) (by decide) ?_
        exact lw_c11 l X hA hbA hK hE hy hi4 hL hLI hP hD hS hl kk
      | 12, _ =>
        refine lv_tableIn (off := 424) (tgt := 456) hx hb dL_law_32 (by decide +kernel) (by decide +kernel) (by decide +kernel) (by decide) ?_
        exact lw_c12 l X hA hbA hK hE hy hi4 hL hLI hP hD hS hl kk
      | 13, _ =>
        refine lv_tableIn (off := 437) (tgt := 469) hx hb dL_law_32 (by decide +kernel) (by decide +kernel) (by decide +kernel) (by decide) ?_
        exact lw_c13 l X hA hbA hK hE hy hi4 hL hLI hP hD hS hl kk
      | 14, _ =>
        refine lv_tableIn (off := 470) (tgt := 502) hx hb dL_law_32 (by decide +kernel) (by decide +kernel) (by decide +kernel) (by decide) ?_
        exact lw_c14 l X hA hbA hK hE hy hi4 hL hLI hP hD hS hl kk
      | 15, _ =>
        refine lv_tableIn (off := 503) (tgt := 535) hx hb dL_law_32 (by decide +kernel) (by decide +kernel) (by decide +kernel) (by decide) ?_
        exact lw_c15 l X hA hbA hK hE hy hi4 hL hLI hP hD hS hl kk
      | 16, _ =>
        refine lv_tableIn (off := 546) (tgt := 578) hx hb dL_law_32 (by decide +kernel) (by decide +kernel) (by decide +kernel) (by decide) ?_
        exact lw_c16 l X hA hbA hK hE hy hi4 hL hLI hP hD hS hl kk
      | 17, _ =>
        refine lv_tableIn (off := 579) (tgt := 611) hx hb dL_law_32 (by decide +kernel) (by decide +kernel) (by decide +kernel) (by decide) ?_
        exact lw_c17 l X hA hbA hK hE hy hi4 hL hLI hP hD hS hl kk
      | 18, _ =>
        refine lv_tableIn (off := 612) (tgt := 644) hx hb dL_law_32 (by decide +kernel) (by decide +kernel) (by decide +kernel) (by decide) ?_
        exact lw_c18 l X hA hbA hK hE hy hi4 hL hLI hP hD hS hl kk
      | 19, _ =>
        refine lv_tableIn (off := 655) (tgt := 687) hx hb dL_law_32 (by decide +kernel) (by decide +kernel) (by decide +kernel) (by decide) ?_
        exact lw_c19 l X hA hbA hK hE hy hi4 hL hLI hP hD hS hl kk
      | 20, _ =>
        refine lv_tableIn (off := 668) (tgt := 700) hx hb dL_law_32 (by decide +kernel) (by decide +kernel) (by decide +kernel) (by decide) ?_
        exact lw_c20 l X hA hbA hK hE hy hi4 hL hLI hP hD hS hl kk
      | 21, _ =>
        refine lv_tableIn (off := 681) (tgt := 713) hx hb dL_law_32 (by decide +kernel) (by decide +kernel) (by decide +kernel) (by decide) ?_
        exact lw_c21 l X hA hbA hK hE hy hi4 hL hLI hP hD hS hl kk
      | 22, _ =>
        refine lv_tableIn (off := 704) (tgt := 736) hx hb dL_law_32 (by decide +kernel) (by decide +kernel) (by decide +kernel) (by decide) ?_
        exact lw_c22 l X hA hbA hK hE hy hi4 hL hLI hP hD hS hl kk
      | j + 23, hj =>
        refine lv_tableOut (tgt := 750) hx hb dL_law_32 (Or.inr ?_) (by decide) ?_
        · rw [nI_toInt (by omega)]
          omega
        · exact kk σ κ ρ P ξ hi sd sd2 kv hh sm sr fm fr fl ls H locs (hLI.mono (Nat.le_succ y)) hP hD hS hl
