/-! ===== the law: one round ===== -/
def lawK (p : Program) (l : Launch) (e : Env) (s : State) (m : MethodId) (b : Nat) (below : List Frame) (meth : Method) (c : Code) (Q : State → Prop) (dC : Nat → ClassId) (dI : Nat → Nat → Nat) (cI cZ : ClassId) (A : Nat → Prop) (xd ma ka ta bd : Nat → Nat) (y i : Nat) : Prop := ∀ (σ κ ρ : St) (P ξ : Nat → Int32) (hi sd sd2 : Int32) (kv : Nat → Int32) (hh : Int64) (sm sr fm fr fl : Nat → Int32) (ls : Array Slot) (H : Heap) (locs : List Loc), LI (y + 1) σ κ ξ kv fm fr fl hi → va_P (dC, dI) vwCl (WL cI cZ xd ma ka ta bd σ κ ρ P ξ hi sd σ P ξ sd2 kv hh sm sr fm fr fl) H → va_D A (WL cI cZ xd ma ka ta bd σ κ ρ P ξ hi sd σ P ξ sd2 kv hh sm sr fm fr fl) → va_S A s.heap H locs → lv_has ls 4 [(3, .int (nI i)), (0, .ref b), (1, .ref (xd 0)), (2, .ref (bd 0))] → W p l e rmL s m #[Value.ref b] below meth c H locs 42 380 Q (F0 m 750 ls [])
def z_upd : va_W → List Nat → va_W → va_W
  | ws, i :: is, x :: xs => z_upd (ws.set i x) is xs
  | ws, _, _ => ws
theorem z_upd_in : ∀ (is : List Nat) (xs ws : va_W) (k : Nat) (q : Nat × va_E), is.length = xs.length → (z_upd ws is xs)[k]? = some q → q ∈ xs ∨ (k ∉ is ∧ ws[k]? = some q)
  | [], [], _, _, _, _, h => Or.inr ⟨List.not_mem_nil, h⟩
  | i :: is, x :: xs, ws, k, q, hl, h => by
    have hl2 : is.length = xs.length := Nat.succ.inj hl
    rcases z_upd_in is xs (ws.set i x) k q hl2 h with h1 | ⟨h1, h2⟩
    · exact Or.inl (List.mem_cons_of_mem _ h1)
    · by_cases e : i = k
      · subst e
        rw [List.getElem?_set_self'] at h2
        cases hw : ws[i]? with
        | none => rw [hw] at h2; cases h2
        | some z => rw [hw] at h2; exact Or.inl (by cases h2; exact List.mem_cons_self)
      · rw [List.getElem?_set_ne e] at h2
        refine Or.inr ⟨fun hk => ?_, h2⟩
        rcases List.mem_cons.mp hk with h3 | h3
        · exact e h3.symm
        · exact h1 h3
  | [], _ :: _, _, _, _, hl, _ => by cases hl
  | _ :: _, [], _, _, _, hl, _ => by cases hl
theorem z_back {D : va_G} {cl : List vw_C} {ws wd : va_W} {H : Heap} {isC isR : List Nat} (h : va_P D cl (isR.filterMap (fun i => ws[i]?) ++ wd) H) (hl : isC.length = wd.length) (N : Nat) (hN : ws.length = N) (hc : ∀ i, i < N → i ∈ isC ∨ i ∈ isR) : va_P D cl (z_upd ws isC wd) H := by
  intro k q hk
  have hm : q ∈ isR.filterMap (fun i => ws[i]?) ++ wd := by
    rcases z_upd_in isC wd ws k q hl hk with h1 | ⟨h1, h2⟩
    · exact List.mem_append_right _ h1
    · have hlt : k < N := by rw [← hN]; exact (List.getElem?_eq_some_iff.mp h2).1
      exact List.mem_append_left _ (List.mem_filterMap.mpr ⟨k, (hc k hlt).resolve_left h1, h2⟩)
  obtain ⟨j, hj⟩ := List.getElem?_of_mem hm
  exact h j q hj
theorem z_upd_app : ∀ (is1 : List Nat) (xs1 ws : va_W) (is2 : List Nat) (xs2 : va_W), is1.length = xs1.length → z_upd ws (is1 ++ is2) (xs1 ++ xs2) = z_upd (z_upd ws is1 xs1) is2 xs2
  | [], [], ws, is2, xs2, _ => by simp [z_upd]
  | i :: is, x :: xs, ws, is2, xs2, h => by
    rw [List.cons_append, List.cons_append, z_upd, z_upd]
    exact z_upd_app is xs (ws.set i x) is2 xs2 (Nat.succ.inj h)
  | [], _ :: _, _, _, _, hl => by cases hl
  | _ :: _, [], _, _, _, hl => by cases hl
theorem z_back2 {D : va_G} {cl : List vw_C} {ws wd mid : va_W} {H : Heap} {isC isR : List Nat} (h : va_P D cl (isR.filterMap (fun i => ws[i]?) ++ wd) H) (N : Nat) (hN : ws.length = N) (hc : ∀ i, i < N → i ∈ isC ∨ i ∈ isR) (is1 is2 : List Nat) (wd1 wd2 : va_W) (hi : isC = is1 ++ is2) (hw : wd = wd1 ++ wd2) (hl1 : is1.length = wd1.length) (hl2 : is2.length = wd2.length) (hm : z_upd ws is1 wd1 = mid) : va_P D cl (z_upd mid is2 wd2) H := by
  have h1 := z_back (isC := isC) h (by rw [hi, hw, List.length_append, List.length_append, hl1, hl2]) N hN hc
  rw [hi, hw, z_upd_app is1 wd1 ws is2 wd2 hl1, hm] at h1
  exact h1
theorem z_adr {A : Nat → Prop} {ws ws2 : va_W} (h : va_D A ws) (e : ws.map Prod.fst = ws2.map Prod.fst) : va_D A ws2 := by
  have key : ∀ (k : Nat) (q : Nat × va_E), ws2[k]? = some q → ∃ q2 : Nat × va_E, ws[k]? = some q2 ∧ q2.1 = q.1 := by
    intro k q hk
    have h1 : (ws2.map Prod.fst)[k]? = some q.1 := by rw [List.getElem?_map, hk]; rfl
    rw [← e, List.getElem?_map] at h1
    cases hw : ws[k]? with
    | none => rw [hw] at h1; cases h1
    | some z => rw [hw] at h1; exact ⟨z, rfl, Option.some.inj h1⟩
  refine ⟨fun i j p q hi hj => ?_, fun k q hk => ?_⟩
  · obtain ⟨p2, a1, a2⟩ := key i p hi
    obtain ⟨q2, b1, b2⟩ := key j q hj
    rw [← a2, ← b2]
    exact h.1 i j p2 q2 a1 b1
  · obtain ⟨q2, a1, a2⟩ := key k q hk
    rw [← a2]
    exact h.2 k q2 a1
theorem WL_len (cI cZ : ClassId) (xd ma ka ta bd : Nat → Nat) (σ κ ρ : St) (P ξ : Nat → Int32) (hi sd : Int32) (σ2 : St) (P2 ξ2 : Nat → Int32) (sd2 : Int32) (kv : Nat → Int32) (hh : Int64) (sm sr fm fr fl : Nat → Int32) : (WL cI cZ xd ma ka ta bd σ κ ρ P ξ hi sd σ2 P2 ξ2 sd2 kv hh sm sr fm fr fl).length = 42 := rfl
theorem men_law (σ : St) (P ξ : Nat → Int32) (n : Nat) : menOf σ = menOf (lawF σ P ξ n).2.1 := by
  unfold lawF
  by_cases c : n = 5 ∧ faultR P 5 = 5
  · rw [zif_t c]; rfl
  · rw [zif_f c]
theorem rows_law (σ : St) (P ξ : Nat → Int32) (n : Nat) : rowsOf σ = rowsOf (lawF σ P ξ n).2.1 := by
  unfold lawF
  by_cases c : n = 5 ∧ faultR P 5 = 5
  · rw [zif_t c]; rfl
  · rw [zif_f c]
set_option maxHeartbeats 1000000 in
set_option maxRecDepth 100000 in
theorem lw_c0 (l : Launch) {p : Program} {e : Env} {s : State} {m : MethodId} {below : List Frame} {meth : Method} {c : Code} {Q : State → Prop} {b L : Nat} {xs : Nat → Int32} (X : LB p s m c b L xs) {A : Nat → Prop} (hA : ∀ q, s.heap.size ≤ q → A q) (hbA : ¬ A b) {dC : Nat → ClassId} {dI : Nat → Nat → Nat} {cI cZ : ClassId} (hK : va_K (dC, dI) vwCl (tyIZ cI cZ) s) {tf tt : Nat} (hE : lawA tf tt A s) {xd ma ka ta bd : Nat → Nat} {y i : Nat} (hy : y < 2 ^ 20) (hi4 : i + 4 ≤ L) (hL : L ≤ 2048) {σ κ ρ : St} {P ξ : Nat → Int32} {hi sd sd2 : Int32} {kv : Nat → Int32} {hh : Int64} {sm sr fm fr fl : Nat → Int32} (hLI : LI y σ κ ξ kv fm fr fl hi) {ls : Array Slot} {H : Heap} {locs : List Loc} (hP : va_P (dC, dI) vwCl (WL cI cZ xd ma ka ta bd σ κ ρ P ξ hi sd σ P ξ sd2 kv hh sm sr fm fr fl) H) (hD : va_D A (WL cI cZ xd ma ka ta bd σ κ ρ P ξ hi sd σ P ξ sd2 kv hh sm sr fm fr fl)) (hS : va_S A s.heap H locs) (hl : lv_has ls 4 [(3, .int (nI i)), (0, .ref b), (1, .ref (xd 0)), (2, .ref (bd 0))])
    (kk : lawK p l e s m b below meth c Q dC dI cI cZ A xd ma ka ta bd y i) : W p l e rmL s m #[Value.ref b] below meth c H locs 42 380 Q (F0 m 140 ls []) := by
  obtain ⟨hx, hb, hml, hown, hts, hX, hbl⟩ := X
  obtain ⟨⟨⟨Hn, B, Lc, C, V, M, hI⟩, hyr⟩, ⟨n, hn8, hn0⟩, -⟩ := id hLI
  refine lv_aload_n hx hb dL_law_140 rfl (lv_at hl 2 rfl) ?_
  refine lv_aload_n hx hb dL_law_141 rfl (lv_at hl 1 rfl) ?_
  refine lv_iload_n hx hb dL_law_142 rfl (lv_at hl 0 rfl) ?_
  refine lv_iconst (v := nI 1) hx hb dL_law_143 (by decide) ?_
  refine z_iadd (v := nI (i + 1)) hx hb dL_law_144 (nI_add _ _) ?_
  refine z_sld hx hb hX hbl hbA hS (i + 1) (by omega) hL dL_law_145 ?_
  have hD0 := hD
  refine z_callQi (As := [.int (xs (i + 1))]) (rest := []) ⟨hx, hb, hml, hown, hts⟩ (c_X2_letter l dC dI cI cZ xd ma ka ta ξ hi P n hn0 hn8 (xs (i + 1)) _) (cwV 1 hts gL_law_X2_letter rfl rfl rfl (by decide +kernel) ⟨Nat.le_of_ble_eq_true rfl, Nat.le_of_ble_eq_true rfl⟩) (fun _ _ _ _ q => q) (fun _ _ _ => trivial) hP hD hK hS hA [0, 1] [2, 3, 4, 5, 6, 7, 8, 9, 10, 11, 12, 13, 14, 15, 16, 17, 18, 19, 20, 21, 22, 23, 24, 25, 26, 27, 28, 29, 30, 31, 32, 33, 34, 35, 36, 37, 38, 39, 40, 41] rfl (by decide +kernel) (by rw [WL_len]; decide +kernel) (by decide +kernel) (by decide +kernel) (va_recv hK hP (ci := 2) (q0 := 0) rfl rfl) rfl hl.1 rfl (Nat.le_of_ble_eq_true rfl) ⟨Nat.le_of_ble_eq_true rfl, Nat.le_of_ble_eq_true rfl⟩ dL_law_146 (fun r u1 H locs hr hP hD hS => ?_)
  obtain ⟨rfl, rfl⟩ := hr
  have hP : va_P (dC, dI) vwCl (WL cI cZ xd ma ka ta bd σ κ ρ ((letterF P ξ n (xs (i + 1))).2.1) ((letterF P ξ n (xs (i + 1))).2.2) hi sd σ P ξ sd2 kv hh sm sr fm fr fl) H := z_back (isC := [0, 1]) hP rfl 42 (WL_len ..) (by decide +kernel)
  have hD : va_D A (WL cI cZ xd ma ka ta bd σ κ ρ ((letterF P ξ n (xs (i + 1))).2.1) ((letterF P ξ n (xs (i + 1))).2.2) hi sd σ P ξ sd2 kv hh sm sr fm fr fl) := z_adr hD0 rfl
  refine lv_aload_n hx hb dL_law_149 rfl (lv_at hl 3 rfl) ?_
  refine lv_aload_n hx hb dL_law_150 rfl (lv_at hl 1 rfl) ?_
  refine lv_iload_n hx hb dL_law_151 rfl (lv_at hl 0 rfl) ?_
  refine lv_iconst (v := nI 1) hx hb dL_law_152 (by decide) ?_
  refine z_iadd (v := nI (i + 1)) hx hb dL_law_153 (nI_add _ _) ?_
  refine z_sld hx hb hX hbl hbA hS (i + 1) (by omega) hL dL_law_154 ?_
  have hD0 := hD
  refine z_callQi (As := [.int (xs (i + 1))]) (rest := [.int ((letterF P ξ n (xs (i + 1))).1)]) ⟨hx, hb, hml, hown, hts⟩ (c_X3_letter l dC dI cI cZ bd σ ξ (σ 0 7) sd2 kv hh P n hn0 hn8 (xs (i + 1)) _) (cwV 1 hts gL_law_X3_letter rfl rfl rfl (by decide +kernel) ⟨Nat.le_of_ble_eq_true rfl, Nat.le_of_ble_eq_true rfl⟩) (fun _ _ _ _ q => q) (fun _ _ _ => trivial) hP hD hK hS hA [33, 34] [0, 1, 2, 3, 4, 5, 6, 7, 8, 9, 10, 11, 12, 13, 14, 15, 16, 17, 18, 19, 20, 21, 22, 23, 24, 25, 26, 27, 28, 29, 30, 31, 32, 35, 36, 37, 38, 39, 40, 41] rfl (by decide +kernel) (by rw [WL_len]; decide +kernel) (by decide +kernel) (by decide +kernel) (va_recv hK hP (ci := 3) (q0 := 33) rfl rfl) rfl hl.1 rfl (Nat.le_of_ble_eq_true rfl) ⟨Nat.le_of_ble_eq_true rfl, Nat.le_of_ble_eq_true rfl⟩ dL_law_155 (fun r u2 H locs hr hP hD hS => ?_)
  obtain ⟨rfl, rfl⟩ := hr
  have hP : va_P (dC, dI) vwCl (WL cI cZ xd ma ka ta bd σ κ ρ ((letterF P ξ n (xs (i + 1))).2.1) ((letterF P ξ n (xs (i + 1))).2.2) hi sd σ ((letterF P ξ n (xs (i + 1))).2.1) ((letterF P ξ n (xs (i + 1))).2.2) sd2 kv hh sm sr fm fr fl) H := z_back (isC := [33, 34]) hP rfl 42 (WL_len ..) (by decide +kernel)
  have hD : va_D A (WL cI cZ xd ma ka ta bd σ κ ρ ((letterF P ξ n (xs (i + 1))).2.1) ((letterF P ξ n (xs (i + 1))).2.2) hi sd σ ((letterF P ξ n (xs (i + 1))).2.1) ((letterF P ξ n (xs (i + 1))).2.2) sd2 kv hh sm sr fm fr fl) := z_adr hD0 rfl
  refine lv_icmp_eq (tgt := 750) hx hb dL_law_158 (by decide) (fun _ => ?_) (fun z9 => absurd rfl z9)
  exact kk σ κ ρ ((letterF P ξ n (xs (i + 1))).2.1) ((letterF P ξ n (xs (i + 1))).2.2) hi sd sd2 kv hh sm sr fm fr fl ls _ _ (hLI.with (hLI.1.mono (Nat.le_succ y)) (page_letter hn8 hn0 _)) hP hD hS hl
set_option maxHeartbeats 1000000 in
set_option maxRecDepth 100000 in
theorem lw_c1 (l : Launch) {p : Program} {e : Env} {s : State} {m : MethodId} {below : List Frame} {meth : Method} {c : Code} {Q : State → Prop} {b L : Nat} {xs : Nat → Int32} (X : LB p s m c b L xs) {A : Nat → Prop} (hA : ∀ q, s.heap.size ≤ q → A q) (hbA : ¬ A b) {dC : Nat → ClassId} {dI : Nat → Nat → Nat} {cI cZ : ClassId} (hK : va_K (dC, dI) vwCl (tyIZ cI cZ) s) {tf tt : Nat} (hE : lawA tf tt A s) {xd ma ka ta bd : Nat → Nat} {y i : Nat} (hy : y < 2 ^ 20) (hi4 : i + 4 ≤ L) (hL : L ≤ 2048) {σ κ ρ : St} {P ξ : Nat → Int32} {hi sd sd2 : Int32} {kv : Nat → Int32} {hh : Int64} {sm sr fm fr fl : Nat → Int32} (hLI : LI y σ κ ξ kv fm fr fl hi) {ls : Array Slot} {H : Heap} {locs : List Loc} (hP : va_P (dC, dI) vwCl (WL cI cZ xd ma ka ta bd σ κ ρ P ξ hi sd σ P ξ sd2 kv hh sm sr fm fr fl) H) (hD : va_D A (WL cI cZ xd ma ka ta bd σ κ ρ P ξ hi sd σ P ξ sd2 kv hh sm sr fm fr fl)) (hS : va_S A s.heap H locs) (hl : lv_has ls 4 [(3, .int (nI i)), (0, .ref b), (1, .ref (xd 0)), (2, .ref (bd 0))])
    (kk : lawK p l e s m b below meth c Q dC dI cI cZ A xd ma ka ta bd y i) : W p l e rmL s m #[Value.ref b] below meth c H locs 42 380 Q (F0 m 163 ls []) := by
  obtain ⟨hx, hb, hml, hown, hts, hX, hbl⟩ := X
  obtain ⟨⟨⟨Hn, B, Lc, C, V, M, hI⟩, hyr⟩, ⟨n, hn8, hn0⟩, -⟩ := id hLI
  refine lv_aload_n hx hb dL_law_163 rfl (lv_at hl 2 rfl) ?_
  have hD0 := hD
  refine z_callQi (As := []) (rest := []) ⟨hx, hb, hml, hown, hts⟩ (c_X2_blank l dC dI cI cZ xd ma ka ta ξ hi _) (cwV 0 hts gL_law_X2_blank rfl rfl rfl (by decide +kernel) ⟨Nat.le_of_ble_eq_true rfl, Nat.le_of_ble_eq_true rfl⟩) (fun _ _ _ _ q => q) (fun _ _ _ => trivial) hP hD hK hS hA [0] [1, 2, 3, 4, 5, 6, 7, 8, 9, 10, 11, 12, 13, 14, 15, 16, 17, 18, 19, 20, 21, 22, 23, 24, 25, 26, 27, 28, 29, 30, 31, 32, 33, 34, 35, 36, 37, 38, 39, 40, 41] rfl (by decide +kernel) (by rw [WL_len]; decide +kernel) (by decide +kernel) (by decide +kernel) (va_recv hK hP (ci := 2) (q0 := 0) rfl rfl) rfl hl.1 rfl (Nat.le_of_ble_eq_true rfl) ⟨Nat.le_of_ble_eq_true rfl, Nat.le_of_ble_eq_true rfl⟩ dL_law_164 (fun r u1 H locs hr hP hD hS => ?_)
  obtain ⟨rfl, rfl⟩ := hr
  have hP : va_P (dC, dI) vwCl (WL cI cZ xd ma ka ta bd σ κ ρ P (upd ξ 0 (nI 0)) hi sd σ P ξ sd2 kv hh sm sr fm fr fl) H := z_back (isC := [0]) hP rfl 42 (WL_len ..) (by decide +kernel)
  have hD : va_D A (WL cI cZ xd ma ka ta bd σ κ ρ P (upd ξ 0 (nI 0)) hi sd σ P ξ sd2 kv hh sm sr fm fr fl) := z_adr hD0 rfl
  refine lv_aload_n hx hb dL_law_167 rfl (lv_at hl 3 rfl) ?_
  have hD0 := hD
  refine z_callQi (As := []) (rest := [.int (ξ 0)]) ⟨hx, hb, hml, hown, hts⟩ (c_X3_blank l dC dI cI cZ bd σ ξ (σ 0 7) sd2 kv hh _) (cwV 0 hts gL_law_X3_blank rfl rfl rfl (by decide +kernel) ⟨Nat.le_of_ble_eq_true rfl, Nat.le_of_ble_eq_true rfl⟩) (fun _ _ _ _ q => q) (fun _ _ _ => trivial) hP hD hK hS hA [33] [0, 1, 2, 3, 4, 5, 6, 7, 8, 9, 10, 11, 12, 13, 14, 15, 16, 17, 18, 19, 20, 21, 22, 23, 24, 25, 26, 27, 28, 29, 30, 31, 32, 34, 35, 36, 37, 38, 39, 40, 41] rfl (by decide +kernel) (by rw [WL_len]; decide +kernel) (by decide +kernel) (by decide +kernel) (va_recv hK hP (ci := 3) (q0 := 33) rfl rfl) rfl hl.1 rfl (Nat.le_of_ble_eq_true rfl) ⟨Nat.le_of_ble_eq_true rfl, Nat.le_of_ble_eq_true rfl⟩ dL_law_168 (fun r u2 H locs hr hP hD hS => ?_)
  obtain ⟨rfl, rfl⟩ := hr
  have hP : va_P (dC, dI) vwCl (WL cI cZ xd ma ka ta bd σ κ ρ P (upd ξ 0 (nI 0)) hi sd σ P (upd ξ 0 (nI 0)) sd2 kv hh sm sr fm fr fl) H := z_back (isC := [33]) hP rfl 42 (WL_len ..) (by decide +kernel)
  have hD : va_D A (WL cI cZ xd ma ka ta bd σ κ ρ P (upd ξ 0 (nI 0)) hi sd σ P (upd ξ 0 (nI 0)) sd2 kv hh sm sr fm fr fl) := z_adr hD0 rfl
  refine lv_icmp_eq (tgt := 750) hx hb dL_law_171 (by decide) (fun _ => ?_) (fun z9 => absurd rfl z9)
  exact kk σ κ ρ P (upd ξ 0 (nI 0)) hi sd sd2 kv hh sm sr fm fr fl ls _ _ (hLI.with (hLI.1.mono (Nat.le_succ y)) ⟨0, by decide, rfl⟩) hP hD hS hl
set_option maxHeartbeats 1000000 in
set_option maxRecDepth 100000 in
theorem lw_c2 (l : Launch) {p : Program} {e : Env} {s : State} {m : MethodId} {below : List Frame} {meth : Method} {c : Code} {Q : State → Prop} {b L : Nat} {xs : Nat → Int32} (X : LB p s m c b L xs) {A : Nat → Prop} (hA : ∀ q, s.heap.size ≤ q → A q) (hbA : ¬ A b) {dC : Nat → ClassId} {dI : Nat → Nat → Nat} {cI cZ : ClassId} (hK : va_K (dC, dI) vwCl (tyIZ cI cZ) s) {tf tt : Nat} (hE : lawA tf tt A s) {xd ma ka ta bd : Nat → Nat} {y i : Nat} (hy : y < 2 ^ 20) (hi4 : i + 4 ≤ L) (hL : L ≤ 2048) {σ κ ρ : St} {P ξ : Nat → Int32} {hi sd sd2 : Int32} {kv : Nat → Int32} {hh : Int64} {sm sr fm fr fl : Nat → Int32} (hLI : LI y σ κ ξ kv fm fr fl hi) {ls : Array Slot} {H : Heap} {locs : List Loc} (hP : va_P (dC, dI) vwCl (WL cI cZ xd ma ka ta bd σ κ ρ P ξ hi sd σ P ξ sd2 kv hh sm sr fm fr fl) H) (hD : va_D A (WL cI cZ xd ma ka ta bd σ κ ρ P ξ hi sd σ P ξ sd2 kv hh sm sr fm fr fl)) (hS : va_S A s.heap H locs) (hl : lv_has ls 4 [(3, .int (nI i)), (0, .ref b), (1, .ref (xd 0)), (2, .ref (bd 0))])
    (kk : lawK p l e s m b below meth c Q dC dI cI cZ A xd ma ka ta bd y i) : W p l e rmL s m #[Value.ref b] below meth c H locs 42 380 Q (F0 m 176 ls []) := by
  obtain ⟨hx, hb, hml, hown, hts, hX, hbl⟩ := X
  obtain ⟨⟨⟨Hn, B, Lc, C, V, M, hI⟩, hyr⟩, ⟨n, hn8, hn0⟩, -⟩ := id hLI
  refine lv_aload_n hx hb dL_law_176 rfl (lv_at hl 2 rfl) ?_
  refine z_callVE (As := []) (rest := []) ⟨hx, hb, hml, hown, hts⟩ (c_X2_fault l dC dI cI cZ xd ma ka ta ξ hi P n hn0 hn8 tf tt) (cwV 0 hts gL_law_X2_fault rfl rfl rfl (by decide +kernel) ⟨Nat.le_of_ble_eq_true rfl, Nat.le_of_ble_eq_true rfl⟩) lawE.calling (fun U hU hW => hE.at hS hU hW) (hP.sub [0, 1] rfl) hK (va_recv hK hP (ci := 2) (q0 := 0) rfl rfl) rfl hl.1 rfl (Nat.le_of_ble_eq_true rfl) ⟨Nat.le_of_ble_eq_true rfl, Nat.le_of_ble_eq_true rfl⟩ dL_law_177 (fun r hr => ?_)
  obtain rfl := hr
  refine lv_aload_n hx hb dL_law_180 rfl (lv_at hl 3 rfl) ?_
  refine z_callV (As := []) (rest := [.int (nI (faultR P n))]) ⟨hx, hb, hml, hown, hts⟩ (c_X3_fault l dC dI cI cZ bd σ ξ (σ 0 7) sd2 kv hh P n hn0 hn8) (cwV 0 hts gL_law_X3_fault rfl rfl rfl (by decide +kernel) ⟨Nat.le_of_ble_eq_true rfl, Nat.le_of_ble_eq_true rfl⟩) (hP.sub [33, 34] rfl) hK (va_recv hK hP (ci := 3) (q0 := 33) rfl rfl) rfl hl.1 rfl (Nat.le_of_ble_eq_true rfl) ⟨Nat.le_of_ble_eq_true rfl, Nat.le_of_ble_eq_true rfl⟩ dL_law_181 (fun r hr => ?_)
  obtain rfl := hr
  refine lv_icmp_eq (tgt := 750) hx hb dL_law_184 (by decide) (fun _ => ?_) (fun z9 => absurd rfl z9)
  exact kk σ κ ρ P ξ hi sd sd2 kv hh sm sr fm fr fl ls _ _ (hLI.mono (Nat.le_succ y)) hP hD hS hl
set_option maxHeartbeats 1000000 in
set_option maxRecDepth 100000 in
theorem lw_c3 (l : Launch) {p : Program} {e : Env} {s : State} {m : MethodId} {below : List Frame} {meth : Method} {c : Code} {Q : State → Prop} {b L : Nat} {xs : Nat → Int32} (X : LB p s m c b L xs) {A : Nat → Prop} (hA : ∀ q, s.heap.size ≤ q → A q) (hbA : ¬ A b) {dC : Nat → ClassId} {dI : Nat → Nat → Nat} {cI cZ : ClassId} (hK : va_K (dC, dI) vwCl (tyIZ cI cZ) s) {tf tt : Nat} (hE : lawA tf tt A s) {xd ma ka ta bd : Nat → Nat} {y i : Nat} (hy : y < 2 ^ 20) (hi4 : i + 4 ≤ L) (hL : L ≤ 2048) {σ κ ρ : St} {P ξ : Nat → Int32} {hi sd sd2 : Int32} {kv : Nat → Int32} {hh : Int64} {sm sr fm fr fl : Nat → Int32} (hLI : LI y σ κ ξ kv fm fr fl hi) {ls : Array Slot} {H : Heap} {locs : List Loc} (hP : va_P (dC, dI) vwCl (WL cI cZ xd ma ka ta bd σ κ ρ P ξ hi sd σ P ξ sd2 kv hh sm sr fm fr fl) H) (hD : va_D A (WL cI cZ xd ma ka ta bd σ κ ρ P ξ hi sd σ P ξ sd2 kv hh sm sr fm fr fl)) (hS : va_S A s.heap H locs) (hl : lv_has ls 4 [(3, .int (nI i)), (0, .ref b), (1, .ref (xd 0)), (2, .ref (bd 0))])
    (kk : lawK p l e s m b below meth c Q dC dI cI cZ A xd ma ka ta bd y i) : W p l e rmL s m #[Value.ref b] below meth c H locs 42 380 Q (F0 m 189 ls []) := by
  obtain ⟨hx, hb, hml, hown, hts, hX, hbl⟩ := X
  obtain ⟨⟨⟨Hn, B, Lc, C, V, M, hI⟩, hyr⟩, ⟨n, hn8, hn0⟩, -⟩ := id hLI
  refine lv_aload_n hx hb dL_law_189 rfl (lv_at hl 2 rfl) ?_
  have hD0 := hD
  refine z_callQi (As := []) (rest := []) ⟨hx, hb, hml, hown, hts⟩ (c_X2_law l dC dI cI cZ xd ma ka ta σ Hn B Lc C V M hI ξ hi P n hn0 hn8 tf tt _) (cwV 0 hts gL_law_X2_law rfl rfl rfl (by decide +kernel) ⟨Nat.le_of_ble_eq_true rfl, Nat.le_of_ble_eq_true rfl⟩) lawE.calling (fun U hU hW => hE.at hS hU hW) hP hD hK hS hA [0, 1, 3, 4, 5, 6, 7, 8, 9, 10, 11, 12] [2, 13, 14, 15, 16, 17, 18, 19, 20, 21, 22, 23, 24, 25, 26, 27, 28, 29, 30, 31, 32, 33, 34, 35, 36, 37, 38, 39, 40, 41] rfl (by decide +kernel) (by rw [WL_len]; decide +kernel) (by decide +kernel) (by decide +kernel) (va_recv hK hP (ci := 2) (q0 := 0) rfl rfl) rfl hl.1 rfl (Nat.le_of_ble_eq_true rfl) ⟨Nat.le_of_ble_eq_true rfl, Nat.le_of_ble_eq_true rfl⟩ dL_law_190 (fun r u1 H locs hr hP hD hS => ?_)
  obtain ⟨rfl, rfl⟩ := hr
  have hP : va_P (dC, dI) vwCl (WL cI cZ xd ma ka ta bd ((lawF σ P ξ n).2.1) κ ρ P ((lawF σ P ξ n).2.2) hi sd σ P ξ sd2 kv hh sm sr fm fr fl) H := z_back (isC := [0, 1, 3, 4, 5, 6, 7, 8, 9, 10, 11, 12]) hP rfl 42 (WL_len ..) (by decide +kernel)
  have hD : va_D A (WL cI cZ xd ma ka ta bd ((lawF σ P ξ n).2.1) κ ρ P ((lawF σ P ξ n).2.2) hi sd σ P ξ sd2 kv hh sm sr fm fr fl) := z_adr hD0 rfl
  refine lv_aload_n hx hb dL_law_193 rfl (lv_at hl 3 rfl) ?_
  have hD0 := hD
  refine z_callQi (As := []) (rest := [.int ((lawF σ P ξ n).1)]) ⟨hx, hb, hml, hown, hts⟩ (c_X3_law l dC dI cI cZ bd σ ξ sd2 kv hh P n hn0 hn8 _) (cwV 0 hts gL_law_X3_law rfl rfl rfl (by decide +kernel) ⟨Nat.le_of_ble_eq_true rfl, Nat.le_of_ble_eq_true rfl⟩) (fun _ _ _ _ q => q) (fun _ _ _ => trivial) hP hD hK hS hA [33, 34] [0, 1, 2, 3, 4, 5, 6, 7, 8, 9, 10, 11, 12, 13, 14, 15, 16, 17, 18, 19, 20, 21, 22, 23, 24, 25, 26, 27, 28, 29, 30, 31, 32, 35, 36, 37, 38, 39, 40, 41] rfl (by decide +kernel) (by rw [WL_len]; decide +kernel) (by decide +kernel) (by decide +kernel) (va_recv hK hP (ci := 3) (q0 := 33) rfl rfl) rfl hl.1 rfl (Nat.le_of_ble_eq_true rfl) ⟨Nat.le_of_ble_eq_true rfl, Nat.le_of_ble_eq_true rfl⟩ dL_law_194 (fun r u2 H locs hr hP hD hS => ?_)
  obtain ⟨rfl, rfl⟩ := hr
  have eM : menOf σ = menOf (lawF σ P ξ n).2.1 := men_law σ P ξ n
  have eR : rowsOf σ = rowsOf (lawF σ P ξ n).2.1 := rows_law σ P ξ n
  have hP : va_P (dC, dI) vwCl (WL cI cZ xd ma ka ta bd ((lawF σ P ξ n).2.1) κ ρ P ((lawF σ P ξ n).2.2) hi sd ((lawF σ P ξ n).2.1) P ((lawF σ P ξ n).2.2) sd2 kv hh sm sr fm fr fl) H := by unfold WL; rw [← eM, ← eR]; exact z_back (isC := [33, 34]) hP rfl 42 rfl (by decide +kernel)
  have hD : va_D A (WL cI cZ xd ma ka ta bd ((lawF σ P ξ n).2.1) κ ρ P ((lawF σ P ξ n).2.2) hi sd ((lawF σ P ξ n).2.1) P ((lawF σ P ξ n).2.2) sd2 kv hh sm sr fm fr fl) := z_adr hD0 rfl
  refine lv_icmp_eq (tgt := 750) hx hb dL_law_197 (by decide) (fun _ => ?_) (fun z9 => absurd rfl z9)
  exact kk ((lawF σ P ξ n).2.1) κ ρ P ((lawF σ P ξ n).2.2) hi sd sd2 kv hh sm sr fm fr fl ls _ _ (hLI.with ((ok_law hI hyr P ξ n).mono (Nat.le_succ y)) (page_law hn8 hn0)) hP hD hS hl
set_option maxHeartbeats 1000000 in
set_option maxRecDepth 100000 in
theorem lw_c4 (l : Launch) {p : Program} {e : Env} {s : State} {m : MethodId} {below : List Frame} {meth : Method} {c : Code} {Q : State → Prop} {b L : Nat} {xs : Nat → Int32} (X : LB p s m c b L xs) {A : Nat → Prop} (hA : ∀ q, s.heap.size ≤ q → A q) (hbA : ¬ A b) {dC : Nat → ClassId} {dI : Nat → Nat → Nat} {cI cZ : ClassId} (hK : va_K (dC, dI) vwCl (tyIZ cI cZ) s) {tf tt : Nat} (hE : lawA tf tt A s) {xd ma ka ta bd : Nat → Nat} {y i : Nat} (hy : y < 2 ^ 20) (hi4 : i + 4 ≤ L) (hL : L ≤ 2048) {σ κ ρ : St} {P ξ : Nat → Int32} {hi sd sd2 : Int32} {kv : Nat → Int32} {hh : Int64} {sm sr fm fr fl : Nat → Int32} (hLI : LI y σ κ ξ kv fm fr fl hi) {ls : Array Slot} {H : Heap} {locs : List Loc} (hP : va_P (dC, dI) vwCl (WL cI cZ xd ma ka ta bd σ κ ρ P ξ hi sd σ P ξ sd2 kv hh sm sr fm fr fl) H) (hD : va_D A (WL cI cZ xd ma ka ta bd σ κ ρ P ξ hi sd σ P ξ sd2 kv hh sm sr fm fr fl)) (hS : va_S A s.heap H locs) (hl : lv_has ls 4 [(3, .int (nI i)), (0, .ref b), (1, .ref (xd 0)), (2, .ref (bd 0))])
    (kk : lawK p l e s m b below meth c Q dC dI cI cZ A xd ma ka ta bd y i) : W p l e rmL s m #[Value.ref b] below meth c H locs 42 380 Q (F0 m 202 ls []) := by
  obtain ⟨hx, hb, hml, hown, hts, hX, hbl⟩ := X
  obtain ⟨⟨⟨Hn, B, Lc, C, V, M, hI⟩, hyr⟩, ⟨n, hn8, hn0⟩, -⟩ := id hLI
  refine lv_aload_n hx hb dL_law_202 rfl (lv_at hl 2 rfl) ?_
  refine lv_aload_n hx hb dL_law_203 rfl (lv_at hl 1 rfl) ?_
  refine lv_iload_n hx hb dL_law_204 rfl (lv_at hl 0 rfl) ?_
  refine lv_iconst (v := nI 1) hx hb dL_law_205 (by decide) ?_
  refine z_iadd (v := nI (i + 1)) hx hb dL_law_206 (nI_add _ _) ?_
  refine z_sld hx hb hX hbl hbA hS (i + 1) (by omega) hL dL_law_207 ?_
  refine lv_aload_n hx hb dL_law_208 rfl (lv_at hl 1 rfl) ?_
  refine lv_iload_n hx hb dL_law_209 rfl (lv_at hl 0 rfl) ?_
  refine lv_iconst (v := nI 2) hx hb dL_law_210 (by decide) ?_
  refine z_iadd (v := nI (i + 2)) hx hb dL_law_211 (nI_add _ _) ?_
  refine z_sld hx hb hX hbl hbA hS (i + 2) (by omega) hL dL_law_212 ?_
  have hD0 := hD
  refine z_callQi (As := [.int (xs (i + 1)), .int (xs (i + 2))]) (rest := []) ⟨hx, hb, hml, hown, hts⟩ (c_X2_holder l dC dI cI cZ xd ma ka ta σ Hn B Lc C V M hI ξ hi (xs (i + 1)) (xs (i + 2)) _) (cwV 2 hts gL_law_X2_holder rfl rfl rfl (by decide +kernel) ⟨Nat.le_of_ble_eq_true rfl, Nat.le_of_ble_eq_true rfl⟩) (fun _ _ _ _ q => q) (fun _ _ _ => trivial) hP hD hK hS hA [0, 3, 4, 5, 6, 7, 8, 9, 10, 11, 12] [1, 2, 13, 14, 15, 16, 17, 18, 19, 20, 21, 22, 23, 24, 25, 26, 27, 28, 29, 30, 31, 32, 33, 34, 35, 36, 37, 38, 39, 40, 41] rfl (by decide +kernel) (by rw [WL_len]; decide +kernel) (by decide +kernel) (by decide +kernel) (va_recv hK hP (ci := 2) (q0 := 0) rfl rfl) rfl hl.1 rfl (Nat.le_of_ble_eq_true rfl) ⟨Nat.le_of_ble_eq_true rfl, Nat.le_of_ble_eq_true rfl⟩ dL_law_213 (fun r u1 H locs hr hP hD hS => ?_)
  obtain ⟨rfl, rfl⟩ := hr
  have hP : va_P (dC, dI) vwCl (WL cI cZ xd ma ka ta bd ((holderF σ Hn (xs (i + 1)) (xs (i + 2))).2) κ ρ P ξ hi sd σ P ξ sd2 kv hh sm sr fm fr fl) H := z_back (isC := [0, 3, 4, 5, 6, 7, 8, 9, 10, 11, 12]) hP rfl 42 (WL_len ..) (by decide +kernel)
  have hD : va_D A (WL cI cZ xd ma ka ta bd ((holderF σ Hn (xs (i + 1)) (xs (i + 2))).2) κ ρ P ξ hi sd σ P ξ sd2 kv hh sm sr fm fr fl) := z_adr hD0 rfl
  refine lv_aload_n hx hb dL_law_216 rfl (lv_at hl 3 rfl) ?_
  refine lv_aload_n hx hb dL_law_217 rfl (lv_at hl 1 rfl) ?_
  refine lv_iload_n hx hb dL_law_218 rfl (lv_at hl 0 rfl) ?_
  refine lv_iconst (v := nI 1) hx hb dL_law_219 (by decide) ?_
  refine z_iadd (v := nI (i + 1)) hx hb dL_law_220 (nI_add _ _) ?_
  refine z_sld hx hb hX hbl hbA hS (i + 1) (by omega) hL dL_law_221 ?_
  refine lv_aload_n hx hb dL_law_222 rfl (lv_at hl 1 rfl) ?_
  refine lv_iload_n hx hb dL_law_223 rfl (lv_at hl 0 rfl) ?_
  refine lv_iconst (v := nI 2) hx hb dL_law_224 (by decide) ?_
  refine z_iadd (v := nI (i + 2)) hx hb dL_law_225 (nI_add _ _) ?_
  refine z_sld hx hb hX hbl hbA hS (i + 2) (by omega) hL dL_law_226 ?_
  have hD0 := hD
  refine z_callQi (As := [.int (xs (i + 1)), .int (xs (i + 2))]) (rest := [.int ((holderF σ Hn (xs (i + 1)) (xs (i + 2))).1)]) ⟨hx, hb, hml, hown, hts⟩ (c_X3_holder l dC dI cI cZ bd σ Hn B Lc C V M hI ξ sd2 kv hh (xs (i + 1)) (xs (i + 2)) _) (cwV 2 hts gL_law_X3_holder rfl rfl rfl (by decide +kernel) ⟨Nat.le_of_ble_eq_true rfl, Nat.le_of_ble_eq_true rfl⟩) (fun _ _ _ _ q => q) (fun _ _ _ => trivial) hP hD hK hS hA [33, 35, 36] [0, 1, 2, 3, 4, 5, 6, 7, 8, 9, 10, 11, 12, 13, 14, 15, 16, 17, 18, 19, 20, 21, 22, 23, 24, 25, 26, 27, 28, 29, 30, 31, 32, 34, 37, 38, 39, 40, 41] rfl (by decide +kernel) (by rw [WL_len]; decide +kernel) (by decide +kernel) (by decide +kernel) (va_recv hK hP (ci := 3) (q0 := 33) rfl rfl) rfl hl.1 rfl (Nat.le_of_ble_eq_true rfl) ⟨Nat.le_of_ble_eq_true rfl, Nat.le_of_ble_eq_true rfl⟩ dL_law_227 (fun r u2 H locs hr hP hD hS => ?_)
  obtain ⟨rfl, rfl⟩ := hr
  have hP : va_P (dC, dI) vwCl (WL cI cZ xd ma ka ta bd ((holderF σ Hn (xs (i + 1)) (xs (i + 2))).2) κ ρ P ξ hi sd ((holderF σ Hn (xs (i + 1)) (xs (i + 2))).2) P ξ sd2 kv hh sm sr fm fr fl) H := z_back (isC := [33, 35, 36]) hP rfl 42 (WL_len ..) (by decide +kernel)
  have hD : va_D A (WL cI cZ xd ma ka ta bd ((holderF σ Hn (xs (i + 1)) (xs (i + 2))).2) κ ρ P ξ hi sd ((holderF σ Hn (xs (i + 1)) (xs (i + 2))).2) P ξ sd2 kv hh sm sr fm fr fl) := z_adr hD0 rfl
  refine lv_icmp_eq (tgt := 750) hx hb dL_law_230 (by decide) (fun _ => ?_) (fun z9 => absurd rfl z9)
  exact kk ((holderF σ Hn (xs (i + 1)) (xs (i + 2))).2) κ ρ P ξ hi sd sd2 kv hh sm sr fm fr fl ls _ _ (hLI.with ((ok_holder hI hyr _ _).mono (Nat.le_succ y)) hLI.2.1) hP hD hS hl
set_option maxHeartbeats 1000000 in
set_option maxRecDepth 100000 in
theorem lw_c5 (l : Launch) {p : Program} {e : Env} {s : State} {m : MethodId} {below : List Frame} {meth : Method} {c : Code} {Q : State → Prop} {b L : Nat} {xs : Nat → Int32} (X : LB p s m c b L xs) {A : Nat → Prop} (hA : ∀ q, s.heap.size ≤ q → A q) (hbA : ¬ A b) {dC : Nat → ClassId} {dI : Nat → Nat → Nat} {cI cZ : ClassId} (hK : va_K (dC, dI) vwCl (tyIZ cI cZ) s) {tf tt : Nat} (hE : lawA tf tt A s) {xd ma ka ta bd : Nat → Nat} {y i : Nat} (hy : y < 2 ^ 20) (hi4 : i + 4 ≤ L) (hL : L ≤ 2048) {σ κ ρ : St} {P ξ : Nat → Int32} {hi sd sd2 : Int32} {kv : Nat → Int32} {hh : Int64} {sm sr fm fr fl : Nat → Int32} (hLI : LI y σ κ ξ kv fm fr fl hi) {ls : Array Slot} {H : Heap} {locs : List Loc} (hP : va_P (dC, dI) vwCl (WL cI cZ xd ma ka ta bd σ κ ρ P ξ hi sd σ P ξ sd2 kv hh sm sr fm fr fl) H) (hD : va_D A (WL cI cZ xd ma ka ta bd σ κ ρ P ξ hi sd σ P ξ sd2 kv hh sm sr fm fr fl)) (hS : va_S A s.heap H locs) (hl : lv_has ls 4 [(3, .int (nI i)), (0, .ref b), (1, .ref (xd 0)), (2, .ref (bd 0))])
    (kk : lawK p l e s m b below meth c Q dC dI cI cZ A xd ma ka ta bd y i) : W p l e rmL s m #[Value.ref b] below meth c H locs 42 380 Q (F0 m 235 ls []) := by
  obtain ⟨hx, hb, hml, hown, hts, hX, hbl⟩ := X
  obtain ⟨⟨⟨Hn, B, Lc, C, V, M, hI⟩, hyr⟩, ⟨n, hn8, hn0⟩, -⟩ := id hLI
  refine lv_aload_n hx hb dL_law_235 rfl (lv_at hl 2 rfl) ?_
  refine lv_aload_n hx hb dL_law_236 rfl (lv_at hl 1 rfl) ?_
  refine lv_iload_n hx hb dL_law_237 rfl (lv_at hl 0 rfl) ?_
  refine lv_iconst (v := nI 1) hx hb dL_law_238 (by decide) ?_
  refine z_iadd (v := nI (i + 1)) hx hb dL_law_239 (nI_add _ _) ?_
  refine z_sld hx hb hX hbl hbA hS (i + 1) (by omega) hL dL_law_240 ?_
  refine lv_aload_n hx hb dL_law_241 rfl (lv_at hl 1 rfl) ?_
  refine lv_iload_n hx hb dL_law_242 rfl (lv_at hl 0 rfl) ?_
  refine lv_iconst (v := nI 2) hx hb dL_law_243 (by decide) ?_
  refine z_iadd (v := nI (i + 2)) hx hb dL_law_244 (nI_add _ _) ?_
  refine z_sld hx hb hX hbl hbA hS (i + 2) (by omega) hL dL_law_245 ?_
  refine z_callV (As := [.int (xs (i + 1)), .int (xs (i + 2))]) (rest := []) ⟨hx, hb, hml, hown, hts⟩ (c_X2_about l dC dI cI cZ xd ma ka ta σ Hn B Lc C V M hI ξ hi (xs (i + 1)) (xs (i + 2))) (cwV 2 hts gL_law_X2_about rfl rfl rfl (by decide +kernel) ⟨Nat.le_of_ble_eq_true rfl, Nat.le_of_ble_eq_true rfl⟩) (hP.sub [0, 3, 4, 5, 6, 7, 8, 9, 10, 11, 12] rfl) hK (va_recv hK hP (ci := 2) (q0 := 0) rfl rfl) rfl hl.1 rfl (Nat.le_of_ble_eq_true rfl) ⟨Nat.le_of_ble_eq_true rfl, Nat.le_of_ble_eq_true rfl⟩ dL_law_246 (fun r hr => ?_)
  obtain rfl := hr
  refine lv_aload_n hx hb dL_law_249 rfl (lv_at hl 3 rfl) ?_
  refine lv_aload_n hx hb dL_law_250 rfl (lv_at hl 1 rfl) ?_
  refine lv_iload_n hx hb dL_law_251 rfl (lv_at hl 0 rfl) ?_
  refine lv_iconst (v := nI 1) hx hb dL_law_252 (by decide) ?_
  refine z_iadd (v := nI (i + 1)) hx hb dL_law_253 (nI_add _ _) ?_
  refine z_sld hx hb hX hbl hbA hS (i + 1) (by omega) hL dL_law_254 ?_
  refine lv_aload_n hx hb dL_law_255 rfl (lv_at hl 1 rfl) ?_
  refine lv_iload_n hx hb dL_law_256 rfl (lv_at hl 0 rfl) ?_
  refine lv_iconst (v := nI 2) hx hb dL_law_257 (by decide) ?_
  refine z_iadd (v := nI (i + 2)) hx hb dL_law_258 (nI_add _ _) ?_
  refine z_sld hx hb hX hbl hbA hS (i + 2) (by omega) hL dL_law_259 ?_
  refine z_callV (As := [.int (xs (i + 1)), .int (xs (i + 2))]) (rest := [.int (aboutF σ Hn B (xs (i + 1)) (xs (i + 2)))]) ⟨hx, hb, hml, hown, hts⟩ (c_X3_about l dC dI cI cZ bd σ Hn B Lc C V M hI ξ (σ 0 7) sd2 kv hh (xs (i + 1)) (xs (i + 2))) (cwV 2 hts gL_law_X3_about rfl rfl rfl (by decide +kernel) ⟨Nat.le_of_ble_eq_true rfl, Nat.le_of_ble_eq_true rfl⟩) (hP.sub [33, 35, 36] rfl) hK (va_recv hK hP (ci := 3) (q0 := 33) rfl rfl) rfl hl.1 rfl (Nat.le_of_ble_eq_true rfl) ⟨Nat.le_of_ble_eq_true rfl, Nat.le_of_ble_eq_true rfl⟩ dL_law_260 (fun r hr => ?_)
  obtain rfl := hr
  refine lv_icmp_eq (tgt := 750) hx hb dL_law_263 (by decide) (fun _ => ?_) (fun z9 => absurd rfl z9)
  exact kk σ κ ρ P ξ hi sd sd2 kv hh sm sr fm fr fl ls _ _ (hLI.mono (Nat.le_succ y)) hP hD hS hl
set_option maxHeartbeats 1000000 in
set_option maxRecDepth 100000 in
theorem lw_c6 (l : Launch) {p : Program} {e : Env} {s : State} {m : MethodId} {below : List Frame} {meth : Method} {c : Code} {Q : State → Prop} {b L : Nat} {xs : Nat → Int32} (X : LB p s m c b L xs) {A : Nat → Prop} (hA : ∀ q, s.heap.size ≤ q → A q) (hbA : ¬ A b) {dC : Nat → ClassId} {dI : Nat → Nat → Nat} {cI cZ : ClassId} (hK : va_K (dC, dI) vwCl (tyIZ cI cZ) s) {tf tt : Nat} (hE : lawA tf tt A s) {xd ma ka ta bd : Nat → Nat} {y i : Nat} (hy : y < 2 ^ 20) (hi4 : i + 4 ≤ L) (hL : L ≤ 2048) {σ κ ρ : St} {P ξ : Nat → Int32} {hi sd sd2 : Int32} {kv : Nat → Int32} {hh : Int64} {sm sr fm fr fl : Nat → Int32} (hLI : LI y σ κ ξ kv fm fr fl hi) {ls : Array Slot} {H : Heap} {locs : List Loc} (hP : va_P (dC, dI) vwCl (WL cI cZ xd ma ka ta bd σ κ ρ P ξ hi sd σ P ξ sd2 kv hh sm sr fm fr fl) H) (hD : va_D A (WL cI cZ xd ma ka ta bd σ κ ρ P ξ hi sd σ P ξ sd2 kv hh sm sr fm fr fl)) (hS : va_S A s.heap H locs) (hl : lv_has ls 4 [(3, .int (nI i)), (0, .ref b), (1, .ref (xd 0)), (2, .ref (bd 0))])
    (kk : lawK p l e s m b below meth c Q dC dI cI cZ A xd ma ka ta bd y i) : W p l e rmL s m #[Value.ref b] below meth c H locs 42 380 Q (F0 m 268 ls []) := by
  obtain ⟨hx, hb, hml, hown, hts, hX, hbl⟩ := X
  obtain ⟨⟨⟨Hn, B, Lc, C, V, M, hI⟩, hyr⟩, ⟨n, hn8, hn0⟩, -⟩ := id hLI
  refine lv_aload_n hx hb dL_law_268 rfl (lv_at hl 2 rfl) ?_
  refine lv_aload_n hx hb dL_law_269 rfl (lv_at hl 1 rfl) ?_
  refine lv_iload_n hx hb dL_law_270 rfl (lv_at hl 0 rfl) ?_
  refine lv_iconst (v := nI 1) hx hb dL_law_271 (by decide) ?_
  refine z_iadd (v := nI (i + 1)) hx hb dL_law_272 (nI_add _ _) ?_
  refine z_sld hx hb hX hbl hbA hS (i + 1) (by omega) hL dL_law_273 ?_
  refine lv_aload_n hx hb dL_law_274 rfl (lv_at hl 1 rfl) ?_
  refine lv_iload_n hx hb dL_law_275 rfl (lv_at hl 0 rfl) ?_
  refine lv_iconst (v := nI 2) hx hb dL_law_276 (by decide) ?_
  refine z_iadd (v := nI (i + 2)) hx hb dL_law_277 (nI_add _ _) ?_
  refine z_sld hx hb hX hbl hbA hS (i + 2) (by omega) hL dL_law_278 ?_
  refine z_callV (As := [.int (xs (i + 1)), .int (xs (i + 2))]) (rest := []) ⟨hx, hb, hml, hown, hts⟩ (c_X2_as l dC dI cI cZ xd ma ka ta σ Hn B Lc C V M hI ξ hi (xs (i + 1)) (xs (i + 2))) (cwV 2 hts gL_law_X2_as rfl rfl rfl (by decide +kernel) ⟨Nat.le_of_ble_eq_true rfl, Nat.le_of_ble_eq_true rfl⟩) (hP.sub [0, 3, 4, 5, 6, 7, 8, 9, 10, 11, 12] rfl) hK (va_recv hK hP (ci := 2) (q0 := 0) rfl rfl) rfl hl.1 rfl (Nat.le_of_ble_eq_true rfl) ⟨Nat.le_of_ble_eq_true rfl, Nat.le_of_ble_eq_true rfl⟩ dL_law_279 (fun r hr => ?_)
  obtain rfl := hr
  refine lv_aload_n hx hb dL_law_282 rfl (lv_at hl 3 rfl) ?_
  refine lv_aload_n hx hb dL_law_283 rfl (lv_at hl 1 rfl) ?_
  refine lv_iload_n hx hb dL_law_284 rfl (lv_at hl 0 rfl) ?_
  refine lv_iconst (v := nI 1) hx hb dL_law_285 (by decide) ?_
  refine z_iadd (v := nI (i + 1)) hx hb dL_law_286 (nI_add _ _) ?_
  refine z_sld hx hb hX hbl hbA hS (i + 1) (by omega) hL dL_law_287 ?_
  refine lv_aload_n hx hb dL_law_288 rfl (lv_at hl 1 rfl) ?_
  refine lv_iload_n hx hb dL_law_289 rfl (lv_at hl 0 rfl) ?_
  refine lv_iconst (v := nI 2) hx hb dL_law_290 (by decide) ?_
  refine z_iadd (v := nI (i + 2)) hx hb dL_law_291 (nI_add _ _) ?_
  refine z_sld hx hb hX hbl hbA hS (i + 2) (by omega) hL dL_law_292 ?_
  refine z_callV (As := [.int (xs (i + 1)), .int (xs (i + 2))]) (rest := [.int (asF σ Hn (xs (i + 1)) (xs (i + 2)))]) ⟨hx, hb, hml, hown, hts⟩ (c_X3_as l dC dI cI cZ bd σ Hn B Lc C V M hI ξ (σ 0 7) sd2 kv hh (xs (i + 1)) (xs (i + 2))) (cwV 2 hts gL_law_X3_as rfl rfl rfl (by decide +kernel) ⟨Nat.le_of_ble_eq_true rfl, Nat.le_of_ble_eq_true rfl⟩) (hP.sub [33, 35, 36] rfl) hK (va_recv hK hP (ci := 3) (q0 := 33) rfl rfl) rfl hl.1 rfl (Nat.le_of_ble_eq_true rfl) ⟨Nat.le_of_ble_eq_true rfl, Nat.le_of_ble_eq_true rfl⟩ dL_law_293 (fun r hr => ?_)
  obtain rfl := hr
  refine lv_icmp_eq (tgt := 750) hx hb dL_law_296 (by decide) (fun _ => ?_) (fun z9 => absurd rfl z9)
  exact kk σ κ ρ P ξ hi sd sd2 kv hh sm sr fm fr fl ls _ _ (hLI.mono (Nat.le_succ y)) hP hD hS hl
set_option maxHeartbeats 1000000 in
set_option maxRecDepth 100000 in
theorem lw_c7 (l : Launch) {p : Program} {e : Env} {s : State} {m : MethodId} {below : List Frame} {meth : Method} {c : Code} {Q : State → Prop} {b L : Nat} {xs : Nat → Int32} (X : LB p s m c b L xs) {A : Nat → Prop} (hA : ∀ q, s.heap.size ≤ q → A q) (hbA : ¬ A b) {dC : Nat → ClassId} {dI : Nat → Nat → Nat} {cI cZ : ClassId} (hK : va_K (dC, dI) vwCl (tyIZ cI cZ) s) {tf tt : Nat} (hE : lawA tf tt A s) {xd ma ka ta bd : Nat → Nat} {y i : Nat} (hy : y < 2 ^ 20) (hi4 : i + 4 ≤ L) (hL : L ≤ 2048) {σ κ ρ : St} {P ξ : Nat → Int32} {hi sd sd2 : Int32} {kv : Nat → Int32} {hh : Int64} {sm sr fm fr fl : Nat → Int32} (hLI : LI y σ κ ξ kv fm fr fl hi) {ls : Array Slot} {H : Heap} {locs : List Loc} (hP : va_P (dC, dI) vwCl (WL cI cZ xd ma ka ta bd σ κ ρ P ξ hi sd σ P ξ sd2 kv hh sm sr fm fr fl) H) (hD : va_D A (WL cI cZ xd ma ka ta bd σ κ ρ P ξ hi sd σ P ξ sd2 kv hh sm sr fm fr fl)) (hS : va_S A s.heap H locs) (hl : lv_has ls 4 [(3, .int (nI i)), (0, .ref b), (1, .ref (xd 0)), (2, .ref (bd 0))])
    (kk : lawK p l e s m b below meth c Q dC dI cI cZ A xd ma ka ta bd y i) : W p l e rmL s m #[Value.ref b] below meth c H locs 42 380 Q (F0 m 301 ls []) := by
  obtain ⟨hx, hb, hml, hown, hts, hX, hbl⟩ := X
  obtain ⟨⟨⟨Hn, B, Lc, C, V, M, hI⟩, hyr⟩, ⟨n, hn8, hn0⟩, -⟩ := id hLI
  refine lv_aload_n hx hb dL_law_301 rfl (lv_at hl 2 rfl) ?_
  refine lv_aload_n hx hb dL_law_302 rfl (lv_at hl 1 rfl) ?_
  refine lv_iload_n hx hb dL_law_303 rfl (lv_at hl 0 rfl) ?_
  refine lv_iconst (v := nI 1) hx hb dL_law_304 (by decide) ?_
  refine z_iadd (v := nI (i + 1)) hx hb dL_law_305 (nI_add _ _) ?_
  refine z_sld hx hb hX hbl hbA hS (i + 1) (by omega) hL dL_law_306 ?_
  refine lv_aload_n hx hb dL_law_307 rfl (lv_at hl 1 rfl) ?_
  refine lv_iload_n hx hb dL_law_308 rfl (lv_at hl 0 rfl) ?_
  refine lv_iconst (v := nI 2) hx hb dL_law_309 (by decide) ?_
  refine z_iadd (v := nI (i + 2)) hx hb dL_law_310 (nI_add _ _) ?_
  refine z_sld hx hb hX hbl hbA hS (i + 2) (by omega) hL dL_law_311 ?_
  have hD0 := hD
  refine z_callQi (As := [.int (xs (i + 1)), .int (xs (i + 2))]) (rest := []) ⟨hx, hb, hml, hown, hts⟩ (c_X2_heir l dC dI cI cZ xd ma ka ta σ Hn B Lc C V M hI ξ hi (xs (i + 1)) (xs (i + 2)) _) (cwV 2 hts gL_law_X2_heir rfl rfl rfl (by decide +kernel) ⟨Nat.le_of_ble_eq_true rfl, Nat.le_of_ble_eq_true rfl⟩) (fun _ _ _ _ q => q) (fun _ _ _ => trivial) hP hD hK hS hA [0, 3, 4, 5, 6, 7, 8, 9, 10, 11, 12] [1, 2, 13, 14, 15, 16, 17, 18, 19, 20, 21, 22, 23, 24, 25, 26, 27, 28, 29, 30, 31, 32, 33, 34, 35, 36, 37, 38, 39, 40, 41] rfl (by decide +kernel) (by rw [WL_len]; decide +kernel) (by decide +kernel) (by decide +kernel) (va_recv hK hP (ci := 2) (q0 := 0) rfl rfl) rfl hl.1 rfl (Nat.le_of_ble_eq_true rfl) ⟨Nat.le_of_ble_eq_true rfl, Nat.le_of_ble_eq_true rfl⟩ dL_law_312 (fun r u1 H locs hr hP hD hS => ?_)
  obtain ⟨rfl, rfl⟩ := hr
  have hP : va_P (dC, dI) vwCl (WL cI cZ xd ma ka ta bd ((heirF σ Hn (xs (i + 1)) (xs (i + 2))).2) κ ρ P ξ hi sd σ P ξ sd2 kv hh sm sr fm fr fl) H := z_back (isC := [0, 3, 4, 5, 6, 7, 8, 9, 10, 11, 12]) hP rfl 42 (WL_len ..) (by decide +kernel)
  have hD : va_D A (WL cI cZ xd ma ka ta bd ((heirF σ Hn (xs (i + 1)) (xs (i + 2))).2) κ ρ P ξ hi sd σ P ξ sd2 kv hh sm sr fm fr fl) := z_adr hD0 rfl
  refine lv_aload_n hx hb dL_law_315 rfl (lv_at hl 3 rfl) ?_
  refine lv_aload_n hx hb dL_law_316 rfl (lv_at hl 1 rfl) ?_
  refine lv_iload_n hx hb dL_law_317 rfl (lv_at hl 0 rfl) ?_
  refine lv_iconst (v := nI 1) hx hb dL_law_318 (by decide) ?_
  refine z_iadd (v := nI (i + 1)) hx hb dL_law_319 (nI_add _ _) ?_
  refine z_sld hx hb hX hbl hbA hS (i + 1) (by omega) hL dL_law_320 ?_
  refine lv_aload_n hx hb dL_law_321 rfl (lv_at hl 1 rfl) ?_
  refine lv_iload_n hx hb dL_law_322 rfl (lv_at hl 0 rfl) ?_
  refine lv_iconst (v := nI 2) hx hb dL_law_323 (by decide) ?_
  refine z_iadd (v := nI (i + 2)) hx hb dL_law_324 (nI_add _ _) ?_
  refine z_sld hx hb hX hbl hbA hS (i + 2) (by omega) hL dL_law_325 ?_
  have hD0 := hD
  refine z_callQi (As := [.int (xs (i + 1)), .int (xs (i + 2))]) (rest := [.int ((heirF σ Hn (xs (i + 1)) (xs (i + 2))).1)]) ⟨hx, hb, hml, hown, hts⟩ (c_X3_heir l dC dI cI cZ bd σ Hn B Lc C V M hI ξ sd2 kv hh (xs (i + 1)) (xs (i + 2)) _) (cwV 2 hts gL_law_X3_heir rfl rfl rfl (by decide +kernel) ⟨Nat.le_of_ble_eq_true rfl, Nat.le_of_ble_eq_true rfl⟩) (fun _ _ _ _ q => q) (fun _ _ _ => trivial) hP hD hK hS hA [33, 35, 36] [0, 1, 2, 3, 4, 5, 6, 7, 8, 9, 10, 11, 12, 13, 14, 15, 16, 17, 18, 19, 20, 21, 22, 23, 24, 25, 26, 27, 28, 29, 30, 31, 32, 34, 37, 38, 39, 40, 41] rfl (by decide +kernel) (by rw [WL_len]; decide +kernel) (by decide +kernel) (by decide +kernel) (va_recv hK hP (ci := 3) (q0 := 33) rfl rfl) rfl hl.1 rfl (Nat.le_of_ble_eq_true rfl) ⟨Nat.le_of_ble_eq_true rfl, Nat.le_of_ble_eq_true rfl⟩ dL_law_326 (fun r u2 H locs hr hP hD hS => ?_)
  obtain ⟨rfl, rfl⟩ := hr
  have hP : va_P (dC, dI) vwCl (WL cI cZ xd ma ka ta bd ((heirF σ Hn (xs (i + 1)) (xs (i + 2))).2) κ ρ P ξ hi sd ((heirF σ Hn (xs (i + 1)) (xs (i + 2))).2) P ξ sd2 kv hh sm sr fm fr fl) H := z_back (isC := [33, 35, 36]) hP rfl 42 (WL_len ..) (by decide +kernel)
  have hD : va_D A (WL cI cZ xd ma ka ta bd ((heirF σ Hn (xs (i + 1)) (xs (i + 2))).2) κ ρ P ξ hi sd ((heirF σ Hn (xs (i + 1)) (xs (i + 2))).2) P ξ sd2 kv hh sm sr fm fr fl) := z_adr hD0 rfl
  refine lv_icmp_eq (tgt := 750) hx hb dL_law_329 (by decide) (fun _ => ?_) (fun z9 => absurd rfl z9)
  exact kk ((heirF σ Hn (xs (i + 1)) (xs (i + 2))).2) κ ρ P ξ hi sd sd2 kv hh sm sr fm fr fl ls _ _ (hLI.with ((ok_heir hI hyr _ _).mono (Nat.le_succ y)) hLI.2.1) hP hD hS hl
set_option maxHeartbeats 1000000 in
set_option maxRecDepth 100000 in
theorem lw_c8 (l : Launch) {p : Program} {e : Env} {s : State} {m : MethodId} {below : List Frame} {meth : Method} {c : Code} {Q : State → Prop} {b L : Nat} {xs : Nat → Int32} (X : LB p s m c b L xs) {A : Nat → Prop} (hA : ∀ q, s.heap.size ≤ q → A q) (hbA : ¬ A b) {dC : Nat → ClassId} {dI : Nat → Nat → Nat} {cI cZ : ClassId} (hK : va_K (dC, dI) vwCl (tyIZ cI cZ) s) {tf tt : Nat} (hE : lawA tf tt A s) {xd ma ka ta bd : Nat → Nat} {y i : Nat} (hy : y < 2 ^ 20) (hi4 : i + 4 ≤ L) (hL : L ≤ 2048) {σ κ ρ : St} {P ξ : Nat → Int32} {hi sd sd2 : Int32} {kv : Nat → Int32} {hh : Int64} {sm sr fm fr fl : Nat → Int32} (hLI : LI y σ κ ξ kv fm fr fl hi) {ls : Array Slot} {H : Heap} {locs : List Loc} (hP : va_P (dC, dI) vwCl (WL cI cZ xd ma ka ta bd σ κ ρ P ξ hi sd σ P ξ sd2 kv hh sm sr fm fr fl) H) (hD : va_D A (WL cI cZ xd ma ka ta bd σ κ ρ P ξ hi sd σ P ξ sd2 kv hh sm sr fm fr fl)) (hS : va_S A s.heap H locs) (hl : lv_has ls 4 [(3, .int (nI i)), (0, .ref b), (1, .ref (xd 0)), (2, .ref (bd 0))])
    (kk : lawK p l e s m b below meth c Q dC dI cI cZ A xd ma ka ta bd y i) : W p l e rmL s m #[Value.ref b] below meth c H locs 42 380 Q (F0 m 334 ls []) := by
  obtain ⟨hx, hb, hml, hown, hts, hX, hbl⟩ := X
  obtain ⟨⟨⟨Hn, B, Lc, C, V, M, hI⟩, hyr⟩, ⟨n, hn8, hn0⟩, -⟩ := id hLI
  refine lv_aload_n hx hb dL_law_334 rfl (lv_at hl 2 rfl) ?_
  refine lv_aload_n hx hb dL_law_335 rfl (lv_at hl 1 rfl) ?_
  refine lv_iload_n hx hb dL_law_336 rfl (lv_at hl 0 rfl) ?_
  refine lv_iconst (v := nI 1) hx hb dL_law_337 (by decide) ?_
  refine z_iadd (v := nI (i + 1)) hx hb dL_law_338 (nI_add _ _) ?_
  refine z_sld hx hb hX hbl hbA hS (i + 1) (by omega) hL dL_law_339 ?_
  refine lv_aload_n hx hb dL_law_340 rfl (lv_at hl 1 rfl) ?_
  refine lv_iload_n hx hb dL_law_341 rfl (lv_at hl 0 rfl) ?_
  refine lv_iconst (v := nI 2) hx hb dL_law_342 (by decide) ?_
  refine z_iadd (v := nI (i + 2)) hx hb dL_law_343 (nI_add _ _) ?_
  refine z_sld hx hb hX hbl hbA hS (i + 2) (by omega) hL dL_law_344 ?_
  have hD0 := hD
  refine z_callQi (As := [.int (xs (i + 1)), .int (xs (i + 2))]) (rest := []) ⟨hx, hb, hml, hown, hts⟩ (c_X2_beast l dC dI cI cZ xd ma ka ta σ Hn B Lc C V M hI ξ hi (xs (i + 1)) (xs (i + 2)) _) (cwV 2 hts gL_law_X2_beast rfl rfl rfl (by decide +kernel) ⟨Nat.le_of_ble_eq_true rfl, Nat.le_of_ble_eq_true rfl⟩) (fun _ _ _ _ q => q) (fun _ _ _ => trivial) hP hD hK hS hA [0, 3, 4, 5, 6, 7, 8, 9, 10, 11, 12] [1, 2, 13, 14, 15, 16, 17, 18, 19, 20, 21, 22, 23, 24, 25, 26, 27, 28, 29, 30, 31, 32, 33, 34, 35, 36, 37, 38, 39, 40, 41] rfl (by decide +kernel) (by rw [WL_len]; decide +kernel) (by decide +kernel) (by decide +kernel) (va_recv hK hP (ci := 2) (q0 := 0) rfl rfl) rfl hl.1 rfl (Nat.le_of_ble_eq_true rfl) ⟨Nat.le_of_ble_eq_true rfl, Nat.le_of_ble_eq_true rfl⟩ dL_law_345 (fun r u1 H locs hr hP hD hS => ?_)
  obtain ⟨rfl, rfl⟩ := hr
  have hP : va_P (dC, dI) vwCl (WL cI cZ xd ma ka ta bd ((beastF σ Hn B (xs (i + 1)) (xs (i + 2))).2) κ ρ P ξ hi sd σ P ξ sd2 kv hh sm sr fm fr fl) H := z_back (isC := [0, 3, 4, 5, 6, 7, 8, 9, 10, 11, 12]) hP rfl 42 (WL_len ..) (by decide +kernel)
  have hD : va_D A (WL cI cZ xd ma ka ta bd ((beastF σ Hn B (xs (i + 1)) (xs (i + 2))).2) κ ρ P ξ hi sd σ P ξ sd2 kv hh sm sr fm fr fl) := z_adr hD0 rfl
  refine lv_aload_n hx hb dL_law_348 rfl (lv_at hl 3 rfl) ?_
  refine lv_aload_n hx hb dL_law_349 rfl (lv_at hl 1 rfl) ?_
  refine lv_iload_n hx hb dL_law_350 rfl (lv_at hl 0 rfl) ?_
  refine lv_iconst (v := nI 1) hx hb dL_law_351 (by decide) ?_
  refine z_iadd (v := nI (i + 1)) hx hb dL_law_352 (nI_add _ _) ?_
  refine z_sld hx hb hX hbl hbA hS (i + 1) (by omega) hL dL_law_353 ?_
  refine lv_aload_n hx hb dL_law_354 rfl (lv_at hl 1 rfl) ?_
  refine lv_iload_n hx hb dL_law_355 rfl (lv_at hl 0 rfl) ?_
  refine lv_iconst (v := nI 2) hx hb dL_law_356 (by decide) ?_
  refine z_iadd (v := nI (i + 2)) hx hb dL_law_357 (nI_add _ _) ?_
  refine z_sld hx hb hX hbl hbA hS (i + 2) (by omega) hL dL_law_358 ?_
  have hD0 := hD
  refine z_callQi (As := [.int (xs (i + 1)), .int (xs (i + 2))]) (rest := [.int ((beastF σ Hn B (xs (i + 1)) (xs (i + 2))).1)]) ⟨hx, hb, hml, hown, hts⟩ (c_X3_beast l dC dI cI cZ bd σ Hn B Lc C V M hI ξ sd2 kv hh (xs (i + 1)) (xs (i + 2)) _) (cwV 2 hts gL_law_X3_beast rfl rfl rfl (by decide +kernel) ⟨Nat.le_of_ble_eq_true rfl, Nat.le_of_ble_eq_true rfl⟩) (fun _ _ _ _ q => q) (fun _ _ _ => trivial) hP hD hK hS hA [33, 35, 36] [0, 1, 2, 3, 4, 5, 6, 7, 8, 9, 10, 11, 12, 13, 14, 15, 16, 17, 18, 19, 20, 21, 22, 23, 24, 25, 26, 27, 28, 29, 30, 31, 32, 34, 37, 38, 39, 40, 41] rfl (by decide +kernel) (by rw [WL_len]; decide +kernel) (by decide +kernel) (by decide +kernel) (va_recv hK hP (ci := 3) (q0 := 33) rfl rfl) rfl hl.1 rfl (Nat.le_of_ble_eq_true rfl) ⟨Nat.le_of_ble_eq_true rfl, Nat.le_of_ble_eq_true rfl⟩ dL_law_359 (fun r u2 H locs hr hP hD hS => ?_)
  obtain ⟨rfl, rfl⟩ := hr
  have hP : va_P (dC, dI) vwCl (WL cI cZ xd ma ka ta bd ((beastF σ Hn B (xs (i + 1)) (xs (i + 2))).2) κ ρ P ξ hi sd ((beastF σ Hn B (xs (i + 1)) (xs (i + 2))).2) P ξ sd2 kv hh sm sr fm fr fl) H := z_back (isC := [33, 35, 36]) hP rfl 42 (WL_len ..) (by decide +kernel)
  have hD : va_D A (WL cI cZ xd ma ka ta bd ((beastF σ Hn B (xs (i + 1)) (xs (i + 2))).2) κ ρ P ξ hi sd ((beastF σ Hn B (xs (i + 1)) (xs (i + 2))).2) P ξ sd2 kv hh sm sr fm fr fl) := z_adr hD0 rfl
  refine lv_icmp_eq (tgt := 750) hx hb dL_law_362 (by decide) (fun _ => ?_) (fun z9 => absurd rfl z9)
  exact kk ((beastF σ Hn B (xs (i + 1)) (xs (i + 2))).2) κ ρ P ξ hi sd sd2 kv hh sm sr fm fr fl ls _ _ (hLI.with ((ok_beast hI hyr _ _).mono (Nat.le_succ y)) hLI.2.1) hP hD hS hl
set_option maxHeartbeats 1000000 in
set_option maxRecDepth 100000 in
theorem lw_c9 (l : Launch) {p : Program} {e : Env} {s : State} {m : MethodId} {below : List Frame} {meth : Method} {c : Code} {Q : State → Prop} {b L : Nat} {xs : Nat → Int32} (X : LB p s m c b L xs) {A : Nat → Prop} (hA : ∀ q, s.heap.size ≤ q → A q) (hbA : ¬ A b) {dC : Nat → ClassId} {dI : Nat → Nat → Nat} {cI cZ : ClassId} (hK : va_K (dC, dI) vwCl (tyIZ cI cZ) s) {tf tt : Nat} (hE : lawA tf tt A s) {xd ma ka ta bd : Nat → Nat} {y i : Nat} (hy : y < 2 ^ 20) (hi4 : i + 4 ≤ L) (hL : L ≤ 2048) {σ κ ρ : St} {P ξ : Nat → Int32} {hi sd sd2 : Int32} {kv : Nat → Int32} {hh : Int64} {sm sr fm fr fl : Nat → Int32} (hLI : LI y σ κ ξ kv fm fr fl hi) {ls : Array Slot} {H : Heap} {locs : List Loc} (hP : va_P (dC, dI) vwCl (WL cI cZ xd ma ka ta bd σ κ ρ P ξ hi sd σ P ξ sd2 kv hh sm sr fm fr fl) H) (hD : va_D A (WL cI cZ xd ma ka ta bd σ κ ρ P ξ hi sd σ P ξ sd2 kv hh sm sr fm fr fl)) (hS : va_S A s.heap H locs) (hl : lv_has ls 4 [(3, .int (nI i)), (0, .ref b), (1, .ref (xd 0)), (2, .ref (bd 0))])
    (kk : lawK p l e s m b below meth c Q dC dI cI cZ A xd ma ka ta bd y i) : W p l e rmL s m #[Value.ref b] below meth c H locs 42 380 Q (F0 m 367 ls []) := by
  obtain ⟨hx, hb, hml, hown, hts, hX, hbl⟩ := X
  obtain ⟨⟨⟨Hn, B, Lc, C, V, M, hI⟩, hyr⟩, ⟨n, hn8, hn0⟩, -⟩ := id hLI
  refine lv_aload_n hx hb dL_law_367 rfl (lv_at hl 2 rfl) ?_
  refine lv_aload_n hx hb dL_law_368 rfl (lv_at hl 1 rfl) ?_
  refine lv_iload_n hx hb dL_law_369 rfl (lv_at hl 0 rfl) ?_
  refine lv_iconst (v := nI 1) hx hb dL_law_370 (by decide) ?_
  refine z_iadd (v := nI (i + 1)) hx hb dL_law_371 (nI_add _ _) ?_
  refine z_sld hx hb hX hbl hbA hS (i + 1) (by omega) hL dL_law_372 ?_
  refine lv_aload_n hx hb dL_law_373 rfl (lv_at hl 1 rfl) ?_
  refine lv_iload_n hx hb dL_law_374 rfl (lv_at hl 0 rfl) ?_
  refine lv_iconst (v := nI 2) hx hb dL_law_375 (by decide) ?_
  refine z_iadd (v := nI (i + 2)) hx hb dL_law_376 (nI_add _ _) ?_
  refine z_sld hx hb hX hbl hbA hS (i + 2) (by omega) hL dL_law_377 ?_
  refine z_callV (As := [.int (xs (i + 1)), .int (xs (i + 2))]) (rest := []) ⟨hx, hb, hml, hown, hts⟩ (c_X2_beastOf l dC dI cI cZ xd ma ka ta σ Hn B Lc C V M hI ξ hi (xs (i + 1)) (xs (i + 2))) (cwV 2 hts gL_law_X2_beastOf rfl rfl rfl (by decide +kernel) ⟨Nat.le_of_ble_eq_true rfl, Nat.le_of_ble_eq_true rfl⟩) (hP.sub [0, 3, 4, 5, 6, 7, 8, 9, 10, 11, 12] rfl) hK (va_recv hK hP (ci := 2) (q0 := 0) rfl rfl) rfl hl.1 rfl (Nat.le_of_ble_eq_true rfl) ⟨Nat.le_of_ble_eq_true rfl, Nat.le_of_ble_eq_true rfl⟩ dL_law_378 (fun r hr => ?_)
  obtain rfl := hr
  refine lv_aload_n hx hb dL_law_381 rfl (lv_at hl 3 rfl) ?_
  refine lv_aload_n hx hb dL_law_382 rfl (lv_at hl 1 rfl) ?_
  refine lv_iload_n hx hb dL_law_383 rfl (lv_at hl 0 rfl) ?_
  refine lv_iconst (v := nI 1) hx hb dL_law_384 (by decide) ?_
  refine z_iadd (v := nI (i + 1)) hx hb dL_law_385 (nI_add _ _) ?_
  refine z_sld hx hb hX hbl hbA hS (i + 1) (by omega) hL dL_law_386 ?_
  refine lv_aload_n hx hb dL_law_387 rfl (lv_at hl 1 rfl) ?_
  refine lv_iload_n hx hb dL_law_388 rfl (lv_at hl 0 rfl) ?_
  refine lv_iconst (v := nI 2) hx hb dL_law_389 (by decide) ?_
  refine z_iadd (v := nI (i + 2)) hx hb dL_law_390 (nI_add _ _) ?_
  refine z_sld hx hb hX hbl hbA hS (i + 2) (by omega) hL dL_law_391 ?_
  refine z_callV (As := [.int (xs (i + 1)), .int (xs (i + 2))]) (rest := [.int (beastOfF σ B (xs (i + 1)) (xs (i + 2)))]) ⟨hx, hb, hml, hown, hts⟩ (c_X3_beastOf l dC dI cI cZ bd σ Hn B Lc C V M hI ξ (σ 0 7) sd2 kv hh (xs (i + 1)) (xs (i + 2))) (cwV 2 hts gL_law_X3_beastOf rfl rfl rfl (by decide +kernel) ⟨Nat.le_of_ble_eq_true rfl, Nat.le_of_ble_eq_true rfl⟩) (hP.sub [33, 35, 36] rfl) hK (va_recv hK hP (ci := 3) (q0 := 33) rfl rfl) rfl hl.1 rfl (Nat.le_of_ble_eq_true rfl) ⟨Nat.le_of_ble_eq_true rfl, Nat.le_of_ble_eq_true rfl⟩ dL_law_392 (fun r hr => ?_)
  obtain rfl := hr
  refine lv_icmp_eq (tgt := 750) hx hb dL_law_395 (by decide) (fun _ => ?_) (fun z9 => absurd rfl z9)
  exact kk σ κ ρ P ξ hi sd sd2 kv hh sm sr fm fr fl ls _ _ (hLI.mono (Nat.le_succ y)) hP hD hS hl
set_option maxHeartbeats 1000000 in
set_option maxRecDepth 100000 in
theorem lw_c10 (l : Launch) {p : Program} {e : Env} {s : State} {m : MethodId} {below : List Frame} {meth : Method} {c : Code} {Q : State → Prop} {b L : Nat} {xs : Nat → Int32} (X : LB p s m c b L xs) {A : Nat → Prop} (hA : ∀ q, s.heap.size ≤ q → A q) (hbA : ¬ A b) {dC : Nat → ClassId} {dI : Nat → Nat → Nat} {cI cZ : ClassId} (hK : va_K (dC, dI) vwCl (tyIZ cI cZ) s) {tf tt : Nat} (hE : lawA tf tt A s) {xd ma ka ta bd : Nat → Nat} {y i : Nat} (hy : y < 2 ^ 20) (hi4 : i + 4 ≤ L) (hL : L ≤ 2048) {σ κ ρ : St} {P ξ : Nat → Int32} {hi sd sd2 : Int32} {kv : Nat → Int32} {hh : Int64} {sm sr fm fr fl : Nat → Int32} (hLI : LI y σ κ ξ kv fm fr fl hi) {ls : Array Slot} {H : Heap} {locs : List Loc} (hP : va_P (dC, dI) vwCl (WL cI cZ xd ma ka ta bd σ κ ρ P ξ hi sd σ P ξ sd2 kv hh sm sr fm fr fl) H) (hD : va_D A (WL cI cZ xd ma ka ta bd σ κ ρ P ξ hi sd σ P ξ sd2 kv hh sm sr fm fr fl)) (hS : va_S A s.heap H locs) (hl : lv_has ls 4 [(3, .int (nI i)), (0, .ref b), (1, .ref (xd 0)), (2, .ref (bd 0))])
    (kk : lawK p l e s m b below meth c Q dC dI cI cZ A xd ma ka ta bd y i) : W p l e rmL s m #[Value.ref b] below meth c H locs 42 380 Q (F0 m 400 ls []) := by
  obtain ⟨hx, hb, hml, hown, hts, hX, hbl⟩ := X
  obtain ⟨⟨⟨Hn, B, Lc, C, V, M, hI⟩, hyr⟩, ⟨n, hn8, hn0⟩, -⟩ := id hLI
  refine lv_aload_n hx hb dL_law_400 rfl (lv_at hl 2 rfl) ?_
  refine lv_aload_n hx hb dL_law_401 rfl (lv_at hl 1 rfl) ?_
  refine lv_iload_n hx hb dL_law_402 rfl (lv_at hl 0 rfl) ?_
  refine lv_iconst (v := nI 1) hx hb dL_law_403 (by decide) ?_
  refine z_iadd (v := nI (i + 1)) hx hb dL_law_404 (nI_add _ _) ?_
  refine z_sld hx hb hX hbl hbA hS (i + 1) (by omega) hL dL_law_405 ?_
  refine lv_aload_n hx hb dL_law_406 rfl (lv_at hl 1 rfl) ?_
  refine lv_iload_n hx hb dL_law_407 rfl (lv_at hl 0 rfl) ?_
  refine lv_iconst (v := nI 2) hx hb dL_law_408 (by decide) ?_
  refine z_iadd (v := nI (i + 2)) hx hb dL_law_409 (nI_add _ _) ?_
  refine z_sld hx hb hX hbl hbA hS (i + 2) (by omega) hL dL_law_410 ?_
  have hD0 := hD
  refine z_callQi (As := [.int (xs (i + 1)), .int (xs (i + 2))]) (rest := []) ⟨hx, hb, hml, hown, hts⟩ (c_X2_give l dC dI cI cZ xd ma ka ta σ Hn B Lc C V M hI ξ hi (xs (i + 1)) (xs (i + 2)) _) (cwV 2 hts gL_law_X2_give rfl rfl rfl (by decide +kernel) ⟨Nat.le_of_ble_eq_true rfl, Nat.le_of_ble_eq_true rfl⟩) (fun _ _ _ _ q => q) (fun _ _ _ => trivial) hP hD hK hS hA [0, 3, 4, 5, 6, 7, 8, 9, 10, 11, 12] [1, 2, 13, 14, 15, 16, 17, 18, 19, 20, 21, 22, 23, 24, 25, 26, 27, 28, 29, 30, 31, 32, 33, 34, 35, 36, 37, 38, 39, 40, 41] rfl (by decide +kernel) (by rw [WL_len]; decide +kernel) (by decide +kernel) (by decide +kernel) (va_recv hK hP (ci := 2) (q0 := 0) rfl rfl) rfl hl.1 rfl (Nat.le_of_ble_eq_true rfl) ⟨Nat.le_of_ble_eq_true rfl, Nat.le_of_ble_eq_true rfl⟩ dL_law_411 (fun r u1 H locs hr hP hD hS => ?_)
  obtain ⟨rfl, rfl⟩ := hr
  have hP : va_P (dC, dI) vwCl (WL cI cZ xd ma ka ta bd ((giveCF σ Hn B (xs (i + 1)) (xs (i + 2))).2) κ ρ P ξ hi sd σ P ξ sd2 kv hh sm sr fm fr fl) H := z_back (isC := [0, 3, 4, 5, 6, 7, 8, 9, 10, 11, 12]) hP rfl 42 (WL_len ..) (by decide +kernel)
  have hD : va_D A (WL cI cZ xd ma ka ta bd ((giveCF σ Hn B (xs (i + 1)) (xs (i + 2))).2) κ ρ P ξ hi sd σ P ξ sd2 kv hh sm sr fm fr fl) := z_adr hD0 rfl
  refine lv_aload_n hx hb dL_law_414 rfl (lv_at hl 3 rfl) ?_
  refine lv_aload_n hx hb dL_law_415 rfl (lv_at hl 1 rfl) ?_
  refine lv_iload_n hx hb dL_law_416 rfl (lv_at hl 0 rfl) ?_
  refine lv_iconst (v := nI 1) hx hb dL_law_417 (by decide) ?_
  refine z_iadd (v := nI (i + 1)) hx hb dL_law_418 (nI_add _ _) ?_
  refine z_sld hx hb hX hbl hbA hS (i + 1) (by omega) hL dL_law_419 ?_
  refine lv_aload_n hx hb dL_law_420 rfl (lv_at hl 1 rfl) ?_
  refine lv_iload_n hx hb dL_law_421 rfl (lv_at hl 0 rfl) ?_
  refine lv_iconst (v := nI 2) hx hb dL_law_422 (by decide) ?_
  refine z_iadd (v := nI (i + 2)) hx hb dL_law_423 (nI_add _ _) ?_
  refine z_sld hx hb hX hbl hbA hS (i + 2) (by omega) hL dL_law_424 ?_
  have hD0 := hD
  refine z_callQi (As := [.int (xs (i + 1)), .int (xs (i + 2))]) (rest := [.int ((giveCF σ Hn B (xs (i + 1)) (xs (i + 2))).1)]) ⟨hx, hb, hml, hown, hts⟩ (c_X3_give l dC dI cI cZ bd σ Hn B Lc C V M hI ξ sd2 kv hh (xs (i + 1)) (xs (i + 2)) _) (cwV 2 hts gL_law_X3_give rfl rfl rfl (by decide +kernel) ⟨Nat.le_of_ble_eq_true rfl, Nat.le_of_ble_eq_true rfl⟩) (fun _ _ _ _ q => q) (fun _ _ _ => trivial) hP hD hK hS hA [33, 35, 36] [0, 1, 2, 3, 4, 5, 6, 7, 8, 9, 10, 11, 12, 13, 14, 15, 16, 17, 18, 19, 20, 21, 22, 23, 24, 25, 26, 27, 28, 29, 30, 31, 32, 34, 37, 38, 39, 40, 41] rfl (by decide +kernel) (by rw [WL_len]; decide +kernel) (by decide +kernel) (by decide +kernel) (va_recv hK hP (ci := 3) (q0 := 33) rfl rfl) rfl hl.1 rfl (Nat.le_of_ble_eq_true rfl) ⟨Nat.le_of_ble_eq_true rfl, Nat.le_of_ble_eq_true rfl⟩ dL_law_425 (fun r u2 H locs hr hP hD hS => ?_)
  obtain ⟨rfl, rfl⟩ := hr
  have hP : va_P (dC, dI) vwCl (WL cI cZ xd ma ka ta bd ((giveCF σ Hn B (xs (i + 1)) (xs (i + 2))).2) κ ρ P ξ hi sd ((giveCF σ Hn B (xs (i + 1)) (xs (i + 2))).2) P ξ sd2 kv hh sm sr fm fr fl) H := z_back (isC := [33, 35, 36]) hP rfl 42 (WL_len ..) (by decide +kernel)
  have hD : va_D A (WL cI cZ xd ma ka ta bd ((giveCF σ Hn B (xs (i + 1)) (xs (i + 2))).2) κ ρ P ξ hi sd ((giveCF σ Hn B (xs (i + 1)) (xs (i + 2))).2) P ξ sd2 kv hh sm sr fm fr fl) := z_adr hD0 rfl
  refine lv_icmp_eq (tgt := 750) hx hb dL_law_428 (by decide) (fun _ => ?_) (fun z9 => absurd rfl z9)
  exact kk ((giveCF σ Hn B (xs (i + 1)) (xs (i + 2))).2) κ ρ P ξ hi sd sd2 kv hh sm sr fm fr fl ls _ _ (hLI.with ((ok_give hI hyr _ _).mono (Nat.le_succ y)) hLI.2.1) hP hD hS hl
set_option maxHeartbeats 1000000 in
set_option maxRecDepth 100000 in
theorem lw_c11 (l : Launch) {p : Program} {e : Env} {s : State} {m : MethodId} {below : List Frame} {meth : Method} {c : Code} {Q : State → Prop} {b L : Nat} {xs : Nat → Int32} (X : LB p s m c b L xs) {A : Nat → Prop} (hA : ∀ q, s.heap.size ≤ q → A q) (hbA : ¬ A b) {dC : Nat → ClassId} {dI : Nat → Nat → Nat} {cI cZ : ClassId} (hK : va_K (dC, dI) vwCl (tyIZ cI cZ) s) {tf tt : Nat} (hE : lawA tf tt A s) {xd ma ka ta bd : Nat → Nat} {y i : Nat} (hy : y < 2 ^ 20) (hi4 : i + 4 ≤ L) (hL : L ≤ 2048) {σ κ ρ : St} {P ξ : Nat → Int32} {hi sd sd2 : Int32} {kv : Nat → Int32} {hh : Int64} {sm sr fm fr fl : Nat → Int32} (hLI : LI y σ κ ξ kv fm fr fl hi) {ls : Array Slot} {H : Heap} {locs : List Loc} (hP : va_P (dC, dI) vwCl (WL cI cZ xd ma ka ta bd σ κ ρ P ξ hi sd σ P ξ sd2 kv hh sm sr fm fr fl) H) (hD : va_D A (WL cI cZ xd ma ka ta bd σ κ ρ P ξ hi sd σ P ξ sd2 kv hh sm sr fm fr fl)) (hS : va_S A s.heap H locs) (hl : lv_has ls 4 [(3, .int (nI i)), (0, .ref b), (1, .ref (xd 0)), (2, .ref (bd 0))])
    (kk : lawK p l e s m b below meth c Q dC dI cI cZ A xd ma ka ta bd y i) : W p l e rmL s m #[Value.ref b] below meth c H locs 42 380 Q (F0 m 433 ls []) := by
  obtain ⟨hx, hb, hml, hown, hts, hX, hbl⟩ := X
  obtain ⟨⟨⟨Hn, B, Lc, C, V, M, hI⟩, hyr⟩, ⟨n, hn8, hn0⟩, -⟩ := id hLI
  refine lv_aload_n hx hb dL_law_433 rfl (lv_at hl 2 rfl) ?_
  refine lv_aload_n hx hb dL_law_434 rfl (lv_at hl 1 rfl) ?_
  refine lv_iload_n hx hb dL_law_435 rfl (lv_at hl 0 rfl) ?_
  refine lv_iconst (v := nI 1) hx hb dL_law_436 (by decide) ?_
  refine z_iadd (v := nI (i + 1)) hx hb dL_law_437 (nI_add _ _) ?_
  refine z_sld hx hb hX hbl hbA hS (i + 1) (by omega) hL dL_law_438 ?_
  have hD0 := hD
  refine z_callQi (As := [.int (xs (i + 1))]) (rest := []) ⟨hx, hb, hml, hown, hts⟩ (c_X2_die l dC dI cI cZ xd ma ka ta σ Hn B Lc C V M hI ξ hi (xs (i + 1)) _) (cwV 1 hts gL_law_X2_die rfl rfl rfl (by decide +kernel) ⟨Nat.le_of_ble_eq_true rfl, Nat.le_of_ble_eq_true rfl⟩) (fun _ _ _ _ q => q) (fun _ _ _ => trivial) hP hD hK hS hA [0, 3, 4, 5, 6, 7, 8, 9, 10, 11, 12] [1, 2, 13, 14, 15, 16, 17, 18, 19, 20, 21, 22, 23, 24, 25, 26, 27, 28, 29, 30, 31, 32, 33, 34, 35, 36, 37, 38, 39, 40, 41] rfl (by decide +kernel) (by rw [WL_len]; decide +kernel) (by decide +kernel) (by decide +kernel) (va_recv hK hP (ci := 2) (q0 := 0) rfl rfl) rfl hl.1 rfl (Nat.le_of_ble_eq_true rfl) ⟨Nat.le_of_ble_eq_true rfl, Nat.le_of_ble_eq_true rfl⟩ dL_law_439 (fun r u1 H locs hr hP hD hS => ?_)
  obtain ⟨rfl, rfl⟩ := hr
  have hP : va_P (dC, dI) vwCl (WL cI cZ xd ma ka ta bd ((dieF σ Hn B (xs (i + 1))).2) κ ρ P ξ hi sd σ P ξ sd2 kv hh sm sr fm fr fl) H := z_back (isC := [0, 3, 4, 5, 6, 7, 8, 9, 10, 11, 12]) hP rfl 42 (WL_len ..) (by decide +kernel)
  have hD : va_D A (WL cI cZ xd ma ka ta bd ((dieF σ Hn B (xs (i + 1))).2) κ ρ P ξ hi sd σ P ξ sd2 kv hh sm sr fm fr fl) := z_adr hD0 rfl
  refine lv_aload_n hx hb dL_law_442 rfl (lv_at hl 3 rfl) ?_
  refine lv_aload_n hx hb dL_law_443 rfl (lv_at hl 1 rfl) ?_
  refine lv_iload_n hx hb dL_law_444 rfl (lv_at hl 0 rfl) ?_
  refine lv_iconst (v := nI 1) hx hb dL_law_445 (by decide) ?_
  refine z_iadd (v := nI (i + 1)) hx hb dL_law_446 (nI_add _ _) ?_
  refine z_sld hx hb hX hbl hbA hS (i + 1) (by omega) hL dL_law_447 ?_
  have hD0 := hD
  refine z_callQi (As := [.int (xs (i + 1))]) (rest := [.int ((dieF σ Hn B (xs (i + 1))).1)]) ⟨hx, hb, hml, hown, hts⟩ (c_X3_die l dC dI cI cZ bd σ Hn B Lc C V M hI ξ sd2 kv hh (xs (i + 1)) _) (cwV 1 hts gL_law_X3_die rfl rfl rfl (by decide +kernel) ⟨Nat.le_of_ble_eq_true rfl, Nat.le_of_ble_eq_true rfl⟩) (fun _ _ _ _ q => q) (fun _ _ _ => trivial) hP hD hK hS hA [33, 35, 36] [0, 1, 2, 3, 4, 5, 6, 7, 8, 9, 10, 11, 12, 13, 14, 15, 16, 17, 18, 19, 20, 21, 22, 23, 24, 25, 26, 27, 28, 29, 30, 31, 32, 34, 37, 38, 39, 40, 41] rfl (by decide +kernel) (by rw [WL_len]; decide +kernel) (by decide +kernel) (by decide +kernel) (va_recv hK hP (ci := 3) (q0 := 33) rfl rfl) rfl hl.1 rfl (Nat.le_of_ble_eq_true rfl) ⟨Nat.le_of_ble_eq_true rfl, Nat.le_of_ble_eq_true rfl⟩ dL_law_448 (fun r u2 H locs hr hP hD hS => ?_)
  obtain ⟨rfl, rfl⟩ := hr
  have hP : va_P (dC, dI) vwCl (WL cI cZ xd ma ka ta bd ((dieF σ Hn B (xs (i + 1))).2) κ ρ P ξ hi sd ((dieF σ Hn B (xs (i + 1))).2) P ξ sd2 kv hh sm sr fm fr fl) H := z_back (isC := [33, 35, 36]) hP rfl 42 (WL_len ..) (by decide +kernel)
  have hD : va_D A (WL cI cZ xd ma ka ta bd ((dieF σ Hn B (xs (i + 1))).2) κ ρ P ξ hi sd ((dieF σ Hn B (xs (i + 1))).2) P ξ sd2 kv hh sm sr fm fr fl) := z_adr hD0 rfl
  refine lv_icmp_eq (tgt := 750) hx hb dL_law_451 (by decide) (fun _ => ?_) (fun z9 => absurd rfl z9)
  exact kk ((dieF σ Hn B (xs (i + 1))).2) κ ρ P ξ hi sd sd2 kv hh sm sr fm fr fl ls _ _ (hLI.with ((ok_die hI hyr _).mono (Nat.le_succ y)) hLI.2.1) hP hD hS hl
