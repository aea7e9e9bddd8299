/-! ===== plain facts that the reference's own ways need ===== -/
theorem sub_bit : ∀ s, s < 64 → ∀ w, w < 64 → nI s &&& znot (nI w) = 0 → ∀ b, b < 6 → w / 2 ^ b % 2 = 0 → s / 2 ^ b % 2 = 0 := by decide +kernel
theorem or_bit : ∀ w, w < 64 → ∀ m, m < 6 → ∀ b, b < 6 → b ≠ m → (w ||| 2 ^ m) / 2 ^ b % 2 = w / 2 ^ b % 2 := by decide +kernel
theorem own_bit {σ : St} {h : Int32} : ∀ m : Nat, m ≤ 6 → ∃ w, w < 2 ^ m ∧ ownR σ h m = nI w ∧ ∀ b, b < m → ¬ σ 6 b = h → w / 2 ^ b % 2 = 0
  | 0, _ => ⟨0, by decide, rfl, fun b hb => absurd hb (Nat.not_lt_zero b)⟩
  | m + 1, hm => by
    obtain ⟨w, hw, e, hz⟩ := own_bit (σ := σ) (h := h) m (by omega)
    have hp : 2 ^ m < 2 ^ (m + 1) := Nat.pow_lt_pow_right (by decide) (Nat.lt_succ_self m)
    have h64 := pow_le64 (b := m) (by omega)
    rw [ownR]
    split
    · rename_i c
      refine ⟨w ||| 2 ^ m, Nat.or_lt_two_pow (Nat.lt_trans hw hp) hp, by rw [e, zbit_pow m (by omega), nI_or], fun b hb hn => ?_⟩
      have hbm : b ≠ m := fun q => hn (by rw [q]; exact c)
      rw [or_bit w (by omega) m (by omega) b (by omega) hbm]
      exact hz b (by omega) hn
    · refine ⟨w, Nat.lt_trans hw hp, e, fun b hb hn => ?_⟩
      rcases Nat.lt_succ_iff_lt_or_eq.mp hb with h1 | rfl
      · exact hz b h1 hn
      · rw [Nat.div_eq_of_lt hw]
theorem heldM {σ : St} {Hn B L C V M : Nat} (hI : Inv σ Hn B L C V M) {h yr : Int32} (hh : ¬ h = -1) {s : Nat} (hs : s < 64) (hsub : nI s &&& znot (ownR σ h B) = 0) : heldR σ h yr (ownR σ h B) B &&& znot (nI s) = heldR σ h yr (ownR σ h B &&& znot (nI s)) B := by
  have jB : B ≤ 6 := hI.1.2.2.2.2.2.2.2.2.2.2.2
  have iO2 := hI.2.2.2.2.2.2.2
  obtain ⟨w, hw, e, hz⟩ := own_bit (σ := σ) (h := h) B jB
  have h64 := pow_le64 (b := B) jB
  rw [e] at hsub
  have key : ∀ b : Nat, b ≤ B → ∃ k, k < 64 ∧ heldR σ h yr (ownR σ h B) b = nI k ∧ nI k &&& znot (nI s) = heldR σ h yr (ownR σ h B &&& znot (nI s)) b := by
    intro b
    induction b with
    | zero => intro _; exact ⟨w, by omega, e, by rw [heldR, e]⟩
    | succ b ih =>
      intro hb
      obtain ⟨k, hk, e1, e2⟩ := ih (by omega)
      rw [heldR, heldR]
      by_cases c : σ 7 b = h ∧ yr - σ 8 b < σ 0 2
      · rw [if_pos c, if_pos c, ← e2, e1]
        have h6 : ¬ σ 6 b = h := by
          intro q
          rcases iO2 b (by omega) with h1 | h1
          · exact hh (by rw [← c.1]; exact h1)
          · exact h1 (by rw [c.1, q])
        have hs0 := sub_bit s hs w (by omega) hsub b (by omega) (hz b (by omega) h6)
        have hp : 2 ^ b < 64 := Nat.lt_of_lt_of_le (Nat.pow_lt_pow_right (by decide) (show b < 6 by omega)) (by decide)
        refine ⟨k ||| 2 ^ b, Nat.or_lt_two_pow (n := 6) hk hp, by rw [zbit_pow b (by omega), nI_or], ?_⟩
        rw [← nI_or, ← zbit_pow b (by omega)]
        exact zbit_and k hk b (by omega) s hs hs0
      · rw [if_neg c, if_neg c]
        exact ⟨k, hk, e1, e2⟩
  obtain ⟨k, hk, e1, e2⟩ := key B (Nat.le_refl _)
  rw [e1]; exact e2
/-! sums, told the other way round -/
def mul10 (x : Int32) : Nat → Int32
  | 0 => x
  | n + 1 => mul10 x n * nI 10
theorem mul10_in (x : Int32) : ∀ n : Nat, mul10 x (n + 1) = mul10 (x * nI 10) n
  | 0 => rfl
  | n + 1 => by
    have ih := mul10_in x n
    show mul10 x (n + 1) * nI 10 = _
    rw [ih]; rfl
theorem mul10_add (x y : Int32) : ∀ n : Nat, mul10 x n + mul10 y n = mul10 (x + y) n
  | 0 => rfl
  | n + 1 => by
    show mul10 x n * nI 10 + mul10 y n * nI 10 = mul10 (x + y) n * nI 10
    rw [← Int32.add_mul, mul10_add x y n]
theorem mul10_0 : ∀ n : Nat, mul10 (nI 0) n = nI 0
  | 0 => rfl
  | n + 1 => by
    show mul10 (nI 0) n * nI 10 = nI 0
    rw [mul10_0 n]; rfl
def termF (σ : St) (B j : Nat) (gift : Int32) (k : Nat) : Int32 := stillR σ j k * σ 2 j * lossF σ B j (heldL σ B (nI j) (nI k) gift)
theorem sum_step {σ : St} {B j k y : Nat} {gift : Int32} (h : k < y) : mul10 (lostR σ B j gift k) (y - k) + mul10 (termF σ B j gift k) (y - (k + 1)) = mul10 (lostR σ B j gift (k + 1)) (y - (k + 1)) := by
  rw [show y - k = (y - (k + 1)) + 1 by omega, mul10_in, mul10_add]
  rfl
noncomputable def lessF (σ : St) (B j y : Nat) (own : Int32) (k : Nat) : Int32 := if giveR σ B j y own k = -1 then -1 else lostR σ B j (giveR σ B j y own k) y
section GIVEM
variable {σ : St} {B j y k : Nat} {own : Int32}
theorem giveM_n (c : ¬ nI k &&& znot own = 0) : giveR σ B j y own k = giveR σ B j y own (k + 1) := by rw [giveR, if_neg (fun h => c h.1)]
theorem giveM_s (c : nI k &&& znot own = 0) (d : giveR σ B j y own k = -1 ∨ lostR σ B j (nI k) y < lostR σ B j (giveR σ B j y own k) y ∨ (lostR σ B j (nI k) y = lostR σ B j (giveR σ B j y own k) y ∧ ones k < ones (tn (giveR σ B j y own k)))) : nI k = giveR σ B j y own (k + 1) := by rw [giveR, if_pos ⟨c, d⟩]
theorem giveM_k (d : ¬ (giveR σ B j y own k = -1 ∨ lostR σ B j (nI k) y < lostR σ B j (giveR σ B j y own k) y ∨ (lostR σ B j (nI k) y = lostR σ B j (giveR σ B j y own k) y ∧ ones k < ones (tn (giveR σ B j y own k))))) : giveR σ B j y own k = giveR σ B j y own (k + 1) := by rw [giveR, if_neg (fun h => d h.2)]
theorem lessF_n (h : giveR σ B j y own k = giveR σ B j y own (k + 1)) : lessF σ B j y own k = lessF σ B j y own (k + 1) := by unfold lessF; rw [← h]
theorem lessF_s (hk : k < 2 ^ 31) (h : nI k = giveR σ B j y own (k + 1)) : lostR σ B j (nI k) y = lessF σ B j y own (k + 1) := by unfold lessF; rw [← h, if_neg (nI_m1 hk)]
theorem lessF_g (h : ¬ giveR σ B j y own k = -1) : lessF σ B j y own k = lostR σ B j (giveR σ B j y own k) y := by unfold lessF; rw [if_neg h]
theorem giveM_in : ∀ k : Nat, giveR σ B j y own k = -1 ∨ ∃ i, i < k ∧ giveR σ B j y own k = nI i ∧ nI i &&& znot own = 0
  | 0 => Or.inl rfl
  | k + 1 => by
    rw [giveR]
    split
    · rename_i c
      exact Or.inr ⟨k, Nat.lt_succ_self k, rfl, c.1⟩
    · rcases giveM_in k with h | ⟨i, h1, h2, h3⟩
      · exact Or.inl h
      · exact Or.inr ⟨i, by omega, h2, h3⟩
theorem giveF_in : ∃ i, i < 64 ∧ giveF σ B j y = nI i ∧ nI i &&& znot (ownR σ (nI j) B) = 0 := by
  unfold giveF
  rcases giveM_in (σ := σ) (B := B) (j := j) (y := y) (own := ownR σ (nI j) B) 64 with h | h
  · obtain ⟨i, h1, h2⟩ := giveR_in (σ := σ) (B := B) (j := j) (y := y) (own := ownR σ (nI j) B) 64 (by decide)
    rw [h2] at h
    exact absurd h (nI_m1 (by omega))
  · exact h
end GIVEM
theorem hasP5 {x : Int32} : inP 0 4 x ↔ hasP 5 x := has_in (N := 5) (by decide)
theorem ownM_n {σ : St} {h : Int32} {k : Nat} (c : ¬ σ 6 k = h) : ownR σ h k ||| nI 0 = ownR σ h (k + 1) := by rw [or_0]; exact ownR_n c
theorem heldM_n {σ : St} {h yr st : Int32} {k : Nat} (c : ¬ (σ 7 k = h ∧ yr - σ 8 k < σ 0 2)) : heldR σ h yr st k ||| nI 0 = heldR σ h yr st (k + 1) := by rw [or_0]; exact heldR_n c
theorem bestM_k {σ : St} {set : Int32} {k : Nat} (c : ¬ (zin set k = 1 ∧ σ 0 3 ≤ σ 5 k ∧ (bestR σ set k = -1 ∨ σ 5 (tn (bestR σ set k)) < σ 5 k))) : bestR σ set k = bestR σ set (k + 1) := by rw [bestR, if_neg c]
theorem bestM_s {σ : St} {set : Int32} {k : Nat} (c : zin set k = 1 ∧ σ 0 3 ≤ σ 5 k ∧ (bestR σ set k = -1 ∨ σ 5 (tn (bestR σ set k)) < σ 5 k)) : nI k = bestR σ set (k + 1) := by rw [bestR, if_pos c]
theorem takM_n {σ : St} {B : Nat} {set : Int32} {k : Nat} (c : bestR σ (set &&& znot (takR σ B set k)) B = -1) : takR σ B set k ||| nI 0 = takR σ B set (k + 1) := by rw [or_0, takR, if_pos c]
theorem takM_l {σ : St} {B : Nat} {set : Int32} {k : Nat} (c : ¬ bestR σ (set &&& znot (takR σ B set k)) B = -1) : set &&& znot (takR σ B set k) &&& znot (zbit (tn (bestR σ (set &&& znot (takR σ B set k)) B))) = set &&& znot (takR σ B set (k + 1)) := by rw [and_znot_or, ← takR_y c]
theorem takM_m {σ : St} {B : Nat} {set : Int32} {k : Nat} (c : bestR σ (set &&& znot (takR σ B set k)) B = -1) : set &&& znot (takR σ B set k) &&& (set &&& znot (takR σ B set k)) = set &&& znot (takR σ B set (k + 1)) := by rw [and_self', ← takM_n c, or_0]
theorem worthM_n {σ : St} {set : Int32} {k : Nat} (c : ¬ zin set k = 1) : worthR σ set k + nI 0 = worthR σ set (k + 1) := by
  rw [← worthR_n c]; exact Int32.add_zero _
theorem thereM_n {σ : St} {k : Nat} (h : σ 6 k = -1) : thereR σ k + nI 0 = thereR σ (k + 1) := by
  rw [← thereR_n h]; exact Int32.add_zero _
theorem goodP_of {k : Nat} {c : Int32} : (goodP k c) ↔ (k < 5 ∧ inP (loF k) (hiF k) c) := Iff.rfl
/-- a letter less '0' from 0 to m is a letter from 48 on -/
theorem inP_48 {m : Nat} {c : Int32} (hm : m < 100) : inP 0 m (c - nI 48) ↔ inP 48 (48 + m) c := by
  constructor
  · rintro ⟨j, -, h, e⟩
    refine ⟨j + 48, by omega, by omega, ?_⟩
    rw [← nI_add, ← e, Int32.sub_add_cancel]
  · rintro ⟨j, h1, h2, e⟩
    exact ⟨j - 48, Nat.zero_le _, by omega, by rw [e, pk_sub h1]⟩
theorem diesS_eq (σ : St) (Hn B j : Nat) : up2 (buryR (up2 σ 3 j 0) (takenF σ B j (heldF σ B (nI j))) (nI j) (nextF σ Hn j) B) 0 7 (σ 0 7 + lossF σ B j (heldF σ B (nI j))) = buryS σ Hn B j := by
  have key : ∀ k : Nat, buryR (up2 σ 3 j 0) (takenF σ B j (heldF σ B (nI j))) (nI j) (nextF σ Hn j) k = up2 (buryR σ (takenF σ B j (heldF σ B (nI j))) (nI j) (nextF σ Hn j) k) 3 j 0 := by
    intro k
    induction k with
    | zero => rfl
    | succ k ih =>
      have ep : ∀ (τ : St) (x : Int32), putS (up2 τ 3 j 0) k x = up2 (putS τ k x) 3 j 0 := by
        intro τ x
        unfold putS layS
        rw [up2_comm _ _ _ (show 3 ≠ 6 by decide), up2_comm _ _ _ (show 3 ≠ 7 by decide), up2_comm _ _ _ (show 3 ≠ 8 by decide)]
      rw [buryR, buryR, ih]
      show (if _ then putS _ k (-1) else if σ 6 k = _ then putS _ k _ else _) = _
      split
      · exact ep _ _
      · split
        · exact ep _ _
        · rfl
  unfold buryS
  rw [key]
theorem has_tn {N : Nat} {x : Int32} (h : hasP N x) (hN : N ≤ 2 ^ 31) : x = nI (tn x) ∧ tn x < N := by
  obtain ⟨j, hj, rfl⟩ := h
  rw [tn_nI (by omega)]; exact ⟨rfl, hj⟩
theorem giveM_has {σ : St} {B j y k : Nat} {own : Int32} (c : ¬ giveR σ B j y own k = -1) : hasP k (giveR σ B j y own k) := by
  obtain ⟨i, h1, h2, _⟩ := (giveM_in k).resolve_left c
  exact ⟨i, h1, h2⟩
theorem giftS_num {σ : St} {b t : Nat} (i : Nat) : giftS σ b t 0 i = σ 0 i := by
  unfold giftS
  split
  · rfl
  · rfl
theorem nextF_m1 {σ : St} {Hn j : Nat} (hH : Hn ≤ 4) (h : σ 4 j = -1) : nextF σ Hn j = -1 := nextF_n (fun ⟨i, hi, e, _⟩ => nI_m1 (by omega) (e.symm.trans h))
theorem sum7 (a b c : Int32) : a - b + c = a + c - b := by
  rw [Int32.sub_eq_add_neg, Int32.sub_eq_add_neg, Int32.add_assoc, Int32.add_comm (-b) c, ← Int32.add_assoc]
theorem beastM (σ : St) (B : Nat) (h w : Int32) : up2 (layS (up2 (up2 σ 5 B w) 9 B (-1)) B h (-1) (-1)) 0 5 (nI (B + 1)) = beastS σ B h w := by
  unfold beastS putS layS
  rw [up2_comm _ _ _ (show 8 ≠ 0 by decide), up2_comm _ _ _ (show 7 ≠ 0 by decide), up2_comm _ _ _ (show 6 ≠ 0 by decide), up2_comm _ _ _ (show 9 ≠ 0 by decide), up2_comm _ _ _ (show 5 ≠ 0 by decide)]
theorem holdM (σ : St) (n : Nat) (kd d : Int32) : up2 (up2 (up2 (up2 (up2 σ 1 n kd) 2 n d) 3 n (nI 1)) 4 n (-1)) 0 4 (nI (n + 1)) = holdS σ n kd d := by
  unfold holdS
  rw [up2_comm _ _ _ (show 3 ≠ 4 by decide)]
  rfl
theorem layS_back (σ : St) (b : Nat) (x : Int32) : layS (putS σ b x) b (σ 6 b) (σ 7 b) (σ 8 b) = σ := by
  unfold putS layS
  funext i j
  simp only [up2_at]
  by_cases h8 : i = 8 ∧ j = b
  · rw [if_pos h8, h8.1, h8.2]
  · by_cases h7 : i = 7 ∧ j = b
    · rw [if_neg h8, if_pos h7, h7.1, h7.2]
    · by_cases h6 : i = 6 ∧ j = b
      · rw [if_neg h8, if_neg h7, if_pos h6, h6.1, h6.2]
      · rw [if_neg h8, if_neg h7, if_neg h6, if_neg h8, if_neg h7, if_neg h6]
theorem layS_back0 (σ : St) (b : Nat) : layS σ b (σ 6 b) (σ 7 b) (σ 8 b) = σ := by
  unfold layS
  funext i j
  simp only [up2_at]
  by_cases h8 : i = 8 ∧ j = b
  · rw [if_pos h8, h8.1, h8.2]
  · by_cases h7 : i = 7 ∧ j = b
    · rw [if_neg h8, if_pos h7, h7.1, h7.2]
    · by_cases h6 : i = 6 ∧ j = b
      · rw [if_neg h8, if_neg h7, if_pos h6, h6.1, h6.2]
      · rw [if_neg h8, if_neg h7, if_neg h6]
theorem good_0 {k : Nat} {c : Int32} (hk : k < 2) : zb (inP 0 3 (c - nI 48)) = zb (goodP k c) := by
  refine zb_iff ((inP_48 (by decide)).trans ?_)
  unfold goodP loF hiF
  rw [if_neg (by omega), if_pos hk]
  exact ⟨fun h => ⟨by omega, h⟩, fun h => h.2⟩
theorem good_2 {c : Int32} : zb (inP 0 5 (c - nI 48)) = zb (goodP 2 c) := by
  refine zb_iff ((inP_48 (by decide)).trans ?_)
  exact ⟨fun h => ⟨by decide, h⟩, fun h => h.2⟩
theorem good_4 {c : Int32} : inP 0 9 (c - nI 48) ↔ goodP 4 c := by
  refine (inP_48 (by decide)).trans ?_
  exact ⟨fun h => ⟨by decide, h⟩, fun h => h.2⟩
theorem good_3 {c : Int32} : c = nI 59 ↔ goodP 3 c := by
  constructor
  · intro h; exact ⟨by decide, 59, Nat.le_refl _, Nat.le_refl _, h⟩
  · rintro ⟨-, j, h1, h2, e⟩
    have h1' : 59 ≤ j := h1
    have h2' : j ≤ 59 := h2
    rw [e, show j = 59 by omega]
section ZQS
variable {p : Program} {l : Launch} {e : Env} {R : Room} {s : State} {m : MethodId} {args : Array Value} {below : List Frame} {meth : Method} {c : Code} {H : Heap} {locs : List Loc} {cells slots : Nat} {Q : State → Prop}
variable {cc : ByteArray} {pc : Nat} {ls : Array Slot} {rest : List Value} {D : va_G} {cl : List vw_C} {A : Nat → Prop} {ws : va_W} {H0 : Heap}
variable {y : MethodName} {bytes : ByteArray} {maxL nL n index : Nat} {ret : Option FieldType} {ws2 : List Cond} {rm : Room} {Ts : List Cond} {own : String} {As st0 : List Value} {wc : va_W} {tc : List (ClassId × FieldType)}
theorem z_callQvS {S : Type} {post : S → Prop} {wd : S → va_W} (SS : CallFix p m c cc nL s args Ts own) (hM : Met l y ws2 rm (va_Pc As (zPre D cl tc wc H.size (fun _ => True))) (va_Qv post (zPost D cl tc wc H.size wd) (va_A wc H.size)) 0 0 (va_A wc H.size)) (cw : CallB R s args own index y bytes maxL ret ws2 rm 0 0 n ∧ (Cond.static y).before args s = true)
    (hP : va_P D cl ws H) (hD : va_D A ws) (hK : va_K D cl tc s) (hS : va_S A H0 H locs) (hA : ∀ q, H0.size ≤ q → A q) (isC isR : List Nat) (hC : isC.map (fun i => ws[i]?) = wc.map some) (hnC : va_nd isC = true) (hR : isR.all (fun i => decide (i < ws.length)) = true) (hnR : va_nd isR = true) (hdis : ∀ i ∈ isR, i ∉ isC) (hn : As.length = n) (hsz : ls.size = nL) (hst : st0 = As.reverse ++ rest) (hcat : (rest.map fun v => v.category).sum ≤ 8) (hcs : cells + 0 ≤ R.cells ∧ slots + 0 ≤ R.slots) (hdg : decode cc pc = .ok (.invokestatic index, 3))
    (kk : ∀ (u : S) (H1 : Heap) (locs1 : List Loc), post u → va_P D cl (isR.filterMap (fun i => ws[i]?) ++ wd u) H1 → va_D A (isR.filterMap (fun i => ws[i]?) ++ wd u) → va_S A H0 H1 locs1 → W p l e R s m args below meth c H1 locs1 cells slots Q (F0 m (pc + 3) ls rest)) : W p l e R s m args below meth c H locs cells slots Q (F0 m pc ls st0) := by
  have hPc : va_P D cl wc H := by
    intro k q hk
    have h1 : (isC.map (fun i => ws[i]?))[k]? = some (some q) := by rw [hC, List.getElem?_map, hk]; rfl
    rw [List.getElem?_map] at h1
    cases hi : isC[k]? with
    | none => rw [hi] at h1; cases h1
    | some i => rw [hi] at h1; exact hP i q (Option.some.inj h1)
  have hDc : va_D A wc := hD.sub isC hnC hC
  have hF := va_free (wc := wc) hD hS hA isC hC
  have hr := va_runS (below := below) (e := e) (meth := meth) (locs := locs) (cells := cells) (slots := slots) (H := H) (g := F0 m pc ls st0) (rest := rest) SS hM cw ⟨z_blindW (fun _ _ _ _ q => q), fun U hU hW => ⟨rfl, by rw [hU], by rw [hU]; exact hPc, va_K.moved hW.alike hK, hDc.weaken (fun _ _ _ _ => trivial), trivial⟩⟩ rfl hn hsz hst (lv_room hcat) hdg hcs
  refine va_callv hr hS (fun q _ h => hF q h) hF (fun u t H1 locs1 ht hvm hp hB hz1 hk1 hS1 => ?_)
  obtain ⟨hP1, hK1, hD1⟩ := hB
  rw [ht] at hP1
  obtain ⟨hP2, hD2⟩ := va_join (wr := isR.filterMap (fun i => ws[i]?)) (w1 := wd u) hP hD isC isR hC (z_inR hR) hnR hdis hk1 hF hP1 hD1
  exact kk u H1 locs1 hp hP2 hD2 hS1
end ZQS
theorem buryS_num {σ : St} {Hn B j i : Nat} (hi : i ≤ 5) : buryS σ Hn B j 0 i = σ 0 i := by
  unfold buryS
  rw [up2_at, if_neg (by omega), up2_at, if_neg (by omega), buryR_num 0 (Or.inl (by decide))]
theorem dayR_num {σ : St} {Hn B i : Nat} {sd : Int32} (hi : i ≤ 5) : ∀ k : Nat, (dayR σ Hn B sd k).1 0 i = σ 0 i
  | 0 => rfl
  | k + 1 => by
    rw [dayR]
    split
    · split
      · show buryS _ Hn B k 0 i = _
        rw [buryS_num hi]; exact dayR_num hi k
      · exact dayR_num hi k
    · exact dayR_num hi k
theorem yearS_num {σ : St} {Hn B i : Nat} {sd : Int32} (hi : i ≤ 5) : (yearS σ Hn B sd).1 0 i = σ 0 i := by
  unfold yearS
  show (up2 _ 0 6 _) 0 i = _
  rw [up2_at, if_neg (by omega)]
  unfold gaveS
  split
  · show giftS _ _ _ 0 i = _
    rw [giftS_num]; exact dayR_num hi Hn
  · exact dayR_num hi Hn
theorem yearsR_num {σ : St} {Hn B i : Nat} {sd : Int32} (hi : i ≤ 5) : ∀ k : Nat, (yearsR σ Hn B sd k).1 0 i = σ 0 i
  | 0 => rfl
  | k + 1 => by
    rw [yearsR]
    rw [yearS_num hi]; exact yearsR_num hi k
def cpR (f g : Nat → Int32) : Nat → Nat → Int32
  | 0 => g
  | k + 1 => upd (cpR f g k) k (f k)
theorem cpR_in (f g : Nat → Int32) : ∀ k j : Nat, j < k → cpR f g k j = f j
  | 0, j, h => absurd h (Nat.not_lt_zero j)
  | k + 1, j, h => by
    show upd (cpR f g k) k (f k) j = f j
    unfold upd
    by_cases e : j = k
    · rw [if_pos e, e]
    · rw [if_neg e]; exact cpR_in f g k j (by omega)
/-! what is kept -/
def kvK (σ : St) (i : Nat) : Int32 := match i with
  | 0 => σ 0 6
  | 1 => σ 0 4
  | 2 => σ 0 5
  | _ => σ 0 7
def lawU (f : Nat → Int32) (σ : St) : Nat → Int32 := upd (upd (upd (upd f 0 (σ 0 0)) 1 (σ 0 1)) 2 (σ 0 2)) 3 (σ 0 3)
theorem lawU_in (f : Nat → Int32) (σ : St) : ∀ j, j < 4 → lawU f σ j = σ 0 j
  | 0, _ => rfl
  | 1, _ => rfl
  | 2, _ => rfl
  | 3, _ => rfl
  | j + 4, h => absurd h (by omega)
def keptP (κ : St) (hi : Int32) (kv fm fr fl : Nat → Int32) : Prop := hi = 1 ∧ ¬ kv 0 = -1 ∧ fm = menOf κ ∧ fr = rowsOf κ ∧ kv 0 = κ 0 6 ∧ kv 1 = κ 0 4 ∧ kv 2 = κ 0 5 ∧ kv 3 = κ 0 7 ∧ ∀ j, j < 4 → fl j = κ 0 j
