/-! ===== what each call answers ===== -/
noncomputable def zif {α : Type} (P : Prop) (a b : α) : α := @ite _ P (Classical.propDecidable P) a b
theorem zif_t {α : Type} {P : Prop} {a b : α} (h : P) : zif P a b = a := by unfold zif; rw [if_pos h]
theorem zif_f {α : Type} {P : Prop} {a b : α} (h : ¬ P) : zif P a b = b := by unfold zif; rw [if_neg h]
theorem tn_nI {j : Nat} (h : j < 2 ^ 31) : tn (nI j) = j := nI_clamp h
/-- a number from a to b -/
def inP (a b : Nat) (x : Int32) : Prop := ∃ j, a ≤ j ∧ j ≤ b ∧ x = nI j
theorem inP_iff {a b : Nat} {x : Int32} (ha : a < 2 ^ 31) (hb : b < 2 ^ 31) : (nI a ≤ x ∧ x ≤ nI b) ↔ inP a b x := by
  constructor
  · rintro ⟨h1, h2⟩
    rcases pk_ix x (n := b + 1 - 1) (by omega) with h | h | ⟨j, hj, rfl⟩
    · have p1 := Int32.le_iff_toInt_le.mp h1
      have p2 := Int32.lt_iff_toInt_lt.mp h
      rw [nI_toInt ha] at p1
      rw [Int32.toInt_zero] at p2
      omega
    · have p1 := Int32.le_iff_toInt_le.mp h
      have p2 := Int32.le_iff_toInt_le.mp h2
      have e : x = nI b := by
        apply Int32.toInt_inj.mp
        have : b + 1 - 1 = b := by omega
        rw [this] at p1
        omega
      subst e
      exact ⟨b, (nI_leI ha hb).mp h1, Nat.le_refl _, rfl⟩
    · exact ⟨j, (nI_leI ha (by omega)).mp h1, by omega, rfl⟩
  · rintro ⟨j, h1, h2, rfl⟩
    exact ⟨nI_le h1 (by omega), nI_le h2 hb⟩
theorem inP_nI {a b j : Nat} (h1 : a ≤ j) (h2 : j ≤ b) : inP a b (nI j) := ⟨j, h1, h2, rfl⟩
theorem inP_of {a b j : Nat} (h : inP a b (nI j)) (hj : j < 2 ^ 31) (hb : b < 2 ^ 31) : a ≤ j ∧ j ≤ b := by
  obtain ⟨i, h1, h2, e⟩ := h
  rw [(nI_eq hj (by omega)).mp e]; exact ⟨h1, h2⟩
def suchP (k kd : Int32) : Prop := kd = 0 ∨ kd = k ∨ (kd = 3 ∧ k = 4)
def lordA (σ : St) (j : Nat) : Nat := lordN (tn (σ 0 0)) (tn (σ 1 j))
def churchA (σ : St) (j : Nat) : Nat := churchN (tn (σ 0 1)) (tn (σ 1 j))
def aboutN (σ : St) (B j : Nat) : Nat → Int32
  | 0 => σ 1 j
  | 1 => σ 2 j
  | 2 => σ 3 j
  | 3 => σ 4 j
  | 4 => ownR σ (nI j) B
  | 5 => heldF σ B (nI j)
  | 6 => nI (lordA σ j)
  | 7 => nI (churchA σ j)
  | _ => if σ 3 j = 1 then lossF σ B j (heldF σ B (nI j)) else 0
noncomputable def aboutF (σ : St) (Hn B : Nat) (x what : Int32) : Int32 := zif (hasP Hn x) (zif (hasP 9 what) (aboutN σ B (tn x) (tn what)) (-102)) (-101)
noncomputable def asF (σ : St) (Hn : Nat) (x kd : Int32) : Int32 := zif (hasP Hn x) (zif (inP 0 4 kd) (zif (suchP (σ 1 (tn x)) kd) x (-1)) (-102)) (-101)
noncomputable def beastOfF (σ : St) (B : Nat) (x what : Int32) : Int32 := zif (hasP B x) (zif (hasP 5 what) (σ (tn what + 5) (tn x)) (-102)) (-101)
def safeN (σ : St) (B j w : Nat) : Int32 := if w = 0 then (if fewF σ B j = -1 then -1 else nI (ones (tn (fewF σ B j)))) else fewF σ B j
noncomputable def safeF (σ : St) (Hn B : Nat) (x what : Int32) : Int32 := zif (hasP Hn x) (zif (inP 0 1 what) (zif (σ 3 (tn x) = 1) (safeN σ B (tn x) (tn what)) (-103)) (-102)) (-101)
noncomputable def givingF (σ : St) (Hn B : Nat) (x y : Int32) : Int32 := zif (hasP Hn x) (zif (inP 1 4 y) (zif (σ 3 (tn x) = 1) (giveF σ B (tn x) (tn y)) (-103)) (-102)) (-101)
def meanUp (σ : St) (B j y : Nat) : Nat := tn (lostR σ B j (giveF σ B j y) y)
def meanN (σ : St) (B j y p : Nat) : Int32 := nI ((if p = 0 then meanUp σ B j y else 10 ^ y) / Nat.gcd (meanUp σ B j y) (10 ^ y))
noncomputable def meanF (σ : St) (Hn B : Nat) (x y p : Int32) : Int32 := zif (hasP Hn x) (zif (inP 1 4 y ∧ inP 0 1 p) (zif (σ 3 (tn x) = 1) (meanN σ B (tn x) (tn y) (tn p)) (-103)) (-102)) (-101)
def cntN (σ : St) (Hn B : Nat) (ξ : Nat → Int32) : Nat → Int32
  | 0 => σ 0 0
  | 1 => σ 0 1
  | 2 => σ 0 2
  | 3 => σ 0 3
  | 4 => nI Hn
  | 5 => aliveR σ Hn
  | 6 => nI B
  | 7 => thereR σ B
  | 8 => σ 0 6
  | 9 => σ 0 7
  | 10 => ξ 0
  | _ => ξ 1
noncomputable def countF (σ : St) (Hn B : Nat) (ξ : Nat → Int32) (w : Int32) : Int32 := zif (hasP 12 w) (cntN σ Hn B ξ (tn w)) (-102)
/-! calls that change -/
noncomputable def holderF (σ : St) (Hn : Nat) (kd d : Int32) : Int32 × St := zif (inP 0 4 kd ∧ inP 0 9 d) (if Hn = 4 then (-104, σ) else (nI Hn, holdS σ Hn kd d)) (-102, σ)
noncomputable def heirF (σ : St) (Hn : Nat) (x h : Int32) : Int32 × St := zif (hasP Hn x ∧ h ≠ x ∧ (h = -1 ∨ hasP Hn h)) (σ 4 (tn x), up2 σ 4 (tn x) h) (-101, σ)
noncomputable def beastF (σ : St) (Hn B : Nat) (x w : Int32) : Int32 × St := zif (hasP Hn x) (zif (inP 1 99 w) (zif (σ 3 (tn x) = 1) (if B = 6 then (-104, σ) else (nI B, beastS σ B x w)) (-103, σ)) (-102, σ)) (-101, σ)
noncomputable def giveCF (σ : St) (Hn B : Nat) (b t : Int32) : Int32 × St := zif (hasP B b ∧ hasP Hn t) (zif (giveP σ (tn b) (tn t)) (σ 6 (tn b), giftS σ (tn b) (tn t)) (-103, σ)) (-101, σ)
noncomputable def dieF (σ : St) (Hn B : Nat) (x : Int32) : Int32 × St := zif (hasP Hn x) (zif (σ 3 (tn x) = 1) (lossF σ B (tn x) (heldF σ B (nI (tn x))), buryS σ Hn B (tn x)) (-103, σ)) (-101, σ)
noncomputable def rollF (σ : St) (B : Nat) (b k : Int32) : Int32 × St := zif (hasP B b) (zif (k = -1 ∨ inP 0 1 k) (σ 9 (tn b), up2 σ 9 (tn b) k) (-102, σ)) (-101, σ)
/-! bounds -/
theorem worthR_b {σ : St} {set : Int32} {B : Nat} (h : ∀ b, b < B → ∃ w, 1 ≤ w ∧ w ≤ 99 ∧ σ 5 b = nI w) : ∀ b : Nat, b ≤ B → ∃ w, w ≤ 99 * b ∧ worthR σ set b = nI w
  | 0, _ => ⟨0, Nat.le_refl _, rfl⟩
  | b + 1, hb => by
    obtain ⟨w, h1, h2⟩ := worthR_b (σ := σ) (set := set) h b (by omega)
    obtain ⟨v, g1, g2, g3⟩ := h b (by omega)
    rw [worthR]
    split
    · exact ⟨w + v, by omega, by rw [h2, g3, nI_add]⟩
    · exact ⟨w, by omega, h2⟩
theorem loss_b {σ : St} {Hn B L C V M : Nat} (hI : Inv σ Hn B L C V M) (j : Nat) (set : Int32) : ∃ w, w ≤ 594 ∧ lossF σ B j set = nI w := by
  have jB : B ≤ 6 := hI.1.2.2.2.2.2.2.2.2.2.2.2
  obtain ⟨w, h1, h2⟩ := worthR_b (set := takenF σ B j set) hI.2.2.2.2.2.1 B (Nat.le_refl _)
  exact ⟨w, by omega, h2⟩
theorem still_b {σ : St} {j d : Nat} (hd : d ≤ 9) (e : σ 2 j = nI d) : ∀ k : Nat, ∃ s, s ≤ 10 ^ k ∧ stillR σ j k = nI s
  | 0 => ⟨1, Nat.le_refl _, rfl⟩
  | k + 1 => by
    obtain ⟨s, h1, h2⟩ := still_b (σ := σ) hd e k
    refine ⟨s * (10 - d), ?_, ?_⟩
    · rw [Nat.pow_succ]
      exact Nat.mul_le_mul h1 (by omega)
    · rw [stillR, h2, e]
      show nI s * (nI 10 - nI d) = _
      rw [pk_sub (by omega), pk_mul]
theorem lost_b {σ : St} {Hn B L C V M : Nat} (hI : Inv σ Hn B L C V M) {j : Nat} (hj : j < 4) (gift : Int32) : ∀ k : Nat, ∃ u, u ≤ k * 5346 * 10 ^ k ∧ lostR σ B j gift k = nI u
  | 0 => ⟨0, Nat.le_refl _, rfl⟩
  | k + 1 => by
    obtain ⟨u, h1, h2⟩ := lost_b hI hj gift k
    obtain ⟨d, hd, e⟩ := hI.2.2.1 j hj
    obtain ⟨s, s1, s2⟩ := still_b hd e k
    obtain ⟨w, w1, w2⟩ := loss_b hI j (heldL σ B (nI j) (nI k) gift)
    refine ⟨u * 10 + s * d * w, ?_, ?_⟩
    · have a1 : s * d * w ≤ 10 ^ k * 9 * 594 := Nat.mul_le_mul (Nat.mul_le_mul s1 hd) w1
      have a2 : 10 ^ (k + 1) = 10 * 10 ^ k := by rw [Nat.pow_succ, Nat.mul_comm]
      have a3 : (k + 1) * 5346 * 10 ^ (k + 1) = 10 * (k * 5346 * 10 ^ k) + 53460 * 10 ^ k := by
        rw [a2, Nat.add_mul, Nat.add_mul, Nat.one_mul]
        have b1 : k * 5346 * (10 * 10 ^ k) = 10 * (k * 5346 * 10 ^ k) := by rw [Nat.mul_left_comm]
        have b2 : 5346 * (10 * 10 ^ k) = 53460 * 10 ^ k := by rw [← Nat.mul_assoc]
        rw [b1, b2]
      have a4 : 10 ^ k * 9 * 594 = 5346 * 10 ^ k := by rw [Nat.mul_assoc, Nat.mul_comm]
      rw [a3]
      omega
    · rw [lostR, h2, s2, e, w2]
      show nI u * nI 10 + nI s * nI d * nI w = _
      rw [pk_mul, pk_mul, pk_mul, nI_add]
theorem lost_4 {σ : St} {Hn B L C V M : Nat} (hI : Inv σ Hn B L C V M) {j : Nat} (hj : j < 4) (gift : Int32) {y : Nat} (hy : y ≤ 4) : ∃ u, u < 2 ^ 30 ∧ lostR σ B j gift y = nI u := by
  obtain ⟨u, h1, h2⟩ := lost_b hI hj gift y
  refine ⟨u, ?_, h2⟩
  have h3 : y * 5346 * 10 ^ y ≤ 4 * 5346 * 10 ^ 4 := Nat.mul_le_mul (Nat.mul_le_mul hy (Nat.le_refl _)) (Nat.pow_le_pow_right (by decide) hy)
  omega
/-! the common divisor: both ways end in time -/
theorem gcd_fast : ∀ (n a b : Nat), b < 2 ^ n → b ≠ 0 → a % b ≠ 0 → b % (a % b) < 2 ^ n / 2 := by
  intro n a b h0 h1 h2
  have h3 : a % b < b := Nat.mod_lt _ (by omega)
  rcases Nat.lt_or_ge (b / 2) (a % b) with h | h
  · have h4 : b % (a % b) = b - a % b := by
      rw [Nat.mod_eq_sub_mod (by omega), Nat.mod_eq_of_lt (by omega)]
    omega
  · have h4 : b % (a % b) < a % b := Nat.mod_lt _ (by omega)
    omega
theorem gcd_step (a b : Nat) : Nat.gcd a b = Nat.gcd b (a % b) := by
  rw [Nat.gcd_comm a b, Nat.gcd_rec b a, Nat.gcd_comm]
def cdI (k a b : Nat) : Prop := k = 0 ∨ (b ≤ a ∧ a * b * 2 ^ k ≤ 2 ^ 41)
theorem cdI_s {k a b : Nat} (h : cdI k a b) (hb : b ≠ 0) (h0 : k = 0 → b < 2 ^ 20) : cdI (k + 1) b (a % b) := by
  have hr : a % b < b := Nat.mod_lt _ (by omega)
  refine Or.inr ⟨by omega, ?_⟩
  rcases h with h | ⟨h1, h2⟩
  · subst h
    have h3 := h0 rfl
    have h4 : b * (a % b) ≤ 2 ^ 20 * 2 ^ 20 := Nat.mul_le_mul (by omega) (by omega)
    omega
  · have e1 : a % b + b ≤ a := by
      have := Nat.mod_add_div a b
      have h5 : 1 ≤ a / b := (Nat.one_le_div_iff (by omega)).mpr h1
      have h6 : b * 1 ≤ b * (a / b) := Nat.mul_le_mul (Nat.le_refl _) h5
      omega
    have e2 : 2 * (a % b) ≤ a := by omega
    have e3 : b * (a % b) * 2 ^ (k + 1) = b * (2 * (a % b)) * 2 ^ k := by
      rw [Nat.pow_succ, Nat.mul_comm (2 ^ k) 2, ← Nat.mul_assoc, Nat.mul_assoc b, Nat.mul_comm (a % b) 2]
    rw [e3]
    refine Nat.le_trans (Nat.mul_le_mul ?_ (Nat.le_refl _)) h2
    rw [Nat.mul_comm a b]
    exact Nat.mul_le_mul (Nat.le_refl _) e2
theorem cdI_end {k a b : Nat} (h : cdI k a b) (hk : 1000 ≤ k) : b = 0 := by
  rcases h with h | ⟨h1, h2⟩
  · omega
  · rcases Nat.eq_zero_or_pos b with h3 | h3
    · exact h3
    · have h4 : 1 * 1 ≤ a * b := Nat.mul_le_mul (by omega) h3
      have h5 : 2 ^ 1000 ≤ 2 ^ k := Nat.pow_le_pow_right (by decide) hk
      have h6 : 1 * 2 ^ k ≤ a * b * 2 ^ k := Nat.mul_le_mul (by omega) (Nat.le_refl _)
      have h7 : (2 : Nat) ^ 41 < 2 ^ 1000 := Nat.pow_lt_pow_right (by decide) (by decide)
      omega
theorem gcd_pos {a b : Nat} (h : 0 < b) : 0 < Nat.gcd a b := Nat.gcd_pos_of_pos_right _ h
section ZN
variable {p : Program} {l : Launch} {e : Env} {R : Room} {s : State} {m : MethodId} {args : Array Value} {below : List Frame} {meth : Method} {c : Code} {H : Heap} {locs : List Loc} {cells slots : Nat} {Q : State → Prop}
variable {cc : ByteArray} {pc : Nat} {ls : Array Slot} {rest : List Value}
theorem z_if_eq (hexec : p.tables.exec = Jvm.exec) (hb : c.code = cc) {a : Nat} {off : Int} {tgt : Nat} (ha : a < 2 ^ 31) (hdg : decode cc pc = .ok (.ifCond .eq off, 3)) (ht : (pc : Int) + off = (tgt : Int))
    (kt : a = 0 → W p l e R s m args below meth c H locs cells slots Q (F0 m tgt ls rest)) (kf : a ≠ 0 → W p l e R s m args below meth c H locs cells slots Q (F0 m (pc + 3) ls rest)) : W p l e R s m args below meth c H locs cells slots Q (F0 m pc ls (.int (nI a) :: rest)) :=
  lv_if_eq hexec hb hdg ht (fun h => kt ((nI_eq ha (by decide)).mp (h.trans nI_0'))) (fun h => kf (fun q => h (by rw [q]; rfl)))
theorem z_if_ne (hexec : p.tables.exec = Jvm.exec) (hb : c.code = cc) {a : Nat} {off : Int} {tgt : Nat} (ha : a < 2 ^ 31) (hdg : decode cc pc = .ok (.ifCond .ne off, 3)) (ht : (pc : Int) + off = (tgt : Int))
    (kt : a ≠ 0 → W p l e R s m args below meth c H locs cells slots Q (F0 m tgt ls rest)) (kf : a = 0 → W p l e R s m args below meth c H locs cells slots Q (F0 m (pc + 3) ls rest)) : W p l e R s m args below meth c H locs cells slots Q (F0 m pc ls (.int (nI a) :: rest)) :=
  lv_if_ne hexec hb hdg ht (fun h => kt (fun q => h (by rw [q]; rfl))) (fun h => kf ((nI_eq ha (by decide)).mp (h.trans nI_0')))
end ZN
section ABOUT
variable {σ : St} {Hn B : Nat}
theorem aboutF_in {j w : Nat} (hj : j < Hn) (hH : Hn ≤ 4) (hw : w < 9) : aboutF σ Hn B (nI j) (nI w) = aboutN σ B j w := by
  unfold aboutF
  rw [zif_t (hasP_nI hj), zif_t (hasP_nI hw), tn_nI (by omega), tn_nI (by omega)]
theorem aboutF_u {x w : Int32} (h : ¬ hasP Hn x) : aboutF σ Hn B x w = -101 := by unfold aboutF; rw [zif_f h]
theorem aboutF_o {j : Nat} {w : Int32} (hj : j < Hn) (h : ¬ hasP 9 w) : aboutF σ Hn B (nI j) w = -102 := by unfold aboutF; rw [zif_t (hasP_nI hj), zif_f h]
theorem lordA_eq {j L K : Nat} (iL : σ 0 0 = nI L) (hK : σ 1 j = nI K) (hL : L < 2 ^ 31) (hK4 : K < 2 ^ 31) : lordA σ j = lordN L K := by unfold lordA; rw [iL, hK, tn_nI hL, tn_nI hK4]
theorem churchA_eq {j C K : Nat} (iC : σ 0 1 = nI C) (hK : σ 1 j = nI K) (hC : C < 2 ^ 31) (hK4 : K < 2 ^ 31) : churchA σ j = churchN C K := by unfold churchA; rw [iC, hK, tn_nI hC, tn_nI hK4]
theorem beastOfF_in {b w : Nat} (hb : b < B) (hB : B ≤ 6) (hw : w < 5) : beastOfF σ B (nI b) (nI w) = σ (w + 5) b := by
  unfold beastOfF
  rw [zif_t (hasP_nI hb), zif_t (hasP_nI hw), tn_nI (by omega), tn_nI (by omega)]
theorem beastOfF_u {x w : Int32} (h : ¬ hasP B x) : beastOfF σ B x w = -101 := by unfold beastOfF; rw [zif_f h]
theorem beastOfF_o {b : Nat} {w : Int32} (hb : b < B) (h : ¬ hasP 5 w) : beastOfF σ B (nI b) w = -102 := by unfold beastOfF; rw [zif_t (hasP_nI hb), zif_f h]
theorem countF_in {ξ : Nat → Int32} {w : Nat} (hw : w < 12) : countF σ Hn B ξ (nI w) = cntN σ Hn B ξ w := by
  unfold countF
  rw [zif_t (hasP_nI hw), tn_nI (by omega)]
theorem al_1 {j : Nat} (h : σ 3 j = 0 ∨ σ 3 j = 1) (c : ¬ σ 3 j = 0) : σ 3 j = 1 := h.resolve_left c
theorem al_0 {j : Nat} (c : σ 3 j = 0) : ¬ σ 3 j = 1 := by rw [c]; decide
theorem safeF_in {j w : Nat} (hj : j < Hn) (hH : Hn ≤ 4) (hw : w ≤ 1) (ha : σ 3 j = 1) : safeF σ Hn B (nI j) (nI w) = safeN σ B j w := by
  unfold safeF
  rw [zif_t (hasP_nI hj), zif_t (inP_nI (Nat.zero_le _) hw), tn_nI (by omega), tn_nI (by omega), zif_t ha]
theorem givingF_in {j y : Nat} (hj : j < Hn) (hH : Hn ≤ 4) (h1 : 1 ≤ y) (h4 : y ≤ 4) (ha : σ 3 j = 1) : givingF σ Hn B (nI j) (nI y) = giveF σ B j y := by
  unfold givingF
  rw [zif_t (hasP_nI hj), zif_t (inP_nI h1 h4), tn_nI (by omega), tn_nI (by omega), zif_t ha]
theorem meanF_in {j y p : Nat} (hj : j < Hn) (hH : Hn ≤ 4) (h1 : 1 ≤ y) (h4 : y ≤ 4) (hp : p ≤ 1) (ha : σ 3 j = 1) : meanF σ Hn B (nI j) (nI y) (nI p) = meanN σ B j y p := by
  unfold meanF
  rw [zif_t (hasP_nI hj), zif_t ⟨inP_nI h1 h4, inP_nI (Nat.zero_le _) hp⟩, tn_nI (by omega), tn_nI (by omega), tn_nI (by omega), zif_t ha]
end ABOUT
abbrev xo (xd ma ka ta : Nat → Nat) (ξ : Nat → Int32) (hi : Int32) : Nat × va_E := (xd 0, .inr (2, [.ref (ma 0), .ref (ka 0), .ref (ta 0), .ref (xd 2), .ref (xd 1), .int (ξ 0), .int (ξ 1), .int hi]))
