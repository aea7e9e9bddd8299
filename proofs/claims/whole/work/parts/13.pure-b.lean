/-! ===== plain facts: sets of beasts as bits ===== -/
theorem nI_or (a b : Nat) : nI a ||| nI b = nI (a ||| b) := by
  apply Int32.toBitVec_inj.mp
  show BitVec.ofNat 32 a ||| BitVec.ofNat 32 b = BitVec.ofNat 32 (a ||| b)
  exact (BitVec.ofNat_or (x := a) (y := b)).symm
theorem nI_and (a b : Nat) : nI a &&& nI b = nI (a &&& b) := by
  apply Int32.toBitVec_inj.mp
  show BitVec.ofNat 32 a &&& BitVec.ofNat 32 b = BitVec.ofNat 32 (a &&& b)
  exact (BitVec.ofNat_and (x := a) (y := b)).symm
theorem zbit_pow : ∀ b, b < 6 → zbit b = nI (2 ^ b) := by decide +kernel
theorem ownR_bits {σ : St} {h : Int32} : ∀ b : Nat, b ≤ 6 → ∃ w, w < 2 ^ b ∧ ownR σ h b = nI w
  | 0, _ => ⟨0, by decide, rfl⟩
  | b + 1, hb => by
    obtain ⟨w, hw, e⟩ := ownR_bits (σ := σ) (h := h) b (by omega)
    have hp : 2 ^ b < 2 ^ (b + 1) := Nat.pow_lt_pow_right (by decide) (Nat.lt_succ_self b)
    rw [ownR]
    split
    · refine ⟨w ||| 2 ^ b, Nat.or_lt_two_pow (Nat.lt_trans hw hp) hp, ?_⟩
      rw [e, zbit_pow b (by omega), nI_or]
    · exact ⟨w, Nat.lt_trans hw hp, e⟩
theorem pow_le64 {b : Nat} (h : b ≤ 6) : 2 ^ b ≤ 64 := by
  have := Nat.pow_le_pow_right (n := 2) (by decide) h
  omega
theorem own64 (σ : St) (h : Int32) {B : Nat} (hB : B ≤ 6) : ∃ w, w < 64 ∧ ownR σ h B = nI w := by
  obtain ⟨w, hw, e⟩ := ownR_bits (σ := σ) (h := h) B hB
  exact ⟨w, Nat.lt_of_lt_of_le hw (pow_le64 hB), e⟩
theorem sub_no : ∀ w, w < 64 → ∀ k, k < 64 → w < k → ¬ nI k &&& znot (nI w) = 0 := by decide +kernel
theorem ones_lt (k : Nat) : ones k < 7 := by unfold ones; omega
/-! the JDK's bit count -/
def ush (x : Int32) (n : Nat) : Int32 := (x.toUInt32 >>> ((nI n).toUInt32 &&& Int32.toUInt32 31)).toInt32
def bc1 (x : Int32) : Int32 := x - (ush x 1 &&& 1431655765)
def bc2 (x : Int32) : Int32 := (x &&& 858993459) + (ush x 2 &&& 858993459)
def bc3 (x : Int32) : Int32 := (x + ush x 4) &&& 252645135
def bc4 (x : Int32) : Int32 := x + ush x 8
def bc5 (x : Int32) : Int32 := x + ush x 16
def bcF (x : Int32) : Int32 := bc5 (bc4 (bc3 (bc2 (bc1 x)))) &&& nI 63
theorem bc_nI : ∀ k, k < 64 → bcF (nI k) = nI (ones k) := by decide +kernel
theorem bc_tn {x : Int32} (h : hasP 64 x) : bcF x = nI (ones (tn x)) := by
  obtain ⟨j, hj, rfl⟩ := h
  show _ = nI (ones (nI j).toNatClampNeg)
  rw [nI_clamp (by omega)]
  exact bc_nI j hj
/-! SAFE -/
section FEW
variable {σ : St} {B j k w : Nat} {own held : Int32}
theorem fewR_in : ∀ k : Nat, fewR σ B j own held k = -1 ∨ hasP k (fewR σ B j own held k)
  | 0 => Or.inl rfl
  | k + 1 => by
    rw [fewR]
    split
    · exact Or.inr ⟨k, Nat.lt_succ_self k, rfl⟩
    · rcases fewR_in k with h | ⟨i, h1, h2⟩
      · exact Or.inl h
      · exact Or.inr ⟨i, Nat.lt_succ_of_lt h1, h2⟩
theorem fewR_a (c : ¬ nI k &&& znot own = 0) : fewR σ B j own held k = fewR σ B j own held (k + 1) := by rw [fewR, if_neg (fun h => c h.1)]
theorem fewR_b (c : ¬ takenF σ B j (held &&& znot (nI k)) = 0) : fewR σ B j own held k = fewR σ B j own held (k + 1) := by rw [fewR, if_neg (fun h => c h.2.1)]
theorem fewR_c (c1 : nI k &&& znot own = 0) (c2 : takenF σ B j (held &&& znot (nI k)) = 0) (c3 : fewR σ B j own held k = -1 ∨ ones k < ones (tn (fewR σ B j own held k))) : nI k = fewR σ B j own held (k + 1) := by rw [fewR, if_pos ⟨c1, c2, c3⟩]
theorem fewR_d (c3 : ¬ fewR σ B j own held k = -1) (c4 : ones (tn (fewR σ B j own held k)) ≤ ones k) : fewR σ B j own held k = fewR σ B j own held (k + 1) := by
  rw [fewR, if_neg]
  rintro ⟨-, -, h | h⟩
  · exact c3 h
  · omega
theorem fewR_top (hw : w < 64) : ∀ m : Nat, w + 1 ≤ m → m ≤ 64 → fewR σ B j (nI w) held m = fewR σ B j (nI w) held (w + 1) := by
  intro m h
  induction h with
  | refl => intro _; rfl
  | @step m h ih =>
    intro h64
    have h1 : w + 1 ≤ m := h
    rw [← ih (by omega)]
    exact (fewR_a (sub_no w hw m (by omega) (by omega))).symm
end FEW
/-! GIVING -/
section GIVE
variable {σ : St} {B j y k t w : Nat} {own : Int32}
theorem giveR_1 (own : Int32) : giveR σ B j y own 1 = nI 0 := by
  rw [giveR, if_pos]
  · refine ⟨?_, Or.inl rfl⟩
    show (0 : Int32) &&& znot own = 0
    exact Int32.zero_and
theorem giveR_a (ht : giveR σ B j y own k = nI t) (c : ¬ nI k &&& znot own = 0) : giveR σ B j y own (k + 1) = nI t := by rw [giveR, if_neg (fun h => c h.1)]; exact ht
theorem giveR_s (ht : giveR σ B j y own k = nI t) (h64 : t < 64) (c : nI k &&& znot own = 0) (d : lostR σ B j (nI k) y < lostR σ B j (nI t) y ∨ (lostR σ B j (nI k) y = lostR σ B j (nI t) y ∧ ones k < ones t)) : giveR σ B j y own (k + 1) = nI k := by
  rw [giveR, if_pos]
  refine ⟨c, Or.inr ?_⟩
  rw [ht, show tn (nI t) = t from nI_clamp (by omega)]
  exact d
theorem giveR_k (ht : giveR σ B j y own k = nI t) (h64 : t < 64) (d : ¬ (lostR σ B j (nI k) y < lostR σ B j (nI t) y ∨ (lostR σ B j (nI k) y = lostR σ B j (nI t) y ∧ ones k < ones t))) : giveR σ B j y own (k + 1) = nI t := by
  rw [giveR, if_neg]
  · exact ht
  · rintro ⟨-, h | h⟩
    · rw [ht] at h; exact nI_m1 (by omega) h
    · rw [ht, show tn (nI t) = t from nI_clamp (by omega)] at h
      exact d h
theorem giveR_top (hw : w < 64) : ∀ m : Nat, w + 1 ≤ m → m ≤ 64 → giveR σ B j y (nI w) m = giveR σ B j y (nI w) (w + 1) := by
  intro m h
  induction h with
  | refl => intro _; rfl
  | @step m h ih =>
    intro h64
    have h1 : w + 1 ≤ m := h
    rw [← ih (by omega)]
    rw [giveR, if_neg (fun z => sub_no w hw m (by omega) (by omega) z.1)]
theorem giveR_in : ∀ k : Nat, 1 ≤ k → hasP k (giveR σ B j y own k)
  | 0, h => absurd h (by omega)
  | 1, _ => ⟨0, by decide, giveR_1 own⟩
  | k + 2, _ => by
    rw [giveR]
    split
    · exact ⟨k + 1, by omega, rfl⟩
    · obtain ⟨i, h1, h2⟩ := giveR_in (k + 1) (by omega)
      exact ⟨i, by omega, h2⟩
end GIVE
theorem toldR_s {σ : St} {taken : Int32} {k : Nat} (h : toldR σ taken k) (c : σ 9 k = -1 ∨ σ 9 k = zin taken k) : toldR σ taken (k + 1) := by
  intro i hi
  rcases Nat.lt_succ_iff_lt_or_eq.mp hi with h1 | rfl
  · exact h i h1
  · exact c
def giveP (σ : St) (b t : Nat) : Prop := σ 3 t = 1 ∧ ¬ σ 6 b = -1 ∧ ¬ σ 6 b = nI t
