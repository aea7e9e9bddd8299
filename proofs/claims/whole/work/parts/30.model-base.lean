/-! ===== the reference's rows: holders four numbers each, beasts five ===== -/
def menOf (σ : St) (j : Nat) : Int32 := match j % 4 with
  | 0 => σ 1 (j / 4)
  | 1 => σ 2 (j / 4)
  | 2 => σ 3 (j / 4)
  | _ => σ 4 (j / 4)
def rowsOf (σ : St) (j : Nat) : Int32 := match j % 5 with
  | 0 => σ 5 (j / 5)
  | 1 => σ 6 (j / 5)
  | 2 => σ 7 (j / 5)
  | 3 => σ 8 (j / 5)
  | _ => σ 9 (j / 5)
theorem menOf_eq (σ : St) (j : Nat) : menOf σ j = σ (j % 4 + 1) (j / 4) := by
  have h : j % 4 < 4 := Nat.mod_lt _ (by decide)
  unfold menOf
  generalize j % 4 = m at h
  match m, h with
  | 0, _ => rfl
  | 1, _ => rfl
  | 2, _ => rfl
  | 3, _ => rfl
theorem rowsOf_eq (σ : St) (j : Nat) : rowsOf σ j = σ (j % 5 + 5) (j / 5) := by
  have h : j % 5 < 5 := Nat.mod_lt _ (by decide)
  unfold rowsOf
  generalize j % 5 = m at h
  match m, h with
  | 0, _ => rfl
  | 1, _ => rfl
  | 2, _ => rfl
  | 3, _ => rfl
  | 4, _ => rfl
theorem menR (σ : St) (j w : Nat) (hw : w < 4) : menOf σ (4 * j + w) = σ (w + 1) j := by
  rw [menOf_eq, show (4 * j + w) % 4 = w by omega, show (4 * j + w) / 4 = j by omega]
theorem rowsR (σ : St) (b w : Nat) (hw : w < 5) : rowsOf σ (5 * b + w) = σ (w + 5) b := by
  rw [rowsOf_eq, show (5 * b + w) % 5 = w by omega, show (5 * b + w) / 5 = b by omega]
theorem menW (σ : St) (j w : Nat) (hw : w < 4) (x : Int32) : upd (menOf σ) (4 * j + w) x = menOf (up2 σ (w + 1) j x) := by
  funext i
  unfold upd
  rw [menOf_eq, menOf_eq, up2_at]
  by_cases h : i = 4 * j + w
  · rw [if_pos h, if_pos (by omega)]
  · rw [if_neg h, if_neg (by omega)]
theorem rowsW (σ : St) (b w : Nat) (hw : w < 5) (x : Int32) : upd (rowsOf σ) (5 * b + w) x = rowsOf (up2 σ (w + 5) b x) := by
  funext i
  unfold upd
  rw [rowsOf_eq, rowsOf_eq, up2_at]
  by_cases h : i = 5 * b + w
  · rw [if_pos h, if_pos (by omega)]
  · rw [if_neg h, if_neg (by omega)]
abbrev bo (bd : Nat → Nat) (σ : St) (ξ : Nat → Int32) (tk sd : Int32) (kv : Nat → Int32) (hh : Int64) : Nat × va_E := (bd 0, .inr (3, [.ref (bd 1), .int (ξ 0), .int (σ 0 0), .int (σ 0 1), .int (σ 0 2), .int (σ 0 3), .int (ξ 1), .int (σ 0 6), .int tk, .int (σ 0 4), .int (σ 0 5), .ref (bd 2), .ref (bd 3), .int sd, .ref (bd 4), .ref (bd 5), .int (kv 0), .int (kv 1), .int (kv 2), .int (kv 3), .ref (bd 6), .ref (bd 7), .ref (bd 8), .long hh]))
/-! comparing longs -/
theorem cmp_lt {x y : Int64} : lg_cmp x y < 0 ↔ x < y := by
  unfold lg_cmp
  by_cases h1 : y < x
  · rw [if_pos h1]
    constructor
    · intro h; exact absurd h (by decide)
    · intro h
      have a := Int64.lt_iff_toInt_lt.mp h1
      have b := Int64.lt_iff_toInt_lt.mp h
      omega
  · rw [if_neg h1]
    by_cases h2 : x = y
    · subst h2
      rw [if_pos rfl]
      constructor
      · intro h; exact absurd h (by decide)
      · intro h; exact absurd h h1
    · rw [if_neg h2]
      constructor
      · intro _
        rw [Int64.lt_iff_toInt_lt] at h1 ⊢
        have h3 : x.toInt ≠ y.toInt := fun q => h2 (Int64.toInt_inj.mp q)
        omega
      · intro _; decide
theorem cmp_gt {x y : Int64} : 0 < lg_cmp x y ↔ y < x := by
  unfold lg_cmp
  by_cases h1 : y < x
  · rw [if_pos h1]
    exact ⟨fun _ => h1, fun _ => by decide⟩
  · rw [if_neg h1]
    by_cases h2 : x = y
    · subst h2
      rw [if_pos rfl]
      constructor
      · intro h; exact absurd h (by decide)
      · intro h; exact absurd h h1
    · rw [if_neg h2]
      constructor
      · intro h; exact absurd h (by decide)
      · intro h; exact absurd h h1
theorem t64 (x : Int32) : x.toInt64.toInt = x.toInt := Int32.toInt_toInt64 x
theorem in64 {a b : Nat} {x : Int32} (ha : a < 2 ^ 31) (hb : b < 2 ^ 31) : (lN a ≤ x.toInt64 ∧ x.toInt64 ≤ lN b) ↔ inP a b x := by
  rw [← inP_iff ha hb, Int64.le_iff_toInt_le, Int64.le_iff_toInt_le, lN_toInt ha, lN_toInt hb, t64, Int32.le_iff_toInt_le, Int32.le_iff_toInt_le, nI_toInt ha, nI_toInt hb]
theorem has64 {N : Nat} {x : Int32} (hN : N < 2 ^ 30) : ((0 : Int64) ≤ x.toInt64 ∧ x.toInt64 ≤ (nI N - nI 1).toInt64) ↔ hasP N x := by
  have z0 : (0 : Int64).toInt = 0 := by decide
  have e1 := pk_sub_toInt (a := N) (b := 1) hN (by decide)
  rw [hasP_iff (by omega), Int64.le_iff_toInt_le, Int64.le_iff_toInt_le, t64, t64, e1, Int32.lt_iff_toInt_lt, Int32.le_iff_toInt_le, nI_toInt (by omega), Int32.toInt_zero, z0]
  omega
theorem roll64 {k : Int32} : ((-1 : Int64) ≤ k.toInt64 ∧ k.toInt64 ≤ 1) ↔ (k = -1 ∨ inP 0 1 k) := by
  have z0 : (-1 : Int64).toInt = -1 := by decide
  have z1 : (1 : Int64).toInt = 1 := by decide
  have m1 : (-1 : Int32).toInt = -1 := by decide
  rw [← rollP_iff, Int64.le_iff_toInt_le, Int64.le_iff_toInt_le, t64, z0, z1, Int32.le_iff_toInt_le, Int32.le_iff_toInt_le, m1, nI_toInt (by decide)]
  rfl
theorem has_in {N : Nat} {x : Int32} (hN : 0 < N) : inP 0 (N - 1) x ↔ hasP N x := by
  constructor
  · rintro ⟨j, -, h, e⟩; exact ⟨j, by omega, e⟩
  · rintro ⟨j, h, e⟩; exact ⟨j, Nat.zero_le _, by omega, e⟩
/-! small numbers -/
theorem sub_ge1 : ∀ L, L < 4 → 0 ≤ nI L - nI 1 → nI L - nI 1 = nI (L - 1) := by decide +kernel
theorem sub_lt1 : ∀ L, L < 4 → ¬ 0 ≤ nI L - nI 1 → nI 0 = nI (L - 1) := by decide +kernel
theorem sub_ge2 : ∀ L, L < 4 → 0 ≤ nI L - nI 2 → nI L - nI 2 = nI (L - 2) := by decide +kernel
theorem sub_lt2 : ∀ L, L < 4 → ¬ 0 ≤ nI L - nI 2 → nI 0 = nI (L - 2) := by decide +kernel
theorem or_0 (x : Int32) : x ||| nI 0 = x := by
  apply Int32.toBitVec_inj.mp
  show x.toBitVec ||| 0#32 = x.toBitVec
  exact BitVec.or_zero
theorem and_self' (x : Int32) : x &&& x = x := by
  apply Int32.toBitVec_inj.mp
  show x.toBitVec &&& x.toBitVec = x.toBitVec
  exact BitVec.and_self
theorem and_znot0 (x : Int32) : x = x &&& znot 0 := by rw [znot_0, and_m1]
theorem and_znot_or (x a b : Int32) : x &&& znot a &&& znot b = x &&& znot (a ||| b) := by
  apply Int32.toBitVec_inj.mp
  show (x.toBitVec &&& (a.toBitVec ^^^ BitVec.allOnes 32)) &&& (b.toBitVec ^^^ BitVec.allOnes 32) = x.toBitVec &&& ((a.toBitVec ||| b.toBitVec) ^^^ BitVec.allOnes 32)
  simp only [BitVec.xor_allOnes, BitVec.not_or, BitVec.and_assoc]
theorem zin_nI : ∀ k, k < 64 → ∀ i, i < 6 → zin (nI k) i = nI (k / 2 ^ i % 2) := by decide +kernel
theorem zin_or : ∀ k, k < 64 → ∀ b, b < 6 → zin (nI k ||| zbit b) b = 1 := by decide +kernel
def onesR (k : Nat) : Nat → Nat
  | 0 => 0
  | i + 1 => onesR k i + k / 2 ^ i % 2
theorem onesR_6 (k : Nat) : onesR k 6 = ones k := by unfold ones; simp [onesR]
/-! what is lost is nought only where nothing is taken -/
theorem tak64 {σ : St} {B : Nat} {set : Int32} (hB : B ≤ 6) : ∀ k : Nat, ∃ w, w < 64 ∧ takR σ B set k = nI w
  | 0 => ⟨0, by decide, rfl⟩
  | k + 1 => by
    obtain ⟨w, hw, e⟩ := tak64 (σ := σ) (set := set) hB k
    rw [takR]
    split
    · exact ⟨w, hw, e⟩
    · rename_i c
      obtain ⟨j, hj, e2⟩ := bestR_has c
      rw [e2, tn_nI (by omega), e, zbit_pow j (by omega), nI_or]
      have h3 : 2 ^ j < 64 := Nat.lt_of_lt_of_le (Nat.pow_lt_pow_right (by decide) (show j < 6 by omega)) (by decide)
      exact ⟨w ||| 2 ^ j, Nat.or_lt_two_pow (n := 6) hw h3, rfl⟩
theorem tak_bit {σ : St} {B : Nat} {set : Int32} (hB : B ≤ 6) : ∀ k : Nat, takR σ B set k = 0 ∨ ∃ b, b < B ∧ zin (takR σ B set k) b = 1
  | 0 => Or.inl rfl
  | k + 1 => by
    rw [takR]
    split
    · exact tak_bit hB k
    · rename_i c
      obtain ⟨j, hj, e2⟩ := bestR_has c
      obtain ⟨w, hw, e⟩ := tak64 (σ := σ) (set := set) hB k
      refine Or.inr ⟨j, hj, ?_⟩
      rw [e2, tn_nI (by omega), e]
      exact zin_or w hw j (by omega)
theorem worthR_pos {σ : St} {set : Int32} {B b0 : Nat} (h : ∀ b, b < B → ∃ w, 1 ≤ w ∧ w ≤ 99 ∧ σ 5 b = nI w) (h0 : zin set b0 = 1) : ∀ b : Nat, b ≤ B → b0 < b → ∃ w, 1 ≤ w ∧ w ≤ 99 * b ∧ worthR σ set b = nI w
  | 0, _, h1 => absurd h1 (by omega)
  | b + 1, hb, h1 => by
    obtain ⟨v, g1, g2, g3⟩ := h b (by omega)
    rcases Nat.lt_succ_iff_lt_or_eq.mp h1 with h2 | rfl
    · obtain ⟨w, a1, a2, a3⟩ := worthR_pos h h0 b (by omega) h2
      rw [worthR]
      split
      · exact ⟨w + v, by omega, by omega, by rw [a3, g3, nI_add]⟩
      · exact ⟨w, a1, by omega, a3⟩
    · obtain ⟨w, a2, a3⟩ := worthR_b (set := set) h b0 (by omega)
      rw [worthR, if_pos h0]
      exact ⟨w + v, by omega, by omega, by rw [a3, g3, nI_add]⟩
theorem zin_0 (b : Nat) : zin 0 b = 0 := by
  unfold zin
  have e : (0 : Int32) >>> (nI b &&& 31) = 0 := by
    apply Int32.toBitVec_inj.mp
    show (0#32).sshiftRight' _ = 0#32
    simp [BitVec.sshiftRight']
  rw [e]
  rfl
theorem worthR_0 {σ : St} : ∀ b : Nat, worthR σ 0 b = 0
  | 0 => rfl
  | b + 1 => by rw [worthR, if_neg (by rw [zin_0]; decide), worthR_0 b]
theorem loss_0 {σ : St} {Hn B L C V M : Nat} (hI : Inv σ Hn B L C V M) (j : Nat) (set : Int32) : lossF σ B j set = 0 ↔ takenF σ B j set = 0 := by
  have jB : B ≤ 6 := hI.1.2.2.2.2.2.2.2.2.2.2.2
  unfold lossF
  constructor
  · intro h
    rcases tak_bit (σ := σ) (set := set) jB (manyF σ j) with h1 | ⟨b, h1, h2⟩
    · exact h1
    · obtain ⟨w, a1, a2, a3⟩ := worthR_pos hI.2.2.2.2.2.1 h2 B (Nat.le_refl _) h1
      have h' : nI w = 0 := by rw [← a3]; exact h
      exact absurd h' (nI_ne0 (by omega) (by omega))
  · intro h
    rw [h]; exact worthR_0 B
/-! what is HELD, but for what is given away -/
theorem zbit_and : ∀ k, k < 64 → ∀ b, b < 6 → ∀ s, s < 64 → s / 2 ^ b % 2 = 0 → (nI k ||| zbit b) &&& znot (nI s) = nI k &&& znot (nI s) ||| zbit b := by decide +kernel
