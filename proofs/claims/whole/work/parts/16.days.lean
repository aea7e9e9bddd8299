/-! ===== draws, a year of a manor as it would be ===== -/
theorem seedF_pos (x : Int32) : ¬ seedF x < 0 := by
  have h : (seedF x).toBitVec = ((((1103515245 : Int64) * x.toInt64 + 12345).toBitVec &&& (2147483647 : Int64).toBitVec)).setWidth 32 := by
    unfold seedF
    rw [Int64.toBitVec_toInt32, Int64.toBitVec_and, BitVec.signExtend_eq_setWidth_of_le _ (by decide)]
  have h2 : (seedF x).toInt = ((seedF x).toBitVec).toInt := rfl
  intro hlt
  have h3 := Int32.lt_iff_toInt_lt.mp hlt
  rw [Int32.toInt_zero] at h3
  have h4 : (seedF x).toBitVec.toNat < 2 ^ 31 := by
    rw [h, BitVec.toNat_setWidth, BitVec.toNat_and]
    have h5 : (2147483647 : Int64).toBitVec.toNat = 2147483647 := by decide
    rw [h5]
    have h6 := @Nat.and_le_right (((1103515245 : Int64) * x.toInt64 + 12345).toBitVec.toNat) 2147483647
    have h7 : (((1103515245 : Int64) * x.toInt64 + 12345).toBitVec.toNat &&& 2147483647) % 2 ^ 32 ≤ (((1103515245 : Int64) * x.toInt64 + 12345).toBitVec.toNat &&& 2147483647) := Nat.mod_le _ _
    omega
  have h5 : (seedF x).toInt = ((seedF x).toBitVec.toNat : Int) := by
    rw [h2]
    exact BitVec.toInt_eq_toNat_of_lt (by omega)
  omega
theorem drawF_in {x : Int32} (h : ¬ x < 0) {n : Nat} (h1 : 1 ≤ n) (h2 : n < 2 ^ 31) : hasP n (drawF x (nI n)) := by
  obtain ⟨j, hj, rfl⟩ := nI_of h
  have e1 : nI j / 65536 = nI (j / 65536) := pk_div hj (by decide) (by decide)
  have hj2 : j / 65536 < 2 ^ 31 := by omega
  have e2 : drawF (nI j) (nI n) = nI (j / 65536 % n) := by
    unfold drawF
    rw [e1]
    exact pk_rem hj2 (by omega) h2
  exact ⟨j / 65536 % n, Nat.mod_lt _ (by omega), e2⟩
abbrev tdraw (x : Int32) (n : Nat) : Nat := tn (drawF x (nI n))
theorem tdraw_eq {x : Int32} (h : ¬ x < 0) {n : Nat} (h1 : 1 ≤ n) (h2 : n < 2 ^ 31) : drawF x (nI n) = nI (tdraw x n) ∧ tdraw x n < n := by
  obtain ⟨j, hj, e⟩ := drawF_in h h1 h2
  have e3 : tdraw x n = j := by
    show (drawF x (nI n)).toNatClampNeg = j
    rw [e]; exact nI_clamp (by omega)
  rw [e3]; exact ⟨e, hj⟩
noncomputable def dayR (σ : St) (Hn B : Nat) (sd : Int32) : Nat → St × Int32
  | 0 => (σ, sd)
  | k + 1 => if (dayR σ Hn B sd k).1 3 k = 1 then (if drawF (seedF (dayR σ Hn B sd k).2) (nI 10) < (dayR σ Hn B sd k).1 2 k then (buryS (dayR σ Hn B sd k).1 Hn B k, seedF (dayR σ Hn B sd k).2) else ((dayR σ Hn B sd k).1, seedF (dayR σ Hn B sd k).2)) else dayR σ Hn B sd k
noncomputable def gaveS (σ : St) (Hn B : Nat) (sd : Int32) : St × Int32 := if 0 < B then (giftS σ (tdraw (seedF sd) B) (tdraw (seedF (seedF sd)) Hn), seedF (seedF sd)) else (σ, sd)
noncomputable def yearS (σ : St) (Hn B : Nat) (sd : Int32) : St × Int32 := (up2 (gaveS (dayR σ Hn B sd Hn).1 Hn B (dayR σ Hn B sd Hn).2).1 0 6 (σ 0 6 + 1), (gaveS (dayR σ Hn B sd Hn).1 Hn B (dayR σ Hn B sd Hn).2).2)
section DAY
variable {σ τ : St} {Hn B k : Nat} {sd w : Int32}
theorem dayR_n (h : dayR σ Hn B sd k = (τ, w)) (c : ¬ τ 3 k = 1) : dayR σ Hn B sd (k + 1) = (τ, w) := by rw [dayR, h, if_neg c]
theorem dayR_s (h : dayR σ Hn B sd k = (τ, w)) (c : τ 3 k = 1) (d : ¬ drawF (seedF w) (nI 10) < τ 2 k) : dayR σ Hn B sd (k + 1) = (τ, seedF w) := by rw [dayR, h, if_pos c, if_neg d]
theorem dayR_d (h : dayR σ Hn B sd k = (τ, w)) (c : τ 3 k = 1) (d : drawF (seedF w) (nI 10) < τ 2 k) : dayR σ Hn B sd (k + 1) = (buryS τ Hn B k, seedF w) := by rw [dayR, h, if_pos c, if_pos d]
theorem buryS_6 (j : Nat) : buryS σ Hn B j 0 6 = σ 0 6 := by
  show (buryR σ _ _ _ B) 0 6 = σ 0 6
  rw [buryR_num 0 (Or.inl (by decide))]
theorem giftS_6 (b t : Nat) : giftS σ b t 0 6 = σ 0 6 := by
  unfold giftS
  split
  · rfl
  · rfl
theorem dayR_6 : ∀ k : Nat, (dayR σ Hn B sd k).1 0 6 = σ 0 6
  | 0 => rfl
  | k + 1 => by
    rw [dayR]
    split
    · split
      · show buryS _ Hn B k 0 6 = _
        rw [buryS_6]; exact dayR_6 k
      · exact dayR_6 k
    · exact dayR_6 k
theorem gaveS_6 : (gaveS σ Hn B sd).1 0 6 = σ 0 6 := by
  unfold gaveS
  split
  · exact giftS_6 _ _
  · rfl
end DAY
theorem Inv.day {σ : St} {Hn B L C V M : Nat} (hI : Inv σ Hn B L C V M) (sd : Int32) : ∀ k : Nat, Inv (dayR σ Hn B sd k).1 Hn B L C V M
  | 0 => hI
  | k + 1 => by
    rw [dayR]
    split
    · split
      · exact (Inv.day hI sd k).buried k
      · exact Inv.day hI sd k
    · exact Inv.day hI sd k
theorem Inv.gave {σ : St} {Hn B L C V M : Nat} (hI : Inv σ Hn B L C V M) (hH : 1 ≤ Hn) (sd : Int32) : Inv (gaveS σ Hn B sd).1 Hn B L C V M := by
  have hj : Hn ≤ 4 := hI.1.2.2.2.2.2.2.2.2.2.2.1
  unfold gaveS
  split
  · have h1 := (tdraw_eq (x := seedF (seedF sd)) (seedF_pos _) hH (by omega)).2
    exact hI.gift _ _ (by omega)
  · exact hI
theorem Inv.year {σ : St} {Hn B L C V M : Nat} (hI : Inv σ Hn B L C V M) (hH : 1 ≤ Hn) (sd : Int32) : Inv (yearS σ Hn B sd).1 Hn B L C V M := ((hI.day sd Hn).gave hH _).num6 _
def upR (σ : St) (i : Nat) (f : Nat → Int32) : St := fun a => if a = i then f else σ a
theorem nI_z {B : Nat} (h : nI B ≤ 0) (hB : B < 2 ^ 31) : B = 0 := by
  rcases Nat.eq_zero_or_pos B with h1 | h1
  · exact h1
  · exact absurd h (nI_nle h1 hB)
theorem nI_nz {B : Nat} (h : ¬ nI B ≤ 0) : 0 < B := by
  rcases Nat.eq_zero_or_pos B with h1 | h1
  · subst h1; exact absurd (by decide) h
  · exact h1
theorem yearS_n {σ τ : St} {Hn B : Nat} {sd w : Int32} (hd : dayR σ Hn B sd Hn = (τ, w)) (hB : B = 0) : (up2 τ 0 6 (τ 0 6 + nI 1), w) = yearS σ Hn B sd := by
  have h6 := dayR_6 (σ := σ) (Hn := Hn) (B := B) (sd := sd) Hn
  rw [hd] at h6
  have h6' : τ 0 6 = σ 0 6 := h6
  unfold yearS gaveS
  rw [hd, if_neg (show ¬ 0 < B by omega), h6']
  rfl
theorem yearS_y {σ τ : St} {Hn B : Nat} {sd w : Int32} (hd : dayR σ Hn B sd Hn = (τ, w)) (hB : 0 < B) : (up2 (giftS τ (tdraw (seedF w) B) (tdraw (seedF (seedF w)) Hn)) 0 6 ((giftS τ (tdraw (seedF w) B) (tdraw (seedF (seedF w)) Hn)) 0 6 + nI 1), seedF (seedF w)) = yearS σ Hn B sd := by
  have h6 := dayR_6 (σ := σ) (Hn := Hn) (B := B) (sd := sd) Hn
  rw [hd] at h6
  have h6' : τ 0 6 = σ 0 6 := h6
  unfold yearS gaveS
  rw [hd, if_pos hB, giftS_6, h6']
  rfl
