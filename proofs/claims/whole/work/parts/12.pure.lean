/-! ===== plain facts of the picture ===== -/
theorem nI_m1 {n : Nat} (h : n < 2 ^ 31) : nI n ≠ -1 := by
  intro q
  have a := nI_toInt h
  rw [q] at a
  have b : (-1 : Int32).toInt = -1 := by decide
  omega
theorem nI_0' : (0 : Int32) = nI 0 := rfl
theorem sub_toInt {M : Nat} (h : M ≤ 9) : (nI M - 1).toInt = (M : Int) - 1 := pk_sub_toInt (a := M) (b := 1) (by omega) (by omega)
theorem live_yes {σ : St} {Hn j : Nat} (hj : j < Hn) (h : σ 3 j = 1) : liveP σ Hn (nI j) := ⟨j, hj, rfl, h⟩
theorem live_1 {σ : St} {Hn j : Nat} (hj : j < Hn) (hH : Hn ≤ 4) (h : liveP σ Hn (nI j)) : σ 3 j = 1 := by
  obtain ⟨i, hi, e, h1⟩ := h
  rw [(nI_eq (by omega) (by omega)).mp e]; exact h1
theorem live_no {σ : St} {Hn j : Nat} (hj : j < Hn) (hH : Hn ≤ 4) (c : σ 3 j = 0) : ¬ liveP σ Hn (nI j) := by
  intro h
  have := live_1 hj hH h
  rw [c] at this
  exact absurd this (by decide)
theorem live_0 {σ : St} {Hn j : Nat} (h01 : σ 3 j = 0 ∨ σ 3 j = 1) (hj : j < Hn) (hH : Hn ≤ 4) (c : ¬ liveP σ Hn (nI j)) : σ 3 j = 0 := by
  rcases h01 with h | h
  · exact h
  · exact absurd (live_yes hj h) c
theorem aliveR_n {σ : St} {k : Nat} (h : σ 3 k = 0) : aliveR σ k = aliveR σ (k + 1) := by rw [aliveR, h, Int32.add_zero]
theorem aliveR_y {σ : St} {k : Nat} (h : σ 3 k = 1) : aliveR σ k + 1 = aliveR σ (k + 1) := by rw [aliveR, h]
theorem thereR_n {σ : St} {k : Nat} (h : σ 6 k = -1) : thereR σ k = thereR σ (k + 1) := by rw [thereR, if_pos h]
theorem thereR_y {σ : St} {k : Nat} (h : ¬ σ 6 k = -1) : thereR σ k + 1 = thereR σ (k + 1) := by rw [thereR, if_neg h]
theorem mx1' : ∀ L, L < 4 → (if nI 0 < nI L - nI 1 then nI L - nI 1 else nI 0) = nI (L - 1) := by decide +kernel
theorem mx1 (L : Nat) (h : L < 4) : (if nI 0 < nI L - nI 1 then nI L - nI 1 else nI 0) = nI (L - 1) := mx1' L h
theorem mx2' : ∀ L, L < 4 → (if nI 0 < nI L - nI 2 then nI L - nI 2 else nI 0) = nI (L - 2) := by decide +kernel
theorem mx2 (L : Nat) (h : L < 4) : (if nI 0 < nI L - nI 2 then nI L - nI 2 else nI 0) = nI (L - 2) := mx2' L h
theorem ownR_n {σ : St} {h : Int32} {k : Nat} (c : ¬ σ 6 k = h) : ownR σ h k = ownR σ h (k + 1) := by rw [ownR, if_neg c]
theorem ownR_y {σ : St} {h : Int32} {k : Nat} (c : σ 6 k = h) : ownR σ h k ||| zbit k = ownR σ h (k + 1) := by rw [ownR, if_pos c]
theorem heldR_n {σ : St} {h yr st : Int32} {k : Nat} (c : ¬ (σ 7 k = h ∧ yr - σ 8 k < σ 0 2)) : heldR σ h yr st k = heldR σ h yr st (k + 1) := by rw [heldR, if_neg c]
theorem heldR_y {σ : St} {h yr st : Int32} {k : Nat} (c : σ 7 k = h) (c2 : yr - σ 8 k < σ 0 2) : heldR σ h yr st k ||| zbit k = heldR σ h yr st (k + 1) := by rw [heldR, if_pos ⟨c, c2⟩]
theorem znot_0 : znot 0 = -1 := by decide
theorem and_m1 (x : Int32) : x &&& (-1) = x := by
  apply Int32.toBitVec_inj.mp
  show x.toBitVec &&& BitVec.allOnes 32 = x.toBitVec
  exact BitVec.and_allOnes
theorem heldL_0 (σ : St) (B : Nat) (h : Int32) : heldL σ B h (nI 0) (nI 0) = heldF σ B h := by
  unfold heldL heldF
  have e1 : σ 0 6 + nI 0 = σ 0 6 := Int32.add_zero _
  have e2 : (if σ 0 2 ≤ nI 0 then ownR σ h B &&& znot (nI 0) else ownR σ h B) = ownR σ h B := by
    have e3 : ownR σ h B &&& znot (nI 0) = ownR σ h B := by
      show ownR σ h B &&& znot 0 = _
      rw [znot_0, and_m1]
    rw [e3]
    exact ite_self _
  rw [e1, e2]
noncomputable def bwF (σ : St) (set : Int32) (k : Nat) : Int32 := if bestR σ set k = -1 then σ 0 3 - 1 else σ 5 (tn (bestR σ set k))
theorem bwF_0 {σ : St} {set : Int32} : bwF σ set 0 = σ 0 3 - 1 := by unfold bwF; rw [if_pos (show bestR σ set 0 = -1 from rfl)]
theorem bestR_in {σ : St} {set : Int32} : ∀ k : Nat, bestR σ set k = -1 ∨ ∃ j, j < k ∧ bestR σ set k = nI j ∧ zin set j = 1 ∧ σ 0 3 ≤ σ 5 j
  | 0 => Or.inl rfl
  | k + 1 => by
    rw [bestR]
    split
    · rename_i h
      exact Or.inr ⟨k, Nat.lt_succ_self k, rfl, h.1, h.2.1⟩
    · rcases bestR_in (σ := σ) (set := set) k with h | ⟨j, h1, h2⟩
      · exact Or.inl h
      · exact Or.inr ⟨j, Nat.lt_succ_of_lt h1, h2⟩
theorem bestR_has {σ : St} {set : Int32} {k : Nat} (c : ¬ bestR σ set k = -1) : hasP k (bestR σ set k) := by
  rcases bestR_in (σ := σ) (set := set) k with h | ⟨j, h1, h2, _⟩
  · exact absurd h c
  · exact ⟨j, h1, h2⟩
theorem bestR_n {σ : St} {set : Int32} {k : Nat} (c : ¬ zin set k = 1) : bestR σ set k = bestR σ set (k + 1) := by rw [bestR, if_neg (fun h => c h.1)]
theorem bwF_n {σ : St} {set : Int32} {k : Nat} (c : ¬ zin set k = 1) : bwF σ set k = bwF σ set (k + 1) := by unfold bwF; rw [← bestR_n c]
theorem bestR_l {σ : St} {set : Int32} {k M : Nat} (iM : σ 0 3 = nI M) (jM : M ≤ 9) (c : σ 5 k ≤ bwF σ set k) : bestR σ set k = bestR σ set (k + 1) := by
  rw [bestR, if_neg]
  rintro ⟨-, h2, h3⟩
  unfold bwF at c
  split at c
  · rw [iM] at c h2
    have a := Int32.le_iff_toInt_le.mp c
    have b := Int32.le_iff_toInt_le.mp h2
    rw [sub_toInt jM] at a
    rw [nI_toInt (by omega)] at b
    omega
  · rename_i hn
    rcases h3 with h3 | h3
    · exact hn h3
    · have a := Int32.le_iff_toInt_le.mp c
      have b := Int32.lt_iff_toInt_lt.mp h3
      omega
theorem bwF_l {σ : St} {set : Int32} {k M : Nat} (iM : σ 0 3 = nI M) (jM : M ≤ 9) (c : σ 5 k ≤ bwF σ set k) : bwF σ set k = bwF σ set (k + 1) := by
  have e := bestR_l iM jM c
  unfold bwF; rw [← e]
theorem bestR_y {σ : St} {set : Int32} {k M : Nat} (hk : k < 2 ^ 31) (iM : σ 0 3 = nI M) (jM : M ≤ 9) (c : zin set k = 1) (c2 : ¬ σ 5 k ≤ bwF σ set k) : nI k = bestR σ set (k + 1) := by
  rw [bestR, if_pos]
  unfold bwF at c2
  split at c2
  · rename_i h
    refine ⟨c, ?_, Or.inl h⟩
    rw [iM] at c2 ⊢
    rw [Int32.le_iff_toInt_le, sub_toInt jM] at c2
    rw [Int32.le_iff_toInt_le, nI_toInt (by omega)]
    omega
  · rename_i h
    rcases bestR_in (σ := σ) (set := set) k with h1 | ⟨j, h1, h2, h3, h4⟩
    · exact absurd h1 h
    · refine ⟨c, ?_, Or.inr (Int32.not_le.mp c2)⟩
      have e : tn (bestR σ set k) = j := by rw [h2]; exact nI_clamp (by omega)
      rw [e] at c2
      have a := Int32.le_iff_toInt_le.mp h4
      have b := Int32.lt_iff_toInt_lt.mp (Int32.not_le.mp c2)
      rw [Int32.le_iff_toInt_le]
      omega
theorem bwF_y {σ : St} {set : Int32} {k M : Nat} (hk : k < 2 ^ 31) (iM : σ 0 3 = nI M) (jM : M ≤ 9) (c : zin set k = 1) (c2 : ¬ σ 5 k ≤ bwF σ set k) : σ 5 k = bwF σ set (k + 1) := by
  have e := bestR_y hk iM jM c c2
  unfold bwF
  rw [← e, if_neg (nI_m1 hk)]
  show _ = σ 5 (nI k).toNatClampNeg
  rw [nI_clamp hk]
theorem shl_bit {j : Nat} : nI 1 <<< (nI j &&& 31) = zbit j := rfl
theorem zbit_tn {x : Int32} {N : Nat} (h : hasP N x) (hN : N ≤ 2 ^ 31) : nI 1 <<< (x &&& 31) = zbit (tn x) := by
  obtain ⟨j, hj, rfl⟩ := h
  show _ = zbit (nI j).toNatClampNeg
  rw [nI_clamp (by omega)]
  rfl
theorem manyF_eq {σ : St} {j L C K : Nat} (iL : σ 0 0 = nI L) (iC : σ 0 1 = nI C) (hK : σ 1 j = nI K) (hL : L < 2 ^ 31) (hC : C < 2 ^ 31) (hK4 : K < 2 ^ 31) : manyF σ j = lordN L K + churchN C K := by
  unfold manyF
  rw [iL, iC, hK]
  show lordN (nI L).toNatClampNeg (nI K).toNatClampNeg + churchN (nI C).toNatClampNeg (nI K).toNatClampNeg = _
  rw [nI_clamp hL, nI_clamp hC, nI_clamp hK4]
theorem many7 {L C K : Nat} (hL : L ≤ 3) (hC : C ≤ 3) : lordN L K + churchN C K ≤ 7 := by
  unfold lordN churchN
  split <;> split <;> (try split) <;> (try split) <;> omega
theorem takR_y {σ : St} {B : Nat} {set : Int32} {k : Nat} (c : ¬ bestR σ (set &&& znot (takR σ B set k)) B = -1) : takR σ B set k ||| zbit (tn (bestR σ (set &&& znot (takR σ B set k)) B)) = takR σ B set (k + 1) := by rw [takR, if_neg c]
theorem takR_stop {σ : St} {B : Nat} {set : Int32} {k m : Nat} (c : bestR σ (set &&& znot (takR σ B set k)) B = -1) (h : k ≤ m) : takR σ B set m = takR σ B set k := by
  induction h with
  | refl => rfl
  | step h ih =>
    rw [takR, ih, if_pos c]
theorem worthR_n {σ : St} {set : Int32} {k : Nat} (c : ¬ zin set k = 1) : worthR σ set k = worthR σ set (k + 1) := by rw [worthR, if_neg c]
theorem worthR_y {σ : St} {set : Int32} {k : Nat} (c : zin set k = 1) : worthR σ set k + σ 5 k = worthR σ set (k + 1) := by rw [worthR, if_pos c]
