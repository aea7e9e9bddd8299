/-! ===== how the picture changes ===== -/
def layS (σ : St) (b : Nat) (x y z : Int32) : St := up2 (up2 (up2 σ 6 b x) 7 b y) 8 b z
def putS (σ : St) (b : Nat) (x : Int32) : St := layS σ b x (-1) (-1)
def holdS (σ : St) (n : Nat) (kd d : Int32) : St := up2 (up2 (up2 (up2 (up2 σ 1 n kd) 2 n d) 4 n (-1)) 3 n 1) 0 4 (nI (n + 1))
def beastS (σ : St) (n : Nat) (h w : Int32) : St := putS (up2 (up2 (up2 σ 0 5 (nI (n + 1))) 5 n w) 9 n (-1)) n h
noncomputable def giftS (σ : St) (b t : Nat) : St := @ite _ (giveP σ b t) (Classical.propDecidable _) (layS σ b (nI t) (σ 6 b) (σ 0 6)) σ
theorem giftS_y {σ : St} {b t : Nat} (h : giveP σ b t) : giftS σ b t = layS σ b (nI t) (σ 6 b) (σ 0 6) := by unfold giftS; rw [if_pos h]
theorem giftS_n {σ : St} {b t : Nat} (h : ¬ giveP σ b t) : giftS σ b t = σ := by unfold giftS; rw [if_neg h]
/-- whose what he leaves is then -/
noncomputable def nextF (σ : St) (Hn j : Nat) : Int32 := @ite _ (liveP σ Hn (σ 4 j)) (Classical.propDecidable _) (σ 4 j) (-1)
def buryR (σ : St) (taken h next : Int32) : Nat → St
  | 0 => σ
  | b + 1 => if zin taken b = 1 then putS (buryR σ taken h next b) b (-1) else if σ 6 b = h then putS (buryR σ taken h next b) b next else buryR σ taken h next b
noncomputable def buryS (σ : St) (Hn B j : Nat) : St :=
  up2 (up2 (buryR σ (takenF σ B j (heldF σ B (nI j))) (nI j) (nextF σ Hn j) B) 3 j 0) 0 7 (σ 0 7 + lossF σ B j (heldF σ B (nI j)))
theorem up2_at (σ : St) (i j : Nat) (x : Int32) (a b : Nat) : up2 σ i j x a b = if a = i ∧ b = j then x else σ a b := by
  unfold up2
  by_cases h : a = i
  · subst h
    rw [if_pos rfl]
    unfold upd
    by_cases h2 : b = j
    · rw [if_pos h2, if_pos ⟨rfl, h2⟩]
    · rw [if_neg h2, if_neg (fun z => h2 z.2)]
  · rw [if_neg h, if_neg (fun z => h z.1)]
theorem up2_comm (σ : St) {i j i2 j2 : Nat} (x y : Int32) (h : i ≠ i2) : up2 (up2 σ i j x) i2 j2 y = up2 (up2 σ i2 j2 y) i j x := by
  funext a b
  simp only [up2_at]
  by_cases h1 : a = i ∧ b = j <;> by_cases h2 : a = i2 ∧ b = j2
  · exact absurd (h1.1.symm.trans h2.1) h
  · rw [if_neg h2, if_pos h1, if_pos h1]
  · rw [if_pos h2, if_neg h1, if_pos h2]
  · rw [if_neg h2, if_neg h1, if_neg h1, if_neg h2]
section INV
variable {σ : St} {Hn B L C V M : Nat}
theorem Inv.lay (hI : Inv σ Hn B L C V M) {b : Nat} {x y z : Int32} (h1 : x = -1 → y = -1) (h2 : y = -1 ∨ y ≠ x) : Inv (layS σ b x y z) Hn B L C V M := by
  obtain ⟨iN, iK, iDe, iAl, iHe, iWo, iO1, iO2⟩ := hI
  refine ⟨iN, iK, iDe, iAl, iHe, iWo, fun b' hb' => ?_, fun b' hb' => ?_⟩
  · show (up2 (up2 (up2 σ 6 b x) 7 b y) 8 b z) 6 b' = -1 → (up2 (up2 (up2 σ 6 b x) 7 b y) 8 b z) 7 b' = -1
    show upd (σ 6) b x b' = -1 → upd (σ 7) b y b' = -1
    unfold upd
    by_cases e : b' = b
    · rw [if_pos e, if_pos e]; exact h1
    · rw [if_neg e, if_neg e]; exact iO1 b' hb'
  · show upd (σ 7) b y b' = -1 ∨ upd (σ 7) b y b' ≠ upd (σ 6) b x b'
    unfold upd
    by_cases e : b' = b
    · rw [if_pos e, if_pos e]; exact h2
    · rw [if_neg e, if_neg e]; exact iO2 b' hb'
theorem Inv.put (hI : Inv σ Hn B L C V M) (b : Nat) (x : Int32) : Inv (putS σ b x) Hn B L C V M := hI.lay (fun _ => rfl) (Or.inl rfl)
theorem Inv.gift (hI : Inv σ Hn B L C V M) (b t : Nat) (ht : t < 2 ^ 31) : Inv (giftS σ b t) Hn B L C V M := by
  by_cases h : giveP σ b t
  · rw [giftS_y h]
    exact hI.lay (fun q => absurd q (nI_m1 ht)) (Or.inr h.2.2)
  · rw [giftS_n h]; exact hI
theorem Inv.bury (hI : Inv σ Hn B L C V M) (tk h nx : Int32) : ∀ k : Nat, Inv (buryR σ tk h nx k) Hn B L C V M
  | 0 => hI
  | k + 1 => by
    rw [buryR]
    split
    · exact (Inv.bury hI tk h nx k).put _ _
    · split
      · exact (Inv.bury hI tk h nx k).put _ _
      · exact Inv.bury hI tk h nx k
theorem Inv.num7 (hI : Inv σ Hn B L C V M) (x : Int32) : Inv (up2 σ 0 7 x) Hn B L C V M := hI
theorem Inv.num6 (hI : Inv σ Hn B L C V M) (x : Int32) : Inv (up2 σ 0 6 x) Hn B L C V M := hI
theorem Inv.told (hI : Inv σ Hn B L C V M) (b : Nat) (x : Int32) : Inv (up2 σ 9 b x) Hn B L C V M := hI
theorem Inv.alive0 (hI : Inv σ Hn B L C V M) (j : Nat) : Inv (up2 σ 3 j 0) Hn B L C V M := by
  obtain ⟨iN, iK, iDe, iAl, iHe, iWo, iO1, iO2⟩ := hI
  refine ⟨iN, iK, iDe, fun i hi => ?_, iHe, iWo, iO1, iO2⟩
  show upd (σ 3) j 0 i = 0 ∨ upd (σ 3) j 0 i = 1
  unfold upd
  by_cases e : i = j
  · rw [if_pos e]; exact Or.inl rfl
  · rw [if_neg e]; exact iAl i hi
theorem Inv.buried (hI : Inv σ Hn B L C V M) (j : Nat) : Inv (buryS σ Hn B j) Hn B L C V M := ((hI.bury _ _ _ B).alive0 j).num7 _
theorem Inv.heir (hI : Inv σ Hn B L C V M) {j : Nat} {x : Int32} (hx : x = -1 ∨ ∃ i, i < Hn ∧ i ≠ j ∧ x = nI i) : Inv (up2 σ 4 j x) Hn B L C V M := by
  obtain ⟨iN, iK, iDe, iAl, iHe, iWo, iO1, iO2⟩ := hI
  refine ⟨iN, iK, iDe, iAl, fun i hi => ?_, iWo, iO1, iO2⟩
  show upd (σ 4) j x i = -1 ∨ ∃ a, a < Hn ∧ a ≠ i ∧ upd (σ 4) j x i = nI a
  unfold upd
  by_cases e : i = j
  · rw [if_pos e, e]; exact hx
  · rw [if_neg e]; exact iHe i hi
theorem Inv.hold (hI : Inv σ Hn B L C V M) (h4 : Hn < 4) {kd d : Nat} (hk : kd ≤ 4) (hd : d ≤ 9) : Inv (holdS σ Hn (nI kd) (nI d)) (Hn + 1) B L C V M := by
  obtain ⟨⟨iL, iC, iV, iM, iH, iB, jL, jC, jV, jM, jH, jB⟩, iK, iDe, iAl, iHe, iWo, iO1, iO2⟩ := hI
  refine ⟨⟨iL, iC, iV, iM, rfl, iB, jL, jC, jV, jM, by omega, jB⟩, fun i hi => ?_, fun i hi => ?_, fun i hi => ?_, fun i hi => ?_, iWo, iO1, iO2⟩
  · show ∃ k, k ≤ 4 ∧ upd (σ 1) Hn (nI kd) i = nI k
    unfold upd
    by_cases e : i = Hn
    · rw [if_pos e]; exact ⟨kd, hk, rfl⟩
    · rw [if_neg e]; exact iK i hi
  · show ∃ k, k ≤ 9 ∧ upd (σ 2) Hn (nI d) i = nI k
    unfold upd
    by_cases e : i = Hn
    · rw [if_pos e]; exact ⟨d, hd, rfl⟩
    · rw [if_neg e]; exact iDe i hi
  · show upd (σ 3) Hn 1 i = 0 ∨ upd (σ 3) Hn 1 i = 1
    unfold upd
    by_cases e : i = Hn
    · rw [if_pos e]; exact Or.inr rfl
    · rw [if_neg e]; exact iAl i hi
  · show upd (σ 4) Hn (-1) i = -1 ∨ ∃ a, a < Hn + 1 ∧ a ≠ i ∧ upd (σ 4) Hn (-1) i = nI a
    unfold upd
    by_cases e : i = Hn
    · rw [if_pos e]; exact Or.inl rfl
    · rw [if_neg e]
      rcases iHe i (by omega) with h | ⟨a, h1, h2, h3⟩
      · exact Or.inl h
      · exact Or.inr ⟨a, by omega, h2, h3⟩
theorem Inv.beast (hI : Inv σ Hn B L C V M) (h6 : B < 6) (h : Int32) {w : Nat} (hw : 1 ≤ w) (hw2 : w ≤ 99) : Inv (beastS σ B h (nI w)) Hn (B + 1) L C V M := by
  obtain ⟨⟨iL, iC, iV, iM, iH, iB, jL, jC, jV, jM, jH, jB⟩, iK, iDe, iAl, iHe, iWo, iO1, iO2⟩ := hI
  refine ⟨⟨iL, iC, iV, iM, iH, rfl, jL, jC, jV, jM, jH, by omega⟩, iK, iDe, iAl, iHe, fun i hi => ?_, fun i hi => ?_, fun i hi => ?_⟩
  · show ∃ a, 1 ≤ a ∧ a ≤ 99 ∧ upd (σ 5) B (nI w) i = nI a
    unfold upd
    by_cases e : i = B
    · rw [if_pos e]; exact ⟨w, hw, hw2, rfl⟩
    · rw [if_neg e]; exact iWo i (by omega)
  · show upd (σ 6) B h i = -1 → upd (σ 7) B (-1) i = -1
    unfold upd
    by_cases e : i = B
    · rw [if_pos e, if_pos e]; exact fun _ => rfl
    · rw [if_neg e, if_neg e]; exact iO1 i (by omega)
  · show upd (σ 7) B (-1) i = -1 ∨ upd (σ 7) B (-1) i ≠ upd (σ 6) B h i
    unfold upd
    by_cases e : i = B
    · rw [if_pos e, if_pos e]; exact Or.inl rfl
    · rw [if_neg e, if_neg e]; exact iO2 i (by omega)
theorem Inv.law (hI : Inv σ Hn B L C V M) {L2 C2 V2 M2 : Nat} (h1 : L2 ≤ 3) (h2 : C2 ≤ 3) (h3 : V2 ≤ 5) (h4 : M2 ≤ 9) : Inv (up2 (up2 (up2 (up2 σ 0 0 (nI L2)) 0 1 (nI C2)) 0 2 (nI V2)) 0 3 (nI M2)) Hn B L2 C2 V2 M2 := by
  obtain ⟨⟨iL, iC, iV, iM, iH, iB, jL, jC, jV, jM, jH, jB⟩, iR⟩ := hI
  exact ⟨⟨rfl, rfl, rfl, rfl, iH, iB, h1, h2, h3, h4, jH, jB⟩, iR⟩
end INV
theorem buryR_own {σ : St} {tk h nx : Int32} : ∀ (k b : Nat), k ≤ b → buryR σ tk h nx k 6 b = σ 6 b
  | 0, _, _ => rfl
  | k + 1, b, hb => by
    have ih := buryR_own (σ := σ) (tk := tk) (h := h) (nx := nx) k b (by omega)
    have e : ∀ x : Int32, putS (buryR σ tk h nx k) k x 6 b = σ 6 b := by
      intro x
      show upd (buryR σ tk h nx k 6) k x b = σ 6 b
      unfold upd
      rw [if_neg (by omega)]; exact ih
    rw [buryR]
    split
    · exact e _
    · split
      · exact e _
      · exact ih
theorem buryR_t {σ : St} {tk h nx : Int32} {k : Nat} (c : zin tk k = 1) : putS (buryR σ tk h nx k) k (-1) = buryR σ tk h nx (k + 1) := by rw [buryR, if_pos c]
theorem buryR_o {σ : St} {tk h nx : Int32} {k : Nat} (c : ¬ zin tk k = 1) (c2 : σ 6 k = h) : putS (buryR σ tk h nx k) k nx = buryR σ tk h nx (k + 1) := by rw [buryR, if_neg c, if_pos c2]
theorem buryR_n {σ : St} {tk h nx : Int32} {k : Nat} (c : ¬ zin tk k = 1) (c2 : ¬ σ 6 k = h) : buryR σ tk h nx k = buryR σ tk h nx (k + 1) := by rw [buryR, if_neg c, if_neg c2]
theorem buryR_num {σ : St} {tk h nx : Int32} (i : Nat) (hi : i ≤ 5 ∨ i = 9) : ∀ k : Nat, buryR σ tk h nx k i = σ i
  | 0 => rfl
  | k + 1 => by
    have ih := buryR_num (σ := σ) (tk := tk) (h := h) (nx := nx) i hi k
    have e : ∀ x : Int32, putS (buryR σ tk h nx k) k x i = σ i := by
      intro x
      unfold putS layS up2
      rw [if_neg (by omega), if_neg (by omega), if_neg (by omega)]
      exact ih
    rw [buryR]
    split
    · exact e _
    · split
      · exact e _
      · exact ih
theorem nextF_y {σ : St} {Hn j : Nat} (h : liveP σ Hn (σ 4 j)) : nextF σ Hn j = σ 4 j := by unfold nextF; rw [if_pos h]
theorem nextF_n {σ : St} {Hn j : Nat} (h : ¬ liveP σ Hn (σ 4 j)) : nextF σ Hn j = -1 := by unfold nextF; rw [if_neg h]
/-- the next number that is drawn, and what it draws -/
def seedF (x : Int32) : Int32 := ((1103515245 : Int64) * x.toInt64 + 12345 &&& 2147483647).toInt32
def drawF (x n : Int32) : Int32 := x / 65536 - x / 65536 / n * n
