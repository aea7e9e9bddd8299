/-! ===== the pure picture: a manor's state by rows of numbers: row 0 the single numbers (lord, church, void, least, holders, beasts, year, taken), rows 1..4 of holders (kind, death, alive, heir), rows 5..9 of beasts (worth, owner, giver, given in, told) ===== -/
abbrev St : Type := Nat → Nat → Int32
def up2 (σ : St) (i j : Nat) (x : Int32) : St := fun a => if a = i then upd (σ i) j x else σ a
def zbit (b : Nat) : Int32 := (1 : Int32) <<< (nI b &&& 31)
def zin (x : Int32) (b : Nat) : Int32 := (x >>> (nI b &&& 31)) &&& 1
def znot (x : Int32) : Int32 := x ^^^ (-1)
abbrev tn (x : Int32) : Nat := x.toNatClampNeg
def hasP (N : Nat) (x : Int32) : Prop := ∃ j, j < N ∧ x = nI j
theorem hasP_nI {N j : Nat} (h : j < N) : hasP N (nI j) := ⟨j, h, rfl⟩
theorem hasP_of {N j : Nat} (h : hasP N (nI j)) (hj : j < 2 ^ 31) (hN : N < 2 ^ 31) : j < N := by
  obtain ⟨i, hi, e⟩ := h
  rw [(nI_eq hj (by omega)).mp e]; exact hi
theorem hasP_iff {N : Nat} {x : Int32} (hN : N < 2 ^ 31) : hasP N x ↔ (¬ x < 0 ∧ ¬ nI N ≤ x) := by
  constructor
  · rintro ⟨j, hj, rfl⟩
    exact ⟨nI_pos (by omega), nI_ge hj hN⟩
  · rintro ⟨h1, h2⟩
    rcases pk_ix x hN with h | h | h
    · exact absurd h h1
    · exact absurd h h2
    · exact h
theorem hasP_out {x : Int32} {hi : Int} (M : Nat) (h : ¬ hasP M x) (hM : M < 2 ^ 31 := by decide) (hh : hi = (M : Int) - 1 := by decide) : x.toInt < 0 ∨ hi < x.toInt := by
  subst hh
  rcases pk_ix x hM with h1 | h1 | h1
  · left
    have := Int32.lt_iff_toInt_lt.mp h1
    rwa [Int32.toInt_zero] at this
  · right
    have := Int32.le_iff_toInt_le.mp h1
    rw [nI_toInt hM] at this
    omega
  · exact absurd h1 h
/-- what holds of every manor: its numbers -/
def Nums (σ : St) (Hn B L C V M : Nat) : Prop := σ 0 0 = nI L ∧ σ 0 1 = nI C ∧ σ 0 2 = nI V ∧ σ 0 3 = nI M ∧ σ 0 4 = nI Hn ∧ σ 0 5 = nI B ∧ L ≤ 3 ∧ C ≤ 3 ∧ V ≤ 5 ∧ M ≤ 9 ∧ Hn ≤ 4 ∧ B ≤ 6
/-- .. and its rows -/
def Rows (σ : St) (Hn B : Nat) : Prop := (∀ j, j < 4 → ∃ k, k ≤ 4 ∧ σ 1 j = nI k) ∧ (∀ j, j < 4 → ∃ k, k ≤ 9 ∧ σ 2 j = nI k) ∧ (∀ j, j < 4 → σ 3 j = 0 ∨ σ 3 j = 1) ∧ (∀ j, j < Hn → σ 4 j = -1 ∨ ∃ i, i < Hn ∧ i ≠ j ∧ σ 4 j = nI i) ∧ (∀ b, b < B → ∃ w, 1 ≤ w ∧ w ≤ 99 ∧ σ 5 b = nI w) ∧ (∀ b, b < B → σ 6 b = -1 → σ 7 b = -1) ∧ (∀ b, b < B → σ 7 b = -1 ∨ σ 7 b ≠ σ 6 b)
def Inv (σ : St) (Hn B L C V M : Nat) : Prop := Nums σ Hn B L C V M ∧ Rows σ Hn B
/-! what is told of a manor -/
def lordN (L K : Nat) : Nat := if K = 3 ∨ K = 4 then 0 else if K = 1 then L - 1 else L
def churchN (C K : Nat) : Nat := if K = 2 then C + 1 else if K = 4 then C - 2 else C
def ownR (σ : St) (h : Int32) : Nat → Int32
  | 0 => 0
  | b + 1 => if σ 6 b = h then ownR σ h b ||| zbit b else ownR σ h b
def heldR (σ : St) (h yr st : Int32) : Nat → Int32
  | 0 => st
  | b + 1 => if σ 7 b = h ∧ yr - σ 8 b < σ 0 2 then heldR σ h yr st b ||| zbit b else heldR σ h yr st b
def heldL (σ : St) (B : Nat) (h later gift : Int32) : Int32 := heldR σ h (σ 0 6 + later) (if σ 0 2 ≤ later then ownR σ h B &&& znot gift else ownR σ h B) B
def heldF (σ : St) (B : Nat) (h : Int32) : Int32 := heldR σ h (σ 0 6) (ownR σ h B) B
def bestR (σ : St) (set : Int32) : Nat → Int32
  | 0 => -1
  | b + 1 => if zin set b = 1 ∧ σ 0 3 ≤ σ 5 b ∧ (bestR σ set b = -1 ∨ σ 5 (tn (bestR σ set b)) < σ 5 b) then nI b else bestR σ set b
def takR (σ : St) (B : Nat) (set : Int32) : Nat → Int32
  | 0 => 0
  | k + 1 => if bestR σ (set &&& znot (takR σ B set k)) B = -1 then takR σ B set k else takR σ B set k ||| zbit (tn (bestR σ (set &&& znot (takR σ B set k)) B))
def manyF (σ : St) (j : Nat) : Nat := lordN (tn (σ 0 0)) (tn (σ 1 j)) + churchN (tn (σ 0 1)) (tn (σ 1 j))
def takenF (σ : St) (B j : Nat) (set : Int32) : Int32 := takR σ B set (manyF σ j)
def worthR (σ : St) (set : Int32) : Nat → Int32
  | 0 => 0
  | b + 1 => if zin set b = 1 then worthR σ set b + σ 5 b else worthR σ set b
def lossF (σ : St) (B j : Nat) (set : Int32) : Int32 := worthR σ (takenF σ B j set) B
def stillR (σ : St) (j : Nat) : Nat → Int32
  | 0 => 1
  | k + 1 => stillR σ j k * (10 - σ 2 j)
def lostR (σ : St) (B j : Nat) (gift : Int32) : Nat → Int32
  | 0 => 0
  | k + 1 => lostR σ B j gift k * 10 + stillR σ j k * σ 2 j * lossF σ B j (heldL σ B (nI j) (nI k) gift)
def ones (k : Nat) : Nat := k % 2 + k / 2 % 2 + k / 4 % 2 + k / 8 % 2 + k / 16 % 2 + k / 32 % 2
def fewR (σ : St) (B j : Nat) (own held : Int32) : Nat → Int32
  | 0 => -1
  | k + 1 => if nI k &&& znot own = 0 ∧ takenF σ B j (held &&& znot (nI k)) = 0 ∧ (fewR σ B j own held k = -1 ∨ ones k < ones (tn (fewR σ B j own held k))) then nI k else fewR σ B j own held k
def fewF (σ : St) (B j : Nat) : Int32 := fewR σ B j (ownR σ (nI j) B) (heldF σ B (nI j)) 64
def giveR (σ : St) (B j y : Nat) (own : Int32) : Nat → Int32
  | 0 => -1
  | k + 1 => if nI k &&& znot own = 0 ∧ (giveR σ B j y own k = -1 ∨ lostR σ B j (nI k) y < lostR σ B j (giveR σ B j y own k) y ∨ (lostR σ B j (nI k) y = lostR σ B j (giveR σ B j y own k) y ∧ ones k < ones (tn (giveR σ B j y own k)))) then nI k else giveR σ B j y own k
def giveF (σ : St) (B j y : Nat) : Int32 := giveR σ B j y (ownR σ (nI j) B) 64
def aliveR (σ : St) : Nat → Int32
  | 0 => 0
  | k + 1 => aliveR σ k + σ 3 k
def thereR (σ : St) : Nat → Int32
  | 0 => 0
  | b + 1 => if σ 6 b = -1 then thereR σ b else thereR σ b + 1
def toldR (σ : St) (taken : Int32) (b : Nat) : Prop := ∀ i, i < b → σ 9 i = -1 ∨ σ 9 i = zin taken i
def liveP (σ : St) (Hn : Nat) (x : Int32) : Prop := ∃ j, j < Hn ∧ x = nI j ∧ σ 3 j = 1
/-! worlds -/
abbrev tyIZ (cI cZ : ClassId) : List (ClassId × FieldType) := [(cI, .int), (cZ, .boolean)]
abbrev mw (cI cZ : ClassId) (ad : Nat → Nat) (σ : St) : va_W := [(ad 0, .inr (1, [.int (σ 0 0), .int (σ 0 1), .int (σ 0 2), .int (σ 0 3), .int (σ 0 4), .ref (ad 1), .ref (ad 2), .ref (ad 4), .ref (ad 3), .int (σ 0 5), .ref (ad 5), .ref (ad 6), .ref (ad 7), .ref (ad 8), .ref (ad 9), .int (σ 0 6), .int (σ 0 7)])), (ad 1, .inl (cI, 4, .inl (σ 1))), (ad 2, .inl (cI, 4, .inl (σ 2))), (ad 3, .inl (cZ, 4, .inl (σ 3))), (ad 4, .inl (cI, 4, .inl (σ 4))), (ad 5, .inl (cI, 6, .inl (σ 5))), (ad 6, .inl (cI, 6, .inl (σ 6))), (ad 7, .inl (cI, 6, .inl (σ 7))), (ad 8, .inl (cI, 6, .inl (σ 8))), (ad 9, .inl (cI, 6, .inl (σ 9)))]
