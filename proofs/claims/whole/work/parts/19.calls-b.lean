/-! ===== what each call answers: the longer ones ===== -/
theorem putS_putS (σ : St) (b : Nat) (x y : Int32) : putS (putS σ b x) b y = putS σ b y := by
  unfold putS layS
  funext i j
  simp only [up2_at]
  by_cases h8 : i = 8 ∧ j = b
  · rw [if_pos h8, if_pos h8]
  · by_cases h7 : i = 7 ∧ j = b
    · rw [if_neg h8, if_pos h7, if_neg h8, if_pos h7]
    · by_cases h6 : i = 6 ∧ j = b
      · rw [if_neg h8, if_neg h7, if_pos h6, if_neg h8, if_neg h7, if_pos h6]
      · rw [if_neg h8, if_neg h7, if_neg h6, if_neg h8, if_neg h7, if_neg h6, if_neg h8, if_neg h7, if_neg h6]
def toldF (τ : St) (B j : Nat) : Prop := toldR τ (takenF τ B j (heldF τ B (nI j))) B
noncomputable def whoseR (σ : St) (B b j : Nat) : Nat → Int32
  | 0 => 0
  | k + 1 => zif (σ 3 k = 1 ∧ toldF (putS σ b (nI k)) B j) (whoseR σ B b j k ||| zbit k) (whoseR σ B b j k)
theorem whoseR_y {σ : St} {B b j k : Nat} (h : σ 3 k = 1) (c : toldF (putS σ b (nI k)) B j) : whoseR σ B b j k ||| zbit k = whoseR σ B b j (k + 1) := by rw [whoseR, zif_t ⟨h, c⟩]
theorem whoseR_n {σ : St} {B b j k : Nat} (h : ¬ (σ 3 k = 1 ∧ toldF (putS σ b (nI k)) B j)) : whoseR σ B b j k = whoseR σ B b j (k + 1) := by rw [whoseR, zif_f h]
noncomputable def whoseF (σ : St) (Hn B : Nat) (x h : Int32) : Int32 := zif (hasP B x ∧ hasP Hn h) (zif (σ 3 (tn h) = 1) (whoseR σ B (tn x) (tn h) Hn) (-103)) (-101)
noncomputable def yearsR (σ : St) (Hn B : Nat) (sd : Int32) : Nat → St × Int32
  | 0 => (σ, sd)
  | k + 1 => yearS (yearsR σ Hn B sd k).1 Hn B (yearsR σ Hn B sd k).2
noncomputable def manorsN (σ : St) (Hn B y : Nat) (sd : Int32) : Nat → Int32
  | 0 => (yearsR σ Hn B sd y).1 0 7 - σ 0 7
  | 1 => aliveR (yearsR σ Hn B sd y).1 Hn
  | _ => (yearsR σ Hn B sd y).2
noncomputable def manorsF (σ : St) (Hn B : Nat) (y sd w : Int32) : Int32 := zif (inP 1 60 y ∧ ¬ sd < 0 ∧ inP 0 2 w) (if Hn = 0 then -103 else manorsN σ Hn B (tn y) sd (tn w)) (-102)
theorem Inv.years {σ : St} {Hn B L C V M : Nat} (hI : Inv σ Hn B L C V M) (hH : 1 ≤ Hn) (sd : Int32) : ∀ k : Nat, Inv (yearsR σ Hn B sd k).1 Hn B L C V M
  | 0 => hI
  | k + 1 => (Inv.years hI hH sd k).year hH _
def hs (h : Int64) (v : Int32) : Int64 := 31 * h + v.toInt64
def digW (σ : St) (B j : Nat) (h : Int64) : Nat → Int64
  | 0 => h
  | w + 1 => hs (digW σ B j h w) (aboutN σ B j w)
def digJ (σ : St) (B j : Nat) (h : Int64) : Int64 := if σ 3 j = 1 then hs (hs (hs (hs (hs (digW σ B j h 9) (safeN σ B j 0)) (safeN σ B j 1)) (giveF σ B j 2)) (meanN σ B j 2 0)) (meanN σ B j 2 1) else digW σ B j h 9
def digH (σ : St) (B : Nat) : Nat → Int64
  | 0 => 827
  | n + 1 => digJ σ B n (digH σ B n)
def digX (σ : St) (b : Nat) (h : Int64) : Nat → Int64
  | 0 => h
  | w + 1 => hs (digX σ b h w) (σ (w + 5) b)
def digB (σ : St) (h : Int64) : Nat → Int64
  | 0 => h
  | b + 1 => digX σ b (digB σ h b) 5
def digP (P : Nat → Int32) (h : Int64) : Nat → Int64
  | 0 => h
  | k + 1 => hs (digP P h k) (P k)
def digC (σ : St) (Hn B : Nat) (ξ : Nat → Int32) (h : Int64) : Nat → Int64
  | 0 => h
  | w + 1 => hs (digC σ Hn B ξ h w) (cntN σ Hn B ξ w)
def digF (σ : St) (Hn B : Nat) (P ξ : Nat → Int32) (n : Nat) : Int64 := digC σ Hn B ξ (digP P (digB σ (digH σ B Hn) B) n) 12
noncomputable def restoreF (σ κ : St) (hi : Int32) : Int32 × St := zif (hi = 0) (-103, σ) (κ 0 6, κ)
