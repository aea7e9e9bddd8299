/-! ===== what the law keeps between its rounds ===== -/
def okS (σ : St) (y : Nat) : Prop := (∃ Hn B L C V M, Inv σ Hn B L C V M) ∧ ∃ k, k ≤ y ∧ σ 0 6 = nI k
theorem st0_ok : okS st0 0 := by
  refine ⟨⟨0, 0, 1, 1, 1, 0, ⟨rfl, rfl, rfl, rfl, rfl, rfl, by decide, by decide, by decide, by decide, by decide, by decide⟩, ?_, ?_, ?_, ?_, ?_, ?_, ?_⟩, 0, Nat.le_refl _, rfl⟩
  · exact fun j _ => ⟨0, by decide, rfl⟩
  · exact fun j _ => ⟨0, by decide, rfl⟩
  · exact fun j _ => Or.inl rfl
  · exact fun j h => absurd h (Nat.not_lt_zero j)
  · exact fun j h => absurd h (Nat.not_lt_zero j)
  · exact fun j h => absurd h (Nat.not_lt_zero j)
  · exact fun j h => absurd h (Nat.not_lt_zero j)
theorem okS.mono {σ : St} {y z : Nat} (h : okS σ y) (hz : y ≤ z) : okS σ z := ⟨h.1, by obtain ⟨k, h1, h2⟩ := h.2; exact ⟨k, Nat.le_trans h1 hz, h2⟩⟩
section OK
variable {σ : St} {Hn B L C V M y : Nat}
theorem ok_same (hI : Inv σ Hn B L C V M) (hy : ∃ k, k ≤ y ∧ σ 0 6 = nI k) : okS σ y := ⟨⟨_, _, _, _, _, _, hI⟩, hy⟩
theorem ok_holder (hI : Inv σ Hn B L C V M) (hy : ∃ k, k ≤ y ∧ σ 0 6 = nI k) (kd d : Int32) : okS (holderF σ Hn kd d).2 y := by
  have h4 : Hn ≤ 4 := hI.1.2.2.2.2.2.2.2.2.2.2.1
  unfold holderF
  by_cases c : inP 0 4 kd ∧ inP 0 9 d
  · rw [zif_t c]
    by_cases e : Hn = 4
    · rw [if_pos e]; exact ok_same hI hy
    · rw [if_neg e]
      obtain ⟨⟨a, _, ha, rfl⟩, ⟨b, _, hb, rfl⟩⟩ := c
      exact ⟨⟨_, _, _, _, _, _, hI.hold (by omega) ha hb⟩, hy⟩
  · rw [zif_f c]; exact ok_same hI hy
theorem ok_heir (hI : Inv σ Hn B L C V M) (hy : ∃ k, k ≤ y ∧ σ 0 6 = nI k) (x h : Int32) : okS (heirF σ Hn x h).2 y := by
  have h4 : Hn ≤ 4 := hI.1.2.2.2.2.2.2.2.2.2.2.1
  unfold heirF
  by_cases c : hasP Hn x ∧ h ≠ x ∧ (h = -1 ∨ hasP Hn h)
  · rw [zif_t c]
    obtain ⟨⟨j, hj, rfl⟩, hne, hc⟩ := c
    refine ⟨⟨_, _, _, _, _, _, hI.heir ?_⟩, hy⟩
    rcases hc with hc | ⟨i, hi, rfl⟩
    · exact Or.inl hc
    · refine Or.inr ⟨i, hi, fun q => hne ?_, rfl⟩
      rw [tn_nI (by omega)] at q
      rw [q]
  · rw [zif_f c]; exact ok_same hI hy
theorem ok_beast (hI : Inv σ Hn B L C V M) (hy : ∃ k, k ≤ y ∧ σ 0 6 = nI k) (x w : Int32) : okS (beastF σ Hn B x w).2 y := by
  have h6 : B ≤ 6 := hI.1.2.2.2.2.2.2.2.2.2.2.2
  unfold beastF
  by_cases c : hasP Hn x
  · rw [zif_t c]
    by_cases d : inP 1 99 w
    · rw [zif_t d]
      by_cases a : σ 3 (tn x) = 1
      · rw [zif_t a]
        by_cases e : B = 6
        · rw [if_pos e]; exact ok_same hI hy
        · rw [if_neg e]
          obtain ⟨v, hv1, hv2, rfl⟩ := d
          exact ⟨⟨_, _, _, _, _, _, hI.beast (by omega) x hv1 hv2⟩, hy⟩
      · rw [zif_f a]; exact ok_same hI hy
    · rw [zif_f d]; exact ok_same hI hy
  · rw [zif_f c]; exact ok_same hI hy
theorem ok_give (hI : Inv σ Hn B L C V M) (hy : ∃ k, k ≤ y ∧ σ 0 6 = nI k) (b t : Int32) : okS (giveCF σ Hn B b t).2 y := by
  have h4 : Hn ≤ 4 := hI.1.2.2.2.2.2.2.2.2.2.2.1
  unfold giveCF
  by_cases c : hasP B b ∧ hasP Hn t
  · rw [zif_t c]
    by_cases d : giveP σ (tn b) (tn t)
    · rw [zif_t d]
      obtain ⟨-, ⟨j, hj, rfl⟩⟩ := c
      refine ⟨⟨_, _, _, _, _, _, hI.gift _ _ (by rw [tn_nI (by omega)]; omega)⟩, ?_⟩
      show ∃ k, k ≤ y ∧ giftS σ (tn b) (tn (nI j)) 0 6 = nI k
      rw [giftS_num]; exact hy
    · rw [zif_f d]; exact ok_same hI hy
  · rw [zif_f c]; exact ok_same hI hy
theorem ok_die (hI : Inv σ Hn B L C V M) (hy : ∃ k, k ≤ y ∧ σ 0 6 = nI k) (x : Int32) : okS (dieF σ Hn B x).2 y := by
  unfold dieF
  by_cases c : hasP Hn x
  · rw [zif_t c]
    by_cases d : σ 3 (tn x) = 1
    · rw [zif_t d]
      refine ⟨⟨_, _, _, _, _, _, hI.buried _⟩, ?_⟩
      show ∃ k, k ≤ y ∧ buryS σ Hn B (tn x) 0 6 = nI k
      rw [buryS_6]; exact hy
    · rw [zif_f d]; exact ok_same hI hy
  · rw [zif_f c]; exact ok_same hI hy
theorem ok_roll (hI : Inv σ Hn B L C V M) (hy : ∃ k, k ≤ y ∧ σ 0 6 = nI k) (b k : Int32) : okS (rollF σ B b k).2 y := by
  unfold rollF
  by_cases c : hasP B b
  · rw [zif_t c]
    by_cases d : k = -1 ∨ inP 0 1 k
    · rw [zif_t d]; exact ⟨⟨_, _, _, _, _, _, hI.told _ _⟩, hy⟩
    · rw [zif_f d]; exact ok_same hI hy
  · rw [zif_f c]; exact ok_same hI hy
theorem ok_year (hI : Inv σ Hn B L C V M) (hy : ∃ k, k ≤ y ∧ σ 0 6 = nI k) : okS (up2 σ 0 6 (σ 0 6 + nI 1)) (y + 1) := by
  obtain ⟨k, h1, h2⟩ := hy
  refine ⟨⟨_, _, _, _, _, _, hI.num6 _⟩, k + 1, by omega, ?_⟩
  show σ 0 6 + nI 1 = nI (k + 1)
  rw [h2, nI_add]
theorem ok_law (hI : Inv σ Hn B L C V M) (hy : ∃ k, k ≤ y ∧ σ 0 6 = nI k) (P ξ : Nat → Int32) (n : Nat) : okS (lawF σ P ξ n).2.1 y := by
  unfold lawF
  by_cases c : n = 5 ∧ faultR P 5 = 5
  · rw [zif_t c]
    have g := faultR_5 c.2
    obtain ⟨-, a0, p0, q0, e0⟩ := g 0 (by decide)
    obtain ⟨-, a1, p1, q1, e1⟩ := g 1 (by decide)
    obtain ⟨-, a2, p2, q2, e2⟩ := g 2 (by decide)
    obtain ⟨-, a4, p4, q4, e4⟩ := g 4 (by decide)
    have p0 : 48 ≤ a0 := p0
    have q0 : a0 ≤ 51 := q0
    have p1 : 48 ≤ a1 := p1
    have q1 : a1 ≤ 51 := q1
    have p2 : 48 ≤ a2 := p2
    have q2 : a2 ≤ 53 := q2
    have p4 : 48 ≤ a4 := p4
    have q4 : a4 ≤ 57 := q4
    refine ⟨⟨Hn, B, a0 - 48, a1 - 48, a2 - 48, a4 - 48, ?_⟩, hy⟩
    show Inv (lawS σ P) _ _ _ _ _ _
    unfold lawS
    rw [e0, e1, e2, e4, pk_sub p0, pk_sub p1, pk_sub p2, pk_sub p4]
    exact hI.law (by omega) (by omega) (by omega) (by omega)
  · rw [zif_f c]; exact ok_same hI hy
end OK
def pageP (ξ : Nat → Int32) : Prop := ∃ n, n ≤ 8 ∧ ξ 0 = nI n
theorem page_letter {P ξ : Nat → Int32} {n : Nat} (h8 : n ≤ 8) (h0 : ξ 0 = nI n) (code : Int32) : pageP (letterF P ξ n code).2.2 := by
  unfold letterF
  by_cases c : inP 1 126 code
  · rw [zif_t c]
    by_cases e : n = 8
    · rw [if_pos e]; exact ⟨n, h8, h0⟩
    · rw [if_neg e]; exact ⟨n + 1, by omega, rfl⟩
  · rw [zif_f c]; exact ⟨n, h8, h0⟩
theorem page_law {σ : St} {P ξ : Nat → Int32} {n : Nat} (h8 : n ≤ 8) (h0 : ξ 0 = nI n) : pageP (lawF σ P ξ n).2.2 := by
  unfold lawF
  by_cases c : n = 5 ∧ faultR P 5 = 5
  · rw [zif_t c]; exact ⟨0, by decide, rfl⟩
  · rw [zif_f c]; exact ⟨n, h8, h0⟩
def LI (y : Nat) (σ κ : St) (ξ kv fm fr fl : Nat → Int32) (hi : Int32) : Prop := okS σ y ∧ pageP ξ ∧ (∀ j, j < 4 → κ 3 j = 0 ∨ κ 3 j = 1) ∧ ((hi = 0 ∧ kv 0 = -1) ∨ (keptP κ hi kv fm fr fl ∧ okS κ y))
theorem LI.mono {y z : Nat} {σ κ : St} {ξ kv fm fr fl : Nat → Int32} {hi : Int32} (h : LI y σ κ ξ kv fm fr fl hi) (hz : y ≤ z) : LI z σ κ ξ kv fm fr fl hi := ⟨h.1.mono hz, h.2.1, h.2.2.1, h.2.2.2.elim Or.inl (fun q => Or.inr ⟨q.1, q.2.mono hz⟩)⟩
theorem LI.with {y : Nat} {σ σ2 κ : St} {ξ ξ2 kv fm fr fl : Nat → Int32} {hi : Int32} (h : LI y σ κ ξ kv fm fr fl hi) (h1 : okS σ2 (y + 1)) (h2 : pageP ξ2) : LI (y + 1) σ2 κ ξ2 kv fm fr fl hi := ⟨h1, h2, h.2.2.1, h.2.2.2.elim Or.inl (fun q => Or.inr ⟨q.1, q.2.mono (Nat.le_succ y)⟩)⟩
theorem LI.kp {y : Nat} {σ κ : St} {ξ kv fm fr fl : Nat → Int32} {hi : Int32} (h : LI y σ κ ξ kv fm fr fl hi) : (hi = 0 ∧ kv 0 = -1) ∨ keptP κ hi kv fm fr fl := h.2.2.2.elim Or.inl (fun q => Or.inr q.1)
theorem LI.image {y : Nat} {σ κ : St} {ξ kv fm fr fl : Nat → Int32} {hi : Int32} (h : LI y σ κ ξ kv fm fr fl hi) (hy : y < 2 ^ 20) : LI (y + 1) σ σ ξ (kvK σ) (menOf σ) (rowsOf σ) (lawU fl σ) (nI 1) := by
  have hs := h.1.mono (Nat.le_succ y)
  obtain ⟨⟨Hn, B, L, C, V, M, hI⟩, k, h1, h2⟩ := id h.1
  refine ⟨hs, h.2.1, fun j hj => hI.2.2.2.1 j hj, Or.inr ⟨⟨rfl, ?_, rfl, rfl, rfl, rfl, rfl, rfl, lawU_in fl σ⟩, hs⟩⟩
  show ¬ σ 0 6 = -1
  rw [h2]
  exact nI_m1 (by omega)
theorem LI.restore {y : Nat} {σ κ : St} {ξ kv fm fr fl : Nat → Int32} {hi : Int32} (h : LI y σ κ ξ kv fm fr fl hi) : LI (y + 1) (restoreF σ κ hi).2 κ ξ kv fm fr fl hi := by
  refine h.with ?_ h.2.1
  unfold restoreF
  by_cases c : hi = 0
  · rw [zif_t c]; exact h.1.mono (Nat.le_succ y)
  · rw [zif_f c]
    rcases h.2.2.2 with q | q
    · exact absurd q.1 c
    · exact q.2.mono (Nat.le_succ y)
abbrev WL (cI cZ : ClassId) (xd ma ka ta bd : Nat → Nat) (σ κ ρ : St) (P ξ : Nat → Int32) (hi sd : Int32) (σ2 : St) (P2 ξ2 : Nat → Int32) (sd2 : Int32) (kv : Nat → Int32) (hh : Int64) (sm sr fm fr fl : Nat → Int32) : va_W :=
  xo xd ma ka ta ξ hi :: (xd 1, .inl (cI, 8, .inl P)) :: (xd 2, .inr (0, [.int sd])) :: (mw cI cZ ma σ ++ mw cI cZ ka κ ++ mw cI cZ ta ρ ++ [bo bd σ2 ξ2 (σ2 0 7) sd2 kv hh, (bd 1, .inl (cI, 8, .inl P2)), (bd 2, .inl (cI, 16, .inl (menOf σ2))), (bd 3, .inl (cI, 30, .inl (rowsOf σ2))), (bd 4, .inl (cI, 16, .inl sm)), (bd 5, .inl (cI, 30, .inl sr)), (bd 6, .inl (cI, 16, .inl fm)), (bd 7, .inl (cI, 30, .inl fr)), (bd 8, .inl (cI, 4, .inl fl))])
