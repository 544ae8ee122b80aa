/-! the best order, model -/
def RVO (n V lim c k : Int) (best : Int → Int) : Prop := (V = -1 ∧ c = -1) ∨ ∃ hd o : Int, (0 ≤ hd ∧ hd ≤ 255) ∧ (0 ≤ k ∧ k ≤ 99) ∧ (0 ≤ o ∧ o < lim) ∧ V = lfO o hd k ∧ c = cnt hd ∧ ∀ j, 0 ≤ j → j < n → best j = o / q8 (n - 1 - j).toNat % 8
def qRI (L : Int) (row : Int → Int) (od : Int) : Prop := ∀ j, 0 ≤ j → j < L → row j = od / q8 (L - 1 - j).toNat % 8
theorem RVO_mo {n V lim lim' c k : Int} {best : Int → Int} (h : lim ≤ lim') (z : RVO n V lim c k best) : RVO n V lim' c k best := by
  rcases z with z | ⟨hd, o, z1, z2, z3, z4⟩
  · exact Or.inl z
  · exact Or.inr ⟨hd, o, z1, z2, by omega, z4⟩
theorem RVO_leaf {n V od hd sk c k : Int} {best row : Int → Int} (hn : n ≤ 6) (o0 : 0 ≤ od) (o1 : od < 262144) (h0 : 0 ≤ hd) (h1 : hd ≤ 255) (s0 : 0 ≤ sk) (s1 : sk ≤ 99) (hr : qRI n row od) (z : RVO n V od c k best) : RVO n (max V (lfO od hd sk)) (od + 1) (if btO c k hd sk then cnt hd else c) (if btO c k hd sk then sk else k) (if btO c k hd sk then cp best row 0 6 else best) := by
  have hc := cn8 h0 h1
  have new : ∀ V' : Int, V' = lfO od hd sk → RVO n V' (od + 1) (cnt hd) sk (cp best row 0 6) := fun V' e => Or.inr ⟨hd, od, ⟨h0, h1⟩, ⟨s0, s1⟩, by omega, e, rfl, fun j j0 j1 => by
    have : cp best row 0 6 j = row j := if_pos (by omega)
    rw [this]
    exact hr j j0 j1⟩
  rw [Int.max_def]
  rcases z with ⟨z1, z2⟩ | ⟨hd', o, z1, z2, z3, z4, z5, z6⟩
  · have b : btO c k hd sk := Or.inl (by omega)
    rw [if_pos b, if_pos b, if_pos b, if_pos (by unfold lfO; omega)]
    exact new _ rfl
  · have hc' := cn8 z1.1 z1.2
    by_cases b : btO c k hd sk
    · rw [if_pos b, if_pos b, if_pos b, if_pos (by
        rcases b with b | b
        · rw [z4]; unfold lfO; omega
        · rw [z4]; unfold lfO; omega)]
      exact new _ rfl
    · have b1 : ¬ c < cnt hd := fun q => b (Or.inl q)
      have b2 : ¬ (cnt hd = c ∧ sk < k) := fun q => b (Or.inr q)
      rw [if_neg b, if_neg b, if_neg b, if_neg (by
        rw [z4]; unfold lfO
        by_cases e : cnt hd = c
        · have : ¬ sk < k := fun q => b2 ⟨e, q⟩
          omega
        · omega)]
      exact Or.inr ⟨hd', o, z1, z2, by omega, z4, z5, z6⟩
theorem qRI_step {L od i : Int} {row : Int → Int} (o0 : 0 ≤ od) (i0 : 0 ≤ i) (i1 : i < 8) (hL : 0 ≤ L) (z : qRI L row od) : qRI (L + 1) (up row L i) (od * 8 + i) := fun j j0 j1 => by
  by_cases e : j = L
  · rw [e, up_eq, show (L + 1 - 1 - L).toNat = 0 by omega, show q8 0 = 1 from rfl, Int.ediv_one]
    omega
  · rw [up_ne e, z j j0 (by omega), show (L + 1 - 1 - j).toNat = (L - 1 - j).toNat + 1 by omega, q8_s, ← Int.ediv_ediv_of_nonneg (by omega), show (od * 8 + i) / 8 = od by omega]
theorem qRI_up {L od x : Int} {row : Int → Int} (z : qRI L row od) : qRI L (up row L x) od := fun j j0 j1 => by
  rw [up_ne (by omega)]
  exact z j j0 j1
theorem qRI_low {L od i : Int} {row : Int → Int} (o0 : 0 ≤ od) (i0 : 0 ≤ i) (i1 : i < 8) (z : qRI (L + 1) row (od * 8 + i)) : qRI L row od := fun j j0 j1 => by
  have h := z j j0 (by omega)
  rw [show (L + 1 - 1 - j).toNat = (L - 1 - j).toNat + 1 by omega, q8_s, ← Int.ediv_ediv_of_nonneg (by omega), show (od * 8 + i) / 8 = od by omega] at h
  exact h
theorem WGT_0 {s : Int → Int} : WGT s 0 = 0 := by
  have b0 : ¬ bt 0 0 = 1 := by decide
  have b1 : ¬ bt 0 1 = 1 := by decide
  have b2 : ¬ bt 0 2 = 1 := by decide
  have b3 : ¬ bt 0 3 = 1 := by decide
  have b4 : ¬ bt 0 4 = 1 := by decide
  have b5 : ¬ bt 0 5 = 1 := by decide
  have b6 : ¬ bt 0 6 = 1 := by decide
  have b7 : ¬ bt 0 7 = 1 := by decide
  unfold WGT
  simp only [wsum, Int.reduceAdd, Int.zero_add, b0, b1, b2, b3, b4, b5, b6, b7, ↓reduceIte, ar_add, Int.add_zero]
  try rfl
theorem oLp_max {s : Int → Int} {f : Int → Int → Int → Int → Int} {us od hd sk V : Int} : ∀ (n : Nat) (i b : Int), oLp s f us od hd sk n i (max V b) = max V (oLp s f us od hd sk n i b)
  | 0, _, _ => rfl
  | n + 1, i, b => by
    rw [oLp, oLp, ← oLp_max n]
    split
    · rfl
    · rw [Int.max_assoc]
