/-! how many are back, are through; who are away -/
def bkF (s : Int → Int) : Nat → Int → Int → Int
  | 0, _, a => a
  | n + 1, i, a => bkF s n (i + 1) (iBin 0 a (s (16 + i)))
def thF (s : Int → Int) : Nat → Int → Int → Int
  | 0, _, a => a
  | n + 1, i, a => thF s n (i + 1) (iBin 0 a (if s 27 ≤ s (11 + i) then 1 else 0))
def awF (s : Int → Int) : Nat → Int → Int → Int
  | 0, _, a => a
  | n + 1, i, a => awF s n (i + 1) (iBin 4 a (iBin 6 (s (21 + i)) i))
def BACKS (s : Int → Int) : Int := bkF s (s 28).toNat 0 0
def THROUGHS (s : Int → Int) : Int := thF s (s 28).toNat 0 0
def AWAYS (s : Int → Int) : Int := awF s (s 27).toNat 0 0
section M11
variable {G : MG} {d : Nat} {Q : KQ}
variable {m : Nat} {s : Int → Int} {h : MH} {f0 f4 f5 f6 f7 f8 f9 f12 f13 f14 f17 f18 f20 f21 f22 f23 : Int}
theorem m_manyBack_l (hm : h.2.2 m = some (mO m f0 f4 f5 f6 f7 f8 f9 f12 f13 f14 f17 f18 f20 f21 f22 f23)) (hs : h.2.2 (m + 1) = some (cArr 0 937 (ix s))) (h28 : s 28 ≤ 5) : ∀ (n : Nat) (i a : Int), 0 ≤ i → i + n = s 28 → wp G d 184 4 [some (vR m), some (vI a), some (vI i)] [] h Q = Q (some (vI (bkF s n i a))) h := by
  intro n
  induction n with
  | zero =>
    intro i a i0 hi
    rw [u184_4, bkF]
    simp (disch := omega) only [U184, KK, ↓if_pos, hm, hs, GX13, xa_i]
  | succ n ih =>
    intro i a i0 hi
    rw [bkF, ← ih (i + 1) _ (by omega) (by omega), u184_4]
    simp (disch := omega) only [U184, KK, ↓if_neg, hm, hs, GX13, xa_i, ar_add (a := 16), ar_add (a := i), nlO_i, nlO_r, true_and]
theorem m_manyBack (hm : h.2.2 m = some (mO m f0 f4 f5 f6 f7 f8 f9 f12 f13 f14 f17 f18 f20 f21 f22 f23)) (hs : h.2.2 (m + 1) = some (cArr 0 937 (ix s))) (h28 : 0 ≤ s 28 ∧ s 28 ≤ 5) : wpC G (d + 1) 184 [vR m] h Q = Q (some (vI (BACKS s))) h := by
  unfold BACKS
  rw [e184, ← m_manyBack_l (G := G) (d := d) (Q := Q) hm hs h28.2 (s 28).toNat 0 0 (by omega) (by omega)]
  simp only [U184, nlO_n, nlO_i, nlO_r, true_and]
theorem m_manyThrough_l (hm : h.2.2 m = some (mO m f0 f4 f5 f6 f7 f8 f9 f12 f13 f14 f17 f18 f20 f21 f22 f23)) (hs : h.2.2 (m + 1) = some (cArr 0 937 (ix s))) (h28 : s 28 ≤ 5) : ∀ (n : Nat) (i a : Int), 0 ≤ i → i + n = s 28 → wp G (d + 1) 183 4 [some (vR m), some (vI a), some (vI i)] [] h Q = Q (some (vI (thF s n i a))) h := by
  intro n
  induction n with
  | zero =>
    intro i a i0 hi
    rw [u183_4, thF]
    simp (disch := omega) only [U183, KK, ↓if_pos, hm, hs, GX13, xa_i]
  | succ n ih =>
    intro i a i0 hi
    rw [thF, ← ih (i + 1) _ (by omega) (by omega), u183_4]
    have hT := fun (K : KQ) => m_isThrough (G := G) (d := d) (Q := K) hm hs (a := i) ⟨i0, by omega⟩
    by_cases c : s 27 ≤ s (11 + i)
    · simp (disch := omega) only [U183, KK, Int.reduceEq, not_false_iff, ↓reduceIte, ↓if_neg, ↓if_pos, hm, hs, GX13, xa_i, ar_add (a := i), hT, xt_o, VS13, nlO_i, nlO_r, true_and, List.length_nil, List.length_cons, Nat.reduceAdd, Nat.reduceLeDiff, Nat.zero_le]
    · simp (disch := omega) only [U183, KK, Int.reduceEq, not_false_iff, ↓reduceIte, ↓if_neg, ↓if_pos, hm, hs, GX13, xa_i, ar_add (a := i), hT, xt_o, VS13, nlO_i, nlO_r, true_and, List.length_nil, List.length_cons, Nat.reduceAdd, Nat.reduceLeDiff, Nat.zero_le]
theorem m_manyThrough (hm : h.2.2 m = some (mO m f0 f4 f5 f6 f7 f8 f9 f12 f13 f14 f17 f18 f20 f21 f22 f23)) (hs : h.2.2 (m + 1) = some (cArr 0 937 (ix s))) (h28 : 0 ≤ s 28 ∧ s 28 ≤ 5) : wpC G (d + 2) 183 [vR m] h Q = Q (some (vI (THROUGHS s))) h := by
  unfold THROUGHS
  rw [e183, ← m_manyThrough_l (G := G) (d := d) (Q := Q) hm hs h28.2 (s 28).toNat 0 0 (by omega) (by omega)]
  simp only [U183, nlO_n, nlO_i, nlO_r, true_and]
theorem m_awayOnes_l (hm : h.2.2 m = some (mO m f0 f4 f5 f6 f7 f8 f9 f12 f13 f14 f17 f18 f20 f21 f22 f23)) (hs : h.2.2 (m + 1) = some (cArr 0 937 (ix s))) (h27 : s 27 ≤ 6) : ∀ (n : Nat) (i a : Int), 0 ≤ i → i + n = s 27 → wp G d 182 4 [some (vR m), some (vI a), some (vI i)] [] h Q = Q (some (vI (awF s n i a))) h := by
  intro n
  induction n with
  | zero =>
    intro i a i0 hi
    rw [u182_4, awF]
    simp (disch := omega) only [U182, KK, ↓if_pos, hm, hs, GX13, xa_i]
  | succ n ih =>
    intro i a i0 hi
    rw [awF, ← ih (i + 1) _ (by omega) (by omega), u182_4]
    simp (disch := omega) only [U182, KK, ↓if_neg, hm, hs, GX13, xa_i, ar_add (a := 21), ar_add (a := i), nlO_i, nlO_r, true_and]
theorem m_awayOnes (hm : h.2.2 m = some (mO m f0 f4 f5 f6 f7 f8 f9 f12 f13 f14 f17 f18 f20 f21 f22 f23)) (hs : h.2.2 (m + 1) = some (cArr 0 937 (ix s))) (h27 : 0 ≤ s 27 ∧ s 27 ≤ 6) : wpC G (d + 1) 182 [vR m] h Q = Q (some (vI (AWAYS s))) h := by
  unfold AWAYS
  rw [e182, ← m_awayOnes_l (G := G) (d := d) (Q := Q) hm hs h27.2 (s 27).toNat 0 0 (by omega) (by omega)]
  simp only [U182, nlO_n, nlO_i, nlO_r, true_and]
end M11
