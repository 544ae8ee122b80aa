/-! sent away; known together; as said -/
def seF (x : Int) : Nat → Int → (Int → Int) → (Int → Int)
  | 0, _, s => s
  | n + 1, i, s => seF x n (i + 1) (up s (21 + i) (if bt x i = 1 then 1 else s (21 + i)))
def knF (s : Int → Int) (x : Int) : Nat → Int → Int → Int
  | 0, _, a => a
  | n + 1, i, a => knF s x n (i + 1) (iBin 4 a (if bt x i = 1 then s (55 + i) else 0))
def KNOWN (s : Int → Int) (x : Int) : Int := knF s x (s 27).toNat 0 0
def asF (s : Int → Int) (p : Int) : Nat → Int → Int → Int
  | 0, _, a => a
  | n + 1, i, a => asF s p n (i + 1) (if ¬ a = 0 ∧ SAYS s p (s (85 + i)) = s (90 + i) then 1 else 0)
def ASSAID (s : Int → Int) (p : Int) : Int := asF s p (s 30).toNat 0 1
section M15
variable {G : MG} {d : Nat} {Q : KQ}
variable {m : Nat} {f0 f4 f5 f6 f7 f8 f9 f12 f13 f14 f17 f18 f20 f21 f22 f23 : Int}
theorem m_sends_l {x : Int} : ∀ (n : Nat) (s : Int → Int) (h : MH) (i : Int), h.2.2 m = some (mO m f0 f4 f5 f6 f7 f8 f9 f12 f13 f14 f17 f18 f20 f21 f22 f23) → h.2.2 (m + 1) = some (cArr 0 937 (ix s)) → 0 ≤ i → i + n = s 27 → s 27 ≤ 6 → wp G d 195 2 [some (vR m), some (vI x), some (vI i)] [] h Q = Q none (hset h (m + 1) (cArr 0 937 (ix (seF x n i s)))) := by
  intro n
  induction n with
  | zero =>
    intro s h i hm hs i0 hi h6
    rw [seF, hs_same hs, u195_2]
    simp (disch := omega) only [U195, KK, ↓if_pos, hm, hs, GX13, xa_i]
  | succ n ih =>
    intro s h i hm hs i0 hi h6
    have n0 : ¬ m = m + 1 := by omega
    have h2 := ih (up s (21 + i) (if bt x i = 1 then 1 else s (21 + i))) (hset h (m + 1) (cArr 0 937 (ix (up s (21 + i) (if bt x i = 1 then 1 else s (21 + i)))))) (i + 1) (by rw [hs_ne n0]; exact hm) hs_eq (by omega) (by rw [up_ne (by omega)]; omega) (by rw [up_ne (by omega)]; exact h6)
    rw [hs_hs] at h2
    rw [seF, ← h2, u195_2]
    unfold bt
    by_cases e : iBin 3 (iBin 7 x i) 1 = 1
    · simp (disch := omega) only [U195, KK, ↓if_neg, ↓if_pos, hm, hs, GX13, xa_i, xs_i, ar_add (a := 21), ar_add (a := i), nlO_i, nlO_r, true_and]
    · simp (disch := omega) only [U195, KK, ↓if_neg, ↓if_pos, hm, hs, GX13, xa_i, xs_i, ar_add (a := 21), ar_add (a := i), nlO_i, nlO_r, true_and]
variable {s : Int → Int} {h : MH}
theorem m_knownBy_l (hm : h.2.2 m = some (mO m f0 f4 f5 f6 f7 f8 f9 f12 f13 f14 f17 f18 f20 f21 f22 f23)) (hs : h.2.2 (m + 1) = some (cArr 0 937 (ix s))) (h27 : s 27 ≤ 6) {x : Int} : ∀ (n : Nat) (i a : Int), 0 ≤ i → i + n = s 27 → wp G d 197 4 [some (vR m), some (vI x), some (vI a), some (vI i)] [] h Q = Q (some (vI (knF s x n i a))) h := by
  intro n
  induction n with
  | zero =>
    intro i a i0 hi
    rw [u197_4, knF]
    simp (disch := omega) only [U197, KK, ↓if_pos, hm, hs, GX13, xa_i]
  | succ n ih =>
    intro i a i0 hi
    rw [knF, ← ih (i + 1) _ (by omega) (by omega), u197_4]
    unfold bt
    by_cases e : iBin 3 (iBin 7 x i) 1 = 1
    · simp (disch := omega) only [U197, KK, ↓if_neg, ↓if_pos, hm, hs, GX13, xa_i, ar_add (a := 55), ar_add (a := i), nlO_i, nlO_r, true_and]
    · simp (disch := omega) only [U197, KK, ↓if_neg, ↓if_pos, hm, hs, GX13, xa_i, ar_add (a := 55), ar_add (a := i), nlO_i, nlO_r, true_and]
theorem m_knownBy (hm : h.2.2 m = some (mO m f0 f4 f5 f6 f7 f8 f9 f12 f13 f14 f17 f18 f20 f21 f22 f23)) (hs : h.2.2 (m + 1) = some (cArr 0 937 (ix s))) (h27 : 0 ≤ s 27 ∧ s 27 ≤ 6) {x : Int} : wpC G (d + 1) 197 [vR m, vI x] h Q = Q (some (vI (KNOWN s x))) h := by
  unfold KNOWN
  rw [e197, ← m_knownBy_l (G := G) (d := d) (Q := Q) hm hs h27.2 (s 27).toNat 0 0 (by omega) (by omega)]
  simp only [U197, nlO_n, nlO_i, nlO_r, true_and]
end M15
