/-! the model's small methods -/
section M1
variable {G : MG} {d : Nat} {h : MH} {Q : KQ}
theorem m_in_t {v lo hi : Int} (e : lo ≤ v ∧ v ≤ hi) : wpC G (d + 1) 139 [vI v, vI lo, vI hi] h Q = Q (some (vI 1)) h := by
  rw [e139]
  simp only [U139, KK, if_neg (show ¬ v < lo by omega), if_neg (show ¬ hi < v by omega), true_or, or_true, true_and]
theorem m_in_f {v lo hi : Int} (e : ¬ (lo ≤ v ∧ v ≤ hi)) : wpC G (d + 1) 139 [vI v, vI lo, vI hi] h Q = Q (some (vI 0)) h := by
  rw [e139]
  by_cases e1 : v < lo
  · simp only [U139, KK, if_pos e1, true_or, or_true, true_and]
  · simp only [U139, KK, if_neg e1, if_pos (show hi < v by omega), true_or, or_true, true_and]
theorem m_in {v lo hi : Int} : wpC G (d + 1) 139 [vI v, vI lo, vI hi] h Q = Q (some (vI (if lo ≤ v ∧ v ≤ hi then 1 else 0))) h := by
  by_cases e : lo ≤ v ∧ v ≤ hi
  · rw [m_in_t e, if_pos e]
  · rw [m_in_f e, if_neg e]
def bt (x k : Int) : Int := iBin 3 (iBin 7 x k) 1
def cnt (x : Int) : Int := iBin 0 (iBin 0 (iBin 0 (iBin 0 (iBin 0 (iBin 0 (iBin 0 (iBin 0 0 (bt x 0)) (bt x 1)) (bt x 2)) (bt x 3)) (bt x 4)) (bt x 5)) (bt x 6)) (bt x 7)
theorem m_countOf {x : Int} : wpC G (d + 1) 160 [vI x] h Q = Q (some (vI (cnt x))) h := by
  rw [e160]
  simp (disch := omega) only [U160, KK, u160_4, nlO_n, nlO_i, ar_add, if_neg, if_pos, true_and, Int.reduceAdd, Int.reduceLE, ↓reduceIte]
  rfl
variable {m : Nat} {s : Int → Int} {f0 f4 f5 f6 f7 f8 f9 f12 f13 f14 f17 f18 f20 f21 f22 f23 : Int}
/-- the model's object -/
abbrev mO (m : Nat) (f0 f4 f5 f6 f7 f8 f9 f12 f13 f14 f17 f18 f20 f21 f22 f23 : Int) : MC := cObj 13 [vI f0, vR (m + 1), vR (m + 2), vR (m + 3), vI f4, vI f5, vI f6, vI f7, vI f8, vI f9, vR (m + 4), vR (m + 5), vI f12, vI f13, vI f14, vR (m + 6), vR (m + 7), vI f17, vI f18, vR (m + 8), vI f20, vI f21, vI f22, vI f23]
theorem m_isAunt (hm : h.2.2 m = some (mO m f0 f4 f5 f6 f7 f8 f9 f12 f13 f14 f17 f18 f20 f21 f22 f23)) (hs : h.2.2 (m + 1) = some (cArr 0 937 (ix s))) (r : 0 ≤ s 27 ∧ s 27 ≤ 6) {p : Int} : wpC G (d + 2) 156 [vR m, vI p] h Q = Q (some (vI (if 0 ≤ p ∧ p < s 27 then 1 else 0))) h := by
  rw [e156]
  simp (disch := omega) only [U156, KK, hm, hs, GX13, xa_i, ar_sub, m_in, List.length_nil, List.length_cons, true_and, Nat.zero_le]
  simp only [show (p ≤ s 27 - 1) ↔ p < s 27 by omega]
  by_cases e : 0 ≤ p ∧ p < s 27
  · simp [e]
  · simp [e]
theorem m_isAsker (hm : h.2.2 m = some (mO m f0 f4 f5 f6 f7 f8 f9 f12 f13 f14 f17 f18 f20 f21 f22 f23)) (hs : h.2.2 (m + 1) = some (cArr 0 937 (ix s))) (r : 0 ≤ s 28 ∧ s 28 ≤ 5) {p : Int} : wpC G (d + 2) 172 [vR m, vI p] h Q = Q (some (vI (if 0 ≤ p ∧ p < s 28 then 1 else 0))) h := by
  rw [e172]
  simp (disch := omega) only [U172, KK, hm, hs, GX13, xa_i, ar_sub, m_in, List.length_nil, List.length_cons, true_and, Nat.zero_le]
  simp only [show (p ≤ s 28 - 1) ↔ p < s 28 by omega]
  by_cases e : 0 ≤ p ∧ p < s 28
  · simp [e]
  · simp [e]
theorem m_tellsOf (hm : h.2.2 m = some (mO m f0 f4 f5 f6 f7 f8 f9 f12 f13 f14 f17 f18 f20 f21 f22 f23)) (hs : h.2.2 (m + 1) = some (cArr 0 937 (ix s))) (r : -1 ≤ s 34 ∧ s 34 ≤ 4) {w n : Int} (hw : 0 ≤ w ∧ w ≤ 900) : wpC G (d + 1) 161 [vR m, vI w, vI n] h Q = Q (some (vI (if s 34 = -1 then n else s (w + s 34)))) h := by
  rw [e161]
  by_cases e : s 34 = -1
  · simp (disch := omega) only [U161, KK, hm, hs, GX13, xa_i, e, ↓if_neg, ↓if_pos, not_true]
  · simp (disch := omega) only [U161, KK, hm, hs, GX13, xa_i, ar_add, ↓if_neg, ↓if_pos]
def LEFT (s : Int → Int) (p hd : Int) : Int := iBin 3 (s (55 + p)) (iBin 5 hd (-1))
theorem m_leftOf (hm : h.2.2 m = some (mO m f0 f4 f5 f6 f7 f8 f9 f12 f13 f14 f17 f18 f20 f21 f22 f23)) (hs : h.2.2 (m + 1) = some (cArr 0 937 (ix s))) {p x : Int} (hp : 0 ≤ p ∧ p < 6) : wpC G (d + 1) 158 [vR m, vI p, vI x] h Q = Q (some (vI (LEFT s p x))) h := by
  rw [e158]
  simp (disch := omega) only [U158, KK, hm, hs, GX13, xa_i, ar_add]
  rfl
def wsum (s : Int → Int) (x : Int) : Nat → Int → Int → Int
  | 0, _, a => a
  | n + 1, i, a => wsum s x n (i + 1) (iBin 0 a (if bt x i = 1 then s (35 + i) else 0))
def WGT (s : Int → Int) (x : Int) : Int := wsum s x 8 0 0
theorem m_weight_l (hm : h.2.2 m = some (mO m f0 f4 f5 f6 f7 f8 f9 f12 f13 f14 f17 f18 f20 f21 f22 f23)) (hs : h.2.2 (m + 1) = some (cArr 0 937 (ix s))) {x : Int} : ∀ (n : Nat) (i a : Int), i + n = 8 → 0 ≤ i → wp G d 178 4 [some (vR m), some (vI x), some (vI a), some (vI i)] [] h Q = Q (some (vI (wsum s x n i a))) h
  | 0, i, a, hi, h0 => by
    rw [u178_4]
    simp (disch := omega) only [U178, KK, ↓if_pos, wsum]
  | n + 1, i, a, hi, h0 => by
    have ih := m_weight_l hm hs (x := x) n (i + 1) (iBin 0 a (if bt x i = 1 then s (35 + i) else 0)) (by omega) (by omega)
    rw [wsum, ← ih]
    rw [u178_4]
    unfold bt
    by_cases e : iBin 3 (iBin 7 x i) 1 = 1
    · simp (disch := omega) only [U178, KK, ↓if_neg, ↓if_pos, hm, hs, GX13, xa_i, ar_add (a := 35), ar_add (a := i), nlO_i, nlO_n, true_and]
    · simp (disch := omega) only [U178, KK, ↓if_neg, ↓if_pos, hm, hs, GX13, xa_i, ar_add (a := i), nlO_i, nlO_n, true_and]
theorem m_weightOf (hm : h.2.2 m = some (mO m f0 f4 f5 f6 f7 f8 f9 f12 f13 f14 f17 f18 f20 f21 f22 f23)) (hs : h.2.2 (m + 1) = some (cArr 0 937 (ix s))) {x : Int} : wpC G (d + 1) 178 [vR m, vI x] h Q = Q (some (vI (WGT s x))) h := by
  rw [e178]
  simp only [U178, KK, nlO_n, nlO_i, nlO_r, true_and]
  exact m_weight_l hm hs 8 0 0 rfl (by omega)
end M1
