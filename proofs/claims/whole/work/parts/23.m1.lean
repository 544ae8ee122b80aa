/-! the model's small methods -/
section M1
variable {G : MG} {d : Nat} {h : MH} {Q : KQ}
theorem m_in_t {v lo hi : Int} (e : lo ≤ v ∧ v ≤ hi) : wpC G (d + 1) 139 [vI v, vI lo, vI hi] h Q = Q (some (vI 1)) h := by
  rw [e139]
  simp only [U139, if_neg (show ¬ v < lo by omega), if_neg (show ¬ hi < v by omega), true_or, or_true, true_and]
theorem m_in_f {v lo hi : Int} (e : ¬ (lo ≤ v ∧ v ≤ hi)) : wpC G (d + 1) 139 [vI v, vI lo, vI hi] h Q = Q (some (vI 0)) h := by
  rw [e139]
  by_cases e1 : v < lo
  · simp only [U139, if_pos e1, true_or, or_true, true_and]
  · simp only [U139, if_neg e1, if_pos (show hi < v by omega), true_or, or_true, true_and]
theorem m_in {v lo hi : Int} : wpC G (d + 1) 139 [vI v, vI lo, vI hi] h Q = Q (some (vI (if lo ≤ v ∧ v ≤ hi then 1 else 0))) h := by
  by_cases e : lo ≤ v ∧ v ≤ hi
  · rw [m_in_t e, if_pos e]
  · rw [m_in_f e, if_neg e]
def bt (x k : Int) : Int := iBin 3 (iBin 7 x k) 1
def cnt (x : Int) : Int := iBin 0 (iBin 0 (iBin 0 (iBin 0 (iBin 0 (iBin 0 (iBin 0 (iBin 0 0 (bt x 0)) (bt x 1)) (bt x 2)) (bt x 3)) (bt x 4)) (bt x 5)) (bt x 6)) (bt x 7)
theorem m_countOf {x : Int} : wpC G (d + 1) 160 [vI x] h Q = Q (some (vI (cnt x))) h := by
  rw [e160]
  simp (disch := omega) only [U160, u160_4, nlO_n, nlO_i, ar_add, if_neg, if_pos, true_and, Int.reduceAdd, Int.reduceLE, ↓reduceIte]
  rfl
variable {m : Nat} {s : Int → Int} {f0 f4 f5 f6 f7 f8 f9 f12 f13 f14 f17 f18 f20 f21 f22 f23 : Int}
/-- the model's object -/
abbrev mO (m : Nat) (f0 f4 f5 f6 f7 f8 f9 f12 f13 f14 f17 f18 f20 f21 f22 f23 : Int) : MC := cObj 13 [vI f0, vR (m + 1), vR (m + 2), vR (m + 3), vI f4, vI f5, vI f6, vI f7, vI f8, vI f9, vR (m + 4), vR (m + 5), vI f12, vI f13, vI f14, vR (m + 6), vR (m + 7), vI f17, vI f18, vR (m + 8), vI f20, vI f21, vI f22, vI f23]
theorem m_isAunt (hm : h.2.2 m = some (mO m f0 f4 f5 f6 f7 f8 f9 f12 f13 f14 f17 f18 f20 f21 f22 f23)) (hs : h.2.2 (m + 1) = some (cArr 0 937 (ix s))) (r : 0 ≤ s 27 ∧ s 27 ≤ 6) {p : Int} : wpC G (d + 2) 156 [vR m, vI p] h Q = Q (some (vI (if 0 ≤ p ∧ p < s 27 then 1 else 0))) h := by
  rw [e156]
  simp (disch := omega) only [U156, hm, hs, GX13, xa_i, ar_sub, m_in, List.length_nil, List.length_cons, true_and, Nat.zero_le, Option.toList_some, List.cons_append, List.nil_append]
  simp only [show (p ≤ s 27 - 1) ↔ p < s 27 by omega]
  by_cases e : 0 ≤ p ∧ p < s 27
  · simp [e]
  · simp [e]
end M1
