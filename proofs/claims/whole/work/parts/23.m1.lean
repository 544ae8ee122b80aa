/-! the model's small methods -/
section M1
variable {G : MG} {d : Nat} {h : MH} {Q : KQ}
theorem m_in_t {v lo hi : Int} (e : lo ≤ v ∧ v ≤ hi) : wpC G (d + 1) 139 [vI v, vI lo, vI hi] h Q = Q (some (vI 1)) h := by
  rw [e139]
  simp only [U139, if_neg (show ¬ v < lo by omega), if_neg (show ¬ hi < v by omega), true_or, or_true, true_and]
  simp
theorem m_in_f {v lo hi : Int} (e : ¬ (lo ≤ v ∧ v ≤ hi)) : wpC G (d + 1) 139 [vI v, vI lo, vI hi] h Q = Q (some (vI 0)) h := by
  rw [e139]
  by_cases e1 : v < lo
  · simp only [U139, if_pos e1]
    simp
  · simp only [U139, if_neg e1, if_pos (show hi < v by omega)]
    simp
def bt (x k : Int) : Int := iBin 3 (iBin 7 x k) 1
def cnt (x : Int) : Int := iBin 0 (iBin 0 (iBin 0 (iBin 0 (iBin 0 (iBin 0 (iBin 0 (iBin 0 0 (bt x 0)) (bt x 1)) (bt x 2)) (bt x 3)) (bt x 4)) (bt x 5)) (bt x 6)) (bt x 7)
theorem m_countOf {x : Int} : wpC G (d + 1) 160 [vI x] h Q = Q (some (vI (cnt x))) h := by
  rw [e160]
  simp (disch := omega) only [U160, u160_4, nlO_n, nlO_i, ar_add, if_neg, if_pos, true_and, Int.reduceAdd, Int.reduceLE, ↓reduceIte]
  rfl
end M1
