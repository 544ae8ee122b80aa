/-! the library's small methods -/
section JDK
variable {G : MG} {d : Nat} {h : MH} {Q : KQ}
theorem j_max {a b : Int} : wpC G (d + 1) 239 [vI a, vI b] h Q = Q (some (vI (max a b))) h := by
  rw [e239]
  by_cases e : a < b
  · simp only [U239, KK, if_pos e, true_and, Int.max_eq_right (Int.le_of_lt e)]
  · simp only [U239, KK, if_neg e, true_and, Int.max_eq_left (Int.not_lt.mp e)]
theorem j_min {a b : Int} : wpC G (d + 1) 240 [vI a, vI b] h Q = Q (some (vI (min a b))) h := by
  rw [e240]
  by_cases e : b < a
  · simp only [U240, KK, if_pos e, true_and, Int.min_eq_right (Int.le_of_lt e)]
  · simp only [U240, KK, if_neg e, true_and, Int.min_eq_left (Int.not_lt.mp e)]
theorem j_chk {i n : Int} {r : Option Nat} (e : 0 ≤ i ∧ i < n) : wpC G (d + 1) 256 [vI i, vI n, vO r] h Q = Q (some (vI i)) h := by
  rw [e256]
  simp (disch := omega) only [U256, KK, if_neg, if_pos, true_and]
theorem j_chk2 {i n : Int} (e : 0 ≤ i ∧ i < n) : wpC G (d + 2) 258 [vI i, vI n] h Q = Q (some (vI i)) h := by
  rw [e258]
  simp (disch := omega) only [U258, KK, j_chk, List.length_nil, Nat.zero_le, true_and]
variable {l ed : Nat} {mc n : Int} {f : Int → Option Nat} {cap : Nat}
theorem j_size (hl : h.2.2 l = some (cObj 0 [vI mc, vR ed, vI n])) : wpC G (d + 1) 228 [vR l] h Q = Q (some (vI n)) h := by
  rw [e228]
  simp only [U228, KK, hl, GX0, true_and]
theorem j_isEmpty (hl : h.2.2 l = some (cObj 0 [vI mc, vR ed, vI n])) : wpC G (d + 1) 235 [vR l] h Q = Q (some (vI (if n = 0 then 1 else 0))) h := by
  rw [e235]
  by_cases e : n = 0
  · simp [U235, KK, hl, GX0, e]
  · simp [U235, KK, hl, GX0, e]
theorem j_elem (hl : h.2.2 l = some (cObj 0 [vI mc, vR ed, vI n])) (he : h.2.2 ed = some (cRef 0 cap (rx f))) {i : Int} (e : 0 ≤ i ∧ i < (cap : Int)) : wpC G (d + 1) 234 [vR l, vI i] h Q = Q (some (vO (f i))) h := by
  rw [e234]
  simp (disch := omega) only [U234, KK, hl, he, GX0, xr_l, true_and]
theorem j_get (hl : h.2.2 l = some (cObj 0 [vI mc, vR ed, vI n])) (he : h.2.2 ed = some (cRef 0 cap (rx f))) {i : Int} (e : 0 ≤ i ∧ i < n) (hn : n ≤ (cap : Int)) : wpC G (d + 3) 233 [vR l, vI i] h Q = Q (some (vO (f i))) h := by
  rw [e233]
  have ee : 0 ≤ i ∧ i < (cap : Int) := ⟨e.1, by omega⟩
  simp (disch := omega) only [U233, KK, hl, GX0, j_chk2, xt_o, VS0, j_elem hl he ee, List.length_nil, List.length_cons, Nat.zero_le, true_and, Nat.reduceAdd, Nat.reduceLeDiff]
end JDK
