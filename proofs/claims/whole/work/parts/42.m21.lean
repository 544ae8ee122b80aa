/-! asks, warns -/
section M21
variable {G : MG} {d : Nat} {Q : KQ} {h : MH}
variable {m : Nat} {f0 f4 f5 f6 f7 f8 f9 f12 f13 f14 f17 f18 f20 f21 f22 f23 : Int}
def asV (k n v x : Int) : Int := if UND k 2 then iNeg (paV k n v x) else if k = 6 then iBin 0 (paV k n v x) v else paV k n v x
def asB (k : Int) : List Int := (if UND k 2 then [21] else if k = 6 then [61] else []) ++ 2 :: riB k
theorem riB_len {k : Int} : (riB k).length ≤ 2 := by
  unfold riB
  split
  · exact Nat.le_refl _
  · split
    · exact Nat.le_refl _
    · exact Nat.le_succ _
theorem m_asksActs {b : Int → Int} (hm : h.2.2 m = some (mO m f0 f4 f5 f6 f7 f8 f9 f12 f13 f14 f17 f18 f20 f21 f22 f23)) (hb : h.2.2 (m + 8) = some (cArr 0 20 (ix b))) (hr : 0 ≤ f20 ∧ f20 ≤ 700) {x : Int} : wpC G (d + 5) 217 [vR m, vI x] h Q = Q (some (vI (asV f21 f22 f23 x))) (hset (hset h (m + 8) (cArr 0 20 (ix (rbL b f20 (asB f21))))) m (mO m f0 f4 f5 f6 f7 f8 f9 f12 f13 f14 f17 f18 (f20 + (asB f21).length) f21 f22 f23)) := by
  have n8 : ¬ m + 8 = m := by omega
  have hU := fun (K : KQ) => m_isUnder (G := G) (d := d + 3) (h := h) (Q := K) (k := f21) (c := 2) (by omega)
  have h1 := fun (x : Int) (K : KQ) => m_ranBody (G := G) (d := d + 3) (Q := K) hm hb (by omega) (x := x)
  have h2 := fun (x : Int) (K : KQ) => m_plainAsks (G := G) (d := d) (Q := K) hm hb (by omega) (x := x)
  have h3 := fun (z x : Int) (K : KQ) => m_plainAsks (G := G) (d := d) (Q := K) (m := m) (h := hset (hset h (m + 8) (cArr 0 20 (ix (rbF b f20 z)))) m (mO m f0 f4 f5 f6 f7 f8 f9 f12 f13 f14 f17 f18 (f20 + 1) f21 f22 f23)) (b := rbF b f20 z) hs_eq (by rw [hs_ne n8, hs_eq]) (by omega) (x := x)
  rw [e217]
  unfold asV asB
  by_cases c : UND f21 2
  · rw [if_pos c, if_pos c]
    rw [if_pos c] at hU
    simp (disch := omega) only [U217, KK, Int.reduceEq, not_false_iff, ↓reduceIte, ↓if_pos, ↓if_neg, hm, hU, h1, h3, hs_eq, GX13, xt_o, VS13, true_and, List.length_nil, List.length_cons, Nat.reduceAdd, Nat.reduceLeDiff, Nat.zero_le]
    rw [a_comp n8, show f20 + 1 + 1 + ((riB f21).length : Int) = f20 + (([21] ++ 2 :: riB f21).length : Int) by rw [List.length_append, List.length_cons, List.length_cons]; simp; omega]
    rfl
  · rw [if_neg c, if_neg c]
    rw [if_neg c] at hU
    by_cases c5 : f21 = 6
    · rw [if_pos c5, if_pos c5]
      simp (disch := omega) only [U217, KK, Int.reduceEq, not_false_iff, ↓reduceIte, ↓if_pos, ↓if_neg, hm, hU, h1, h3, hs_eq, GX13, xt_o, VS13, true_and, List.length_nil, List.length_cons, Nat.reduceAdd, Nat.reduceLeDiff, Nat.zero_le]
      rw [a_comp n8, show f20 + 1 + 1 + ((riB f21).length : Int) = f20 + (([61] ++ 2 :: riB f21).length : Int) by rw [List.length_append, List.length_cons, List.length_cons]; simp; omega]
      rfl
    · rw [if_neg c5, if_neg c5]
      simp (disch := omega) only [U217, KK, Int.reduceEq, not_false_iff, ↓reduceIte, ↓if_pos, ↓if_neg, hm, hU, h2, GX13, xt_o, VS13, true_and, List.length_nil, List.length_cons, Nat.reduceAdd, Nat.reduceLeDiff, Nat.zero_le]
      rw [show f20 + 1 + ((riB f21).length : Int) = f20 + (([] ++ 2 :: riB f21).length : Int) by rw [List.nil_append, List.length_cons]; omega]
      rfl
end M21
