/-! warns, as a kind does -/
section M23
variable {G : MG} {d : Nat} {Q : KQ} {h : MH}
variable {m : Nat} {f0 f4 f5 f6 f7 f8 f9 f12 f13 f14 f17 f18 f20 f21 f22 f23 : Int}
def waV (k n v x : Int) : Int := if UND k 3 then iBin 5 (ptV k n v x) 7 else if k = 4 then iBin 0 (ptV k n v (iBin 1 x 1)) (riV k n 2) else ptV k n v x
def waB (k : Int) : List Int := if UND k 3 then 31 :: 3 :: asB k else if k = 4 then (41 :: 3 :: asB k) ++ riB k else 3 :: asB k
theorem m_warnsActs {b : Int → Int} (hm : h.2.2 m = some (mO m f0 f4 f5 f6 f7 f8 f9 f12 f13 f14 f17 f18 f20 f21 f22 f23)) (hb : h.2.2 (m + 8) = some (cArr 0 20 (ix b))) (hr : 0 ≤ f20 ∧ f20 ≤ 500) {x : Int} : wpC G (d + 7) 219 [vR m, vI x] h Q = Q (some (vI (waV f21 f22 f23 x))) (hset (hset h (m + 8) (cArr 0 20 (ix (rbL b f20 (waB f21))))) m (mO m f0 f4 f5 f6 f7 f8 f9 f12 f13 f14 f17 f18 (f20 + (waB f21).length) f21 f22 f23)) := by
  have n8 : ¬ m + 8 = m := by omega
  have hl := asB_len (k := f21)
  have hU := fun (K : KQ) => m_isUnder (G := G) (d := d + 5) (h := h) (Q := K) (k := f21) (c := 3) (by omega)
  have h1 := fun (x : Int) (K : KQ) => m_ranBody (G := G) (d := d + 5) (Q := K) hm hb (by omega) (x := x)
  have h2 := fun (x : Int) (K : KQ) => m_plainTelling (G := G) (d := d) (Q := K) hm hb (by omega) (x := x)
  have h3 := fun (z x : Int) (K : KQ) => m_plainTelling (G := G) (d := d) (Q := K) (m := m) (h := hset (hset h (m + 8) (cArr 0 20 (ix (rbF b f20 z)))) m (mO m f0 f4 f5 f6 f7 f8 f9 f12 f13 f14 f17 f18 (f20 + 1) f21 f22 f23)) (b := rbF b f20 z) hs_eq (by rw [hs_ne n8, hs_eq]) (by omega) (x := x)
  rw [e219]
  unfold waV waB
  by_cases c : UND f21 3
  · rw [if_pos c, if_pos c]
    rw [if_pos c] at hU
    simp (disch := omega) only [U219, KK, Int.reduceEq, not_false_iff, ↓reduceIte, ↓if_pos, ↓if_neg, hm, hU, h1, h3, hs_eq, GX13, xt_o, VS13, true_and, List.length_nil, List.length_cons, Nat.reduceAdd, Nat.reduceLeDiff, Nat.zero_le]
    rw [a_comp n8, show f20 + 1 + 1 + ((asB f21).length : Int) = f20 + (((asB f21).length + 1 + 1 : Nat) : Int) by omega]
    rfl
  · rw [if_neg c, if_neg c]
    rw [if_neg c] at hU
    by_cases c5 : f21 = 4
    · rw [if_pos c5, if_pos c5]
      have h4 := fun (x : Int) (K : KQ) => m_ringsActs (G := G) (d := d + 3) (Q := K) (m := m) (h := hset (hset h (m + 8) (cArr 0 20 (ix (rbL (rbF b f20 41) (f20 + 1) (3 :: asB f21))))) m (mO m f0 f4 f5 f6 f7 f8 f9 f12 f13 f14 f17 f18 (f20 + 1 + 1 + (asB f21).length) f21 f22 f23)) (b := rbL (rbF b f20 41) (f20 + 1) (3 :: asB f21)) hs_eq (by rw [hs_ne n8, hs_eq]) (by omega) (x := x)
      simp (disch := omega) only [U219, KK, Int.reduceEq, not_false_iff, ↓reduceIte, ↓if_pos, ↓if_neg, hm, hU, h1, h3, a_comp n8, h4, hs_eq, GX13, xt_o, VS13, nlO_i, nlO_n, nlO_r, true_and, List.length_nil, List.length_cons, Nat.reduceAdd, Nat.reduceLeDiff, Nat.zero_le]
      rw [← rbL_app, show f20 + 1 + 1 + ((asB f21).length : Int) + ((riB f21).length : Int) = f20 + (((41 :: 3 :: asB f21) ++ riB f21).length : Int) by rw [List.length_append, List.length_cons, List.length_cons]; omega, show f20 + ((41 :: 3 :: asB f21).length : Int) = f20 + 1 + 1 + ((asB f21).length : Int) by rw [List.length_cons, List.length_cons]; omega]
      rfl
    · rw [if_neg c5, if_neg c5]
      simp (disch := omega) only [U219, KK, Int.reduceEq, not_false_iff, ↓reduceIte, ↓if_pos, ↓if_neg, hm, hU, h2, GX13, xt_o, VS13, true_and, List.length_nil, List.length_cons, Nat.reduceAdd, Nat.reduceLeDiff, Nat.zero_le]
      rw [show f20 + 1 + ((asB f21).length : Int) = f20 + (((asB f21).length + 1 : Nat) : Int) by omega]
end M23
