/-! rings -/
theorem a_comp {h : MH} {a b : Nat} {A B C D : MC} (e : ¬ a = b) : hset (hset (hset (hset h a A) b B) a C) b D = hset (hset h a C) b D := by
  rw [hs_comm (h := hset h a A) (a := b) (b := a) (fun z => e z.symm), hs_hs, hs_hs]
section M19
variable {G : MG} {d : Nat} {Q : KQ} {h : MH}
variable {m : Nat} {f0 f4 f5 f6 f7 f8 f9 f12 f13 f14 f17 f18 f20 f21 f22 f23 : Int}
def riV (k n x : Int) : Int := if UND k 1 then iBin 0 (iBin 2 x 3) n else if k = 5 then iBin 5 (iBin 0 x n) n else iBin 0 x n
def riB (k : Int) : List Int := if UND k 1 then [11, 1] else if k = 5 then [51, 1] else [1]
theorem m_ringsActs {b : Int → Int} (hm : h.2.2 m = some (mO m f0 f4 f5 f6 f7 f8 f9 f12 f13 f14 f17 f18 f20 f21 f22 f23)) (hb : h.2.2 (m + 8) = some (cArr 0 20 (ix b))) (hr : 0 ≤ f20 ∧ f20 ≤ 900) {x : Int} : wpC G (d + 3) 213 [vR m, vI x] h Q = Q (some (vI (riV f21 f22 x))) (hset (hset h (m + 8) (cArr 0 20 (ix (rbL b f20 (riB f21))))) m (mO m f0 f4 f5 f6 f7 f8 f9 f12 f13 f14 f17 f18 (f20 + (riB f21).length) f21 f22 f23)) := by
  have n8 : ¬ m + 8 = m := by omega
  have hU := fun (K : KQ) => m_isUnder (G := G) (d := d + 1) (h := h) (Q := K) (k := f21) (c := 1) (by omega)
  have h1 := fun (x : Int) (K : KQ) => m_ranBody (G := G) (d := d + 1) (Q := K) hm hb (by omega) (x := x)
  have h2 := fun (x : Int) (K : KQ) => m_plainRings (G := G) (d := d) (Q := K) hm hb (by omega) (x := x)
  have h3 := fun (z x : Int) (K : KQ) => m_plainRings (G := G) (d := d) (Q := K) (m := m) (h := hset (hset h (m + 8) (cArr 0 20 (ix (rbF b f20 z)))) m (mO m f0 f4 f5 f6 f7 f8 f9 f12 f13 f14 f17 f18 (f20 + 1) f21 f22 f23)) (b := rbF b f20 z) hs_eq (by rw [hs_ne n8, hs_eq]) (by omega) (x := x)
  rw [e213]
  unfold riV riB
  by_cases c : UND f21 1
  · rw [if_pos c, if_pos c]
    rw [if_pos c] at hU
    simp (disch := omega) only [U213, KK, Int.reduceEq, not_false_iff, ↓reduceIte, ↓if_pos, ↓if_neg, hm, hU, h1, h3, hs_eq, GX13, xt_o, VS13, true_and, List.length_nil, List.length_cons, Nat.reduceAdd, Nat.reduceLeDiff, Nat.zero_le]
    rw [a_comp n8, show f20 + 1 + 1 = f20 + ((2 : Nat) : Int) by omega]
    rfl
  · rw [if_neg c, if_neg c]
    rw [if_neg c] at hU
    by_cases c5 : f21 = 5
    · rw [if_pos c5, if_pos c5]
      simp (disch := omega) only [U213, KK, Int.reduceEq, not_false_iff, ↓reduceIte, ↓if_pos, ↓if_neg, hm, hU, h1, h3, hs_eq, GX13, xt_o, VS13, true_and, List.length_nil, List.length_cons, Nat.reduceAdd, Nat.reduceLeDiff, Nat.zero_le]
      rw [a_comp n8, show f20 + 1 + 1 = f20 + ((2 : Nat) : Int) by omega]
      rfl
    · rw [if_neg c5, if_neg c5]
      simp (disch := omega) only [U213, KK, Int.reduceEq, not_false_iff, ↓reduceIte, ↓if_pos, ↓if_neg, hm, hU, h2, GX13, xt_o, VS13, true_and, List.length_nil, List.length_cons, Nat.reduceAdd, Nat.reduceLeDiff, Nat.zero_le]
      rfl
end M19
