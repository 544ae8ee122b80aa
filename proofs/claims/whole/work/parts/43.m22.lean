/-! warns -/
section M22
variable {G : MG} {d : Nat} {Q : KQ} {h : MH}
variable {m : Nat} {f0 f4 f5 f6 f7 f8 f9 f12 f13 f14 f17 f18 f20 f21 f22 f23 : Int}
def ptV (k n v x : Int) : Int := iBin 2 (asV k n v x) 2
theorem asB_len {k : Int} : (asB k).length ≤ 4 := by
  unfold asB
  have := riB_len (k := k)
  rw [List.length_append, List.length_cons]
  split
  · show 1 + _ ≤ 4; omega
  · split
    · show 1 + _ ≤ 4; omega
    · show 0 + _ ≤ 4; omega
theorem m_plainTelling {b : Int → Int} (hm : h.2.2 m = some (mO m f0 f4 f5 f6 f7 f8 f9 f12 f13 f14 f17 f18 f20 f21 f22 f23)) (hb : h.2.2 (m + 8) = some (cArr 0 20 (ix b))) (hr : 0 ≤ f20 ∧ f20 ≤ 600) {x : Int} : wpC G (d + 6) 220 [vR m, vI x] h Q = Q (some (vI (ptV f21 f22 f23 x))) (hset (hset h (m + 8) (cArr 0 20 (ix (rbL b f20 (3 :: asB f21))))) m (mO m f0 f4 f5 f6 f7 f8 f9 f12 f13 f14 f17 f18 (f20 + 1 + (asB f21).length) f21 f22 f23)) := by
  have n8 : ¬ m + 8 = m := by omega
  have h1 := fun (x : Int) (K : KQ) => m_ranBody (G := G) (d := d + 4) (Q := K) hm hb (by omega) (x := x)
  have h3 := fun (x : Int) (K : KQ) => m_asksActs (G := G) (d := d) (Q := K) (m := m) (h := hset (hset h (m + 8) (cArr 0 20 (ix (rbF b f20 3)))) m (mO m f0 f4 f5 f6 f7 f8 f9 f12 f13 f14 f17 f18 (f20 + 1) f21 f22 f23)) (b := rbF b f20 3) hs_eq (by rw [hs_ne n8, hs_eq]) (by omega) (x := x)
  rw [e220]
  unfold ptV
  simp (disch := omega) only [U220, KK, hm, h1, h3, hs_eq, GX13, xt_o, VS13, true_and, List.length_nil, List.length_cons, Nat.reduceAdd, Nat.reduceLeDiff, Nat.zero_le]
  rw [a_comp n8]
  rfl
end M22
