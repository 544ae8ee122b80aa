/-! asks -/
theorem rbL_app {b : Int → Int} : ∀ (l l' : List Int) (r : Int), rbL (rbL b r l) (r + l.length) l' = rbL b r (l ++ l') := by
  intro l
  induction l generalizing b with
  | nil => intro l' r; show rbL b (r + ((0 : Nat) : Int)) l' = _; rw [show r + ((0 : Nat) : Int) = r by omega]; rfl
  | cons x l ih =>
    intro l' r
    show rbL (rbL (rbF b r x) (r + 1) l) (r + ((l.length + 1 : Nat) : Int)) l' = _
    rw [show r + ((l.length + 1 : Nat) : Int) = (r + 1) + (l.length : Int) by omega, ih]
    rfl
section M20
variable {G : MG} {d : Nat} {Q : KQ} {h : MH}
variable {m : Nat} {f0 f4 f5 f6 f7 f8 f9 f12 f13 f14 f17 f18 f20 f21 f22 f23 : Int}
def paV (k n v x : Int) : Int := iBin 1 (riV k n x) v
theorem m_plainAsks {b : Int → Int} (hm : h.2.2 m = some (mO m f0 f4 f5 f6 f7 f8 f9 f12 f13 f14 f17 f18 f20 f21 f22 f23)) (hb : h.2.2 (m + 8) = some (cArr 0 20 (ix b))) (hr : 0 ≤ f20 ∧ f20 ≤ 800) {x : Int} : wpC G (d + 4) 218 [vR m, vI x] h Q = Q (some (vI (paV f21 f22 f23 x))) (hset (hset h (m + 8) (cArr 0 20 (ix (rbL b f20 (2 :: riB f21))))) m (mO m f0 f4 f5 f6 f7 f8 f9 f12 f13 f14 f17 f18 (f20 + 1 + (riB f21).length) f21 f22 f23)) := by
  have n8 : ¬ m + 8 = m := by omega
  have h1 := fun (x : Int) (K : KQ) => m_ranBody (G := G) (d := d + 2) (Q := K) hm hb (by omega) (x := x)
  have h3 := fun (x : Int) (K : KQ) => m_ringsActs (G := G) (d := d) (Q := K) (m := m) (h := hset (hset h (m + 8) (cArr 0 20 (ix (rbF b f20 2)))) m (mO m f0 f4 f5 f6 f7 f8 f9 f12 f13 f14 f17 f18 (f20 + 1) f21 f22 f23)) (b := rbF b f20 2) hs_eq (by rw [hs_ne n8, hs_eq]) (by omega) (x := x)
  rw [e218]
  unfold paV
  simp (disch := omega) only [U218, KK, hm, h1, h3, hs_eq, GX13, xt_o, VS13, true_and, List.length_nil, List.length_cons, Nat.reduceAdd, Nat.reduceLeDiff, Nat.zero_le]
  rw [a_comp n8]
  rfl
end M20
