/-! the class's constructor; how all is at first -/
section X1
variable {G : MG} {d : Nat} {h h' : MH}
theorem wI_fr {w : Nat} (z : wI G w h) (f : ∀ q, w ≤ q → q < w + 22 → h'.2.2 q = h.2.2 q) : wI G w h' := by
  obtain ⟨z1, z2, ⟨W, z3, z3'⟩, z4, z5, z6, z7, ⟨v1, v2, v3, v4, v5⟩, z8⟩ := z
  have rw' : ∀ {o cap : Nat}, w ≤ o → o + 2 < w + 22 → (∀ f g, qRW h o cap 0 f g) → ∀ f g, qRW h' o cap 0 f g := fun {o cap} o1 o2 q f1 g1 => by
    obtain ⟨r1, r2, y1, y2, y3, y4⟩ := q f1 g1
    exact ⟨r1, r2, (f _ (by omega) (by omega)).trans y1, (f _ (by omega) (by omega)).trans y2, (f _ (by omega) (by omega)).trans y3, y4⟩
  exact ⟨(f _ (by omega) (by omega)).trans z1, fun j j1 j3 => (f _ (by omega) (by omega)).trans (z2 j j1 j3), ⟨W, (f _ (by omega) (by omega)).trans z3, z3'⟩, (f _ (by omega) (by omega)).trans z4, rw' (by omega) (by omega) z5, rw' (by omega) (by omega) z6, rw' (by omega) (by omega) z7, ⟨(f _ (by omega) (by omega)).trans v1, (f _ (by omega) (by omega)).trans v2, (f _ (by omega) (by omega)).trans v3, (f _ (by omega) (by omega)).trans v4, (f _ (by omega) (by omega)).trans v5⟩, (f _ (by omega) (by omega)).trans z8⟩
theorem A_init {x : Nat} (hx : h.2.2 x = some (cObj 12 [vO none, vO none, vO none, vO none, vI 0])) (ex : G.1 + h.1 = x + 1) (hr : h.1 + 200 ≤ maxC ∧ h.2.1 + 9000 ≤ maxS) : ∃ h' : MH, (wI G (x + 1) h' ∧ wI G (x + 23) h' ∧ wI G (x + 45) h' ∧ ∀ f g, qRW h' (x + 67) 20 0 f g) ∧ h'.2.2 x = some (xO x 0) ∧ (∀ q, (q < x ∨ x + 70 ≤ q) → h'.2.2 q = h.2.2 q) ∧ (h'.1 = h.1 + 69 ∧ h.2.1 ≤ h'.2.1 ∧ h'.2.1 ≤ h.2.1 + 1200) ∧ ∀ Q : KQ, wpC G (d + 6) 0 [vR x] h Q = Q none h' := by
  obtain ⟨h0, y0⟩ : ∃ h0, h0 = h := ⟨_, rfl⟩
  rw [← y0] at hx ex hr
  have a0 := hx
  have em0 : G.1 + h0.1 = x + 1 := by omega
  have rc0 : (h0.1 + 1 ≤ maxC) = True := eq_true (by omega)
  have rs0 : (h0.2.1 + 13 ≤ maxS) = True := eq_true (by omega)
  obtain ⟨p1, py1⟩ : ∃ p, p = hnew h0 (x + 1) 13 (cObj 11 [vO none, vO none, vO none, vO none, vO none, vI 0, vO none, vO none, vO none, vI 0, vI 0, vO none, vO none]) := ⟨_, rfl⟩
  have pk1 : p1.1 = h0.1 + 1 ∧ p1.2.1 = h0.2.1 + 13 := by rw [py1]; exact ⟨rfl, rfl⟩
  have pn1 : ∀ q, ¬ q = x + 1 → p1.2.2 q = h0.2.2 q := fun q hq => by rw [py1]; exact hn_ne hq
  obtain ⟨r1, rq1, rf1, ⟨rd1, re1, rg1⟩, rw1⟩ := W_init (G := G) (d := d + 1) (h := p1) (w := x + 1) (by rw [py1]; exact hn_eq) (by omega) ⟨by omega, by omega⟩
  obtain ⟨h1, y1⟩ : ∃ h', h' = hset r1 x (cObj 12 [vR (x + 1), vO none, vO none, vO none, vI 0]) := ⟨_, rfl⟩
  have a1 : h1.2.2 x = some (cObj 12 [vR (x + 1), vO none, vO none, vO none, vI 0]) := by rw [y1]; exact hs_eq
  have kk1 : h1.1 = r1.1 ∧ h1.2.1 = r1.2.1 := by rw [y1]; exact ⟨rfl, rfl⟩
  have cr1 : ∀ q, ¬ q = x → h1.2.2 q = r1.2.2 q := fun q hq => by rw [y1]; exact hs_ne hq
  have c1 : ∀ q, ¬ q = x → (q < x + 1 ∨ x + 23 ≤ q) → h1.2.2 q = h0.2.2 q := fun q hq h2 => by rw [cr1 q hq, rf1 q (by omega), pn1 q (by omega)]
  have k1 : ∀ Q : KQ, wp G (d + 5) 0 4 [some (vR x)] [] h0 Q = wp G (d + 5) 0 15 [some (vR x)] [] h1 Q := fun Q => by
    have hi : ∀ K : KQ, wpC G (d + 5) 44 [vR (x + 1)] (hnew h0 (x + 1) 13 (cObj 11 [vO none, vO none, vO none, vO none, vO none, vI 0, vO none, vO none, vO none, vI 0, vI 0, vO none, vO none])) K = K none r1 := fun K => by rw [← py1]; exact rw1 K
    have ar : r1.2.2 x = some (cObj 12 [vO none, vO none, vO none, vO none, vI 0]) := by rw [rf1 x (by omega), pn1 x (by omega)]; exact a0
    simp (disch := omega) only [KK, Int.reduceEq, not_false_iff, ↓reduceIte, ↓if_pos, ↓if_neg, xt_o, true_and, nlO_i, nlO_n, nlO_r, List.length_nil, List.length_cons, Nat.reduceAdd, Nat.reduceLeDiff, Nat.zero_le, u0_4, u0_5, u0_8, u0_8a, u0_9, u0_12, em0, rc0, rs0, hi, hn_eq, ar, PX12, OKS, or_true, true_or]
    rw [← y1]
  have em1 : G.1 + h1.1 = x + 23 := by omega
  have rc1 : (h1.1 + 1 ≤ maxC) = True := eq_true (by omega)
  have rs1 : (h1.2.1 + 13 ≤ maxS) = True := eq_true (by omega)
  obtain ⟨p2, py2⟩ : ∃ p, p = hnew h1 (x + 23) 13 (cObj 11 [vO none, vO none, vO none, vO none, vO none, vI 0, vO none, vO none, vO none, vI 0, vI 0, vO none, vO none]) := ⟨_, rfl⟩
  have pk2 : p2.1 = h1.1 + 1 ∧ p2.2.1 = h1.2.1 + 13 := by rw [py2]; exact ⟨rfl, rfl⟩
  have pn2 : ∀ q, ¬ q = x + 23 → p2.2.2 q = h1.2.2 q := fun q hq => by rw [py2]; exact hn_ne hq
  obtain ⟨r2, rq2, rf2, ⟨rd2, re2, rg2⟩, rw2⟩ := W_init (G := G) (d := d + 1) (h := p2) (w := x + 23) (by rw [py2]; exact hn_eq) (by omega) ⟨by omega, by omega⟩
  obtain ⟨h2, y2⟩ : ∃ h', h' = hset r2 x (cObj 12 [vR (x + 1), vR (x + 23), vO none, vO none, vI 0]) := ⟨_, rfl⟩
  have a2 : h2.2.2 x = some (cObj 12 [vR (x + 1), vR (x + 23), vO none, vO none, vI 0]) := by rw [y2]; exact hs_eq
  have kk2 : h2.1 = r2.1 ∧ h2.2.1 = r2.2.1 := by rw [y2]; exact ⟨rfl, rfl⟩
  have cr2 : ∀ q, ¬ q = x → h2.2.2 q = r2.2.2 q := fun q hq => by rw [y2]; exact hs_ne hq
  have c2 : ∀ q, ¬ q = x → (q < x + 23 ∨ x + 45 ≤ q) → h2.2.2 q = h1.2.2 q := fun q hq h2 => by rw [cr2 q hq, rf2 q (by omega), pn2 q (by omega)]
  have k2 : ∀ Q : KQ, wp G (d + 5) 0 15 [some (vR x)] [] h1 Q = wp G (d + 5) 0 26 [some (vR x)] [] h2 Q := fun Q => by
    have hi : ∀ K : KQ, wpC G (d + 5) 44 [vR (x + 23)] (hnew h1 (x + 23) 13 (cObj 11 [vO none, vO none, vO none, vO none, vO none, vI 0, vO none, vO none, vO none, vI 0, vI 0, vO none, vO none])) K = K none r2 := fun K => by rw [← py2]; exact rw2 K
    have ar : r2.2.2 x = some (cObj 12 [vR (x + 1), vO none, vO none, vO none, vI 0]) := by rw [rf2 x (by omega), pn2 x (by omega)]; exact a1
    simp (disch := omega) only [KK, Int.reduceEq, not_false_iff, ↓reduceIte, ↓if_pos, ↓if_neg, xt_o, true_and, nlO_i, nlO_n, nlO_r, List.length_nil, List.length_cons, Nat.reduceAdd, Nat.reduceLeDiff, Nat.zero_le, u0_15, u0_16, u0_19, u0_19a, u0_20, u0_23, em1, rc1, rs1, hi, hn_eq, ar, PX12, OKS, or_true, true_or]
    rw [← y2]
  have em2 : G.1 + h2.1 = x + 45 := by omega
  have rc2 : (h2.1 + 1 ≤ maxC) = True := eq_true (by omega)
  have rs2 : (h2.2.1 + 13 ≤ maxS) = True := eq_true (by omega)
  obtain ⟨p3, py3⟩ : ∃ p, p = hnew h2 (x + 45) 13 (cObj 11 [vO none, vO none, vO none, vO none, vO none, vI 0, vO none, vO none, vO none, vI 0, vI 0, vO none, vO none]) := ⟨_, rfl⟩
  have pk3 : p3.1 = h2.1 + 1 ∧ p3.2.1 = h2.2.1 + 13 := by rw [py3]; exact ⟨rfl, rfl⟩
  have pn3 : ∀ q, ¬ q = x + 45 → p3.2.2 q = h2.2.2 q := fun q hq => by rw [py3]; exact hn_ne hq
  obtain ⟨r3, rq3, rf3, ⟨rd3, re3, rg3⟩, rw3⟩ := W_init (G := G) (d := d + 1) (h := p3) (w := x + 45) (by rw [py3]; exact hn_eq) (by omega) ⟨by omega, by omega⟩
  obtain ⟨h3, y3⟩ : ∃ h', h' = hset r3 x (cObj 12 [vR (x + 1), vR (x + 23), vR (x + 45), vO none, vI 0]) := ⟨_, rfl⟩
  have a3 : h3.2.2 x = some (cObj 12 [vR (x + 1), vR (x + 23), vR (x + 45), vO none, vI 0]) := by rw [y3]; exact hs_eq
  have kk3 : h3.1 = r3.1 ∧ h3.2.1 = r3.2.1 := by rw [y3]; exact ⟨rfl, rfl⟩
  have cr3 : ∀ q, ¬ q = x → h3.2.2 q = r3.2.2 q := fun q hq => by rw [y3]; exact hs_ne hq
  have c3 : ∀ q, ¬ q = x → (q < x + 45 ∨ x + 67 ≤ q) → h3.2.2 q = h2.2.2 q := fun q hq h2 => by rw [cr3 q hq, rf3 q (by omega), pn3 q (by omega)]
  have k3 : ∀ Q : KQ, wp G (d + 5) 0 26 [some (vR x)] [] h2 Q = wp G (d + 5) 0 37 [some (vR x)] [] h3 Q := fun Q => by
    have hi : ∀ K : KQ, wpC G (d + 5) 44 [vR (x + 45)] (hnew h2 (x + 45) 13 (cObj 11 [vO none, vO none, vO none, vO none, vO none, vI 0, vO none, vO none, vO none, vI 0, vI 0, vO none, vO none])) K = K none r3 := fun K => by rw [← py3]; exact rw3 K
    have ar : r3.2.2 x = some (cObj 12 [vR (x + 1), vR (x + 23), vO none, vO none, vI 0]) := by rw [rf3 x (by omega), pn3 x (by omega)]; exact a2
    simp (disch := omega) only [KK, Int.reduceEq, not_false_iff, ↓reduceIte, ↓if_pos, ↓if_neg, xt_o, true_and, nlO_i, nlO_n, nlO_r, List.length_nil, List.length_cons, Nat.reduceAdd, Nat.reduceLeDiff, Nat.zero_le, u0_26, u0_27, u0_30, u0_30a, u0_31, u0_34, em2, rc2, rs2, hi, hn_eq, ar, PX12, OKS, or_true, true_or]
    rw [← y3]
  have em3 : G.1 + h3.1 = x + 67 := by omega
  have rc3 : (h3.1 + 1 ≤ maxC) = True := eq_true (by omega)
  have rs3 : (h3.2.1 + 3 ≤ maxS) = True := eq_true (by omega)
  obtain ⟨p4, py4⟩ : ∃ p, p = hnew h3 (x + 67) 3 (cObj 7 [vO none, vO none, vI 0]) := ⟨_, rfl⟩
  have pk4 : p4.1 = h3.1 + 1 ∧ p4.2.1 = h3.2.1 + 3 := by rw [py4]; exact ⟨rfl, rfl⟩
  have pn4 : ∀ q, ¬ q = x + 67 → p4.2.2 q = h3.2.2 q := fun q hq => by rw [py4]; exact hn_ne hq
  obtain ⟨r4, rq4, rf4, ⟨rd4, re4⟩, rw4⟩ := i_rows (G := G) (d := d + 3) (h := p4) (o := x + 67) (cap := 20) (by rw [py4]; exact hn_eq) (by omega) (by omega) ⟨by omega, by omega⟩
  obtain ⟨h4, y4⟩ : ∃ h', h' = hset r4 x (cObj 12 [vR (x + 1), vR (x + 23), vR (x + 45), vR (x + 67), vI 0]) := ⟨_, rfl⟩
  have a4 : h4.2.2 x = some (cObj 12 [vR (x + 1), vR (x + 23), vR (x + 45), vR (x + 67), vI 0]) := by rw [y4]; exact hs_eq
  have kk4 : h4.1 = r4.1 ∧ h4.2.1 = r4.2.1 := by rw [y4]; exact ⟨rfl, rfl⟩
  have cr4 : ∀ q, ¬ q = x → h4.2.2 q = r4.2.2 q := fun q hq => by rw [y4]; exact hs_ne hq
  have c4 : ∀ q, ¬ q = x → (q < x + 67 ∨ x + 70 ≤ q) → h4.2.2 q = h3.2.2 q := fun q hq h2 => by rw [cr4 q hq, rf4 q (by omega), pn4 q (by omega)]
  have k4 : ∀ Q : KQ, wp G (d + 5) 0 37 [some (vR x)] [] h3 Q = wp G (d + 5) 0 50 [some (vR x)] [] h4 Q := fun Q => by
    have hi : ∀ K : KQ, wpC G (d + 5) 85 [vR (x + 67), vI 20] (hnew h3 (x + 67) 3 (cObj 7 [vO none, vO none, vI 0])) K = K none r4 := fun K => by rw [← py4]; exact rw4 K
    have ar : r4.2.2 x = some (cObj 12 [vR (x + 1), vR (x + 23), vR (x + 45), vO none, vI 0]) := by rw [rf4 x (by omega), pn4 x (by omega)]; exact a3
    simp (disch := omega) only [KK, Int.reduceEq, not_false_iff, ↓reduceIte, ↓if_pos, ↓if_neg, xt_o, true_and, nlO_i, nlO_n, nlO_r, List.length_nil, List.length_cons, Nat.reduceAdd, Nat.reduceLeDiff, Nat.zero_le, u0_37, u0_38, u0_41, u0_41a, u0_42, u0_44, u0_47, em3, rc3, rs3, hi, hn_eq, ar, PX12, OKS, or_true, true_or]
    rw [← y4]
  refine ⟨h4, ⟨wI_fr rq1 (fun q q1 q2 => ?_), wI_fr rq2 (fun q q1 q2 => ?_), wI_fr rq3 (fun q q1 q2 => ?_), fun f g => ?_⟩, a4, fun q hq => ?_, ⟨?_, ?_, ?_⟩, fun Q => ?_⟩
  · rw [c4 q (by omega) (by omega), c3 q (by omega) (by omega), c2 q (by omega) (by omega), cr1 q (by omega)]
  · rw [c4 q (by omega) (by omega), c3 q (by omega) (by omega), cr2 q (by omega)]
  · rw [c4 q (by omega) (by omega), cr3 q (by omega)]
  · obtain ⟨r1, r2, z1, z2, z3, z4⟩ := rq4 f g
    exact ⟨r1, r2, (cr4 _ (by omega)).trans z1, (cr4 _ (by omega)).trans z2, (cr4 _ (by omega)).trans z3, z4⟩
  · rw [c4 q (by omega) (by omega), c3 q (by omega) (by omega), c2 q (by omega) (by omega), c1 q (by omega) (by omega), y0]
  · rw [← y0]; omega
  · rw [← y0]; omega
  · rw [← y0]; omega
  · have ke : ∀ Q : KQ, wp G (d + 5) 0 50 [some (vR x)] [] h4 Q = Q none h4 := fun Q => by
      have e : hset h4 x (cObj 12 [vR (x + 1), vR (x + 23), vR (x + 45), vR (x + 67), vI 0]) = h4 := hs_same a4
      simp (disch := omega) only [KK, Int.reduceEq, not_false_iff, ↓reduceIte, ↓if_pos, ↓if_neg, xt_o, true_and, nlO_i, nlO_n, nlO_r, List.length_nil, List.length_cons, Nat.reduceAdd, Nat.reduceLeDiff, Nat.zero_le, u0_50, u0_51, u0_52, u0_55, a4, e, PX12, OKS, or_true, true_or]
    rw [← y0, e0]
    simp (disch := omega) only [KK, Int.reduceEq, not_false_iff, ↓reduceIte, ↓if_pos, ↓if_neg, xt_o, true_and, nlO_i, nlO_n, nlO_r, List.length_nil, List.length_cons, Nat.reduceAdd, Nat.reduceLeDiff, Nat.zero_le, u0_0, u0_1]
    rw [k1, k2, k3, k4, ke]
end X1
theorem s00_v (k : Int) : s00 k = if k = 34 then -1 else if 35 ≤ k ∧ k ≤ 42 then 1 else 0 := by
  unfold s00 up
  by_cases c : k = 34
  · rw [if_pos c]
    rw [if_neg (by omega), if_neg (by omega), if_neg (by omega), if_neg (by omega), if_neg (by omega), if_neg (by omega), if_neg (by omega), if_neg (by omega), if_pos c]
  · rw [if_neg c, if_neg c]
    by_cases c2 : 35 ≤ k ∧ k ≤ 42
    · rw [if_pos c2]
      rcases (show k = 35 ∨ k = 36 ∨ k = 37 ∨ k = 38 ∨ k = 39 ∨ k = 40 ∨ k = 41 ∨ k = 42 by omega) with e | e | e | e | e | e | e | e <;> subst e <;> rfl
    · rw [if_neg c2, if_neg (by omega), if_neg (by omega), if_neg (by omega), if_neg (by omega), if_neg (by omega), if_neg (by omega), if_neg (by omega), if_neg (by omega)]
theorem s00_0 {k : Int} (h : k < 34 ∨ 43 ≤ k) : s00 k = 0 := by
  rw [s00_v, if_neg (by omega), if_neg (by omega)]
theorem s00_34 : s00 34 = -1 := by rw [s00_v, if_pos rfl]
theorem s00_w {f : Int} (h : 0 ≤ f ∧ f < 8) : s00 (35 + f) = 1 := by
  rw [s00_v, if_neg (by omega), if_pos (by omega)]
theorem ok00 : okP s00 := by
  have e34 := s00_34
  have eS : STEPM s00 = 0 := if_pos e34
  refine ⟨⟨⟨⟨by omega, by omega, by omega, by omega, by rw [eS]; trivial, by rw [s00_0 (by omega)]; omega, by rw [s00_0 (by omega)]; omega⟩, by rw [s00_0 (by omega)]; omega, by rw [s00_0 (by omega)]; omega, fun p p0 p1 => by rw [s00_0 (by omega)] at p1; omega, fun a a0 a1 => by rw [s00_0 (by omega)]; omega⟩, by rw [e34, s00_0 (by omega)]; omega, by rw [s00_0 (by omega)]; omega, fun f f0 f1 => by rw [s00_w ⟨f0, f1⟩]; omega, fun k k0 k1 => Or.inl (s00_0 (by omega)), fun i i0 i1 => by rw [s00_0 (by omega)]; omega, fun a a0 a1 => ?_⟩, by rw [s00_0 (by omega)]; omega, by rw [s00_0 (by omega)]; omega, by rw [s00_0 (by omega)]; omega, by rw [s00_0 (by omega)]; omega, fun i i0 i1 => by rw [s00_0 (by omega)] at i1; omega, fun i i0 i1 => by rw [s00_0 (by omega)] at i1; omega, fun i i0 i1 => by rw [s00_0 (by omega)] at i1; omega, fun i i0 i1 => by rw [s00_0 (by omega)] at i1; omega, fun i i0 i1 => by rw [s00_0 (by omega)] at i1; omega, by rw [s00_0 (by omega)]; omega⟩
  rw [s00_0 (k := 16 + a) (by omega), s00_0 (k := 1 + a) (by omega), s00_0 (k := 6 + a) (by omega), s00_0 (k := 11 + a) (by omega)]
  omega
section X2
variable {G : MG} {h : MH}
def adZ (G : MG) : Int → Nat := fun i => G.1 + 700000 + (if 0 ≤ i then (2 * i).toNat else (-2 * i - 1).toNat)
theorem adZ_ge {i : Int} : G.1 + 700000 ≤ adZ G i := Nat.le_add_right _ _
theorem adZ_in {i j : Int} (e : adZ G i = adZ G j) : i = j := by
  unfold adZ at e
  by_cases c : 0 ≤ i
  · rw [if_pos c] at e
    by_cases c2 : 0 ≤ j
    · rw [if_pos c2] at e; omega
    · rw [if_neg c2] at e; omega
  · rw [if_neg c] at e
    by_cases c2 : 0 ≤ j
    · rw [if_pos c2] at e; omega
    · rw [if_neg c2] at e; omega
theorem W_0 {w : Nat} {Bs : Nat → Prop} {b : Int} {vd : Int → Nat} (z : wI G w h) (hB : Bs (w + 15 + 4) ∧ ¬ Bs (w + 15 + 5)) : qW G Bs (adZ G) b w vd s00 h := by
  obtain ⟨z1, z2, ⟨W, z3, z3'⟩, z4, z5, z6, z7, ⟨v1, v2, v3, v4, v5⟩, z8⟩ := z
  have e27 : s00 27 = 0 := s00_0 (by omega)
  have e28 : s00 28 = 0 := s00_0 (by omega)
  have e29 : s00 29 = 0 := s00_0 (by omega)
  have eA : AWAYS s00 = 0 := by unfold AWAYS; rw [e27]; rfl
  refine ⟨⟨by rw [s00_0 (k := 33) (by omega), s00_0 (k := 0) (by omega), eA]; exact z1, ⟨W, z3, fun i i0 i1 => (z3' i i0 (by omega)).trans (s00_w ⟨i0, by omega⟩).symm⟩, ⟨fun _ => 0, z4, fun i i0 i1 => (s00_0 (by omega)).symm⟩, by rw [s00_0 (k := 30) (by omega)]; exact z5 _ _, by rw [s00_0 (k := 31) (by omega)]; exact z6 _ _, by rw [s00_0 (k := 32) (by omega)]; exact z7 _ _, ⟨0, 0, 0, 0, fun _ => 0, fun _ => 0, fun _ => 0, fun _ => 0, v1, v4, v5, v2, v3, hB, by omega, by omega, by omega, rfl⟩, 0, 0, 0, 0, z8⟩, ?_⟩
  unfold qWY
  rw [e27, e28, e29]
  exact ⟨⟨0, Or.inl ⟨z2 1 (by omega) (by omega), rfl, adZ_ge⟩⟩, ⟨0, Or.inl ⟨z2 2 (by omega) (by omega), rfl, adZ_ge⟩⟩, ⟨0, Or.inl ⟨z2 3 (by omega) (by omega), rfl, adZ_ge⟩⟩, fun i i0 i1 => by omega, fun i i0 i1 => by omega, fun i i0 i1 => by omega⟩
theorem K_0 (hx : h.2.2 G.1 = some (xO G.1 0)) (z1 : wI G (G.1 + 1) h) (z2 : wI G (G.1 + 23) h) (z3 : wI G (G.1 + 45) h) (z4 : ∀ f g, qRW h (G.1 + 67) 20 0 f g) (h79 : h.1 = 79) (hf : qFs G h) (hE : h.2.2 (G.2.1 GE) = some (cRef 1 0 (fun _ => none))) (hE2 : G.2.1 GE < G.1) : qK G (fun a => a = G.1 + 1 + 15 + 4 ∨ a = G.1 + 23 + 15 + 4 ∨ a = G.1 + 45 + 15 + 4) (adZ G) (fun _ => 0) (fun _ => 0) (fun _ => 0) s00 s00 s00 0 0 (fun _ => 0) h := by
  have e29 : s00 29 = 0 := s00_0 (by omega)
  refine ⟨⟨⟨fun i j e => adZ_in e, fun i => by have := adZ_ge (G := G) (i := i); omega⟩, fun i => Or.inr adZ_ge⟩, fun a q => ⟨by omega, Or.inl (by omega)⟩, hf, ⟨hx, Or.inl rfl⟩, W_0 z1 (by omega), W_0 z2 (by omega), W_0 z3 (by omega), ⟨ok00, ok00, ok00.1⟩, ⟨_, z4 _ (fun _ => 0)⟩, by omega, by omega, fun i i0 i1 => by omega, fun i i0 i1 => by omega, fun i i0 i1 => by omega, by omega, hE, hE2⟩
end X2
