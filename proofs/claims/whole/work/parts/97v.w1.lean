/-! the constructor of a world -/
def wI (G : MG) (w : Nat) (h : MH) : Prop := h.2.2 w = some (wO w 0 0 0) ∧ (∀ j : Nat, 1 ≤ j → j ≤ 3 → h.2.2 (w + j) = some (cObj 0 [vI 0, vR (G.2.1 GE), vI 0])) ∧ (∃ W : Int → Int, h.2.2 (w + 4) = some (cArr 0 8 (ix W)) ∧ ∀ i, 0 ≤ i → i < 8 → W i = 1) ∧ h.2.2 (w + 5) = some (cArr 0 100 (ix (fun _ => 0))) ∧ (∀ f g, qRW h (w + 6) 5 0 f g) ∧ (∀ f g, qRW h (w + 9) 8 0 f g) ∧ (∀ f g, qRW h (w + 12) 8 0 f g) ∧ (h.2.2 (w + 15) = some (cObj 10 [vR (w + 15 + 1), vI 0, vR (w + 15 + 5), vI 0, vR (w + 15 + 2), vR (w + 15 + 3), vI 0, vR (w + 15 + 4), vI 12]) ∧ h.2.2 (w + 15 + 2) = some (cArr 0 10 (ix (fun _ => 0))) ∧ h.2.2 (w + 15 + 3) = some (cArr 0 10 (ix (fun _ => 0))) ∧ h.2.2 (w + 15 + 4) = some (cArr 0 6 (ix (fun _ => 0))) ∧ h.2.2 (w + 15 + 5) = some (cArr 0 0 (ix (fun _ => 0)))) ∧ h.2.2 (w + 21) = some (cObj 1 [vI 0, vI 0, vI 0, vI 0])
section W0
variable {G : MG} {d : Nat} {h : MH}
theorem i_list {a : Nat} (ha : h.2.2 a = some (cObj 0 [vI 0, vO none, vI 0])) : ∀ Q : KQ, wpC G (d + 3) 227 [vR a] h Q = Q none (hset h a (cObj 0 [vI 0, vR (G.2.1 GE), vI 0])) := fun Q => by
  have e : hset h a (cObj 0 [vI 0, vO none, vI 0]) = h := hs_same ha
  rw [e227, show GE = 12 from rfl]
  simp (disch := omega) only [KK, Int.reduceEq, not_false_iff, ↓reduceIte, ↓if_pos, ↓if_neg, xt_o, true_and, nlO_i, nlO_n, nlO_r, List.length_nil, List.length_cons, Nat.reduceAdd, Nat.reduceLeDiff, Nat.zero_le, U227, e237, U237, e238, U238, ha, e, hs_eq, PX0, OKS]
theorem i_fill {a : Nat} {f : Int → Int} (ha : h.2.2 a = some (cArr 0 8 (ix f))) : ∀ Q : KQ, wpC G (d + 1) 242 [vR a, vI 1] h Q = Q none (hset h a (cArr 0 8 (ix (up (up (up (up (up (up (up (up f 0 1) 1 1) 2 1) 3 1) 4 1) 5 1) 6 1) 7 1)))) := fun Q => by
  rw [e242]
  simp (disch := omega) only [KK, Int.reduceEq, not_false_iff, ↓reduceIte, ↓if_pos, ↓if_neg, xt_o, true_and, nlO_i, nlO_n, nlO_r, List.length_nil, List.length_cons, Nat.reduceAdd, Nat.reduceLeDiff, Nat.zero_le, U242, ha, xl_a]
  rw [u242_5]
  simp (disch := omega) only [KK, Int.reduceEq, not_false_iff, ↓reduceIte, ↓if_pos, ↓if_neg, xt_o, true_and, nlO_i, nlO_n, nlO_r, List.length_nil, List.length_cons, Nat.reduceAdd, Nat.reduceLeDiff, Nat.zero_le, U242, ha, hs_eq, hs_hs, xl_a, xs_i, ar_add, Int.reduceAdd, Int.reduceLE]
  rw [u242_5]
  simp (disch := omega) only [KK, Int.reduceEq, not_false_iff, ↓reduceIte, ↓if_pos, ↓if_neg, xt_o, true_and, nlO_i, nlO_n, nlO_r, List.length_nil, List.length_cons, Nat.reduceAdd, Nat.reduceLeDiff, Nat.zero_le, U242, ha, hs_eq, hs_hs, xl_a, xs_i, ar_add, Int.reduceAdd, Int.reduceLE]
  rw [u242_5]
  simp (disch := omega) only [KK, Int.reduceEq, not_false_iff, ↓reduceIte, ↓if_pos, ↓if_neg, xt_o, true_and, nlO_i, nlO_n, nlO_r, List.length_nil, List.length_cons, Nat.reduceAdd, Nat.reduceLeDiff, Nat.zero_le, U242, ha, hs_eq, hs_hs, xl_a, xs_i, ar_add, Int.reduceAdd, Int.reduceLE]
  rw [u242_5]
  simp (disch := omega) only [KK, Int.reduceEq, not_false_iff, ↓reduceIte, ↓if_pos, ↓if_neg, xt_o, true_and, nlO_i, nlO_n, nlO_r, List.length_nil, List.length_cons, Nat.reduceAdd, Nat.reduceLeDiff, Nat.zero_le, U242, ha, hs_eq, hs_hs, xl_a, xs_i, ar_add, Int.reduceAdd, Int.reduceLE]
  rw [u242_5]
  simp (disch := omega) only [KK, Int.reduceEq, not_false_iff, ↓reduceIte, ↓if_pos, ↓if_neg, xt_o, true_and, nlO_i, nlO_n, nlO_r, List.length_nil, List.length_cons, Nat.reduceAdd, Nat.reduceLeDiff, Nat.zero_le, U242, ha, hs_eq, hs_hs, xl_a, xs_i, ar_add, Int.reduceAdd, Int.reduceLE]
  rw [u242_5]
  simp (disch := omega) only [KK, Int.reduceEq, not_false_iff, ↓reduceIte, ↓if_pos, ↓if_neg, xt_o, true_and, nlO_i, nlO_n, nlO_r, List.length_nil, List.length_cons, Nat.reduceAdd, Nat.reduceLeDiff, Nat.zero_le, U242, ha, hs_eq, hs_hs, xl_a, xs_i, ar_add, Int.reduceAdd, Int.reduceLE]
  rw [u242_5]
  simp (disch := omega) only [KK, Int.reduceEq, not_false_iff, ↓reduceIte, ↓if_pos, ↓if_neg, xt_o, true_and, nlO_i, nlO_n, nlO_r, List.length_nil, List.length_cons, Nat.reduceAdd, Nat.reduceLeDiff, Nat.zero_le, U242, ha, hs_eq, hs_hs, xl_a, xs_i, ar_add, Int.reduceAdd, Int.reduceLE]
  rw [u242_5]
  simp (disch := omega) only [KK, Int.reduceEq, not_false_iff, ↓reduceIte, ↓if_pos, ↓if_neg, xt_o, true_and, nlO_i, nlO_n, nlO_r, List.length_nil, List.length_cons, Nat.reduceAdd, Nat.reduceLeDiff, Nat.zero_le, U242, ha, hs_eq, hs_hs, xl_a, xs_i, ar_add, Int.reduceAdd, Int.reduceLE]
  rw [u242_5]
  simp (disch := omega) only [KK, Int.reduceEq, not_false_iff, ↓reduceIte, ↓if_pos, ↓if_neg, xt_o, true_and, nlO_i, nlO_n, nlO_r, List.length_nil, List.length_cons, Nat.reduceAdd, Nat.reduceLeDiff, Nat.zero_le, U242]
theorem W_init {w : Nat} (hw : h.2.2 w = some (cObj 11 [vO none, vO none, vO none, vO none, vO none, vI 0, vO none, vO none, vO none, vI 0, vI 0, vO none, vO none])) (ew : G.1 + h.1 = w + 1) (hr : h.1 + 40 ≤ maxC ∧ h.2.1 + 2000 ≤ maxS) : ∃ h' : MH, wI G w h' ∧ (∀ q, (q < w ∨ w + 22 ≤ q) → h'.2.2 q = h.2.2 q) ∧ (h'.1 = h.1 + 21 ∧ h.2.1 ≤ h'.2.1 ∧ h'.2.1 ≤ h.2.1 + 300) ∧ ∀ Q : KQ, wpC G (d + 4) 44 [vR w] h Q = Q none h' := by
  obtain ⟨h0, y0⟩ : ∃ h0, h0 = h := ⟨_, rfl⟩
  rw [← y0] at hw ew hr
  have a0 := hw
  have em0 : G.1 + h0.1 = w + 1 := by omega
  have rc0 : (h0.1 + 1 ≤ maxC) = True := eq_true (by omega)
  have rs0 : (h0.2.1 + 3 ≤ maxS) = True := eq_true (by omega)
  obtain ⟨h1, y1, a1, b1, c1, d1, e1⟩ := stA_ex (m := w) (a := w + 1) (n := 3) (arr := cObj 0 [vI 0, vR (G.2.1 GE), vI 0]) (cell := cObj 11 [vR (w + 1), vO none, vO none, vO none, vO none, vI 0, vO none, vO none, vO none, vI 0, vI 0, vO none, vO none]) (h := h0) (by omega)
  have k1 : ∀ Q : KQ, wp G (d + 3) 44 4 [some (vR w)] [] h0 Q = wp G (d + 3) 44 15 [some (vR w)] [] h1 Q := fun Q => by
    have hi : ∀ K : KQ, wpC G (d + 3) 227 [vR (w + 1)] (hnew h0 (w + 1) 3 (cObj 0 [vI 0, vO none, vI 0])) K = K none (hnew h0 (w + 1) 3 (cObj 0 [vI 0, vR (G.2.1 GE), vI 0])) := fun K => by rw [i_list hn_eq, hs_hn]
    simp (disch := omega) only [KK, Int.reduceEq, not_false_iff, ↓reduceIte, ↓if_pos, ↓if_neg, xt_o, true_and, nlO_i, nlO_n, nlO_r, List.length_nil, List.length_cons, Nat.reduceAdd, Nat.reduceLeDiff, Nat.zero_le, u44_4, u44_5, u44_8, u44_8a, u44_9, u44_12, em0, rc0, rs0, hi, hn_eq, hn_ne (show ¬ w = w + 1 by omega), a0, PX11, OKS, or_true, true_or]
    rw [← y1]
  have em1 : G.1 + h1.1 = w + 2 := by omega
  have rc1 : (h1.1 + 1 ≤ maxC) = True := eq_true (by omega)
  have rs1 : (h1.2.1 + 3 ≤ maxS) = True := eq_true (by omega)
  obtain ⟨h2, y2, a2, b2, c2, d2, e2⟩ := stA_ex (m := w) (a := w + 2) (n := 3) (arr := cObj 0 [vI 0, vR (G.2.1 GE), vI 0]) (cell := cObj 11 [vR (w + 1), vR (w + 2), vO none, vO none, vO none, vI 0, vO none, vO none, vO none, vI 0, vI 0, vO none, vO none]) (h := h1) (by omega)
  have k2 : ∀ Q : KQ, wp G (d + 3) 44 15 [some (vR w)] [] h1 Q = wp G (d + 3) 44 26 [some (vR w)] [] h2 Q := fun Q => by
    have hi : ∀ K : KQ, wpC G (d + 3) 227 [vR (w + 2)] (hnew h1 (w + 2) 3 (cObj 0 [vI 0, vO none, vI 0])) K = K none (hnew h1 (w + 2) 3 (cObj 0 [vI 0, vR (G.2.1 GE), vI 0])) := fun K => by rw [i_list hn_eq, hs_hn]
    simp (disch := omega) only [KK, Int.reduceEq, not_false_iff, ↓reduceIte, ↓if_pos, ↓if_neg, xt_o, true_and, nlO_i, nlO_n, nlO_r, List.length_nil, List.length_cons, Nat.reduceAdd, Nat.reduceLeDiff, Nat.zero_le, u44_15, u44_16, u44_19, u44_19a, u44_20, u44_23, em1, rc1, rs1, hi, hn_eq, hn_ne (show ¬ w = w + 2 by omega), a1, PX11, OKS, or_true, true_or]
    rw [← y2]
  have em2 : G.1 + h2.1 = w + 3 := by omega
  have rc2 : (h2.1 + 1 ≤ maxC) = True := eq_true (by omega)
  have rs2 : (h2.2.1 + 3 ≤ maxS) = True := eq_true (by omega)
  obtain ⟨h3, y3, a3, b3, c3, d3, e3⟩ := stA_ex (m := w) (a := w + 3) (n := 3) (arr := cObj 0 [vI 0, vR (G.2.1 GE), vI 0]) (cell := cObj 11 [vR (w + 1), vR (w + 2), vR (w + 3), vO none, vO none, vI 0, vO none, vO none, vO none, vI 0, vI 0, vO none, vO none]) (h := h2) (by omega)
  have k3 : ∀ Q : KQ, wp G (d + 3) 44 26 [some (vR w)] [] h2 Q = wp G (d + 3) 44 37 [some (vR w)] [] h3 Q := fun Q => by
    have hi : ∀ K : KQ, wpC G (d + 3) 227 [vR (w + 3)] (hnew h2 (w + 3) 3 (cObj 0 [vI 0, vO none, vI 0])) K = K none (hnew h2 (w + 3) 3 (cObj 0 [vI 0, vR (G.2.1 GE), vI 0])) := fun K => by rw [i_list hn_eq, hs_hn]
    simp (disch := omega) only [KK, Int.reduceEq, not_false_iff, ↓reduceIte, ↓if_pos, ↓if_neg, xt_o, true_and, nlO_i, nlO_n, nlO_r, List.length_nil, List.length_cons, Nat.reduceAdd, Nat.reduceLeDiff, Nat.zero_le, u44_26, u44_27, u44_30, u44_30a, u44_31, u44_34, em2, rc2, rs2, hi, hn_eq, hn_ne (show ¬ w = w + 3 by omega), a2, PX11, OKS, or_true, true_or]
    rw [← y3]
  have em3 : G.1 + h3.1 = w + 4 := by omega
  have rc3 : (h3.1 + 1 ≤ maxC) = True := eq_true (by omega)
  have rs3 : (h3.2.1 + 8 ≤ maxS) = True := eq_true (by omega)
  have t3 : Int.toNat 8 = 8 := rfl
  obtain ⟨h4, y4, a4, b4, c4, d4, e4⟩ := stA_ex (m := w) (a := w + 4) (n := 8) (arr := cArr 0 8 (fun _ => 0)) (cell := cObj 11 [vR (w + 1), vR (w + 2), vR (w + 3), vR (w + 4), vO none, vI 0, vO none, vO none, vO none, vI 0, vI 0, vO none, vO none]) (h := h3) (by omega)
  have k4 : ∀ Q : KQ, wp G (d + 3) 44 37 [some (vR w)] [] h3 Q = wp G (d + 3) 44 45 [some (vR w)] [] h4 Q := fun Q => by
    simp (disch := omega) only [KK, Int.reduceEq, not_false_iff, ↓reduceIte, ↓if_pos, ↓if_neg, xt_o, true_and, nlO_i, nlO_n, nlO_r, List.length_nil, List.length_cons, Nat.reduceAdd, Nat.reduceLeDiff, Nat.zero_le, u44_37, u44_38, u44_40, u44_42, em3, rc3, rs3, t3, hn_ne (show ¬ w = w + 4 by omega), a3, PX11, OKS, or_true, true_or, Int.reduceLE]
    rw [← y4]
  have em4 : G.1 + h4.1 = w + 5 := by omega
  have rc4 : (h4.1 + 1 ≤ maxC) = True := eq_true (by omega)
  have rs4 : (h4.2.1 + 100 ≤ maxS) = True := eq_true (by omega)
  have t4 : Int.toNat 100 = 100 := rfl
  obtain ⟨h5, y5, a5, b5, c5, d5, e5⟩ := stA_ex (m := w) (a := w + 5) (n := 100) (arr := cArr 0 100 (fun _ => 0)) (cell := cObj 11 [vR (w + 1), vR (w + 2), vR (w + 3), vR (w + 4), vR (w + 5), vI 0, vO none, vO none, vO none, vI 0, vI 0, vO none, vO none]) (h := h4) (by omega)
  have k5 : ∀ Q : KQ, wp G (d + 3) 44 45 [some (vR w)] [] h4 Q = wp G (d + 3) 44 53 [some (vR w)] [] h5 Q := fun Q => by
    simp (disch := omega) only [KK, Int.reduceEq, not_false_iff, ↓reduceIte, ↓if_pos, ↓if_neg, xt_o, true_and, nlO_i, nlO_n, nlO_r, List.length_nil, List.length_cons, Nat.reduceAdd, Nat.reduceLeDiff, Nat.zero_le, u44_45, u44_46, u44_48, u44_50, em4, rc4, rs4, t4, hn_ne (show ¬ w = w + 5 by omega), a4, PX11, OKS, or_true, true_or, Int.reduceLE]
    rw [← y5]
  have ks : ∀ Q : KQ, wp G (d + 3) 44 53 [some (vR w)] [] h5 Q = wp G (d + 3) 44 58 [some (vR w)] [] h5 Q := fun Q => by
    have e : hset h5 w (cObj 11 [vR (w + 1), vR (w + 2), vR (w + 3), vR (w + 4), vR (w + 5), vI 0, vO none, vO none, vO none, vI 0, vI 0, vO none, vO none]) = h5 := hs_same a5
    simp (disch := omega) only [KK, Int.reduceEq, not_false_iff, ↓reduceIte, ↓if_pos, ↓if_neg, xt_o, true_and, nlO_i, nlO_n, nlO_r, List.length_nil, List.length_cons, Nat.reduceAdd, Nat.reduceLeDiff, Nat.zero_le, u44_53, u44_54, u44_55, a5, e, PX11, OKS, or_true, true_or]
  have em5 : G.1 + h5.1 = w + 6 := by omega
  have rc5 : (h5.1 + 1 ≤ maxC) = True := eq_true (by omega)
  have rs5 : (h5.2.1 + 3 ≤ maxS) = True := eq_true (by omega)
  obtain ⟨p6, py6⟩ : ∃ p, p = hnew h5 (w + 6) 3 (cObj 7 [vO none, vO none, vI 0]) := ⟨_, rfl⟩
  have pk6 : p6.1 = h5.1 + 1 ∧ p6.2.1 = h5.2.1 + 3 := by rw [py6]; exact ⟨rfl, rfl⟩
  have pn6 : ∀ q, ¬ q = w + 6 → p6.2.2 q = h5.2.2 q := fun q hq => by rw [py6]; exact hn_ne hq
  obtain ⟨r6, rq6, rf6, ⟨rd6, re6⟩, rw6⟩ := i_rows (G := G) (d := d + 1) (h := p6) (o := w + 6) (cap := 5) (by rw [py6]; exact hn_eq) (by omega) (by omega) ⟨by omega, by omega⟩
  obtain ⟨h6, y6⟩ : ∃ h', h' = hset r6 w (cObj 11 [vR (w + 1), vR (w + 2), vR (w + 3), vR (w + 4), vR (w + 5), vI 0, vR (w + 6), vO none, vO none, vI 0, vI 0, vO none, vO none]) := ⟨_, rfl⟩
  have a6 : h6.2.2 w = some (cObj 11 [vR (w + 1), vR (w + 2), vR (w + 3), vR (w + 4), vR (w + 5), vI 0, vR (w + 6), vO none, vO none, vI 0, vI 0, vO none, vO none]) := by rw [y6]; exact hs_eq
  have kk6 : h6.1 = r6.1 ∧ h6.2.1 = r6.2.1 := by rw [y6]; exact ⟨rfl, rfl⟩
  have cr6 : ∀ q, ¬ q = w → h6.2.2 q = r6.2.2 q := fun q hq => by rw [y6]; exact hs_ne hq
  have c6 : ∀ q, ¬ q = w → (q < w + 6 ∨ w + 9 ≤ q) → h6.2.2 q = h5.2.2 q := fun q hq h2 => by rw [cr6 q hq, rf6 q (by omega), pn6 q (by omega)]
  have k6 : ∀ Q : KQ, wp G (d + 3) 44 58 [some (vR w)] [] h5 Q = wp G (d + 3) 44 70 [some (vR w)] [] h6 Q := fun Q => by
    have hi : ∀ K : KQ, wpC G (d + 3) 85 [vR (w + 6), vI 5] (hnew h5 (w + 6) 3 (cObj 7 [vO none, vO none, vI 0])) K = K none r6 := fun K => by rw [← py6]; exact rw6 K
    have ar : r6.2.2 w = some (cObj 11 [vR (w + 1), vR (w + 2), vR (w + 3), vR (w + 4), vR (w + 5), vI 0, vO none, vO none, vO none, vI 0, vI 0, vO none, vO none]) := by rw [rf6 w (by omega), pn6 w (by omega)]; exact a5
    simp (disch := omega) only [KK, Int.reduceEq, not_false_iff, ↓reduceIte, ↓if_pos, ↓if_neg, xt_o, true_and, nlO_i, nlO_n, nlO_r, List.length_nil, List.length_cons, Nat.reduceAdd, Nat.reduceLeDiff, Nat.zero_le, u44_58, u44_59, u44_62, u44_62a, u44_63, u44_64, u44_67, em5, rc5, rs5, hi, hn_eq, ar, PX11, OKS, or_true, true_or]
    rw [← y6]
  have em6 : G.1 + h6.1 = w + 9 := by omega
  have rc6 : (h6.1 + 1 ≤ maxC) = True := eq_true (by omega)
  have rs6 : (h6.2.1 + 3 ≤ maxS) = True := eq_true (by omega)
  obtain ⟨p7, py7⟩ : ∃ p, p = hnew h6 (w + 9) 3 (cObj 7 [vO none, vO none, vI 0]) := ⟨_, rfl⟩
  have pk7 : p7.1 = h6.1 + 1 ∧ p7.2.1 = h6.2.1 + 3 := by rw [py7]; exact ⟨rfl, rfl⟩
  have pn7 : ∀ q, ¬ q = w + 9 → p7.2.2 q = h6.2.2 q := fun q hq => by rw [py7]; exact hn_ne hq
  obtain ⟨r7, rq7, rf7, ⟨rd7, re7⟩, rw7⟩ := i_rows (G := G) (d := d + 1) (h := p7) (o := w + 9) (cap := 8) (by rw [py7]; exact hn_eq) (by omega) (by omega) ⟨by omega, by omega⟩
  obtain ⟨h7, y7⟩ : ∃ h', h' = hset r7 w (cObj 11 [vR (w + 1), vR (w + 2), vR (w + 3), vR (w + 4), vR (w + 5), vI 0, vR (w + 6), vR (w + 9), vO none, vI 0, vI 0, vO none, vO none]) := ⟨_, rfl⟩
  have a7 : h7.2.2 w = some (cObj 11 [vR (w + 1), vR (w + 2), vR (w + 3), vR (w + 4), vR (w + 5), vI 0, vR (w + 6), vR (w + 9), vO none, vI 0, vI 0, vO none, vO none]) := by rw [y7]; exact hs_eq
  have kk7 : h7.1 = r7.1 ∧ h7.2.1 = r7.2.1 := by rw [y7]; exact ⟨rfl, rfl⟩
  have cr7 : ∀ q, ¬ q = w → h7.2.2 q = r7.2.2 q := fun q hq => by rw [y7]; exact hs_ne hq
  have c7 : ∀ q, ¬ q = w → (q < w + 9 ∨ w + 12 ≤ q) → h7.2.2 q = h6.2.2 q := fun q hq h2 => by rw [cr7 q hq, rf7 q (by omega), pn7 q (by omega)]
  have k7 : ∀ Q : KQ, wp G (d + 3) 44 70 [some (vR w)] [] h6 Q = wp G (d + 3) 44 83 [some (vR w)] [] h7 Q := fun Q => by
    have hi : ∀ K : KQ, wpC G (d + 3) 85 [vR (w + 9), vI 8] (hnew h6 (w + 9) 3 (cObj 7 [vO none, vO none, vI 0])) K = K none r7 := fun K => by rw [← py7]; exact rw7 K
    have ar : r7.2.2 w = some (cObj 11 [vR (w + 1), vR (w + 2), vR (w + 3), vR (w + 4), vR (w + 5), vI 0, vR (w + 6), vO none, vO none, vI 0, vI 0, vO none, vO none]) := by rw [rf7 w (by omega), pn7 w (by omega)]; exact a6
    simp (disch := omega) only [KK, Int.reduceEq, not_false_iff, ↓reduceIte, ↓if_pos, ↓if_neg, xt_o, true_and, nlO_i, nlO_n, nlO_r, List.length_nil, List.length_cons, Nat.reduceAdd, Nat.reduceLeDiff, Nat.zero_le, u44_70, u44_71, u44_74, u44_74a, u44_75, u44_77, u44_80, em6, rc6, rs6, hi, hn_eq, ar, PX11, OKS, or_true, true_or]
    rw [← y7]
  have em7 : G.1 + h7.1 = w + 12 := by omega
  have rc7 : (h7.1 + 1 ≤ maxC) = True := eq_true (by omega)
  have rs7 : (h7.2.1 + 3 ≤ maxS) = True := eq_true (by omega)
  obtain ⟨p8, py8⟩ : ∃ p, p = hnew h7 (w + 12) 3 (cObj 7 [vO none, vO none, vI 0]) := ⟨_, rfl⟩
  have pk8 : p8.1 = h7.1 + 1 ∧ p8.2.1 = h7.2.1 + 3 := by rw [py8]; exact ⟨rfl, rfl⟩
  have pn8 : ∀ q, ¬ q = w + 12 → p8.2.2 q = h7.2.2 q := fun q hq => by rw [py8]; exact hn_ne hq
  obtain ⟨r8, rq8, rf8, ⟨rd8, re8⟩, rw8⟩ := i_rows (G := G) (d := d + 1) (h := p8) (o := w + 12) (cap := 8) (by rw [py8]; exact hn_eq) (by omega) (by omega) ⟨by omega, by omega⟩
  obtain ⟨h8, y8⟩ : ∃ h', h' = hset r8 w (cObj 11 [vR (w + 1), vR (w + 2), vR (w + 3), vR (w + 4), vR (w + 5), vI 0, vR (w + 6), vR (w + 9), vR (w + 12), vI 0, vI 0, vO none, vO none]) := ⟨_, rfl⟩
  have a8 : h8.2.2 w = some (cObj 11 [vR (w + 1), vR (w + 2), vR (w + 3), vR (w + 4), vR (w + 5), vI 0, vR (w + 6), vR (w + 9), vR (w + 12), vI 0, vI 0, vO none, vO none]) := by rw [y8]; exact hs_eq
  have kk8 : h8.1 = r8.1 ∧ h8.2.1 = r8.2.1 := by rw [y8]; exact ⟨rfl, rfl⟩
  have cr8 : ∀ q, ¬ q = w → h8.2.2 q = r8.2.2 q := fun q hq => by rw [y8]; exact hs_ne hq
  have c8 : ∀ q, ¬ q = w → (q < w + 12 ∨ w + 15 ≤ q) → h8.2.2 q = h7.2.2 q := fun q hq h2 => by rw [cr8 q hq, rf8 q (by omega), pn8 q (by omega)]
  have k8 : ∀ Q : KQ, wp G (d + 3) 44 83 [some (vR w)] [] h7 Q = wp G (d + 3) 44 96 [some (vR w)] [] h8 Q := fun Q => by
    have hi : ∀ K : KQ, wpC G (d + 3) 85 [vR (w + 12), vI 8] (hnew h7 (w + 12) 3 (cObj 7 [vO none, vO none, vI 0])) K = K none r8 := fun K => by rw [← py8]; exact rw8 K
    have ar : r8.2.2 w = some (cObj 11 [vR (w + 1), vR (w + 2), vR (w + 3), vR (w + 4), vR (w + 5), vI 0, vR (w + 6), vR (w + 9), vO none, vI 0, vI 0, vO none, vO none]) := by rw [rf8 w (by omega), pn8 w (by omega)]; exact a7
    simp (disch := omega) only [KK, Int.reduceEq, not_false_iff, ↓reduceIte, ↓if_pos, ↓if_neg, xt_o, true_and, nlO_i, nlO_n, nlO_r, List.length_nil, List.length_cons, Nat.reduceAdd, Nat.reduceLeDiff, Nat.zero_le, u44_83, u44_84, u44_87, u44_87a, u44_88, u44_90, u44_93, em7, rc7, rs7, hi, hn_eq, ar, PX11, OKS, or_true, true_or]
    rw [← y8]
  have kd : ∀ Q : KQ, wp G (d + 3) 44 96 [some (vR w)] [] h8 Q = wp G (d + 3) 44 106 [some (vR w)] [] h8 Q := fun Q => by
    have e : hset h8 w (cObj 11 [vR (w + 1), vR (w + 2), vR (w + 3), vR (w + 4), vR (w + 5), vI 0, vR (w + 6), vR (w + 9), vR (w + 12), vI 0, vI 0, vO none, vO none]) = h8 := hs_same a8
    simp (disch := omega) only [KK, Int.reduceEq, not_false_iff, ↓reduceIte, ↓if_pos, ↓if_neg, xt_o, true_and, nlO_i, nlO_n, nlO_r, List.length_nil, List.length_cons, Nat.reduceAdd, Nat.reduceLeDiff, Nat.zero_le, u44_96, u44_97, u44_98, u44_101, u44_102, u44_103, a8, e, PX11, OKS, or_true, true_or]
  have em8 : G.1 + h8.1 = w + 15 := by omega
  have rc8 : (h8.1 + 1 ≤ maxC) = True := eq_true (by omega)
  have rs8 : (h8.2.1 + 9 ≤ maxS) = True := eq_true (by omega)
  obtain ⟨p1, py1⟩ : ∃ p, p = hnew h8 (w + 15) 9 (cObj 10 [vO none, vI 0, vO none, vI 0, vO none, vO none, vI 0, vO none, vI 0]) := ⟨_, rfl⟩
  have pk1 : p1.1 = h8.1 + 1 ∧ p1.2.1 = h8.2.1 + 9 := by rw [py1]; exact ⟨rfl, rfl⟩
  have pn1 : ∀ q, ¬ q = w + 15 → p1.2.2 q = h8.2.2 q := fun q hq => by rw [py1]; exact hn_ne hq
  have pa1 : p1.2.2 (w + 15) = some (cObj 10 [vO none, vI 0, vO none, vI 0, vO none, vO none, vI 0, vO none, vI 0]) := by rw [py1]; exact hn_eq
  obtain ⟨p2, py2⟩ : ∃ p, p = hnew p1 (w + 15 + 1) 0 (cArr 0 0 (fun _ => 0)) := ⟨_, rfl⟩
  have pk2 : p2.1 = p1.1 + 1 ∧ p2.2.1 = p1.2.1 := by rw [py2]; exact ⟨rfl, rfl⟩
  have pn2 : ∀ q, ¬ q = w + 15 + 1 → p2.2.2 q = p1.2.2 q := fun q hq => by rw [py2]; exact hn_ne hq
  have pa2 : p2.2.2 (w + 15 + 1) = some (cArr 0 0 (fun _ => 0)) := by rw [py2]; exact hn_eq
  obtain ⟨r9, i1, i2, i3, i4, i5, i6, i7, ⟨i8, i9⟩, wV⟩ := i_valley (G := G) (d := d + 2) (v := w + 15) (n := 0) (T := fun _ => 0) (h := p2) ((pn2 _ (by omega)).trans pa1) pa2 (by omega) (by omega) ⟨by omega, by omega⟩
  obtain ⟨h9, y9⟩ : ∃ h', h' = hset r9 w (cObj 11 [vR (w + 1), vR (w + 2), vR (w + 3), vR (w + 4), vR (w + 5), vI 0, vR (w + 6), vR (w + 9), vR (w + 12), vI 0, vI 0, vR (w + 15), vO none]) := ⟨_, rfl⟩
  have a9 : h9.2.2 w = some (cObj 11 [vR (w + 1), vR (w + 2), vR (w + 3), vR (w + 4), vR (w + 5), vI 0, vR (w + 6), vR (w + 9), vR (w + 12), vI 0, vI 0, vR (w + 15), vO none]) := by rw [y9]; exact hs_eq
  have kk9 : h9.1 = r9.1 ∧ h9.2.1 = r9.2.1 := by rw [y9]; exact ⟨rfl, rfl⟩
  have cr9 : ∀ q, ¬ q = w → h9.2.2 q = r9.2.2 q := fun q hq => by rw [y9]; exact hs_ne hq
  have c9 : ∀ q, ¬ q = w → (q < w + 15 ∨ w + 21 ≤ q) → h9.2.2 q = h8.2.2 q := fun q hq h2 => by rw [cr9 q hq, i7 q (by omega), pn2 q (by omega), pn1 q (by omega)]
  have k9 : ∀ Q : KQ, wp G (d + 3) 44 106 [some (vR w)] [] h8 Q = wp G (d + 3) 44 120 [some (vR w)] [] h9 Q := fun Q => by
    have rc1 : (h8.1 + 1 + 1 ≤ maxC) = True := eq_true (by omega)
    have rs1 : (h8.2.1 + 9 + 0 ≤ maxS) = True := eq_true (by omega)
    have em1 : G.1 + (h8.1 + 1) = w + 15 + 1 := by omega
    have t0 : Int.toNat 0 = 0 := rfl
    have hi : ∀ K : KQ, wpC G (d + 3) 71 [vR (w + 15), vR (w + 15 + 1)] (hnew (hnew h8 (w + 15) 9 (cObj 10 [vO none, vI 0, vO none, vI 0, vO none, vO none, vI 0, vO none, vI 0])) (w + 15 + 1) 0 (cArr 0 0 (fun _ => 0))) K = K none r9 := fun K => by rw [← py1, ← py2]; exact wV K
    have ar : r9.2.2 w = some (cObj 11 [vR (w + 1), vR (w + 2), vR (w + 3), vR (w + 4), vR (w + 5), vI 0, vR (w + 6), vR (w + 9), vR (w + 12), vI 0, vI 0, vO none, vO none]) := by rw [i7 w (by omega), pn2 w (by omega), pn1 w (by omega)]; exact a8
    simp (disch := omega) only [KK, Int.reduceEq, not_false_iff, ↓reduceIte, ↓if_pos, ↓if_neg, xt_o, true_and, nlO_i, nlO_n, nlO_r, List.length_nil, List.length_cons, Nat.reduceAdd, Nat.reduceLeDiff, Nat.zero_le, u44_106, u44_107, u44_110, u44_110a, u44_111, u44_112, u44_114, u44_117, em8, rc8, rs8, hn_1, hn_2, em1, rc1, rs1, t0, hi, hn_eq, hn_ne (show ¬ w + 15 = w + 15 + 1 by omega), ar, PX11, OKS, or_true, true_or, Int.reduceLE, Nat.add_zero]
    rw [← y9]
  have em9 : G.1 + h9.1 = w + 21 := by omega
  have rc9 : (h9.1 + 1 ≤ maxC) = True := eq_true (by omega)
  have rs9 : (h9.2.1 + 4 ≤ maxS) = True := eq_true (by omega)
  obtain ⟨h10, y10, a10, b10, c10, d10, e10⟩ := stA_ex (m := w) (a := w + 21) (n := 4) (arr := cObj 1 [vI 0, vI 0, vI 0, vI 0]) (cell := cObj 11 [vR (w + 1), vR (w + 2), vR (w + 3), vR (w + 4), vR (w + 5), vI 0, vR (w + 6), vR (w + 9), vR (w + 12), vI 0, vI 0, vR (w + 15), vR (w + 21)]) (h := h9) (by omega)
  have k10 : ∀ Q : KQ, wp G (d + 3) 44 120 [some (vR w)] [] h9 Q = wp G (d + 3) 44 131 [some (vR w)] [] h10 Q := fun Q => by
    have hi : ∀ K : KQ, wpC G (d + 3) 94 [vR (w + 21)] (hnew h9 (w + 21) 4 (cObj 1 [vI 0, vI 0, vI 0, vI 0])) K = K none (hnew h9 (w + 21) 4 (cObj 1 [vI 0, vI 0, vI 0, vI 0])) := fun K => i_asker hn_eq K
    simp (disch := omega) only [KK, Int.reduceEq, not_false_iff, ↓reduceIte, ↓if_pos, ↓if_neg, xt_o, true_and, nlO_i, nlO_n, nlO_r, List.length_nil, List.length_cons, Nat.reduceAdd, Nat.reduceLeDiff, Nat.zero_le, u44_120, u44_121, u44_124, u44_124a, u44_125, u44_128, em9, rc9, rs9, hi, hn_eq, hn_ne (show ¬ w = w + 21 by omega), a9, PX11, OKS, or_true, true_or]
    rw [← y10]
  have g10 : ∀ q, ¬ q = w → q < w + 22 → h10.2.2 q = h10.2.2 q := fun _ _ _ => rfl
  have g9 : ∀ q, ¬ q = w → q < w + 21 → h10.2.2 q = h9.2.2 q := fun q h1 h2 => (g10 q h1 (by omega)).trans (c10 q h1 (by omega))
  have g8 : ∀ q, ¬ q = w → q < w + 15 → h10.2.2 q = h8.2.2 q := fun q h1 h2 => (g9 q h1 (by omega)).trans (c9 q h1 (by omega))
  have g7 : ∀ q, ¬ q = w → q < w + 12 → h10.2.2 q = h7.2.2 q := fun q h1 h2 => (g8 q h1 (by omega)).trans (c8 q h1 (by omega))
  have g6 : ∀ q, ¬ q = w → q < w + 9 → h10.2.2 q = h6.2.2 q := fun q h1 h2 => (g7 q h1 (by omega)).trans (c7 q h1 (by omega))
  have g5 : ∀ q, ¬ q = w → q < w + 6 → h10.2.2 q = h5.2.2 q := fun q h1 h2 => (g6 q h1 (by omega)).trans (c6 q h1 (by omega))
  have g4 : ∀ q, ¬ q = w → q < w + 5 → h10.2.2 q = h4.2.2 q := fun q h1 h2 => (g5 q h1 (by omega)).trans (c5 q h1 (by omega))
  have g3 : ∀ q, ¬ q = w → q < w + 4 → h10.2.2 q = h3.2.2 q := fun q h1 h2 => (g4 q h1 (by omega)).trans (c4 q h1 (by omega))
  have g2 : ∀ q, ¬ q = w → q < w + 3 → h10.2.2 q = h2.2.2 q := fun q h1 h2 => (g3 q h1 (by omega)).trans (c3 q h1 (by omega))
  have g1 : ∀ q, ¬ q = w → q < w + 2 → h10.2.2 q = h1.2.2 q := fun q h1 h2 => (g2 q h1 (by omega)).trans (c2 q h1 (by omega))
  have g0 : ∀ q, ¬ q = w → q < w + 1 → h10.2.2 q = h0.2.2 q := fun q h1 h2 => (g1 q h1 (by omega)).trans (c1 q h1 (by omega))
  have far : ∀ q, (q < w ∨ w + 22 ≤ q) → h10.2.2 q = h0.2.2 q := fun q hq => by
    rw [c10 q (by omega) (by omega), c9 q (by omega) (by omega), c8 q (by omega) (by omega), c7 q (by omega) (by omega), c6 q (by omega) (by omega), c5 q (by omega) (by omega), c4 q (by omega) (by omega), c3 q (by omega) (by omega), c2 q (by omega) (by omega), c1 q (by omega) (by omega)]
  have b4' : h10.2.2 (w + 4) = some (cArr 0 8 (ix (fun _ => 0))) := (g4 _ (by omega) (by omega)).trans b4
  obtain ⟨hF, yF⟩ : ∃ hF, hF = hset h10 (w + 4) (cArr 0 8 (ix (up (up (up (up (up (up (up (up (fun _ => 0) 0 1) 1 1) 2 1) 3 1) 4 1) 5 1) 6 1) 7 1))) := ⟨_, rfl⟩
  have nF : ∀ q, ¬ q = w + 4 → hF.2.2 q = h10.2.2 q := fun q hq => by rw [yF]; exact hs_ne hq
  have kF : hF.1 = h10.1 ∧ hF.2.1 = h10.2.1 := by rw [yF]; exact ⟨rfl, rfl⟩
  have q6 : ∀ f g, qRW hF (w + 6) 5 0 f g := fun f g => by
    obtain ⟨r1, r2, z1, z2, z3, z4⟩ := rq6 f g
    exact ⟨r1, r2, (nF _ (by omega)).trans ((g6 _ (by omega) (by omega)).trans ((cr6 _ (by omega)).trans z1)), (nF _ (by omega)).trans ((g6 _ (by omega) (by omega)).trans ((cr6 _ (by omega)).trans z2)), (nF _ (by omega)).trans ((g6 _ (by omega) (by omega)).trans ((cr6 _ (by omega)).trans z3)), z4⟩
  have q9 : ∀ f g, qRW hF (w + 9) 8 0 f g := fun f g => by
    obtain ⟨r1, r2, z1, z2, z3, z4⟩ := rq7 f g
    exact ⟨r1, r2, (nF _ (by omega)).trans ((g7 _ (by omega) (by omega)).trans ((cr7 _ (by omega)).trans z1)), (nF _ (by omega)).trans ((g7 _ (by omega) (by omega)).trans ((cr7 _ (by omega)).trans z2)), (nF _ (by omega)).trans ((g7 _ (by omega) (by omega)).trans ((cr7 _ (by omega)).trans z3)), z4⟩
  have q12 : ∀ f g, qRW hF (w + 12) 8 0 f g := fun f g => by
    obtain ⟨r1, r2, z1, z2, z3, z4⟩ := rq8 f g
    exact ⟨r1, r2, (nF _ (by omega)).trans ((g8 _ (by omega) (by omega)).trans ((cr8 _ (by omega)).trans z1)), (nF _ (by omega)).trans ((g8 _ (by omega) (by omega)).trans ((cr8 _ (by omega)).trans z2)), (nF _ (by omega)).trans ((g8 _ (by omega) (by omega)).trans ((cr8 _ (by omega)).trans z3)), z4⟩
  have vv : ∀ {q : Nat} {c : MC}, w + 15 ≤ q → q < w + 21 → r9.2.2 q = some c → hF.2.2 q = some c := fun {q c} h1 h2 h3 => (nF q (by omega)).trans ((g9 q (by omega) (by omega)).trans ((cr9 q (by omega)).trans h3))
  refine ⟨hF, ⟨?_, fun j j1 j3 => ?_, ⟨_, by rw [yF]; exact hs_eq, fun i i0 i1 => ?_⟩, ?_, q6, q9, q12, ⟨vv (by omega) (by omega) i1, vv (by omega) (by omega) i3, vv (by omega) (by omega) i4, vv (by omega) (by omega) i5, vv (by omega) (by omega) i6⟩, ?_⟩, fun q hq => ?_, ⟨?_, ?_, ?_⟩, fun Q => ?_⟩
  · exact (nF _ (by omega)).trans a10
  · rcases (show j = 1 ∨ j = 2 ∨ j = 3 by omega) with e | e | e <;> subst e
    · exact (nF _ (by omega)).trans ((g1 _ (by omega) (by omega)).trans b1)
    · exact (nF _ (by omega)).trans ((g2 _ (by omega) (by omega)).trans b2)
    · exact (nF _ (by omega)).trans ((g3 _ (by omega) (by omega)).trans b3)
  · rcases (show i = 0 ∨ i = 1 ∨ i = 2 ∨ i = 3 ∨ i = 4 ∨ i = 5 ∨ i = 6 ∨ i = 7 by omega) with e | e | e | e | e | e | e | e <;> subst e <;> rfl
  · exact (nF _ (by omega)).trans ((g5 _ (by omega) (by omega)).trans b5)
  · exact (nF _ (by omega)).trans b10
  · rw [nF q (by omega), far q hq, y0]
  · rw [← y0]; omega
  · rw [← y0]; omega
  · rw [← y0]; omega
  · have kf : ∀ Q : KQ, wp G (d + 3) 44 131 [some (vR w)] [] h10 Q = Q none hF := fun Q => by
      have hi := fun (K : KQ) => i_fill (G := G) (d := d + 2) b4' K
      rw [← yF] at hi
      simp (disch := omega) only [KK, Int.reduceEq, not_false_iff, ↓reduceIte, ↓if_pos, ↓if_neg, xt_o, true_and, nlO_i, nlO_n, nlO_r, List.length_nil, List.length_cons, Nat.reduceAdd, Nat.reduceLeDiff, Nat.zero_le, u44_131, u44_132, u44_135, u44_136, u44_139, a10, hi, GX11]
    rw [← y0, e44]
    simp (disch := omega) only [KK, Int.reduceEq, not_false_iff, ↓reduceIte, ↓if_pos, ↓if_neg, xt_o, true_and, nlO_i, nlO_n, nlO_r, List.length_nil, List.length_cons, Nat.reduceAdd, Nat.reduceLeDiff, Nat.zero_le, u44_0, u44_1]
    rw [k1, k2, k3, k4, k5, ks, k6, k7, k8, kd, k9, k10, kf]
end W0
