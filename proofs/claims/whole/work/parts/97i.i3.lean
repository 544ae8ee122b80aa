/-! a new valley -/
section I3
variable {G : MG} {d : Nat} {h : MH}
theorem i_valley {v n : Nat} {T : Nat → Int} (hv : h.2.2 v = some (cObj 10 [vO none, vI 0, vO none, vI 0, vO none, vO none, vI 0, vO none, vI 0])) (ht : h.2.2 (v + 1) = some (cArr 0 n T)) (ev : G.1 + h.1 = v + 2) (hn : n ≤ 200) (hr : h.1 + 4 ≤ maxC ∧ h.2.1 + 300 ≤ maxS) : ∃ h' : MH, h'.2.2 v = some (cObj 10 [vR (v + 1), vI 0, vR (v + 5), vI 0, vR (v + 2), vR (v + 3), vI 0, vR (v + 4), vI 12]) ∧ h'.2.2 (v + 1) = some (cArr 0 n T) ∧ h'.2.2 (v + 2) = some (cArr 0 10 (ix (fun _ => 0))) ∧ h'.2.2 (v + 3) = some (cArr 0 10 (ix (fun _ => 0))) ∧ h'.2.2 (v + 4) = some (cArr 0 6 (ix (fun _ => 0))) ∧ h'.2.2 (v + 5) = some (cArr 0 n (ix (fun _ => 0))) ∧ (∀ q, (q < v ∨ v + 6 ≤ q) → h'.2.2 q = h.2.2 q) ∧ (h'.1 = h.1 + 4 ∧ h'.2.1 = h.2.1 + 26 + n) ∧ ∀ Q : KQ, wpC G (d + 1) 71 [vR v, vR (v + 1)] h Q = Q none h' := by
  obtain ⟨h1, y1, a1, b1, c1, d1, e1⟩ := stA_ex (m := v) (a := v + 2) (n := 10) (arr := cArr 0 10 (fun _ => 0)) (cell := cObj 10 [vO none, vI 0, vO none, vI 0, vR (v + 2), vO none, vI 0, vO none, vI 0]) (h := h) (by omega)
  obtain ⟨h2, y2, a2, b2, c2, d2, e2⟩ := stA_ex (m := v) (a := v + 3) (n := 10) (arr := cArr 0 10 (fun _ => 0)) (cell := cObj 10 [vO none, vI 0, vO none, vI 0, vR (v + 2), vR (v + 3), vI 0, vO none, vI 0]) (h := h1) (by omega)
  obtain ⟨h3, y3, a3, b3, c3, d3, e3⟩ := stA_ex (m := v) (a := v + 4) (n := 6) (arr := cArr 0 6 (fun _ => 0)) (cell := cObj 10 [vO none, vI 0, vO none, vI 0, vR (v + 2), vR (v + 3), vI 0, vR (v + 4), vI 0]) (h := h2) (by omega)
  obtain ⟨h4, hh4⟩ : ∃ h4, h4 = hset h3 v (cObj 10 [vR (v + 1), vI 0, vO none, vI 0, vR (v + 2), vR (v + 3), vI 0, vR (v + 4), vI 12]) := ⟨_, rfl⟩
  have a4 : h4.2.2 v = some (cObj 10 [vR (v + 1), vI 0, vO none, vI 0, vR (v + 2), vR (v + 3), vI 0, vR (v + 4), vI 12]) := by rw [hh4]; exact hs_eq
  have c4 : ∀ q, ¬ q = v → h4.2.2 q = h3.2.2 q := fun q hq => by rw [hh4]; exact hs_ne hq
  have d4 : h4.1 = h3.1 ∧ h4.2.1 = h3.2.1 := by rw [hh4]; exact ⟨rfl, rfl⟩
  obtain ⟨h5, y5, a5, b5, c5, d5, e5⟩ := stA_ex (m := v) (a := v + 5) (n := n) (arr := cArr 0 n (fun _ => 0)) (cell := cObj 10 [vR (v + 1), vI 0, vR (v + 5), vI 0, vR (v + 2), vR (v + 3), vI 0, vR (v + 4), vI 12]) (h := h4) (by omega)
  have t10 : Int.toNat 10 = 10 := rfl
  have t6 : Int.toNat 6 = 6 := rfl
  have em0 : G.1 + h.1 = v + 2 := ev
  have em1 : G.1 + h1.1 = v + 3 := by omega
  have em2 : G.1 + h2.1 = v + 4 := by omega
  have em4 : G.1 + h4.1 = v + 5 := by omega
  have rc0 : (h.1 + 1 ≤ maxC) = True := eq_true (by omega)
  have rc1 : (h1.1 + 1 ≤ maxC) = True := eq_true (by omega)
  have rc2 : (h2.1 + 1 ≤ maxC) = True := eq_true (by omega)
  have rc4 : (h4.1 + 1 ≤ maxC) = True := eq_true (by omega)
  have rs0 : (h.2.1 + 10 ≤ maxS) = True := eq_true (by omega)
  have rs1 : (h1.2.1 + 10 ≤ maxS) = True := eq_true (by omega)
  have rs2 : (h2.2.1 + 6 ≤ maxS) = True := eq_true (by omega)
  have rs4 : (h4.2.1 + n ≤ maxS) = True := eq_true (by omega)
  have t0 : (0 ≤ (n : Int)) = True := eq_true (by omega)
  have t1 : ((n : Int) ≤ 100000) = True := eq_true (by omega)
  have e : hset h v (cObj 10 [vO none, vI 0, vO none, vI 0, vO none, vO none, vI 0, vO none, vI 0]) = h := hs_same hv
  have eb : hset h2 v (cObj 10 [vO none, vI 0, vO none, vI 0, vR (v + 2), vR (v + 3), vI 0, vO none, vI 0]) = h2 := hs_same a2
  have ht4 : h4.2.2 (v + 1) = some (cArr 0 n T) := by
    rw [c4 _ (by omega), c3 _ (by omega) (by omega), c2 _ (by omega) (by omega), c1 _ (by omega) (by omega)]; exact ht
  refine ⟨h5, a5, ?_, ?_, ?_, ?_, b5, fun q hq => ?_, ⟨by omega, by omega⟩, fun Q => ?_⟩
  · rw [c5 _ (by omega) (by omega)]; exact ht4
  · rw [c5 _ (by omega) (by omega), c4 _ (by omega), c3 _ (by omega) (by omega), c2 _ (by omega) (by omega)]; exact b1
  · rw [c5 _ (by omega) (by omega), c4 _ (by omega), c3 _ (by omega) (by omega)]; exact b2
  · rw [c5 _ (by omega) (by omega), c4 _ (by omega)]; exact b3
  · rw [c5 _ (by omega) (by omega), c4 _ (by omega), c3 _ (by omega) (by omega), c2 _ (by omega) (by omega), c1 _ (by omega) (by omega)]
  · rw [e71]
    simp (disch := omega) only [KK, Int.reduceEq, not_false_iff, ↓reduceIte, ↓if_pos, ↓if_neg, xt_o, true_and, nlO_i, nlO_n, nlO_r, List.length_nil, List.length_cons, Nat.reduceAdd, Nat.reduceLeDiff, Nat.zero_le, u71_0, u71_1, u71_4, u71_5, u71_6, u71_9, u71_10, u71_11, u71_14, u71_15, u71_17, u71_19, hv, e, em0, rc0, rs0, t10, hn_ne (show ¬ v = v + 2 by omega), hs_eq, GX10, PX10, or_true, true_or, Int.reduceLE]
    rw [← y1]
    simp (disch := omega) only [KK, Int.reduceEq, not_false_iff, ↓reduceIte, ↓if_pos, ↓if_neg, xt_o, true_and, nlO_i, nlO_n, nlO_r, List.length_nil, List.length_cons, Nat.reduceAdd, Nat.reduceLeDiff, Nat.zero_le, u71_22, u71_23, u71_25, u71_27, a1, em1, rc1, rs1, t10, hn_ne (show ¬ v = v + 3 by omega), GX10, PX10, or_true, true_or, Int.reduceLE]
    rw [← y2]
    simp (disch := omega) only [KK, Int.reduceEq, not_false_iff, ↓reduceIte, ↓if_pos, ↓if_neg, xt_o, true_and, nlO_i, nlO_n, nlO_r, List.length_nil, List.length_cons, Nat.reduceAdd, Nat.reduceLeDiff, Nat.zero_le, u71_30, u71_31, u71_32, u71_35, u71_36, u71_38, u71_40, a2, eb, em2, rc2, rs2, t6, hn_ne (show ¬ v = v + 4 by omega), GX10, PX10, or_true, true_or, Int.reduceLE]
    rw [← y3]
    simp (disch := omega) only [KK, Int.reduceEq, not_false_iff, ↓reduceIte, ↓if_pos, ↓if_neg, xt_o, true_and, nlO_i, nlO_n, nlO_r, List.length_nil, List.length_cons, Nat.reduceAdd, Nat.reduceLeDiff, Nat.zero_le, u71_43, u71_44, u71_46, u71_49, u71_50, u71_51, a3, hs_eq, hs_hs, GX10, PX10, or_true, true_or]
    rw [← hh4]
    simp (disch := omega) only [KK, Int.reduceEq, not_false_iff, ↓reduceIte, ↓if_pos, ↓if_neg, xt_o, true_and, nlO_i, nlO_n, nlO_r, List.length_nil, List.length_cons, Nat.reduceAdd, Nat.reduceLeDiff, Nat.zero_le, u71_54, u71_55, u71_56, u71_57, u71_59, u71_62, a4, ht4, xl_a, em4, rc4, rs4, t0, t1, Int.toNat_natCast, hn_ne (show ¬ v = v + 5 by omega), GX10, PX10, or_true, true_or]
    rw [← y5]
end I3
