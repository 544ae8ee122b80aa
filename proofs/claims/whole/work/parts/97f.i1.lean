/-! the model's constructor -/
def s00 : Int → Int := up (up (up (up (up (up (up (up (up (fun _ => 0) 34 (-1)) 35 1) (35 + 1) 1) (35 + 2) 1) (35 + 3) 1) (35 + 4) 1) (35 + 5) 1) (35 + 6) 1) (35 + 7) 1
def stA (m a n : Nat) (arr cell : MC) (h h' : MH) : Prop := h'.2.2 m = some cell ∧ h'.2.2 a = some arr ∧ (∀ q, ¬ q = m → ¬ q = a → h'.2.2 q = h.2.2 q) ∧ h'.1 = h.1 + 1 ∧ h'.2.1 = h.2.1 + n
theorem stA_ex {m a n : Nat} {arr cell : MC} {h : MH} (hne : ¬ a = m) : ∃ h' : MH, h' = hset (hnew h a n arr) m cell ∧ stA m a n arr cell h h' := by
  refine ⟨_, rfl, hs_eq, (hs_ne hne).trans hn_eq, fun q q1 q2 => (hs_ne q1).trans (hn_ne q2), rfl, rfl⟩
section I1
variable {G : MG} {d : Nat} {m : Nat} {h : MH}
theorem M_new (hm : h.2.2 m = some (cObj 13 [vI 0, vO none, vO none, vO none, vI 0, vI 0, vI 0, vI 0, vI 0, vI 0, vO none, vO none, vI 0, vI 0, vI 0, vO none, vO none, vI 0, vI 0, vO none, vI 0, vI 0, vI 0, vI 0])) (em : G.1 + h.1 = m + 1) (hr : h.1 + 8 ≤ maxC ∧ h.2.1 + 2100 ≤ maxS) : ∃ h' : MH, MS m s00 (fun _ => 0) 0 0 (fun _ => 0) h' ∧ (∀ q, (q < m ∨ m + 9 ≤ q) → h'.2.2 q = h.2.2 q) ∧ (h'.1 = h.1 + 8 ∧ h'.2.1 ≤ h.2.1 + 2100 ∧ h.2.1 ≤ h'.2.1) ∧ ∀ Q : KQ, wpC G (d + 2) 137 [vR m] h Q = Q none h' := by
  obtain ⟨h1, y1, a1, b1, c1, d1, e1⟩ := stA_ex (m := m) (a := m + 1) (n := 937) (arr := cArr 0 937 (fun _ => 0)) (cell := cObj 13 [vI 0, vR (m + 1), vO none, vO none, vI 0, vI 0, vI 0, vI 0, vI 0, vI 0, vO none, vO none, vI 0, vI 0, vI 0, vO none, vO none, vI 0, vI 0, vO none, vI 0, vI 0, vI 0, vI 0]) (h := h) (by omega)
  obtain ⟨h2, y2, a2, b2, c2, d2, e2⟩ := stA_ex (m := m) (a := m + 2) (n := 937) (arr := cArr 0 937 (fun _ => 0)) (cell := cObj 13 [vI 0, vR (m + 1), vR (m + 2), vO none, vI 0, vI 0, vI 0, vI 0, vI 0, vI 0, vO none, vO none, vI 0, vI 0, vI 0, vO none, vO none, vI 0, vI 0, vO none, vI 0, vI 0, vI 0, vI 0]) (h := h1) (by omega)
  obtain ⟨h3, y3, a3, b3, c3, d3, e3⟩ := stA_ex (m := m) (a := m + 3) (n := 27) (arr := cArr 0 27 (fun _ => 0)) (cell := cObj 13 [vI 0, vR (m + 1), vR (m + 2), vR (m + 3), vI 0, vI 0, vI 0, vI 0, vI 0, vI 0, vO none, vO none, vI 0, vI 0, vI 0, vO none, vO none, vI 0, vI 0, vO none, vI 0, vI 0, vI 0, vI 0]) (h := h2) (by omega)
  obtain ⟨h4, y4, a4, b4, c4, d4, e4⟩ := stA_ex (m := m) (a := m + 4) (n := 6) (arr := cArr 0 6 (fun _ => 0)) (cell := cObj 13 [vI 0, vR (m + 1), vR (m + 2), vR (m + 3), vI 0, vI 0, vI 0, vI 0, vI 0, vI 0, vR (m + 4), vO none, vI 0, vI 0, vI 0, vO none, vO none, vI 0, vI 0, vO none, vI 0, vI 0, vI 0, vI 0]) (h := h3) (by omega)
  obtain ⟨h5, y5, a5, b5, c5, d5, e5⟩ := stA_ex (m := m) (a := m + 5) (n := 64) (arr := cArr 1 64 (fun _ => 0)) (cell := cObj 13 [vI 0, vR (m + 1), vR (m + 2), vR (m + 3), vI 0, vI 0, vI 0, vI 0, vI 0, vI 0, vR (m + 4), vR (m + 5), vI 0, vI 0, vI 0, vO none, vO none, vI 0, vI 0, vO none, vI 0, vI 0, vI 0, vI 0]) (h := h4) (by omega)
  obtain ⟨h6, y6, a6, b6, c6, d6, e6⟩ := stA_ex (m := m) (a := m + 6) (n := 6) (arr := cArr 0 6 (fun _ => 0)) (cell := cObj 13 [vI 0, vR (m + 1), vR (m + 2), vR (m + 3), vI 0, vI 0, vI 0, vI 0, vI 0, vI 0, vR (m + 4), vR (m + 5), vI 0, vI 0, vI 0, vR (m + 6), vO none, vI 0, vI 0, vO none, vI 0, vI 0, vI 0, vI 0]) (h := h5) (by omega)
  obtain ⟨h7, y7, a7, b7, c7, d7, e7⟩ := stA_ex (m := m) (a := m + 7) (n := 6) (arr := cArr 0 6 (fun _ => 0)) (cell := cObj 13 [vI 0, vR (m + 1), vR (m + 2), vR (m + 3), vI 0, vI 0, vI 0, vI 0, vI 0, vI 0, vR (m + 4), vR (m + 5), vI 0, vI 0, vI 0, vR (m + 6), vR (m + 7), vI 0, vI 0, vO none, vI 0, vI 0, vI 0, vI 0]) (h := h6) (by omega)
  obtain ⟨h8, y8, a8, b8, c8, d8, e8⟩ := stA_ex (m := m) (a := m + 8) (n := 20) (arr := cArr 0 20 (fun _ => 0)) (cell := mO m 0 0 0 0 0 0 0 0 0 0 0 0 0 0 0 0) (h := h7) (by omega)
  have t937 : Int.toNat 937 = 937 := rfl
  have t27 : Int.toNat 27 = 27 := rfl
  have t6 : Int.toNat 6 = 6 := rfl
  have t64 : Int.toNat 64 = 64 := rfl
  have t20 : Int.toNat 20 = 20 := rfl
  have em0 : G.1 + h.1 = m + 1 := by omega
  have rc0 : (h.1 + 1 ≤ maxC) = True := eq_true (by omega)
  have rs0 : (h.2.1 + 937 ≤ maxS) = True := eq_true (by omega)
  have k1 : ∀ Q : KQ, wp G (d + 1) 137 4 [some (vR m), none] [] h Q = wp G (d + 1) 137 13 [some (vR m), none] [] h1 Q := fun Q => by
    simp (disch := omega) only [KK, Int.reduceEq, not_false_iff, ↓reduceIte, ↓if_pos, ↓if_neg, xt_o, true_and, nlO_i, nlO_n, nlO_r, List.length_nil, List.length_cons, Nat.reduceAdd, Nat.reduceLeDiff, Nat.zero_le, u137_4, u137_5, u137_8, u137_10, em0, rc0, rs0, t937, hm, hn_ne (show ¬ m = m + 1 by omega), GX13, PX13, or_true, true_or, Int.reduceLE, true_and]
    rw [← y1]
  have em1 : G.1 + h1.1 = m + 2 := by omega
  have rc1 : (h1.1 + 1 ≤ maxC) = True := eq_true (by omega)
  have rs1 : (h1.2.1 + 937 ≤ maxS) = True := eq_true (by omega)
  have k2 : ∀ Q : KQ, wp G (d + 1) 137 13 [some (vR m), none] [] h1 Q = wp G (d + 1) 137 22 [some (vR m), none] [] h2 Q := fun Q => by
    simp (disch := omega) only [KK, Int.reduceEq, not_false_iff, ↓reduceIte, ↓if_pos, ↓if_neg, xt_o, true_and, nlO_i, nlO_n, nlO_r, List.length_nil, List.length_cons, Nat.reduceAdd, Nat.reduceLeDiff, Nat.zero_le, u137_13, u137_14, u137_17, u137_19, em1, rc1, rs1, t937, a1, hn_ne (show ¬ m = m + 2 by omega), GX13, PX13, or_true, true_or, Int.reduceLE, true_and]
    rw [← y2]
  have em2 : G.1 + h2.1 = m + 3 := by omega
  have rc2 : (h2.1 + 1 ≤ maxC) = True := eq_true (by omega)
  have rs2 : (h2.2.1 + 27 ≤ maxS) = True := eq_true (by omega)
  have k3 : ∀ Q : KQ, wp G (d + 1) 137 22 [some (vR m), none] [] h2 Q = wp G (d + 1) 137 30 [some (vR m), none] [] h3 Q := fun Q => by
    simp (disch := omega) only [KK, Int.reduceEq, not_false_iff, ↓reduceIte, ↓if_pos, ↓if_neg, xt_o, true_and, nlO_i, nlO_n, nlO_r, List.length_nil, List.length_cons, Nat.reduceAdd, Nat.reduceLeDiff, Nat.zero_le, u137_22, u137_23, u137_25, u137_27, em2, rc2, rs2, t27, a2, hn_ne (show ¬ m = m + 3 by omega), GX13, PX13, or_true, true_or, Int.reduceLE, true_and]
    rw [← y3]
  have em3 : G.1 + h3.1 = m + 4 := by omega
  have rc3 : (h3.1 + 1 ≤ maxC) = True := eq_true (by omega)
  have rs3 : (h3.2.1 + 6 ≤ maxS) = True := eq_true (by omega)
  have k4 : ∀ Q : KQ, wp G (d + 1) 137 30 [some (vR m), none] [] h3 Q = wp G (d + 1) 137 38 [some (vR m), none] [] h4 Q := fun Q => by
    simp (disch := omega) only [KK, Int.reduceEq, not_false_iff, ↓reduceIte, ↓if_pos, ↓if_neg, xt_o, true_and, nlO_i, nlO_n, nlO_r, List.length_nil, List.length_cons, Nat.reduceAdd, Nat.reduceLeDiff, Nat.zero_le, u137_30, u137_31, u137_33, u137_35, em3, rc3, rs3, t6, a3, hn_ne (show ¬ m = m + 4 by omega), GX13, PX13, or_true, true_or, Int.reduceLE, true_and]
    rw [← y4]
  have em4 : G.1 + h4.1 = m + 5 := by omega
  have rc4 : (h4.1 + 1 ≤ maxC) = True := eq_true (by omega)
  have rs4 : (h4.2.1 + 64 ≤ maxS) = True := eq_true (by omega)
  have k5 : ∀ Q : KQ, wp G (d + 1) 137 38 [some (vR m), none] [] h4 Q = wp G (d + 1) 137 46 [some (vR m), none] [] h5 Q := fun Q => by
    simp (disch := omega) only [KK, Int.reduceEq, not_false_iff, ↓reduceIte, ↓if_pos, ↓if_neg, xt_o, true_and, nlO_i, nlO_n, nlO_r, List.length_nil, List.length_cons, Nat.reduceAdd, Nat.reduceLeDiff, Nat.zero_le, u137_38, u137_39, u137_41, u137_43, em4, rc4, rs4, t64, a4, hn_ne (show ¬ m = m + 5 by omega), GX13, PX13, or_true, true_or, Int.reduceLE, true_and]
    rw [← y5]
  have em5 : G.1 + h5.1 = m + 6 := by omega
  have rc5 : (h5.1 + 1 ≤ maxC) = True := eq_true (by omega)
  have rs5 : (h5.2.1 + 6 ≤ maxS) = True := eq_true (by omega)
  have k6 : ∀ Q : KQ, wp G (d + 1) 137 46 [some (vR m), none] [] h5 Q = wp G (d + 1) 137 54 [some (vR m), none] [] h6 Q := fun Q => by
    simp (disch := omega) only [KK, Int.reduceEq, not_false_iff, ↓reduceIte, ↓if_pos, ↓if_neg, xt_o, true_and, nlO_i, nlO_n, nlO_r, List.length_nil, List.length_cons, Nat.reduceAdd, Nat.reduceLeDiff, Nat.zero_le, u137_46, u137_47, u137_49, u137_51, em5, rc5, rs5, t6, a5, hn_ne (show ¬ m = m + 6 by omega), GX13, PX13, or_true, true_or, Int.reduceLE, true_and]
    rw [← y6]
  have em6 : G.1 + h6.1 = m + 7 := by omega
  have rc6 : (h6.1 + 1 ≤ maxC) = True := eq_true (by omega)
  have rs6 : (h6.2.1 + 6 ≤ maxS) = True := eq_true (by omega)
  have k7 : ∀ Q : KQ, wp G (d + 1) 137 54 [some (vR m), none] [] h6 Q = wp G (d + 1) 137 62 [some (vR m), none] [] h7 Q := fun Q => by
    simp (disch := omega) only [KK, Int.reduceEq, not_false_iff, ↓reduceIte, ↓if_pos, ↓if_neg, xt_o, true_and, nlO_i, nlO_n, nlO_r, List.length_nil, List.length_cons, Nat.reduceAdd, Nat.reduceLeDiff, Nat.zero_le, u137_54, u137_55, u137_57, u137_59, em6, rc6, rs6, t6, a6, hn_ne (show ¬ m = m + 7 by omega), GX13, PX13, or_true, true_or, Int.reduceLE, true_and]
    rw [← y7]
  have em7 : G.1 + h7.1 = m + 8 := by omega
  have rc7 : (h7.1 + 1 ≤ maxC) = True := eq_true (by omega)
  have rs7 : (h7.2.1 + 20 ≤ maxS) = True := eq_true (by omega)
  have k8 : ∀ Q : KQ, wp G (d + 1) 137 62 [some (vR m), none] [] h7 Q = wp G (d + 1) 137 70 [some (vR m), none] [] h8 Q := fun Q => by
    simp (disch := omega) only [KK, Int.reduceEq, not_false_iff, ↓reduceIte, ↓if_pos, ↓if_neg, xt_o, true_and, nlO_i, nlO_n, nlO_r, List.length_nil, List.length_cons, Nat.reduceAdd, Nat.reduceLeDiff, Nat.zero_le, u137_62, u137_63, u137_65, u137_67, em7, rc7, rs7, t20, a7, hn_ne (show ¬ m = m + 8 by omega), GX13, PX13, or_true, true_or, Int.reduceLE, true_and]
    rw [← y8]
  have q1 : h8.2.2 (m + 1) = some (cArr 0 937 (ix (fun _ => 0))) := by
    rw [c8 _ (by omega) (by omega), c7 _ (by omega) (by omega), c6 _ (by omega) (by omega), c5 _ (by omega) (by omega), c4 _ (by omega) (by omega), c3 _ (by omega) (by omega), c2 _ (by omega) (by omega)]; exact b1
  have q2 : h8.2.2 (m + 2) = some (cArr 0 937 (ix (fun _ => 0))) := by
    rw [c8 _ (by omega) (by omega), c7 _ (by omega) (by omega), c6 _ (by omega) (by omega), c5 _ (by omega) (by omega), c4 _ (by omega) (by omega), c3 _ (by omega) (by omega)]; exact b2
  have q3 : h8.2.2 (m + 3) = some (cArr 0 27 (ix (fun _ => 0))) := by
    rw [c8 _ (by omega) (by omega), c7 _ (by omega) (by omega), c6 _ (by omega) (by omega), c5 _ (by omega) (by omega), c4 _ (by omega) (by omega)]; exact b3
  have q4 : h8.2.2 (m + 4) = some (cArr 0 6 (ix (fun _ => 0))) := by
    rw [c8 _ (by omega) (by omega), c7 _ (by omega) (by omega), c6 _ (by omega) (by omega), c5 _ (by omega) (by omega)]; exact b4
  have q5 : h8.2.2 (m + 5) = some (cArr 1 64 (ix (fun _ => 0))) := by
    rw [c8 _ (by omega) (by omega), c7 _ (by omega) (by omega), c6 _ (by omega) (by omega)]; exact b5
  have q6 : h8.2.2 (m + 6) = some (cArr 0 6 (ix (fun _ => 0))) := by
    rw [c8 _ (by omega) (by omega), c7 _ (by omega) (by omega)]; exact b6
  have q7 : h8.2.2 (m + 7) = some (cArr 0 6 (ix (fun _ => 0))) := by
    rw [c8 _ (by omega) (by omega)]; exact b7
  have q8 : h8.2.2 (m + 8) = some (cArr 0 20 (ix (fun _ => 0))) := b8
  have zz : MS m (fun _ => 0) (fun _ => 0) 0 0 (fun _ => 0) h8 := ⟨⟨0, 0, 0, 0, 0, 0, 0, 0, 0, 0, 0, 0, 0, 0, a8⟩, q1, q2, q8, _, _, _, _, _, q3, q4, q5, q6, q7⟩
  refine ⟨hset h8 (m + 1) (cArr 0 937 (ix s00)), MS_s zz, fun q hq => ?_, ⟨?_, ?_, ?_⟩, fun Q => ?_⟩
  · rw [hs_ne (by omega), c8 _ (by omega) (by omega), c7 _ (by omega) (by omega), c6 _ (by omega) (by omega), c5 _ (by omega) (by omega), c4 _ (by omega) (by omega), c3 _ (by omega) (by omega), c2 _ (by omega) (by omega), c1 _ (by omega) (by omega)]
  · show h8.1 = _
    omega
  · show h8.2.1 ≤ _
    omega
  · show _ ≤ h8.2.1
    omega
  · have k0 : wpC G (d + 2) 137 [vR m] h Q = wp G (d + 1) 137 4 [some (vR m), none] [] h Q := by
      rw [e137]
      simp (disch := omega) only [KK, Int.reduceEq, not_false_iff, ↓reduceIte, ↓if_pos, ↓if_neg, xt_o, true_and, nlO_i, nlO_n, nlO_r, List.length_nil, List.length_cons, Nat.reduceAdd, Nat.reduceLeDiff, Nat.zero_le, u137_0, u137_1]
    unfold s00
    rw [k0, k1, k2, k3, k4, k5, k6, k7, k8]
    simp (disch := omega) only [KK, Int.reduceEq, not_false_iff, ↓reduceIte, ↓if_pos, ↓if_neg, xt_o, true_and, nlO_i, nlO_n, nlO_r, List.length_nil, List.length_cons, Nat.reduceAdd, Nat.reduceLeDiff, Nat.zero_le, U137, u137_80, a8, q1, GX13, xs_i, hs_eq, hs_hs, hs_ne (mi_ne (m := m)), ar_add, Int.reduceLE, Int.reduceAdd]
end I1
