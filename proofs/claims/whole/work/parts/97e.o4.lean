/-! order of the model -/
section O4
variable {G : MG} {d : Nat} {m : Nat} {s im bd : Int → Int} {hi rn : Int} {h : MH}
theorem N_order (ok : okP s) (z : MS m s im hi rn bd h) {kn what : Int} : mS G m (d + 12) 191 [vI kn, vI what] (aORD s kn what) s im hi rn bd h := by
  have zz := z
  obtain ⟨⟨f0, f5, f6, f7, f8, f9, f12, f13, f14, f17, f18, f21, f22, f23, q0⟩, q1, q2, q8', u, y, t, o, b, j1, j2, j3, j4, j5⟩ := zz
  have o27 := ok.1.1.2.2.1
  have NV := NERVE_le ok.1
  have hsh := shl_of o27.1 o27.2
  have hw1 := fun (K : KQ) => m_in (G := G) (d := d + 10) (h := h) (Q := K) (v := what) (lo := 0) (hi := 1)
  have hw2 := fun (K : KQ) => m_in (G := G) (d := d + 10) (h := h) (Q := K) (v := what) (lo := 10) (hi := 15)
  have hy := fun (K : KQ) => m_facts (G := G) (d := d + 9) (h := h) (Q := K) (x := kn)
  unfold aORD
  by_cases c : what = 0 ∨ what = 1 ∨ (10 ≤ what ∧ what < 16)
  · rw [if_pos c]
    have k1 : ∀ Q : KQ, wpC G (d + 12) 191 [vR m, vI kn, vI what] h Q = wp G (d + 11) 191 22 [some (vR m), some (vI kn), some (vI what)] [] h Q := fun Q => by
      rw [e191]
      by_cases c0 : 0 ≤ what ∧ what ≤ 1
      · have hw1 := fun (K : KQ) => (hw1 K).trans (by rw [if_pos c0])
        simp (disch := omega) only [KK, Int.reduceEq, not_false_iff, ↓reduceIte, ↓if_pos, ↓if_neg, xt_o, true_and, nlO_i, nlO_n, nlO_r, List.length_nil, List.length_cons, Nat.reduceAdd, Nat.reduceLeDiff, Nat.zero_le, u191_0, u191_1, u191_2, u191_3, u191_6, hw1]
      · have hw1 := fun (K : KQ) => (hw1 K).trans (by rw [if_neg c0])
        have hw2 := fun (K : KQ) => (hw2 K).trans (by rw [if_pos (by omega)])
        simp (disch := omega) only [KK, Int.reduceEq, not_false_iff, ↓reduceIte, ↓if_pos, ↓if_neg, xt_o, true_and, nlO_i, nlO_n, nlO_r, List.length_nil, List.length_cons, Nat.reduceAdd, Nat.reduceLeDiff, Nat.zero_le, u191_0, u191_1, u191_2, u191_3, u191_6, u191_9, u191_10, u191_12, u191_14, u191_17, hw1, hw2]
    by_cases cn : 0 ≤ kn ∧ kn ≤ 255
    · have hy := fun (K : KQ) => (hy K).trans (by rw [if_pos cn])
      rw [if_pos cn]
      obtain ⟨h1, hh1⟩ : ∃ h1, h1 = hset h m (mO m f0 hi f5 f6 f7 f8 f9 f12 f13 f14 (-1) 0 rn f21 f22 f23) := ⟨_, rfl⟩
      have zn : MSO m s im hi rn bd (-1) 0 o b h1 := by
        rw [hh1]
        exact ⟨⟨f0, f5, f6, f7, f8, f9, f12, f13, f14, f21, f22, f23, hs_eq⟩, (hs_ne (by omega)).trans q1, (hs_ne (by omega)).trans q2, (hs_ne (by omega)).trans q8', ⟨u, y, t, (hs_ne (by omega)).trans j1, (hs_ne (by omega)).trans j2, (hs_ne (by omega)).trans j3⟩, (hs_ne (by omega)).trans j4, (hs_ne (by omega)).trans j5⟩
      obtain ⟨e, he⟩ : ∃ e, d + 11 = e + 5 + (s 27).toNat := ⟨d + 6 - (s 27).toNat, by omega⟩
      obtain ⟨h2, c', k', row', best', a1, a2, a3, a4, a5⟩ := o_orders (G := G) (d := e) ok.1 (s 27).toNat 0 0 kn 0 0 (-1) (-1) 0 o b h1 zn (by omega) (by have := Nat.two_pow_pos (s 27).toNat; omega) (uz_0 (by omega)) (by omega) (by omega) (by omega) (p8_0 (by omega)) cn.1 cn.2 (by omega) (by omega) (fun j j0 j1 => by omega) (Or.inl ⟨rfl, rfl⟩)
      rw [← he, Int.sub_zero] at a5
      have hvi := vORD_in ok.1 cn
      have hmx : max (-1) (oF s (s 27).toNat 0 0 kn 0) = vORD s kn := by
        have : vORD s kn = oF s (s 27).toNat 0 0 kn 0 := rfl
        rw [← this]
        exact Int.max_eq_right (by omega)
      have hlim := (p8_q (m := (s 27).toNat) (od := 0) (by omega) (by omega) (p8_0 (by omega))).1
      rw [hmx] at a4
      have z1 := MSO_S a1
      have key : ∀ Q : KQ, wp G (d + 11) 191 22 [some (vR m), some (vI kn), some (vI what)] [] h Q = wp G (d + 11) 191 60 [some (vR m), some (vI kn), some (vI what)] [] h2 Q := fun Q => by
        simp (disch := omega) only [KK, Int.reduceEq, not_false_iff, ↓reduceIte, ↓if_pos, ↓if_neg, xt_o, true_and, nlO_i, nlO_n, nlO_r, List.length_nil, List.length_cons, Nat.reduceAdd, Nat.reduceLeDiff, Nat.zero_le, u191_22, u191_23, u191_26, u191_32, u191_33, u191_34, u191_37, u191_38, u191_39, u191_42, u191_43, u191_44, u191_45, u191_46, u191_49, u191_51, u191_52, u191_53, u191_54, u191_55, u191_56, u191_57, hy, q0, q1, hs_eq, hs_hs, hs_ne (show ¬ m + 1 = m by omega), GX13, PX13, VS13, xa_i, ar_sub, or_true, true_or]
        rw [← hh1, a5]
        simp only [KK]
      obtain ⟨⟨g0, g5, g6, g7, g8, g9, g12, g13, g14, g21, g22, g23, x0⟩, x1, x2, x8, -, x6, x7⟩ := a1
      refine ⟨h2, z1, mF_tr (by rw [hh1]; exact mF_set (by omega)) a2, fun Q => ?_⟩
      rw [k1, key]
      rcases a4 with ⟨b1, b2⟩ | ⟨hd, o', b1, b2, b3, b4, b5, b6⟩
      · rw [if_pos b1]
        simp (disch := omega) only [KK, Int.reduceEq, not_false_iff, ↓reduceIte, ↓if_pos, ↓if_neg, xt_o, true_and, nlO_i, nlO_n, nlO_r, List.length_nil, List.length_cons, Nat.reduceAdd, Nat.reduceLeDiff, Nat.zero_le, u191_60, u191_61, u191_64, u191_65, u191_68, u191_70, x0, b2, GX13]
      · have hc := cn8 b1.1 b1.2
        have hne : ¬ vORD s kn = -1 := by rw [b4]; unfold lfO; omega
        have hcn : ¬ c' = -1 := by omega
        rw [if_neg hne]
        have v1 : vORD s kn / 33554432 = c' := by rw [b4]; unfold lfO; omega
        have v2 : 127 - vORD s kn / 262144 % 128 = k' := by rw [b4]; unfold lfO; omega
        have v3 : 262143 - vORD s kn % 262144 = o' := by rw [b4]; unfold lfO; omega
        rw [v1, v2, v3]
        by_cases c0 : what = 0
        · rw [if_pos c0]
          simp (disch := omega) only [KK, Int.reduceEq, not_false_iff, ↓reduceIte, ↓if_pos, ↓if_neg, xt_o, true_and, nlO_i, nlO_n, nlO_r, List.length_nil, List.length_cons, Nat.reduceAdd, Nat.reduceLeDiff, Nat.zero_le, U191, x0, hcn, c0, GX13]
        · rw [if_neg c0]
          by_cases c1 : what = 1
          · rw [if_pos c1]
            simp (disch := omega) only [KK, Int.reduceEq, not_false_iff, ↓reduceIte, ↓if_pos, ↓if_neg, xt_o, true_and, nlO_i, nlO_n, nlO_r, List.length_nil, List.length_cons, Nat.reduceAdd, Nat.reduceLeDiff, Nat.zero_le, U191, x0, hcn, c1, GX13]
          · rw [if_neg c1]
            by_cases c2 : what - 10 < s 27
            · rw [if_pos c2, ← b6 (what - 10) (by omega) c2]
              simp (disch := omega) only [KK, Int.reduceEq, not_false_iff, ↓reduceIte, ↓if_pos, ↓if_neg, xt_o, true_and, nlO_i, nlO_n, nlO_r, List.length_nil, List.length_cons, Nat.reduceAdd, Nat.reduceLeDiff, Nat.zero_le, U191, x0, x1, x7, hcn, GX13, xa_i, ar_sub (a := what)]
            · rw [if_neg c2]
              simp (disch := omega) only [KK, Int.reduceEq, not_false_iff, ↓reduceIte, ↓if_pos, ↓if_neg, xt_o, true_and, nlO_i, nlO_n, nlO_r, List.length_nil, List.length_cons, Nat.reduceAdd, Nat.reduceLeDiff, Nat.zero_le, U191, x0, x1, x7, hcn, GX13, xa_i, ar_sub (a := what)]
    · have hy := fun (K : KQ) => (hy K).trans (by rw [if_neg cn])
      rw [if_neg cn]
      refine mS_id z (fun Q => ?_)
      rw [k1]
      simp (disch := omega) only [KK, Int.reduceEq, not_false_iff, ↓reduceIte, ↓if_pos, ↓if_neg, xt_o, true_and, nlO_i, nlO_n, nlO_r, List.length_nil, List.length_cons, Nat.reduceAdd, Nat.reduceLeDiff, Nat.zero_le, U191, hy]
  · have hw1 := fun (K : KQ) => (hw1 K).trans (by rw [if_neg (by omega)])
    have hw2 := fun (K : KQ) => (hw2 K).trans (by rw [if_neg (by omega)])
    rw [if_neg c]
    refine mS_id z (fun Q => ?_)
    rw [e191]
    simp (disch := omega) only [KK, Int.reduceEq, not_false_iff, ↓reduceIte, ↓if_pos, ↓if_neg, xt_o, true_and, nlO_i, nlO_n, nlO_r, List.length_nil, List.length_cons, Nat.reduceAdd, Nat.reduceLeDiff, Nat.zero_le, U191, hw1, hw2]
end O4
