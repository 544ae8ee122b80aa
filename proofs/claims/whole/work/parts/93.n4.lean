/-! plan, pass, on, done, image, undo, climb of the model -/
section N4
variable {G : MG} {d : Nat} {m : Nat} {s s' im bd : Int → Int} {hi rn : Int} {h : MH}
theorem N_plan (ok : okP s) (z : MS m s im hi rn bd h) {w n : Int} : mS G m (d + 3) 207 [vI w, vI n] (rPLAN s w n) (tPLAN s w n) im hi rn bd h := by
  have zz := z
  obtain ⟨⟨f0, f5, f6, f7, f8, f9, f12, f13, f14, f17, f18, f21, f22, f23, q0⟩, q1, -⟩ := zz
  have o28 := ok.1.1.2.1
  have o27 := ok.1.1.2.2.1
  have o31 := ok.2.2.1
  have hw := fun (K : KQ) => m_in (G := G) (d := d + 1) (h := h) (Q := K) (v := w) (lo := 0) (hi := 3)
  have hw2 := fun (K : KQ) => m_in (G := G) (d := d + 1) (h := h) (Q := K) (v := w) (lo := 1) (hi := 2)
  have hx := fun (K : KQ) => m_isAunt (G := G) (d := d) (Q := K) q0 q1 o27 (p := n)
  have hy := fun (K : KQ) => m_isAsker (G := G) (d := d) (Q := K) q0 q1 o28 (p := n)
  unfold rPLAN tPLAN
  by_cases c : w = -1
  · rw [if_pos c, if_pos c]
    refine mS_s z (fun Q => ?_)
    rw [e207]
    simp (disch := omega) only [KK, Int.reduceEq, not_false_iff, ↓reduceIte, ↓if_pos, ↓if_neg, xt_o, true_and, nlO_i, nlO_n, nlO_r, List.length_nil, List.length_cons, Nat.reduceAdd, Nat.reduceLeDiff, Nat.zero_le, U207, q0, q1, c, GX13, xs_i]
  · rw [if_neg c, if_neg c]
    have key : ∀ Q : KQ, wp G (d + 2) 207 15 [some (vR m), some (vI w), some (vI n)] [] h Q = if plB s w n then wp G (d + 2) 207 56 [some (vR m), some (vI w), some (vI n)] [] h Q else Q (some (vI (-1))) h := fun Q => by
      by_cases c1 : 0 ≤ w ∧ w ≤ 3
      · have hw := fun (K : KQ) => (hw K).trans (by rw [if_pos c1])
        by_cases c2 : 1 ≤ w ∧ w ≤ 2
        · have hw2 := fun (K : KQ) => (hw2 K).trans (by rw [if_pos c2])
          by_cases c3 : 0 ≤ n ∧ n < s 27
          · have hx := fun (K : KQ) => (hx K).trans (by rw [if_pos c3])
            rw [if_pos (show plB s w n from ⟨c1, fun _ => c3, fun q => by omega⟩)]
            simp (disch := omega) only [KK, Int.reduceEq, not_false_iff, ↓reduceIte, ↓if_pos, ↓if_neg, xt_o, true_and, nlO_i, nlO_n, nlO_r, List.length_nil, List.length_cons, Nat.reduceAdd, Nat.reduceLeDiff, Nat.zero_le, u207_15, u207_16, u207_17, u207_18, u207_21, u207_24, u207_25, u207_26, u207_27, u207_30, u207_33, u207_34, u207_35, u207_38, u207_41, u207_42, u207_43, hw, hw2, hx, q0, VS13]
          · have hx := fun (K : KQ) => (hx K).trans (by rw [if_neg c3])
            rw [if_neg (show ¬ plB s w n from fun q => c3 (q.2.1 (by omega)))]
            simp (disch := omega) only [KK, Int.reduceEq, not_false_iff, ↓reduceIte, ↓if_pos, ↓if_neg, xt_o, true_and, nlO_i, nlO_n, nlO_r, List.length_nil, List.length_cons, Nat.reduceAdd, Nat.reduceLeDiff, Nat.zero_le, u207_15, u207_16, u207_17, u207_18, u207_21, u207_24, u207_25, u207_26, u207_27, u207_30, u207_33, u207_34, u207_35, u207_38, u207_54, u207_55, hw, hw2, hx, q0, VS13]
        · have hw2 := fun (K : KQ) => (hw2 K).trans (by rw [if_neg c2])
          by_cases c4 : w = 3
          · by_cases c5 : 0 ≤ n ∧ n < s 28
            · have hy := fun (K : KQ) => (hy K).trans (by rw [if_pos c5])
              rw [if_pos (show plB s w n from ⟨c1, fun q => by omega, fun _ => c5⟩)]
              simp (disch := omega) only [KK, Int.reduceEq, not_false_iff, ↓reduceIte, ↓if_pos, ↓if_neg, xt_o, true_and, nlO_i, nlO_n, nlO_r, List.length_nil, List.length_cons, Nat.reduceAdd, Nat.reduceLeDiff, Nat.zero_le, u207_15, u207_16, u207_17, u207_18, u207_21, u207_24, u207_25, u207_26, u207_27, u207_30, u207_41, u207_42, u207_43, u207_46, u207_47, u207_48, u207_51, hw, hw2, hy, q0, VS13]
            · have hy := fun (K : KQ) => (hy K).trans (by rw [if_neg c5])
              rw [if_neg (show ¬ plB s w n from fun q => c5 (q.2.2 c4))]
              simp (disch := omega) only [KK, Int.reduceEq, not_false_iff, ↓reduceIte, ↓if_pos, ↓if_neg, xt_o, true_and, nlO_i, nlO_n, nlO_r, List.length_nil, List.length_cons, Nat.reduceAdd, Nat.reduceLeDiff, Nat.zero_le, u207_15, u207_16, u207_17, u207_18, u207_21, u207_24, u207_25, u207_26, u207_27, u207_30, u207_41, u207_42, u207_43, u207_46, u207_47, u207_48, u207_51, u207_54, u207_55, hw, hw2, hy, q0, VS13]
          · rw [if_pos (show plB s w n from ⟨c1, fun q => by omega, fun q => by omega⟩)]
            simp (disch := omega) only [KK, Int.reduceEq, not_false_iff, ↓reduceIte, ↓if_pos, ↓if_neg, xt_o, true_and, nlO_i, nlO_n, nlO_r, List.length_nil, List.length_cons, Nat.reduceAdd, Nat.reduceLeDiff, Nat.zero_le, u207_15, u207_16, u207_17, u207_18, u207_21, u207_24, u207_25, u207_26, u207_27, u207_30, u207_41, u207_42, u207_43, hw, hw2, q0, VS13]
      · have hw := fun (K : KQ) => (hw K).trans (by rw [if_neg c1])
        rw [if_neg (show ¬ plB s w n from fun q => c1 q.1)]
        simp (disch := omega) only [KK, Int.reduceEq, not_false_iff, ↓reduceIte, ↓if_pos, ↓if_neg, xt_o, true_and, nlO_i, nlO_n, nlO_r, List.length_nil, List.length_cons, Nat.reduceAdd, Nat.reduceLeDiff, Nat.zero_le, u207_15, u207_16, u207_17, u207_18, u207_21, u207_54, u207_55, hw]
    have pre : ∀ Q : KQ, wpC G (d + 3) 207 [vR m, vI w, vI n] h Q = wp G (d + 2) 207 15 [some (vR m), some (vI w), some (vI n)] [] h Q := fun Q => by
      rw [e207, u207_0, u207_1, u207_2, if_pos c]
    by_cases c1 : plB s w n
    · rw [if_pos c1]
      by_cases c3 : s 31 = 8
      · rw [if_pos c3, if_neg (fun q => q.2 c3)]
        refine mS_id z (fun Q => ?_)
        rw [pre, key, if_pos c1]
        simp (disch := omega) only [KK, Int.reduceEq, not_false_iff, ↓reduceIte, ↓if_pos, ↓if_neg, xt_o, true_and, nlO_i, nlO_n, nlO_r, List.length_nil, List.length_cons, Nat.reduceAdd, Nat.reduceLeDiff, Nat.zero_le, U207, q0, q1, c3, GX13, xa_i]
      · rw [if_neg c3, if_pos ⟨c1, c3⟩]
        refine mS_s z (fun Q => ?_)
        unfold sPLAN
        rw [pre, key, if_pos c1]
        simp (disch := omega) only [KK, Int.reduceEq, not_false_iff, ↓reduceIte, ↓if_pos, ↓if_neg, xt_o, true_and, nlO_i, nlO_n, nlO_r, List.length_nil, List.length_cons, Nat.reduceAdd, Nat.reduceLeDiff, Nat.zero_le, U207, q0, q1, c3, GX13, xa_i, xs_i, hs_eq, hs_hs, hs_ne (mi_ne (m := m)), up_eq, up_ne, ar_add]
    · rw [if_neg c1, if_neg (fun q => c1 q.1)]
      refine mS_id z (fun Q => ?_)
      rw [pre, key, if_neg c1]
theorem N_pass_l (z : MS m s im hi rn bd h) (h28 : 0 ≤ s 28 ∧ s 28 ≤ 5) (h6 : ∀ i, 0 ≤ i → i < 5 → s (6 + i) ≤ 200) {l1 : Option V} (n1 : nlO l1 = true) : ∀ (n : Nat) (i : Int), 0 ≤ i → i + n = s 28 → ∀ Q : KQ, wp G d 185 37 [some (vR m), l1, some (vI i)] [] h Q = Q (some (vI (s 0))) h := by
  obtain ⟨⟨f0, f5, f6, f7, f8, f9, f12, f13, f14, f17, f18, f21, f22, f23, q0⟩, q1, -⟩ := z
  intro n
  induction n with
  | zero =>
    intro i i0 hi Q
    have : i = s 28 := by omega
    subst this
    rw [u185_37]
    simp (disch := omega) only [KK, Int.reduceEq, not_false_iff, ↓reduceIte, ↓if_pos, ↓if_neg, xt_o, true_and, nlO_i, nlO_n, nlO_r, List.length_nil, List.length_cons, Nat.reduceAdd, Nat.reduceLeDiff, Nat.zero_le, U185, q0, q1, GX13, xa_i, Int.le_refl]
  | succ n ih =>
    intro i i0 hi Q
    have h6i := h6 i i0 (by omega)
    rw [← ih (i + 1) (by omega) (by omega) Q]
    generalize hW : wp G d 185 37 [some (vR m), l1, some (vI (i + 1))] [] h Q = W
    rw [u185_37]
    simp (disch := omega) only [KK, Int.reduceEq, not_false_iff, ↓reduceIte, ↓if_pos, ↓if_neg, xt_o, true_and, nlO_i, nlO_n, nlO_r, List.length_nil, List.length_cons, Nat.reduceAdd, Nat.reduceLeDiff, Nat.zero_le, U185, q0, q1, GX13, xa_i, xs_i, up_same (rfl : s (6 + i) = s (6 + i)), hs_same q1, ar_add, n1]
    exact hW
theorem N_pass (ok : okP s) (z : MS m s im hi rn bd h) {n : Int} : mS G m (d + 7) 185 [vI n] (rPASS s n) (tPASS s n) im hi rn bd h := by
  have zz := z
  obtain ⟨⟨f0, f5, f6, f7, f8, f9, f12, f13, f14, f17, f18, f21, f22, f23, q0⟩, q1, -⟩ := zz
  have o0 := ok.2.2.2.2.2.2.2.2.2.2
  have o00 := ok.1.1.1.2.2.2.2.2.1
  have hx := fun (K : KQ) => m_in (G := G) (d := d + 5) (h := h) (Q := K) (v := n) (lo := 0) (hi := 60)
  unfold rPASS tPASS
  by_cases c1 : 0 ≤ n ∧ n ≤ 60
  · have hx := fun (K : KQ) => (hx K).trans (by rw [if_pos c1])
    rw [if_pos c1]
    by_cases c2 : s 0 + n ≤ 9999
    · rw [if_pos c2, if_pos ⟨c1, c2⟩]
      obtain ⟨h1, z1, m1, -, w1⟩ := n_goesOn (G := G) (d := d) z ok.1.1 c1 (by omega)
      have ok1 := okW_GOESn n.toNat ok.1 (by omega)
      have e0 : GOESn n.toNat s 0 = s 0 + n := by
        obtain ⟨u, y, t, o, b, j1, j2, j3, j4, j5⟩ := z.2.2.2.2
        obtain ⟨y', t', ⟨-, w⟩, -⟩ := m_goesOn (G := G) (d := d) q0 q1 j2 j3 ok.1.1 c1 (by omega)
        exact w
      have hl := N_pass_l (G := G) (d := d + 6) z1 ok1.1.2.1 (fun i i0 i1 => (ok1.2.2.2.2.2.2 i i0 i1).2.2.1.2) (l1 := some (vI n)) rfl (GOESn n.toNat s 28).toNat 0 (by omega) (by have := ok1.1.2.1; omega)
      rw [e0] at hl
      refine ⟨h1, z1, m1, fun Q => ?_⟩
      rw [← hl Q, e185]
      generalize hW : wp G (d + 6) 185 37 _ [] h1 Q = W
      simp (disch := omega) only [KK, Int.reduceEq, not_false_iff, ↓reduceIte, ↓if_pos, ↓if_neg, xt_o, true_and, nlO_i, nlO_n, nlO_r, List.length_nil, List.length_cons, Nat.reduceAdd, Nat.reduceLeDiff, Nat.zero_le, U185, q0, q1, hx, w1, GX13, VS13, xa_i, ar_add]
      exact hW
    · rw [if_neg c2, if_neg (fun q => c2 q.2)]
      refine mS_id z (fun Q => ?_)
      rw [e185]
      simp (disch := omega) only [KK, Int.reduceEq, not_false_iff, ↓reduceIte, ↓if_pos, ↓if_neg, xt_o, true_and, nlO_i, nlO_n, nlO_r, List.length_nil, List.length_cons, Nat.reduceAdd, Nat.reduceLeDiff, Nat.zero_le, U185, q0, q1, hx, GX13, VS13, xa_i, ar_add]
  · have hx := fun (K : KQ) => (hx K).trans (by rw [if_neg c1])
    rw [if_neg c1, if_neg (fun q => c1 q.1)]
    refine mS_id z (fun Q => ?_)
    rw [e185]
    simp (disch := omega) only [KK, Int.reduceEq, not_false_iff, ↓reduceIte, ↓if_pos, ↓if_neg, xt_o, true_and, nlO_i, nlO_n, nlO_r, List.length_nil, List.length_cons, Nat.reduceAdd, Nat.reduceLeDiff, Nat.zero_le, U185, hx]
theorem N_climb (ok : okP s) (z : MS m s im hi rn bd h) {way hd w : Int} : mS G m (d + 6) 188 [vI way, vI hd, vI w] (aCLIMB s way hd w) s im hi rn bd h := by
  have zz := z
  obtain ⟨⟨f0, f5, f6, f7, f8, f9, f12, f13, f14, f17, f18, f21, f22, f23, q0⟩, q1, -⟩ := zz
  have hx := fun (K : KQ) => m_in (G := G) (d := d + 4) (h := h) (Q := K) (v := way) (lo := 0) (hi := 1)
  have hk := fun (K : KQ) => m_in (G := G) (d := d + 4) (h := h) (Q := K) (v := w) (lo := 0) (hi := 2)
  have hy := fun (K : KQ) => m_facts (G := G) (d := d + 3) (h := h) (Q := K) (x := hd)
  unfold aCLIMB
  by_cases c0 : 0 ≤ way ∧ way ≤ 1
  · have hx := fun (K : KQ) => (hx K).trans (by rw [if_pos c0])
    by_cases c1 : 0 ≤ w ∧ w ≤ 2
    · have hk := fun (K : KQ) => (hk K).trans (by rw [if_pos c1])
      rw [if_pos ⟨c0, c1⟩]
      by_cases c2 : 0 ≤ hd ∧ hd ≤ 255
      · have hy := fun (K : KQ) => (hy K).trans (by rw [if_pos c2])
        rw [if_pos c2]
        obtain ⟨H, S, B, zx⟩ := MS_X z
        obtain ⟨u, y, t, o, b, j1, -⟩ := z.2.2.2.2
        obtain ⟨h1, z1, m1, -, w1⟩ := r_climbs (G := G) (d := d) zx ok.1 j1 (way := way) (hd := hd)
        have z1' := z1
        obtain ⟨⟨g0, g5, g6, g7, g8, g9, g17, g18, g21, g22, g23, v0⟩, -⟩ := z1'
        have key : ∀ Q : KQ, wpC G (d + 6) 188 [vR m, vI way, vI hd, vI w] h Q = wp G (d + 5) 188 36 [some (vR m), some (vI way), some (vI hd), some (vI w)] [] h1 Q := fun Q => by
          rw [e188]
          simp (disch := omega) only [u188_0, u188_1, u188_2, u188_3, u188_6, u188_9, u188_10, u188_11, u188_12, u188_15, u188_18, u188_20, u188_21, u188_24, u188_27, u188_30, u188_31, u188_32, u188_33, KK, hx, hk, hy, w1, q0, xt_o, VS13, Int.reduceEq, not_false_iff, ↓reduceIte, ↓if_pos, ↓if_neg, nlO_i, nlO_n, nlO_r, true_and, List.length_nil, List.length_cons, Nat.reduceAdd, Nat.reduceLeDiff, Nat.zero_le]
        refine ⟨h1, MSX_S z1, m1, fun Q => ?_⟩
        rw [key]
        by_cases w0 : w = 0
        · rw [if_pos w0]
          simp (disch := omega) only [KK, Int.reduceEq, not_false_iff, ↓reduceIte, ↓if_pos, ↓if_neg, xt_o, true_and, nlO_i, nlO_n, nlO_r, List.length_nil, List.length_cons, Nat.reduceAdd, Nat.reduceLeDiff, Nat.zero_le, U188, v0, w0, GX13]
        · rw [if_neg w0]
          by_cases w1' : w = 1
          · rw [if_pos w1']
            simp (disch := omega) only [KK, Int.reduceEq, not_false_iff, ↓reduceIte, ↓if_pos, ↓if_neg, xt_o, true_and, nlO_i, nlO_n, nlO_r, List.length_nil, List.length_cons, Nat.reduceAdd, Nat.reduceLeDiff, Nat.zero_le, U188, v0, w1', GX13]
          · rw [if_neg w1']
            simp (disch := omega) only [KK, Int.reduceEq, not_false_iff, ↓reduceIte, ↓if_pos, ↓if_neg, xt_o, true_and, nlO_i, nlO_n, nlO_r, List.length_nil, List.length_cons, Nat.reduceAdd, Nat.reduceLeDiff, Nat.zero_le, U188, v0, GX13]
      · have hy := fun (K : KQ) => (hy K).trans (by rw [if_neg c2])
        rw [if_neg c2]
        refine mS_id z (fun Q => ?_)
        rw [e188]
        simp (disch := omega) only [KK, Int.reduceEq, not_false_iff, ↓reduceIte, ↓if_pos, ↓if_neg, xt_o, true_and, nlO_i, nlO_n, nlO_r, List.length_nil, List.length_cons, Nat.reduceAdd, Nat.reduceLeDiff, Nat.zero_le, U188, hx, hk, hy, q0, VS13]
    · have hk := fun (K : KQ) => (hk K).trans (by rw [if_neg c1])
      rw [if_neg (fun q => c1 q.2)]
      refine mS_id z (fun Q => ?_)
      rw [e188]
      simp (disch := omega) only [KK, Int.reduceEq, not_false_iff, ↓reduceIte, ↓if_pos, ↓if_neg, xt_o, true_and, nlO_i, nlO_n, nlO_r, List.length_nil, List.length_cons, Nat.reduceAdd, Nat.reduceLeDiff, Nat.zero_le, U188, hx, hk, q0, VS13]
  · have hx := fun (K : KQ) => (hx K).trans (by rw [if_neg c0])
    rw [if_neg (fun q => c0 q.1)]
    refine mS_id z (fun Q => ?_)
    rw [e188]
    simp (disch := omega) only [KK, Int.reduceEq, not_false_iff, ↓reduceIte, ↓if_pos, ↓if_neg, xt_o, true_and, nlO_i, nlO_n, nlO_r, List.length_nil, List.length_cons, Nat.reduceAdd, Nat.reduceLeDiff, Nat.zero_le, U188, hx, q0, VS13]
end N4
