/-! on, done, image, undo, looked, whole of the model -/
section N5
variable {G : MG} {d : Nat} {m : Nat} {s s' im bd : Int → Int} {hi rn : Int} {h : MH}
theorem m_asker_sub (z : MS m s im hi rn bd h) (h28 : 0 ≤ s 28 ∧ s 28 ≤ 5) {w k : Int} (hw : -2147483648 ≤ w ∧ w < 2147483648) (hk : 0 ≤ k ∧ k ≤ 30) {Q : KQ} : wpC G (d + 2) 172 [vR m, vI (iBin 1 w k)] h Q = Q (some (vI (if k ≤ w ∧ w < k + s 28 then 1 else 0))) h := by
  obtain ⟨⟨f0, f5, f6, f7, f8, f9, f12, f13, f14, f17, f18, f21, f22, f23, q0⟩, q1, -⟩ := z
  have hx := m_isAsker (G := G) (d := d) (Q := Q) q0 q1 h28 (p := iBin 1 w k)
  by_cases c : -2147483648 ≤ w - k
  · rw [ar_sub ⟨c, by omega⟩] at hx ⊢
    rw [hx]
    by_cases c1 : k ≤ w ∧ w < k + s 28
    · rw [if_pos c1, if_pos (by omega)]
    · rw [if_neg c1, if_neg (by omega)]
  · rw [ar_subw (by omega)] at hx ⊢
    rw [hx, if_neg (by omega), if_neg (by omega)]
theorem N_on (ok : okP s) (z : MS m s im hi rn bd h) {n w : Int} (hw : -2147483648 ≤ w ∧ w < 2147483648) : mS G m (d + 7) 187 [vI n, vI w] (aON s n w) s im hi rn bd h := by
  have zz := z
  obtain ⟨⟨f0, f5, f6, f7, f8, f9, f12, f13, f14, f17, f18, f21, f22, f23, q0⟩, q1, -⟩ := zz
  have o28 := ok.1.1.2.1
  have o0 := ok.2.2.2.2.2.2.2.2.2.2
  have a1 := fun (K : KQ) => m_asker_sub (G := G) (d := d + 4) z o28 hw (k := 10) (by omega) (Q := K)
  have a2 := fun (K : KQ) => m_asker_sub (G := G) (d := d + 4) z o28 hw (k := 20) (by omega) (Q := K)
  have a3 := fun (K : KQ) => m_asker_sub (G := G) (d := d + 4) z o28 hw (k := 30) (by omega) (Q := K)
  have hx := fun (K : KQ) => m_in (G := G) (d := d + 5) (h := h) (Q := K) (v := n) (lo := 0) (hi := 60)
  have key : ∀ Q : KQ, wpC G (d + 7) 187 [vR m, vI n, vI w] h Q = if w = 0 ∨ (10 ≤ w ∧ w < 10 + s 28) ∨ (20 ≤ w ∧ w < 20 + s 28) ∨ (30 ≤ w ∧ w < 30 + s 28) then wp G (d + 6) 187 39 [some (vR m), some (vI n), some (vI w), none] [] h Q else Q (some (vI (-1))) h := fun Q => by
    rw [e187, u187_0, u187_1]
    by_cases c0 : w = 0
    · rw [if_pos c0, if_pos (Or.inl c0)]
    · rw [if_neg c0]
      by_cases c1 : 10 ≤ w ∧ w < 10 + s 28
      · have a1 := fun (K : KQ) => (a1 K).trans (by rw [if_pos c1])
        rw [if_pos (Or.inr (Or.inl c1))]
        simp (disch := omega) only [KK, Int.reduceEq, not_false_iff, ↓reduceIte, ↓if_pos, ↓if_neg, xt_o, true_and, nlO_i, nlO_n, nlO_r, List.length_nil, List.length_cons, Nat.reduceAdd, Nat.reduceLeDiff, Nat.zero_le, u187_4, u187_5, u187_6, u187_8, u187_9, u187_12, a1, q0, VS13]
      · have a1 := fun (K : KQ) => (a1 K).trans (by rw [if_neg c1])
        by_cases c2 : 20 ≤ w ∧ w < 20 + s 28
        · have a2 := fun (K : KQ) => (a2 K).trans (by rw [if_pos c2])
          rw [if_pos (Or.inr (Or.inr (Or.inl c2)))]
          simp (disch := omega) only [KK, Int.reduceEq, not_false_iff, ↓reduceIte, ↓if_pos, ↓if_neg, xt_o, true_and, nlO_i, nlO_n, nlO_r, List.length_nil, List.length_cons, Nat.reduceAdd, Nat.reduceLeDiff, Nat.zero_le, u187_4, u187_5, u187_6, u187_8, u187_9, u187_12, u187_15, u187_16, u187_17, u187_19, u187_20, u187_23, a1, a2, q0, VS13]
        · have a2 := fun (K : KQ) => (a2 K).trans (by rw [if_neg c2])
          by_cases c3 : 30 ≤ w ∧ w < 30 + s 28
          · have a3 := fun (K : KQ) => (a3 K).trans (by rw [if_pos c3])
            rw [if_pos (Or.inr (Or.inr (Or.inr c3)))]
            simp (disch := omega) only [KK, Int.reduceEq, not_false_iff, ↓reduceIte, ↓if_pos, ↓if_neg, xt_o, true_and, nlO_i, nlO_n, nlO_r, List.length_nil, List.length_cons, Nat.reduceAdd, Nat.reduceLeDiff, Nat.zero_le, u187_4, u187_5, u187_6, u187_8, u187_9, u187_12, u187_15, u187_16, u187_17, u187_19, u187_20, u187_23, u187_26, u187_27, u187_28, u187_30, u187_31, u187_34, a1, a2, a3, q0, VS13]
          · have a3 := fun (K : KQ) => (a3 K).trans (by rw [if_neg c3])
            rw [if_neg (fun q => q.elim c0 (fun q => q.elim c1 (fun q => q.elim c2 c3)))]
            simp (disch := omega) only [KK, Int.reduceEq, not_false_iff, ↓reduceIte, ↓if_pos, ↓if_neg, xt_o, true_and, nlO_i, nlO_n, nlO_r, List.length_nil, List.length_cons, Nat.reduceAdd, Nat.reduceLeDiff, Nat.zero_le, u187_4, u187_5, u187_6, u187_8, u187_9, u187_12, u187_15, u187_16, u187_17, u187_19, u187_20, u187_23, u187_26, u187_27, u187_28, u187_30, u187_31, u187_34, u187_37, u187_38, a1, a2, a3, q0, VS13]
  unfold aON
  by_cases cW : w = 0 ∨ (10 ≤ w ∧ w < 10 + s 28) ∨ (20 ≤ w ∧ w < 20 + s 28) ∨ (30 ≤ w ∧ w < 30 + s 28)
  · rw [if_pos cW]
    by_cases c : 0 ≤ n ∧ n ≤ 60
    · have hx := fun (K : KQ) => (hx K).trans (by rw [if_pos c])
      rw [if_pos c]
      obtain ⟨h1, u, z1, m1, F1, w1⟩ := n_keeps (G := G) (d := d + 5) z
      obtain ⟨h2, z2, m2, F2, w2⟩ := n_goesOn (G := G) (d := d) z1 ok.1.1 c (by omega)
      obtain ⟨h3, z3, m3, w3⟩ := n_back (G := G) (d := d + 5) z2 (F2.trans F1) (fun k hk => GOESn_low n.toNat ok.1.1 (by omega) k (by omega))
      have l28 := GOESn_low n.toNat ok.1.1 (by omega) 28 (by omega)
      have r2 := z2
      obtain ⟨⟨b0, b5, b6, b7, b8, b9, b12, b13, b14, b17, b18, b21, b22, b23, p0⟩, -⟩ := z1
      obtain ⟨⟨g0, g5, g6, g7, g8, g9, g12, g13, g14, g17, g18, g21, g22, g23, v0⟩, v1, -⟩ := r2
      have hb := fun (K : KQ) => m_manyBack (G := G) (d := d + 5) (Q := K) v0 v1 (by rw [l28]; exact o28)
      refine ⟨h3, z3, mF_tr m1 (mF_tr m2 m3), fun Q => ?_⟩
      rw [key, if_pos cW]
      by_cases c0 : w = 0
      · rw [if_pos c0]
        simp (disch := omega) only [KK, Int.reduceEq, not_false_iff, ↓reduceIte, ↓if_pos, ↓if_neg, xt_o, true_and, nlO_i, nlO_n, nlO_r, List.length_nil, List.length_cons, Nat.reduceAdd, Nat.reduceLeDiff, Nat.zero_le, U187, q0, p0, v0, v1, c0, hx, w1, w2, w3, hb, GX13, VS13, xa_i]
      · rw [if_neg c0]
        by_cases c1 : w < 20
        · rw [if_pos c1, show 1 + (w - 10) = 1 + w - 10 by omega]
          simp (disch := omega) only [KK, Int.reduceEq, not_false_iff, ↓reduceIte, ↓if_pos, ↓if_neg, xt_o, true_and, nlO_i, nlO_n, nlO_r, List.length_nil, List.length_cons, Nat.reduceAdd, Nat.reduceLeDiff, Nat.zero_le, U187, q0, p0, v0, v1, hx, w1, w2, w3, GX13, VS13, xa_i, ar_add, ar_sub]
        · rw [if_neg c1]
          by_cases c2 : w < 30
          · rw [if_pos c2, show 11 + (w - 20) = 11 + w - 20 by omega]
            simp (disch := omega) only [KK, Int.reduceEq, not_false_iff, ↓reduceIte, ↓if_pos, ↓if_neg, xt_o, true_and, nlO_i, nlO_n, nlO_r, List.length_nil, List.length_cons, Nat.reduceAdd, Nat.reduceLeDiff, Nat.zero_le, U187, q0, p0, v0, v1, hx, w1, w2, w3, GX13, VS13, xa_i, ar_add, ar_sub]
          · rw [if_neg c2, show 6 + (w - 30) = 6 + w - 30 by omega]
            simp (disch := omega) only [KK, Int.reduceEq, not_false_iff, ↓reduceIte, ↓if_pos, ↓if_neg, xt_o, true_and, nlO_i, nlO_n, nlO_r, List.length_nil, List.length_cons, Nat.reduceAdd, Nat.reduceLeDiff, Nat.zero_le, U187, q0, p0, v0, v1, hx, w1, w2, w3, GX13, VS13, xa_i, ar_add, ar_sub]
    · have hx := fun (K : KQ) => (hx K).trans (by rw [if_neg c])
      rw [if_neg c]
      refine mS_id z (fun Q => ?_)
      rw [key, if_pos cW]
      simp (disch := omega) only [KK, Int.reduceEq, not_false_iff, ↓reduceIte, ↓if_pos, ↓if_neg, xt_o, true_and, nlO_i, nlO_n, nlO_r, List.length_nil, List.length_cons, Nat.reduceAdd, Nat.reduceLeDiff, Nat.zero_le, U187, hx]
  · rw [if_neg cW]
    exact mS_id z (fun Q => by rw [key, if_neg cW])
/-- a row of the plan -/
theorem n_goesBy (z : MS m s im hi rn bd h) (ok : okW s) {w n : Int} (hw : 0 ≤ w ∧ w ≤ 3) (hn1 : w = 1 ∨ w = 2 → 0 ≤ n ∧ n < s 27) (hn3 : w = 3 → 0 ≤ n ∧ n < s 28) {F : MC} (hF : h.2.2 (m + 3) = some F) : ∃ h' : MH, MS m (plS w n s) im hi rn bd h' ∧ mF m h h' ∧ h'.2.2 (m + 3) = some F ∧ ∀ Q : KQ, wpC G (d + 6) 209 [vR m, vI w, vI n] h Q = Q none h' := by
  have zz := z
  obtain ⟨⟨f0, f5, f6, f7, f8, f9, f12, f13, f14, f17, f18, f21, f22, f23, q0⟩, q1, -⟩ := zz
  have o27 := ok.1.2.2.1
  have o28 := ok.1.2.1
  unfold plS
  by_cases w0 : w = 0
  · rw [if_pos w0]
    obtain ⟨h1, z1, m1, F1, w1⟩ := n_goes (G := G) (d := d) z ok.1
    refine ⟨h1, z1, m1, F1.trans hF, fun Q => ?_⟩
    rw [e209]
    simp (disch := omega) only [KK, Int.reduceEq, not_false_iff, ↓reduceIte, ↓if_pos, ↓if_neg, xt_o, true_and, nlO_i, nlO_n, nlO_r, List.length_nil, List.length_cons, Nat.reduceAdd, Nat.reduceLeDiff, Nat.zero_le, U209, q0, w0, w1, VS13]
  · rw [if_neg w0]
    by_cases w3 : w = 3
    · rw [if_pos w3]
      have hn := hn3 w3
      have ha : ∀ K : KQ, wpC G (d + 5) 170 [vR m, vI n] h K = K none (hset h (m + 1) (cArr 0 937 (ix (BEGs s n)))) := fun K => by
        unfold BEGs
        rw [e170]
        simp (disch := omega) only [KK, Int.reduceEq, not_false_iff, ↓reduceIte, ↓if_pos, ↓if_neg, xt_o, true_and, nlO_i, nlO_n, nlO_r, List.length_nil, List.length_cons, Nat.reduceAdd, Nat.reduceLeDiff, Nat.zero_le, U170, q0, q1, GX13, xs_i, hs_eq, hs_hs, hs_ne (mi_ne (m := m)), ar_add]
      refine ⟨_, MS_s z, mF_set (by omega), (hs_ne (by omega)).trans hF, fun Q => ?_⟩
      rw [e209]
      simp (disch := omega) only [KK, Int.reduceEq, not_false_iff, ↓reduceIte, ↓if_pos, ↓if_neg, xt_o, true_and, nlO_i, nlO_n, nlO_r, List.length_nil, List.length_cons, Nat.reduceAdd, Nat.reduceLeDiff, Nat.zero_le, U209, q0, w3, ha, VS13]
    · rw [if_neg w3]
      have hn := hn1 (by omega)
      refine ⟨_, MS_s z, mF_set (by omega), (hs_ne (by omega)).trans hF, fun Q => ?_⟩
      rw [e209]
      by_cases w1 : w = 1
      · rw [if_pos w1]
        simp (disch := omega) only [KK, Int.reduceEq, not_false_iff, ↓reduceIte, ↓if_pos, ↓if_neg, xt_o, true_and, nlO_i, nlO_n, nlO_r, List.length_nil, List.length_cons, Nat.reduceAdd, Nat.reduceLeDiff, Nat.zero_le, U209, q0, q1, w1, GX13, xs_i, ar_add]
      · rw [if_neg w1]
        simp (disch := omega) only [KK, Int.reduceEq, not_false_iff, ↓reduceIte, ↓if_pos, ↓if_neg, xt_o, true_and, nlO_i, nlO_n, nlO_r, List.length_nil, List.length_cons, Nat.reduceAdd, Nat.reduceLeDiff, Nat.zero_le, U209, q0, q1, GX13, xs_i, ar_add]
end N5
