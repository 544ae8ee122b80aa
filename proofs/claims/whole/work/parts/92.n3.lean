/-! calls of the model that go on and back -/
theorem ar_subw {a b : Int} (h : a - b < -2147483648 ∧ -6442450944 ≤ a - b) : iBin 1 a b = a - b + 4294967296 := by
  have e : Int32.ofInt (a - b) = Int32.ofInt (a - b + 4294967296) := by
    apply Int32.toInt_inj.mp
    rw [Int32.toInt_ofInt, Int32.toInt_ofInt]
    have := Int.add_bmod_right (a - b) (2 ^ 32)
    exact this.symm
  show (Int32.ofInt a - Int32.ofInt b).toInt = _
  rw [← Int32.ofInt_sub, e]
  exact i32i ⟨by omega, by omega⟩
section N3
variable {G : MG} {d : Nat} {m : Nat} {s s' im bd : Int → Int} {hi rn : Int} {h : MH}
theorem n_keeps (z : MS m s im hi rn bd h) : ∃ (h' : MH) (u : Int → Int), MS m s im hi rn bd h' ∧ mF m h h' ∧ h'.2.2 (m + 3) = some (cArr 0 27 (ix (cp u s 0 27))) ∧ ∀ Q : KQ, wpC G (d + 1) 174 [vR m] h Q = Q none h' := by
  obtain ⟨H, S, B, zx⟩ := MS_X z
  obtain ⟨h', u, r1, r2, r3, r4⟩ := r_keeps (G := G) (d := d) zx
  exact ⟨h', u, MSX_S r1, r2, r3, r4⟩
theorem n_back {u : Int → Int} (z : MS m s' im hi rn bd h) (hF : h.2.2 (m + 3) = some (cArr 0 27 (ix (cp u s 0 27)))) (e : ∀ k, (k < 0 ∨ 27 ≤ k) → s' k = s k) : ∃ h' : MH, MS m s im hi rn bd h' ∧ mF m h h' ∧ ∀ Q : KQ, wpC G (d + 1) 179 [vR m] h Q = Q none h' := by
  obtain ⟨H, S, B, zx⟩ := MS_X z
  obtain ⟨h', r1, r2, r3⟩ := r_goesBack (G := G) (d := d) zx hF e
  exact ⟨h', MSX_S r1, r2, r3⟩
theorem n_goesOn (z : MS m s im hi rn bd h) (ok : okD s) {k : Int} (hk : 0 ≤ k ∧ k ≤ 60) (h0 : s 0 + k ≤ 100000) : ∃ h' : MH, MS m (GOESn k.toNat s) im hi rn bd h' ∧ mF m h h' ∧ h'.2.2 (m + 3) = h.2.2 (m + 3) ∧ ∀ Q : KQ, wpC G (d + 6) 186 [vR m, vI k] h Q = Q none h' := by
  have zz := z
  obtain ⟨⟨f0, f5, f6, f7, f8, f9, f12, f13, f14, f17, f18, f21, f22, f23, q0⟩, q1, q2, q8, u, y, t, o, b, j1, j2, j3, j4, j5⟩ := zz
  obtain ⟨y', t', -, w⟩ := m_goesOn (G := G) (d := d) q0 q1 j2 j3 ok hk h0
  exact ⟨_, MS_mst z, mF_mst, mst_m (by omega) (by omega) (by omega), w⟩
theorem n_goes (z : MS m s im hi rn bd h) (ok : okD s) : ∃ h' : MH, MS m (GOES s) im hi rn bd h' ∧ mF m h h' ∧ h'.2.2 (m + 3) = h.2.2 (m + 3) ∧ ∀ Q : KQ, wpC G (d + 5) 175 [vR m] h Q = Q none h' := by
  have zz := z
  obtain ⟨⟨f0, f5, f6, f7, f8, f9, f12, f13, f14, f17, f18, f21, f22, f23, q0⟩, q1, q2, q8, u, y, t, o, b, j1, j2, j3, j4, j5⟩ := zz
  obtain ⟨y', t', w⟩ := m_goes (G := G) (d := d) q0 q1 j2 j3 ok
  exact ⟨_, MS_mst z, mF_mst, mst_m (by omega) (by omega) (by omega), w⟩
theorem n_comes (z : MS m s im hi rn bd h) (ok : okD s) (h0 : s 0 ≤ 99000) {a : Int} (a0 : 0 ≤ a ∧ a < 5) : ∃ h' : MH, MS m s im hi rn bd h' ∧ mF m h h' ∧ ∀ Q : KQ, wpC G (d + 6) 173 [vR m, vI a] h Q = Q (some (vI (COMES s a))) h' := by
  have zz := z
  obtain ⟨⟨f0, f5, f6, f7, f8, f9, f12, f13, f14, f17, f18, f21, f22, f23, q0⟩, q1, q2, q8, u, y, t, o, b, j1, j2, j3, j4, j5⟩ := zz
  obtain ⟨u', y', t', w⟩ := m_comes (G := G) (d := d) q0 q1 j1 j2 j3 ok h0 a0
  exact ⟨_, MS_mst (MS_fr z), mF_tr (mF_set (by omega)) mF_mst, w⟩
theorem n_says (z : MS m s im hi rn bd h) (ok : okM s) {p hd : Int} (oa : okA s p) : ∃ h' : MH, MS m s im hi rn bd h' ∧ mF m h h' ∧ ∀ Q : KQ, wpC G (d + 3) 162 [vR m, vI p, vI hd] h Q = Q (some (vI (SAYS s p hd))) h' := by
  have zz := z
  obtain ⟨⟨f0, f5, f6, f7, f8, f9, f12, f13, f14, f17, f18, f21, f22, f23, q0⟩, q1, q2, q8, u, y, t, o, b, j1, j2, j3, j4, j5⟩ := zz
  obtain ⟨y', t', w⟩ := m_saysOf (G := G) (d := d) q0 q1 j2 j3 ok (hd := hd) oa
  exact ⟨_, MS_scr z, mF_scr, w⟩
theorem n_mouth (z : MS m s im hi rn bd h) (ok : okM s) {p hd : Int} (hp : 0 ≤ p ∧ p < 6) : ∃ h' : MH, MS m s im hi rn bd h' ∧ mF m h h' ∧ ∀ Q : KQ, wpC G (d + 2) 159 [vR m, vI p, vI hd] h Q = Q (some (vI (MOUTH s p hd))) h' := by
  have zz := z
  obtain ⟨⟨f0, f5, f6, f7, f8, f9, f12, f13, f14, f17, f18, f21, f22, f23, q0⟩, q1, q2, q8, u, y, t, o, b, j1, j2, j3, j4, j5⟩ := zz
  obtain ⟨y', t', w⟩ := m_mouthOf (G := G) (d := d) q0 q1 j2 j3 ok (hd := hd) hp
  exact ⟨_, MS_scr z, mF_scr, w⟩
theorem N_says (ok : okP s) (z : MS m s im hi rn bd h) {p hd w : Int} : mS G m (d + 4) 157 [vI p, vI hd, vI w] (aSAYS s p hd w) s im hi rn bd h := by
  have zz := z
  obtain ⟨⟨f0, f5, f6, f7, f8, f9, f12, f13, f14, f17, f18, f21, f22, f23, q0⟩, q1, -⟩ := zz
  have o27 := ok.1.1.2.2.1
  have hx := fun (K : KQ) => m_isAunt (G := G) (d := d + 1) (Q := K) q0 q1 o27 (p := p)
  have hk := fun (K : KQ) => m_in (G := G) (d := d + 2) (h := h) (Q := K) (v := w) (lo := 0) (hi := 2)
  have hy := fun (K : KQ) => m_facts (G := G) (d := d + 1) (h := h) (Q := K) (x := hd)
  unfold aSAYS
  by_cases c0 : 0 ≤ p ∧ p < s 27
  · have hx := fun (K : KQ) => (hx K).trans (by rw [if_pos c0])
    by_cases c1 : 0 ≤ w ∧ w ≤ 2
    · have hk := fun (K : KQ) => (hk K).trans (by rw [if_pos c1])
      rw [if_pos ⟨c0, c1⟩]
      by_cases c2 : 0 ≤ hd ∧ hd ≤ 255
      · have hy := fun (K : KQ) => (hy K).trans (by rw [if_pos c2])
        rw [if_pos c2]
        by_cases w0 : w = 0
        · have hl := fun (K : KQ) => m_leftOf (G := G) (d := d + 2) (Q := K) q0 q1 (p := p) (x := hd) (by omega)
          rw [if_pos w0]
          subst w0
          refine mS_id z (fun Q => ?_)
          rw [e157]
          simp (disch := omega) only [KK, Int.reduceEq, not_false_iff, ↓reduceIte, ↓if_pos, ↓if_neg, xt_o, true_and, nlO_i, nlO_n, nlO_r, List.length_nil, List.length_cons, Nat.reduceAdd, Nat.reduceLeDiff, Nat.zero_le, U157, q0, q1, hx, hk, hy, hl, VS13]
        · rw [if_neg w0]
          by_cases w1 : w = 1
          · obtain ⟨h', a1, a2, a3⟩ := n_mouth (G := G) (d := d + 1) z ok.1.1.1 (p := p) (hd := hd) (by omega)
            rw [if_pos w1]
            subst w1
            refine ⟨h', a1, a2, fun Q => ?_⟩
            rw [e157]
            simp (disch := omega) only [KK, Int.reduceEq, not_false_iff, ↓reduceIte, ↓if_pos, ↓if_neg, xt_o, true_and, nlO_i, nlO_n, nlO_r, List.length_nil, List.length_cons, Nat.reduceAdd, Nat.reduceLeDiff, Nat.zero_le, U157, q0, q1, hx, hk, hy, a3, VS13]
          · obtain ⟨h', a1, a2, a3⟩ := n_says (G := G) (d := d) z ok.1.1.1 (p := p) (hd := hd) (ok.1.1.2.2.2.1 p c0.1 c0.2)
            rw [if_neg w1]
            refine ⟨h', a1, a2, fun Q => ?_⟩
            rw [e157]
            simp (disch := omega) only [KK, Int.reduceEq, not_false_iff, ↓reduceIte, ↓if_pos, ↓if_neg, xt_o, true_and, nlO_i, nlO_n, nlO_r, List.length_nil, List.length_cons, Nat.reduceAdd, Nat.reduceLeDiff, Nat.zero_le, U157, q0, q1, hx, hk, hy, a3, VS13]
      · have hy := fun (K : KQ) => (hy K).trans (by rw [if_neg c2])
        rw [if_neg c2]
        refine mS_id z (fun Q => ?_)
        rw [e157]
        simp (disch := omega) only [KK, Int.reduceEq, not_false_iff, ↓reduceIte, ↓if_pos, ↓if_neg, xt_o, true_and, nlO_i, nlO_n, nlO_r, List.length_nil, List.length_cons, Nat.reduceAdd, Nat.reduceLeDiff, Nat.zero_le, U157, q0, q1, hx, hk, hy, VS13]
    · have hk := fun (K : KQ) => (hk K).trans (by rw [if_neg c1])
      rw [if_neg (fun q => c1 q.2)]
      refine mS_id z (fun Q => ?_)
      rw [e157]
      simp (disch := omega) only [KK, Int.reduceEq, not_false_iff, ↓reduceIte, ↓if_pos, ↓if_neg, xt_o, true_and, nlO_i, nlO_n, nlO_r, List.length_nil, List.length_cons, Nat.reduceAdd, Nat.reduceLeDiff, Nat.zero_le, U157, q0, q1, hx, hk, VS13]
  · have hx := fun (K : KQ) => (hx K).trans (by rw [if_neg c0])
    rw [if_neg (fun q => c0 q.1)]
    refine mS_id z (fun Q => ?_)
    rw [e157]
    simp (disch := omega) only [KK, Int.reduceEq, not_false_iff, ↓reduceIte, ↓if_pos, ↓if_neg, xt_o, true_and, nlO_i, nlO_n, nlO_r, List.length_nil, List.length_cons, Nat.reduceAdd, Nat.reduceLeDiff, Nat.zero_le, U157, q0, q1, hx, VS13]
theorem N_at (ok : okP s) (z : MS m s im hi rn bd h) {a w : Int} : mS G m (d + 7) 171 [vI a, vI w] (aAT s a w) s im hi rn bd h := by
  have zz := z
  obtain ⟨⟨f0, f5, f6, f7, f8, f9, f12, f13, f14, f17, f18, f21, f22, f23, q0⟩, q1, -⟩ := zz
  have o28 := ok.1.1.2.1
  have hx := fun (K : KQ) => m_isAsker (G := G) (d := d + 4) (Q := K) q0 q1 o28 (p := a)
  unfold aAT
  by_cases c1 : 0 ≤ a ∧ a < s 28
  · have hx := fun (K : KQ) => (hx K).trans (by rw [if_pos c1])
    rw [if_pos c1]
    by_cases w0 : w = 0
    · rw [if_pos w0]
      refine mS_id z (fun Q => ?_)
      rw [e171]
      simp (disch := omega) only [KK, Int.reduceEq, not_false_iff, ↓reduceIte, ↓if_pos, ↓if_neg, xt_o, true_and, nlO_i, nlO_n, nlO_r, List.length_nil, List.length_cons, Nat.reduceAdd, Nat.reduceLeDiff, Nat.zero_le, U171, q0, q1, hx, w0, GX13, VS13, xa_i, ar_add]
    · rw [if_neg w0]
      by_cases w1 : w = 1
      · rw [if_pos w1]
        refine mS_id z (fun Q => ?_)
        rw [e171]
        simp (disch := omega) only [KK, Int.reduceEq, not_false_iff, ↓reduceIte, ↓if_pos, ↓if_neg, xt_o, true_and, nlO_i, nlO_n, nlO_r, List.length_nil, List.length_cons, Nat.reduceAdd, Nat.reduceLeDiff, Nat.zero_le, U171, q0, q1, hx, w1, GX13, VS13, xa_i, ar_add]
      · rw [if_neg w1]
        by_cases w2 : w = 2
        · rw [if_pos w2]
          refine mS_id z (fun Q => ?_)
          rw [e171]
          simp (disch := omega) only [KK, Int.reduceEq, not_false_iff, ↓reduceIte, ↓if_pos, ↓if_neg, xt_o, true_and, nlO_i, nlO_n, nlO_r, List.length_nil, List.length_cons, Nat.reduceAdd, Nat.reduceLeDiff, Nat.zero_le, U171, q0, q1, hx, w2, GX13, VS13, xa_i, ar_add]
        · rw [if_neg w2]
          by_cases w3 : w = 3
          · rw [if_pos w3]
            refine mS_id z (fun Q => ?_)
            rw [e171]
            simp (disch := omega) only [KK, Int.reduceEq, not_false_iff, ↓reduceIte, ↓if_pos, ↓if_neg, xt_o, true_and, nlO_i, nlO_n, nlO_r, List.length_nil, List.length_cons, Nat.reduceAdd, Nat.reduceLeDiff, Nat.zero_le, U171, q0, q1, hx, w3, GX13, VS13, xa_i, ar_add]
          · rw [if_neg w3]
            by_cases w4 : w = 4
            · have o0 := ok.2.2.2.2.2.2.2.2.2.2
              obtain ⟨h', a1, a2, a3⟩ := n_comes (G := G) (d := d) z ok.1.1 (by omega) (a := a) (by omega)
              rw [if_pos w4]
              refine ⟨h', a1, a2, fun Q => ?_⟩
              rw [e171]
              simp (disch := omega) only [KK, Int.reduceEq, not_false_iff, ↓reduceIte, ↓if_pos, ↓if_neg, xt_o, true_and, nlO_i, nlO_n, nlO_r, List.length_nil, List.length_cons, Nat.reduceAdd, Nat.reduceLeDiff, Nat.zero_le, U171, q0, q1, hx, w4, a3, VS13]
            · rw [if_neg w4]
              refine mS_id z (fun Q => ?_)
              rw [e171]
              simp (disch := omega) only [KK, Int.reduceEq, not_false_iff, ↓reduceIte, ↓if_pos, ↓if_neg, xt_o, true_and, nlO_i, nlO_n, nlO_r, List.length_nil, List.length_cons, Nat.reduceAdd, Nat.reduceLeDiff, Nat.zero_le, U171, q0, q1, hx, GX13, VS13]
  · have hx := fun (K : KQ) => (hx K).trans (by rw [if_neg c1])
    rw [if_neg c1]
    refine mS_id z (fun Q => ?_)
    rw [e171]
    simp (disch := omega) only [KK, Int.reduceEq, not_false_iff, ↓reduceIte, ↓if_pos, ↓if_neg, xt_o, true_and, nlO_i, nlO_n, nlO_r, List.length_nil, List.length_cons, Nat.reduceAdd, Nat.reduceLeDiff, Nat.zero_le, U171, q0, q1, hx, VS13]
theorem N_told (ok : okP s) (z : MS m s im hi rn bd h) {w : Int} : mS G m (d + 3) 181 [vI w] (aTOLD s w) s im hi rn bd h := by
  have zz := z
  obtain ⟨⟨f0, f5, f6, f7, f8, f9, f12, f13, f14, f17, f18, f21, f22, f23, q0⟩, q1, -⟩ := zz
  have o28 := ok.1.1.2.1
  have o27 := ok.1.1.2.2.1
  have o34 := ok.1.2.1
  have o29 := ok.1.2.2.1
  have h1 := fun (K : KQ) => m_tellsOf (G := G) (d := d + 1) (Q := K) q0 q1 (by omega) (w := 227) (n := 12) (by omega)
  have h2 := fun (K : KQ) => m_awayOnes (G := G) (d := d + 1) (Q := K) q0 q1 o27
  have h3 := fun (K : KQ) => m_manyThrough (G := G) (d := d) (Q := K) q0 q1 o28
  have h4 := fun (K : KQ) => m_manyBack (G := G) (d := d + 1) (Q := K) q0 q1 o28
  have hk := fun (K : KQ) => m_in (G := G) (d := d + 1) (h := h) (Q := K) (v := w) (lo := 10) (hi := 17)
  refine mS_id z (fun Q => ?_)
  unfold aTOLD
  rw [e181]
  by_cases w0 : w = 0
  · rw [if_pos w0]
    simp (disch := omega) only [KK, Int.reduceEq, not_false_iff, ↓reduceIte, ↓if_pos, ↓if_neg, xt_o, true_and, nlO_i, nlO_n, nlO_r, List.length_nil, List.length_cons, Nat.reduceAdd, Nat.reduceLeDiff, Nat.zero_le, U181, q0, q1, w0, GX13, VS13, xa_i]
  · rw [if_neg w0]
    by_cases w1 : w = 1
    · rw [if_pos w1]
      unfold NERVE
      simp (disch := omega) only [KK, Int.reduceEq, not_false_iff, ↓reduceIte, ↓if_pos, ↓if_neg, xt_o, true_and, nlO_i, nlO_n, nlO_r, List.length_nil, List.length_cons, Nat.reduceAdd, Nat.reduceLeDiff, Nat.zero_le, U181, q0, q1, w1, h1, VS13]
    · rw [if_neg w1]
      by_cases w2 : w = 2
      · rw [if_pos w2]
        simp (disch := omega) only [KK, Int.reduceEq, not_false_iff, ↓reduceIte, ↓if_pos, ↓if_neg, xt_o, true_and, nlO_i, nlO_n, nlO_r, List.length_nil, List.length_cons, Nat.reduceAdd, Nat.reduceLeDiff, Nat.zero_le, U181, q0, q1, w2, h2, VS13]
      · rw [if_neg w2]
        by_cases w3 : w = 3
        · rw [if_pos w3]
          simp (disch := omega) only [KK, Int.reduceEq, not_false_iff, ↓reduceIte, ↓if_pos, ↓if_neg, xt_o, true_and, nlO_i, nlO_n, nlO_r, List.length_nil, List.length_cons, Nat.reduceAdd, Nat.reduceLeDiff, Nat.zero_le, U181, q0, q1, w3, h3, VS13]
        · rw [if_neg w3]
          by_cases w4 : w = 4
          · rw [if_pos w4]
            simp (disch := omega) only [KK, Int.reduceEq, not_false_iff, ↓reduceIte, ↓if_pos, ↓if_neg, xt_o, true_and, nlO_i, nlO_n, nlO_r, List.length_nil, List.length_cons, Nat.reduceAdd, Nat.reduceLeDiff, Nat.zero_le, U181, q0, q1, w4, h4, VS13]
          · rw [if_neg w4]
            by_cases c : 10 ≤ w ∧ w ≤ 17
            · have hk := fun (K : KQ) => (hk K).trans (by rw [if_pos c])
              rw [if_pos c, show 35 + (w - 10) = 35 + w - 10 by omega]
              simp (disch := omega) only [KK, Int.reduceEq, not_false_iff, ↓reduceIte, ↓if_pos, ↓if_neg, xt_o, true_and, nlO_i, nlO_n, nlO_r, List.length_nil, List.length_cons, Nat.reduceAdd, Nat.reduceLeDiff, Nat.zero_le, U181, q0, q1, hk, GX13, VS13, xa_i, ar_add, ar_sub]
            · have hk := fun (K : KQ) => (hk K).trans (by rw [if_neg c])
              rw [if_neg c]
              simp (disch := omega) only [KK, Int.reduceEq, not_false_iff, ↓reduceIte, ↓if_pos, ↓if_neg, xt_o, true_and, nlO_i, nlO_n, nlO_r, List.length_nil, List.length_cons, Nat.reduceAdd, Nat.reduceLeDiff, Nat.zero_le, U181, q0, q1, hk, GX13, VS13]
end N3
