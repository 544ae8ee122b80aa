/-! calls of the model -/
def mS (G : MG) (m k y : Nat) (a : List V) (r : Int) (s im : Int → Int) (hi rn : Int) (bd : Int → Int) (h : MH) : Prop := ∃ h' : MH, MS m s im hi rn bd h' ∧ mF m h h' ∧ ∀ Q : KQ, wpC G k y (vR m :: a) h Q = Q (some (vI r)) h'
section N1
variable {G : MG} {d : Nat} {m : Nat} {s s' im bd : Int → Int} {hi rn : Int} {h : MH}
theorem mS_id {k y : Nat} {a : List V} {r : Int} (z : MS m s im hi rn bd h) (w : ∀ Q : KQ, wpC G k y (vR m :: a) h Q = Q (some (vI r)) h) : mS G m k y a r s im hi rn bd h := ⟨h, z, mF_rf, w⟩
theorem mS_s {k y : Nat} {a : List V} {r : Int} (z : MS m s im hi rn bd h) (w : ∀ Q : KQ, wpC G k y (vR m :: a) h Q = Q (some (vI r)) (hset h (m + 1) (cArr 0 937 (ix s')))) : mS G m k y a r s' im hi rn bd h := ⟨_, MS_s z, mF_set (by omega), w⟩
theorem mi_ne : ¬ m = m + 1 := by omega
theorem m_facts {x : Int} {Q : KQ} : wpC G (d + 2) 154 [vI x] h Q = Q (some (vI (if 0 ≤ x ∧ x ≤ 255 then 1 else 0))) h := by
  have h1 := fun (K : KQ) => m_in (G := G) (d := d) (h := h) (Q := K) (v := x) (lo := 0) (hi := 255)
  rw [e154]
  by_cases c : 0 ≤ x ∧ x ≤ 255
  · rw [if_pos c]
    have h1 := fun (K : KQ) => (h1 K).trans (by rw [if_pos c])
    simp (disch := omega) only [KK, Int.reduceEq, not_false_iff, ↓reduceIte, ↓if_pos, ↓if_neg, xt_o, true_and, nlO_i, nlO_n, nlO_r, List.length_nil, List.length_cons, Nat.reduceAdd, Nat.reduceLeDiff, Nat.zero_le, U154, h1, true_or, or_true]
  · rw [if_neg c]
    have h1 := fun (K : KQ) => (h1 K).trans (by rw [if_neg c])
    simp (disch := omega) only [KK, Int.reduceEq, not_false_iff, ↓reduceIte, ↓if_pos, ↓if_neg, xt_o, true_and, nlO_i, nlO_n, nlO_r, List.length_nil, List.length_cons, Nat.reduceAdd, Nat.reduceLeDiff, Nat.zero_le, U154, h1, true_or, or_true]
theorem N_say (ok : okP s) (z : MS m s im hi rn bd h) {x y : Int} : mS G m (d + 3) 198 [vI x, vI y] (rSAY s x y) (tSAY s x y) im hi rn bd h := by
  have zz := z
  obtain ⟨⟨f0, f5, f6, f7, f8, f9, f12, f13, f14, f17, f18, f21, f22, f23, q0⟩, q1, -⟩ := zz
  have hx := fun (K : KQ) => m_facts (G := G) (d := d) (h := h) (Q := K) (x := x)
  have hy := fun (K : KQ) => m_facts (G := G) (d := d) (h := h) (Q := K) (x := y)
  have o30 := ok.2.1
  unfold rSAY tSAY
  by_cases c : x = -1
  · rw [if_pos c, if_pos c]
    refine mS_s z (fun Q => ?_)
    rw [e198]
    simp (disch := omega) only [KK, Int.reduceEq, not_false_iff, ↓reduceIte, ↓if_pos, ↓if_neg, xt_o, true_and, nlO_i, nlO_n, nlO_r, List.length_nil, List.length_cons, Nat.reduceAdd, Nat.reduceLeDiff, Nat.zero_le, U198, q0, q1, c, GX13, xs_i]
  · rw [if_neg c, if_neg c]
    by_cases c1 : 0 ≤ x ∧ x ≤ 255
    · have hx := fun (K : KQ) => (hx K).trans (by rw [if_pos c1])
      by_cases c2 : 0 ≤ y ∧ y ≤ 255
      · have hy := fun (K : KQ) => (hy K).trans (by rw [if_pos c2])
        rw [if_pos ⟨c1, c2⟩]
        by_cases c3 : s 30 = 5
        · rw [if_pos c3, if_neg (fun q => q.2 c3)]
          refine mS_id z (fun Q => ?_)
          rw [e198]
          simp (disch := omega) only [KK, Int.reduceEq, not_false_iff, ↓reduceIte, ↓if_pos, ↓if_neg, xt_o, true_and, nlO_i, nlO_n, nlO_r, List.length_nil, List.length_cons, Nat.reduceAdd, Nat.reduceLeDiff, Nat.zero_le, U198, q0, q1, c, hx, hy, c3, GX13, xa_i]
        · rw [if_neg c3, if_pos ⟨⟨c1, c2⟩, c3⟩]
          refine mS_s z (fun Q => ?_)
          unfold sSAY
          rw [e198]
          simp (disch := omega) only [KK, Int.reduceEq, not_false_iff, ↓reduceIte, ↓if_pos, ↓if_neg, xt_o, true_and, nlO_i, nlO_n, nlO_r, List.length_nil, List.length_cons, Nat.reduceAdd, Nat.reduceLeDiff, Nat.zero_le, U198, q0, q1, c, hx, hy, c3, GX13, xa_i, xs_i, hs_eq, hs_hs, hs_ne (mi_ne (m := m)), up_eq, up_ne, ar_add]
      · have hy := fun (K : KQ) => (hy K).trans (by rw [if_neg c2])
        rw [if_neg (fun q => c2 q.2), if_neg (fun q => c2 q.1.2)]
        refine mS_id z (fun Q => ?_)
        rw [e198]
        simp (disch := omega) only [KK, Int.reduceEq, not_false_iff, ↓reduceIte, ↓if_pos, ↓if_neg, xt_o, true_and, nlO_i, nlO_n, nlO_r, List.length_nil, List.length_cons, Nat.reduceAdd, Nat.reduceLeDiff, Nat.zero_le, U198, q0, q1, c, hx, hy, GX13]
    · have hx := fun (K : KQ) => (hx K).trans (by rw [if_neg c1])
      rw [if_neg (fun q => c1 q.1), if_neg (fun q => c1 q.1.1)]
      refine mS_id z (fun Q => ?_)
      rw [e198]
      simp (disch := omega) only [KK, Int.reduceEq, not_false_iff, ↓reduceIte, ↓if_pos, ↓if_neg, xt_o, true_and, nlO_i, nlO_n, nlO_r, List.length_nil, List.length_cons, Nat.reduceAdd, Nat.reduceLeDiff, Nat.zero_le, U198, q0, q1, c, hx, GX13]
theorem N_book (ok : okP s) (z : MS m s im hi rn bd h) {x y : Int} : mS G m (d + 3) 210 [vI x, vI y] (rBOOK s x y) (tBOOK s x y) im hi rn bd h := by
  have zz := z
  obtain ⟨⟨f0, f5, f6, f7, f8, f9, f12, f13, f14, f17, f18, f21, f22, f23, q0⟩, q1, -⟩ := zz
  have hx := fun (K : KQ) => m_isAsker (G := G) (d := d) (Q := K) q0 q1 ok.1.1.2.1 (p := x)
  have hy := fun (K : KQ) => m_facts (G := G) (d := d) (h := h) (Q := K) (x := y)
  have o32 := ok.2.2.2.1
  unfold rBOOK tBOOK
  by_cases c : x = -1
  · rw [if_pos c, if_pos c]
    refine mS_s z (fun Q => ?_)
    rw [e210]
    simp (disch := omega) only [KK, Int.reduceEq, not_false_iff, ↓reduceIte, ↓if_pos, ↓if_neg, xt_o, true_and, nlO_i, nlO_n, nlO_r, List.length_nil, List.length_cons, Nat.reduceAdd, Nat.reduceLeDiff, Nat.zero_le, U210, q0, q1, c, GX13, xs_i]
  · rw [if_neg c, if_neg c]
    by_cases c1 : 0 ≤ x ∧ x < s 28
    · have hx := fun (K : KQ) => (hx K).trans (by rw [if_pos c1])
      rw [if_pos c1]
      by_cases c2 : 0 ≤ y ∧ y ≤ 255
      · have hy := fun (K : KQ) => (hy K).trans (by rw [if_pos c2])
        rw [if_pos c2]
        by_cases c3 : s 32 = 8
        · rw [if_pos c3, if_neg (fun q => q.2 c3)]
          refine mS_id z (fun Q => ?_)
          rw [e210]
          simp (disch := omega) only [KK, Int.reduceEq, not_false_iff, ↓reduceIte, ↓if_pos, ↓if_neg, xt_o, true_and, nlO_i, nlO_n, nlO_r, List.length_nil, List.length_cons, Nat.reduceAdd, Nat.reduceLeDiff, Nat.zero_le, U210, q0, q1, c, hx, hy, c3, GX13, VS13, xa_i]
        · rw [if_neg c3, if_pos ⟨⟨c1, c2⟩, c3⟩]
          refine mS_s z (fun Q => ?_)
          unfold sBOOK
          rw [e210]
          simp (disch := omega) only [KK, Int.reduceEq, not_false_iff, ↓reduceIte, ↓if_pos, ↓if_neg, xt_o, true_and, nlO_i, nlO_n, nlO_r, List.length_nil, List.length_cons, Nat.reduceAdd, Nat.reduceLeDiff, Nat.zero_le, U210, q0, q1, c, hx, hy, c3, GX13, VS13, xa_i, xs_i, hs_eq, hs_hs, hs_ne (mi_ne (m := m)), up_eq, up_ne, ar_add]
      · have hy := fun (K : KQ) => (hy K).trans (by rw [if_neg c2])
        rw [if_neg c2, if_neg (fun q => c2 q.1.2)]
        refine mS_id z (fun Q => ?_)
        rw [e210]
        simp (disch := omega) only [KK, Int.reduceEq, not_false_iff, ↓reduceIte, ↓if_pos, ↓if_neg, xt_o, true_and, nlO_i, nlO_n, nlO_r, List.length_nil, List.length_cons, Nat.reduceAdd, Nat.reduceLeDiff, Nat.zero_le, U210, q0, q1, c, hx, hy, GX13, VS13]
    · have hx := fun (K : KQ) => (hx K).trans (by rw [if_neg c1])
      rw [if_neg c1, if_neg (fun q => c1 q.1.1)]
      refine mS_id z (fun Q => ?_)
      rw [e210]
      simp (disch := omega) only [KK, Int.reduceEq, not_false_iff, ↓reduceIte, ↓if_pos, ↓if_neg, xt_o, true_and, nlO_i, nlO_n, nlO_r, List.length_nil, List.length_cons, Nat.reduceAdd, Nat.reduceLeDiff, Nat.zero_le, U210, q0, q1, c, hx, GX13, VS13]
theorem N_feed (ok : okP s) (z : MS m s im hi rn bd h) {x : Int} : mS G m (d + 3) 138 [vI x] (rFEED s x) (tFEED s x) im hi rn bd h := by
  have zz := z
  obtain ⟨⟨f0, f5, f6, f7, f8, f9, f12, f13, f14, f17, f18, f21, f22, f23, q0⟩, q1, -⟩ := zz
  have hx := fun (K : KQ) => m_in (G := G) (d := d + 1) (h := h) (Q := K) (v := x) (lo := 0) (hi := 127)
  have o33 := ok.2.2.2.2.1
  unfold rFEED tFEED
  by_cases c1 : 0 ≤ x ∧ x ≤ 127
  · have hx := fun (K : KQ) => (hx K).trans (by rw [if_pos c1])
    rw [if_pos c1]
    by_cases c3 : s 33 = 100
    · rw [if_pos c3, if_neg (fun q => q.2 c3)]
      refine mS_id z (fun Q => ?_)
      rw [e138]
      simp (disch := omega) only [KK, Int.reduceEq, not_false_iff, ↓reduceIte, ↓if_pos, ↓if_neg, xt_o, true_and, nlO_i, nlO_n, nlO_r, List.length_nil, List.length_cons, Nat.reduceAdd, Nat.reduceLeDiff, Nat.zero_le, U138, q0, q1, hx, c3, GX13, VS13, xa_i]
    · rw [if_neg c3, if_pos ⟨c1, c3⟩]
      refine mS_s z (fun Q => ?_)
      unfold sFEED
      rw [e138]
      simp (disch := omega) only [KK, Int.reduceEq, not_false_iff, ↓reduceIte, ↓if_pos, ↓if_neg, xt_o, true_and, nlO_i, nlO_n, nlO_r, List.length_nil, List.length_cons, Nat.reduceAdd, Nat.reduceLeDiff, Nat.zero_le, U138, q0, q1, hx, c3, GX13, VS13, xa_i, xs_i, hs_eq, hs_hs, hs_ne (mi_ne (m := m)), up_eq, up_ne, ar_add]
  · have hx := fun (K : KQ) => (hx K).trans (by rw [if_neg c1])
    rw [if_neg c1, if_neg (fun q => c1 q.1)]
    refine mS_id z (fun Q => ?_)
    rw [e138]
    simp (disch := omega) only [KK, Int.reduceEq, not_false_iff, ↓reduceIte, ↓if_pos, ↓if_neg, xt_o, true_and, nlO_i, nlO_n, nlO_r, List.length_nil, List.length_cons, Nat.reduceAdd, Nat.reduceLeDiff, Nat.zero_le, U138, q0, q1, hx, GX13, VS13]
/-- a number of the row is written, and the old one answered -/
theorem m_becomes (z : MS m s im hi rn bd h) {i v : Int} (hi' : 0 ≤ i ∧ i < 937) : ∀ Q : KQ, wpC G (d + 1) 165 [vR m, vI i, vI v] h Q = Q (some (vI (s i))) (hset h (m + 1) (cArr 0 937 (ix (up s i v)))) := fun Q => by
  obtain ⟨⟨f0, f5, f6, f7, f8, f9, f12, f13, f14, f17, f18, f21, f22, f23, q0⟩, q1, -⟩ := z
  rw [e165]
  simp (disch := omega) only [KK, Int.reduceEq, not_false_iff, ↓reduceIte, ↓if_pos, ↓if_neg, xt_o, true_and, nlO_i, nlO_n, nlO_r, List.length_nil, List.length_cons, Nat.reduceAdd, Nat.reduceLeDiff, Nat.zero_le, U165, q0, q1, GX13, xa_i, xs_i]
theorem N_weigh (z : MS m s im hi rn bd h) {f n : Int} : mS G m (d + 3) 168 [vI f, vI n] (rWEIGH s f n) (tWEIGH s f n) im hi rn bd h := by
  have zz := z
  obtain ⟨⟨f0, f5, f6, f7, f8, f9, f12, f13, f14, f17, f18, f21, f22, f23, q0⟩, q1, -⟩ := zz
  have hx := fun (K : KQ) => m_in (G := G) (d := d + 1) (h := h) (Q := K) (v := f) (lo := 0) (hi := 7)
  have hy := fun (K : KQ) => m_in (G := G) (d := d + 1) (h := h) (Q := K) (v := n) (lo := 0) (hi := 9)
  unfold rWEIGH tWEIGH
  by_cases c1 : 0 ≤ f ∧ f ≤ 7
  · have hx := fun (K : KQ) => (hx K).trans (by rw [if_pos c1])
    rw [if_pos c1]
    by_cases c2 : 0 ≤ n ∧ n ≤ 9
    · have hy := fun (K : KQ) => (hy K).trans (by rw [if_pos c2])
      have hb := m_becomes (G := G) (d := d + 1) z (i := 35 + f) (v := n) (by omega)
      rw [if_pos c2, if_pos ⟨c1, c2⟩]
      refine mS_s z (fun Q => ?_)
      rw [e168]
      simp (disch := omega) only [KK, Int.reduceEq, not_false_iff, ↓reduceIte, ↓if_pos, ↓if_neg, xt_o, true_and, nlO_i, nlO_n, nlO_r, List.length_nil, List.length_cons, Nat.reduceAdd, Nat.reduceLeDiff, Nat.zero_le, U168, q0, q1, hx, hy, hb, VS13, ar_add]
    · have hy := fun (K : KQ) => (hy K).trans (by rw [if_neg c2])
      rw [if_neg c2, if_neg (fun q => c2 q.2)]
      refine mS_id z (fun Q => ?_)
      rw [e168]
      simp (disch := omega) only [KK, Int.reduceEq, not_false_iff, ↓reduceIte, ↓if_pos, ↓if_neg, xt_o, true_and, nlO_i, nlO_n, nlO_r, List.length_nil, List.length_cons, Nat.reduceAdd, Nat.reduceLeDiff, Nat.zero_le, U168, q0, q1, hx, hy, VS13]
  · have hx := fun (K : KQ) => (hx K).trans (by rw [if_neg c1])
    rw [if_neg c1, if_neg (fun q => c1 q.1)]
    refine mS_id z (fun Q => ?_)
    rw [e168]
    simp (disch := omega) only [KK, Int.reduceEq, not_false_iff, ↓reduceIte, ↓if_pos, ↓if_neg, xt_o, true_and, nlO_i, nlO_n, nlO_r, List.length_nil, List.length_cons, Nat.reduceAdd, Nat.reduceLeDiff, Nat.zero_le, U168, q0, q1, hx, VS13]
theorem N_away (ok : okP s) (z : MS m s im hi rn bd h) {p v : Int} (hv : v = 0 ∨ v = 1) : mS G m (d + 3) 167 [vI p, vI v] (rAWAY s p) (tAWAY s p v) im hi rn bd h := by
  have zz := z
  obtain ⟨⟨f0, f5, f6, f7, f8, f9, f12, f13, f14, f17, f18, f21, f22, f23, q0⟩, q1, -⟩ := zz
  have o27 := ok.1.1.2.2.1
  have hx := fun (K : KQ) => m_isAunt (G := G) (d := d) (Q := K) q0 q1 o27 (p := p)
  unfold rAWAY tAWAY
  by_cases c1 : 0 ≤ p ∧ p < s 27
  · have hx := fun (K : KQ) => (hx K).trans (by rw [if_pos c1])
    have hb := m_becomes (G := G) (d := d + 1) z (i := 21 + p) (v := v) (by omega)
    rw [if_pos c1, if_pos c1]
    refine mS_s z (fun Q => ?_)
    rw [e167]
    rcases hv with e | e <;> subst e
    · simp (disch := omega) only [KK, Int.reduceEq, not_false_iff, ↓reduceIte, ↓if_pos, ↓if_neg, xt_o, true_and, nlO_i, nlO_n, nlO_r, List.length_nil, List.length_cons, Nat.reduceAdd, Nat.reduceLeDiff, Nat.zero_le, U167, q0, q1, hx, hb, VS13, ar_add]
    · simp (disch := omega) only [KK, Int.reduceEq, not_false_iff, ↓reduceIte, ↓if_pos, ↓if_neg, xt_o, true_and, nlO_i, nlO_n, nlO_r, List.length_nil, List.length_cons, Nat.reduceAdd, Nat.reduceLeDiff, Nat.zero_le, U167, q0, q1, hx, hb, VS13, ar_add]
  · have hx := fun (K : KQ) => (hx K).trans (by rw [if_neg c1])
    rw [if_neg c1, if_neg c1]
    refine mS_id z (fun Q => ?_)
    rw [e167]
    simp (disch := omega) only [KK, Int.reduceEq, not_false_iff, ↓reduceIte, ↓if_pos, ↓if_neg, xt_o, true_and, nlO_i, nlO_n, nlO_r, List.length_nil, List.length_cons, Nat.reduceAdd, Nat.reduceLeDiff, Nat.zero_le, U167, q0, q1, hx, VS13]
theorem N_learn (ok : okP s) (z : MS m s im hi rn bd h) {p x : Int} : mS G m (d + 3) 166 [vI p, vI x] (rLEARN s p x) (tLEARN s p x) im hi rn bd h := by
  have zz := z
  obtain ⟨⟨f0, f5, f6, f7, f8, f9, f12, f13, f14, f17, f18, f21, f22, f23, q0⟩, q1, -⟩ := zz
  have o27 := ok.1.1.2.2.1
  have hx := fun (K : KQ) => m_isAunt (G := G) (d := d) (Q := K) q0 q1 o27 (p := p)
  have hy := fun (K : KQ) => m_facts (G := G) (d := d) (h := h) (Q := K) (x := x)
  unfold rLEARN tLEARN
  by_cases c1 : 0 ≤ p ∧ p < s 27
  · have hx := fun (K : KQ) => (hx K).trans (by rw [if_pos c1])
    rw [if_pos c1]
    by_cases c2 : 0 ≤ x ∧ x ≤ 255
    · have hy := fun (K : KQ) => (hy K).trans (by rw [if_pos c2])
      have hb := m_becomes (G := G) (d := d + 1) z (i := 55 + p) (v := x) (by omega)
      rw [if_pos c2, if_pos ⟨c1, c2⟩]
      refine mS_s z (fun Q => ?_)
      rw [e166]
      simp (disch := omega) only [KK, Int.reduceEq, not_false_iff, ↓reduceIte, ↓if_pos, ↓if_neg, xt_o, true_and, nlO_i, nlO_n, nlO_r, List.length_nil, List.length_cons, Nat.reduceAdd, Nat.reduceLeDiff, Nat.zero_le, U166, q0, q1, hx, hy, hb, VS13, ar_add]
    · have hy := fun (K : KQ) => (hy K).trans (by rw [if_neg c2])
      rw [if_neg c2, if_neg (fun q => c2 q.2)]
      refine mS_id z (fun Q => ?_)
      rw [e166]
      simp (disch := omega) only [KK, Int.reduceEq, not_false_iff, ↓reduceIte, ↓if_pos, ↓if_neg, xt_o, true_and, nlO_i, nlO_n, nlO_r, List.length_nil, List.length_cons, Nat.reduceAdd, Nat.reduceLeDiff, Nat.zero_le, U166, q0, q1, hx, hy, VS13]
  · have hx := fun (K : KQ) => (hx K).trans (by rw [if_neg c1])
    rw [if_neg c1, if_neg (fun q => c1 q.1)]
    refine mS_id z (fun Q => ?_)
    rw [e166]
    simp (disch := omega) only [KK, Int.reduceEq, not_false_iff, ↓reduceIte, ↓if_pos, ↓if_neg, xt_o, true_and, nlO_i, nlO_n, nlO_r, List.length_nil, List.length_cons, Nat.reduceAdd, Nat.reduceLeDiff, Nat.zero_le, U166, q0, q1, hx, VS13]
theorem N_row (ok : okP s) (z : MS m s im hi rn bd h) {p k n : Int} : mS G m (d + 3) 164 [vI p, vI k, vI n] (rROW s p k n) (tROW s p k n) im hi rn bd h := by
  have zz := z
  obtain ⟨⟨f0, f5, f6, f7, f8, f9, f12, f13, f14, f17, f18, f21, f22, f23, q0⟩, q1, -⟩ := zz
  have o27 := ok.1.1.2.2.1
  have hx := fun (K : KQ) => m_isAunt (G := G) (d := d) (Q := K) q0 q1 o27 (p := p)
  have hk := fun (K : KQ) => m_in (G := G) (d := d + 1) (h := h) (Q := K) (v := k) (lo := 0) (hi := 3)
  have hy := fun (K : KQ) => m_in (G := G) (d := d + 1) (h := h) (Q := K) (v := n) (lo := 0) (hi := 9)
  unfold rROW tROW
  by_cases c0 : 0 ≤ p ∧ p < s 27
  · have hx := fun (K : KQ) => (hx K).trans (by rw [if_pos c0])
    by_cases c1 : 0 ≤ k ∧ k ≤ 3
    · have hk := fun (K : KQ) => (hk K).trans (by rw [if_pos c1])
      rw [if_pos ⟨c0, c1⟩]
      by_cases c2 : 0 ≤ n ∧ n ≤ 9
      · have hy := fun (K : KQ) => (hy K).trans (by rw [if_pos c2])
        rw [if_pos c2]
        by_cases c3 : s (43 + p) = 6
        · have hb := m_becomes (G := G) (d := d + 1) z (i := 61 + 4 * p + k) (v := n) (by omega)
          rw [if_pos c3, if_pos ⟨⟨c0, c1⟩, c2, c3⟩]
          refine mS_s z (fun Q => ?_)
          rw [e164]
          simp (disch := omega) only [KK, Int.reduceEq, not_false_iff, ↓reduceIte, ↓if_pos, ↓if_neg, xt_o, true_and, nlO_i, nlO_n, nlO_r, List.length_nil, List.length_cons, Nat.reduceAdd, Nat.reduceLeDiff, Nat.zero_le, U164, q0, q1, hx, hk, hy, hb, c3, GX13, VS13, xa_i, ar_add, ar_mul]
        · rw [if_neg c3, if_neg (fun q => c3 q.2.2)]
          refine mS_id z (fun Q => ?_)
          rw [e164]
          simp (disch := omega) only [KK, Int.reduceEq, not_false_iff, ↓reduceIte, ↓if_pos, ↓if_neg, xt_o, true_and, nlO_i, nlO_n, nlO_r, List.length_nil, List.length_cons, Nat.reduceAdd, Nat.reduceLeDiff, Nat.zero_le, U164, q0, q1, hx, hk, hy, c3, GX13, VS13, xa_i, ar_add, ar_mul]
      · have hy := fun (K : KQ) => (hy K).trans (by rw [if_neg c2])
        rw [if_neg c2, if_neg (fun q => c2 q.2.1)]
        refine mS_id z (fun Q => ?_)
        rw [e164]
        simp (disch := omega) only [KK, Int.reduceEq, not_false_iff, ↓reduceIte, ↓if_pos, ↓if_neg, xt_o, true_and, nlO_i, nlO_n, nlO_r, List.length_nil, List.length_cons, Nat.reduceAdd, Nat.reduceLeDiff, Nat.zero_le, U164, q0, q1, hx, hk, hy, VS13]
    · have hk := fun (K : KQ) => (hk K).trans (by rw [if_neg c1])
      rw [if_neg (fun q => c1 q.2), if_neg (fun q => c1 q.1.2)]
      refine mS_id z (fun Q => ?_)
      rw [e164]
      simp (disch := omega) only [KK, Int.reduceEq, not_false_iff, ↓reduceIte, ↓if_pos, ↓if_neg, xt_o, true_and, nlO_i, nlO_n, nlO_r, List.length_nil, List.length_cons, Nat.reduceAdd, Nat.reduceLeDiff, Nat.zero_le, U164, q0, q1, hx, hk, VS13]
  · have hx := fun (K : KQ) => (hx K).trans (by rw [if_neg c0])
    rw [if_neg (fun q => c0 q.1), if_neg (fun q => c0 q.1.1)]
    refine mS_id z (fun Q => ?_)
    rw [e164]
    simp (disch := omega) only [KK, Int.reduceEq, not_false_iff, ↓reduceIte, ↓if_pos, ↓if_neg, xt_o, true_and, nlO_i, nlO_n, nlO_r, List.length_nil, List.length_cons, Nat.reduceAdd, Nat.reduceLeDiff, Nat.zero_le, U164, q0, q1, hx, VS13]
end N1
