/-! more calls of the model -/
section N2
variable {G : MG} {d : Nat} {m : Nat} {s s' im bd : Int → Int} {hi rn : Int} {h : MH}
theorem N_begin (ok : okP s) (z : MS m s im hi rn bd h) {a x : Int} : mS G m (d + 3) 180 [vI a, vI x] (rBEGIN s a x) (tBEGIN s a x) im hi rn bd h := by
  have zz := z
  obtain ⟨⟨f0, f5, f6, f7, f8, f9, f12, f13, f14, f17, f18, f21, f22, f23, q0⟩, q1, -⟩ := zz
  have o28 := ok.1.1.2.1
  have hx := fun (K : KQ) => m_isAsker (G := G) (d := d) (Q := K) q0 q1 o28 (p := a)
  have hy := fun (K : KQ) => m_facts (G := G) (d := d) (h := h) (Q := K) (x := x)
  unfold rBEGIN tBEGIN
  by_cases c1 : 0 ≤ a ∧ a < s 28
  · have hx := fun (K : KQ) => (hx K).trans (by rw [if_pos c1])
    rw [if_pos c1]
    by_cases c2 : 0 ≤ x ∧ x ≤ 255
    · have hy := fun (K : KQ) => (hy K).trans (by rw [if_pos c2])
      have z1 := MS_s (s' := BEGs s a) z
      have hb := m_becomes (G := G) (d := d + 1) z1 (i := 1 + a) (v := x) (by omega)
      rw [show BEGs s a (1 + a) = s (1 + a) by unfold BEGs; rw [up_ne (by omega), up_ne (by omega), up_ne (by omega)], hs_hs] at hb
      have ha : ∀ K : KQ, wpC G (d + 2) 170 [vR m, vI a] h K = K none (hset h (m + 1) (cArr 0 937 (ix (BEGs s a)))) := fun K => by
        unfold BEGs
        rw [e170]
        simp (disch := omega) only [KK, Int.reduceEq, not_false_iff, ↓reduceIte, ↓if_pos, ↓if_neg, xt_o, true_and, nlO_i, nlO_n, nlO_r, List.length_nil, List.length_cons, Nat.reduceAdd, Nat.reduceLeDiff, Nat.zero_le, U170, q0, q1, GX13, xs_i, hs_eq, hs_hs, hs_ne (mi_ne (m := m)), ar_add]
      rw [if_pos c2, if_pos ⟨c1, c2⟩]
      refine mS_s z (fun Q => ?_)
      rw [e180]
      simp (disch := omega) only [KK, Int.reduceEq, not_false_iff, ↓reduceIte, ↓if_pos, ↓if_neg, xt_o, true_and, nlO_i, nlO_n, nlO_r, List.length_nil, List.length_cons, Nat.reduceAdd, Nat.reduceLeDiff, Nat.zero_le, U180, q0, q1, hx, hy, hb, ha, VS13, hs_ne (mi_ne (m := m)), ar_add]
    · have hy := fun (K : KQ) => (hy K).trans (by rw [if_neg c2])
      rw [if_neg c2, if_neg (fun q => c2 q.2)]
      refine mS_id z (fun Q => ?_)
      rw [e180]
      simp (disch := omega) only [KK, Int.reduceEq, not_false_iff, ↓reduceIte, ↓if_pos, ↓if_neg, xt_o, true_and, nlO_i, nlO_n, nlO_r, List.length_nil, List.length_cons, Nat.reduceAdd, Nat.reduceLeDiff, Nat.zero_le, U180, q0, q1, hx, hy, VS13]
  · have hx := fun (K : KQ) => (hx K).trans (by rw [if_neg c1])
    rw [if_neg c1, if_neg (fun q => c1 q.1)]
    refine mS_id z (fun Q => ?_)
    rw [e180]
    simp (disch := omega) only [KK, Int.reduceEq, not_false_iff, ↓reduceIte, ↓if_pos, ↓if_neg, xt_o, true_and, nlO_i, nlO_n, nlO_r, List.length_nil, List.length_cons, Nat.reduceAdd, Nat.reduceLeDiff, Nat.zero_le, U180, q0, q1, hx, VS13]
theorem N_asker (ok : okP s) (z : MS m s im hi rn bd h) : mS G m (d + 3) 169 [] (rASKER s) (tASKER s) im hi rn bd h := by
  have zz := z
  obtain ⟨⟨f0, f5, f6, f7, f8, f9, f12, f13, f14, f17, f18, f21, f22, f23, q0⟩, q1, -⟩ := zz
  have o28 := ok.1.1.2.1
  unfold rASKER tASKER
  by_cases c1 : s 28 = 5
  · rw [if_pos c1, if_pos c1]
    refine mS_id z (fun Q => ?_)
    rw [e169]
    simp (disch := omega) only [KK, Int.reduceEq, not_false_iff, ↓reduceIte, ↓if_pos, ↓if_neg, xt_o, true_and, nlO_i, nlO_n, nlO_r, List.length_nil, List.length_cons, Nat.reduceAdd, Nat.reduceLeDiff, Nat.zero_le, U169, q0, q1, c1, GX13, xa_i]
  · rw [if_neg c1, if_neg c1]
    obtain ⟨s1, hs1⟩ : ∃ s1, s1 = up s (1 + s 28) 0 := ⟨_, rfl⟩
    have e28 : BEGs s1 (s 28) 28 = s 28 := by
      rw [hs1]; unfold BEGs; rw [up_ne (by omega), up_ne (by omega), up_ne (by omega), up_ne (by omega)]
    have ha : ∀ K : KQ, wpC G (d + 2) 170 [vR m, vI (s 28)] (hset h (m + 1) (cArr 0 937 (ix s1))) K = K none (hset h (m + 1) (cArr 0 937 (ix (BEGs s1 (s 28))))) := fun K => by
      unfold BEGs
      rw [e170]
      simp (disch := omega) only [KK, Int.reduceEq, not_false_iff, ↓reduceIte, ↓if_pos, ↓if_neg, xt_o, true_and, nlO_i, nlO_n, nlO_r, List.length_nil, List.length_cons, Nat.reduceAdd, Nat.reduceLeDiff, Nat.zero_le, U170, q0, q1, GX13, xs_i, hs_eq, hs_hs, hs_ne (mi_ne (m := m)), ar_add]
    refine mS_s z (fun Q => ?_)
    unfold sASKER
    rw [hs1] at ha e28
    rw [e169]
    simp (disch := omega) only [KK, Int.reduceEq, not_false_iff, ↓reduceIte, ↓if_pos, ↓if_neg, xt_o, true_and, nlO_i, nlO_n, nlO_r, List.length_nil, List.length_cons, Nat.reduceAdd, Nat.reduceLeDiff, Nat.zero_le, U169, q0, q1, c1, ha, e28, GX13, VS13, xa_i, xs_i, hs_eq, hs_hs, hs_ne (mi_ne (m := m)), ar_add]
theorem N_aunt (ok : okP s) (z : MS m s im hi rn bd h) {k v kn : Int} : mS G m (d + 3) 153 [vI k, vI v, vI kn] (rAUNT s k v kn) (tAUNT s k v kn) im hi rn bd h := by
  have zz := z
  obtain ⟨⟨f0, f5, f6, f7, f8, f9, f12, f13, f14, f17, f18, f21, f22, f23, q0⟩, q1, -⟩ := zz
  have o27 := ok.1.1.2.2.1
  have hx := fun (K : KQ) => m_in (G := G) (d := d + 1) (h := h) (Q := K) (v := k) (lo := 0) (hi := 6)
  have hv := fun (K : KQ) => m_in (G := G) (d := d + 1) (h := h) (Q := K) (v := v) (lo := 0) (hi := 9)
  have hy := fun (K : KQ) => m_facts (G := G) (d := d) (h := h) (Q := K) (x := kn)
  unfold rAUNT tAUNT
  by_cases c0 : 0 ≤ k ∧ k ≤ 6
  · have hx := fun (K : KQ) => (hx K).trans (by rw [if_pos c0])
    rw [if_pos c0]
    by_cases c1 : 0 ≤ v ∧ v ≤ 9
    · have hv := fun (K : KQ) => (hv K).trans (by rw [if_pos c1])
      by_cases c2 : 0 ≤ kn ∧ kn ≤ 255
      · have hy := fun (K : KQ) => (hy K).trans (by rw [if_pos c2])
        rw [if_pos ⟨c1, c2⟩]
        by_cases c3 : s 27 = 6
        · rw [if_pos c3, if_neg (fun q => q.2 c3)]
          refine mS_id z (fun Q => ?_)
          rw [e153]
          simp (disch := omega) only [KK, Int.reduceEq, not_false_iff, ↓reduceIte, ↓if_pos, ↓if_neg, xt_o, true_and, nlO_i, nlO_n, nlO_r, List.length_nil, List.length_cons, Nat.reduceAdd, Nat.reduceLeDiff, Nat.zero_le, U153, q0, q1, hx, hv, hy, c3, GX13, xa_i]
        · rw [if_neg c3, if_pos ⟨⟨c0, c1, c2⟩, c3⟩]
          refine mS_s z (fun Q => ?_)
          unfold sAUNT
          rw [e153]
          simp (disch := omega) only [KK, Int.reduceEq, not_false_iff, ↓reduceIte, ↓if_pos, ↓if_neg, xt_o, true_and, nlO_i, nlO_n, nlO_r, List.length_nil, List.length_cons, Nat.reduceAdd, Nat.reduceLeDiff, Nat.zero_le, U153, u153_103, q0, q1, hx, hv, hy, c3, GX13, xa_i, xs_i, hs_eq, hs_hs, hs_ne (mi_ne (m := m)), up_ne, ar_add, ar_mul, Int.reduceLE, Int.reduceAdd]
      · have hy := fun (K : KQ) => (hy K).trans (by rw [if_neg c2])
        rw [if_neg (fun q => c2 q.2), if_neg (fun q => c2 q.1.2.2)]
        refine mS_id z (fun Q => ?_)
        rw [e153]
        simp (disch := omega) only [KK, Int.reduceEq, not_false_iff, ↓reduceIte, ↓if_pos, ↓if_neg, xt_o, true_and, nlO_i, nlO_n, nlO_r, List.length_nil, List.length_cons, Nat.reduceAdd, Nat.reduceLeDiff, Nat.zero_le, U153, q0, q1, hx, hv, hy]
    · have hv := fun (K : KQ) => (hv K).trans (by rw [if_neg c1])
      rw [if_neg (fun q => c1 q.1), if_neg (fun q => c1 q.1.2.1)]
      refine mS_id z (fun Q => ?_)
      rw [e153]
      simp (disch := omega) only [KK, Int.reduceEq, not_false_iff, ↓reduceIte, ↓if_pos, ↓if_neg, xt_o, true_and, nlO_i, nlO_n, nlO_r, List.length_nil, List.length_cons, Nat.reduceAdd, Nat.reduceLeDiff, Nat.zero_le, U153, q0, q1, hx, hv]
  · have hx := fun (K : KQ) => (hx K).trans (by rw [if_neg c0])
    rw [if_neg c0, if_neg (fun q => c0 q.1.1)]
    refine mS_id z (fun Q => ?_)
    rw [e153]
    simp (disch := omega) only [KK, Int.reduceEq, not_false_iff, ↓reduceIte, ↓if_pos, ↓if_neg, xt_o, true_and, nlO_i, nlO_n, nlO_r, List.length_nil, List.length_cons, Nat.reduceAdd, Nat.reduceLeDiff, Nat.zero_le, U153, q0, q1, hx]
theorem N_of (ok : okP s) (z : MS m s im hi rn bd h) {p w : Int} : mS G m (d + 3) 155 [vI p, vI w] (aOF s p w) s im hi rn bd h := by
  have zz := z
  obtain ⟨⟨f0, f5, f6, f7, f8, f9, f12, f13, f14, f17, f18, f21, f22, f23, q0⟩, q1, -⟩ := zz
  have o27 := ok.1.1.2.2.1
  have hx := fun (K : KQ) => m_isAunt (G := G) (d := d) (Q := K) q0 q1 o27 (p := p)
  refine mS_id z (fun Q => ?_)
  unfold aOF
  rw [e155]
  by_cases c1 : 0 ≤ p ∧ p < s 27
  · have hx := fun (K : KQ) => (hx K).trans (by rw [if_pos c1])
    rw [if_pos c1]
    by_cases w0 : w = 0
    · rw [if_pos w0]
      simp (disch := omega) only [KK, Int.reduceEq, not_false_iff, ↓reduceIte, ↓if_pos, ↓if_neg, xt_o, true_and, nlO_i, nlO_n, nlO_r, List.length_nil, List.length_cons, Nat.reduceAdd, Nat.reduceLeDiff, Nat.zero_le, U155, q0, q1, hx, w0, GX13, VS13, xa_i, ar_add]
    · by_cases w1 : w = 1
      · rw [if_neg w0, if_pos w1]
        simp (disch := omega) only [KK, Int.reduceEq, not_false_iff, ↓reduceIte, ↓if_pos, ↓if_neg, xt_o, true_and, nlO_i, nlO_n, nlO_r, List.length_nil, List.length_cons, Nat.reduceAdd, Nat.reduceLeDiff, Nat.zero_le, U155, q0, q1, hx, w1, GX13, VS13, xa_i, ar_add]
      · by_cases w2 : w = 2
        · rw [if_neg w0, if_neg w1, if_pos w2]
          simp (disch := omega) only [KK, Int.reduceEq, not_false_iff, ↓reduceIte, ↓if_pos, ↓if_neg, xt_o, true_and, nlO_i, nlO_n, nlO_r, List.length_nil, List.length_cons, Nat.reduceAdd, Nat.reduceLeDiff, Nat.zero_le, U155, q0, q1, hx, w2, GX13, VS13, xa_i, ar_add]
        · by_cases w3 : w = 3
          · rw [if_neg w0, if_neg w1, if_neg w2, if_pos w3]
            simp (disch := omega) only [KK, Int.reduceEq, not_false_iff, ↓reduceIte, ↓if_pos, ↓if_neg, xt_o, true_and, nlO_i, nlO_n, nlO_r, List.length_nil, List.length_cons, Nat.reduceAdd, Nat.reduceLeDiff, Nat.zero_le, U155, q0, q1, hx, w3, GX13, VS13, xa_i, ar_add]
          · rw [if_neg w0, if_neg w1, if_neg w2, if_neg w3]
            simp (disch := omega) only [KK, Int.reduceEq, not_false_iff, ↓reduceIte, ↓if_pos, ↓if_neg, xt_o, true_and, nlO_i, nlO_n, nlO_r, List.length_nil, List.length_cons, Nat.reduceAdd, Nat.reduceLeDiff, Nat.zero_le, U155, q0, q1, hx, GX13, VS13, xa_i, ar_add]
  · have hx := fun (K : KQ) => (hx K).trans (by rw [if_neg c1])
    rw [if_neg c1]
    simp (disch := omega) only [KK, Int.reduceEq, not_false_iff, ↓reduceIte, ↓if_pos, ↓if_neg, xt_o, true_and, nlO_i, nlO_n, nlO_r, List.length_nil, List.length_cons, Nat.reduceAdd, Nat.reduceLeDiff, Nat.zero_le, U155, q0, q1, hx, VS13]
theorem N_as (ok : okP s) (z : MS m s im hi rn bd h) {p k : Int} : mS G m (d + 3) 222 [vI p, vI k] (aAS s p k) s im hi rn bd h := by
  have zz := z
  obtain ⟨⟨f0, f5, f6, f7, f8, f9, f12, f13, f14, f17, f18, f21, f22, f23, q0⟩, q1, -⟩ := zz
  have o27 := ok.1.1.2.2.1
  have hx := fun (K : KQ) => m_isAunt (G := G) (d := d) (Q := K) q0 q1 o27 (p := p)
  have hk := fun (K : KQ) => m_in (G := G) (d := d + 1) (h := h) (Q := K) (v := k) (lo := 0) (hi := 6)
  refine mS_id z (fun Q => ?_)
  unfold aAS
  rw [e222]
  by_cases c1 : 0 ≤ p ∧ p < s 27
  · have hx := fun (K : KQ) => (hx K).trans (by rw [if_pos c1])
    by_cases c2 : 0 ≤ k ∧ k ≤ 6
    · have hk := fun (K : KQ) => (hk K).trans (by rw [if_pos c2])
      have hu := fun (K : KQ) => m_isUnder (G := G) (d := d + 1) (h := h) (Q := K) (k := s (43 + p)) (c := k) (by omega)
      rw [if_pos ⟨c1, c2⟩]
      by_cases c3 : UND (s (43 + p)) k
      · have hu := fun (K : KQ) => (hu K).trans (by rw [if_pos c3])
        rw [if_pos c3]
        simp (disch := omega) only [KK, Int.reduceEq, not_false_iff, ↓reduceIte, ↓if_pos, ↓if_neg, xt_o, true_and, nlO_i, nlO_n, nlO_r, List.length_nil, List.length_cons, Nat.reduceAdd, Nat.reduceLeDiff, Nat.zero_le, U222, q0, q1, hx, hk, hu, GX13, VS13, xa_i, ar_add]
      · have hu := fun (K : KQ) => (hu K).trans (by rw [if_neg c3])
        rw [if_neg c3]
        simp (disch := omega) only [KK, Int.reduceEq, not_false_iff, ↓reduceIte, ↓if_pos, ↓if_neg, xt_o, true_and, nlO_i, nlO_n, nlO_r, List.length_nil, List.length_cons, Nat.reduceAdd, Nat.reduceLeDiff, Nat.zero_le, U222, q0, q1, hx, hk, hu, GX13, VS13, xa_i, ar_add]
    · have hk := fun (K : KQ) => (hk K).trans (by rw [if_neg c2])
      rw [if_neg (fun q => c2 q.2)]
      simp (disch := omega) only [KK, Int.reduceEq, not_false_iff, ↓reduceIte, ↓if_pos, ↓if_neg, xt_o, true_and, nlO_i, nlO_n, nlO_r, List.length_nil, List.length_cons, Nat.reduceAdd, Nat.reduceLeDiff, Nat.zero_le, U222, q0, q1, hx, hk, VS13]
  · have hx := fun (K : KQ) => (hx K).trans (by rw [if_neg c1])
    rw [if_neg (fun q => c1 q.1)]
    simp (disch := omega) only [KK, Int.reduceEq, not_false_iff, ↓reduceIte, ↓if_pos, ↓if_neg, xt_o, true_and, nlO_i, nlO_n, nlO_r, List.length_nil, List.length_cons, Nat.reduceAdd, Nat.reduceLeDiff, Nat.zero_le, U222, q0, q1, hx, VS13]
theorem N_count (z : MS m s im hi rn bd h) {w : Int} : mS G m (d + 3) 225 [vI w] (aCOUNT s rn w) s im hi rn bd h := by
  have zz := z
  obtain ⟨⟨f0, f5, f6, f7, f8, f9, f12, f13, f14, f17, f18, f21, f22, f23, q0⟩, q1, -⟩ := zz
  have hk := fun (K : KQ) => m_in (G := G) (d := d + 1) (h := h) (Q := K) (v := w) (lo := 0) (hi := 6)
  refine mS_id z (fun Q => ?_)
  unfold aCOUNT
  rw [e225]
  by_cases c1 : w = 7
  · rw [if_pos c1]
    simp (disch := omega) only [KK, Int.reduceEq, not_false_iff, ↓reduceIte, ↓if_pos, ↓if_neg, xt_o, true_and, nlO_i, nlO_n, nlO_r, List.length_nil, List.length_cons, Nat.reduceAdd, Nat.reduceLeDiff, Nat.zero_le, U225, q0, q1, c1, GX13]
  · rw [if_neg c1]
    by_cases c2 : 0 ≤ w ∧ w ≤ 6
    · have hk := fun (K : KQ) => (hk K).trans (by rw [if_pos c2])
      rw [if_pos c2]
      simp (disch := omega) only [KK, Int.reduceEq, not_false_iff, ↓reduceIte, ↓if_pos, ↓if_neg, xt_o, true_and, nlO_i, nlO_n, nlO_r, List.length_nil, List.length_cons, Nat.reduceAdd, Nat.reduceLeDiff, Nat.zero_le, U225, q0, q1, hk, GX13, VS13, xa_i, ar_add]
    · have hk := fun (K : KQ) => (hk K).trans (by rw [if_neg c2])
      rw [if_neg c2]
      simp (disch := omega) only [KK, Int.reduceEq, not_false_iff, ↓reduceIte, ↓if_pos, ↓if_neg, xt_o, true_and, nlO_i, nlO_n, nlO_r, List.length_nil, List.length_cons, Nat.reduceAdd, Nat.reduceLeDiff, Nat.zero_le, U225, q0, q1, hk, GX13, VS13]
theorem N_trace (z : MS m s im hi rn bd h) (hr : 0 ≤ rn ∧ rn ≤ 100) {i : Int} : mS G m (d + 3) 221 [vI i] (aTRACE rn bd i) s im hi rn bd h := by
  have zz := z
  obtain ⟨⟨f0, f5, f6, f7, f8, f9, f12, f13, f14, f17, f18, f21, f22, f23, q0⟩, q1, q2, q8, -⟩ := zz
  refine mS_id z (fun Q => ?_)
  unfold aTRACE
  rw [e221]
  by_cases c0 : rn < 20
  · have hk := fun (K : KQ) => m_in (G := G) (d := d + 1) (h := h) (Q := K) (v := i) (lo := 0) (hi := rn - 1)
    by_cases c : 0 ≤ i ∧ i ≤ rn - 1
    · have hk := fun (K : KQ) => (hk K).trans (by rw [if_pos c])
      rw [if_pos (by omega)]
      simp (disch := omega) only [KK, Int.reduceEq, not_false_iff, ↓reduceIte, ↓if_pos, ↓if_neg, xt_o, true_and, nlO_i, nlO_n, nlO_r, List.length_nil, List.length_cons, Nat.reduceAdd, Nat.reduceLeDiff, Nat.zero_le, U221, q0, q1, q8, hk, GX13, VS13, xa_i, ar_sub]
    · have hk := fun (K : KQ) => (hk K).trans (by rw [if_neg c])
      rw [if_neg (by omega)]
      simp (disch := omega) only [KK, Int.reduceEq, not_false_iff, ↓reduceIte, ↓if_pos, ↓if_neg, xt_o, true_and, nlO_i, nlO_n, nlO_r, List.length_nil, List.length_cons, Nat.reduceAdd, Nat.reduceLeDiff, Nat.zero_le, U221, q0, q1, q8, hk, GX13, VS13, xa_i, ar_sub]
  · have hk := fun (K : KQ) => m_in (G := G) (d := d + 1) (h := h) (Q := K) (v := i) (lo := 0) (hi := 20 - 1)
    by_cases c : 0 ≤ i ∧ i ≤ 20 - 1
    · have hk := fun (K : KQ) => (hk K).trans (by rw [if_pos c])
      rw [if_pos (by omega)]
      simp (disch := omega) only [KK, Int.reduceEq, not_false_iff, ↓reduceIte, ↓if_pos, ↓if_neg, xt_o, true_and, nlO_i, nlO_n, nlO_r, List.length_nil, List.length_cons, Nat.reduceAdd, Nat.reduceLeDiff, Nat.zero_le, U221, q0, q1, q8, hk, GX13, VS13, xa_i, ar_sub]
    · have hk := fun (K : KQ) => (hk K).trans (by rw [if_neg c])
      rw [if_neg (by omega)]
      simp (disch := omega) only [KK, Int.reduceEq, not_false_iff, ↓reduceIte, ↓if_pos, ↓if_neg, xt_o, true_and, nlO_i, nlO_n, nlO_r, List.length_nil, List.length_cons, Nat.reduceAdd, Nat.reduceLeDiff, Nat.zero_le, U221, q0, q1, q8, hk, GX13, VS13, xa_i, ar_sub]
end N2
