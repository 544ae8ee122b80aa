/-! the model reads what is asked: of one, of all; clauses -/
section R5
variable {G : MG} {h0 : MH} {T : Int → Int}
variable {m : Nat} {f0 f4 f5 f6 f7 f8 f9 f12 f13 f14 f17 f18 f20 f21 f22 f23 : Int}
theorem m_fac_t {d : Nat} {Q : KQ} {p o : Int} {s : Int → Int} (z : qSt G h0) (hm : G.1 ≤ m) (hT : sT s T) (hN : f7 ≤ 100) (h5 : 0 ≤ f5 ∧ f5 ≤ 4) (p0 : 0 ≤ p) (p1 : p ≤ f7) (hn : 0 ≤ s (232 + f5)) (hn2 : s (232 + f5) ≤ p) (c1 : ¬ hrF T f7 p = 33) (c2 : ¬ hrF T f7 p = 40) : wpC G (d + 6) 150 [vR m] (mP m h0 (mO m f0 f4 f5 p f7 0 o f12 f13 f14 f17 f18 f20 f21 f22 f23) s) Q = Q none (mP m h0 (mO m f0 f4 f5 ((teF T f7 p).2.1) f7 (wB (teF T f7 p).1) o f12 f13 f14 f17 f18 f20 f21 f22 f23) (sE f5 s ((teF T f7 p).2.2.map trC))) := by
  have hh := fun (K : KQ) => m_here (G := G) (d := d + 4) (Q := K) (h0 := h0) (m := m) (f0 := f0) (f4 := f4) (f5 := f5) (f7 := f7) (f12 := f12) (f13 := f13) (f14 := f14) (f17 := f17) (f18 := f18) (f20 := f20) (f21 := f21) (f22 := f22) (f23 := f23) (w := 0) (o := o) hT p0 hN
  have ha := fun (K : KQ) => m_among (G := G) (d := d) (Q := K) (h0 := h0) (m := m) (f0 := f0) (f4 := f4) (f5 := f5) (f7 := f7) (f12 := f12) (f13 := f13) (f14 := f14) (f17 := f17) (f18 := f18) (f20 := f20) (f21 := f21) (f22 := f22) (f23 := f23) (o := o) z hm hT hN (i := 7) (by decide) p0 p1
  have e7 : ∀ x, ofS x 7 = ofS x 5 := fun x => rfl
  have e8 : ∀ x, ofS x 8 = ofS x 6 := fun x => rfl
  rw [e7] at ha
  unfold teF
  rw [e150]
  by_cases a1 : ofS (hrF T f7 p) 5 = -1
  · have ha := fun (K : KQ) => (ha K).trans (by rw [if_pos a1, a1])
    have hg := fun (K : KQ) => m_figures1 (G := G) (d := d + 3) (Q := K) (h0 := h0) (m := m) (f0 := f0) (f4 := f4) (f5 := f5) (f7 := f7) (f12 := f12) (f13 := f13) (f14 := f14) (f17 := f17) (f18 := f18) (f20 := f20) (f21 := f21) (f22 := f22) (f23 := f23) (o := o) hT p0 hN
    have he := fun (x : Int) (K : KQ) => m_emits1 (G := G) (d := d + 4) (Q := K) (h0 := h0) (m := m) (f0 := f0) (f4 := f4) (f5 := f5) (f7 := f7) (f12 := f12) (f13 := f13) (f14 := f14) (f17 := f17) (f18 := f18) (f20 := f20) (f21 := f21) (f22 := f22) (f23 := f23) (p := p) (s := s) (o := o) (x := x)
    rw [if_pos a1]
    simp (disch := omega) only [KK, Int.reduceEq, not_false_iff, ↓reduceIte, ↓if_pos, ↓if_neg, xt_o, true_and, nlO_i, nlO_n, nlO_r, List.length_nil, List.length_cons, Nat.reduceAdd, Nat.reduceLeDiff, Nat.zero_le, U150, mP_m, mP_hm, hh, ha, hg, he, c1, c2, GX13, PX13, VS13, true_or, or_true]
    rfl
  · have ha := fun (K : KQ) => (ha K).trans (by rw [if_neg a1])
    rw [if_neg a1]
    have l1 := hr_lt (T := T) (N := f7) (p := p) (fun q => a1 (by rw [q]; exact ofS_m (by decide)))
    have hb := fun (K : KQ) => m_among (G := G) (d := d) (Q := K) (h0 := h0) (m := m) (f0 := f0) (f4 := f4) (f5 := f5) (f7 := f7) (f12 := f12) (f13 := f13) (f14 := f14) (f17 := f17) (f18 := f18) (f20 := f20) (f21 := f21) (f22 := f22) (f23 := f23) (p := p + 1) (o := o) z hm hT hN (i := 8) (by decide) (by omega) (by omega)
    rw [e8] at hb
    have e2 : (p + 1 + 1 : Int) = p + 2 := by omega
    rw [e2] at hb
    by_cases a2 : ofS (hrF T f7 (p + 1)) 6 = -1
    · have hb := fun (K : KQ) => (hb K).trans (by rw [if_pos a2, a2])
      have hg := fun (K : KQ) => m_figures1 (G := G) (d := d + 3) (Q := K) (h0 := h0) (m := m) (f0 := f0) (f4 := f4) (f5 := f5) (f7 := f7) (f12 := f12) (f13 := f13) (f14 := f14) (f17 := f17) (f18 := f18) (f20 := f20) (f21 := f21) (f22 := f22) (f23 := f23) (p := p + 1) (o := o) hT (by omega) hN
      have he := fun (x : Int) (K : KQ) => m_emits1 (G := G) (d := d + 4) (Q := K) (h0 := h0) (m := m) (f0 := f0) (f4 := f4) (f5 := f5) (f7 := f7) (f12 := f12) (f13 := f13) (f14 := f14) (f17 := f17) (f18 := f18) (f20 := f20) (f21 := f21) (f22 := f22) (f23 := f23) (p := p + 1) (s := s) (o := o) (x := x)
      rw [if_pos a2]
      simp (disch := omega) only [KK, Int.reduceEq, not_false_iff, ↓reduceIte, ↓if_pos, ↓if_neg, xt_o, true_and, nlO_i, nlO_n, nlO_r, List.length_nil, List.length_cons, Nat.reduceAdd, Nat.reduceLeDiff, Nat.zero_le, U150, mP_m, mP_hm, hh, ha, hb, hg, he, a1, c1, c2, GX13, PX13, VS13, true_or, or_true]
      rfl
    · have hb := fun (K : KQ) => (hb K).trans (by rw [if_neg a2])
      rw [if_neg a2]
      have l2 := hr_lt (T := T) (N := f7) (p := p + 1) (fun q => a2 (by rw [q]; exact ofS_m (by decide)))
      have hg := fun (K : KQ) => m_figures0 (G := G) (d := d + 3) (Q := K) (h0 := h0) (m := m) (f0 := f0) (f4 := f4) (f5 := f5) (f7 := f7) (f12 := f12) (f13 := f13) (f14 := f14) (f17 := f17) (f18 := f18) (f20 := f20) (f21 := f21) (f22 := f22) (f23 := f23) (p := p + 2) (o := o) hT (by omega) (by omega) hN
      have hnb := nu_b (T := T) (N := f7) (p := p + 2) (by omega)
      by_cases a3 : (nuF T f7 (p + 2)).1 = -1
      · have hg := fun (K : KQ) => (hg K).trans (by rw [if_pos a3, if_pos a3])
        have e4 : (nuF T f7 (p + 2)).2 = p + 2 := by omega
        rw [e4] at hg
        have he := fun (x : Int) (K : KQ) => m_emits1 (G := G) (d := d + 4) (Q := K) (h0 := h0) (m := m) (f0 := f0) (f4 := f4) (f5 := f5) (f7 := f7) (f12 := f12) (f13 := f13) (f14 := f14) (f17 := f17) (f18 := f18) (f20 := f20) (f21 := f21) (f22 := f22) (f23 := f23) (p := p + 2) (s := s) (o := o) (x := x)
        rw [if_pos a3]
        simp (disch := omega) only [KK, Int.reduceEq, not_false_iff, ↓reduceIte, ↓if_pos, ↓if_neg, xt_o, true_and, nlO_i, nlO_n, nlO_r, List.length_nil, List.length_cons, Nat.reduceAdd, Nat.reduceLeDiff, Nat.zero_le, U150, mP_m, mP_hm, hh, ha, hb, hg, he, a1, a2, c1, c2, GX13, PX13, VS13, true_or, or_true]
        rfl
      · have hg := fun (K : KQ) => (hg K).trans (by rw [if_neg a3, if_neg a3])
        have hnb := hnb.resolve_left (fun q => a3 q.1)
        have h5' := (ofS_5 (x := hrF T f7 p)).resolve_left a1
        have h6' := (ofS_6 (x := hrF T f7 (p + 1))).resolve_left a2
        rw [if_neg a3]
        generalize ofS (hrF T f7 p) 5 = a at ha a1 h5' ⊢
        generalize ofS (hrF T f7 (p + 1)) 6 = b at hb a2 h6' ⊢
        generalize nuF T f7 (p + 2) = n at hg a3 hnb ⊢
        have he := fun (x : Int) (K : KQ) => m_emits0 (G := G) (d := d + 4) (Q := K) (h0 := h0) (m := m) (f0 := f0) (f4 := f4) (f5 := f5) (f7 := f7) (f12 := f12) (f13 := f13) (f14 := f14) (f17 := f17) (f18 := f18) (f20 := f20) (f21 := f21) (f22 := f22) (f23 := f23) (p := n.2) (s := s) (o := o) (x := x) h5 ⟨hn, by omega⟩
        have e := tr_of h5' h6' hnb.1
        show _ = Q none (mP m h0 (mO m f0 f4 f5 (n.2) f7 0 o f12 f13 f14 f17 f18 f20 f21 f22 f23) (emF f5 s (trC ((a * 3 + b) * 100 + n.1))))
        rw [e]
        simp (disch := omega) only [KK, Int.reduceEq, not_false_iff, ↓reduceIte, ↓if_pos, ↓if_neg, xt_o, true_and, nlO_i, nlO_n, nlO_r, List.length_nil, List.length_cons, Nat.reduceAdd, Nat.reduceLeDiff, Nat.zero_le, U150, mP_m, mP_hm, hh, ha, hb, hg, he, a1, a2, c1, c2, GX13, PX13, VS13, true_or, or_true, ar_add, ar_mul]
theorem m_fac (z : qSt G h0) (hm : G.1 ≤ m) (hN : f7 ≤ 100) (h5 : 0 ≤ f5 ∧ f5 ≤ 4) : ∀ (k : Nat) (d : Nat), k ≤ 5 → ∀ (p : Int) (s : Int → Int), 0 ≤ p → p ≤ f7 → 0 ≤ s (232 + f5) → s (232 + f5) ≤ p → sT s T → ∀ Q : KQ, wpC G (d + 3 * k + 6) 150 [vR m] (mP m h0 (mO m f0 f4 f5 p f7 0 (5 - (k : Int)) f12 f13 f14 f17 f18 f20 f21 f22 f23) s) Q = Q none (mP m h0 (mO m f0 f4 f5 ((sgF T f7 k p).2.1) f7 (wB (sgF T f7 k p).1) (5 - (k : Int)) f12 f13 f14 f17 f18 f20 f21 f22 f23) (sE f5 s ((sgF T f7 k p).2.2.map trC))) := by
  intro k
  induction k with
  | zero =>
    intro d hk p s p0 p1 hn hn2 hT Q
    have hh := fun (K : KQ) => m_here (G := G) (d := d + 4) (Q := K) (h0 := h0) (m := m) (f0 := f0) (f4 := f4) (f5 := f5) (f7 := f7) (f12 := f12) (f13 := f13) (f14 := f14) (f17 := f17) (f18 := f18) (f20 := f20) (f21 := f21) (f22 := f22) (f23 := f23) (w := 0) (o := 5) hT p0 hN
    rw [sgF]
    show wpC G (d + 6) 150 [vR m] (mP m h0 (mO m f0 f4 f5 p f7 0 5 f12 f13 f14 f17 f18 f20 f21 f22 f23) s) Q = Q none (mP m h0 (mO m f0 f4 f5 ((if hrF T f7 p = 33 ∨ hrF T f7 p = 40 then (false, p, []) else teF T f7 p : RD).2.1) f7 (wB (if hrF T f7 p = 33 ∨ hrF T f7 p = 40 then (false, p, []) else teF T f7 p : RD).1) 5 f12 f13 f14 f17 f18 f20 f21 f22 f23) (sE f5 s ((if hrF T f7 p = 33 ∨ hrF T f7 p = 40 then (false, p, []) else teF T f7 p : RD).2.2.map trC)))
    by_cases c1 : hrF T f7 p = 33
    · have hw := fun (K : KQ) => m_fac_w (G := G) (d := d + 4) (Q := K) (h0 := h0) (m := m) (f0 := f0) (f4 := f4) (f5 := f5) (f7 := f7) (f12 := f12) (f13 := f13) (f14 := f14) (f17 := f17) (f18 := f18) (f20 := f20) (f21 := f21) (f22 := f22) (f23 := f23) (p := p) (s := s) (o := 6)
      have he := fun (x : Int) (K : KQ) => m_emits1 (G := G) (d := d + 4) (Q := K) (h0 := h0) (m := m) (f0 := f0) (f4 := f4) (f5 := f5) (f7 := f7) (f12 := f12) (f13 := f13) (f14 := f14) (f17 := f17) (f18 := f18) (f20 := f20) (f21 := f21) (f22 := f22) (f23 := f23) (p := p) (s := s) (o := 6) (x := x)
      rw [if_pos (Or.inl c1), e150]
      simp (disch := omega) only [KK, Int.reduceEq, not_false_iff, ↓reduceIte, ↓if_pos, ↓if_neg, xt_o, true_and, nlO_i, nlO_n, nlO_r, List.length_nil, List.length_cons, Nat.reduceAdd, Nat.reduceLeDiff, Nat.zero_le, U150, mP_m, mP_hm, hh, hw, he, c1, GX13, PX13, VS13, true_or, or_true, ar_add, ar_sub, Int.add_zero, Int.reduceAdd, Int.reduceSub]
      rfl
    · by_cases c2 : hrF T f7 p = 40
      · have hw := fun (K : KQ) => m_some_w (G := G) (d := d + 2) (Q := K) (h0 := h0) (m := m) (f0 := f0) (f4 := f4) (f5 := f5) (f7 := f7) (f12 := f12) (f13 := f13) (f14 := f14) (f17 := f17) (f18 := f18) (f20 := f20) (f21 := f21) (f22 := f22) (f23 := f23) (p := p) (s := s) (o := 6)
        have hu := fun (x : Int) (K : KQ) => m_must1 (G := G) (d := d + 3) (Q := K) (h0 := h0) (m := m) (f0 := f0) (f4 := f4) (f5 := f5) (f7 := f7) (f12 := f12) (f13 := f13) (f14 := f14) (f17 := f17) (f18 := f18) (f20 := f20) (f21 := f21) (f22 := f22) (f23 := f23) (p := p) (s := s) (o := 6) (x := x) ⟨p0, by omega⟩
        rw [if_pos (Or.inr c2), e150]
        simp (disch := omega) only [KK, Int.reduceEq, not_false_iff, ↓reduceIte, ↓if_pos, ↓if_neg, xt_o, true_and, nlO_i, nlO_n, nlO_r, List.length_nil, List.length_cons, Nat.reduceAdd, Nat.reduceLeDiff, Nat.zero_le, U150, mP_m, mP_hm, hh, hw, hu, c2, GX13, PX13, VS13, true_or, or_true, ar_add, ar_sub, Int.add_zero, Int.reduceAdd, Int.reduceSub]
        rfl
      · rw [if_neg (by omega)]
        exact m_fac_t (G := G) (h0 := h0) (m := m) (f0 := f0) (f4 := f4) (f5 := f5) (f7 := f7) (f12 := f12) (f13 := f13) (f14 := f14) (f17 := f17) (f18 := f18) (f20 := f20) (f21 := f21) (f22 := f22) (f23 := f23) (o := 5) z hm hT hN h5 p0 p1 hn hn2 c1 c2
  | succ k ih =>
    intro d hk p s p0 p1 hn hn2 hT Q
    have hh := fun (K : KQ) => m_here (G := G) (d := d + 3 * k + 7) (Q := K) (h0 := h0) (m := m) (f0 := f0) (f4 := f4) (f5 := f5) (f7 := f7) (f12 := f12) (f13 := f13) (f14 := f14) (f17 := f17) (f18 := f18) (f20 := f20) (f21 := f21) (f22 := f22) (f23 := f23) (w := 0) (o := 5 - ((k + 1 : Nat) : Int)) hT p0 hN
    have eo : (5 - ((k + 1 : Nat) : Int) + 1 : Int) = 5 - (k : Int) := by omega
    have eo2 : (5 - (k : Int) - 1 : Int) = 5 - ((k + 1 : Nat) : Int) := by omega
    have eo3 : ¬ 5 - ((k + 1 : Nat) : Int) = 5 := by omega
    rw [sgF]
    by_cases c1 : hrF T f7 p = 33
    · have lt := hr_lt (T := T) (N := f7) (p := p) (by omega)
      have hf := ih (d + 2) (by omega) (p + 1) s (by omega) (by omega) hn (by omega) hT
      rw [show d + 2 + 3 * k + 6 = d + 3 * k + 8 by omega] at hf
      obtain ⟨⟨b1, b2⟩, b3, -, -⟩ := sg_g (T := T) (N := f7) k (p + 1) (by omega) (by omega)
      rw [if_pos c1, show d + 3 * (k + 1) + 6 = d + 3 * k + 8 + 1 by omega]
      generalize sgF T f7 k (p + 1) = r at hf b1 b2 b3 ⊢
      obtain ⟨b, q, l⟩ := r
      have b1 : p + 1 ≤ q := b1
      have b2 : q ≤ f7 := b2
      have b3 : (l.length : Int) ≤ q - (p + 1) := b3
      have hn3 := sE_n (a := f5) (l.map trC) s
      rw [List.length_map] at hn3
      cases b with
      | true =>
        have he := fun (K : KQ) => m_emits0 (G := G) (d := d + 3 * k + 7) (Q := K) (h0 := h0) (m := m) (f0 := f0) (f4 := f4) (f5 := f5) (f7 := f7) (f12 := f12) (f13 := f13) (f14 := f14) (f17 := f17) (f18 := f18) (f20 := f20) (f21 := f21) (f22 := f22) (f23 := f23) (p := q) (s := sE f5 s (l.map trC)) (o := 5 - (k : Int)) (x := -1) h5 ⟨by omega, by omega⟩
        have e : emF f5 (sE f5 s (l.map trC)) (-1) = sE f5 s ((l ++ [-1]).map trC) := sE_j (l := []) (s := s) (by decide)
        rw [if_pos rfl]
        show _ = Q none (mP m h0 (mO m f0 f4 f5 q f7 0 (5 - ((k + 1 : Nat) : Int)) f12 f13 f14 f17 f18 f20 f21 f22 f23) (sE f5 s ((l ++ [-1]).map trC)))
        rw [← e, e150]
        simp (disch := omega) only [KK, Int.reduceEq, not_false_iff, ↓reduceIte, ↓if_pos, ↓if_neg, xt_o, true_and, nlO_i, nlO_n, nlO_r, List.length_nil, List.length_cons, Nat.reduceAdd, Nat.reduceLeDiff, Nat.zero_le, U150, mP_m, mP_hm, hh, hf, he, c1, eo, eo2, eo3, wB_t, GX13, PX13, VS13, true_or, or_true, ar_add, ar_sub]
      | false =>
        have he := fun (K : KQ) => m_emits1 (G := G) (d := d + 3 * k + 7) (Q := K) (h0 := h0) (m := m) (f0 := f0) (f4 := f4) (f5 := f5) (f7 := f7) (f12 := f12) (f13 := f13) (f14 := f14) (f17 := f17) (f18 := f18) (f20 := f20) (f21 := f21) (f22 := f22) (f23 := f23) (p := q) (s := sE f5 s (l.map trC)) (o := 5 - (k : Int)) (x := -1)
        rw [if_neg (fun z => ff_t z)]
        show _ = Q none (mP m h0 (mO m f0 f4 f5 q f7 1 (5 - ((k + 1 : Nat) : Int)) f12 f13 f14 f17 f18 f20 f21 f22 f23) (sE f5 s (l.map trC)))
        rw [e150]
        simp (disch := omega) only [KK, Int.reduceEq, not_false_iff, ↓reduceIte, ↓if_pos, ↓if_neg, xt_o, true_and, nlO_i, nlO_n, nlO_r, List.length_nil, List.length_cons, Nat.reduceAdd, Nat.reduceLeDiff, Nat.zero_le, U150, mP_m, mP_hm, hh, hf, he, c1, eo, eo2, eo3, wB_f, GX13, PX13, VS13, true_or, or_true, ar_add, ar_sub]
    · rw [if_neg c1]
      by_cases c2 : hrF T f7 p = 40
      · have lt := hr_lt (T := T) (N := f7) (p := p) (by omega)
        have hF := fun (p : Int) (s : Int → Int) (p0 : 0 ≤ p) (p1 : p ≤ f7) (hn : 0 ≤ s (232 + f5)) (hn2 : s (232 + f5) ≤ p) (hT : sT s T) (Q : KQ) => ih d (by omega) p s p0 p1 hn hn2 hT Q
        have hE := m_every (G := G) (D := d + 3 * k) (h0 := h0) (m := m) (f0 := f0) (f4 := f4) (f5 := f5) (f7 := f7) (f12 := f12) (f13 := f13) (f14 := f14) (f17 := f17) (f18 := f18) (f20 := f20) (f21 := f21) (f22 := f22) (f23 := f23) (o := 5 - (k : Int)) hN h5 (sg_g k) hF
        have hS := m_some (G := G) (D := d + 3 * k + 1) (h0 := h0) (m := m) (f0 := f0) (f4 := f4) (f5 := f5) (f7 := f7) (f12 := f12) (f13 := f13) (f14 := f14) (f17 := f17) (f18 := f18) (f20 := f20) (f21 := f21) (f22 := f22) (f23 := f23) (o := 5 - (k : Int)) hN h5 (bo_g (sg_g k)) hE (p + 1) s (by omega) (by omega) hn (by omega) hT
        obtain ⟨⟨b1, b2⟩, b3, -, -⟩ := ei_g (T := T) (N := f7) (sg_g k) (p + 1) (by omega) (by omega)
        have eE : lpF T f7 124 (-3) (boF T f7 (sgF T f7 k)) 100 (boF T f7 (sgF T f7 k) (p + 1)) = eiF T f7 (sgF T f7 k) (p + 1) := rfl
        have hS := fun (Q : KQ) => hS Q
        rw [if_pos c2, show d + 3 * (k + 1) + 6 = d + 3 * k + 8 + 1 by omega]
        have hS' : ∀ Q : KQ, wpC G (d + 3 * k + 8) 148 [vR m] (mP m h0 (mO m f0 f4 f5 (p + 1) f7 0 (5 - (k : Int)) f12 f13 f14 f17 f18 f20 f21 f22 f23) s) Q = Q none (mP m h0 (mO m f0 f4 f5 ((eiF T f7 (sgF T f7 k) (p + 1)).2.1) f7 (wB (eiF T f7 (sgF T f7 k) (p + 1)).1) (5 - (k : Int)) f12 f13 f14 f17 f18 f20 f21 f22 f23) (sE f5 s ((eiF T f7 (sgF T f7 k) (p + 1)).2.2.map trC))) := hS
        generalize eiF T f7 (sgF T f7 k) (p + 1) = r at hS' b1 b2 b3 ⊢
        obtain ⟨b, q, l⟩ := r
        have b1 : p + 1 ≤ q := b1
        have b2 : q ≤ f7 := b2
        have b3 : (l.length : Int) ≤ q - (p + 1) := b3
        have hn3 := sE_n (a := f5) (l.map trC) s
        have hT' := sT_sE h5 (l.map trC) s hn hT
        cases b with
        | true =>
          have hu := fun (K : KQ) => m_must0 (G := G) (d := d + 3 * k + 6) (Q := K) (h0 := h0) (m := m) (f0 := f0) (f4 := f4) (f5 := f5) (f7 := f7) (f12 := f12) (f13 := f13) (f14 := f14) (f17 := f17) (f18 := f18) (f20 := f20) (f21 := f21) (f22 := f22) (f23 := f23) (p := q) (s := sE f5 s (l.map trC)) (o := 5 - (k : Int)) (x := 41) hT' (by omega) hN b2
          by_cases c3 : hrF T f7 q = 41
          · have hu := fun (K : KQ) => (hu K).trans (by rw [if_pos c3])
            rw [if_pos ⟨rfl, c3⟩]
            show _ = Q none (mP m h0 (mO m f0 f4 f5 (q + 1) f7 0 (5 - ((k + 1 : Nat) : Int)) f12 f13 f14 f17 f18 f20 f21 f22 f23) (sE f5 s (l.map trC)))
            rw [e150]
            simp (disch := omega) only [KK, Int.reduceEq, not_false_iff, ↓reduceIte, ↓if_pos, ↓if_neg, xt_o, true_and, nlO_i, nlO_n, nlO_r, List.length_nil, List.length_cons, Nat.reduceAdd, Nat.reduceLeDiff, Nat.zero_le, U150, mP_m, mP_hm, hh, hS', hu, c2, eo, eo2, eo3, wB_t, GX13, PX13, VS13, true_or, or_true, ar_add, ar_sub]
          · have hu := fun (K : KQ) => (hu K).trans (by rw [if_neg c3])
            rw [if_neg (fun z => c3 z.2)]
            show _ = Q none (mP m h0 (mO m f0 f4 f5 q f7 1 (5 - ((k + 1 : Nat) : Int)) f12 f13 f14 f17 f18 f20 f21 f22 f23) (sE f5 s (l.map trC)))
            rw [e150]
            simp (disch := omega) only [KK, Int.reduceEq, not_false_iff, ↓reduceIte, ↓if_pos, ↓if_neg, xt_o, true_and, nlO_i, nlO_n, nlO_r, List.length_nil, List.length_cons, Nat.reduceAdd, Nat.reduceLeDiff, Nat.zero_le, U150, mP_m, mP_hm, hh, hS', hu, c2, eo, eo2, eo3, wB_t, GX13, PX13, VS13, true_or, or_true, ar_add, ar_sub]
        | false =>
          have hu := fun (K : KQ) => m_must1 (G := G) (d := d + 3 * k + 6) (Q := K) (h0 := h0) (m := m) (f0 := f0) (f4 := f4) (f5 := f5) (f7 := f7) (f12 := f12) (f13 := f13) (f14 := f14) (f17 := f17) (f18 := f18) (f20 := f20) (f21 := f21) (f22 := f22) (f23 := f23) (p := q) (s := sE f5 s (l.map trC)) (o := 5 - (k : Int)) (x := 41) ⟨by omega, by omega⟩
          rw [if_neg (fun z => ff_t z.1)]
          show _ = Q none (mP m h0 (mO m f0 f4 f5 q f7 1 (5 - ((k + 1 : Nat) : Int)) f12 f13 f14 f17 f18 f20 f21 f22 f23) (sE f5 s (l.map trC)))
          rw [e150]
          simp (disch := omega) only [KK, Int.reduceEq, not_false_iff, ↓reduceIte, ↓if_pos, ↓if_neg, xt_o, true_and, nlO_i, nlO_n, nlO_r, List.length_nil, List.length_cons, Nat.reduceAdd, Nat.reduceLeDiff, Nat.zero_le, U150, mP_m, mP_hm, hh, hS', hu, c2, eo, eo2, eo3, wB_f, GX13, PX13, VS13, true_or, or_true, ar_add, ar_sub]
      · rw [if_neg c2, show d + 3 * (k + 1) + 6 = d + 3 * k + 3 + 6 by omega]
        exact m_fac_t (G := G) (h0 := h0) (m := m) (f0 := f0) (f4 := f4) (f5 := f5) (f7 := f7) (f12 := f12) (f13 := f13) (f14 := f14) (f17 := f17) (f18 := f18) (f20 := f20) (f21 := f21) (f22 := f22) (f23 := f23) (o := 5 - ((k + 1 : Nat) : Int)) z hm hT hN h5 p0 p1 hn hn2 c1 c2
end R5
