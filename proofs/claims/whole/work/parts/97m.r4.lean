/-! the model reads what a clause asks -/
theorem lpF_s {T : Int → Int} {N c j p : Int} {f : Int → RD} {n : Nat} {l : List Int} : lpF T N c j f (n + 1) (true, p, l) = if hrF T N p = c then (if (f (p + 1)).1 = true then lpF T N c j f n (true, (f (p + 1)).2.1, l ++ (f (p + 1)).2.2 ++ [j]) else (false, (f (p + 1)).2.1, l ++ (f (p + 1)).2.2)) else (true, p, l) := by
  rw [lpF]
  by_cases q : hrF T N p = c
  · rw [if_pos q]; exact if_pos ⟨rfl, q⟩
  · rw [if_neg q]; exact if_neg (fun z => q z.2)
theorem lpF_f {T : Int → Int} {N c j p : Int} {f : Int → RD} {l : List Int} : ∀ {n : Nat}, lpF T N c j f n (false, p, l) = (false, p, l)
  | 0 => rfl
  | n + 1 => by rw [lpF]; exact if_neg (fun z => ff_t z.1)
theorem tr_j {j : Int} (h : j < 0) : trC j = j := if_pos h
theorem sE_j {a j : Int} {s : Int → Int} {l l2 : List Int} (h : j < 0) : emF a (sE a (sE a s (l.map trC)) (l2.map trC)) j = sE a s ((l ++ l2 ++ [j]).map trC) := by
  rw [List.map_append, List.map_append, sE_app, sE_app]
  show _ = emF a (sE a (sE a s (l.map trC)) (l2.map trC)) (trC j)
  rw [tr_j h]
theorem sE_2 {a : Int} {s : Int → Int} {l l2 : List Int} : sE a (sE a s (l.map trC)) (l2.map trC) = sE a s ((l ++ l2).map trC) := by
  rw [List.map_append, sE_app]
section R4
variable {G : MG} {h0 : MH} {T : Int → Int}
variable {m : Nat} {f0 f4 f5 f6 f7 f8 f9 f12 f13 f14 f17 f18 f20 f21 f22 f23 : Int}
variable {o : Int}
theorem m_fac_w {d : Nat} {Q : KQ} {p : Int} {s : Int → Int} : wpC G (d + 1) 150 [vR m] (mP m h0 (mO m f0 f4 f5 p f7 1 o f12 f13 f14 f17 f18 f20 f21 f22 f23) s) Q = Q none (mP m h0 (mO m f0 f4 f5 p f7 1 o f12 f13 f14 f17 f18 f20 f21 f22 f23) s) := by
  rw [e150]
  simp (disch := omega) only [KK, Int.reduceEq, not_false_iff, ↓reduceIte, ↓if_pos, ↓if_neg, xt_o, true_and, nlO_i, nlO_n, nlO_r, List.length_nil, List.length_cons, Nat.reduceAdd, Nat.reduceLeDiff, Nat.zero_le, U150, mP_m, mP_s, GX13]

theorem m_every_x {d : Nat} {Q : KQ} {p : Int} {s : Int → Int} : wp G d 149 4 [some (vR m)] [] (mP m h0 (mO m f0 f4 f5 p f7 1 o f12 f13 f14 f17 f18 f20 f21 f22 f23) s) Q = Q none (mP m h0 (mO m f0 f4 f5 p f7 1 o f12 f13 f14 f17 f18 f20 f21 f22 f23) s) := by
  rw [u149_4]
  simp (disch := omega) only [KK, Int.reduceEq, not_false_iff, ↓reduceIte, ↓if_pos, ↓if_neg, xt_o, true_and, nlO_i, nlO_n, nlO_r, List.length_nil, List.length_cons, Nat.reduceAdd, Nat.reduceLeDiff, Nat.zero_le, U149, mP_m, mP_s, GX13]
theorem m_every_w {d : Nat} {Q : KQ} {p : Int} {s : Int → Int} : wpC G (d + 2) 149 [vR m] (mP m h0 (mO m f0 f4 f5 p f7 1 o f12 f13 f14 f17 f18 f20 f21 f22 f23) s) Q = Q none (mP m h0 (mO m f0 f4 f5 p f7 1 o f12 f13 f14 f17 f18 f20 f21 f22 f23) s) := by
  have hf := fun (K : KQ) => m_fac_w (G := G) (d := d) (Q := K) (p := p) (s := s) (h0 := h0) (m := m) (f0 := f0) (f4 := f4) (f5 := f5) (f7 := f7) (f12 := f12) (f13 := f13) (f14 := f14) (f17 := f17) (f18 := f18) (f20 := f20) (f21 := f21) (f22 := f22) (f23 := f23) (o := o)
  rw [e149]
  simp (disch := omega) only [KK, Int.reduceEq, not_false_iff, ↓reduceIte, ↓if_pos, ↓if_neg, xt_o, true_and, nlO_i, nlO_n, nlO_r, List.length_nil, List.length_cons, Nat.reduceAdd, Nat.reduceLeDiff, Nat.zero_le, U149, hf, mP_m, VS13, m_every_x]
theorem m_every_l {D : Nat} {D0 : Nat} {f : Int → RD} (hN : f7 ≤ 100) (h5 : 0 ≤ f5 ∧ f5 ≤ 4) (hg : ∀ p, 0 ≤ p → p ≤ f7 → gR f7 D0 p (f p)) (hF : ∀ (p : Int) (s : Int → Int), 0 ≤ p → p ≤ f7 → 0 ≤ s (232 + f5) → s (232 + f5) ≤ p → sT s T → ∀ Q : KQ, wpC G (D + 6) 150 [vR m] (mP m h0 (mO m f0 f4 f5 p f7 0 o f12 f13 f14 f17 f18 f20 f21 f22 f23) s) Q = Q none (mP m h0 (mO m f0 f4 f5 ((f p).2.1) f7 (wB (f p).1) o f12 f13 f14 f17 f18 f20 f21 f22 f23) (sE f5 s ((f p).2.2.map trC)))) {s : Int → Int} (hn : 0 ≤ s (232 + f5)) (hT : sT s T) : ∀ (n : Nat) (p : Int) (l : List Int), 0 ≤ p → p ≤ f7 → f7 ≤ p + n → s (232 + f5) + l.length ≤ p → ∀ Q : KQ, wp G (D + 6) 149 4 [some (vR m)] [] (mP m h0 (mO m f0 f4 f5 p f7 0 o f12 f13 f14 f17 f18 f20 f21 f22 f23) (sE f5 s (l.map trC))) Q = Q none (mP m h0 (mO m f0 f4 f5 ((lpF T f7 38 (-2) f n (true, p, l)).2.1) f7 (wB (lpF T f7 38 (-2) f n (true, p, l)).1) o f12 f13 f14 f17 f18 f20 f21 f22 f23) (sE f5 s ((lpF T f7 38 (-2) f n (true, p, l)).2.2.map trC))) := by
  intro n
  induction n with
  | zero =>
    intro p l p0 p1 pn pl Q
    have hT' := sT_sE h5 (l.map trC) s hn hT
    have hh := fun (K : KQ) => m_here (G := G) (d := D + 5) (Q := K) (h0 := h0) (m := m) (f0 := f0) (f4 := f4) (f5 := f5) (f7 := f7) (f12 := f12) (f13 := f13) (f14 := f14) (f17 := f17) (f18 := f18) (f20 := f20) (f21 := f21) (f22 := f22) (f23 := f23) (w := 0) (o := o) hT' p0 hN
    have e : hrF T f7 p = -1 := if_neg (by omega)
    rw [e] at hh
    rw [lpF, u149_4]
    simp (disch := omega) only [KK, Int.reduceEq, not_false_iff, ↓reduceIte, ↓if_pos, ↓if_neg, xt_o, true_and, nlO_i, nlO_n, nlO_r, List.length_nil, List.length_cons, Nat.reduceAdd, Nat.reduceLeDiff, Nat.zero_le, U149, mP_m, hh, GX13, VS13, wB_t]
  | succ n ih =>
    intro p l p0 p1 pn pl Q
    have hT' := sT_sE h5 (l.map trC) s hn hT
    have hn' := sE_n (a := f5) (l.map trC) s
    rw [List.length_map] at hn'
    have hh := fun (K : KQ) => m_here (G := G) (d := D + 5) (Q := K) (h0 := h0) (m := m) (f0 := f0) (f4 := f4) (f5 := f5) (f7 := f7) (f12 := f12) (f13 := f13) (f14 := f14) (f17 := f17) (f18 := f18) (f20 := f20) (f21 := f21) (f22 := f22) (f23 := f23) (w := 0) (o := o) hT' p0 hN
    rw [lpF_s]
    by_cases q : hrF T f7 p = 38
    · have lt := hr_lt (T := T) (N := f7) (p := p) (by omega)
      have hf := hF (p + 1) (sE f5 s (l.map trC)) (by omega) (by omega) (by omega) (by omega) hT'
      obtain ⟨⟨b1, b2⟩, b3, -, -⟩ := hg (p + 1) (by omega) (by omega)
      rw [if_pos q]
      by_cases q2 : (f (p + 1)).1 = true
      · rw [q2] at hf
        have hn2 := sE_n (a := f5) ((f (p + 1)).2.2.map trC) (sE f5 s (l.map trC))
        rw [List.length_map, hn'] at hn2
        have he := fun (K : KQ) => m_emits0 (G := G) (d := D + 5) (Q := K) (h0 := h0) (m := m) (f0 := f0) (f4 := f4) (f5 := f5) (f7 := f7) (f12 := f12) (f13 := f13) (f14 := f14) (f17 := f17) (f18 := f18) (f20 := f20) (f21 := f21) (f22 := f22) (f23 := f23) (p := (f (p + 1)).2.1) (s := sE f5 (sE f5 s (l.map trC)) ((f (p + 1)).2.2.map trC)) (o := o) (x := -2) h5 ⟨by omega, by omega⟩
        have ih' := ih (f (p + 1)).2.1 (l ++ (f (p + 1)).2.2 ++ [-2]) (by omega) b2 (by omega) (by rw [List.length_append, List.length_append, List.length_singleton]; omega) Q
        rw [if_pos q2, ← ih', ← sE_j (by decide), u149_4]
        simp (disch := omega) only [KK, Int.reduceEq, not_false_iff, ↓reduceIte, ↓if_pos, ↓if_neg, xt_o, true_and, nlO_i, nlO_n, nlO_r, List.length_nil, List.length_cons, Nat.reduceAdd, Nat.reduceLeDiff, Nat.zero_le, U149, mP_m, mP_hm, hh, q, hf, he, wB_t, GX13, PX13, VS13, ar_add]
      · have q3 : (f (p + 1)).1 = false := Bool.eq_false_iff.mpr q2
        rw [q3] at hf
        have he := fun (K : KQ) => m_emits1 (G := G) (d := D + 5) (Q := K) (h0 := h0) (m := m) (f0 := f0) (f4 := f4) (f5 := f5) (f7 := f7) (f12 := f12) (f13 := f13) (f14 := f14) (f17 := f17) (f18 := f18) (f20 := f20) (f21 := f21) (f22 := f22) (f23 := f23) (p := (f (p + 1)).2.1) (s := sE f5 (sE f5 s (l.map trC)) ((f (p + 1)).2.2.map trC)) (o := o) (x := -2)
        rw [if_neg q2, ← sE_2, u149_4]
        simp (disch := omega) only [KK, Int.reduceEq, not_false_iff, ↓reduceIte, ↓if_pos, ↓if_neg, xt_o, true_and, nlO_i, nlO_n, nlO_r, List.length_nil, List.length_cons, Nat.reduceAdd, Nat.reduceLeDiff, Nat.zero_le, U149, mP_m, mP_hm, hh, q, hf, he, wB_f, m_every_x, GX13, PX13, VS13, ar_add]
    · rw [if_neg q, u149_4]
      simp (disch := omega) only [KK, Int.reduceEq, not_false_iff, ↓reduceIte, ↓if_pos, ↓if_neg, xt_o, true_and, nlO_i, nlO_n, nlO_r, List.length_nil, List.length_cons, Nat.reduceAdd, Nat.reduceLeDiff, Nat.zero_le, U149, mP_m, hh, q, GX13, VS13, wB_t]
theorem m_every {D : Nat} {D0 : Nat} {f : Int → RD} (hN : f7 ≤ 100) (h5 : 0 ≤ f5 ∧ f5 ≤ 4) (hg : ∀ p, 0 ≤ p → p ≤ f7 → gR f7 D0 p (f p)) (hF : ∀ (p : Int) (s : Int → Int), 0 ≤ p → p ≤ f7 → 0 ≤ s (232 + f5) → s (232 + f5) ≤ p → sT s T → ∀ Q : KQ, wpC G (D + 6) 150 [vR m] (mP m h0 (mO m f0 f4 f5 p f7 0 o f12 f13 f14 f17 f18 f20 f21 f22 f23) s) Q = Q none (mP m h0 (mO m f0 f4 f5 ((f p).2.1) f7 (wB (f p).1) o f12 f13 f14 f17 f18 f20 f21 f22 f23) (sE f5 s ((f p).2.2.map trC)))) (p : Int) (s : Int → Int) (p0 : 0 ≤ p) (p1 : p ≤ f7) (hn : 0 ≤ s (232 + f5)) (hn2 : s (232 + f5) ≤ p) (hT : sT s T) (Q : KQ) : wpC G (D + 7) 149 [vR m] (mP m h0 (mO m f0 f4 f5 p f7 0 o f12 f13 f14 f17 f18 f20 f21 f22 f23) s) Q = Q none (mP m h0 (mO m f0 f4 f5 ((lpF T f7 38 (-2) f 100 (f p)).2.1) f7 (wB (lpF T f7 38 (-2) f 100 (f p)).1) o f12 f13 f14 f17 f18 f20 f21 f22 f23) (sE f5 s ((lpF T f7 38 (-2) f 100 (f p)).2.2.map trC))) := by
  have hf := hF p s p0 p1 hn hn2 hT
  have hl := m_every_l (G := G) (h0 := h0) (m := m) (f0 := f0) (f4 := f4) (f5 := f5) (f7 := f7) (f12 := f12) (f13 := f13) (f14 := f14) (f17 := f17) (f18 := f18) (f20 := f20) (f21 := f21) (f22 := f22) (f23 := f23) (o := o) hN h5 hg hF hn hT 100 (f p).2.1 (f p).2.2
  obtain ⟨⟨b1, b2⟩, b3, -, -⟩ := hg p p0 p1
  have hl := hl (by omega) b2 (by omega) (by omega) Q
  generalize f p = r at hf hl b1 b2 b3 ⊢
  obtain ⟨b, q, l⟩ := r
  rw [e149]
  cases b with
  | true =>
    rw [← hl]
    simp (disch := omega) only [KK, Int.reduceEq, not_false_iff, ↓reduceIte, ↓if_pos, ↓if_neg, xt_o, true_and, nlO_i, nlO_n, nlO_r, List.length_nil, List.length_cons, Nat.reduceAdd, Nat.reduceLeDiff, Nat.zero_le, U149, mP_m, hf, VS13, wB_t]
  | false =>
    rw [lpF_f]
    simp (disch := omega) only [KK, Int.reduceEq, not_false_iff, ↓reduceIte, ↓if_pos, ↓if_neg, xt_o, true_and, nlO_i, nlO_n, nlO_r, List.length_nil, List.length_cons, Nat.reduceAdd, Nat.reduceLeDiff, Nat.zero_le, U149, mP_m, hf, VS13, wB_f, m_every_x]

theorem m_some_x {d : Nat} {Q : KQ} {p : Int} {s : Int → Int} : wp G d 148 4 [some (vR m)] [] (mP m h0 (mO m f0 f4 f5 p f7 1 o f12 f13 f14 f17 f18 f20 f21 f22 f23) s) Q = Q none (mP m h0 (mO m f0 f4 f5 p f7 1 o f12 f13 f14 f17 f18 f20 f21 f22 f23) s) := by
  rw [u148_4]
  simp (disch := omega) only [KK, Int.reduceEq, not_false_iff, ↓reduceIte, ↓if_pos, ↓if_neg, xt_o, true_and, nlO_i, nlO_n, nlO_r, List.length_nil, List.length_cons, Nat.reduceAdd, Nat.reduceLeDiff, Nat.zero_le, U148, mP_m, mP_s, GX13]
theorem m_some_w {d : Nat} {Q : KQ} {p : Int} {s : Int → Int} : wpC G (d + 3) 148 [vR m] (mP m h0 (mO m f0 f4 f5 p f7 1 o f12 f13 f14 f17 f18 f20 f21 f22 f23) s) Q = Q none (mP m h0 (mO m f0 f4 f5 p f7 1 o f12 f13 f14 f17 f18 f20 f21 f22 f23) s) := by
  have hf := fun (K : KQ) => m_every_w (G := G) (d := d) (Q := K) (p := p) (s := s) (h0 := h0) (m := m) (f0 := f0) (f4 := f4) (f5 := f5) (f7 := f7) (f12 := f12) (f13 := f13) (f14 := f14) (f17 := f17) (f18 := f18) (f20 := f20) (f21 := f21) (f22 := f22) (f23 := f23) (o := o)
  rw [e148]
  simp (disch := omega) only [KK, Int.reduceEq, not_false_iff, ↓reduceIte, ↓if_pos, ↓if_neg, xt_o, true_and, nlO_i, nlO_n, nlO_r, List.length_nil, List.length_cons, Nat.reduceAdd, Nat.reduceLeDiff, Nat.zero_le, U148, hf, mP_m, VS13, m_some_x]
theorem m_some_l {D : Nat} {D0 : Nat} {f : Int → RD} (hN : f7 ≤ 100) (h5 : 0 ≤ f5 ∧ f5 ≤ 4) (hg : ∀ p, 0 ≤ p → p ≤ f7 → gR f7 D0 p (f p)) (hF : ∀ (p : Int) (s : Int → Int), 0 ≤ p → p ≤ f7 → 0 ≤ s (232 + f5) → s (232 + f5) ≤ p → sT s T → ∀ Q : KQ, wpC G (D + 6) 149 [vR m] (mP m h0 (mO m f0 f4 f5 p f7 0 o f12 f13 f14 f17 f18 f20 f21 f22 f23) s) Q = Q none (mP m h0 (mO m f0 f4 f5 ((f p).2.1) f7 (wB (f p).1) o f12 f13 f14 f17 f18 f20 f21 f22 f23) (sE f5 s ((f p).2.2.map trC)))) {s : Int → Int} (hn : 0 ≤ s (232 + f5)) (hT : sT s T) : ∀ (n : Nat) (p : Int) (l : List Int), 0 ≤ p → p ≤ f7 → f7 ≤ p + n → s (232 + f5) + l.length ≤ p → ∀ Q : KQ, wp G (D + 6) 148 4 [some (vR m)] [] (mP m h0 (mO m f0 f4 f5 p f7 0 o f12 f13 f14 f17 f18 f20 f21 f22 f23) (sE f5 s (l.map trC))) Q = Q none (mP m h0 (mO m f0 f4 f5 ((lpF T f7 124 (-3) f n (true, p, l)).2.1) f7 (wB (lpF T f7 124 (-3) f n (true, p, l)).1) o f12 f13 f14 f17 f18 f20 f21 f22 f23) (sE f5 s ((lpF T f7 124 (-3) f n (true, p, l)).2.2.map trC))) := by
  intro n
  induction n with
  | zero =>
    intro p l p0 p1 pn pl Q
    have hT' := sT_sE h5 (l.map trC) s hn hT
    have hh := fun (K : KQ) => m_here (G := G) (d := D + 5) (Q := K) (h0 := h0) (m := m) (f0 := f0) (f4 := f4) (f5 := f5) (f7 := f7) (f12 := f12) (f13 := f13) (f14 := f14) (f17 := f17) (f18 := f18) (f20 := f20) (f21 := f21) (f22 := f22) (f23 := f23) (w := 0) (o := o) hT' p0 hN
    have e : hrF T f7 p = -1 := if_neg (by omega)
    rw [e] at hh
    rw [lpF, u148_4]
    simp (disch := omega) only [KK, Int.reduceEq, not_false_iff, ↓reduceIte, ↓if_pos, ↓if_neg, xt_o, true_and, nlO_i, nlO_n, nlO_r, List.length_nil, List.length_cons, Nat.reduceAdd, Nat.reduceLeDiff, Nat.zero_le, U148, mP_m, hh, GX13, VS13, wB_t]
  | succ n ih =>
    intro p l p0 p1 pn pl Q
    have hT' := sT_sE h5 (l.map trC) s hn hT
    have hn' := sE_n (a := f5) (l.map trC) s
    rw [List.length_map] at hn'
    have hh := fun (K : KQ) => m_here (G := G) (d := D + 5) (Q := K) (h0 := h0) (m := m) (f0 := f0) (f4 := f4) (f5 := f5) (f7 := f7) (f12 := f12) (f13 := f13) (f14 := f14) (f17 := f17) (f18 := f18) (f20 := f20) (f21 := f21) (f22 := f22) (f23 := f23) (w := 0) (o := o) hT' p0 hN
    rw [lpF_s]
    by_cases q : hrF T f7 p = 124
    · have lt := hr_lt (T := T) (N := f7) (p := p) (by omega)
      have hf := hF (p + 1) (sE f5 s (l.map trC)) (by omega) (by omega) (by omega) (by omega) hT'
      obtain ⟨⟨b1, b2⟩, b3, -, -⟩ := hg (p + 1) (by omega) (by omega)
      rw [if_pos q]
      by_cases q2 : (f (p + 1)).1 = true
      · rw [q2] at hf
        have hn2 := sE_n (a := f5) ((f (p + 1)).2.2.map trC) (sE f5 s (l.map trC))
        rw [List.length_map, hn'] at hn2
        have he := fun (K : KQ) => m_emits0 (G := G) (d := D + 5) (Q := K) (h0 := h0) (m := m) (f0 := f0) (f4 := f4) (f5 := f5) (f7 := f7) (f12 := f12) (f13 := f13) (f14 := f14) (f17 := f17) (f18 := f18) (f20 := f20) (f21 := f21) (f22 := f22) (f23 := f23) (p := (f (p + 1)).2.1) (s := sE f5 (sE f5 s (l.map trC)) ((f (p + 1)).2.2.map trC)) (o := o) (x := -3) h5 ⟨by omega, by omega⟩
        have ih' := ih (f (p + 1)).2.1 (l ++ (f (p + 1)).2.2 ++ [-3]) (by omega) b2 (by omega) (by rw [List.length_append, List.length_append, List.length_singleton]; omega) Q
        rw [if_pos q2, ← ih', ← sE_j (by decide), u148_4]
        simp (disch := omega) only [KK, Int.reduceEq, not_false_iff, ↓reduceIte, ↓if_pos, ↓if_neg, xt_o, true_and, nlO_i, nlO_n, nlO_r, List.length_nil, List.length_cons, Nat.reduceAdd, Nat.reduceLeDiff, Nat.zero_le, U148, mP_m, mP_hm, hh, q, hf, he, wB_t, GX13, PX13, VS13, ar_add]
      · have q3 : (f (p + 1)).1 = false := Bool.eq_false_iff.mpr q2
        rw [q3] at hf
        have he := fun (K : KQ) => m_emits1 (G := G) (d := D + 5) (Q := K) (h0 := h0) (m := m) (f0 := f0) (f4 := f4) (f5 := f5) (f7 := f7) (f12 := f12) (f13 := f13) (f14 := f14) (f17 := f17) (f18 := f18) (f20 := f20) (f21 := f21) (f22 := f22) (f23 := f23) (p := (f (p + 1)).2.1) (s := sE f5 (sE f5 s (l.map trC)) ((f (p + 1)).2.2.map trC)) (o := o) (x := -3)
        rw [if_neg q2, ← sE_2, u148_4]
        simp (disch := omega) only [KK, Int.reduceEq, not_false_iff, ↓reduceIte, ↓if_pos, ↓if_neg, xt_o, true_and, nlO_i, nlO_n, nlO_r, List.length_nil, List.length_cons, Nat.reduceAdd, Nat.reduceLeDiff, Nat.zero_le, U148, mP_m, mP_hm, hh, q, hf, he, wB_f, m_some_x, GX13, PX13, VS13, ar_add]
    · rw [if_neg q, u148_4]
      simp (disch := omega) only [KK, Int.reduceEq, not_false_iff, ↓reduceIte, ↓if_pos, ↓if_neg, xt_o, true_and, nlO_i, nlO_n, nlO_r, List.length_nil, List.length_cons, Nat.reduceAdd, Nat.reduceLeDiff, Nat.zero_le, U148, mP_m, hh, q, GX13, VS13, wB_t]
theorem m_some {D : Nat} {D0 : Nat} {f : Int → RD} (hN : f7 ≤ 100) (h5 : 0 ≤ f5 ∧ f5 ≤ 4) (hg : ∀ p, 0 ≤ p → p ≤ f7 → gR f7 D0 p (f p)) (hF : ∀ (p : Int) (s : Int → Int), 0 ≤ p → p ≤ f7 → 0 ≤ s (232 + f5) → s (232 + f5) ≤ p → sT s T → ∀ Q : KQ, wpC G (D + 6) 149 [vR m] (mP m h0 (mO m f0 f4 f5 p f7 0 o f12 f13 f14 f17 f18 f20 f21 f22 f23) s) Q = Q none (mP m h0 (mO m f0 f4 f5 ((f p).2.1) f7 (wB (f p).1) o f12 f13 f14 f17 f18 f20 f21 f22 f23) (sE f5 s ((f p).2.2.map trC)))) (p : Int) (s : Int → Int) (p0 : 0 ≤ p) (p1 : p ≤ f7) (hn : 0 ≤ s (232 + f5)) (hn2 : s (232 + f5) ≤ p) (hT : sT s T) (Q : KQ) : wpC G (D + 7) 148 [vR m] (mP m h0 (mO m f0 f4 f5 p f7 0 o f12 f13 f14 f17 f18 f20 f21 f22 f23) s) Q = Q none (mP m h0 (mO m f0 f4 f5 ((lpF T f7 124 (-3) f 100 (f p)).2.1) f7 (wB (lpF T f7 124 (-3) f 100 (f p)).1) o f12 f13 f14 f17 f18 f20 f21 f22 f23) (sE f5 s ((lpF T f7 124 (-3) f 100 (f p)).2.2.map trC))) := by
  have hf := hF p s p0 p1 hn hn2 hT
  have hl := m_some_l (G := G) (h0 := h0) (m := m) (f0 := f0) (f4 := f4) (f5 := f5) (f7 := f7) (f12 := f12) (f13 := f13) (f14 := f14) (f17 := f17) (f18 := f18) (f20 := f20) (f21 := f21) (f22 := f22) (f23 := f23) (o := o) hN h5 hg hF hn hT 100 (f p).2.1 (f p).2.2
  obtain ⟨⟨b1, b2⟩, b3, -, -⟩ := hg p p0 p1
  have hl := hl (by omega) b2 (by omega) (by omega) Q
  generalize f p = r at hf hl b1 b2 b3 ⊢
  obtain ⟨b, q, l⟩ := r
  rw [e148]
  cases b with
  | true =>
    rw [← hl]
    simp (disch := omega) only [KK, Int.reduceEq, not_false_iff, ↓reduceIte, ↓if_pos, ↓if_neg, xt_o, true_and, nlO_i, nlO_n, nlO_r, List.length_nil, List.length_cons, Nat.reduceAdd, Nat.reduceLeDiff, Nat.zero_le, U148, mP_m, hf, VS13, wB_t]
  | false =>
    rw [lpF_f]
    simp (disch := omega) only [KK, Int.reduceEq, not_false_iff, ↓reduceIte, ↓if_pos, ↓if_neg, xt_o, true_and, nlO_i, nlO_n, nlO_r, List.length_nil, List.length_cons, Nat.reduceAdd, Nat.reduceLeDiff, Nat.zero_le, U148, mP_m, hf, VS13, wB_f, m_some_x]
end R4
