/-! the class reads what a clause asks -/
theorem kE_2 {C : Int → Int} {n : Int} {l l2 : List Int} : kE (kE C n l) (n + l.length) l2 = kE C n (l ++ l2) := (kE_app _ _ _ _).symm
theorem kE_j {C : Int → Int} {n j : Int} {l l2 : List Int} : up (kE (kE C n l) (n + l.length) l2) (n + l.length + l2.length) j = kE C n (l ++ l2 ++ [j]) := by
  rw [kE_app, kE_2, List.length_append, show n + ((l.length + l2.length : Nat) : Int) = n + l.length + l2.length by omega]
  rfl
theorem le_2 {n : Int} {l l2 : List Int} : n + (l.length : Int) + l2.length = n + ((l ++ l2).length : Nat) := by
  rw [List.length_append]; omega
theorem le_3 {n j : Int} {l l2 : List Int} : n + (l.length : Int) + l2.length + 1 = n + ((l ++ l2 ++ [j]).length : Nat) := by
  rw [List.length_append, List.length_append, List.length_singleton]; omega
section R9
variable {G : MG} {h0 : MH} {T : Int → Int} {v nt : Nat} {sn nv : Int} {S E : Int → Int} {f : Nat → Int} {o : Int}
theorem c_both_l {D D0 : Nat} {g : Int → RD} (hN : nt ≤ 100) (hx : h0.2.2 (v + 1) = some (cArr 0 nt f)) (hf : ∀ i : Nat, i < nt → f i = T i) (hg : ∀ p, 0 ≤ p → p ≤ (nt : Int) → gR nt D0 p (g p)) (hF : ∀ (p cs : Int) (C : Int → Int), 0 ≤ p → p ≤ (nt : Int) → 0 ≤ cs → cs ≤ p → ∀ Q : KQ, wpC G (D + 6) 79 [vR v, vI o] (vP v nt h0 p cs sn nv C S E) Q = Q (some (vI (bI (g p).1))) (vP v nt h0 ((g p).2.1) (cs + (g p).2.2.length) sn nv (kE C cs (g p).2.2) S E)) {cs : Int} {C : Int → Int} (c0 : 0 ≤ cs) : ∀ (n : Nat) (p : Int) (l : List Int), n ≤ 100 → 0 ≤ p → p ≤ (nt : Int) → cs + l.length ≤ p → ∀ Q : KQ, wp G (D + 6) 78 8 [some (vR v), some (vI o), some (vI 1), some (vI (100 - (n : Int)))] [] (vP v nt h0 p (cs + l.length) sn nv (kE C cs l) S E) Q = Q (some (vI (bI (lpF T nt 38 (-2) g n (true, p, l)).1))) (vP v nt h0 ((lpF T nt 38 (-2) g n (true, p, l)).2.1) (cs + (lpF T nt 38 (-2) g n (true, p, l)).2.2.length) sn nv (kE C cs (lpF T nt 38 (-2) g n (true, p, l)).2.2) S E) := by
  intro n
  induction n with
  | zero =>
    intro p l _ p0 p1 pl Q
    rw [lpF, u78_8, show (100 - ((0 : Nat) : Int) : Int) = 100 by omega]
    simp (disch := omega) only [KK, Int.reduceEq, not_false_iff, ↓reduceIte, ↓if_pos, ↓if_neg, xt_o, true_and, nlO_i, nlO_n, nlO_r, List.length_nil, List.length_cons, Nat.reduceAdd, Nat.reduceLeDiff, Nat.zero_le, U78, Int.reduceLE, bI_t, true_or, or_true]
  | succ n ih =>
    intro p l hn p0 p1 pl Q
    have hh := fun (K : KQ) => c_here (G := G) (d := D + 5) (Q := K) (h0 := h0) (v := v) (nt := nt) (sn := sn) (nv := nv) (S := S) (E := E) (cs := cs + l.length) (C := kE C cs l) hx hf p0
    have en : ¬ 100 ≤ 100 - ((n + 1 : Nat) : Int) := by omega
    have e10 : (100 - ((n + 1 : Nat) : Int) + 1 : Int) = 100 - (n : Int) := by omega
    rw [lpF_s]
    by_cases q : hrF T nt p = 38
    · have lt := hr_lt (T := T) (N := nt) (p := p) (by omega)
      have hf' := hF (p + 1) (cs + l.length) (kE C cs l) (by omega) (by omega) (by omega) (by omega)
      obtain ⟨⟨b1, b2⟩, b3, -, -⟩ := hg (p + 1) (by omega) (by omega)
      rw [if_pos q]
      by_cases q2 : (g (p + 1)).1 = true
      · rw [q2] at hf'
        have he := fun (K : KQ) => c_vput (G := G) (d := D + 5) (Q := K) (h0 := h0) (v := v) (nt := nt) (sn := sn) (nv := nv) (S := S) (E := E) (p := (g (p + 1)).2.1) (cs := cs + l.length + (g (p + 1)).2.2.length) (C := kE (kE C cs l) (cs + l.length) (g (p + 1)).2.2) (x := -2) ⟨by omega, by omega⟩ hN
        have ih' := ih (g (p + 1)).2.1 (l ++ (g (p + 1)).2.2 ++ [-2]) (by omega) (by omega) b2 (by rw [← le_3]; omega) Q
        rw [if_pos q2, ← ih', ← kE_j, ← le_3, u78_8]
        simp (disch := omega) only [KK, Int.reduceEq, not_false_iff, ↓reduceIte, ↓if_pos, ↓if_neg, xt_o, true_and, nlO_i, nlO_n, nlO_r, List.length_nil, List.length_cons, Nat.reduceAdd, Nat.reduceLeDiff, Nat.zero_le, U78, vP_v, vP_hv, hh, q, hf', he, bI_t, en, e10, GX10, PX10, VS10, ar_add, true_or, or_true]
      · have q3 : (g (p + 1)).1 = false := Bool.eq_false_iff.mpr q2
        rw [q3] at hf'
        rw [if_neg q2, ← kE_2, ← le_2, u78_8]
        simp (disch := omega) only [KK, Int.reduceEq, not_false_iff, ↓reduceIte, ↓if_pos, ↓if_neg, xt_o, true_and, nlO_i, nlO_n, nlO_r, List.length_nil, List.length_cons, Nat.reduceAdd, Nat.reduceLeDiff, Nat.zero_le, U78, vP_v, vP_hv, hh, q, hf', bI_f, en, e10, GX10, PX10, VS10, ar_add, true_or, or_true]
        rw [u78_8]
        by_cases en2 : 100 ≤ 100 - (n : Int)
        · simp (disch := omega) only [KK, Int.reduceEq, not_false_iff, ↓reduceIte, ↓if_pos, ↓if_neg, xt_o, true_and, nlO_i, nlO_n, nlO_r, List.length_nil, List.length_cons, Nat.reduceAdd, Nat.reduceLeDiff, Nat.zero_le, U78, en2, true_or, or_true]
        · simp (disch := omega) only [KK, Int.reduceEq, not_false_iff, ↓reduceIte, ↓if_pos, ↓if_neg, xt_o, true_and, nlO_i, nlO_n, nlO_r, List.length_nil, List.length_cons, Nat.reduceAdd, Nat.reduceLeDiff, Nat.zero_le, U78, en2, true_or, or_true]
    · rw [if_neg q, u78_8]
      simp (disch := omega) only [KK, Int.reduceEq, not_false_iff, ↓reduceIte, ↓if_pos, ↓if_neg, xt_o, true_and, nlO_i, nlO_n, nlO_r, List.length_nil, List.length_cons, Nat.reduceAdd, Nat.reduceLeDiff, Nat.zero_le, U78, vP_v, hh, q, en, bI_t, VS10, true_or, or_true]
theorem c_both {D D0 : Nat} {g : Int → RD} (hN : nt ≤ 100) (hx : h0.2.2 (v + 1) = some (cArr 0 nt f)) (hf : ∀ i : Nat, i < nt → f i = T i) (hg : ∀ p, 0 ≤ p → p ≤ (nt : Int) → gR nt D0 p (g p)) (hF : ∀ (p cs : Int) (C : Int → Int), 0 ≤ p → p ≤ (nt : Int) → 0 ≤ cs → cs ≤ p → ∀ Q : KQ, wpC G (D + 6) 79 [vR v, vI o] (vP v nt h0 p cs sn nv C S E) Q = Q (some (vI (bI (g p).1))) (vP v nt h0 ((g p).2.1) (cs + (g p).2.2.length) sn nv (kE C cs (g p).2.2) S E)) (p cs : Int) (C : Int → Int) (p0 : 0 ≤ p) (p1 : p ≤ (nt : Int)) (c0 : 0 ≤ cs) (c1 : cs ≤ p) (Q : KQ) : wpC G (D + 7) 78 [vR v, vI o] (vP v nt h0 p cs sn nv C S E) Q = Q (some (vI (bI (lpF T nt 38 (-2) g 100 (g p)).1))) (vP v nt h0 ((lpF T nt 38 (-2) g 100 (g p)).2.1) (cs + (lpF T nt 38 (-2) g 100 (g p)).2.2.length) sn nv (kE C cs (lpF T nt 38 (-2) g 100 (g p)).2.2) S E) := by
  have hf' := hF p cs C p0 p1 c0 c1
  have hl := c_both_l (G := G) (h0 := h0) (v := v) (nt := nt) (sn := sn) (nv := nv) (S := S) (E := E) (o := o) hN hx hf hg hF (C := C) c0 100 (g p).2.1 (g p).2.2 (Nat.le_refl _)
  obtain ⟨⟨b1, b2⟩, b3, -, -⟩ := hg p p0 p1
  have hl := hl (by omega) b2 (by omega) Q
  rw [show (100 - ((100 : Nat) : Int) : Int) = 0 by omega] at hl
  generalize g p = r at hf' hl b1 b2 b3 ⊢
  obtain ⟨b, q, l⟩ := r
  rw [e78]
  cases b with
  | true =>
    refine Eq.trans ?_ hl
    simp (disch := omega) only [KK, Int.reduceEq, not_false_iff, ↓reduceIte, ↓if_pos, ↓if_neg, xt_o, true_and, nlO_i, nlO_n, nlO_r, List.length_nil, List.length_cons, Nat.reduceAdd, Nat.reduceLeDiff, Nat.zero_le, U78, vP_v, hf', VS10, bI_t]
  | false =>
    rw [lpF_f]
    simp (disch := omega) only [KK, Int.reduceEq, not_false_iff, ↓reduceIte, ↓if_pos, ↓if_neg, xt_o, true_and, nlO_i, nlO_n, nlO_r, List.length_nil, List.length_cons, Nat.reduceAdd, Nat.reduceLeDiff, Nat.zero_le, U78, vP_v, hf', VS10, bI_f]
    rw [u78_8]
    simp (disch := omega) only [KK, Int.reduceEq, not_false_iff, ↓reduceIte, ↓if_pos, ↓if_neg, xt_o, true_and, nlO_i, nlO_n, nlO_r, List.length_nil, List.length_cons, Nat.reduceAdd, Nat.reduceLeDiff, Nat.zero_le, U78, Int.reduceLE, true_or, or_true]
theorem c_either_l {D D0 : Nat} {g : Int → RD} (hN : nt ≤ 100) (hx : h0.2.2 (v + 1) = some (cArr 0 nt f)) (hf : ∀ i : Nat, i < nt → f i = T i) (hg : ∀ p, 0 ≤ p → p ≤ (nt : Int) → gR nt D0 p (g p)) (hF : ∀ (p cs : Int) (C : Int → Int), 0 ≤ p → p ≤ (nt : Int) → 0 ≤ cs → cs ≤ p → ∀ Q : KQ, wpC G (D + 6) 78 [vR v, vI o] (vP v nt h0 p cs sn nv C S E) Q = Q (some (vI (bI (g p).1))) (vP v nt h0 ((g p).2.1) (cs + (g p).2.2.length) sn nv (kE C cs (g p).2.2) S E)) {cs : Int} {C : Int → Int} (c0 : 0 ≤ cs) : ∀ (n : Nat) (p : Int) (l : List Int), n ≤ 100 → 0 ≤ p → p ≤ (nt : Int) → cs + l.length ≤ p → ∀ Q : KQ, wp G (D + 6) 77 8 [some (vR v), some (vI o), some (vI 1), some (vI (100 - (n : Int)))] [] (vP v nt h0 p (cs + l.length) sn nv (kE C cs l) S E) Q = Q (some (vI (bI (lpF T nt 124 (-3) g n (true, p, l)).1))) (vP v nt h0 ((lpF T nt 124 (-3) g n (true, p, l)).2.1) (cs + (lpF T nt 124 (-3) g n (true, p, l)).2.2.length) sn nv (kE C cs (lpF T nt 124 (-3) g n (true, p, l)).2.2) S E) := by
  intro n
  induction n with
  | zero =>
    intro p l _ p0 p1 pl Q
    rw [lpF, u77_8, show (100 - ((0 : Nat) : Int) : Int) = 100 by omega]
    simp (disch := omega) only [KK, Int.reduceEq, not_false_iff, ↓reduceIte, ↓if_pos, ↓if_neg, xt_o, true_and, nlO_i, nlO_n, nlO_r, List.length_nil, List.length_cons, Nat.reduceAdd, Nat.reduceLeDiff, Nat.zero_le, U77, Int.reduceLE, bI_t, true_or, or_true]
  | succ n ih =>
    intro p l hn p0 p1 pl Q
    have hh := fun (K : KQ) => c_here (G := G) (d := D + 5) (Q := K) (h0 := h0) (v := v) (nt := nt) (sn := sn) (nv := nv) (S := S) (E := E) (cs := cs + l.length) (C := kE C cs l) hx hf p0
    have en : ¬ 100 ≤ 100 - ((n + 1 : Nat) : Int) := by omega
    have e10 : (100 - ((n + 1 : Nat) : Int) + 1 : Int) = 100 - (n : Int) := by omega
    rw [lpF_s]
    by_cases q : hrF T nt p = 124
    · have lt := hr_lt (T := T) (N := nt) (p := p) (by omega)
      have hf' := hF (p + 1) (cs + l.length) (kE C cs l) (by omega) (by omega) (by omega) (by omega)
      obtain ⟨⟨b1, b2⟩, b3, -, -⟩ := hg (p + 1) (by omega) (by omega)
      rw [if_pos q]
      by_cases q2 : (g (p + 1)).1 = true
      · rw [q2] at hf'
        have he := fun (K : KQ) => c_vput (G := G) (d := D + 5) (Q := K) (h0 := h0) (v := v) (nt := nt) (sn := sn) (nv := nv) (S := S) (E := E) (p := (g (p + 1)).2.1) (cs := cs + l.length + (g (p + 1)).2.2.length) (C := kE (kE C cs l) (cs + l.length) (g (p + 1)).2.2) (x := -3) ⟨by omega, by omega⟩ hN
        have ih' := ih (g (p + 1)).2.1 (l ++ (g (p + 1)).2.2 ++ [-3]) (by omega) (by omega) b2 (by rw [← le_3]; omega) Q
        rw [if_pos q2, ← ih', ← kE_j, ← le_3, u77_8]
        simp (disch := omega) only [KK, Int.reduceEq, not_false_iff, ↓reduceIte, ↓if_pos, ↓if_neg, xt_o, true_and, nlO_i, nlO_n, nlO_r, List.length_nil, List.length_cons, Nat.reduceAdd, Nat.reduceLeDiff, Nat.zero_le, U77, vP_v, vP_hv, hh, q, hf', he, bI_t, en, e10, GX10, PX10, VS10, ar_add, true_or, or_true]
      · have q3 : (g (p + 1)).1 = false := Bool.eq_false_iff.mpr q2
        rw [q3] at hf'
        rw [if_neg q2, ← kE_2, ← le_2, u77_8]
        simp (disch := omega) only [KK, Int.reduceEq, not_false_iff, ↓reduceIte, ↓if_pos, ↓if_neg, xt_o, true_and, nlO_i, nlO_n, nlO_r, List.length_nil, List.length_cons, Nat.reduceAdd, Nat.reduceLeDiff, Nat.zero_le, U77, vP_v, vP_hv, hh, q, hf', bI_f, en, e10, GX10, PX10, VS10, ar_add, true_or, or_true]
        rw [u77_8]
        by_cases en2 : 100 ≤ 100 - (n : Int)
        · simp (disch := omega) only [KK, Int.reduceEq, not_false_iff, ↓reduceIte, ↓if_pos, ↓if_neg, xt_o, true_and, nlO_i, nlO_n, nlO_r, List.length_nil, List.length_cons, Nat.reduceAdd, Nat.reduceLeDiff, Nat.zero_le, U77, en2, true_or, or_true]
        · simp (disch := omega) only [KK, Int.reduceEq, not_false_iff, ↓reduceIte, ↓if_pos, ↓if_neg, xt_o, true_and, nlO_i, nlO_n, nlO_r, List.length_nil, List.length_cons, Nat.reduceAdd, Nat.reduceLeDiff, Nat.zero_le, U77, en2, true_or, or_true]
    · rw [if_neg q, u77_8]
      simp (disch := omega) only [KK, Int.reduceEq, not_false_iff, ↓reduceIte, ↓if_pos, ↓if_neg, xt_o, true_and, nlO_i, nlO_n, nlO_r, List.length_nil, List.length_cons, Nat.reduceAdd, Nat.reduceLeDiff, Nat.zero_le, U77, vP_v, hh, q, en, bI_t, VS10, true_or, or_true]
theorem c_either {D D0 : Nat} {g : Int → RD} (hN : nt ≤ 100) (hx : h0.2.2 (v + 1) = some (cArr 0 nt f)) (hf : ∀ i : Nat, i < nt → f i = T i) (hg : ∀ p, 0 ≤ p → p ≤ (nt : Int) → gR nt D0 p (g p)) (hF : ∀ (p cs : Int) (C : Int → Int), 0 ≤ p → p ≤ (nt : Int) → 0 ≤ cs → cs ≤ p → ∀ Q : KQ, wpC G (D + 6) 78 [vR v, vI o] (vP v nt h0 p cs sn nv C S E) Q = Q (some (vI (bI (g p).1))) (vP v nt h0 ((g p).2.1) (cs + (g p).2.2.length) sn nv (kE C cs (g p).2.2) S E)) (p cs : Int) (C : Int → Int) (p0 : 0 ≤ p) (p1 : p ≤ (nt : Int)) (c0 : 0 ≤ cs) (c1 : cs ≤ p) (Q : KQ) : wpC G (D + 7) 77 [vR v, vI o] (vP v nt h0 p cs sn nv C S E) Q = Q (some (vI (bI (lpF T nt 124 (-3) g 100 (g p)).1))) (vP v nt h0 ((lpF T nt 124 (-3) g 100 (g p)).2.1) (cs + (lpF T nt 124 (-3) g 100 (g p)).2.2.length) sn nv (kE C cs (lpF T nt 124 (-3) g 100 (g p)).2.2) S E) := by
  have hf' := hF p cs C p0 p1 c0 c1
  have hl := c_either_l (G := G) (h0 := h0) (v := v) (nt := nt) (sn := sn) (nv := nv) (S := S) (E := E) (o := o) hN hx hf hg hF (C := C) c0 100 (g p).2.1 (g p).2.2 (Nat.le_refl _)
  obtain ⟨⟨b1, b2⟩, b3, -, -⟩ := hg p p0 p1
  have hl := hl (by omega) b2 (by omega) Q
  rw [show (100 - ((100 : Nat) : Int) : Int) = 0 by omega] at hl
  generalize g p = r at hf' hl b1 b2 b3 ⊢
  obtain ⟨b, q, l⟩ := r
  rw [e77]
  cases b with
  | true =>
    refine Eq.trans ?_ hl
    simp (disch := omega) only [KK, Int.reduceEq, not_false_iff, ↓reduceIte, ↓if_pos, ↓if_neg, xt_o, true_and, nlO_i, nlO_n, nlO_r, List.length_nil, List.length_cons, Nat.reduceAdd, Nat.reduceLeDiff, Nat.zero_le, U77, vP_v, hf', VS10, bI_t]
  | false =>
    rw [lpF_f]
    simp (disch := omega) only [KK, Int.reduceEq, not_false_iff, ↓reduceIte, ↓if_pos, ↓if_neg, xt_o, true_and, nlO_i, nlO_n, nlO_r, List.length_nil, List.length_cons, Nat.reduceAdd, Nat.reduceLeDiff, Nat.zero_le, U77, vP_v, hf', VS10, bI_f]
    rw [u77_8]
    simp (disch := omega) only [KK, Int.reduceEq, not_false_iff, ↓reduceIte, ↓if_pos, ↓if_neg, xt_o, true_and, nlO_i, nlO_n, nlO_r, List.length_nil, List.length_cons, Nat.reduceAdd, Nat.reduceLeDiff, Nat.zero_le, U77, Int.reduceLE, true_or, or_true]
theorem c_sgl_t {d : Nat} {Q : KQ} {p cs : Int} {C : Int → Int} (z : qSt G h0) (hv : G.1 ≤ v) (hN : nt ≤ 100) (hx : h0.2.2 (v + 1) = some (cArr 0 nt f)) (hf : ∀ i : Nat, i < nt → f i = T i) (hT : ∀ i, 0 ≤ i → i < (nt : Int) → 0 ≤ T i ∧ T i ≤ 127) (p0 : 0 ≤ p) (p1 : p ≤ nt) (c0 : 0 ≤ cs) (c1 : cs ≤ p) (k1 : ¬ hrF T nt p = 33) (k2 : ¬ hrF T nt p = 40) : wpC G (d + 6) 79 [vR v, vI o] (vP v nt h0 p cs sn nv C S E) Q = Q (some (vI (bI (teF T nt p).1))) (vP v nt h0 ((teF T nt p).2.1) (cs + (teF T nt p).2.2.length) sn nv (kE C cs (teF T nt p).2.2) S E) := by
  have hh := fun (K : KQ) => c_here (G := G) (d := d + 4) (Q := K) (h0 := h0) (v := v) (nt := nt) (sn := sn) (nv := nv) (S := S) (E := E) (cs := cs) (C := C) hx hf p0
  have ha := fun (K : KQ) => c_oneOf (G := G) (d := d) (Q := K) (h0 := h0) (v := v) (nt := nt) (sn := sn) (nv := nv) (S := S) (E := E) (cs := cs) (C := C) z hv hx hf hN hT (i := 5) (by decide) p0 p1
  unfold teF
  rw [e79]
  by_cases a1 : ofS (hrF T nt p) 5 = -1
  · have ha := fun (K : KQ) => (ha K).trans (by rw [if_pos a1, a1])
    rw [if_pos a1]
    show _ = Q (some (vI 0)) (vP v nt h0 p (cs + ((0 : Nat) : Int)) sn nv C S E)
    rw [show cs + ((0 : Nat) : Int) = cs by omega]
    simp (disch := omega) only [KK, Int.reduceEq, not_false_iff, ↓reduceIte, ↓if_pos, ↓if_neg, xt_o, true_and, nlO_i, nlO_n, nlO_r, List.length_nil, List.length_cons, Nat.reduceAdd, Nat.reduceLeDiff, Nat.zero_le, U79, vP_v, hh, ha, k1, k2, VS10, true_or, or_true]
  · have ha := fun (K : KQ) => (ha K).trans (by rw [if_neg a1])
    rw [if_neg a1]
    have l1 := hr_lt (T := T) (N := nt) (p := p) (fun q => a1 (by rw [q]; exact ofS_m (by decide)))
    have hb := fun (K : KQ) => c_oneOf (G := G) (d := d) (Q := K) (h0 := h0) (v := v) (nt := nt) (sn := sn) (nv := nv) (S := S) (E := E) (p := p + 1) (cs := cs) (C := C) z hv hx hf hN hT (i := 6) (by decide) (by omega) (by omega)
    have e2 : (p + 1 + 1 : Int) = p + 2 := by omega
    rw [e2] at hb
    by_cases a2 : ofS (hrF T nt (p + 1)) 6 = -1
    · have hb := fun (K : KQ) => (hb K).trans (by rw [if_pos a2, a2])
      rw [if_pos a2]
      show _ = Q (some (vI 0)) (vP v nt h0 (p + 1) (cs + ((0 : Nat) : Int)) sn nv C S E)
      rw [show cs + ((0 : Nat) : Int) = cs by omega]
      simp (disch := omega) only [KK, Int.reduceEq, not_false_iff, ↓reduceIte, ↓if_pos, ↓if_neg, xt_o, true_and, nlO_i, nlO_n, nlO_r, List.length_nil, List.length_cons, Nat.reduceAdd, Nat.reduceLeDiff, Nat.zero_le, U79, vP_v, hh, ha, hb, a1, k1, k2, VS10, true_or, or_true]
    · have hb := fun (K : KQ) => (hb K).trans (by rw [if_neg a2])
      rw [if_neg a2]
      have l2 := hr_lt (T := T) (N := nt) (p := p + 1) (fun q => a2 (by rw [q]; exact ofS_m (by decide)))
      have hg := fun (K : KQ) => c_number (G := G) (d := d + 3) (Q := K) (h0 := h0) (v := v) (nt := nt) (sn := sn) (nv := nv) (S := S) (E := E) (p := p + 2) (cs := cs) (C := C) hx hf hN hT (by omega) (by omega)
      have hnb := nu_b (T := T) (N := nt) (p := p + 2) (by omega)
      by_cases a3 : (nuF T nt (p + 2)).1 = -1
      · have e4 : (nuF T nt (p + 2)).2 = p + 2 := by omega
        rw [e4, a3] at hg
        rw [if_pos a3]
        show _ = Q (some (vI 0)) (vP v nt h0 (p + 2) (cs + ((0 : Nat) : Int)) sn nv C S E)
        rw [show cs + ((0 : Nat) : Int) = cs by omega]
        simp (disch := omega) only [KK, Int.reduceEq, not_false_iff, ↓reduceIte, ↓if_pos, ↓if_neg, xt_o, true_and, nlO_i, nlO_n, nlO_r, List.length_nil, List.length_cons, Nat.reduceAdd, Nat.reduceLeDiff, Nat.zero_le, U79, vP_v, hh, ha, hb, hg, a1, a2, k1, k2, VS10, true_or, or_true]
      · have hnb := hnb.resolve_left (fun q => a3 q.1)
        have h5' := (ofS_5 (x := hrF T nt p)).resolve_left a1
        have h6' := (ofS_6 (x := hrF T nt (p + 1))).resolve_left a2
        rw [if_neg a3]
        generalize ofS (hrF T nt p) 5 = a at ha a1 h5' ⊢
        generalize ofS (hrF T nt (p + 1)) 6 = b at hb a2 h6' ⊢
        generalize nuF T nt (p + 2) = n at hg a3 hnb ⊢
        have he := fun (K : KQ) => c_vput (G := G) (d := d + 4) (Q := K) (h0 := h0) (v := v) (nt := nt) (sn := sn) (nv := nv) (S := S) (E := E) (p := n.2) (cs := cs) (C := C) (x := (a * 3 + b) * 100 + n.1) ⟨c0, by omega⟩ hN
        show _ = Q (some (vI 1)) (vP v nt h0 (n.2) (cs + ((1 : Nat) : Int)) sn nv (up C cs ((a * 3 + b) * 100 + n.1)) S E)
        rw [show cs + ((1 : Nat) : Int) = cs + 1 by omega]
        simp (disch := omega) only [KK, Int.reduceEq, not_false_iff, ↓reduceIte, ↓if_pos, ↓if_neg, xt_o, true_and, nlO_i, nlO_n, nlO_r, List.length_nil, List.length_cons, Nat.reduceAdd, Nat.reduceLeDiff, Nat.zero_le, U79, vP_v, hh, ha, hb, hg, he, a1, a2, a3, k1, k2, VS10, true_or, or_true, ar_add, ar_mul]
theorem c_sgl (z : qSt G h0) (hv : G.1 ≤ v) (hN : nt ≤ 100) (hx : h0.2.2 (v + 1) = some (cArr 0 nt f)) (hf : ∀ i : Nat, i < nt → f i = T i) (hT : ∀ i, 0 ≤ i → i < (nt : Int) → 0 ≤ T i ∧ T i ≤ 127) : ∀ (k : Nat) (d : Nat), k ≤ 5 → ∀ (p cs : Int) (C : Int → Int), 0 ≤ p → p ≤ (nt : Int) → 0 ≤ cs → cs ≤ p → ∀ Q : KQ, wpC G (d + 3 * k + 6) 79 [vR v, vI (5 - (k : Int))] (vP v nt h0 p cs sn nv C S E) Q = Q (some (vI (bI (sgF T nt k p).1))) (vP v nt h0 ((sgF T nt k p).2.1) (cs + (sgF T nt k p).2.2.length) sn nv (kE C cs (sgF T nt k p).2.2) S E) := by
  intro k
  induction k with
  | zero =>
    intro d hk p cs C p0 p1 c0 c1 Q
    have hh := fun (K : KQ) => c_here (G := G) (d := d + 4) (Q := K) (h0 := h0) (v := v) (nt := nt) (sn := sn) (nv := nv) (S := S) (E := E) (cs := cs) (C := C) hx hf p0
    rw [sgF, show (5 - ((0 : Nat) : Int) : Int) = 5 by omega]
    by_cases k1 : hrF T nt p = 33
    · rw [if_pos (Or.inl k1)]
      show wpC G (d + 5 + 1) 79 [vR v, vI 5] (vP v nt h0 p cs sn nv C S E) Q = Q (some (vI 0)) (vP v nt h0 p (cs + ((0 : Nat) : Int)) sn nv C S E)
      rw [show cs + ((0 : Nat) : Int) = cs by omega, e79]
      simp (disch := omega) only [KK, Int.reduceEq, not_false_iff, ↓reduceIte, ↓if_pos, ↓if_neg, xt_o, true_and, nlO_i, nlO_n, nlO_r, List.length_nil, List.length_cons, Nat.reduceAdd, Nat.reduceLeDiff, Nat.zero_le, U79, vP_v, hh, k1, VS10, true_or, or_true]
    · by_cases k2 : hrF T nt p = 40
      · rw [if_pos (Or.inr k2)]
        show wpC G (d + 5 + 1) 79 [vR v, vI 5] (vP v nt h0 p cs sn nv C S E) Q = Q (some (vI 0)) (vP v nt h0 p (cs + ((0 : Nat) : Int)) sn nv C S E)
        rw [show cs + ((0 : Nat) : Int) = cs by omega, e79]
        simp (disch := omega) only [KK, Int.reduceEq, not_false_iff, ↓reduceIte, ↓if_pos, ↓if_neg, xt_o, true_and, nlO_i, nlO_n, nlO_r, List.length_nil, List.length_cons, Nat.reduceAdd, Nat.reduceLeDiff, Nat.zero_le, U79, vP_v, hh, k2, VS10, true_or, or_true]
      · rw [if_neg (by omega)]
        exact c_sgl_t (G := G) (h0 := h0) (v := v) (nt := nt) (sn := sn) (nv := nv) (S := S) (E := E) (o := 5) z hv hN hx hf hT p0 p1 c0 c1 k1 k2
  | succ k ih =>
    intro d hk p cs C p0 p1 c0 c1 Q
    have hh := fun (K : KQ) => c_here (G := G) (d := d + 3 * k + 7) (Q := K) (h0 := h0) (v := v) (nt := nt) (sn := sn) (nv := nv) (S := S) (E := E) (cs := cs) (C := C) hx hf p0
    have eo : (5 - ((k + 1 : Nat) : Int) + 1 : Int) = 5 - (k : Int) := by omega
    have eo3 : 5 - ((k + 1 : Nat) : Int) < 5 := by omega
    rw [sgF]
    by_cases k1 : hrF T nt p = 33
    · have lt := hr_lt (T := T) (N := nt) (p := p) (by omega)
      have hf' := ih (d + 2) (by omega) (p + 1) cs C (by omega) (by omega) c0 (by omega)
      rw [show d + 2 + 3 * k + 6 = d + 3 * k + 8 by omega] at hf'
      obtain ⟨⟨b1, b2⟩, b3, -, -⟩ := sg_g (T := T) (N := nt) k (p + 1) (by omega) (by omega)
      rw [if_pos k1, show d + 3 * (k + 1) + 6 = d + 3 * k + 8 + 1 by omega]
      generalize sgF T nt k (p + 1) = r at hf' b1 b2 b3 ⊢
      obtain ⟨b, q, l⟩ := r
      have b1 : p + 1 ≤ q := b1
      have b2 : q ≤ (nt : Int) := b2
      have b3 : (l.length : Int) ≤ q - (p + 1) := b3
      cases b with
      | true =>
        have he := fun (K : KQ) => c_vput (G := G) (d := d + 3 * k + 7) (Q := K) (h0 := h0) (v := v) (nt := nt) (sn := sn) (nv := nv) (S := S) (E := E) (p := q) (cs := cs + l.length) (C := kE C cs l) (x := -1) ⟨by omega, by omega⟩ hN
        have e : up (kE C cs l) (cs + l.length) (-1) = kE C cs (l ++ [-1]) := (kE_app l [-1] C cs).symm
        have e1 : cs + (l.length : Int) + 1 = cs + ((l ++ [-1]).length : Nat) := by
          rw [List.length_append, List.length_singleton]; omega
        rw [if_pos rfl]
        show _ = Q (some (vI 1)) (vP v nt h0 q (cs + ((l ++ [-1]).length : Nat)) sn nv (kE C cs (l ++ [-1])) S E)
        rw [← e, ← e1, e79]
        simp (disch := omega) only [KK, Int.reduceEq, not_false_iff, ↓reduceIte, ↓if_pos, ↓if_neg, xt_o, true_and, nlO_i, nlO_n, nlO_r, List.length_nil, List.length_cons, Nat.reduceAdd, Nat.reduceLeDiff, Nat.zero_le, U79, vP_v, vP_hv, hh, hf', he, k1, eo, eo3, bI_t, GX10, PX10, VS10, true_or, or_true, ar_add]
      | false =>
        rw [if_neg (fun z => ff_t z)]
        show _ = Q (some (vI 0)) (vP v nt h0 q (cs + (l.length : Nat)) sn nv (kE C cs l) S E)
        rw [e79]
        simp (disch := omega) only [KK, Int.reduceEq, not_false_iff, ↓reduceIte, ↓if_pos, ↓if_neg, xt_o, true_and, nlO_i, nlO_n, nlO_r, List.length_nil, List.length_cons, Nat.reduceAdd, Nat.reduceLeDiff, Nat.zero_le, U79, vP_v, vP_hv, hh, hf', k1, eo, eo3, bI_f, GX10, PX10, VS10, true_or, or_true, ar_add]
    · rw [if_neg k1]
      by_cases k2 : hrF T nt p = 40
      · have lt := hr_lt (T := T) (N := nt) (p := p) (by omega)
        have hF := fun (p cs : Int) (C : Int → Int) (p0 : 0 ≤ p) (p1 : p ≤ (nt : Int)) (c0 : 0 ≤ cs) (c1 : cs ≤ p) (Q : KQ) => ih d (by omega) p cs C p0 p1 c0 c1 Q
        have hE := c_both (G := G) (D := d + 3 * k) (h0 := h0) (v := v) (nt := nt) (sn := sn) (nv := nv) (S := S) (E := E) (o := 5 - (k : Int)) hN hx hf (sg_g k) hF
        have hS : ∀ Q : KQ, wpC G (d + 3 * k + 8) 77 [vR v, vI (5 - (k : Int))] (vP v nt h0 (p + 1) cs sn nv C S E) Q = Q (some (vI (bI (eiF T nt (sgF T nt k) (p + 1)).1))) (vP v nt h0 ((eiF T nt (sgF T nt k) (p + 1)).2.1) (cs + (eiF T nt (sgF T nt k) (p + 1)).2.2.length) sn nv (kE C cs (eiF T nt (sgF T nt k) (p + 1)).2.2) S E) := c_either (G := G) (D := d + 3 * k + 1) (h0 := h0) (v := v) (nt := nt) (sn := sn) (nv := nv) (S := S) (E := E) (o := 5 - (k : Int)) hN hx hf (bo_g (sg_g k)) hE (p + 1) cs C (by omega) (by omega) c0 (by omega)
        obtain ⟨⟨b1, b2⟩, b3, -, -⟩ := ei_g (T := T) (N := nt) (sg_g k) (p + 1) (by omega) (by omega)
        rw [if_pos k2, show d + 3 * (k + 1) + 6 = d + 3 * k + 8 + 1 by omega]
        generalize eiF T nt (sgF T nt k) (p + 1) = r at hS b1 b2 b3 ⊢
        obtain ⟨b, q, l⟩ := r
        have b1 : p + 1 ≤ q := b1
        have b2 : q ≤ (nt : Int) := b2
        have b3 : (l.length : Int) ≤ q - (p + 1) := b3
        cases b with
        | true =>
          have hu := fun (K : KQ) => c_word (G := G) (d := d + 3 * k + 3) (Q := K) (h0 := h0) (v := v) (nt := nt) (sn := sn) (nv := nv) (S := S) (E := E) (p := q) (cs := cs + l.length) (C := kE C cs l) z hv hx hf hN (i := 4) (by decide) (by omega) b2
          by_cases c3 : hrF T nt q = 41
          · have e : wdF T nt (wS 4) q = (true, q + 1) := if_pos c3
            rw [e] at hu
            rw [if_pos ⟨rfl, c3⟩]
            show _ = Q (some (vI 1)) (vP v nt h0 (q + 1) (cs + (l.length : Nat)) sn nv (kE C cs l) S E)
            rw [e79]
            simp (disch := omega) only [KK, Int.reduceEq, not_false_iff, ↓reduceIte, ↓if_pos, ↓if_neg, xt_o, true_and, nlO_i, nlO_n, nlO_r, List.length_nil, List.length_cons, Nat.reduceAdd, Nat.reduceLeDiff, Nat.zero_le, U79, vP_v, vP_hv, hh, hS, hu, k2, eo, eo3, bI_t, GX10, PX10, VS10, true_or, or_true, ar_add]
          · have e : wdF T nt (wS 4) q = (false, q) := if_neg c3
            rw [e] at hu
            rw [if_neg (fun z => c3 z.2)]
            show _ = Q (some (vI 0)) (vP v nt h0 q (cs + (l.length : Nat)) sn nv (kE C cs l) S E)
            rw [e79]
            simp (disch := omega) only [KK, Int.reduceEq, not_false_iff, ↓reduceIte, ↓if_pos, ↓if_neg, xt_o, true_and, nlO_i, nlO_n, nlO_r, List.length_nil, List.length_cons, Nat.reduceAdd, Nat.reduceLeDiff, Nat.zero_le, U79, vP_v, vP_hv, hh, hS, hu, k2, eo, eo3, bI_t, bI_f, GX10, PX10, VS10, true_or, or_true, ar_add]
        | false =>
          rw [if_neg (fun z => ff_t z.1)]
          show _ = Q (some (vI 0)) (vP v nt h0 q (cs + (l.length : Nat)) sn nv (kE C cs l) S E)
          rw [e79]
          simp (disch := omega) only [KK, Int.reduceEq, not_false_iff, ↓reduceIte, ↓if_pos, ↓if_neg, xt_o, true_and, nlO_i, nlO_n, nlO_r, List.length_nil, List.length_cons, Nat.reduceAdd, Nat.reduceLeDiff, Nat.zero_le, U79, vP_v, vP_hv, hh, hS, k2, eo, eo3, bI_f, GX10, PX10, VS10, true_or, or_true, ar_add]
      · rw [if_neg k2, show d + 3 * (k + 1) + 6 = d + 3 * k + 3 + 6 by omega]
        exact c_sgl_t (G := G) (h0 := h0) (v := v) (nt := nt) (sn := sn) (nv := nv) (S := S) (E := E) (o := 5 - ((k + 1 : Nat) : Int)) z hv hN hx hf hT p0 p1 c0 c1 k1 k2
end R9
