/-! the class reads: its small methods -/
def vP (v nt : Nat) (h0 : MH) (pl cs sn nv : Int) (C S E : Int → Int) : MH := hset (hset (hset (hset h0 v (vO' (v + 1) (v + 5) (v + 2) (v + 3) (v + 4) pl cs sn nv)) (v + 5) (cArr 0 nt (ix C))) (v + 2) (cArr 0 10 (ix S))) (v + 3) (cArr 0 10 (ix E))
def bI (b : Bool) : Int := if b = true then 1 else 0
theorem bI_t : bI true = 1 := rfl
theorem bI_f : bI false = 0 := rfl
theorem xa_0 {i : Int} {n : Nat} {f : Nat → Int} {K : Int → Prop} (h : 0 ≤ i ∧ i < (n : Int)) : xAld (fun t => t == 0 || t == 11) i (some (cArr 0 n f)) K = K (f i.toNat) := propext ⟨fun z => z.2.2.2, fun z => ⟨rfl, h.1, h.2, z⟩⟩
section R8
variable {G : MG} {d : Nat} {Q : KQ} {h0 : MH} {T : Int → Int} {v nt : Nat} {p cs sn nv : Int} {C S E : Int → Int} {f : Nat → Int}
theorem vP_v : (vP v nt h0 p cs sn nv C S E).2.2 v = some (cObj 10 [vR (v + 1), vI p, vR (v + 5), vI cs, vR (v + 2), vR (v + 3), vI sn, vR (v + 4), vI nv]) := (hs_ne (by omega)).trans ((hs_ne (by omega)).trans ((hs_ne (by omega)).trans hs_eq))
theorem vP_c : (vP v nt h0 p cs sn nv C S E).2.2 (v + 5) = some (cArr 0 nt (ix C)) := (hs_ne (by omega)).trans ((hs_ne (by omega)).trans hs_eq)
theorem vP_s : (vP v nt h0 p cs sn nv C S E).2.2 (v + 2) = some (cArr 0 10 (ix S)) := (hs_ne (by omega)).trans hs_eq
theorem vP_e : (vP v nt h0 p cs sn nv C S E).2.2 (v + 3) = some (cArr 0 10 (ix E)) := hs_eq
theorem vP_o {q : Nat} (h0' : ¬ q = v) (h5 : ¬ q = v + 5) (h2 : ¬ q = v + 2) (h3 : ¬ q = v + 3) : (vP v nt h0 p cs sn nv C S E).2.2 q = h0.2.2 q := (hs_ne h3).trans ((hs_ne h2).trans ((hs_ne h5).trans (hs_ne h0')))
theorem vP_1 : (vP v nt h0 p cs sn nv C S E).2.2 (v + 1) = h0.2.2 (v + 1) := vP_o (by omega) (by omega) (by omega) (by omega)
theorem vP_hv {p' cs' sn' nv' : Int} : hset (vP v nt h0 p cs sn nv C S E) v (cObj 10 [vR (v + 1), vI p', vR (v + 5), vI cs', vR (v + 2), vR (v + 3), vI sn', vR (v + 4), vI nv']) = vP v nt h0 p' cs' sn' nv' C S E := by
  unfold vP
  rw [hs_comm (show ¬ v + 3 = v by omega), hs_comm (show ¬ v + 2 = v by omega), hs_comm (show ¬ v + 5 = v by omega), hs_hs]
theorem vP_hc {C' : Int → Int} : hset (vP v nt h0 p cs sn nv C S E) (v + 5) (cArr 0 nt (ix C')) = vP v nt h0 p cs sn nv C' S E := by
  unfold vP
  rw [hs_comm (show ¬ v + 3 = v + 5 by omega), hs_comm (show ¬ v + 2 = v + 5 by omega), hs_hs]
theorem vP_hs {S' : Int → Int} : hset (vP v nt h0 p cs sn nv C S E) (v + 2) (cArr 0 10 (ix S')) = vP v nt h0 p cs sn nv C S' E := by
  unfold vP
  rw [hs_comm (show ¬ v + 3 = v + 2 by omega), hs_hs]
theorem vP_he {E' : Int → Int} : hset (vP v nt h0 p cs sn nv C S E) (v + 3) (cArr 0 10 (ix E')) = vP v nt h0 p cs sn nv C S E' := hs_hs
theorem qSt_vP (z : qSt G h0) (hv : G.1 ≤ v) : qSt G (vP v nt h0 p cs sn nv C S E) := fun i hi => by
  obtain ⟨u, g, z1, z2, z3, z4⟩ := z i hi
  exact ⟨u, g, z1, (vP_o (by omega) (by omega) (by omega) (by omega)).trans z2, z3, z4⟩
theorem c_here (hx : h0.2.2 (v + 1) = some (cArr 0 nt f)) (hf : ∀ i : Nat, i < nt → f i = T i) (p0 : 0 ≤ p) : wpC G (d + 1) 74 [vR v] (vP v nt h0 p cs sn nv C S E) Q = Q (some (vI (hrF T nt p))) (vP v nt h0 p cs sn nv C S E) := by
  rw [e74]
  unfold hrF
  by_cases q : p < (nt : Int)
  · have e : f p.toNat = T p := by
      have := hf p.toNat (by omega)
      rw [Int.toNat_of_nonneg p0] at this
      exact this
    rw [if_pos q]
    simp (disch := omega) only [KK, Int.reduceEq, not_false_iff, ↓reduceIte, ↓if_pos, ↓if_neg, xt_o, true_and, nlO_i, nlO_n, nlO_r, List.length_nil, List.length_cons, Nat.reduceAdd, Nat.reduceLeDiff, Nat.zero_le, U74, vP_v, vP_1, hx, GX10, xl_a, xa_0, e]
  · rw [if_neg q]
    simp (disch := omega) only [KK, Int.reduceEq, not_false_iff, ↓reduceIte, ↓if_pos, ↓if_neg, xt_o, true_and, nlO_i, nlO_n, nlO_r, List.length_nil, List.length_cons, Nat.reduceAdd, Nat.reduceLeDiff, Nat.zero_le, U74, vP_v, vP_1, hx, GX10, xl_a]
theorem c_vput {x : Int} (hc : 0 ≤ cs ∧ cs < (nt : Int)) (hn : nt ≤ 100) : wpC G (d + 1) 80 [vR v, vI x] (vP v nt h0 p cs sn nv C S E) Q = Q (some (vI 1)) (vP v nt h0 p (cs + 1) sn nv (up C cs x) S E) := by
  rw [e80]
  simp (disch := omega) only [KK, Int.reduceEq, not_false_iff, ↓reduceIte, ↓if_pos, ↓if_neg, xt_o, true_and, nlO_i, nlO_n, nlO_r, List.length_nil, List.length_cons, Nat.reduceAdd, Nat.reduceLeDiff, Nat.zero_le, U80, vP_v, vP_c, vP_hc, vP_hv, GX10, PX10, xl_a, xs_i, ar_add, true_or, or_true]
theorem c_word_l (z : qSt G h0) (hv : G.1 ≤ v) (hx : h0.2.2 (v + 1) = some (cArr 0 nt f)) (hf : ∀ i : Nat, i < nt → f i = T i) (hN : nt ≤ 100) {i : Nat} (hi : i < 12) : ∀ (n j : Nat) (p : Int), j + n = sL i → 0 ≤ p → p ≤ nt → wp G (d + 4) 75 2 [some (vR v), some (vR (G.2.1 i)), some (vI (j : Int))] [] (vP v nt h0 p cs sn nv C S E) Q = Q (some (vI (bI (wdF T nt ((wS i).drop j) p).1))) (vP v nt h0 ((wdF T nt ((wS i).drop j) p).2) cs sn nv C S E) := by
  have hL := sL_b hi
  intro n
  induction n with
  | zero =>
    intro j p hj p0 p1
    have zz := qSt_vP (nt := nt) (p := p) (cs := cs) (sn := sn) (nv := nv) (C := C) (S := S) (E := E) z hv
    have hl := fun (K : KQ) => s_len (G := G) (d := d + 2) (Q := K) zz hi
    obtain ⟨u, g, z1, z2, -⟩ := zz i hi
    have e : (wS i).drop j = [] := List.drop_eq_nil_of_le (by show sL i ≤ j; omega)
    rw [e, wdF, u75_2]
    simp (disch := omega) only [KK, Int.reduceEq, not_false_iff, ↓reduceIte, ↓if_pos, ↓if_neg, xt_o, true_and, nlO_i, nlO_n, nlO_r, List.length_nil, List.length_cons, Nat.reduceAdd, Nat.reduceLeDiff, Nat.zero_le, U75, z1, xr0, hl, bI_t, true_or, or_true]
  | succ n ih =>
    intro j p hj p0 p1
    have zz := qSt_vP (nt := nt) (p := p) (cs := cs) (sn := sn) (nv := nv) (C := C) (S := S) (E := E) z hv
    have hl := fun (K : KQ) => s_len (G := G) (d := d + 2) (Q := K) zz hi
    obtain ⟨u, g, z1, z2, -⟩ := zz i hi
    have hc := fun (K : KQ) => s_chr (G := G) (d := d) (Q := K) zz hi (show j < sL i by omega)
    have hb := (sB_b hi (show j < sL i by omega)).1
    have hh := fun (K : KQ) => c_here (G := G) (d := d + 3) (Q := K) (h0 := h0) (v := v) (nt := nt) (sn := sn) (nv := nv) (S := S) (E := E) (cs := cs) (C := C) hx hf p0
    rw [sB_w (show j < sL i by omega), wdF]
    by_cases q : hrF T nt p = sB i j
    · have lt := hr_lt (T := T) (N := nt) (p := p) (by omega)
      have ih' := ih (j + 1) (p + 1) (by omega) (by omega) (by omega)
      rw [show ((j + 1 : Nat) : Int) = (j : Int) + 1 by omega] at ih'
      rw [if_pos q, ← ih', u75_2]
      simp (disch := omega) only [KK, Int.reduceEq, not_false_iff, ↓reduceIte, ↓if_pos, ↓if_neg, xt_o, true_and, nlO_i, nlO_n, nlO_r, List.length_nil, List.length_cons, Nat.reduceAdd, Nat.reduceLeDiff, Nat.zero_le, U75, z1, xr0, hl, hc, hh, q, vP_v, vP_hv, GX10, PX10, VS10, ar_add, true_or, or_true]
    · rw [if_neg q, u75_2]
      simp (disch := omega) only [KK, Int.reduceEq, not_false_iff, ↓reduceIte, ↓if_pos, ↓if_neg, xt_o, true_and, nlO_i, nlO_n, nlO_r, List.length_nil, List.length_cons, Nat.reduceAdd, Nat.reduceLeDiff, Nat.zero_le, U75, z1, xr0, hl, hc, hh, q, vP_v, GX10, VS10, ar_add, bI_f, true_or, or_true]
theorem c_word (z : qSt G h0) (hv : G.1 ≤ v) (hx : h0.2.2 (v + 1) = some (cArr 0 nt f)) (hf : ∀ i : Nat, i < nt → f i = T i) (hN : nt ≤ 100) {i : Nat} (hi : i < 12) (p0 : 0 ≤ p) (p1 : p ≤ nt) : wpC G (d + 5) 75 [vR v, vR (G.2.1 i)] (vP v nt h0 p cs sn nv C S E) Q = Q (some (vI (bI (wdF T nt (wS i) p).1))) (vP v nt h0 ((wdF T nt (wS i) p).2) cs sn nv C S E) := by
  have := c_word_l (G := G) (d := d) (Q := Q) (h0 := h0) (v := v) (nt := nt) (sn := sn) (nv := nv) (S := S) (E := E) (cs := cs) (C := C) z hv hx hf hN hi (sL i) 0 p (by omega) p0 p1
  rw [List.drop_zero] at this
  refine Eq.trans ?_ this
  rw [e75]
  simp (disch := omega) only [KK, Int.reduceEq, not_false_iff, ↓reduceIte, ↓if_pos, ↓if_neg, xt_o, true_and, nlO_i, nlO_n, nlO_r, List.length_nil, List.length_cons, Nat.reduceAdd, Nat.reduceLeDiff, Nat.zero_le, U75]
  rfl
theorem hr_b (hT : ∀ i, 0 ≤ i → i < (nt : Int) → 0 ≤ T i ∧ T i ≤ 127) (p0 : 0 ≤ p) : -1 ≤ hrF T nt p ∧ hrF T nt p ≤ 127 := by
  unfold hrF
  by_cases q : p < (nt : Int)
  · rw [if_pos q]; have := hT p p0 q; omega
  · rw [if_neg q]; omega
theorem c_number (hx : h0.2.2 (v + 1) = some (cArr 0 nt f)) (hf : ∀ i : Nat, i < nt → f i = T i) (hN : nt ≤ 100) (hT : ∀ i, 0 ≤ i → i < (nt : Int) → 0 ≤ T i ∧ T i ≤ 127) (p0 : 0 ≤ p) (p1 : p ≤ nt) : wpC G (d + 2) 76 [vR v] (vP v nt h0 p cs sn nv C S E) Q = Q (some (vI (nuF T nt p).1)) (vP v nt h0 ((nuF T nt p).2) cs sn nv C S E) := by
  have h1 := fun (K : KQ) => c_here (G := G) (d := d) (Q := K) (h0 := h0) (v := v) (nt := nt) (sn := sn) (nv := nv) (S := S) (E := E) (cs := cs) (C := C) hx hf p0
  have h2 := fun (K : KQ) => c_here (G := G) (d := d) (Q := K) (h0 := h0) (v := v) (nt := nt) (sn := sn) (nv := nv) (S := S) (E := E) (p := p + 1) (cs := cs) (C := C) hx hf (by omega)
  have b1 := hr_b hT p0
  have b2 := hr_b (p := p + 1) hT (by omega)
  have lt := hr_lt (T := T) (N := nt) (p := p)
  have lt2 := hr_lt (T := T) (N := nt) (p := p + 1)
  unfold nuF
  generalize hrF T nt p = x at h1 lt b1 ⊢
  generalize hrF T nt (p + 1) = y at h2 lt2 b2 ⊢
  have d1 := fun (h : MH) (K : KQ) => c_isDigit (G := G) (d := d) (h := h) (Q := K) (f := x - 48)
  have d2 := fun (h : MH) (K : KQ) => c_isDigit (G := G) (d := d) (h := h) (Q := K) (f := y - 48)
  have e2 : (p + 1 + 1 : Int) = p + 2 := by omega
  rw [e76]
  by_cases c : 0 ≤ x - 48 ∧ x - 48 ≤ 9
  · have lt := lt (by omega)
    have d1 := fun (h : MH) (K : KQ) => (d1 h K).trans (by rw [if_pos c])
    rw [if_pos c]
    by_cases c2 : ¬ x - 48 = 0 ∧ 0 ≤ y - 48 ∧ y - 48 ≤ 9
    · have lt2 := lt2 (by omega)
      have d2 := fun (h : MH) (K : KQ) => (d2 h K).trans (by rw [if_pos c2.2])
      rw [if_pos c2]
      simp (disch := omega) only [KK, Int.reduceEq, not_false_iff, ↓reduceIte, ↓if_pos, ↓if_neg, xt_o, true_and, nlO_i, nlO_n, nlO_r, List.length_nil, List.length_cons, Nat.reduceAdd, Nat.reduceLeDiff, Nat.zero_le, U76, vP_v, vP_hv, h1, h2, d1, d2, GX10, PX10, VS10, ar_add, ar_sub, ar_mul, e2, c2.1, true_or, or_true]
    · rw [if_neg c2]
      by_cases c3 : x - 48 = 0
      · rw [c3] at d1
        rw [c3]
        simp (disch := omega) only [KK, Int.reduceEq, not_false_iff, ↓reduceIte, ↓if_pos, ↓if_neg, xt_o, true_and, nlO_i, nlO_n, nlO_r, List.length_nil, List.length_cons, Nat.reduceAdd, Nat.reduceLeDiff, Nat.zero_le, U76, vP_v, vP_hv, h1, h2, d1, GX10, PX10, VS10, ar_add, ar_sub, c3, true_or, or_true]
      · have d2 := fun (h : MH) (K : KQ) => (d2 h K).trans (by rw [if_neg (show ¬ (0 ≤ y - 48 ∧ y - 48 ≤ 9) by omega)])
        simp (disch := omega) only [KK, Int.reduceEq, not_false_iff, ↓reduceIte, ↓if_pos, ↓if_neg, xt_o, true_and, nlO_i, nlO_n, nlO_r, List.length_nil, List.length_cons, Nat.reduceAdd, Nat.reduceLeDiff, Nat.zero_le, U76, vP_v, vP_hv, h1, h2, d1, d2, GX10, PX10, VS10, ar_add, ar_sub, c3, true_or, or_true]
  · have d1 := fun (h : MH) (K : KQ) => (d1 h K).trans (by rw [if_neg c])
    rw [if_neg c]
    simp (disch := omega) only [KK, Int.reduceEq, not_false_iff, ↓reduceIte, ↓if_pos, ↓if_neg, xt_o, true_and, nlO_i, nlO_n, nlO_r, List.length_nil, List.length_cons, Nat.reduceAdd, Nat.reduceLeDiff, Nat.zero_le, U76, vP_v, vP_hv, h1, d1, GX10, PX10, VS10, ar_sub, true_or, or_true]
theorem c_oneOf (z : qSt G h0) (hv : G.1 ≤ v) (hx : h0.2.2 (v + 1) = some (cArr 0 nt f)) (hf : ∀ i : Nat, i < nt → f i = T i) (hN : nt ≤ 100) (hT : ∀ i, 0 ≤ i → i < (nt : Int) → 0 ≤ T i ∧ T i ≤ 127) {i : Nat} (hi : i < 12) (p0 : 0 ≤ p) (p1 : p ≤ nt) : wpC G (d + 5) 81 [vR v, vR (G.2.1 i)] (vP v nt h0 p cs sn nv C S E) Q = Q (some (vI (ofS (hrF T nt p) i))) (vP v nt h0 (if ofS (hrF T nt p) i = -1 then p else p + 1) cs sn nv C S E) := by
  have zz := qSt_vP (nt := nt) (p := p) (cs := cs) (sn := sn) (nv := nv) (C := C) (S := S) (E := E) z hv
  have hh := fun (K : KQ) => c_here (G := G) (d := d + 3) (Q := K) (h0 := h0) (v := v) (nt := nt) (sn := sn) (nv := nv) (S := S) (E := E) (cs := cs) (C := C) hx hf p0
  have b1 := hr_b hT p0
  have hof : ofS (hrF T nt p) i = -1 ∨ 0 ≤ ofS (hrF T nt p) i := by
    have := of_b (x := hrF T nt p) (wS i) 0
    unfold ofS
    omega
  rw [e81]
  by_cases c : hrF T nt p < 0
  · have e : hrF T nt p = -1 := by omega
    rw [e, ofS_m hi, if_pos rfl]
    rw [e] at hh
    simp (disch := omega) only [KK, Int.reduceEq, not_false_iff, ↓reduceIte, ↓if_pos, ↓if_neg, xt_o, true_and, nlO_i, nlO_n, nlO_r, List.length_nil, List.length_cons, Nat.reduceAdd, Nat.reduceLeDiff, Nat.zero_le, U81, vP_v, hh, VS10, Int.reduceLE, Int.reduceLT]
  · have hs := fun (K : KQ) => s_idx (G := G) (d := d) (Q := K) zz hi (x := hrF T nt p) ⟨by omega, b1.2⟩
    have ec := (i2_of (x := hrF T nt p) ⟨by omega, b1.2⟩).2
    obtain ⟨u, g, z1, z2, -⟩ := zz i hi
    by_cases c2 : ofS (hrF T nt p) i = -1
    · rw [if_pos c2, c2]
      rw [c2] at hs
      simp (disch := omega) only [KK, Int.reduceEq, not_false_iff, ↓reduceIte, ↓if_pos, ↓if_neg, xt_o, true_and, nlO_i, nlO_n, nlO_r, List.length_nil, List.length_cons, Nat.reduceAdd, Nat.reduceLeDiff, Nat.zero_le, U81, vP_v, hh, hs, ec, c, z1, xr0, VS10, Int.reduceLE, Int.reduceLT]
    · rw [if_neg c2]
      simp (disch := omega) only [KK, Int.reduceEq, not_false_iff, ↓reduceIte, ↓if_pos, ↓if_neg, xt_o, true_and, nlO_i, nlO_n, nlO_r, List.length_nil, List.length_cons, Nat.reduceAdd, Nat.reduceLeDiff, Nat.zero_le, U81, hh, hs, ec, c, z1, xr0, vP_v, vP_hv, GX10, PX10, VS10, ar_add, true_or, or_true]
end R8
