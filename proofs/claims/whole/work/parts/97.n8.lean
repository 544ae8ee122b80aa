/-! mean, odds, knew, firm of the model -/
section N8
variable {G : MG} {d : Nat} {m : Nat} {s s' im bd : Int → Int} {hi rn H S B : Int} {h : MH}
theorem N_mean_l (z : MS m s im hi rn bd h) (ok : okW s) {l1 : Option V} (n1 : nlO l1 = true) : ∀ (n : Nat) (i a : Int), 0 ≤ i → i + n = s 28 → 0 ≤ a → a ≤ 200 * i → ∀ Q : KQ, wp G d 206 28 [some (vR m), l1, some (vL a), none, some (vI i)] [] h Q = wp G d 206 60 [some (vR m), l1, some (vL (meF s n i a)), none, some (vI (s 28))] [] h Q := by
  have o28 := ok.1.2.1
  obtain ⟨⟨f0, f5, f6, f7, f8, f9, f12, f13, f14, f17, f18, f21, f22, f23, q0⟩, q1, -⟩ := z
  intro n
  induction n with
  | zero =>
    intro i a i0 hin a0 a1 Q
    have : i = s 28 := by omega
    subst this
    rw [u206_28]
    simp (disch := omega) only [u206_30, u206_31, u206_34, u206_36, KK, q0, q1, GX13, xa_i]
    rw [u206_37, if_pos (Int.le_refl _)]
    rfl
  | succ n ih =>
    intro i a i0 hin a0 a1 Q
    have hs := (ok.2.2.2.2.2.2 i i0 (by omega)).2.2.1
    rw [meF, ← ih (i + 1) (a + s (6 + i)) (by omega) (by omega) (by omega) (by omega) Q]
    generalize hW : wp G d 206 28 [some (vR m), l1, some (vL (a + s (6 + i))), none, some (vI (i + 1))] [] h Q = W
    rw [u206_28]
    simp (disch := omega) only [u206_30, u206_31, u206_34, u206_36, KK, q0, q1, GX13, xa_i]
    rw [u206_37, if_neg (by omega)]
    simp (disch := omega) only [KK, Int.reduceEq, not_false_iff, ↓reduceIte, ↓if_pos, ↓if_neg, xt_o, true_and, nlO_i, nlO_n, nlO_r, List.length_nil, List.length_cons, Nat.reduceAdd, Nat.reduceLeDiff, Nat.zero_le, u206_40, u206_41, u206_42, u206_45, u206_47, u206_49, u206_50, u206_51, u206_52, u206_53, u206_54, u206_57, q0, q1, GX13, xa_i, n1, ar_add, al_add]
    exact hW
theorem N_mean (ok : okP s) (z : MS m s im hi rn bd h) {part : Int} : mL G m (d + 2) 206 [vI part] (aMEAN s part) s im hi rn bd h := by
  have o28 := ok.1.1.2.1
  have zz := z
  obtain ⟨⟨f0, f5, f6, f7, f8, f9, f12, f13, f14, f17, f18, f21, f22, f23, q0⟩, q1, -⟩ := zz
  have hx := fun (K : KQ) => m_in (G := G) (d := d) (h := h) (Q := K) (v := part) (lo := 0) (hi := 1)
  refine ⟨h, z, mF_rf, fun Q => ?_⟩
  unfold aMEAN
  by_cases c : 0 ≤ part ∧ part ≤ 1
  · have hx := fun (K : KQ) => (hx K).trans (by rw [if_pos c])
    by_cases c1 : s 28 = 0
    · rw [if_neg (fun q => q.2 c1), e206]
      simp (disch := omega) only [KK, Int.reduceEq, not_false_iff, ↓reduceIte, ↓if_pos, ↓if_neg, xt_o, true_and, nlO_i, nlO_n, nlO_r, List.length_nil, List.length_cons, Nat.reduceAdd, Nat.reduceLeDiff, Nat.zero_le, U206, hx, q0, q1, c1, GX13, xa_i]
    · rw [if_pos ⟨c, c1⟩]
      have hin := meF_in ok.1 (s 28).toNat 0 0 (by omega) (by omega)
      have hl := fun (K : KQ) => m_lowest (G := G) (d := d) (h := h) (Q := K) (u := meF s (s 28).toNat 0 0) (l := s 28) (part := part) (by omega) (by omega) (by omega) (by omega)
      have key : wpC G (d + 2) 206 [vR m, vI part] h Q = wp G (d + 1) 206 28 [some (vR m), some (vI part), some (vL 0), none, some (vI 0)] [] h Q := by
        generalize hW : wp G (d + 1) 206 28 [some (vR m), some (vI part), some (vL 0), none, some (vI 0)] [] h Q = W
        rw [e206]
        simp (disch := omega) only [KK, Int.reduceEq, not_false_iff, ↓reduceIte, ↓if_pos, ↓if_neg, xt_o, true_and, nlO_i, nlO_n, nlO_r, List.length_nil, List.length_cons, Nat.reduceAdd, Nat.reduceLeDiff, Nat.zero_le, U206, hx, q0, q1, c1, GX13, xa_i]
        exact hW
      rw [key, N_mean_l (d := d + 1) z ok.1 rfl (s 28).toNat 0 0 (by omega) (by omega) (by omega) (by omega)]
      simp (disch := omega) only [KK, Int.reduceEq, not_false_iff, ↓reduceIte, ↓if_pos, ↓if_neg, xt_o, true_and, nlO_i, nlO_n, nlO_r, List.length_nil, List.length_cons, Nat.reduceAdd, Nat.reduceLeDiff, Nat.zero_le, U206, q0, q1, hl, GX13, xa_i]
  · have hx := fun (K : KQ) => (hx K).trans (by rw [if_neg c])
    rw [if_neg (fun q => c q.1), e206]
    simp (disch := omega) only [KK, Int.reduceEq, not_false_iff, ↓reduceIte, ↓if_pos, ↓if_neg, xt_o, true_and, nlO_i, nlO_n, nlO_r, List.length_nil, List.length_cons, Nat.reduceAdd, Nat.reduceLeDiff, Nat.zero_le, U206, hx]
theorem N_odds_l (ok : okW s) {hd f part : Int} (hh : 0 ≤ hd ∧ hd ≤ 255) (hf : 0 ≤ f ∧ f < 8) : ∀ (n : Nat) (h : MH) (H S B : Int) (i a : Int), MSX m s im hi rn bd H S B h → 0 ≤ i → i + n = s 27 → 0 ≤ a → a ≤ i → ∃ h' : MH, MS m s im hi rn bd h' ∧ mF m h h' ∧ ∀ Q : KQ, wp G (d + 5) 204 46 [some (vR m), some (vI hd), some (vI f), some (vI part), some (vL a), none, some (vI i)] [] h Q = wp G (d + 5) 204 103 [some (vR m), some (vI hd), some (vI f), some (vI part), some (vL (odF s hd f n i a)), none, some (vI (s 27))] [] h' Q := by
  have o27 := ok.1.2.2.1
  intro n
  induction n with
  | zero =>
    intro h H S B i a z i0 hin a0 a1
    have : i = s 27 := by omega
    subst this
    refine ⟨h, MSX_S z, mF_rf, fun Q => ?_⟩
    obtain ⟨⟨f0, f5, f6, f7, f8, f9, f17, f18, f21, f22, f23, q0⟩, q1, -⟩ := z
    rw [u204_46]
    simp (disch := omega) only [u204_48, u204_49, u204_52, u204_54, KK, q0, q1, GX13, xa_i]
    rw [u204_55, if_pos (Int.le_refl _)]
    rfl
  | succ n ih =>
    intro h H S B i a z i0 hin a0 a1
    have eV : eqV s (up s (21 + i) 1) := fun k hk => up_ne (by omega)
    have h01 : ∀ k, 0 ≤ k → k < 6 → up s (21 + i) 1 (21 + k) = 0 ∨ up s (21 + i) 1 (21 + k) = 1 := fun k k0 k1 => by
      by_cases e : k = i
      · rw [e, up_eq]; exact Or.inr rfl
      · rw [up_ne (by omega)]; exact ok.2.2.2.2.1 k k0 k1
    have ok2 := okW_V eV h01 ok
    have hC := CLIMB_in ok2 (way := 0) hh
    have hb := odF_in ok hh hf 1 i a
    obtain ⟨h1, u, z1, m1, F1, w1⟩ := r_keeps (G := G) (d := d + 4) z
    have z2 := MSX_s (s' := up s (21 + i) 1) z1
    have F2 : (hset h1 (m + 1) (cArr 0 937 (ix (up s (21 + i) 1)))).2.2 (m + 3) = _ := (hs_ne (by omega)).trans F1
    obtain ⟨h3, z3, m3, F3, w3⟩ := r_climbs (G := G) (d := d) z2 ok2 F2 (way := 0) (hd := hd)
    obtain ⟨h4, z4, m4, w4⟩ := r_goesBack (G := G) (d := d + 4) z3 F3 (fun k hk => eV k (by omega))
    have hbt : 0 ≤ bt (CLIMB (up s (21 + i) 1) 0 hd).1 f ∧ bt (CLIMB (up s (21 + i) 1) 0 hd).1 f ≤ 1 := by
      have := set_bt hC.1 hC.2 hf.1 hf.2
      omega
    obtain ⟨h5, z5, m5, w5⟩ := ih h4 _ _ _ (i + 1) (a + bt (CLIMB (up s (21 + i) 1) 0 hd).1 f) z4 (by omega) (by omega) (by omega) (by omega)
    refine ⟨h5, z5, mF_tr m1 (mF_tr (mF_set (by omega)) (mF_tr m3 (mF_tr m4 m5))), fun Q => ?_⟩
    rw [odF, ← w5 Q]
    generalize hW : wp G (d + 5) 204 46 [some (vR m), some (vI hd), some (vI f), some (vI part), some (vL (a + bt (CLIMB (up s (21 + i) 1) 0 hd).1 f)), none, some (vI (i + 1))] [] h4 Q = W
    obtain ⟨⟨f0, f5, f6, f7, f8, f9, f17, f18, f21, f22, f23, q0⟩, q1, -⟩ := z
    obtain ⟨⟨b0, b5, b6, b7, b8, b9, b17, b18, b21, b22, b23, p0⟩, p1, -⟩ := z1
    obtain ⟨⟨c0, c5, c6, c7, c8, c9, c17, c18, c21, c22, c23, r0⟩, r1, -⟩ := z2
    obtain ⟨⟨e0, e5, e6, e7, e8, e9, e17, e18, e21, e22, e23, t0⟩, t1, -⟩ := z3
    obtain ⟨⟨g0, g5, g6, g7, g8, g9, g17, g18, g21, g22, g23, v0⟩, v1, -⟩ := z4
    rw [u204_46]
    simp (disch := omega) only [u204_48, u204_49, u204_52, u204_54, KK, q0, q1, GX13, xa_i]
    rw [u204_55, if_neg (by omega)]
    have ebt : iBin 3 (iBin 7 (CLIMB (up s (21 + i) 1) 0 hd).1 f) 1 = bt (CLIMB (up s (21 + i) 1) 0 hd).1 f := rfl
    simp (disch := omega) only [KK, Int.reduceEq, not_false_iff, ↓reduceIte, ↓if_pos, ↓if_neg, xt_o, true_and, nlO_i, nlO_n, nlO_r, List.length_nil, List.length_cons, Nat.reduceAdd, Nat.reduceLeDiff, Nat.zero_le, u204_58, u204_59, u204_62, u204_63, u204_66, u204_68, u204_70, u204_71, u204_72, u204_73, u204_74, u204_75, u204_76, u204_79, u204_80, u204_83, u204_85, u204_86, u204_89, u204_90, u204_91, u204_92, u204_93, u204_94, u204_95, u204_97, u204_100, q0, p0, p1, r0, t0, v0, w1, w3, w4, ebt, GX13, VS13, xa_i, xs_i, ar_add, al_add]
    exact hW
theorem N_odds (ok : okP s) (z : MS m s im hi rn bd h) {hd f part : Int} : mL G m (d + 6) 204 [vI hd, vI f, vI part] (aODDS s hd f part) s im hi rn bd h := by
  have o27 := ok.1.1.2.2.1
  have zz := z
  obtain ⟨⟨f0, f5, f6, f7, f8, f9, f12, f13, f14, f17, f18, f21, f22, f23, q0⟩, q1, -⟩ := zz
  have hy := fun (K : KQ) => m_facts (G := G) (d := d + 3) (h := h) (Q := K) (x := hd)
  have hk := fun (K : KQ) => m_in (G := G) (d := d + 4) (h := h) (Q := K) (v := f) (lo := 0) (hi := 7)
  have hx := fun (K : KQ) => m_in (G := G) (d := d + 4) (h := h) (Q := K) (v := part) (lo := 0) (hi := 1)
  have idn : ∀ {r : Int}, (∀ Q : KQ, wpC G (d + 6) 204 [vR m, vI hd, vI f, vI part] h Q = Q (some (vL r)) h) → mL G m (d + 6) 204 [vI hd, vI f, vI part] r s im hi rn bd h := fun w => ⟨h, z, mF_rf, w⟩
  unfold aODDS
  by_cases c : 0 ≤ hd ∧ hd ≤ 255
  · have hy := fun (K : KQ) => (hy K).trans (by rw [if_pos c])
    by_cases c1 : 0 ≤ f ∧ f ≤ 7
    · have hk := fun (K : KQ) => (hk K).trans (by rw [if_pos c1])
      by_cases c2 : 0 ≤ part ∧ part ≤ 1
      · have hx := fun (K : KQ) => (hx K).trans (by rw [if_pos c2])
        by_cases c3 : s 27 = 0
        · rw [if_neg (fun q => q.2.2.2 c3)]
          refine idn (fun Q => ?_)
          rw [e204]
          simp (disch := omega) only [KK, Int.reduceEq, not_false_iff, ↓reduceIte, ↓if_pos, ↓if_neg, xt_o, true_and, nlO_i, nlO_n, nlO_r, List.length_nil, List.length_cons, Nat.reduceAdd, Nat.reduceLeDiff, Nat.zero_le, U204, hx, hy, hk, q0, q1, c3, GX13, xa_i]
        · rw [if_pos ⟨c, c1, c2, c3⟩]
          obtain ⟨H, S, B, zx⟩ := MS_X z
          obtain ⟨h1, z1, m1, w1⟩ := N_odds_l (G := G) (d := d) ok.1 c (f := f) (part := part) (by omega) (s 27).toNat h H S B 0 0 zx (by omega) (by omega) (by omega) (by omega)
          have hin := odF_in ok.1 c (f := f) (by omega) (s 27).toNat 0 0 (by omega) (by omega)
          have hl := fun (K : KQ) => m_lowest (G := G) (d := d + 4) (h := h1) (Q := K) (u := odF s hd f (s 27).toNat 0 0) (l := s 27) (part := part) (by omega) (by omega) (by omega) (by omega)
          refine ⟨h1, z1, m1, fun Q => ?_⟩
          have key : wpC G (d + 6) 204 [vR m, vI hd, vI f, vI part] h Q = wp G (d + 5) 204 46 [some (vR m), some (vI hd), some (vI f), some (vI part), some (vL 0), none, some (vI 0)] [] h Q := by
            generalize hW : wp G (d + 5) 204 46 [some (vR m), some (vI hd), some (vI f), some (vI part), some (vL 0), none, some (vI 0)] [] h Q = W
            rw [e204]
            simp (disch := omega) only [KK, Int.reduceEq, not_false_iff, ↓reduceIte, ↓if_pos, ↓if_neg, xt_o, true_and, nlO_i, nlO_n, nlO_r, List.length_nil, List.length_cons, Nat.reduceAdd, Nat.reduceLeDiff, Nat.zero_le, U204, hx, hy, hk, q0, q1, c3, GX13, xa_i]
            exact hW
          obtain ⟨⟨g0, g5, g6, g7, g8, g9, g12, g13, g14, g17, g18, g21, g22, g23, v0⟩, v1, -⟩ := z1
          rw [key, w1 Q]
          simp (disch := omega) only [KK, Int.reduceEq, not_false_iff, ↓reduceIte, ↓if_pos, ↓if_neg, xt_o, true_and, nlO_i, nlO_n, nlO_r, List.length_nil, List.length_cons, Nat.reduceAdd, Nat.reduceLeDiff, Nat.zero_le, U204, v0, v1, hl, GX13, xa_i]
      · have hx := fun (K : KQ) => (hx K).trans (by rw [if_neg c2])
        rw [if_neg (fun q => c2 q.2.2.1)]
        refine idn (fun Q => ?_)
        rw [e204]
        simp (disch := omega) only [KK, Int.reduceEq, not_false_iff, ↓reduceIte, ↓if_pos, ↓if_neg, xt_o, true_and, nlO_i, nlO_n, nlO_r, List.length_nil, List.length_cons, Nat.reduceAdd, Nat.reduceLeDiff, Nat.zero_le, U204, hx, hy, hk]
    · have hk := fun (K : KQ) => (hk K).trans (by rw [if_neg c1])
      rw [if_neg (fun q => c1 q.2.1)]
      refine idn (fun Q => ?_)
      rw [e204]
      simp (disch := omega) only [KK, Int.reduceEq, not_false_iff, ↓reduceIte, ↓if_pos, ↓if_neg, xt_o, true_and, nlO_i, nlO_n, nlO_r, List.length_nil, List.length_cons, Nat.reduceAdd, Nat.reduceLeDiff, Nat.zero_le, U204, hy, hk]
  · have hy := fun (K : KQ) => (hy K).trans (by rw [if_neg c])
    rw [if_neg (fun q => c q.1)]
    refine idn (fun Q => ?_)
    rw [e204]
    simp (disch := omega) only [KK, Int.reduceEq, not_false_iff, ↓reduceIte, ↓if_pos, ↓if_neg, xt_o, true_and, nlO_i, nlO_n, nlO_r, List.length_nil, List.length_cons, Nat.reduceAdd, Nat.reduceLeDiff, Nat.zero_le, U204, hy]
theorem qup2 {s : Int → Int} {i x y : Int} : up (up s i x) i y = up s i y := by
  funext k
  by_cases e : k = i
  · rw [e, up_eq, up_eq]
  · rw [up_ne e, up_ne e, up_ne e]
theorem N_fit_l (ok : okP s) {p wh : Int} (hwh : 49 ≤ wh ∧ wh < 61) {many : Nat} (hmany : many ≤ 256) (hA : ∀ v : Int, 0 ≤ v → v < many → okA (up s wh v) p) {l3 l4 l5 : Option V} (n5 : nlO l5 = true) : ∀ (k : Nat) (h : MH) (n f c : Int) (l9 : Option V), MS m (up s wh c) im hi rn bd h → k ≤ many → 0 ≤ n → n + k ≤ 1000 → nlO l9 = true → ∃ (h' : MH) (c' : Int) (l9' : Option V), MS m (up s wh c') im hi rn bd h' ∧ mF m h h' ∧ ∀ Q : KQ, wp G (d + 5) 200 18 [some (vR m), some (vI p), some (vI wh), l3, l4, l5, some (vI n), some (vI f), some (vI ((k : Int) - 1)), l9] [] h Q = wp G (d + 5) 200 73 [some (vR m), some (vI p), some (vI wh), l3, l4, l5, some (vI (fiF (fiP s p wh) k n f).1), some (vI (fiF (fiP s p wh) k n f).2), some (vI (-1)), l9'] [] h' Q := by
  intro k
  induction k with
  | zero =>
    intro h n f c l9 z hk n0 n1 n9
    refine ⟨h, c, l9, z, mF_rf, fun Q => ?_⟩
    rw [u200_18, u200_20, if_pos (by omega)]
    rfl
  | succ k ih =>
    intro h n f c l9 z hk n0 n1 n9
    have eA : eqA s (up s wh k) := fun i hi => up_ne (by omega)
    have z1 := MS_s (s' := up s wh k) z
    obtain ⟨h2, z2, m2, w2⟩ := n_asSaid (G := G) (d := d + 1) z1 (okM_A eA ok.1.1.1) (by rw [up_ne (by omega)]; exact ok.2.1) (hA k (by omega) (by omega))
    obtain ⟨⟨f0, f5, f6, f7, f8, f9, f12, f13, f14, f17, f18, f21, f22, f23, q0⟩, q1, -⟩ := z
    have ek : ((k + 1 : Nat) : Int) - 1 = k := by omega
    rw [ek]
    by_cases c1 : fiP s p wh k
    · have c1' : ASSAID (up s wh k) p = 1 := c1
      rw [c1'] at w2
      obtain ⟨h3, c', l9', z3, m3, w3⟩ := ih h2 (n + 1) k k (some (vI 1)) z2 (by omega) (by omega) (by omega) rfl
      refine ⟨h3, c', l9', z3, mF_tr (mF_set (by omega)) (mF_tr m2 m3), fun Q => ?_⟩
      rw [fiF, if_pos c1, ← w3 Q]
      generalize hW : wp G (d + 5) 200 18 _ [] h2 Q = W
      rw [u200_18, u200_20, if_neg (by omega)]
      simp (disch := omega) only [KK, Int.reduceEq, not_false_iff, ↓reduceIte, ↓if_pos, ↓if_neg, xt_o, true_and, nlO_i, nlO_n, nlO_r, List.length_nil, List.length_cons, Nat.reduceAdd, Nat.reduceLeDiff, Nat.zero_le, u200_23, u200_24, u200_27, u200_28, u200_30, u200_31, u200_32, u200_33, u200_36, u200_38, u200_40, u200_42, u200_45, u200_46, u200_49, u200_50, u200_51, u200_53, u200_55, u200_58, u200_60, u200_63, u200_65, u200_67, u200_70, q0, q1, qup2, w2, hs_ne (mi_ne (m := m)), GX13, VS13, xs_i, n5, n9, ar_add]
      exact hW
    · have c1' : ASSAID (up s wh k) p = 0 := AS_01.resolve_right c1
      rw [c1'] at w2
      obtain ⟨h3, c', l9', z3, m3, w3⟩ := ih h2 n f k (some (vI 0)) z2 (by omega) (by omega) (by omega) rfl
      refine ⟨h3, c', l9', z3, mF_tr (mF_set (by omega)) (mF_tr m2 m3), fun Q => ?_⟩
      rw [fiF, if_neg c1, ← w3 Q]
      generalize hW : wp G (d + 5) 200 18 _ [] h2 Q = W
      rw [u200_18, u200_20, if_neg (by omega)]
      simp (disch := omega) only [KK, Int.reduceEq, not_false_iff, ↓reduceIte, ↓if_pos, ↓if_neg, xt_o, true_and, nlO_i, nlO_n, nlO_r, List.length_nil, List.length_cons, Nat.reduceAdd, Nat.reduceLeDiff, Nat.zero_le, u200_23, u200_24, u200_27, u200_28, u200_30, u200_31, u200_32, u200_33, u200_36, u200_38, u200_40, u200_42, u200_45, u200_46, u200_49, u200_50, u200_51, u200_53, u200_55, u200_58, u200_60, u200_63, u200_65, u200_67, u200_70, q0, q1, qup2, w2, hs_ne (mi_ne (m := m)), GX13, VS13, xs_i, n5, n9, ar_add, Int.add_zero]
      exact hW
theorem N_fit (ok : okP s) (z : MS m s im hi rn bd h) {p wh what : Int} (hwh : 49 ≤ wh ∧ wh < 61) {many : Nat} (hmany : many ≤ 256) (hA : ∀ v : Int, 0 ≤ v → v < many → okA (up s wh v) p) : ∃ h' : MH, MS m s im hi rn bd h' ∧ mF m h h' ∧ ∀ Q : KQ, wpC G (d + 6) 200 [vR m, vI p, vI wh, vI ((many : Int) - 1), vI what] h Q = Q (some (vI (FIT s p wh many what))) h' := by
  have zz := z
  obtain ⟨⟨f0, f5, f6, f7, f8, f9, f12, f13, f14, f17, f18, f21, f22, f23, q0⟩, q1, -⟩ := zz
  obtain ⟨h1, c', l9', z1, m1, w1⟩ := N_fit_l (G := G) (d := d) ok hwh hmany hA (l3 := some (vI ((many : Int) - 1))) (l4 := some (vI what)) (l5 := some (vI (s wh))) rfl many h 0 (-5) (s wh) none (by rw [up_same rfl]; exact z) (Nat.le_refl _) (by omega) (by omega) rfl
  have z2 := MS_s (s' := up (up s wh c') wh (s wh)) z1
  rw [qup2, up_same rfl] at z2
  obtain ⟨⟨g0, g5, g6, g7, g8, g9, g12, g13, g14, g17, g18, g21, g22, g23, v0⟩, v1, -⟩ := z1
  refine ⟨_, z2, mF_tr m1 (mF_set (by omega)), fun Q => ?_⟩
  have key : wpC G (d + 6) 200 [vR m, vI p, vI wh, vI ((many : Int) - 1), vI what] h Q = wp G (d + 5) 200 18 [some (vR m), some (vI p), some (vI wh), some (vI ((many : Int) - 1)), some (vI what), some (vI (s wh)), some (vI 0), some (vI (-5)), some (vI ((many : Int) - 1)), none] [] h Q := by
    generalize hW : wp G (d + 5) 200 18 _ [] h Q = W
    rw [e200]
    simp (disch := omega) only [KK, Int.reduceEq, not_false_iff, ↓reduceIte, ↓if_pos, ↓if_neg, xt_o, true_and, nlO_i, nlO_n, nlO_r, List.length_nil, List.length_cons, Nat.reduceAdd, Nat.reduceLeDiff, Nat.zero_le, U200, q0, q1, GX13, xa_i]
    exact hW
  rw [key, w1 Q]
  unfold FIT
  by_cases c : what = 0
  · rw [if_pos c]
    simp (disch := omega) only [KK, Int.reduceEq, not_false_iff, ↓reduceIte, ↓if_pos, ↓if_neg, xt_o, true_and, nlO_i, nlO_n, nlO_r, List.length_nil, List.length_cons, Nat.reduceAdd, Nat.reduceLeDiff, Nat.zero_le, U200, v0, v1, c, GX13, xs_i, qup2, up_same (rfl : s wh = s wh)]
  · rw [if_neg c]
    simp (disch := omega) only [KK, Int.reduceEq, not_false_iff, ↓reduceIte, ↓if_pos, ↓if_neg, xt_o, true_and, nlO_i, nlO_n, nlO_r, List.length_nil, List.length_cons, Nat.reduceAdd, Nat.reduceLeDiff, Nat.zero_le, U200, v0, v1, c, GX13, xs_i, qup2, up_same (rfl : s wh = s wh)]
theorem N_knew (ok : okP s) (z : MS m s im hi rn bd h) {p what : Int} : mS G m (d + 7) 199 [vI p, vI what] (aKNEW s p what) s im hi rn bd h := by
  have zz := z
  obtain ⟨⟨f0, f5, f6, f7, f8, f9, f12, f13, f14, f17, f18, f21, f22, f23, q0⟩, q1, -⟩ := zz
  have o27 := ok.1.1.2.2.1
  have hx := fun (K : KQ) => m_isAunt (G := G) (d := d + 4) (Q := K) q0 q1 o27 (p := p)
  have hk := fun (K : KQ) => m_in (G := G) (d := d + 5) (h := h) (Q := K) (v := what) (lo := 0) (hi := 1)
  unfold aKNEW
  by_cases c0 : 0 ≤ p ∧ p < s 27
  · have hx := fun (K : KQ) => (hx K).trans (by rw [if_pos c0])
    by_cases c1 : 0 ≤ what ∧ what ≤ 1
    · have hk := fun (K : KQ) => (hk K).trans (by rw [if_pos c1])
      rw [if_pos ⟨c0, c1⟩]
      obtain ⟨p0, p1, k0, k1, v0, v1, -⟩ := ok.1.1.2.2.2.1 p c0.1 c0.2
      obtain ⟨h1, z1, m1, w1⟩ := N_fit (G := G) (d := d) ok z (p := p) (wh := 55 + p) (what := what) (many := 256) (by omega) (by omega) (fun v a0 a1 => by
        refine ⟨p0, p1, ?_⟩
        rw [up_ne (by omega), up_ne (by omega), up_eq]
        omega)
      have w1 : ∀ Q : KQ, wpC G (d + 6) 200 [vR m, vI p, vI (55 + p), vI 255, vI what] h Q = Q (some (vI (FIT s p (55 + p) 256 what))) h1 := w1
      refine ⟨h1, z1, m1, fun Q => ?_⟩
      rw [e199]
      simp (disch := omega) only [KK, Int.reduceEq, not_false_iff, ↓reduceIte, ↓if_pos, ↓if_neg, xt_o, true_and, nlO_i, nlO_n, nlO_r, List.length_nil, List.length_cons, Nat.reduceAdd, Nat.reduceLeDiff, Nat.zero_le, U199, q0, hx, hk, w1, VS13, ar_add]
    · have hk := fun (K : KQ) => (hk K).trans (by rw [if_neg c1])
      rw [if_neg (fun q => c1 q.2)]
      refine mS_id z (fun Q => ?_)
      rw [e199]
      simp (disch := omega) only [KK, Int.reduceEq, not_false_iff, ↓reduceIte, ↓if_pos, ↓if_neg, xt_o, true_and, nlO_i, nlO_n, nlO_r, List.length_nil, List.length_cons, Nat.reduceAdd, Nat.reduceLeDiff, Nat.zero_le, U199, q0, hx, hk, VS13]
  · have hx := fun (K : KQ) => (hx K).trans (by rw [if_neg c0])
    rw [if_neg (fun q => c0 q.1)]
    refine mS_id z (fun Q => ?_)
    rw [e199]
    simp (disch := omega) only [KK, Int.reduceEq, not_false_iff, ↓reduceIte, ↓if_pos, ↓if_neg, xt_o, true_and, nlO_i, nlO_n, nlO_r, List.length_nil, List.length_cons, Nat.reduceAdd, Nat.reduceLeDiff, Nat.zero_le, U199, q0, hx, VS13]
theorem N_firm (ok : okP s) (z : MS m s im hi rn bd h) {p what : Int} : mS G m (d + 7) 202 [vI p, vI what] (aFIRM s p what) s im hi rn bd h := by
  have zz := z
  obtain ⟨⟨f0, f5, f6, f7, f8, f9, f12, f13, f14, f17, f18, f21, f22, f23, q0⟩, q1, -⟩ := zz
  have o27 := ok.1.1.2.2.1
  have hx := fun (K : KQ) => m_isAunt (G := G) (d := d + 4) (Q := K) q0 q1 o27 (p := p)
  have hk := fun (K : KQ) => m_in (G := G) (d := d + 5) (h := h) (Q := K) (v := what) (lo := 0) (hi := 1)
  unfold aFIRM
  by_cases c0 : 0 ≤ p ∧ p < s 27
  · have hx := fun (K : KQ) => (hx K).trans (by rw [if_pos c0])
    by_cases c1 : 0 ≤ what ∧ what ≤ 1
    · have hk := fun (K : KQ) => (hk K).trans (by rw [if_pos c1])
      rw [if_pos ⟨c0, c1⟩]
      obtain ⟨p0, p1, k0, k1, v0, v1, n0, n1⟩ := ok.1.1.2.2.2.1 p c0.1 c0.2
      obtain ⟨h1, z1, m1, w1⟩ := N_fit (G := G) (d := d) ok z (p := p) (wh := 49 + p) (what := what) (many := 10) (by omega) (by omega) (fun v a0 a1 => by
        refine ⟨p0, p1, ?_⟩
        rw [up_ne (by omega), up_eq, up_ne (by omega)]
        omega)
      have w1 : ∀ Q : KQ, wpC G (d + 6) 200 [vR m, vI p, vI (49 + p), vI 9, vI what] h Q = Q (some (vI (FIT s p (49 + p) 10 what))) h1 := w1
      refine ⟨h1, z1, m1, fun Q => ?_⟩
      rw [e202]
      simp (disch := omega) only [KK, Int.reduceEq, not_false_iff, ↓reduceIte, ↓if_pos, ↓if_neg, xt_o, true_and, nlO_i, nlO_n, nlO_r, List.length_nil, List.length_cons, Nat.reduceAdd, Nat.reduceLeDiff, Nat.zero_le, U202, q0, hx, hk, w1, VS13, ar_add]
    · have hk := fun (K : KQ) => (hk K).trans (by rw [if_neg c1])
      rw [if_neg (fun q => c1 q.2)]
      refine mS_id z (fun Q => ?_)
      rw [e202]
      simp (disch := omega) only [KK, Int.reduceEq, not_false_iff, ↓reduceIte, ↓if_pos, ↓if_neg, xt_o, true_and, nlO_i, nlO_n, nlO_r, List.length_nil, List.length_cons, Nat.reduceAdd, Nat.reduceLeDiff, Nat.zero_le, U202, q0, hx, hk, VS13]
  · have hx := fun (K : KQ) => (hx K).trans (by rw [if_neg c0])
    rw [if_neg (fun q => c0 q.1)]
    refine mS_id z (fun Q => ?_)
    rw [e202]
    simp (disch := omega) only [KK, Int.reduceEq, not_false_iff, ↓reduceIte, ↓if_pos, ↓if_neg, xt_o, true_and, nlO_i, nlO_n, nlO_r, List.length_nil, List.length_cons, Nat.reduceAdd, Nat.reduceLeDiff, Nat.zero_le, U202, q0, hx, VS13]
end N8
