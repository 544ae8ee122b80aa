/-! looked, whole, who, mean, odds of the model -/
def mL (G : MG) (m k y : Nat) (a : List V) (r : Int) (s im : Int → Int) (hi rn : Int) (bd : Int → Int) (h : MH) : Prop := ∃ h' : MH, MS m s im hi rn bd h' ∧ mF m h h' ∧ ∀ Q : KQ, wpC G k y (vR m :: a) h Q = Q (some (vL r)) h'
section N7
variable {G : MG} {d : Nat} {m : Nat} {s s' im bd : Int → Int} {hi rn : Int} {h : MH}
theorem N_looked_l (ok : okP s) (z : MS m s im hi rn bd h) : ∀ (n : Nat) (i : Int), 0 ≤ i → i + n = s 32 → ∀ Q : KQ, wp G d 211 2 [some (vR m), some (vI i)] [] h Q = Q (some (vI (lkF s n i))) h := by
  have o32 := ok.2.2.2.1
  have o28 := ok.1.1.2.1
  obtain ⟨⟨f0, f5, f6, f7, f8, f9, f12, f13, f14, f17, f18, f21, f22, f23, q0⟩, q1, -⟩ := z
  intro n
  induction n with
  | zero =>
    intro i i0 hin Q
    have : i = s 32 := by omega
    subst this
    rw [u211_2]
    simp (disch := omega) only [KK, Int.reduceEq, not_false_iff, ↓reduceIte, ↓if_pos, ↓if_neg, xt_o, true_and, nlO_i, nlO_n, nlO_r, List.length_nil, List.length_cons, Nat.reduceAdd, Nat.reduceLeDiff, Nat.zero_le, U211, q0, q1, GX13, xa_i, Int.le_refl]
    rfl
  | succ n ih =>
    intro i i0 hin Q
    have hb := ok.2.2.2.2.2.2.2.1 i i0 (by omega)
    rw [lkF]
    by_cases c : s (1 + s (111 + i)) = s (119 + i)
    · rw [if_pos c, ← ih (i + 1) (by omega) (by omega) Q]
      generalize hW : wp G d 211 2 [some (vR m), some (vI (i + 1))] [] h Q = W
      rw [u211_2]
      simp (disch := omega) only [KK, Int.reduceEq, not_false_iff, ↓reduceIte, ↓if_pos, ↓if_neg, xt_o, true_and, nlO_i, nlO_n, nlO_r, List.length_nil, List.length_cons, Nat.reduceAdd, Nat.reduceLeDiff, Nat.zero_le, U211, q0, q1, c, GX13, xa_i, ar_add]
      exact hW
    · rw [if_neg c, u211_2]
      simp (disch := omega) only [KK, Int.reduceEq, not_false_iff, ↓reduceIte, ↓if_pos, ↓if_neg, xt_o, true_and, nlO_i, nlO_n, nlO_r, List.length_nil, List.length_cons, Nat.reduceAdd, Nat.reduceLeDiff, Nat.zero_le, U211, q0, q1, c, GX13, xa_i, ar_add]
theorem N_looked (ok : okP s) (z : MS m s im hi rn bd h) : mS G m (d + 1) 211 [] (aLOOKED s) s im hi rn bd h := by
  have o32 := ok.2.2.2.1
  refine mS_id z (fun Q => ?_)
  unfold aLOOKED
  rw [← N_looked_l (G := G) (d := d) ok z (s 32).toNat 0 (by omega) (by omega) Q]
  generalize hW : wp G d 211 2 [some (vR m), some (vI 0)] [] h Q = W
  rw [e211]
  simp (disch := omega) only [KK, Int.reduceEq, not_false_iff, ↓reduceIte, ↓if_pos, ↓if_neg, xt_o, true_and, nlO_i, nlO_n, nlO_r, List.length_nil, List.length_cons, Nat.reduceAdd, Nat.reduceLeDiff, Nat.zero_le, U211]
  exact hW
theorem N_whole_l (ok : okP s) (z : MS m s im hi rn bd h) {l1 : Option V} (n1 : nlO l1 = true) : ∀ (n : Nat) (k b : Int) (l4 : Option V), 0 ≤ k → k + n = iBin 6 1 (s 27) → nlO l4 = true → ∃ l4' : Option V, ∀ Q : KQ, wp G (d + 1) 196 15 [some (vR m), l1, some (vI b), some (vI k), l4] [] h Q = wp G (d + 1) 196 82 [some (vR m), l1, some (vI (FEW (knP s) (-1) n k b)), some (vI (iBin 6 1 (s 27))), l4'] [] h Q := by
  have o27 := ok.1.1.2.2.1
  have hsh := shl_of o27.1 o27.2
  have zz := z
  obtain ⟨⟨f0, f5, f6, f7, f8, f9, f12, f13, f14, f17, f18, f21, f22, f23, q0⟩, q1, -⟩ := zz
  intro n
  induction n with
  | zero =>
    intro k b l4 k0 hk n4
    have : k = iBin 6 1 (s 27) := by omega
    subst this
    refine ⟨l4, fun Q => ?_⟩
    rw [u196_15]
    simp (disch := omega) only [u196_16, u196_17, u196_18, u196_21, u196_23, u196_24, KK, q0, q1, GX13, xa_i]
    rw [u196_25, if_pos (Int.le_refl _)]
    rfl
  | succ n ih =>
    intro k b l4 k0 hk n4
    have hkb := fun (x : Int) (K : KQ) => m_knownBy (G := G) (d := d) (Q := K) q0 q1 o27 (x := x)
    have hc := fun (x : Int) (K : KQ) => m_countOf (G := G) (d := d) (h := h) (Q := K) (x := x)
    obtain ⟨kp, hkp⟩ : ∃ kp : Int, kp = if knP s k then 1 else 0 := ⟨_, rfl⟩
    obtain ⟨l4', hl⟩ := ih (k + 1) (if knP s k ∧ (b = -1 ∨ cnt k < cnt b) then k else b) (some (vI kp)) (by omega) (by omega) rfl
    refine ⟨l4', fun Q => ?_⟩
    rw [FEW, ← hl Q]
    generalize hW : wp G (d + 1) 196 15 [some (vR m), l1, some (vI (if knP s k ∧ (b = -1 ∨ cnt k < cnt b) then k else b)), some (vI (k + 1)), some (vI kp)] [] h Q = W
    rw [u196_15]
    simp (disch := omega) only [u196_16, u196_17, u196_18, u196_21, u196_23, u196_24, KK, q0, q1, GX13, xa_i]
    rw [u196_25, if_neg (by omega)]
    by_cases c1 : knP s k
    · have c1' : KNOWN s k = KNOWN s 63 := c1
      rw [if_pos c1] at hkp
      rw [hkp] at hW
      by_cases c2 : b = -1
      · rw [if_pos ⟨c1, Or.inl c2⟩] at hW
        simp (disch := omega) only [KK, Int.reduceEq, not_false_iff, ↓reduceIte, ↓if_pos, ↓if_neg, xt_o, true_and, nlO_i, nlO_n, nlO_r, List.length_nil, List.length_cons, Nat.reduceAdd, Nat.reduceLeDiff, Nat.zero_le, u196_28, u196_29, u196_30, u196_33, u196_34, u196_36, u196_39, u196_42, u196_43, u196_46, u196_47, u196_49, u196_51, u196_54, u196_55, u196_56, u196_59, u196_60, u196_63, u196_64, u196_67, u196_70, u196_71, u196_74, u196_75, u196_76, u196_79, q0, hkb, hc, c1', c2, VS13, n1, n4, ar_add (a := k)]
        exact hW
      · by_cases c3 : cnt k < cnt b
        · rw [if_pos ⟨c1, Or.inr c3⟩] at hW
          simp (disch := omega) only [KK, Int.reduceEq, not_false_iff, ↓reduceIte, ↓if_pos, ↓if_neg, xt_o, true_and, nlO_i, nlO_n, nlO_r, List.length_nil, List.length_cons, Nat.reduceAdd, Nat.reduceLeDiff, Nat.zero_le, u196_28, u196_29, u196_30, u196_33, u196_34, u196_36, u196_39, u196_42, u196_43, u196_46, u196_47, u196_49, u196_51, u196_54, u196_55, u196_56, u196_59, u196_60, u196_63, u196_64, u196_67, u196_70, u196_71, u196_74, u196_75, u196_76, u196_79, q0, hkb, hc, c1', c2, VS13, n1, n4, ar_add (a := k)]
          exact hW
        · rw [if_neg (fun q => q.2.elim c2 c3)] at hW
          simp (disch := omega) only [KK, Int.reduceEq, not_false_iff, ↓reduceIte, ↓if_pos, ↓if_neg, xt_o, true_and, nlO_i, nlO_n, nlO_r, List.length_nil, List.length_cons, Nat.reduceAdd, Nat.reduceLeDiff, Nat.zero_le, u196_28, u196_29, u196_30, u196_33, u196_34, u196_36, u196_39, u196_42, u196_43, u196_46, u196_47, u196_49, u196_51, u196_54, u196_55, u196_56, u196_59, u196_60, u196_63, u196_64, u196_67, u196_70, u196_71, u196_74, u196_75, u196_76, u196_79, q0, hkb, hc, c1', c2, VS13, n1, n4, ar_add (a := k)]
          exact hW
    · have c1' : ¬ KNOWN s k = KNOWN s 63 := c1
      rw [if_neg c1] at hkp
      rw [hkp, if_neg (fun q => c1 q.1)] at hW
      simp (disch := omega) only [KK, Int.reduceEq, not_false_iff, ↓reduceIte, ↓if_pos, ↓if_neg, xt_o, true_and, nlO_i, nlO_n, nlO_r, List.length_nil, List.length_cons, Nat.reduceAdd, Nat.reduceLeDiff, Nat.zero_le, u196_28, u196_29, u196_30, u196_33, u196_34, u196_36, u196_39, u196_42, u196_43, u196_46, u196_47, u196_49, u196_51, u196_54, u196_55, u196_56, u196_59, u196_60, u196_63, u196_64, u196_67, u196_70, u196_71, u196_74, u196_75, u196_76, u196_79, q0, hkb, hc, c1', VS13, n1, n4, ar_add (a := k)]
      exact hW
theorem N_whole (ok : okP s) (z : MS m s im hi rn bd h) {f : Int} : mS G m (d + 2) 196 [vI f] (if f = 0 then WHOLEs s else if f = 1 then cnt (KNOWN s 63) else -1) s im hi rn bd h := by
  have o27 := ok.1.1.2.2.1
  have hsh := shl_of o27.1 o27.2
  have zz := z
  obtain ⟨⟨f0, f5, f6, f7, f8, f9, f12, f13, f14, f17, f18, f21, f22, f23, q0⟩, q1, -⟩ := zz
  have hx := fun (K : KQ) => m_in (G := G) (d := d) (h := h) (Q := K) (v := f) (lo := 0) (hi := 1)
  have hkb := fun (x : Int) (K : KQ) => m_knownBy (G := G) (d := d) (Q := K) q0 q1 o27 (x := x)
  have hc := fun (x : Int) (K : KQ) => m_countOf (G := G) (d := d) (h := h) (Q := K) (x := x)
  refine mS_id z (fun Q => ?_)
  by_cases c : 0 ≤ f ∧ f ≤ 1
  · have hx := fun (K : KQ) => (hx K).trans (by rw [if_pos c])
    obtain ⟨l4', hl⟩ := N_whole_l (G := G) (d := d) ok z (l1 := some (vI f)) rfl (iBin 6 1 (s 27)).toNat 0 (-1) none (by omega) (by omega) rfl
    have key : wpC G (d + 2) 196 [vR m, vI f] h Q = wp G (d + 1) 196 15 [some (vR m), some (vI f), some (vI (-1)), some (vI 0), none] [] h Q := by
      generalize hW : wp G (d + 1) 196 15 [some (vR m), some (vI f), some (vI (-1)), some (vI 0), none] [] h Q = W
      rw [e196]
      simp (disch := omega) only [KK, Int.reduceEq, not_false_iff, ↓reduceIte, ↓if_pos, ↓if_neg, xt_o, true_and, nlO_i, nlO_n, nlO_r, List.length_nil, List.length_cons, Nat.reduceAdd, Nat.reduceLeDiff, Nat.zero_le, U196, hx]
      exact hW
    rw [key, hl Q]
    by_cases f0 : f = 0
    · rw [if_pos f0]
      unfold WHOLEs
      simp (disch := omega) only [KK, Int.reduceEq, not_false_iff, ↓reduceIte, ↓if_pos, ↓if_neg, xt_o, true_and, nlO_i, nlO_n, nlO_r, List.length_nil, List.length_cons, Nat.reduceAdd, Nat.reduceLeDiff, Nat.zero_le, U196, f0]
    · rw [if_neg f0, if_pos (by omega)]
      simp (disch := omega) only [KK, Int.reduceEq, not_false_iff, ↓reduceIte, ↓if_pos, ↓if_neg, xt_o, true_and, nlO_i, nlO_n, nlO_r, List.length_nil, List.length_cons, Nat.reduceAdd, Nat.reduceLeDiff, Nat.zero_le, U196, q0, f0, hkb, hc, VS13]
  · have hx := fun (K : KQ) => (hx K).trans (by rw [if_neg c])
    rw [if_neg (by omega), if_neg (by omega), e196]
    simp (disch := omega) only [KK, Int.reduceEq, not_false_iff, ↓reduceIte, ↓if_pos, ↓if_neg, xt_o, true_and, nlO_i, nlO_n, nlO_r, List.length_nil, List.length_cons, Nat.reduceAdd, Nat.reduceLeDiff, Nat.zero_le, U196, hx]
theorem n_asSaid (z : MS m s im hi rn bd h) (ok : okM s) (h30 : 0 ≤ s 30 ∧ s 30 ≤ 5) {p : Int} (oa : okA s p) : ∃ h' : MH, MS m s im hi rn bd h' ∧ mF m h h' ∧ ∀ Q : KQ, wpC G (d + 4) 201 [vR m, vI p] h Q = Q (some (vI (ASSAID s p))) h' := by
  have zz := z
  obtain ⟨⟨f0, f5, f6, f7, f8, f9, f12, f13, f14, f17, f18, f21, f22, f23, q0⟩, q1, q2, q8, u, y, t, o, b, j1, j2, j3, j4, j5⟩ := zz
  obtain ⟨y', t', w⟩ := m_isAsSaid (G := G) (d := d) q0 q1 j2 j3 ok h30 oa
  exact ⟨_, MS_scr z, mF_scr, w⟩
theorem N_who_l (ok : okP s) : ∀ (n : Nat) (h : MH) (i a : Int), MS m s im hi rn bd h → 0 ≤ i → i + n = s 27 → ∃ h' : MH, MS m s im hi rn bd h' ∧ mF m h h' ∧ ∀ Q : KQ, wp G (d + 4) 203 4 [some (vR m), some (vI a), some (vI i)] [] h Q = Q (some (vI (woF s n i a))) h' := by
  have o27 := ok.1.1.2.2.1
  intro n
  induction n with
  | zero =>
    intro h i a z i0 hin
    have : i = s 27 := by omega
    subst this
    refine ⟨h, z, mF_rf, fun Q => ?_⟩
    obtain ⟨⟨f0, f5, f6, f7, f8, f9, f12, f13, f14, f17, f18, f21, f22, f23, q0⟩, q1, -⟩ := z
    rw [u203_4]
    simp (disch := omega) only [KK, Int.reduceEq, not_false_iff, ↓reduceIte, ↓if_pos, ↓if_neg, xt_o, true_and, nlO_i, nlO_n, nlO_r, List.length_nil, List.length_cons, Nat.reduceAdd, Nat.reduceLeDiff, Nat.zero_le, U203, q0, q1, GX13, xa_i, Int.le_refl]
    rfl
  | succ n ih =>
    intro h i a z i0 hin
    obtain ⟨h1, z1, m1, w1⟩ := n_asSaid (G := G) (d := d) z ok.1.1.1 ok.2.1 (ok.1.1.2.2.2.1 i i0 (by omega))
    obtain ⟨h2, z2, m2, w2⟩ := ih h1 (i + 1) (iBin 4 a (if ASSAID s i = 1 then iBin 6 1 i else 0)) z1 (by omega) (by omega)
    refine ⟨h2, z2, mF_tr m1 m2, fun Q => ?_⟩
    rw [woF, ← w2 Q]
    generalize hW : wp G (d + 4) 203 4 [some (vR m), some (vI (iBin 4 a (if ASSAID s i = 1 then iBin 6 1 i else 0))), some (vI (i + 1))] [] h1 Q = W
    obtain ⟨⟨f0, f5, f6, f7, f8, f9, f12, f13, f14, f17, f18, f21, f22, f23, q0⟩, q1, -⟩ := z
    rw [u203_4]
    rcases AS_01 (s := s) (p := i) with c | c
    · rw [c] at w1
      rw [if_neg (by omega)] at hW
      simp (disch := omega) only [KK, Int.reduceEq, not_false_iff, ↓reduceIte, ↓if_pos, ↓if_neg, xt_o, true_and, nlO_i, nlO_n, nlO_r, List.length_nil, List.length_cons, Nat.reduceAdd, Nat.reduceLeDiff, Nat.zero_le, U203, q0, q1, w1, GX13, VS13, xa_i, ar_add]
      exact hW
    · rw [c] at w1
      rw [if_pos c] at hW
      simp (disch := omega) only [KK, Int.reduceEq, not_false_iff, ↓reduceIte, ↓if_pos, ↓if_neg, xt_o, true_and, nlO_i, nlO_n, nlO_r, List.length_nil, List.length_cons, Nat.reduceAdd, Nat.reduceLeDiff, Nat.zero_le, U203, q0, q1, w1, GX13, VS13, xa_i, ar_add]
      exact hW
theorem N_who (ok : okP s) (z : MS m s im hi rn bd h) : mS G m (d + 5) 203 [] (WHOs s) s im hi rn bd h := by
  have o27 := ok.1.1.2.2.1
  obtain ⟨h1, z1, m1, w1⟩ := N_who_l (G := G) (d := d) ok (s 27).toNat h 0 0 z (by omega) (by omega)
  refine ⟨h1, z1, m1, fun Q => ?_⟩
  unfold WHOs
  rw [← w1 Q]
  generalize hW : wp G (d + 4) 203 4 [some (vR m), some (vI 0), some (vI 0)] [] h Q = W
  rw [e203]
  simp (disch := omega) only [KK, Int.reduceEq, not_false_iff, ↓reduceIte, ↓if_pos, ↓if_neg, xt_o, true_and, nlO_i, nlO_n, nlO_r, List.length_nil, List.length_cons, Nat.reduceAdd, Nat.reduceLeDiff, Nat.zero_le, U203]
  exact hW
end N7
