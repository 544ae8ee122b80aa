/-! rows of aunts as told -/
section U6
variable {G : MG} {d : Nat} {Q : KQ} {gb : Nat} {Bs X : Nat → Prop} {ad ad' : Int → Nat} {b : Int} {w lo : Nat} {vd vn vn' vi vt : Int → Nat} {s s' si st bd : Int → Int} {hi rn : Int} {h h' : MH}
theorem AF9 {a r y pc : Nat} {k p v kn : Int} {L : Loc'} {st : List V} (hk : 0 ≤ k ∧ k ≤ 6) : xTag (some (AUC r k p v kn)) (kF 9 G d y pc L st h Q) = wp G d y pc L (vI (if k = 6 then 1 else 0) :: st) h Q := by
  rcases k7 hk with e | e | e | e | e | e | e <;> subst e
  · rw [AUC_0, if_neg (by decide)]; simp only [xt_o, KK, OKS, true_and, Bool.false_eq_true, ↓reduceIte]
  · rw [AUC_1, if_neg (by decide)]; simp only [xt_o, KK, OKS, true_and, Bool.false_eq_true, ↓reduceIte]
  · rw [AUC_2, if_neg (by decide)]; simp only [xt_o, KK, OKS, true_and, Bool.false_eq_true, ↓reduceIte]
  · rw [AUC_3, if_neg (by decide)]; simp only [xt_o, KK, OKS, true_and, Bool.false_eq_true, ↓reduceIte]
  · rw [AUC_4, if_neg (by decide)]; simp only [xt_o, KK, OKS, true_and, Bool.false_eq_true, ↓reduceIte]
  · rw [AUC_5, if_neg (by decide)]; simp only [xt_o, KK, OKS, true_and, Bool.false_eq_true, ↓reduceIte]
  · rw [AUC_6, if_pos rfl]; simp only [xt_o, KK, OKS, true_and, ↓reduceIte]
theorem A_row (z : qK G Bs ad vn vi vt s si st hi rn bd h) {p k n : Int} : cS G (d + 5) 9 [vI p, vI k, vI n] (vI (rROW s p k n)) (tROW s p k n) si hi rn bd h := by
  have hx := K_x z
  have zn := (K_n z).1.1
  have ok := (K_p z).1
  have o27 := ok.1.2.2.1
  have hH := fun (K : KQ) => K_has (d := d + 2) (Q := K) z (i := p)
  have hF := fun (K : KQ) => c_isDigit (G := G) (d := d + 3) (h := h) (Q := K) (f := n)
  unfold rROW tROW
  by_cases c : 0 ≤ p ∧ p < s 27
  · have hH := fun (K : KQ) => (hH K).trans (by rw [if_pos c])
    by_cases ck : 0 ≤ k ∧ k ≤ 3
    · rw [if_pos ⟨c, ck⟩]
      by_cases c2 : 0 ≤ n ∧ n ≤ 9
      · have hF := fun (K : KQ) => (hF K).trans (by rw [if_pos c2])
        rw [if_pos c2]
        have hA := (K_n z).2.2.2.2.1 p c.1 c.2
        have hk7 := okW_k ok p c.1 c.2
        have hau := hA.1
        have oA := ok.1.2.2.2.1 p c.1 c.2
        have hgt := fun (K : KQ) => ll_get (G := G) (d := d + 1) (Q := K) (K_n z).2.1 (i := p) c
        have htg := fun (K : Nat → Prop) => ll_tag (K_n z).2.1 (K := K)
        have hAF := fun (pc : Nat) (L : Loc') (st : List V) (Q : KQ) => AF9 (G := G) (d := d + 4) (h := h) (Q := Q) (a := 0) (r := ad (0 + p) + 1) (k := s (43 + p)) (p := p) (v := s (49 + p)) (kn := s (55 + p)) (y := 9) (pc := pc) (L := L) (st := st) hk7
        by_cases c6 : s (43 + p) = 6
        · rw [if_pos c6, if_pos ⟨⟨c, ck⟩, c2, c6⟩]
          have hAF := fun (pc : Nat) (L : Loc') (st : List V) (Q : KQ) => (hAF pc L st Q).trans (by rw [if_pos c6])
          obtain ⟨ro, r1, r2⟩ := hA.2 c6
          have hro := r2 k ck.1 (by omega)
          have e : ∀ i, ¬ i = 61 + 4 * p + k → up s (61 + 4 * p + k) n i = s i := fun i hi => up_ne hi
          have f1 : qFr G.1 Bs (fun q => q = ad (0 + p) + 1) h (hset h (ad (0 + p) + 1) (cArr 0 4 (ix (up ro k n)))) := qFr_set rfl r1
          have hne : ¬ ad (0 + p) = ad (0 + p) + 1 := by omega
          have za : qAW (ad (0 + p)) (ad (0 + p) + 1) (up s (61 + 4 * p + k) n) p (hset h (ad (0 + p) + 1) (cArr 0 4 (ix (up ro k n)))) := by
            refine ⟨?_, fun q => ⟨up ro k n, hs_eq, fun j j0 j1 => ?_⟩⟩
            · rw [hs_ne hne, e _ (by omega), e _ (by omega), e _ (by omega)]; exact hau
            · by_cases q : j = k
              · rw [q, up_eq, up_eq]; exact ⟨rfl, c2⟩
              · rw [up_ne q, e _ (by omega)]; exact r2 j j0 j1
          obtain ⟨z1, z2⟩ := K_aunt z c f1 ⟨rfl, rfl⟩ (fun a q => Or.inr ⟨q, c6⟩) (fun i hi => e i (by omega)) (fun q q0 q1 qn => ⟨e _ (by omega), e _ (by omega), fun j j0 j1 => e _ (by omega)⟩) (by
            obtain ⟨r0, r1, r2, r3, r4, r5, r6, r7⟩ := oA
            refine ⟨r0, r1, ?_⟩
            rw [e (43 + p) (by omega), e (49 + p) (by omega), e (55 + p) (by omega)]
            omega) za
          have hau6 : h.2.2 (ad (0 + p)) = some (cObj 9 [vI p, vI (s (49 + p)), vI (s (55 + p)), vR (ad (0 + p) + 1)]) := by rw [hau, c6, AUC_6]
          have hwr : ∀ Q : KQ, wpC G (d + 4) 134 [vR (ad (0 + p)), vI k, vI n] h Q = Q (some (vI (s (61 + 4 * p + k)))) (hset h (ad (0 + p) + 1) (cArr 0 4 (ix (up ro k n)))) := fun Q => by
            rw [e134, ← hro.1]
            simp (disch := omega) only [KK, Int.reduceEq, not_false_iff, ↓reduceIte, ↓if_pos, ↓if_neg, xt_o, true_and, nlO_i, nlO_n, nlO_r, List.length_nil, List.length_cons, Nat.reduceAdd, Nat.reduceLeDiff, Nat.zero_le, U134, hau6, r1, GX9, xa_i, xs_i]
          refine ⟨Bs, ad, vn, vi, vt, st, _, z1, z2, ⟨Nat.le_refl _, by rw [hs_1]; omega⟩, ⟨Nat.le_refl _, by rw [hs_2]; omega⟩, fun Q => ?_⟩
          rw [hau, c6] at hau
          have hAF6 := fun (pc : Nat) (L : Loc') (st : List V) (Q : KQ) => AF9 (G := G) (d := d + 4) (h := h) (Q := Q) (a := 0) (r := ad (0 + p) + 1) (k := 6) (p := p) (v := s (49 + p)) (kn := s (55 + p)) (y := 9) (pc := pc) (L := L) (st := st) (by omega)
          rw [e9]
          simp (disch := omega) only [KK, Int.reduceEq, not_false_iff, ↓reduceIte, ↓if_pos, ↓if_neg, xt_o, true_and, nlO_i, nlO_n, nlO_r, List.length_nil, List.length_cons, Nat.reduceAdd, Nat.reduceLeDiff, Nat.zero_le, U9, hx, zn, hH, hF, hgt, htg, hau6, hwr, OKS, GX12, GX11, VS11, VS0, VS9, true_or, or_true]
        · rw [if_neg c6, if_neg (fun q => c6 q.2.2)]
          have hAF := fun (pc : Nat) (L : Loc') (st : List V) (Q : KQ) => (hAF pc L st Q).trans (by rw [if_neg c6])
          refine cQ_S (cQ_id z (fun Q => ?_))
          rw [e9]
          simp (disch := omega) only [KK, Int.reduceEq, not_false_iff, ↓reduceIte, ↓if_pos, ↓if_neg, xt_o, true_and, nlO_i, nlO_n, nlO_r, List.length_nil, List.length_cons, Nat.reduceAdd, Nat.reduceLeDiff, Nat.zero_le, U9, hx, zn, hH, hF, hgt, htg, hau, hAF, GX12, GX11, VS11, VS0, true_or, or_true]
      · have hF := fun (K : KQ) => (hF K).trans (by rw [if_neg c2])
        rw [if_neg c2, if_neg (fun q => c2 q.2.1)]
        refine cQ_S (cQ_id z (fun Q => ?_))
        rw [e9]
        simp (disch := omega) only [KK, Int.reduceEq, not_false_iff, ↓reduceIte, ↓if_pos, ↓if_neg, xt_o, true_and, nlO_i, nlO_n, nlO_r, List.length_nil, List.length_cons, Nat.reduceAdd, Nat.reduceLeDiff, Nat.zero_le, U9, hx, zn, hH, hF, GX12, VS11, true_or, or_true]
    · rw [if_neg (fun q => ck q.2), if_neg (fun q => ck q.1.2)]
      refine cQ_S (cQ_id z (fun Q => ?_))
      rw [e9]
      by_cases c1 : k < 0
      · simp (disch := omega) only [KK, Int.reduceEq, not_false_iff, ↓reduceIte, ↓if_pos, ↓if_neg, xt_o, true_and, nlO_i, nlO_n, nlO_r, List.length_nil, List.length_cons, Nat.reduceAdd, Nat.reduceLeDiff, Nat.zero_le, U9, hx, zn, hH, GX12, VS11, true_or, or_true]
      · simp (disch := omega) only [KK, Int.reduceEq, not_false_iff, ↓reduceIte, ↓if_pos, ↓if_neg, xt_o, true_and, nlO_i, nlO_n, nlO_r, List.length_nil, List.length_cons, Nat.reduceAdd, Nat.reduceLeDiff, Nat.zero_le, U9, hx, zn, hH, GX12, VS11, true_or, or_true]
  · have hH := fun (K : KQ) => (hH K).trans (by rw [if_neg c])
    rw [if_neg (fun q => c q.1), if_neg (fun q => c q.1.1)]
    refine cQ_S (cQ_id z (fun Q => ?_))
    rw [e9]
    simp (disch := omega) only [KK, Int.reduceEq, not_false_iff, ↓reduceIte, ↓if_pos, ↓if_neg, xt_o, true_and, nlO_i, nlO_n, nlO_r, List.length_nil, List.length_cons, Nat.reduceAdd, Nat.reduceLeDiff, Nat.zero_le, U9, hx, zn, hH, GX12, VS11, true_or, or_true]
end U6
