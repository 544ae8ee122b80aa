/-! calls of the class that change what is told -/
theorem okM_g {s s' : Int → Int} (e0 : s' 0 = s 0) (e34 : s' 34 = s 34) (e : ∀ k, 227 ≤ k → s' k = s k) (ok : okM s) : okM s' := by
  obtain ⟨o1, o2, o3, o4, o5, o6, o7⟩ := ok
  have eS : STEPM s' = STEPM s := by
    unfold STEPM
    rw [e34]
    by_cases c : s 34 = -1
    · rw [if_pos c, if_pos c]
    · rw [if_neg c, if_neg c, e _ (by omega)]
  have hS0 : s 34 = -1 → STEPM s = 0 := fun c => if_pos c
  refine ⟨by omega, by omega, by omega, by omega, ?_, by omega, by omega⟩
  rw [eS, e34, seg_cg _ _ (fun k hk hk2 => e k (by
    by_cases c : s 34 = -1
    · have := hS0 c; omega
    · omega))]
  exact o5
/-- nothing but what was said, planned, booked, taped is changed -/
theorem okW_hi {s s' : Int → Int} (e : ∀ i, (i < 30 ∨ (34 ≤ i ∧ i < 85) ∨ 227 ≤ i) → s' i = s i) (ok : okW s) : okW s' := by
  obtain ⟨⟨o1, o2, o3, o4, o5⟩, o34, o29, oWt, oAw, oN, oA⟩ := ok
  refine ⟨⟨okM_g (e 0 (by omega)) (e 34 (by omega)) (fun k hk => e k (by omega)) o1, by rw [e 28 (by omega)]; exact o2, by rw [e 27 (by omega)]; exact o3, fun p p0 p1 => ?_, fun a a0 a1 => by rw [e _ (by omega)]; exact o5 a a0 a1⟩, by rw [e 34 (by omega), e 29 (by omega)]; exact o34, by rw [e 29 (by omega)]; exact o29, fun f f0 f1 => by rw [e _ (by omega)]; exact oWt f f0 f1, fun k k0 k1 => by rw [e _ (by omega)]; exact oAw k k0 k1, fun i i0 i1 => by rw [e _ (by omega)]; exact oN i i0 i1, fun a a0 a1 => ?_⟩
  · rw [e 27 (by omega)] at p1
    obtain ⟨r0, r1, r⟩ := o4 p p0 p1
    refine ⟨r0, r1, ?_⟩
    rw [e (43 + p) (by omega), e (49 + p) (by omega), e (55 + p) (by omega)]
    exact r
  · rw [e (16 + a) (by omega), e (1 + a) (by omega), e (6 + a) (by omega), e (11 + a) (by omega)]
    exact oA a a0 a1
section U1
variable {G : MG} {d : Nat} {Q : KQ} {gb : Nat} {Bs X : Nat → Prop} {ad ad' : Int → Nat} {b : Int} {w lo : Nat} {vd vn vn' vi vt : Int → Nat} {s s' si st bd : Int → Int} {hi rn : Int} {h h' : MH}
theorem qWY_cg (z : qWY G Bs ad b w vd s h) (o : s 27 ≤ 6 ∧ s 28 ≤ 5 ∧ s 29 ≤ 5) (e : ∀ i, ((1 ≤ i ∧ i ≤ 20) ∨ (27 ≤ i ∧ i ≤ 29) ∨ (43 ≤ i ∧ i < 85) ∨ 227 ≤ i) → s' i = s i) : qWY G Bs ad b w vd s' h := by
  obtain ⟨y1, y2, y3, y4, y5, y6⟩ := z
  unfold qWY
  rw [e 27 (by omega), e 28 (by omega), e 29 (by omega)]
  refine ⟨y1, y2, y3, fun i i0 i1 => qAW_cg (y4 i i0 i1) (e _ (by omega)) (e _ (by omega)) (e _ (by omega)) (fun k k0 k1 => e _ (by omega)), fun i i0 i1 => ?_, fun i i0 i1 => ?_⟩
  · unfold qAK
    rw [e (1 + i) (by omega), e (6 + i) (by omega), e (11 + i) (by omega), e (16 + i) (by omega)]
    exact y5 i i0 i1
  · refine qVL_cg (y6 i i0 i1) ?_ (e _ (by omega))
    unfold stepsOf
    rw [e (232 + i) (by omega)]
    exact seg_cg _ _ (fun k hk hk2 => e k (by omega))
theorem K_gen (z : qK G Bs ad vn vi vt s si st hi rn bd h) (gq : qG G ad' h') (f : qFr G.1 Bs X h h') (hX : ∀ a, X a → (G.1 + 1 ≤ a ∧ a < G.1 + 67) ∨ G.1 + 79 ≤ a) (hc : h.1 ≤ h'.1) (zn : qW G Bs ad' 0 (G.1 + 1) vn' s' h') (zi : qW G Bs ad' 100 (G.1 + 23) vi si h') (zt : qW G Bs ad' 200 (G.1 + 45) vt st h') (okp : okP s') (hv : ∀ i, 0 ≤ i → i < s' 29 → G.1 + 79 ≤ vn' i) : qK G Bs ad' vn' vi vt s' si st hi rn bd h' ∧ qFr G.1 Bs (X0 G.1) h h' := by
  obtain ⟨-, hB, hf, ⟨hx, hhi⟩, -, -, -, ⟨o1, o2, o3⟩, ⟨g, r⟩, r0, r1, q1, q2, q3, q4, q5, q6⟩ := z
  have nx : ∀ a, (a < G.1 + 1 ∨ (G.1 + 67 ≤ a ∧ a < G.1 + 79)) → ¬ X a := fun a ha q => by have := hX a q; omega
  exact ⟨⟨⟨gq.1, gq.2.1⟩, fun a ha => ⟨by have := (hB a ha).1; omega, (hB a ha).2⟩, qFs_fr f hf, ⟨fr_o f hx (nx _ (by omega)), hhi⟩, zn, zi, zt, ⟨okp, o2, o3⟩, ⟨g, qRW_fr r f (by decide) (nx _ (by omega)) (nx _ (by omega)) (nx _ (by omega))⟩, r0, r1, hv, q2, q3, gq.2.2, fr_r f q5 (nx _ (by omega)), q6⟩, qFr_wk f (fun a q => by have := hX a q; unfold X0; omega)⟩
/-- fixed cells of now alone are written -/
theorem K_now (z : qK G Bs ad vn vi vt s si st hi rn bd h) (f : qFr G.1 Bs X h h') (hX : ∀ a, X a → G.1 + 1 ≤ a ∧ a < G.1 + 23) (hc : h'.1 = h.1) (zn : qW G Bs ad 0 (G.1 + 1) vn s' h') (okp : okP s') (e29 : s' 29 = s 29) : qK G Bs ad vn vi vt s' si st hi rn bd h' ∧ qFr G.1 Bs (X0 G.1) h h' := by
  have oi := K_pi z
  have ot := K_pt z
  exact K_gen z (qG_mo (K_G z) (by omega)) f (fun a q => by have := hX a q; omega) (by omega) zn (qW_fa (K_A z) (K_i z) f (okW_k oi.1) ⟨oi.1.1.2.2.1.2, oi.1.1.2.1.2⟩ (K_vi z) (fun a q => by have := hX a q; omega)) (qW_fa (K_A z) (K_t z) f (okW_k ot) ⟨ot.1.2.2.1.2, ot.1.2.1.2⟩ (K_vt z) (fun a q => by have := hX a q; omega)) okp (by rw [e29]; exact K_vn z)
theorem c_rclear {o cap : Nat} {n : Int} {f g : Int → Int} (z : qRW h o cap n f g) (hX : X o) (f' g' : Int → Int) : ∃ h' : MH, qRW h' o cap 0 f' g' ∧ qFr gb Bs X h h' ∧ (h'.1 = h.1 ∧ h'.2.1 = h.2.1) ∧ ∀ Q : KQ, wpC G (d + 1) 88 [vR o] h Q = Q (some (vI 0)) h' := by
  obtain ⟨r1, r2, q1, q2, q3, q4⟩ := z
  have n1 : ¬ o + 1 = o := by omega
  have n2 : ¬ o + 2 = o := by omega
  refine ⟨hset h o (cObj 7 [vR (o + 1), vR (o + 2), vI 0]), ⟨r1, r2, hs_eq, (hs_ne n1).trans q2, (hs_ne n2).trans q3, fun i i0 i1 i2 => by omega⟩, qFr_set hX q1, ⟨rfl, rfl⟩, fun Q => ?_⟩
  rw [e88]
  simp (disch := omega) only [KK, Int.reduceEq, not_false_iff, ↓reduceIte, ↓if_pos, ↓if_neg, xt_o, true_and, nlO_i, nlO_n, nlO_r, List.length_nil, List.length_cons, Nat.reduceAdd, Nat.reduceLeDiff, Nat.zero_le, U88, q1, hs_eq, GX7, PX7]
theorem c_isFull {o cap : Nat} {n : Int} {f g : Int → Int} (z : qRW h o cap n f g) : wpC G (d + 1) 89 [vR o] h Q = Q (some (vI (if (cap : Int) ≤ n then 1 else 0))) h := by
  obtain ⟨r1, r2, q1, q2, q3, q4⟩ := z
  rw [e89]
  by_cases c : (cap : Int) ≤ n
  · rw [if_pos c]
    simp (disch := omega) only [KK, Int.reduceEq, not_false_iff, ↓reduceIte, ↓if_pos, ↓if_neg, xt_o, true_and, nlO_i, nlO_n, nlO_r, List.length_nil, List.length_cons, Nat.reduceAdd, Nat.reduceLeDiff, Nat.zero_le, U89, q1, q2, GX7, xl_a, true_or, or_true]
  · rw [if_neg c]
    simp (disch := omega) only [KK, Int.reduceEq, not_false_iff, ↓reduceIte, ↓if_pos, ↓if_neg, xt_o, true_and, nlO_i, nlO_n, nlO_r, List.length_nil, List.length_cons, Nat.reduceAdd, Nat.reduceLeDiff, Nat.zero_le, U89, q1, q2, GX7, xl_a, true_or, or_true]
theorem c_put {o cap : Nat} {n x y : Int} {f g f' g' : Int → Int} (z : qRW h o cap n f g) (hn : 0 ≤ n ∧ n ≤ 1000) (hX : X o ∧ X (o + 1) ∧ X (o + 2)) (hf : ∀ i, 0 ≤ i → i < n → i < cap → f' i = f i ∧ g' i = g i) (hf2 : n < cap → f' n = x ∧ g' n = y) : ∃ h' : MH, qRW h' o cap (n + 1) f' g' ∧ qFr gb Bs X h h' ∧ (h'.1 = h.1 ∧ h'.2.1 = h.2.1) ∧ ∀ Q : KQ, wpC G (d + 1) 90 [vR o, vI x, vI y] h Q = Q (some (vI (n + 1))) h' := by
  obtain ⟨r1, r2, q1, q2, q3, q4⟩ := z
  have n1 : ¬ o = o + 1 := by omega
  have n2 : ¬ o = o + 2 := by omega
  have n3 : ¬ o + 2 = o + 1 := by omega
  have n4 : ¬ o + 1 = o + 2 := by omega
  by_cases c : n < cap
  · refine ⟨hset (hset (hset h (o + 1) (cArr 0 cap (ix (up r1 n x)))) (o + 2) (cArr 0 cap (ix (up r2 n y)))) o (cObj 7 [vR (o + 1), vR (o + 2), vI (n + 1)]), ⟨up r1 n x, up r2 n y, hs_eq, (hs_ne (fun q => n1 q.symm)).trans ((hs_ne n4).trans hs_eq), (hs_ne (fun q => n2 q.symm)).trans hs_eq, fun i i0 i1 i2 => ?_⟩, qFr_tr (qFr_set hX.2.1 q2) (qFr_tr (qFr_set hX.2.2 ((hs_ne n3).trans q3)) (qFr_set hX.1 ((hs_ne n2).trans ((hs_ne n1).trans q1)))), ⟨rfl, rfl⟩, fun Q => ?_⟩
    · by_cases e : i = n
      · rw [e, up_eq, up_eq]
        exact ⟨(hf2 c).1.symm, (hf2 c).2.symm⟩
      · rw [up_ne e, up_ne e]
        have h1 := q4 i i0 (by omega) i2
        have h2 := hf i i0 (by omega) i2
        exact ⟨h1.1.trans h2.1.symm, h1.2.trans h2.2.symm⟩
    · rw [e90]
      simp (disch := omega) only [KK, Int.reduceEq, not_false_iff, ↓reduceIte, ↓if_pos, ↓if_neg, xt_o, true_and, nlO_i, nlO_n, nlO_r, List.length_nil, List.length_cons, Nat.reduceAdd, Nat.reduceLeDiff, Nat.zero_le, U90, q1, q2, q3, hs_ne n1, hs_ne n2, hs_ne n3, hs_eq, GX7, PX7, xl_a, xs_i, ar_add (a := n)]
  · refine ⟨hset h o (cObj 7 [vR (o + 1), vR (o + 2), vI (n + 1)]), ⟨r1, r2, hs_eq, (hs_ne (fun q => n1 q.symm)).trans q2, (hs_ne (fun q => n2 q.symm)).trans q3, fun i i0 i1 i2 => ?_⟩, qFr_set hX.1 q1, ⟨rfl, rfl⟩, fun Q => ?_⟩
    · have h1 := q4 i i0 (by omega) i2
      have h2 := hf i i0 (by omega) i2
      exact ⟨h1.1.trans h2.1.symm, h1.2.trans h2.2.symm⟩
    · rw [e90]
      simp (disch := omega) only [KK, Int.reduceEq, not_false_iff, ↓reduceIte, ↓if_pos, ↓if_neg, xt_o, true_and, nlO_i, nlO_n, nlO_r, List.length_nil, List.length_cons, Nat.reduceAdd, Nat.reduceLeDiff, Nat.zero_le, U90, q1, q2, hs_eq, GX7, PX7, xl_a, ar_add (a := n)]
end U1
