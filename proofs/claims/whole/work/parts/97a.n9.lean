/-! act of the model -/
section N9
variable {G : MG} {d : Nat} {m : Nat} {s s' im bd : Int → Int} {hi rn H S B : Int} {h : MH}
theorem N_act (ok : okP s) (z : MS m s im hi rn bd h) {a k x : Int} : mS G m (d + 8) 212 [vI a, vI k, vI x] (rACT s a k x) s im hi ((lACT s a k).length : Int) (rbL bd 0 (lACT s a k)) h := by
  have zz := z
  obtain ⟨⟨f0, f5, f6, f7, f8, f9, f12, f13, f14, f17, f18, f21, f22, f23, q0⟩, q1, q2, q8, j⟩ := zz
  have o27 := ok.1.1.2.2.1
  obtain ⟨h1, hh1⟩ : ∃ h1, h1 = hset h m (mO m f0 hi f5 f6 f7 f8 f9 f12 f13 f14 f17 f18 0 f21 f22 f23) := ⟨_, rfl⟩
  have p0 : h1.2.2 m = some (mO m f0 hi f5 f6 f7 f8 f9 f12 f13 f14 f17 f18 0 f21 f22 f23) := by rw [hh1]; exact hs_eq
  have p1 : h1.2.2 (m + 1) = some (cArr 0 937 (ix s)) := by rw [hh1]; exact (hs_ne (by omega)).trans q1
  have p2 : h1.2.2 (m + 2) = some (cArr 0 937 (ix im)) := by rw [hh1]; exact (hs_ne (by omega)).trans q2
  have p8 : h1.2.2 (m + 8) = some (cArr 0 20 (ix bd)) := by rw [hh1]; exact (hs_ne (by omega)).trans q8
  have pj : mJ m h1 := by rw [hh1]; exact mJ_set (by omega) j
  have pF : mF m h h1 := by rw [hh1]; exact mF_set (by omega)
  have hx := fun (K : KQ) => m_isAunt (G := G) (d := d + 5) (Q := K) p0 p1 o27 (p := a)
  have hk := fun (K : KQ) => m_in (G := G) (d := d + 6) (h := h1) (Q := K) (v := k) (lo := 0) (hi := 2)
  have key : ∀ Q : KQ, wpC G (d + 8) 212 [vR m, vI a, vI k, vI x] h Q = wp G (d + 7) 212 5 [some (vR m), some (vI a), some (vI k), some (vI x)] [] h1 Q := fun Q => by
    rw [e212]
    simp (disch := omega) only [KK, Int.reduceEq, not_false_iff, ↓reduceIte, ↓if_pos, ↓if_neg, xt_o, true_and, nlO_i, nlO_n, nlO_r, List.length_nil, List.length_cons, Nat.reduceAdd, Nat.reduceLeDiff, Nat.zero_le, u212_0, u212_1, u212_2, q0, GX13, PX13, or_true, true_or]
    rw [hh1]
  have zero : lACT s a k = [] → rACT s a k x = 0 → (∀ Q : KQ, wp G (d + 7) 212 5 [some (vR m), some (vI a), some (vI k), some (vI x)] [] h1 Q = Q (some (vI 0)) h1) → mS G m (d + 8) 212 [vI a, vI k, vI x] (rACT s a k x) s im hi ((lACT s a k).length : Int) (rbL bd 0 (lACT s a k)) h := fun e1 e2 w => by
    rw [e1, e2]
    exact ⟨h1, ⟨⟨f0, f5, f6, f7, f8, f9, f12, f13, f14, f17, f18, f21, f22, f23, p0⟩, p1, p2, p8, pj⟩, pF, fun Q => (key Q).trans (w Q)⟩
  by_cases c0 : 0 ≤ a ∧ a < s 27
  · have hx := fun (K : KQ) => (hx K).trans (by rw [if_pos c0])
    by_cases c1 : 0 ≤ k ∧ k ≤ 2
    · have hk := fun (K : KQ) => (hk K).trans (by rw [if_pos c1])
      obtain ⟨h2, hh2⟩ : ∃ h2, h2 = hset h1 m (mO m f0 hi f5 f6 f7 f8 f9 f12 f13 f14 f17 f18 0 (s (43 + a)) a (s (49 + a))) := ⟨_, rfl⟩
      have r0 : h2.2.2 m = some (mO m f0 hi f5 f6 f7 f8 f9 f12 f13 f14 f17 f18 0 (s (43 + a)) a (s (49 + a))) := by rw [hh2]; exact hs_eq
      have r1 : h2.2.2 (m + 1) = some (cArr 0 937 (ix s)) := by rw [hh2]; exact (hs_ne (by omega)).trans p1
      have r2 : h2.2.2 (m + 2) = some (cArr 0 937 (ix im)) := by rw [hh2]; exact (hs_ne (by omega)).trans p2
      have r8 : h2.2.2 (m + 8) = some (cArr 0 20 (ix bd)) := by rw [hh2]; exact (hs_ne (by omega)).trans p8
      have rj : mJ m h2 := by rw [hh2]; exact mJ_set (by omega) pj
      have rF : mF m h h2 := mF_tr pF (by rw [hh2]; exact mF_set (by omega))
      have key2 : ∀ Q : KQ, wp G (d + 7) 212 5 [some (vR m), some (vI a), some (vI k), some (vI x)] [] h1 Q = wp G (d + 7) 212 55 [some (vR m), some (vI a), some (vI k), some (vI x)] [] h2 Q := fun Q => by
        simp (disch := omega) only [KK, Int.reduceEq, not_false_iff, ↓reduceIte, ↓if_pos, ↓if_neg, xt_o, true_and, nlO_i, nlO_n, nlO_r, List.length_nil, List.length_cons, Nat.reduceAdd, Nat.reduceLeDiff, Nat.zero_le, u212_5, u212_6, u212_7, u212_10, u212_13, u212_14, u212_15, u212_16, u212_19, u212_24, u212_25, u212_26, u212_29, u212_31, u212_32, u212_33, u212_34, u212_37, u212_38, u212_39, u212_42, u212_43, u212_44, u212_47, u212_49, u212_50, u212_51, u212_52, p0, p1, hx, hk, hs_eq, hs_hs, hs_ne (mi_ne (m := m)), hs_ne (show ¬ m + 1 = m by omega), GX13, PX13, VS13, xa_i, ar_add, or_true, true_or]
        rw [hh2]
      have fin : ∀ (L : List Int) (val : Int) (b' : Int → Int), L = lACT s a k → val = rACT s a k x → (∀ Q : KQ, wp G (d + 7) 212 55 [some (vR m), some (vI a), some (vI k), some (vI x)] [] h2 Q = Q (some (vI val)) (hset (hset h2 (m + 8) (cArr 0 20 (ix (rbL bd 0 L)))) m (mO m f0 hi f5 f6 f7 f8 f9 f12 f13 f14 f17 f18 (0 + (L.length : Int)) (s (43 + a)) a (s (49 + a))))) → mS G m (d + 8) 212 [vI a, vI k, vI x] (rACT s a k x) s im hi ((lACT s a k).length : Int) (rbL bd 0 (lACT s a k)) h := by
        intro L val b' eL ev w
        subst eL; subst ev
        rw [Int.zero_add] at w
        exact ⟨_, ⟨⟨f0, f5, f6, f7, f8, f9, f12, f13, f14, f17, f18, _, _, _, hs_eq⟩, (hs_ne (by omega)).trans ((hs_ne (by omega)).trans r1), (hs_ne (by omega)).trans ((hs_ne (by omega)).trans r2), (hs_ne (by omega)).trans hs_eq, mJ_set (by omega) (mJ_set (by omega) rj)⟩, mF_tr rF (mF_tr (mF_set (by omega)) (mF_set (by omega))), fun Q => (key Q).trans ((key2 Q).trans (w Q))⟩
      by_cases k0 : k = 0
      · refine fin (riB (s (43 + a))) (riV (s (43 + a)) a x) bd ?_ ?_ (fun Q => ?_)
        · unfold lACT; rw [if_pos ⟨c0, c1⟩, if_pos k0]
        · unfold rACT; rw [if_pos ⟨c0, c1⟩, if_pos k0]
        · have hr := fun (K : KQ) => m_ringsActs (G := G) (d := d + 4) (Q := K) r0 r8 (by omega) (x := x)
          simp (disch := omega) only [KK, Int.reduceEq, not_false_iff, ↓reduceIte, ↓if_pos, ↓if_neg, xt_o, true_and, nlO_i, nlO_n, nlO_r, List.length_nil, List.length_cons, Nat.reduceAdd, Nat.reduceLeDiff, Nat.zero_le, U212, r0, k0, hr, VS13]
      · by_cases k1 : k = 1
        · refine fin (asB (s (43 + a))) (asV (s (43 + a)) a (s (49 + a)) x) bd ?_ ?_ (fun Q => ?_)
          · unfold lACT; rw [if_pos ⟨c0, c1⟩, if_neg k0, if_pos k1]
          · unfold rACT; rw [if_pos ⟨c0, c1⟩, if_neg k0, if_pos k1]
          · have hr := fun (K : KQ) => m_asksActs (G := G) (d := d + 2) (Q := K) r0 r8 (by omega) (x := x)
            simp (disch := omega) only [KK, Int.reduceEq, not_false_iff, ↓reduceIte, ↓if_pos, ↓if_neg, xt_o, true_and, nlO_i, nlO_n, nlO_r, List.length_nil, List.length_cons, Nat.reduceAdd, Nat.reduceLeDiff, Nat.zero_le, U212, r0, k1, hr, VS13]
        · refine fin (waB (s (43 + a))) (waV (s (43 + a)) a (s (49 + a)) x) bd ?_ ?_ (fun Q => ?_)
          · unfold lACT; rw [if_pos ⟨c0, c1⟩, if_neg k0, if_neg k1]
          · unfold rACT; rw [if_pos ⟨c0, c1⟩, if_neg k0, if_neg k1]
          · have hr := fun (K : KQ) => m_warnsActs (G := G) (d := d) (Q := K) r0 r8 (by omega) (x := x)
            simp (disch := omega) only [KK, Int.reduceEq, not_false_iff, ↓reduceIte, ↓if_pos, ↓if_neg, xt_o, true_and, nlO_i, nlO_n, nlO_r, List.length_nil, List.length_cons, Nat.reduceAdd, Nat.reduceLeDiff, Nat.zero_le, U212, r0, hr, VS13]
    · have hk := fun (K : KQ) => (hk K).trans (by rw [if_neg c1])
      refine zero (by unfold lACT; rw [if_neg (fun q => c1 q.2)]) (by unfold rACT; rw [if_neg (fun q => c1 q.2)]) (fun Q => ?_)
      simp (disch := omega) only [KK, Int.reduceEq, not_false_iff, ↓reduceIte, ↓if_pos, ↓if_neg, xt_o, true_and, nlO_i, nlO_n, nlO_r, List.length_nil, List.length_cons, Nat.reduceAdd, Nat.reduceLeDiff, Nat.zero_le, U212, p0, hx, hk, VS13]
  · have hx := fun (K : KQ) => (hx K).trans (by rw [if_neg c0])
    refine zero (by unfold lACT; rw [if_neg (fun q => c0 q.1)]) (by unfold rACT; rw [if_neg (fun q => c0 q.1)]) (fun Q => ?_)
    simp (disch := omega) only [KK, Int.reduceEq, not_false_iff, ↓reduceIte, ↓if_pos, ↓if_neg, xt_o, true_and, nlO_i, nlO_n, nlO_r, List.length_nil, List.length_cons, Nat.reduceAdd, Nat.reduceLeDiff, Nat.zero_le, U212, p0, hx, VS13]
end N9
