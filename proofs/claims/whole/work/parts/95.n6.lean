/-! done, image, undo, looked, whole, who of the model -/
theorem plS_ok {t : Int → Int} (ok : okW t) {w n : Int} (hw : 0 ≤ w ∧ w ≤ 3) (hn1 : w = 1 ∨ w = 2 → 0 ≤ n ∧ n < t 27) (hn3 : w = 3 → 0 ≤ n ∧ n < t 28) (ht : 0 ≤ t 0 ∧ t 0 < 100000) : okW (plS w n t) ∧ (∀ k, (k < 0 ∨ 27 ≤ k) → plS w n t k = t k) ∧ 0 ≤ plS w n t 0 ∧ plS w n t 0 ≤ t 0 + 1 := by
  have o28 := ok.1.2.1
  have o27 := ok.1.2.2.1
  unfold plS
  by_cases w0 : w = 0
  · rw [if_pos w0]
    exact ⟨okW_GOES ok ht.2, fun k hk => GOES_low ok.1 k (by omega), by rw [GOES_0]; omega, by rw [GOES_0]; omega⟩
  · rw [if_neg w0]
    by_cases w3 : w = 3
    · have hn := hn3 w3
      have n5 : 0 ≤ n ∧ n < 5 := ⟨hn.1, by omega⟩
      have bl := BEGs_low (t := t) n5
      rw [if_pos w3]
      exact ⟨okW_BEG ok n5, fun k hk => bl k (by omega), by rw [bl 0 (by omega)]; omega, by rw [bl 0 (by omega)]; omega⟩
    · have hn := hn1 (by omega)
      rw [if_neg w3]
      have eV : eqV t (up t (21 + n) (if w = 1 then 1 else 0)) := fun k hk => up_ne (by omega)
      have h01 : ∀ k, 0 ≤ k → k < 6 → up t (21 + n) (if w = 1 then 1 else 0) (21 + k) = 0 ∨ up t (21 + n) (if w = 1 then 1 else 0) (21 + k) = 1 := fun k k0 k1 => by
        by_cases e : k = n
        · rw [e, up_eq]
          split
          · exact Or.inr rfl
          · exact Or.inl rfl
        · rw [up_ne (by omega)]; exact ok.2.2.2.2.1 k k0 k1
      exact ⟨okW_V eV h01 ok, fun k hk => eV k (by omega), by rw [eV 0 (by omega)]; omega, by rw [eV 0 (by omega)]; omega⟩
section N6
variable {G : MG} {d : Nat} {m : Nat} {s s' im bd : Int → Int} {hi rn : Int} {h : MH}
theorem N_done_l (ok : okP s) {l1 : Option V} (n1 : nlO l1 = true) {F : MC} : ∀ (n : Nat) (i : Int) (t : Int → Int) (h : MH), MS m t im hi rn bd h → okW t → (∀ k, (k < 0 ∨ 27 ≤ k) → t k = s k) → 0 ≤ t 0 → t 0 + n ≤ 90000 → h.2.2 (m + 3) = some F → 0 ≤ i → i + n = s 31 → ∃ h' : MH, MS m (plF s n i t) im hi rn bd h' ∧ mF m h h' ∧ h'.2.2 (m + 3) = some F ∧ (okW (plF s n i t) ∧ ∀ k, (k < 0 ∨ 27 ≤ k) → plF s n i t k = s k) ∧ ∀ Q : KQ, wp G (d + 6) 208 17 [some (vR m), l1, some (vI i)] [] h Q = wp G (d + 6) 208 56 [some (vR m), l1, some (vI (s 31))] [] h' Q := by
  have o31 := ok.2.2.1
  intro n
  induction n with
  | zero =>
    intro i t h z okt e t0 t1 hF i0 hi
    have : i = s 31 := by omega
    subst this
    refine ⟨h, z, mF_rf, hF, ⟨okt, e⟩, fun Q => ?_⟩
    obtain ⟨⟨f0, f5, f6, f7, f8, f9, f12, f13, f14, f17, f18, f21, f22, f23, q0⟩, q1, -⟩ := z
    rw [u208_17]
    simp (disch := omega) only [u208_18, u208_19, u208_22, u208_24, KK, q0, q1, GX13, xa_i]
    rw [e 31 (by omega), u208_25, if_pos (Int.le_refl _)]
  | succ n ih =>
    intro i t h z okt e t0 t1 hF i0 hi
    have hpl := ok.2.2.2.2.2.2.1 i i0 (by omega)
    rw [← e 27 (by omega), ← e 28 (by omega), ← e (95 + i) (by omega), ← e (103 + i) (by omega)] at hpl
    obtain ⟨h1, z1, m1, F1, w1⟩ := n_goesBy (G := G) (d := d) z okt (w := t (95 + i)) (n := t (103 + i)) hpl.1 hpl.2.1 hpl.2.2 hF
    obtain ⟨p1, p2, p3, p4⟩ := plS_ok okt (w := t (95 + i)) (n := t (103 + i)) hpl.1 hpl.2.1 hpl.2.2 (by omega)
    obtain ⟨h2, z2, m2, F2, k2, w2⟩ := ih (i + 1) _ h1 z1 p1 (fun k hk => (p2 k hk).trans (e k hk)) p3 (by omega) F1 (by omega) (by omega)
    obtain ⟨⟨f0, f5, f6, f7, f8, f9, f12, f13, f14, f17, f18, f21, f22, f23, q0⟩, q1, -⟩ := z
    rw [plF, ← e (95 + i) (by omega), ← e (103 + i) (by omega)]
    refine ⟨h2, z2, mF_tr m1 m2, F2, k2, fun Q => ?_⟩
    rw [← w2 Q]
    generalize hW : wp G (d + 6) 208 17 [some (vR m), l1, some (vI (i + 1))] [] h1 Q = W
    rw [u208_17]
    simp (disch := omega) only [u208_18, u208_19, u208_22, u208_24, KK, q0, q1, GX13, xa_i]
    rw [e 31 (by omega), u208_25, if_neg (by omega)]
    simp (disch := omega) only [KK, Int.reduceEq, not_false_iff, ↓reduceIte, ↓if_pos, ↓if_neg, xt_o, true_and, nlO_i, nlO_n, nlO_r, List.length_nil, List.length_cons, Nat.reduceAdd, Nat.reduceLeDiff, Nat.zero_le, u208_28, u208_29, u208_30, u208_33, u208_35, u208_36, u208_37, u208_38, u208_39, u208_42, u208_44, u208_45, u208_46, u208_47, u208_50, u208_53, q0, q1, w1, n1, GX13, VS13, xa_i, ar_add]
    exact hW
theorem N_done (ok : okP s) (z : MS m s im hi rn bd h) {w : Int} : mS G m (d + 7) 208 [vI w] (aDONE s w) s im hi rn bd h := by
  have zz := z
  obtain ⟨⟨f0, f5, f6, f7, f8, f9, f12, f13, f14, f17, f18, f21, f22, f23, q0⟩, q1, -⟩ := zz
  have o28 := ok.1.1.2.1
  have o31 := ok.2.2.1
  have o0 := ok.2.2.2.2.2.2.2.2.2.2
  have o00 := ok.1.1.1.2.2.2.2.2.1
  have hx := fun (K : KQ) => m_in (G := G) (d := d + 5) (h := h) (Q := K) (v := w) (lo := 0) (hi := 1)
  unfold aDONE
  by_cases c : 0 ≤ w ∧ w ≤ 1
  · have hx := fun (K : KQ) => (hx K).trans (by rw [if_pos c])
    rw [if_pos c]
    obtain ⟨h1, u, z1, m1, F1, w1⟩ := n_keeps (G := G) (d := d + 5) z
    obtain ⟨h2, z2, m2, F2, ⟨k1, k2⟩, w2⟩ := N_done_l (G := G) (d := d) ok (l1 := some (vI w)) rfl (s 31).toNat 0 s h1 z1 ok.1 (fun _ _ => rfl) (by omega) (by omega) F1 (by omega) (by omega)
    obtain ⟨h3, z3, m3, w3⟩ := n_back (G := G) (d := d + 5) z2 F2 k2
    obtain ⟨⟨g0, g5, g6, g7, g8, g9, g12, g13, g14, g17, g18, g21, g22, g23, v0⟩, v1, -⟩ := z2
    have hb := fun (K : KQ) => m_manyBack (G := G) (d := d + 5) (Q := K) v0 v1 k1.1.2.1
    have ht := fun (K : KQ) => m_manyThrough (G := G) (d := d + 4) (Q := K) v0 v1 k1.1.2.1
    refine ⟨h3, z3, mF_tr m1 (mF_tr m2 m3), fun Q => ?_⟩
    have key : wpC G (d + 7) 208 [vR m, vI w] h Q = wp G (d + 6) 208 17 [some (vR m), some (vI w), some (vI 0)] [] h1 Q := by
      generalize hW : wp G (d + 6) 208 17 [some (vR m), some (vI w), some (vI 0)] [] h1 Q = W
      rw [e208]
      simp (disch := omega) only [KK, Int.reduceEq, not_false_iff, ↓reduceIte, ↓if_pos, ↓if_neg, xt_o, true_and, nlO_i, nlO_n, nlO_r, List.length_nil, List.length_cons, Nat.reduceAdd, Nat.reduceLeDiff, Nat.zero_le, U208, q0, hx, w1, VS13]
      exact hW
    rw [key, w2 Q]
    by_cases w0 : w = 0
    · rw [if_pos w0]
      simp (disch := omega) only [KK, Int.reduceEq, not_false_iff, ↓reduceIte, ↓if_pos, ↓if_neg, xt_o, true_and, nlO_i, nlO_n, nlO_r, List.length_nil, List.length_cons, Nat.reduceAdd, Nat.reduceLeDiff, Nat.zero_le, U208, w0, v0, hb, w3, VS13]
    · rw [if_neg w0]
      simp (disch := omega) only [KK, Int.reduceEq, not_false_iff, ↓reduceIte, ↓if_pos, ↓if_neg, xt_o, true_and, nlO_i, nlO_n, nlO_r, List.length_nil, List.length_cons, Nat.reduceAdd, Nat.reduceLeDiff, Nat.zero_le, U208, v0, ht, w3, VS13]
  · have hx := fun (K : KQ) => (hx K).trans (by rw [if_neg c])
    rw [if_neg c]
    refine mS_id z (fun Q => ?_)
    rw [e208]
    simp (disch := omega) only [KK, Int.reduceEq, not_false_iff, ↓reduceIte, ↓if_pos, ↓if_neg, xt_o, true_and, nlO_i, nlO_n, nlO_r, List.length_nil, List.length_cons, Nat.reduceAdd, Nat.reduceLeDiff, Nat.zero_le, U208, hx]
theorem N_image_l : ∀ (n : Nat) (i : Int) (im : Int → Int) (h : MH), MS m s im hi rn bd h → 0 ≤ i → i + n = 937 → ∃ h' : MH, MS m s (cp im s i 937) hi rn bd h' ∧ mF m h h' ∧ ∀ Q : KQ, wp G d 223 2 [some (vR m), some (vI i)] [] h Q = wp G d 223 27 [some (vR m), some (vI 937)] [] h' Q := by
  intro n
  induction n with
  | zero =>
    intro i im h z i0 hin
    have : i = 937 := by omega
    subst this
    rw [cp_end]
    refine ⟨h, z, mF_rf, fun Q => ?_⟩
    rw [u223_2, u223_3, u223_6, if_pos (Int.le_refl _)]
  | succ n ih =>
    intro i im h z i0 hin
    have zz := z
    obtain ⟨⟨f0, f5, f6, f7, f8, f9, f12, f13, f14, f17, f18, f21, f22, f23, q0⟩, q1, q2, q8, j⟩ := zz
    have z1 : MS m s (up im i (s i)) hi rn bd (hset h (m + 2) (cArr 0 937 (ix (up im i (s i))))) := ⟨⟨f0, f5, f6, f7, f8, f9, f12, f13, f14, f17, f18, f21, f22, f23, (hs_ne (by omega)).trans q0⟩, (hs_ne (by omega)).trans q1, hs_eq, (hs_ne (by omega)).trans q8, mJ_set (by omega) j⟩
    obtain ⟨h', a1, a2, a3⟩ := ih (i + 1) _ _ z1 (by omega) (by omega)
    rw [cp_up (by omega)] at a1
    refine ⟨h', a1, mF_tr (mF_set (by omega)) a2, fun Q => ?_⟩
    rw [← a3 Q]
    generalize hW : wp G d 223 2 [some (vR m), some (vI (i + 1))] [] _ Q = W
    rw [u223_2, u223_3, u223_6, if_neg (by omega)]
    simp (disch := omega) only [KK, Int.reduceEq, not_false_iff, ↓reduceIte, ↓if_pos, ↓if_neg, xt_o, true_and, nlO_i, nlO_n, nlO_r, List.length_nil, List.length_cons, Nat.reduceAdd, Nat.reduceLeDiff, Nat.zero_le, u223_9, u223_10, u223_13, u223_14, u223_15, u223_18, u223_19, u223_20, u223_21, u223_24, q0, q1, q2, GX13, xa_i, xs_i, ar_add]
    exact hW
theorem N_image (z : MS m s im hi rn bd h) : mS G m (d + 1) 223 [] (s 27) s (cp im s 0 937) 1 rn bd h := by
  obtain ⟨h1, z1, m1, w1⟩ := N_image_l (G := G) (d := d) 937 0 im h z (by omega) rfl
  have zz := z1
  obtain ⟨⟨f0, f5, f6, f7, f8, f9, f12, f13, f14, f17, f18, f21, f22, f23, q0⟩, q1, q2, q8, j⟩ := zz
  refine ⟨hset h1 m (mO m f0 1 f5 f6 f7 f8 f9 f12 f13 f14 f17 f18 rn f21 f22 f23), ⟨⟨f0, f5, f6, f7, f8, f9, f12, f13, f14, f17, f18, f21, f22, f23, hs_eq⟩, (hs_ne (by omega)).trans q1, (hs_ne (by omega)).trans q2, (hs_ne (by omega)).trans q8, mJ_set (by omega) j⟩, mF_tr m1 (mF_set (by omega)), fun Q => ?_⟩
  have key : wpC G (d + 1) 223 [vR m] h Q = wp G d 223 2 [some (vR m), some (vI 0)] [] h Q := by
    generalize hW : wp G d 223 2 [some (vR m), some (vI 0)] [] h Q = W
    rw [e223]
    simp (disch := omega) only [KK, Int.reduceEq, not_false_iff, ↓reduceIte, ↓if_pos, ↓if_neg, xt_o, true_and, nlO_i, nlO_n, nlO_r, List.length_nil, List.length_cons, Nat.reduceAdd, Nat.reduceLeDiff, Nat.zero_le, U223]
    exact hW
  rw [key, w1 Q]
  simp (disch := omega) only [KK, Int.reduceEq, not_false_iff, ↓reduceIte, ↓if_pos, ↓if_neg, xt_o, true_and, nlO_i, nlO_n, nlO_r, List.length_nil, List.length_cons, Nat.reduceAdd, Nat.reduceLeDiff, Nat.zero_le, U223, q0, q1, hs_eq, hs_ne (show ¬ m + 1 = m by omega), GX13, PX13, xa_i, or_true]
theorem N_undo_l : ∀ (n : Nat) (i : Int) (s : Int → Int) (h : MH), MS m s im hi rn bd h → 0 ≤ i → i + n = 937 → ∃ h' : MH, MS m (cp s im i 937) im hi rn bd h' ∧ mF m h h' ∧ ∀ Q : KQ, wp G d 224 12 [some (vR m), some (vI i)] [] h Q = wp G d 224 37 [some (vR m), some (vI 937)] [] h' Q := by
  intro n
  induction n with
  | zero =>
    intro i s h z i0 hi
    have : i = 937 := by omega
    subst this
    rw [cp_end]
    refine ⟨h, z, mF_rf, fun Q => ?_⟩
    rw [u224_12, u224_13, u224_16, if_pos (Int.le_refl _)]
  | succ n ih =>
    intro i s h z i0 hi
    have zz := z
    obtain ⟨⟨f0, f5, f6, f7, f8, f9, f12, f13, f14, f17, f18, f21, f22, f23, q0⟩, q1, q2, -⟩ := zz
    obtain ⟨h', a1, a2, a3⟩ := ih (i + 1) _ _ (MS_s (s' := up s i (im i)) z) (by omega) (by omega)
    rw [cp_up (by omega)] at a1
    refine ⟨h', a1, mF_tr (mF_set (by omega)) a2, fun Q => ?_⟩
    rw [← a3 Q]
    generalize hW : wp G d 224 12 [some (vR m), some (vI (i + 1))] [] _ Q = W
    rw [u224_12, u224_13, u224_16, if_neg (by omega)]
    simp (disch := omega) only [KK, Int.reduceEq, not_false_iff, ↓reduceIte, ↓if_pos, ↓if_neg, xt_o, true_and, nlO_i, nlO_n, nlO_r, List.length_nil, List.length_cons, Nat.reduceAdd, Nat.reduceLeDiff, Nat.zero_le, u224_19, u224_20, u224_23, u224_24, u224_25, u224_28, u224_29, u224_30, u224_31, u224_34, q0, q1, q2, GX13, xa_i, xs_i, ar_add]
    exact hW
theorem N_undo (z : MS m s im hi rn bd h) (hh : hi = 0 ∨ hi = 1) : mS G m (d + 1) 224 [] (if hi = 0 then -3 else im 27) (if hi = 0 then s else cp s im 0 937) im hi rn bd h := by
  have zz := z
  obtain ⟨⟨f0, f5, f6, f7, f8, f9, f12, f13, f14, f17, f18, f21, f22, f23, q0⟩, q1, -⟩ := zz
  by_cases c : hi = 0
  · rw [if_pos c, if_pos c]
    refine mS_id z (fun Q => ?_)
    rw [e224]
    simp (disch := omega) only [KK, Int.reduceEq, not_false_iff, ↓reduceIte, ↓if_pos, ↓if_neg, xt_o, true_and, nlO_i, nlO_n, nlO_r, List.length_nil, List.length_cons, Nat.reduceAdd, Nat.reduceLeDiff, Nat.zero_le, U224, q0, c, GX13]
  · rw [if_neg c, if_neg c]
    obtain ⟨h1, z1, m1, w1⟩ := N_undo_l (G := G) (d := d) 937 0 s h z (by omega) rfl
    have zz := z1
    obtain ⟨⟨g0, g5, g6, g7, g8, g9, g12, g13, g14, g17, g18, g21, g22, g23, v0⟩, v1, -⟩ := zz
    refine ⟨h1, z1, m1, fun Q => ?_⟩
    have key : wpC G (d + 1) 224 [vR m] h Q = wp G d 224 12 [some (vR m), some (vI 0)] [] h Q := by
      generalize hW : wp G d 224 12 [some (vR m), some (vI 0)] [] h Q = W
      rw [e224]
      simp (disch := omega) only [KK, Int.reduceEq, not_false_iff, ↓reduceIte, ↓if_pos, ↓if_neg, xt_o, true_and, nlO_i, nlO_n, nlO_r, List.length_nil, List.length_cons, Nat.reduceAdd, Nat.reduceLeDiff, Nat.zero_le, U224, q0, GX13]
      exact hW
    rw [key, w1 Q]
    simp (disch := omega) only [KK, Int.reduceEq, not_false_iff, ↓reduceIte, ↓if_pos, ↓if_neg, xt_o, true_and, nlO_i, nlO_n, nlO_r, List.length_nil, List.length_cons, Nat.reduceAdd, Nat.reduceLeDiff, Nat.zero_le, U224, v0, v1, GX13, xa_i]
    rw [show cp s im 0 937 27 = im 27 from if_pos (by omega)]
end N6
