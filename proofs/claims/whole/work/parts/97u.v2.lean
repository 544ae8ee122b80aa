/-! valley of the class -/
section V2
variable {G : MG} {d : Nat} {Q : KQ} {Bs X : Nat → Prop} {ad : Int → Nat} {vn vi vt : Int → Nat} {s si st bd : Int → Int} {hi rn : Int} {h h' : MH}
theorem vP_id {v nt : Nat} {p cs sn nv : Int} {C S E : Int → Int} (h1 : h.2.2 v = some (vO' (v + 1) (v + 5) (v + 2) (v + 3) (v + 4) p cs sn nv)) (h2 : h.2.2 (v + 5) = some (cArr 0 nt (ix C))) (h3 : h.2.2 (v + 2) = some (cArr 0 10 (ix S))) (h4 : h.2.2 (v + 3) = some (cArr 0 10 (ix E))) : vP v nt h p cs sn nv C S E = h := by
  unfold vP
  rw [hs_same h1, hs_same h2, hs_same h3, hs_same h4]
theorem A_valley (z : qK G Bs ad vn vi vt s si st hi rn bd h) (hz : qSt G h) (hr : h.1 + 60 ≤ maxC ∧ h.2.1 + 600 ≤ maxS) : cS G (d + 26) 2 [] (vI (rVAL s)) (tVAL s) si hi rn bd h := by
  have hx := K_x z
  have zn := (K_n z).1.1
  have ok := (K_p z).1
  have o27 := ok.1.2.2.1
  have o28 := ok.1.2.1
  have o29 := ok.2.2.1
  have o33 := (K_p z).2.2.2.2.1
  have p127 := (K_p z).2.2.2.2.2.2.2.2.1
  have hf := z.2.2.1
  have hst := (K_st z).1
  have hge := (K_st z).2
  have gq := K_G z
  have A := K_A z
  have hsz := fun (K : KQ) => ll_size (G := G) (d := d + 24) (Q := K) (K_n z).2.2.2.1
  have htg := fun (K : Nat → Prop) => ll_tag (K_n z).2.2.2.1 (K := K)
  unfold rVAL tVAL
  by_cases c : s 29 = 5
  · rw [if_pos c, if_pos c]
    refine cQ_S (cQ_id z (fun Q => ?_))
    rw [e2]
    simp (disch := omega) only [KK, Int.reduceEq, not_false_iff, ↓reduceIte, ↓if_pos, ↓if_neg, xt_o, true_and, nlO_i, nlO_n, nlO_r, List.length_nil, List.length_cons, Nat.reduceAdd, Nat.reduceLeDiff, Nat.zero_le, U2, hx, zn, hsz, htg, c, GX12, GX11, VS0]
  · rw [if_neg c, if_neg c]
    have g79 : 79 ≤ h.1 := gq.2.2
    obtain ⟨W, ht, hW⟩ := (K_n z).1.2.2.1
    obtain ⟨N, hN⟩ : ∃ N : Nat, N = (s 33).toNat := ⟨_, rfl⟩
    have eN : (N : Int) = s 33 := by rw [hN]; omega
    have hN1 : N ≤ 100 := by omega
    have n1 : ¬ G.1 = G.1 + h.1 := by omega
    have n2 : ¬ G.1 + 1 = G.1 + h.1 := by omega
    have n3 : ¬ G.1 + 1 + 5 = G.1 + h.1 := by omega
    obtain ⟨h1, hh1⟩ : ∃ h1, h1 = hnew h (G.1 + h.1) 9 (cObj 10 [vO none, vI 0, vO none, vI 0, vO none, vO none, vI 0, vO none, vI 0]) := ⟨_, rfl⟩
    have k1 : h1.1 = h.1 + 1 ∧ h1.2.1 = h.2.1 + 9 := by rw [hh1]; exact ⟨rfl, rfl⟩
    have ne1 : ∀ q, ¬ q = G.1 + h.1 → h1.2.2 q = h.2.2 q := fun q hq => by rw [hh1]; exact hn_ne hq
    have at1 : h1.2.2 (G.1 + h.1) = some (cObj 10 [vO none, vI 0, vO none, vI 0, vO none, vO none, vI 0, vO none, vI 0]) := by rw [hh1]; exact hn_eq
    obtain ⟨F, hF, wF⟩ := j_copyOf (G := G) (d := d + 23) (h := h1) (t := G.1 + 1 + 5) (N := N) (T := W) ((ne1 _ n3).trans ht) (by omega) hN1 ⟨by omega, by omega⟩
    obtain ⟨h2, hh2⟩ : ∃ h2, h2 = hnew h1 (G.1 + h1.1) N (cArr 0 N F) := ⟨_, rfl⟩
    have k2 : h2.1 = h1.1 + 1 ∧ h2.2.1 = h1.2.1 + N := by rw [hh2]; exact ⟨rfl, rfl⟩
    have ne2 : ∀ q, ¬ q = G.1 + h.1 + 1 → h2.2.2 q = h1.2.2 q := fun q hq => by rw [hh2]; exact hn_ne (by omega)
    have at2 : h2.2.2 (G.1 + h.1 + 1) = some (cArr 0 N F) := by
      rw [hh2, show G.1 + h1.1 = G.1 + h.1 + 1 by omega]; exact hn_eq
    obtain ⟨h3, i1, i2, i3, i4, i5, i6, i7, ⟨i8, i9⟩, wI⟩ := i_valley (G := G) (d := d + 24) (v := G.1 + h.1) (n := N) (T := F) (h := h2) ((ne2 _ (by omega)).trans at1) at2 (by omega) (by omega) ⟨by omega, by omega⟩
    have far3 : ∀ q, (q < G.1 + h.1 ∨ G.1 + h.1 + 6 ≤ q) → h3.2.2 q = h.2.2 q := fun q hq => by
      rw [i7 q hq, ne2 q (by omega), ne1 q (by omega)]
    obtain ⟨h4, hh4⟩ : ∃ h4, h4 = hset h3 (G.1 + 1) (wO (G.1 + 1) 0 (s 0) (AWAYS s)) := ⟨_, rfl⟩
    have k4 : h4.1 = h3.1 ∧ h4.2.1 = h3.2.1 := by rw [hh4]; exact ⟨rfl, rfl⟩
    have ne4 : ∀ q, ¬ q = G.1 + 1 → h4.2.2 q = h3.2.2 q := fun q hq => by rw [hh4]; exact hs_ne hq
    have far4 : ∀ q, (q < G.1 + h.1 ∨ G.1 + h.1 + 6 ≤ q) → ¬ q = G.1 + 1 → h4.2.2 q = h.2.2 q := fun q hq h1 => (ne4 q h1).trans (far3 q hq)
    have id4 := vP_id (h := h4) (v := G.1 + h.1) ((ne4 _ (by omega)).trans i1) ((ne4 _ (by omega)).trans i6) ((ne4 _ (by omega)).trans i3) ((ne4 _ (by omega)).trans i4)
    have hz4 : qSt G h4 := fun i hi => by
      obtain ⟨u, g, z1, z2, z3, z4⟩ := hz i hi
      exact ⟨u, g, z1, (far4 u (by omega) (by omega)).trans z2, z3, z4⟩
    obtain ⟨h5, ce, wf⟩ := c_fault (G := G) (d := d) (h0 := h4) (T := TV s) (v := G.1 + h.1) (nt := N) (f := F) (C := fun _ => 0) (S := fun _ => 0) (E := fun _ => 0) hz4 (by omega) hN1 ((ne4 _ (by omega)).trans i2) (fun i hi => (hF i hi).trans (hW _ (by omega) (by omega))) (fun i i0 i1 => p127 i i0 (by omega))
    rw [id4] at wf
    rw [eN] at wf ce
    have eV : vaF (TV s) (s 33) = vaS s := rfl
    rw [eV] at wf ce
    have gv : gV (s 33) (vaS s) := va_g o33.1
    obtain ⟨pl, cs, sn, nv, C, S, E, e5, hgood⟩ := ce
    have far5 : ∀ q, (q < G.1 + h.1 ∨ G.1 + h.1 + 6 ≤ q) → ¬ q = G.1 + 1 → h5.2.2 q = h.2.2 q := fun q hq h1 => by
      rw [e5, vP_o (by omega) (by omega) (by omega) (by omega)]; exact far4 q hq h1
    have at5 : h5.2.2 (G.1 + 1) = some (wO (G.1 + 1) 0 (s 0) (AWAYS s)) := by
      rw [e5, vP_o (by omega) (by omega) (by omega) (by omega), hh4]; exact hs_eq
    have k5 : h5.1 = h.1 + 6 ∧ h5.2.1 = h.2.1 + 35 + 2 * N := by
      have : h5.1 = h4.1 ∧ h5.2.1 = h4.2.1 := by rw [e5]; exact ⟨rfl, rfl⟩
      omega
    generalize hrr : vaS s = r at *
    obtain ⟨⟨gp0, gp1⟩, gn, gk, gl, gj⟩ := gv
    obtain ⟨R, hR⟩ : ∃ R, R = rowV (s 29) s r := ⟨_, rfl⟩
    have ha : 0 ≤ s 29 ∧ s 29 ≤ 4 := by omega
    have eR : ∀ k, ¬ k = 33 → ¬ k = 227 + s 29 → ¬ k = 232 + s 29 → (k < 237 + 140 * s 29 ∨ 377 + 140 * s 29 ≤ k) → R k = s k := fun k h1 h2 h3 h4 => by
      rw [hR]; exact rv_o ha h1 h3 h2 (by omega)
    have e33 : R 33 = 0 := by rw [hR]; exact rv_33 ha
    have en : R (227 + s 29) = r.2.2.1 := by rw [hR]; exact rv_nv ha
    have el : ∀ k, ¬ k = 33 → k < 227 → R k = s k := fun k h1 h2 => eR k h1 (by omega) (by omega) (by omega)
    have eg : ∀ i, 0 ≤ i → i < s 29 → R (232 + i) = s (232 + i) ∧ stepsOf R i = stepsOf s i := fun i i0 i1 => by
      have q := (K_p z).2.2.2.2.2.2.2.2.2.1 i i0 (by omega)
      have e2 : R (232 + i) = s (232 + i) := eR _ (by omega) (by omega) (by omega) (by omega)
      refine ⟨e2, ?_⟩
      unfold stepsOf
      rw [e2]
      exact seg_cg _ _ (fun k hk hk2 => eR k (by omega) (by omega) (by omega) (by omega))
    have okR : okP R := okP_va (K_p z) ⟨rfl, ha.2⟩ eR e33 (by rw [en]; exact gn)
    have f1 : ∀ B : Nat → Prop, qFr G.1 B (fun q => q = G.1 + 1) h h5 := fun B => ⟨fun zf q hq => (far5 q (Or.inr (by omega)) (by omega)).trans (zf q (by omega)), fun a c hc hq => Or.inl ((far5 a (Or.inl (Nat.lt_of_not_le (fun q => by rw [hf a q] at hc; cases hc))) hq).trans hc)⟩
    have znow : ∀ B : Nat → Prop, qW G B ad 0 (G.1 + 1) vn s h → qW G B ad 0 (G.1 + 1) vn R h5 := fun B q => by
      obtain ⟨⟨x1, x2, x3, x4, x5, x6, x7, c1, c2', c3, c4, x8⟩, y⟩ := q
      have f := f1 B
      refine ⟨⟨by rw [e33, el 0 (by omega) (by omega), AWAYS_cg (el 27 (by omega) (by omega)) o27.1 (fun k k0 k1 => el _ (by omega) (by omega))]; exact at5, qIR_cg (qIR_fr x2 f (by decide) (by omega)) (fun i i0 i1 => el _ (by omega) (by omega)), qIR_cg (qIR_fr x3 f (by decide) (by omega)) (fun i i0 i1 => el _ (by omega) (by omega)), by rw [el 30 (by omega) (by omega)]; exact qRW_cg (qRW_fr x4 f (by decide) (by omega) (by omega) (by omega)) (fun i i0 i1 => el _ (by omega) (by omega)) (fun i i0 i1 => el _ (by omega) (by omega)), by rw [el 31 (by omega) (by omega)]; exact qRW_cg (qRW_fr x5 f (by decide) (by omega) (by omega) (by omega)) (fun i i0 i1 => el _ (by omega) (by omega)) (fun i i0 i1 => el _ (by omega) (by omega)), by rw [el 32 (by omega) (by omega)]; exact qRW_cg (qRW_fr x6 f (by decide) (by omega) (by omega) (by omega)) (fun i i0 i1 => el _ (by omega) (by omega)) (fun i i0 i1 => el _ (by omega) (by omega)), qVL_fr x7 f (fun k hk => by omega), c1, c2', c3, c4, fr_o f x8 (by omega)⟩, ?_⟩
      obtain ⟨y1, y2, y3, y4, y5, y6⟩ := qWY_fr y f (okW_k ok) ⟨o27.2, o28.2⟩ (fun k k1 k4 => by omega) (fun k _ _ => by have := A.2 (0 + k); omega) (fun k _ _ _ => by have := A.2 (0 + k); omega) (fun i k i0 i1 _ => by have := K_vn z i i0 i1; omega)
      unfold qWY
      rw [el 27 (by omega) (by omega), el 28 (by omega) (by omega), el 29 (by omega) (by omega)]
      refine ⟨y1, y2, y3, fun i i0 i1 => qAW_cg (y4 i i0 i1) (el _ (by omega) (by omega)) (el _ (by omega) (by omega)) (el _ (by omega) (by omega)) (fun k k0 k1 => el _ (by omega) (by omega)), fun i i0 i1 => ?_, fun i i0 i1 => qVL_cg (y6 i i0 i1) (eg i i0 i1).2 (eR _ (by omega) (by omega) (by omega) (by omega))⟩
      unfold qAK
      rw [el (1 + i) (by omega) (by omega), el (6 + i) (by omega) (by omega), el (11 + i) (by omega) (by omega), el (16 + i) (by omega) (by omega)]
      exact y5 i i0 i1
    have zim : ∀ B : Nat → Prop, qW G B ad 100 (G.1 + 23) vi si h → qW G B ad 100 (G.1 + 23) vi si h5 := fun B q => by
      have oi := (K_pi z).1
      exact qW_fa A q (f1 B) (okW_k oi) ⟨oi.1.2.2.1.2, oi.1.2.1.2⟩ (K_vi z) (fun a q => by omega)
    have ztr : ∀ B : Nat → Prop, qW G B ad 200 (G.1 + 45) vt st h → qW G B ad 200 (G.1 + 45) vt st h5 := fun B q => by
      have ot := K_pt z
      exact qW_fa A q (f1 B) (okW_k ot) ⟨ot.1.2.2.1.2, ot.1.2.1.2⟩ (K_vt z) (fun a q => by omega)
    have w1 : ∀ Q : KQ, wpC G (d + 26) 2 [vR G.1] h Q = wp G (d + 25) 2 59 [some (vR G.1), some (vR (G.1 + h.1)), some (vI (faV (s 33) r))] [] h5 Q := fun Q => by
      have rc : (h.1 + 1 ≤ maxC) = True := eq_true (by omega)
      have jm : ∀ (h' : MH) (K : KQ), wpC G (d + 25) 239 [vI 0, vI (s 33)] h' K = K (some (vI (s 33))) h' := fun h' K => by
        have q := j_max (G := G) (d := d + 24) (h := h') (Q := K) (a := 0) (b := s 33)
        rw [Int.max_eq_right o33.1] at q
        exact q
      have rs : (h.2.1 + 9 ≤ maxS) = True := eq_true (by omega)
      have wF' : ∀ K : KQ, wpC G (d + 25) 243 [vR (G.1 + 1 + 5), vI (s 33)] (hnew h (G.1 + h.1) 9 (cObj 10 [vO none, vI 0, vO none, vI 0, vO none, vO none, vI 0, vO none, vI 0])) K = K (some (vR (G.1 + h.1 + 1))) h2 := fun K => by
        have q := wF K
        rw [← hh2, eN, hh1] at q
        exact q
      have wf' : ∀ K : KQ, wpC G (d + 25) 72 [vR (G.1 + h.1)] (hset h3 (G.1 + 1) (cObj 11 [vR (G.1 + 1 + 1), vR (G.1 + 1 + 2), vR (G.1 + 1 + 3), vR (G.1 + 1 + 4), vR (G.1 + 1 + 5), vI 0, vR (G.1 + 1 + 6), vR (G.1 + 1 + 9), vR (G.1 + 1 + 12), vI (s 0), vI (AWAYS s), vR (G.1 + 1 + 15), vR (G.1 + 1 + 21)])) K = K (some (vI (faV (s 33) r))) h5 := fun K => by
        have q := wf K
        rw [hh4] at q
        exact q
      have at2' := (ne2 (G.1 + h.1) (by omega)).trans at1
      have x3 := (far3 G.1 (by omega)).trans hx
      have w3 := (far3 (G.1 + 1) (by omega)).trans zn
      have n5 : ¬ G.1 + h.1 = G.1 + 1 := by omega
      rw [e2]
      simp (disch := omega) only [KK, Int.reduceEq, not_false_iff, ↓reduceIte, ↓if_pos, ↓if_neg, xt_o, true_and, nlO_i, nlO_n, nlO_r, List.length_nil, List.length_cons, Nat.reduceAdd, Nat.reduceLeDiff, Nat.zero_le, u2_0, u2_1, u2_4, u2_7, u2_10, u2_11, u2_14, u2_16, u2_17, u2_20, u2_20a, u2_21, u2_22, u2_25, u2_28, u2_29, u2_30, u2_33, u2_36, u2_39, u2_42, u2_45, u2_46, u2_47, u2_50, u2_51, u2_54, u2_55, u2_58, jm, hx, zn, hsz, htg, rc, rs, hn_ne n1, hn_ne n2, wF', at2', wI, x3, w3, i1, hs_ne n5, wf', GX12, GX11, PX11, VS0, VS10, or_true, true_or, OKS]
    by_cases good : r.1 = true ∧ r.2.1 = s 33
    · have eA : ansV (s 29) (s 33) r = s 29 := if_pos good
      have eE : endV (s 29) (s 33) s r = up (up R 29 (s 29 + 1)) 34 (s 29) := by rw [hR]; exact if_pos good
      have ef : faV (s 33) r = -1 := if_pos good
      obtain ⟨v1, v2, v3, v4⟩ := hgood good.1
      have gj := gj good.1
      have eL : stepsOf R (s 29) = flF r.2.2.2.1 := by
        have e1 : R (232 + s 29) = (flF r.2.2.2.1 ++ r.2.2.2.2.map trC).length := by rw [hR]; exact rv_n
        have e2 := rv_seg (a := s 29) (s := s) (nv := r.2.2.1) (L := flF r.2.2.2.1 ++ r.2.2.2.2.map trC) ha
        unfold stepsOf
        rw [e1, Int.toNat_natCast, hR]
        refine e2.trans ?_
        rw [gj]; exact List.append_nil _
      have e232 : 0 ≤ R (232 + s 29) ∧ R (232 + s 29) ≤ 140 := by
        have e1 : R (232 + s 29) = (flF r.2.2.2.1 ++ r.2.2.2.2.map trC).length := by rw [hR]; exact rv_n
        omega
      have okE : okP (up (up R 29 (s 29 + 1)) 34 (s 29)) := okP_vb okR ⟨(el 29 (by omega) (by omega)).symm, ha.2⟩ e232 (by rw [eL]; exact wf_fl _ gk)
      rw [eA, eE]
      obtain ⟨R', hR'⟩ : ∃ R', R' = up (up R 29 (s 29 + 1)) 34 (s 29) := ⟨_, rfl⟩
      have e' : ∀ k, ¬ k = 29 → ¬ k = 34 → R' k = R k := fun k k1 k2 => by rw [hR', up_ne k2, up_ne k1]
      have e29' : R' 29 = s 29 + 1 := by rw [hR', up_ne (by omega), up_eq]
      rw [← hR'] at okE ⊢
      -- those who may be written
      have hn4 : h.2.2 (G.1 + h.1 + 4) = none := hf _ (by omega)
      have q1 := znow _ (qW_B (K_n z) hn4)
      have q2 := zim _ (qW_B (K_i z) hn4)
      have q3 := ztr _ (qW_B (K_t z) hn4)
      have hf5 := qFs_fr (f1 (Bv Bs (G.1 + h.1 + 4))) hf
      have hst5 : h5.2.2 (G.2.1 GE) = some (cRef 1 0 (fun _ => none)) := fr_r (f1 Bs) hst (by omega)
      have gq5 : qG G ad h5 := qG_mo gq (by omega)
      have c5 : h5.2.2 (G.1 + h.1) = some (cObj 10 [vR (G.1 + h.1 + 1), vI pl, vR (G.1 + h.1 + 5), vI cs, vR (G.1 + h.1 + 2), vR (G.1 + h.1 + 3), vI sn, vR (G.1 + h.1 + 4), vI nv]) := by rw [e5]; exact vP_v
      obtain ⟨vn', hvn⟩ : ∃ vn' : Int → Nat, vn' = fun i => if i = s 29 then G.1 + h.1 else vn i := ⟨_, rfl⟩
      have vne : ∀ i, ¬ i = s 29 → vn' i = vn i := fun i hi => by rw [hvn]; exact if_neg hi
      have vna : vn' (s 29) = G.1 + h.1 := by rw [hvn]; exact if_pos rfl
      have l1 := q1.2.2.2.1
      rw [el 29 (by omega) (by omega)] at l1
      obtain ⟨h6, e6, a1, a2, a3, a4, a5'⟩ := c_add (Bs := Bv Bs (G.1 + h.1 + 4)) (X := fun q => q = G.1 + 1 + 3 ∨ q = ad (0 + 22)) (d := d + 20) hf5 hst5 l1 (by omega) ⟨Or.inl rfl, Or.inr rfl⟩ c5 (by decide) (by decide) ⟨by omega, by omega⟩ (g := vn') (fun i i0 i1 => vne i (by omega)) vna
      obtain ⟨ad2, had2⟩ : ∃ ad2, ad2 = updA ad (0 + 22) e6 := ⟨_, rfl⟩
      have gq2 : qG G ad2 h6 := by rw [had2]; exact qG_e gq5 a2 (by omega)
      have e2o : ∀ i, ¬ i = 0 + 22 → ad2 i = ad i := fun i hi => by rw [had2]; exact updA_ne hi
      have e2e : ad2 (0 + 22) = e6 := by rw [had2]; exact updA_eq
      have lo := gq5.1.2
      have xl := xl_le hf5 (by omega) l1
      have hc6 : h5.1 ≤ h6.1 ∧ h6.1 ≤ h5.1 + 1 := by rcases a2 with q | q <;> omega
      have nl : ∀ {l : Nat}, l < G.1 + 79 → ¬ l = G.1 + 1 + 3 → ¬ (l = G.1 + 1 + 3 ∨ l = ad (0 + 22)) := fun {l} hl hn q => by
        rcases q with q | q
        · exact hn q
        · have := lo (0 + 22); omega
      have ne' : ∀ i, ¬ i = 0 + 22 → ¬ (ad i = G.1 + 1 + 3 ∨ ad i = ad (0 + 22)) := fun i hi q => by
        rcases q with q | q
        · have := lo i; omega
        · exact hi (gq5.1.1 _ _ q)
      have ww : ∀ {bu : Int} {wu : Nat} {vu : Int → Nat} {su : Int → Int}, 25 ≤ bu → (G.1 + 23 ≤ wu ∧ wu + 22 ≤ G.1 + 79) → okW su → qW G (Bv Bs (G.1 + h.1 + 4)) ad bu wu vu su h5 → qW G (Bv Bs (G.1 + h.1 + 4)) ad2 bu wu vu su h6 := fun {bu wu vu su} hb hwu oku q => by
        have u27 := oku.1.2.2.1
        have u28 := oku.1.2.1
        have q2 := qW_fl q a3 (okW_k oku) xl (fun j hj q => by
          rcases q with q | q
          · omega
          · have := lo (0 + 22); omega) (fun j j0 j1 q => by
          rcases q with q | q
          · have := lo (bu + j); omega
          · have := gq5.1.1 _ _ q; omega)
        exact qW_ad q2 ⟨u27.2, u28.2⟩ (fun i i0 i1 => e2o _ (by omega))
      have eS' : ∀ i, 0 ≤ i → stepsOf R' i = stepsOf R i := fun i i0 => by
        unfold stepsOf
        rw [e' (232 + i) (by omega) (by omega)]
        exact seg_cg _ _ (fun k hk hk2 => e' k (by omega) (by omega))
      have zn' : qW G (Bv Bs (G.1 + h.1 + 4)) ad2 0 (G.1 + 1) vn' R' h6 := by
        obtain ⟨zx, y1, y2, y3, y4, y5, y6⟩ := q1
        rw [el 27 (by omega) (by omega)] at y1 y4
        rw [el 28 (by omega) (by omega)] at y2 y5
        rw [el 29 (by omega) (by omega)] at y6
        refine ⟨qWX_cg (qWX_fl zx a3 xl) (e' 0 (by omega) (by omega)) (e' 33 (by omega) (by omega)) (AWAYS_cg (e' 27 (by omega) (by omega)) (by rw [el 27 (by omega) (by omega)]; exact o27.1) (fun k k0 k1 => by rw [el 27 (by omega) (by omega)] at k1; exact e' _ (by omega) (by omega))) ⟨e' 30 (by omega) (by omega), e' 31 (by omega) (by omega), e' 32 (by omega) (by omega)⟩ (fun i i0 i1 => e' _ (by omega) (by omega)) (fun i i0 i1 => e' _ (by omega) (by omega)), ?_⟩
        unfold qWY
        rw [e' 27 (by omega) (by omega), e' 28 (by omega) (by omega), e29', el 27 (by omega) (by omega), el 28 (by omega) (by omega)]
        refine ⟨?_, ?_, ?_, fun i i0 i1 => ?_, fun i i0 i1 => ?_, fun i i0 i1 => ?_⟩
        · rw [e2o _ (by omega)]
          exact ll_cg (qLL_fr y1 a3 (nl (by omega) (by omega)) (ne' (0 + 20) (by omega))) (fun i i0 i1 => e2o _ (by omega))
        · rw [e2o _ (by omega)]
          exact ll_cg (qLL_fr y2 a3 (nl (by omega) (by omega)) (ne' (0 + 21) (by omega))) (fun i i0 i1 => e2o _ (by omega))
        · rw [e2e]; exact a1
        · rw [e2o _ (by omega)]
          have k7' := okW_k okR.1 i i0 (by rw [el 27 (by omega) (by omega)]; exact i1)
          exact qAW_cg (qAW_fl k7' (y4 i i0 i1) a3 xl) (e' _ (by omega) (by omega)) (e' _ (by omega) (by omega)) (e' _ (by omega) (by omega)) (fun k k0 k1 => e' _ (by omega) (by omega))
        · rw [e2o _ (by omega)]
          unfold qAK
          rw [e' (1 + i) (by omega) (by omega), e' (6 + i) (by omega) (by omega), e' (11 + i) (by omega) (by omega), e' (16 + i) (by omega) (by omega)]
          exact qAK_fl (y5 i i0 i1) a3 xl
        · by_cases q : i = s 29
          · rw [q, vna]
            refine qVL_cg ?_ (eS' _ ha.1) (e' _ (by omega) (by omega))
            rw [eL, en]
            have c4 : h5.2.2 (G.1 + h.1 + 4) = some (cArr 0 6 (ix (fun _ => 0))) := by
              rw [e5, vP_o (by omega) (by omega) (by omega) (by omega), ne4 _ (by omega)]; exact i5
            have b5 : ¬ Bv Bs (G.1 + h.1 + 4) (G.1 + h.1 + 5) := fun q => by
              rcases q with q | q
              · have := (z.2.1 _ q).1; omega
              · omega
            have q0 : qVL (Bv Bs (G.1 + h.1 + 4)) (G.1 + h.1) (flF r.2.2.2.1) r.2.2.1 h5 := by
              have hVR := vrE_VR _ _ _ _ v3
              refine ⟨N, pl, cs, sn, C, S, E, fun _ => 0, ?_, c4, by rw [e5]; exact vP_c, by rw [e5]; exact vP_s, by rw [e5]; exact vP_e, ⟨Or.inr rfl, b5⟩, hN1, by omega, v4, ?_⟩
              · rw [← v1]; exact c5
              · rw [v2, Int.toNat_natCast]; exact hVR
            exact qVL_fl q0 a3 xl
          · rw [vne i q]
            exact qVL_cg (qVL_fl (y6 i i0 (by omega)) a3 xl) (eS' i i0) (e' _ (by omega) (by omega))
      obtain ⟨z1, z2⟩ := K_genB z (Bt := Bv Bs (G.1 + h.1 + 4)) (fun a q => by
        rcases q with q | q
        · have := z.2.1 a q; exact ⟨by omega, this.2⟩
        · exact ⟨by omega, Or.inr (by omega)⟩) gq2 (qFr_tr (qFr_wk (f1 _) (X' := fun q => q = G.1 + 1 ∨ q = G.1 + 1 + 3 ∨ q = ad (0 + 22)) (fun a q => Or.inl q)) (qFr_wk a3 (fun a q => Or.inr q))) (fun a q => by
        rcases q with q | q | q
        · omega
        · omega
        · have := lo (0 + 22); omega) (by omega) zn' (ww (by omega) (by omega) (K_pi z).1 q2) (ww (by omega) (by omega) (K_pt z) q3) okE (fun i i0 i1 => by
        rw [e29'] at i1
        by_cases q : i = s 29
        · rw [q, vna]; omega
        · rw [vne i q]; exact K_vn z i i0 (by omega))
      refine ⟨_, ad2, vn', vi, vt, st, h6, z1, z2, by omega, by omega, fun Q => ?_⟩
      have x5 := (far5 G.1 (by omega) (by omega)).trans hx
      have x6 : h6.2.2 G.1 = some (xO G.1 hi) := fr_o a3 x5 (nl (by omega) (by omega))
      have w6 : h6.2.2 (G.1 + 1) = some (wO (G.1 + 1) 0 (s 0) (AWAYS s)) := fr_o a3 at5 (nl (by omega) (by omega))
      have htg5 := fun (K : Nat → Prop) => ll_tag l1 (K := K)
      have htg6 := fun (K : Nat → Prop) => ll_tag a1 (K := K)
      have hsz6 := fun (K : KQ) => ll_size (G := G) (d := d + 24) (Q := K) a1
      rw [w1 Q, ef]
      simp (disch := omega) only [KK, Int.reduceEq, not_false_iff, ↓reduceIte, ↓if_pos, ↓if_neg, xt_o, true_and, nlO_i, nlO_n, nlO_r, List.length_nil, List.length_cons, Nat.reduceAdd, Nat.reduceLeDiff, Nat.zero_le, U2, u2_59, x5, at5, x6, w6, htg5, htg6, hsz6, a5', GX12, GX11, VS0, ar_sub, Int.add_sub_cancel]
    · have eA : ansV (s 29) (s 33) r = -10 - r.2.1 := if_neg good
      have eE : endV (s 29) (s 33) s r = R := by rw [hR]; exact if_neg good
      have ef : faV (s 33) r = r.2.1 := if_neg good
      rw [eA, eE]
      obtain ⟨z1, z2⟩ := K_gen z (qG_mo gq (by omega)) (f1 Bs) (fun a q => by omega) (by omega) (znow _ (K_n z)) (zim _ (K_i z)) (ztr _ (K_t z)) okR (by rw [el 29 (by omega) (by omega)]; exact K_vn z)
      refine ⟨Bs, ad, vn, vi, vt, st, h5, z1, z2, by omega, by omega, fun Q => ?_⟩
      have nn : ¬ r.2.1 = -1 := by omega
      rw [w1 Q, ef]
      simp (disch := omega) only [KK, Int.reduceEq, not_false_iff, ↓reduceIte, ↓if_pos, ↓if_neg, xt_o, true_and, nlO_i, nlO_n, nlO_r, List.length_nil, List.length_cons, Nat.reduceAdd, Nat.reduceLeDiff, Nat.zero_le, U2, u2_59, nn, ar_sub]
end V2
