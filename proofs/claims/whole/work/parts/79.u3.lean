/-! booked, planned -/
section U3
variable {G : MG} {d : Nat} {Q : KQ} {gb : Nat} {Bs X : Nat → Prop} {ad ad' : Int → Nat} {b : Int} {w lo : Nat} {vd vn vn' vi vt : Int → Nat} {s s' si st bd : Int → Int} {hi rn : Int} {h h' : MH}
theorem A_book (z : qK G Bs ad vn vi vt s si st hi rn bd h) {x y : Int} : cS G (d + 5) 35 [vI x, vI y] (vI (rBOOK s x y)) (tBOOK s x y) si hi rn bd h := by
  have hx := K_x z
  have zn := (K_n z).1.1
  have okp := K_p z
  obtain ⟨p0, p30, p31, p32, p33, p85, p95, p111, p127, p9, p10⟩ := okp
  have x4 := (K_n z).1.2.2.2.1
  have x5 := (K_n z).1.2.2.2.2.1
  have x6 := (K_n z).1.2.2.2.2.2.1
  have htg := fun (K : Nat → Prop) => rw_tag x6 (K := K)
  have hfu := fun (K : KQ) => c_isFull (G := G) (d := d + 3) (Q := K) x6
  have hF := fun (K : KQ) => c_areFacts (G := G) (d := d + 3) (h := h) (Q := K) (f := y)
  have hH := fun (K : KQ) => K_hask (d := d + 2) (Q := K) z (i := x)
  unfold rBOOK tBOOK
  by_cases c : x = -1
  · rw [if_pos c, if_pos c]
    have e : ∀ i, ¬ i = 32 → up s 32 0 i = s i := fun i hi => up_ne hi
    have e32 : up s 32 0 32 = 0 := up_eq
    obtain ⟨h1, t1, t2, t3, t4⟩ := c_rclear (G := G) (gb := G.1) (Bs := Bs) (X := fun q => q = G.1 + 1 + 12) (d := d + 3) x6 rfl (fun i => up s 32 0 (111 + i)) (fun i => up s 32 0 (119 + i))
    obtain ⟨z1, z2⟩ := K_rows (s' := up s 32 0) z (qFr_wk t2 (fun a q => by omega)) t3.1 (fun i hi => e i (by omega)) (by
                rw [e 30 (by omega)]
                exact qRW_cg (qRW_fr x4 t2 (by decide) (by omega) (by omega) (by omega)) (fun i i0 i1 => e _ (by omega)) (fun i i0 i1 => e _ (by omega))) (by
                rw [e 31 (by omega)]
                exact qRW_cg (qRW_fr x5 t2 (by decide) (by omega) (by omega) (by omega)) (fun i i0 i1 => e _ (by omega)) (fun i i0 i1 => e _ (by omega))) (by rw [e32]; exact t1) (okP_hi (fun i hi => e i (by omega)) (K_p z) ⟨by rw [e 30 (by omega)]; exact p30, by rw [e 31 (by omega)]; exact p31, by rw [e32]; omega, by rw [e 33 (by omega)]; exact p33, fun i i0 i1 => by rw [e 30 (by omega)] at i1; rw [e _ (by omega)]; exact p85 i i0 i1, fun i i0 i1 => by rw [e 31 (by omega)] at i1; rw [e (95 + i) (by omega), e (103 + i) (by omega)]; exact p95 i i0 i1, fun i i0 i1 => by rw [e32] at i1; omega, fun i i0 i1 => by rw [e 33 (by omega)] at i1; rw [e _ (by omega)]; exact p127 i i0 i1⟩)
    refine ⟨Bs, ad, vn, vi, vt, st, h1, z1, z2, by omega, by omega, fun Q => ?_⟩
    rw [e35]
    simp (disch := omega) only [KK, Int.reduceEq, not_false_iff, ↓reduceIte, ↓if_pos, ↓if_neg, xt_o, true_and, nlO_i, nlO_n, nlO_r, List.length_nil, List.length_cons, Nat.reduceAdd, Nat.reduceLeDiff, Nat.zero_le, U35, c, hx, zn, htg, t4, GX12, GX11, VS7]
  · rw [if_neg c, if_neg c]
    by_cases cA : 0 ≤ x ∧ x < s 28
    · have hH := fun (K : KQ) => (hH K).trans (by rw [if_pos cA])
      rw [if_pos cA]
      by_cases cB : 0 ≤ y ∧ y ≤ 255
      · have hF := fun (K : KQ) => (hF K).trans (by rw [if_pos cB])
        rw [if_pos cB]
        by_cases c3 : s 32 = 8
        · have hfu := fun (K : KQ) => (hfu K).trans (by rw [if_pos (show ((8 : Nat) : Int) ≤ s 32 by omega)])
          rw [if_pos c3, if_neg (fun q => q.2 c3)]
          refine cQ_S (cQ_id z (fun Q => ?_))
          rw [e35]
          simp (disch := omega) only [KK, Int.reduceEq, not_false_iff, ↓reduceIte, ↓if_pos, ↓if_neg, xt_o, true_and, nlO_i, nlO_n, nlO_r, List.length_nil, List.length_cons, Nat.reduceAdd, Nat.reduceLeDiff, Nat.zero_le, U35, hx, zn, htg, hF, hH, hfu, GX12, GX11, VS7, VS11, true_or, or_true]
        · have hfu := fun (K : KQ) => (hfu K).trans (by rw [if_neg (show ¬ ((8 : Nat) : Int) ≤ s 32 by omega)])
          rw [if_neg c3, if_pos ⟨⟨cA, cB⟩, c3⟩]
          have e : ∀ i, ¬ i = 32 → ¬ i = 111 + s 32 → ¬ i = 119 + s 32 → sBOOK s x y i = s i := fun i h1 h2 h3 => by
            unfold sBOOK
            rw [up_ne h1, up_ne h3, up_ne h2]
          have e32 : sBOOK s x y 32 = s 32 + 1 := up_eq
          have eA : sBOOK s x y (111 + s 32) = x := by unfold sBOOK; rw [up_ne (by omega), up_ne (by omega), up_eq]
          have eB : sBOOK s x y (119 + s 32) = y := by unfold sBOOK; rw [up_ne (by omega), up_eq]
          obtain ⟨h1, t1, t2, t3, t4⟩ := c_put (G := G) (gb := G.1) (Bs := Bs) (X := fun q => G.1 + 1 + 12 ≤ q ∧ q < G.1 + 1 + 12 + 3) (d := d + 3) (x := x) (y := y) x6 ⟨by omega, by omega⟩ (by omega) (f' := fun i => sBOOK s x y (111 + i)) (g' := fun i => sBOOK s x y (119 + i)) (fun i i0 i1 i2 => ⟨e _ (by omega) (by omega) (by omega), e _ (by omega) (by omega) (by omega)⟩) (fun _ => ⟨eA, eB⟩)
          obtain ⟨z1, z2⟩ := K_rows (s' := sBOOK s x y) z (qFr_wk t2 (fun a q => by omega)) t3.1 (fun i hi => e i (by omega) (by omega) (by omega)) (by
                      rw [e 30 (by omega) (by omega) (by omega)]
                      exact qRW_cg (qRW_fr x4 t2 (by decide) (by omega) (by omega) (by omega)) (fun i i0 i1 => e _ (by omega) (by omega) (by omega)) (fun i i0 i1 => e _ (by omega) (by omega) (by omega))) (by
                      rw [e 31 (by omega) (by omega) (by omega)]
                      exact qRW_cg (qRW_fr x5 t2 (by decide) (by omega) (by omega) (by omega)) (fun i i0 i1 => e _ (by omega) (by omega) (by omega)) (fun i i0 i1 => e _ (by omega) (by omega) (by omega))) (by rw [e32]; exact t1) (okP_hi (fun i hi => e i (by omega) (by omega) (by omega)) (K_p z) ⟨by rw [e 30 (by omega) (by omega) (by omega)]; exact p30, by rw [e 31 (by omega) (by omega) (by omega)]; exact p31, by rw [e32]; omega, by rw [e 33 (by omega) (by omega) (by omega)]; exact p33, fun i i0 i1 => by rw [e 30 (by omega) (by omega) (by omega)] at i1; rw [e _ (by omega) (by omega) (by omega)]; exact p85 i i0 i1, fun i i0 i1 => by rw [e 31 (by omega) (by omega) (by omega)] at i1; rw [e (95 + i) (by omega) (by omega) (by omega), e (103 + i) (by omega) (by omega) (by omega)]; exact p95 i i0 i1, fun i i0 i1 => by
                        rw [e32] at i1
                        by_cases q : i = s 32
                        · rw [q, eA]; exact cA
                        · rw [e _ (by omega) (by omega) (by omega)]; exact p111 i i0 (by omega), fun i i0 i1 => by rw [e 33 (by omega) (by omega) (by omega)] at i1; rw [e _ (by omega) (by omega) (by omega)]; exact p127 i i0 i1⟩)
          refine ⟨Bs, ad, vn, vi, vt, st, h1, z1, z2, by omega, by omega, fun Q => ?_⟩
          rw [e35]
          simp (disch := omega) only [KK, Int.reduceEq, not_false_iff, ↓reduceIte, ↓if_pos, ↓if_neg, xt_o, true_and, nlO_i, nlO_n, nlO_r, List.length_nil, List.length_cons, Nat.reduceAdd, Nat.reduceLeDiff, Nat.zero_le, U35, hx, zn, htg, hF, hH, hfu, t4, GX12, GX11, VS7, VS11, true_or, or_true]
      · have hF := fun (K : KQ) => (hF K).trans (by rw [if_neg cB])
        rw [if_neg cB, if_neg (fun q => cB q.1.2)]
        refine cQ_S (cQ_id z (fun Q => ?_))
        rw [e35]
        simp (disch := omega) only [KK, Int.reduceEq, not_false_iff, ↓reduceIte, ↓if_pos, ↓if_neg, xt_o, true_and, nlO_i, nlO_n, nlO_r, List.length_nil, List.length_cons, Nat.reduceAdd, Nat.reduceLeDiff, Nat.zero_le, U35, hx, zn, htg, hF, hH, GX12, GX11, VS7, VS11, true_or, or_true]
    · have hH := fun (K : KQ) => (hH K).trans (by rw [if_neg cA])
      rw [if_neg cA, if_neg (fun q => cA q.1.1)]
      refine cQ_S (cQ_id z (fun Q => ?_))
      rw [e35]
      simp (disch := omega) only [KK, Int.reduceEq, not_false_iff, ↓reduceIte, ↓if_pos, ↓if_neg, xt_o, true_and, nlO_i, nlO_n, nlO_r, List.length_nil, List.length_cons, Nat.reduceAdd, Nat.reduceLeDiff, Nat.zero_le, U35, hx, zn, hH, GX12, GX11, VS11, true_or, or_true]
theorem A_plan (z : qK G Bs ad vn vi vt s si st hi rn bd h) {x y : Int} : cS G (d + 5) 33 [vI x, vI y] (vI (rPLAN s x y)) (tPLAN s x y) si hi rn bd h := by
  have hx := K_x z
  have zn := (K_n z).1.1
  have okp := K_p z
  obtain ⟨p0, p30, p31, p32, p33, p85, p95, p111, p127, p9, p10⟩ := okp
  have x4 := (K_n z).1.2.2.2.1
  have x5 := (K_n z).1.2.2.2.2.1
  have x6 := (K_n z).1.2.2.2.2.2.1
  have htg := fun (K : Nat → Prop) => rw_tag x5 (K := K)
  have hfu := fun (K : KQ) => c_isFull (G := G) (d := d + 3) (Q := K) x5
  have hHa := fun (K : KQ) => K_has (d := d + 2) (Q := K) z (i := y)
  have hHk := fun (K : KQ) => K_hask (d := d + 2) (Q := K) z (i := y)
  unfold rPLAN tPLAN
  by_cases c : x = -1
  · rw [if_pos c, if_pos c]
    have e : ∀ i, ¬ i = 31 → up s 31 0 i = s i := fun i hi => up_ne hi
    have e31 : up s 31 0 31 = 0 := up_eq
    obtain ⟨h1, t1, t2, t3, t4⟩ := c_rclear (G := G) (gb := G.1) (Bs := Bs) (X := fun q => q = G.1 + 1 + 9) (d := d + 3) x5 rfl (fun i => up s 31 0 (95 + i)) (fun i => up s 31 0 (103 + i))
    obtain ⟨z1, z2⟩ := K_rows (s' := up s 31 0) z (qFr_wk t2 (fun a q => by omega)) t3.1 (fun i hi => e i (by omega)) (by
                rw [e 30 (by omega)]
                exact qRW_cg (qRW_fr x4 t2 (by decide) (by omega) (by omega) (by omega)) (fun i i0 i1 => e _ (by omega)) (fun i i0 i1 => e _ (by omega))) (by rw [e31]; exact t1) (by
                rw [e 32 (by omega)]
                exact qRW_cg (qRW_fr x6 t2 (by decide) (by omega) (by omega) (by omega)) (fun i i0 i1 => e _ (by omega)) (fun i i0 i1 => e _ (by omega))) (okP_hi (fun i hi => e i (by omega)) (K_p z) ⟨by rw [e 30 (by omega)]; exact p30, by rw [e31]; omega, by rw [e 32 (by omega)]; exact p32, by rw [e 33 (by omega)]; exact p33, fun i i0 i1 => by rw [e 30 (by omega)] at i1; rw [e _ (by omega)]; exact p85 i i0 i1, fun i i0 i1 => by rw [e31] at i1; omega, fun i i0 i1 => by rw [e 32 (by omega)] at i1; rw [e _ (by omega)]; exact p111 i i0 i1, fun i i0 i1 => by rw [e 33 (by omega)] at i1; rw [e _ (by omega)]; exact p127 i i0 i1⟩)
    refine ⟨Bs, ad, vn, vi, vt, st, h1, z1, z2, by omega, by omega, fun Q => ?_⟩
    rw [e33]
    simp (disch := omega) only [KK, Int.reduceEq, not_false_iff, ↓reduceIte, ↓if_pos, ↓if_neg, xt_o, true_and, nlO_i, nlO_n, nlO_r, List.length_nil, List.length_cons, Nat.reduceAdd, Nat.reduceLeDiff, Nat.zero_le, U33, c, hx, zn, htg, t4, GX12, GX11, VS7]
  · rw [if_neg c, if_neg c]
    obtain ⟨na, hna⟩ : ∃ na : Int, na = if (x = 1 ∨ x = 2) ∧ ¬ (0 ≤ y ∧ y < s 27) then 1 else 0 := ⟨_, rfl⟩
    obtain ⟨nk, hnk⟩ : ∃ nk : Int, nk = if x = 3 ∧ ¬ (0 ≤ y ∧ y < s 28) then 1 else 0 := ⟨_, rfl⟩
    have k1 : ∀ Q : KQ, wp G (d + 4) 33 0 [some (vR G.1), some (vI x), some (vI y), none, none] [] h Q = wp G (d + 4) 33 43 [some (vR G.1), some (vI x), some (vI y), some (vI na), none] [] h Q := fun Q => by
      generalize hW : wp G (d + 4) 33 43 [some (vR G.1), some (vI x), some (vI y), some (vI na), none] [] h Q = W
      by_cases q : x = 1 ∨ x = 2
      · by_cases q2 : 0 ≤ y ∧ y < s 27
        · have hHa := fun (K : KQ) => (hHa K).trans (by rw [if_pos q2])
          rw [if_neg (fun z => z.2 q2)] at hna
          rw [hna] at hW
          rcases q with q | q
          · subst q
            simp (disch := omega) only [u33_0, u33_1, u33_2, u33_16, u33_17, u33_18, u33_26, u33_27, u33_30, u33_31, u33_34, u33_41, u33_42, KK, hx, zn, hHa, GX12, VS11, xt_o, ↓if_pos, ↓if_neg, nlO_i, nlO_n, true_and, Int.reduceEq, Int.reduceNeg, not_false_iff, ↓reduceIte, not_true, List.length_nil, List.length_cons, Nat.reduceAdd, Nat.reduceLeDiff, Nat.zero_le]
            exact hW
          · subst q
            simp (disch := omega) only [u33_0, u33_1, u33_2, u33_16, u33_17, u33_18, u33_21, u33_22, u33_23, u33_26, u33_27, u33_30, u33_31, u33_34, u33_41, u33_42, KK, hx, zn, hHa, GX12, VS11, xt_o, ↓if_pos, ↓if_neg, nlO_i, nlO_n, true_and, Int.reduceEq, Int.reduceNeg, not_false_iff, ↓reduceIte, not_true, List.length_nil, List.length_cons, Nat.reduceAdd, Nat.reduceLeDiff, Nat.zero_le]
            exact hW
        · have hHa := fun (K : KQ) => (hHa K).trans (by rw [if_neg q2])
          rw [if_pos ⟨q, q2⟩] at hna
          rw [hna] at hW
          rcases q with q | q
          · subst q
            simp (disch := omega) only [u33_0, u33_1, u33_2, u33_16, u33_17, u33_18, u33_26, u33_27, u33_30, u33_31, u33_34, u33_37, u33_38, u33_42, KK, hx, zn, hHa, GX12, VS11, xt_o, ↓if_pos, ↓if_neg, nlO_i, nlO_n, true_and, Int.reduceEq, Int.reduceNeg, not_false_iff, ↓reduceIte, not_true, List.length_nil, List.length_cons, Nat.reduceAdd, Nat.reduceLeDiff, Nat.zero_le]
            exact hW
          · subst q
            simp (disch := omega) only [u33_0, u33_1, u33_2, u33_16, u33_17, u33_18, u33_21, u33_22, u33_23, u33_26, u33_27, u33_30, u33_31, u33_34, u33_37, u33_38, u33_42, KK, hx, zn, hHa, GX12, VS11, xt_o, ↓if_pos, ↓if_neg, nlO_i, nlO_n, true_and, Int.reduceEq, Int.reduceNeg, not_false_iff, ↓reduceIte, not_true, List.length_nil, List.length_cons, Nat.reduceAdd, Nat.reduceLeDiff, Nat.zero_le]
            exact hW
      · rw [if_neg (fun z => q z.1)] at hna
        rw [hna] at hW
        rw [u33_0, u33_1, u33_2, if_pos c, u33_16, u33_17, u33_18, if_neg (by omega), u33_21, u33_22, u33_23, if_pos (by omega)]
        simp only [u33_41, u33_42, nlO_i, nlO_n, true_and]
        exact hW
    have k2 : ∀ Q : KQ, wp G (d + 4) 33 43 [some (vR G.1), some (vI x), some (vI y), some (vI na), none] [] h Q = wp G (d + 4) 33 66 [some (vR G.1), some (vI x), some (vI y), some (vI na), some (vI nk)] [] h Q := fun Q => by
      generalize hW : wp G (d + 4) 33 66 [some (vR G.1), some (vI x), some (vI y), some (vI na), some (vI nk)] [] h Q = W
      by_cases q : x = 3
      · by_cases q2 : 0 ≤ y ∧ y < s 28
        · have hHk := fun (K : KQ) => (hHk K).trans (by rw [if_pos q2])
          rw [if_neg (fun z => z.2 q2)] at hnk
          rw [hnk] at hW
          rw [u33_43, u33_44, u33_45, if_neg (fun z => z q)]
          simp (disch := omega) only [u33_48, u33_49, u33_52, u33_53, u33_56, u33_63, u33_64, KK, hx, zn, hHk, GX12, VS11, xt_o, ↓if_pos, ↓if_neg, nlO_i, nlO_n, true_and, List.length_nil, List.length_cons, Nat.reduceAdd, Nat.reduceLeDiff, Nat.zero_le]
          exact hW
        · have hHk := fun (K : KQ) => (hHk K).trans (by rw [if_neg q2])
          rw [if_pos ⟨q, q2⟩] at hnk
          rw [hnk] at hW
          rw [u33_43, u33_44, u33_45, if_neg (fun z => z q)]
          simp (disch := omega) only [u33_48, u33_49, u33_52, u33_53, u33_56, u33_59, u33_60, u33_64, KK, hx, zn, hHk, GX12, VS11, xt_o, ↓if_pos, ↓if_neg, nlO_i, nlO_n, true_and, List.length_nil, List.length_cons, Nat.reduceAdd, Nat.reduceLeDiff, Nat.zero_le]
          exact hW
      · rw [if_neg (fun z => q z.1)] at hnk
        rw [hnk] at hW
        rw [u33_43, u33_44, u33_45, if_pos q]
        simp only [u33_63, u33_64, nlO_i, nlO_n, true_and]
        exact hW
    by_cases cA : plB s x y
    · have na0 : na = 0 := by
        rw [hna, if_neg]; exact fun q => q.2 (cA.2.1 q.1)
      have nk0 : nk = 0 := by
        rw [hnk, if_neg]; exact fun q => q.2 (cA.2.2 q.1)
      have c03 := cA.1
      rw [if_pos cA]
      by_cases c3 : s 31 = 8
      · have hfu := fun (K : KQ) => (hfu K).trans (by rw [if_pos (show ((8 : Nat) : Int) ≤ s 31 by omega)])
        rw [if_pos c3, if_neg (fun q => q.2 c3)]
        refine cQ_S (cQ_id z (fun Q => ?_))
        rw [e33, k1, k2]
        simp (disch := omega) only [KK, Int.reduceEq, not_false_iff, ↓reduceIte, ↓if_pos, ↓if_neg, xt_o, true_and, nlO_i, nlO_n, nlO_r, List.length_nil, List.length_cons, Nat.reduceAdd, Nat.reduceLeDiff, Nat.zero_le, U33, hx, zn, htg, na0, nk0, hfu, GX12, GX11, VS7, VS11, true_or, or_true]
      · have hfu := fun (K : KQ) => (hfu K).trans (by rw [if_neg (show ¬ ((8 : Nat) : Int) ≤ s 31 by omega)])
        rw [if_neg c3, if_pos ⟨cA, c3⟩]
        have e : ∀ i, ¬ i = 31 → ¬ i = 95 + s 31 → ¬ i = 103 + s 31 → sPLAN s x y i = s i := fun i h1 h2 h3 => by
          unfold sPLAN
          rw [up_ne h1, up_ne h3, up_ne h2]
        have e31 : sPLAN s x y 31 = s 31 + 1 := up_eq
        have eA : sPLAN s x y (95 + s 31) = x := by unfold sPLAN; rw [up_ne (by omega), up_ne (by omega), up_eq]
        have eB : sPLAN s x y (103 + s 31) = y := by unfold sPLAN; rw [up_ne (by omega), up_eq]
        obtain ⟨h1, t1, t2, t3, t4⟩ := c_put (G := G) (gb := G.1) (Bs := Bs) (X := fun q => G.1 + 1 + 9 ≤ q ∧ q < G.1 + 1 + 9 + 3) (d := d + 3) (x := x) (y := y) x5 ⟨by omega, by omega⟩ (by omega) (f' := fun i => sPLAN s x y (95 + i)) (g' := fun i => sPLAN s x y (103 + i)) (fun i i0 i1 i2 => ⟨e _ (by omega) (by omega) (by omega), e _ (by omega) (by omega) (by omega)⟩) (fun _ => ⟨eA, eB⟩)
        obtain ⟨z1, z2⟩ := K_rows (s' := sPLAN s x y) z (qFr_wk t2 (fun a q => by omega)) t3.1 (fun i hi => e i (by omega) (by omega) (by omega)) (by
                    rw [e 30 (by omega) (by omega) (by omega)]
                    exact qRW_cg (qRW_fr x4 t2 (by decide) (by omega) (by omega) (by omega)) (fun i i0 i1 => e _ (by omega) (by omega) (by omega)) (fun i i0 i1 => e _ (by omega) (by omega) (by omega))) (by rw [e31]; exact t1) (by
                    rw [e 32 (by omega) (by omega) (by omega)]
                    exact qRW_cg (qRW_fr x6 t2 (by decide) (by omega) (by omega) (by omega)) (fun i i0 i1 => e _ (by omega) (by omega) (by omega)) (fun i i0 i1 => e _ (by omega) (by omega) (by omega))) (okP_hi (fun i hi => e i (by omega) (by omega) (by omega)) (K_p z) ⟨by rw [e 30 (by omega) (by omega) (by omega)]; exact p30, by rw [e31]; omega, by rw [e 32 (by omega) (by omega) (by omega)]; exact p32, by rw [e 33 (by omega) (by omega) (by omega)]; exact p33, fun i i0 i1 => by rw [e 30 (by omega) (by omega) (by omega)] at i1; rw [e _ (by omega) (by omega) (by omega)]; exact p85 i i0 i1, fun i i0 i1 => by
                      rw [e31] at i1
                      by_cases q : i = s 31
                      · rw [q, eA, eB]; exact cA
                      · rw [e (95 + i) (by omega) (by omega) (by omega), e (103 + i) (by omega) (by omega) (by omega)]; exact p95 i i0 (by omega), fun i i0 i1 => by rw [e 32 (by omega) (by omega) (by omega)] at i1; rw [e _ (by omega) (by omega) (by omega)]; exact p111 i i0 i1, fun i i0 i1 => by rw [e 33 (by omega) (by omega) (by omega)] at i1; rw [e _ (by omega) (by omega) (by omega)]; exact p127 i i0 i1⟩)
        refine ⟨Bs, ad, vn, vi, vt, st, h1, z1, z2, by omega, by omega, fun Q => ?_⟩
        rw [e33, k1, k2]
        simp (disch := omega) only [KK, Int.reduceEq, not_false_iff, ↓reduceIte, ↓if_pos, ↓if_neg, xt_o, true_and, nlO_i, nlO_n, nlO_r, List.length_nil, List.length_cons, Nat.reduceAdd, Nat.reduceLeDiff, Nat.zero_le, U33, hx, zn, htg, na0, nk0, hfu, t4, GX12, GX11, VS7, VS11, true_or, or_true]
    · rw [if_neg cA, if_neg (fun q => cA q.1)]
      refine cQ_S (cQ_id z (fun Q => ?_))
      rw [e33, k1, k2]
      by_cases q0 : x < 0
      · simp (disch := omega) only [KK, Int.reduceEq, not_false_iff, ↓reduceIte, ↓if_pos, ↓if_neg, xt_o, true_and, nlO_i, nlO_n, nlO_r, List.length_nil, List.length_cons, Nat.reduceAdd, Nat.reduceLeDiff, Nat.zero_le, U33]
      · by_cases q3 : 3 < x
        · simp (disch := omega) only [KK, Int.reduceEq, not_false_iff, ↓reduceIte, ↓if_pos, ↓if_neg, xt_o, true_and, nlO_i, nlO_n, nlO_r, List.length_nil, List.length_cons, Nat.reduceAdd, Nat.reduceLeDiff, Nat.zero_le, U33]
        · by_cases qa : na = 0
          · have : nk = 1 := by
              by_cases qk : x = 3 ∧ ¬ (0 ≤ y ∧ y < s 28)
              · rw [hnk, if_pos qk]
              · exfalso
                refine cA ⟨⟨by omega, by omega⟩, fun q => ?_, fun q => ?_⟩
                · by_cases qq : 0 ≤ y ∧ y < s 27
                  · exact qq
                  · rw [if_pos ⟨q, qq⟩] at hna; omega
                · by_cases qq : 0 ≤ y ∧ y < s 28
                  · exact qq
                  · exact absurd ⟨q, qq⟩ qk
            simp (disch := omega) only [KK, Int.reduceEq, not_false_iff, ↓reduceIte, ↓if_pos, ↓if_neg, xt_o, true_and, nlO_i, nlO_n, nlO_r, List.length_nil, List.length_cons, Nat.reduceAdd, Nat.reduceLeDiff, Nat.zero_le, U33, qa, this]
          · simp (disch := omega) only [KK, Int.reduceEq, not_false_iff, ↓reduceIte, ↓if_pos, ↓if_neg, xt_o, true_and, nlO_i, nlO_n, nlO_r, List.length_nil, List.length_cons, Nat.reduceAdd, Nat.reduceLeDiff, Nat.zero_le, U33]
end U3
