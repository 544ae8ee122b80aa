/-! more calls of the class that change nothing -/
section K5
variable {G : MG} {d : Nat} {Q : KQ} {Bs X : Nat → Prop} {ad : Int → Nat} {vn vi vt : Int → Nat} {s si st bd : Int → Int} {hi rn : Int} {h h' : MH}
theorem A_firm (z : qK G Bs ad vn vi vt s si st hi rn bd h) (hr : h.1 + 2 ≤ maxC ∧ h.2.1 + 8 ≤ maxS) {p what : Int} : cQ G (d + 8) 28 [vI p, vI what] (vI (aFIRM s p what)) Bs ad vn vi vt s si st hi rn bd h := by
  have hx := K_x z
  have zn := (K_n z).1.1
  have ok := (K_p z).1
  have h27 := ok.1.2.2.1
  have hH := fun (K : KQ) => K_has (d := d + 5) (Q := K) z (i := p)
  unfold aFIRM
  by_cases c : 0 ≤ p ∧ p < s 27
  · have hH := fun (K : KQ) => (hH K).trans (by rw [if_pos c])
    by_cases c1 : what < 0
    · refine cQ_id z (fun Q => ?_)
      rw [if_neg (by omega), e28]
      simp (disch := omega) only [KK, Int.reduceEq, not_false_iff, ↓reduceIte, ↓if_pos, ↓if_neg, xt_o, true_and, nlO_i, nlO_n, nlO_r, List.length_nil, List.length_cons, Nat.reduceAdd, Nat.reduceLeDiff, Nat.zero_le, U28, hx, zn, hH, GX12, VS11, true_or, or_true]
    · by_cases c2 : what ≤ 1
      · rw [if_pos (by omega)]
        have hA := (K_n z).2.2.2.2.1 p c.1 c.2
        have hk7 := okW_k ok p c.1 c.2
        obtain ⟨h1, t1, t2, t3, t4, t5, t6⟩ := c_twin (Bs := Bs) (X := fun _ => False) (d := d + 3) z.2.2.1 hA hk7 hr
        have hne : ∀ i, 0 ≤ i → i < s 27 → ¬ ad (0 + i) = G.1 + h.1 := fun i i0 i1 q => by
          have h2 := ((K_n z).2.2.2.2.1 i i0 i1).1
          rw [q, z.2.2.1 _ (Nat.le_refl _)] at h2; cases h2
        have z1 := qW_f0 (K_n z) t2 (okW_k ok)
        have hx1 : h1.2.2 G.1 = some (xO G.1 hi) := fr_o t2 hx id
        obtain ⟨h2, f2, z2, k2, w2⟩ := c_firm_l (gb := G.1) (d := d) (K_p z) c rfl hne (a1 := some (vI p)) (a2 := some (vI what)) 10 h1 0 (-5) (s (49 + p)) z1 hx1 (by rw [up_same rfl]; exact t1) (by omega) (by omega) (by omega)
        have f3 : qFr G.1 Bs (fun _ => False) h h2 := by
          have f4 := qFr_tr (qFr_wk t2 (fun _ q => q.elim)) f2
          exact ⟨f4.1, fun a cc hc _ => f4.2 a cc hc (fun q => by rw [q, z.2.2.1 _ (Nat.le_refl _)] at hc; cases hc)⟩
        refine ⟨h2, K_q0 z f3 (by omega), qFr_wk f3 (fun _ q => q.elim), by omega, by omega, fun Q => ?_⟩
        have hgt := fun (K : KQ) => ll_get (G := G) (d := d + 4) (Q := K) (K_n z).2.1 (i := p) c
        have htg := fun (K : Nat → Prop) => ll_tag (K_n z).2.1 (K := K)
        have hau := hA.1
        have hAC := fun (pc : Nat) (L : Loc') (st : List V) => AC (G := G) (d := d + 7) (h := h) (Q := Q) (a := ad (0 + p)) (r := ad (0 + p) + 1) (k := s (43 + p)) (p := p) (v := s (49 + p)) (kn := s (55 + p)) (y := 28) (pc := pc) (L := L) (st := st) hk7
        rw [hau] at t6
        have w2 := w2 Q
        rw [show ((10 : Nat) : Int) - 1 = 9 from rfl] at w2
        unfold FIT
        have key : wp G (d + 7) 28 0 [some (vR G.1), some (vI p), some (vI what), none, none, none, none] [] h Q = wp G (d + 7) 28 51 [some (vR G.1), some (vI p), some (vI what), some (vR (G.1 + h.1)), some (vI 0), some (vI (-5)), some (vI 9)] [] h1 Q := by
          generalize hW : wp G (d + 7) 28 51 [some (vR G.1), some (vI p), some (vI what), some (vR (G.1 + h.1)), some (vI 0), some (vI (-5)), some (vI 9)] [] h1 Q = W
          simp (disch := omega) only [KK, Int.reduceEq, not_false_iff, ↓reduceIte, ↓if_pos, ↓if_neg, xt_o, true_and, nlO_i, nlO_n, nlO_r, List.length_nil, List.length_cons, Nat.reduceAdd, Nat.reduceLeDiff, Nat.zero_le, U28, hx, zn, hH, hgt, htg, hau, hAC, t6, GX12, GX11, VS11, VS0, true_or, or_true]
          exact hW
        rw [e28, key, w2]
        by_cases c3 : what = 0
        · rw [if_pos c3]
          simp (disch := omega) only [KK, Int.reduceEq, not_false_iff, ↓reduceIte, ↓if_pos, ↓if_neg, xt_o, true_and, nlO_i, nlO_n, nlO_r, List.length_nil, List.length_cons, Nat.reduceAdd, Nat.reduceLeDiff, Nat.zero_le, U28, c3]
        · rw [if_neg c3]
          simp (disch := omega) only [KK, Int.reduceEq, not_false_iff, ↓reduceIte, ↓if_pos, ↓if_neg, xt_o, true_and, nlO_i, nlO_n, nlO_r, List.length_nil, List.length_cons, Nat.reduceAdd, Nat.reduceLeDiff, Nat.zero_le, U28]
      · refine cQ_id z (fun Q => ?_)
        rw [if_neg (by omega), e28]
        simp (disch := omega) only [KK, Int.reduceEq, not_false_iff, ↓reduceIte, ↓if_pos, ↓if_neg, xt_o, true_and, nlO_i, nlO_n, nlO_r, List.length_nil, List.length_cons, Nat.reduceAdd, Nat.reduceLeDiff, Nat.zero_le, U28, hx, zn, hH, GX12, VS11, true_or, or_true]
  · have hH := fun (K : KQ) => (hH K).trans (by rw [if_neg c])
    refine cQ_id z (fun Q => ?_)
    rw [if_neg (fun q => c q.1), e28]
    simp (disch := omega) only [KK, Int.reduceEq, not_false_iff, ↓reduceIte, ↓if_pos, ↓if_neg, xt_o, true_and, nlO_i, nlO_n, nlO_r, List.length_nil, List.length_cons, Nat.reduceAdd, Nat.reduceLeDiff, Nat.zero_le, U28, hx, zn, hH, GX12, VS11, true_or, or_true]
theorem c_came {o cap : Nat} {n : Int} {f g : Int → Int} (z : qRW h o cap n f g) : wpC G (d + 1) 93 [vR o] h Q = Q (some (vI n)) h := by
  obtain ⟨r1, r2, q1, -⟩ := z
  rw [e93]
  simp (disch := omega) only [KK, Int.reduceEq, not_false_iff, ↓reduceIte, ↓if_pos, ↓if_neg, xt_o, true_and, nlO_i, nlO_n, nlO_r, List.length_nil, List.length_cons, Nat.reduceAdd, Nat.reduceLeDiff, Nat.zero_le, U93, q1, GX7]
theorem A_trace (z : qK G Bs ad vn vi vt s si st hi rn bd h) {i : Int} : cQ G (d + 5) 38 [vI i] (vI (aTRACE rn bd i)) Bs ad vn vi vt s si st hi rn bd h := by
  have hx := K_x z
  obtain ⟨g, zr⟩ := z.2.2.2.2.2.2.2.2.1
  have hr := z.2.2.2.2.2.2.2.2.2
  have hf := fun (K : KQ) => c_first (G := G) (d := d + 1) (Q := K) zr hr.1 (i := i)
  have htg := fun (K : Nat → Prop) => rw_tag zr (K := K)
  refine cQ_id z (fun Q => ?_)
  unfold aTRACE
  rw [e38]
  simp (disch := omega) only [KK, Int.reduceEq, not_false_iff, ↓reduceIte, ↓if_pos, ↓if_neg, xt_o, true_and, nlO_i, nlO_n, nlO_r, List.length_nil, List.length_cons, Nat.reduceAdd, Nat.reduceLeDiff, Nat.zero_le, U38, hx, hf, htg, GX12, VS7]
  rfl
theorem A_count (z : qK G Bs ad vn vi vt s si st hi rn bd h) {w : Int} : cQ G (d + 3) 43 [vI w] (vI (aCOUNT s rn w)) Bs ad vn vi vt s si st hi rn bd h := by
  have hx := K_x z
  have zn := (K_n z).1.1
  obtain ⟨g, zr⟩ := z.2.2.2.2.2.2.2.2.1
  have hc7 := fun (K : KQ) => c_came (G := G) (d := d + 1) (Q := K) zr
  have ht7 := fun (K : Nat → Prop) => rw_tag zr (K := K)
  have r1 := (K_n z).1.2.2.2.1
  have r2 := (K_n z).1.2.2.2.2.1
  have r3 := (K_n z).1.2.2.2.2.2.1
  have hc1 := fun (K : KQ) => c_came (G := G) (d := d + 1) (Q := K) r1
  have ht1 := fun (K : Nat → Prop) => rw_tag r1 (K := K)
  have hc2 := fun (K : KQ) => c_came (G := G) (d := d + 1) (Q := K) r2
  have ht2 := fun (K : Nat → Prop) => rw_tag r2 (K := K)
  have hc3 := fun (K : KQ) => c_came (G := G) (d := d + 1) (Q := K) r3
  have ht3 := fun (K : Nat → Prop) => rw_tag r3 (K := K)
  have s1 := fun (K : KQ) => ll_size (G := G) (d := d + 1) (Q := K) (K_n z).2.1
  have t1 := fun (K : Nat → Prop) => ll_tag (K_n z).2.1 (K := K)
  have s2 := fun (K : KQ) => ll_size (G := G) (d := d + 1) (Q := K) (K_n z).2.2.1
  have t2 := fun (K : Nat → Prop) => ll_tag (K_n z).2.2.1 (K := K)
  have s3 := fun (K : KQ) => ll_size (G := G) (d := d + 1) (Q := K) (K_n z).2.2.2.1
  have t3 := fun (K : Nat → Prop) => ll_tag (K_n z).2.2.2.1 (K := K)
  refine cQ_id z (fun Q => ?_)
  unfold aCOUNT
  rw [e43]
  by_cases c7 : w = 7
  · rw [if_pos c7]
    simp (disch := omega) only [KK, Int.reduceEq, not_false_iff, ↓reduceIte, ↓if_pos, ↓if_neg, xt_o, true_and, nlO_i, nlO_n, nlO_r, List.length_nil, List.length_cons, Nat.reduceAdd, Nat.reduceLeDiff, Nat.zero_le, U43, c7, hx, hc7, ht7, GX12, VS7]
  · rw [if_neg c7]
    by_cases c : 0 ≤ w ∧ w ≤ 6
    · rw [if_pos c]
      rcases k7 c with e | e | e | e | e | e | e <;> subst e
      · simp (disch := omega) only [KK, Int.reduceEq, not_false_iff, ↓reduceIte, ↓if_pos, ↓if_neg, xt_o, true_and, nlO_i, nlO_n, nlO_r, List.length_nil, List.length_cons, Nat.reduceAdd, Nat.reduceLeDiff, Nat.zero_le, U43, hx, zn, s1, t1, GX12, GX11, VS0]
        rfl
      · simp (disch := omega) only [KK, Int.reduceEq, not_false_iff, ↓reduceIte, ↓if_pos, ↓if_neg, xt_o, true_and, nlO_i, nlO_n, nlO_r, List.length_nil, List.length_cons, Nat.reduceAdd, Nat.reduceLeDiff, Nat.zero_le, U43, hx, zn, s2, t2, GX12, GX11, VS0]
        rfl
      · simp (disch := omega) only [KK, Int.reduceEq, not_false_iff, ↓reduceIte, ↓if_pos, ↓if_neg, xt_o, true_and, nlO_i, nlO_n, nlO_r, List.length_nil, List.length_cons, Nat.reduceAdd, Nat.reduceLeDiff, Nat.zero_le, U43, hx, zn, s3, t3, GX12, GX11, VS0]
        rfl
      · simp (disch := omega) only [KK, Int.reduceEq, not_false_iff, ↓reduceIte, ↓if_pos, ↓if_neg, xt_o, true_and, nlO_i, nlO_n, nlO_r, List.length_nil, List.length_cons, Nat.reduceAdd, Nat.reduceLeDiff, Nat.zero_le, U43, hx, zn, hc1, ht1, GX12, GX11, VS7]
        rfl
      · simp (disch := omega) only [KK, Int.reduceEq, not_false_iff, ↓reduceIte, ↓if_pos, ↓if_neg, xt_o, true_and, nlO_i, nlO_n, nlO_r, List.length_nil, List.length_cons, Nat.reduceAdd, Nat.reduceLeDiff, Nat.zero_le, U43, hx, zn, hc2, ht2, GX12, GX11, VS7]
        rfl
      · simp (disch := omega) only [KK, Int.reduceEq, not_false_iff, ↓reduceIte, ↓if_pos, ↓if_neg, xt_o, true_and, nlO_i, nlO_n, nlO_r, List.length_nil, List.length_cons, Nat.reduceAdd, Nat.reduceLeDiff, Nat.zero_le, U43, hx, zn, hc3, ht3, GX12, GX11, VS7]
        rfl
      · simp (disch := omega) only [KK, Int.reduceEq, not_false_iff, ↓reduceIte, ↓if_pos, ↓if_neg, xt_o, true_and, nlO_i, nlO_n, nlO_r, List.length_nil, List.length_cons, Nat.reduceAdd, Nat.reduceLeDiff, Nat.zero_le, U43, hx, zn, GX12, GX11]
        rfl
    · rw [if_neg c]
      simp (disch := omega) only [KK, Int.reduceEq, not_false_iff, ↓reduceIte, ↓if_pos, ↓if_neg, xt_o, true_and, nlO_i, nlO_n, nlO_r, List.length_nil, List.length_cons, Nat.reduceAdd, Nat.reduceLeDiff, Nat.zero_le, U43]
theorem A_told (z : qK G Bs ad vn vi vt s si st hi rn bd h) {w : Int} (hwr : w < 2147483648) : cQ G (d + 6) 18 [vI w] (vI (aTOLD s w)) Bs ad vn vi vt s si st hi rn bd h := by
  have hx := K_x z
  have zn := (K_n z).1.1
  have ok := (K_p z).1
  obtain ⟨W, w1, w2⟩ := (K_n z).1.2.1
  obtain ⟨hS, -⟩ := qW_SW (K_n z) ok
  have hh := fun (K : KQ) => c_holdS (G := G) (d := d + 1) (Q := K) hS
  have hnv := fun (K : V → Prop) => SW_nv hS (K := K)
  have hbk := fun (K : KQ) => c_howManyBack (G := G) (d := d + 1) (Q := K) (K_n z) ok
  have hth := fun (K : KQ) => c_howManyThrough (G := G) (d := d + 1) (Q := K) (K_n z) ok
  have hI := fun (v : Int) (K : KQ) => c_isFact (G := G) (d := d + 4) (h := h) (Q := K) (f := v)
  refine cQ_id z (fun Q => ?_)
  unfold aTOLD
  rw [e18]
  by_cases c : 10 ≤ w
  · have hsb := ar_sub (a := w) (b := 10)
    by_cases c2 : w ≤ 17
    · have hsb := hsb (by omega)
      have hI := fun (K : KQ) => (hI (w - 10) K).trans (by rw [if_pos (by omega)])
      have hw : W (w - 10) = s (35 + (w - 10)) := w2 (w - 10) (by omega) (by omega)
      rw [if_neg (by omega), if_neg (by omega), if_neg (by omega), if_neg (by omega), if_neg (by omega), if_pos (by omega), ← hw]
      simp (disch := omega) only [KK, Int.reduceEq, not_false_iff, ↓reduceIte, ↓if_pos, ↓if_neg, xt_o, true_and, nlO_i, nlO_n, nlO_r, List.length_nil, List.length_cons, Nat.reduceAdd, Nat.reduceLeDiff, Nat.zero_le, U18, hx, zn, hsb, hI, w1, GX12, GX11, xa_i]
    · have hI1 : ∀ K : KQ, wpC G (d + 5) 13 [vI (w - 10)] h K = K (some (vI 0)) h := fun K => (hI (w - 10) K).trans (by rw [if_neg (by omega)])
      have hsb := hsb (by omega)
      rw [if_neg (by omega), if_neg (by omega), if_neg (by omega), if_neg (by omega), if_neg (by omega), if_neg (by omega)]
      simp (disch := omega) only [KK, Int.reduceEq, not_false_iff, ↓reduceIte, ↓if_pos, ↓if_neg, xt_o, true_and, nlO_i, nlO_n, nlO_r, List.length_nil, List.length_cons, Nat.reduceAdd, Nat.reduceLeDiff, Nat.zero_le, U18, hsb, hI1]
  · rw [if_neg (show ¬ (10 ≤ w ∧ w ≤ 17) by omega)]
    by_cases w0 : w = 0
    · rw [if_pos w0]
      simp (disch := omega) only [KK, Int.reduceEq, not_false_iff, ↓reduceIte, ↓if_pos, ↓if_neg, xt_o, true_and, nlO_i, nlO_n, nlO_r, List.length_nil, List.length_cons, Nat.reduceAdd, Nat.reduceLeDiff, Nat.zero_le, U18, w0, hx, zn, GX12, GX11]
    · rw [if_neg w0]
      by_cases w1' : w = 1
      · rw [if_pos w1']
        simp (disch := omega) only [KK, Int.reduceEq, not_false_iff, ↓reduceIte, ↓if_pos, ↓if_neg, xt_o, true_and, nlO_i, nlO_n, nlO_r, List.length_nil, List.length_cons, Nat.reduceAdd, Nat.reduceLeDiff, Nat.zero_le, U18, w1', hx, zn, hh, hnv, GX12, VS11]
      · rw [if_neg w1']
        by_cases w2' : w = 2
        · rw [if_pos w2']
          simp (disch := omega) only [KK, Int.reduceEq, not_false_iff, ↓reduceIte, ↓if_pos, ↓if_neg, xt_o, true_and, nlO_i, nlO_n, nlO_r, List.length_nil, List.length_cons, Nat.reduceAdd, Nat.reduceLeDiff, Nat.zero_le, U18, w2', hx, zn, GX12, GX11]
        · rw [if_neg w2']
          by_cases w3 : w = 3
          · rw [if_pos w3]
            simp (disch := omega) only [KK, Int.reduceEq, not_false_iff, ↓reduceIte, ↓if_pos, ↓if_neg, xt_o, true_and, nlO_i, nlO_n, nlO_r, List.length_nil, List.length_cons, Nat.reduceAdd, Nat.reduceLeDiff, Nat.zero_le, U18, w3, hx, zn, hth, GX12, VS11]
          · rw [if_neg w3]
            by_cases w4 : w = 4
            · rw [if_pos w4]
              simp (disch := omega) only [KK, Int.reduceEq, not_false_iff, ↓reduceIte, ↓if_pos, ↓if_neg, xt_o, true_and, nlO_i, nlO_n, nlO_r, List.length_nil, List.length_cons, Nat.reduceAdd, Nat.reduceLeDiff, Nat.zero_le, U18, w4, hx, zn, hbk, GX12, VS11]
            · rw [if_neg w4]
              simp (disch := omega) only [KK, Int.reduceEq, not_false_iff, ↓reduceIte, ↓if_pos, ↓if_neg, xt_o, true_and, nlO_i, nlO_n, nlO_r, List.length_nil, List.length_cons, Nat.reduceAdd, Nat.reduceLeDiff, Nat.zero_le, U18]
theorem A_climb (z : qK G Bs ad vn vi vt s si st hi rn bd h) {way hd w : Int} : cQ G (d + 8) 22 [vI way, vI hd, vI w] (vI (aCLIMB s way hd w)) Bs ad vn vi vt s si st hi rn bd h := by
  have hx := K_x z
  have zn := (K_n z).1.1
  have ok := (K_p z).1
  have h27 := ok.1.2.2.1
  have hF := fun (K : KQ) => c_areFacts (G := G) (d := d + 6) (h := h) (Q := K) (f := hd)
  unfold aCLIMB
  by_cases c : (0 ≤ way ∧ way ≤ 1) ∧ 0 ≤ w ∧ w ≤ 2
  · rw [if_pos c]
    by_cases c2 : 0 ≤ hd ∧ hd ≤ 255
    · have hF := fun (K : KQ) => (hF K).trans (by rw [if_pos c2])
      rw [if_pos c2]
      have hb := AWAYS_bt ok.2.2.2.2.1 h27
      obtain ⟨h1, pl, bk, r1, r2, r3, r4, r5, r6⟩ := c_climbs (gb := G.1) (d := d) (K_A z) (by omega) (K_n z) ok ok (fun _ _ => rfl) (ab := AWAYS s) (way := way) (u := if way = 0 then 1 else 0) (hd := hd) rfl (fun k k0 k1 => by rw [hb.2 k k0 (by omega), if_pos k1]) c2
      refine ⟨h1, K_q z r3 (by omega) r5, qFr_wk r3 (fun _ => X0_22), by omega, by omega, fun Q => ?_⟩
      rw [e22]
      have fin : ∀ u : Int, wp G (d + 7) 22 56 [some (vR G.1), some (vI way), some (vI hd), some (vI w), some (vR (G.1 + 1 + 21))] [] h1 Q = Q (some (vI (if w = 0 then (CLIMB s way hd).1 else if w = 1 then (CLIMB s way hd).2.1 else (CLIMB s way hd).2.2))) h1 := by
        intro u
        by_cases w0 : w = 0
        · rw [if_pos w0]
          simp (disch := omega) only [KK, Int.reduceEq, not_false_iff, ↓reduceIte, ↓if_pos, ↓if_neg, xt_o, true_and, nlO_i, nlO_n, nlO_r, List.length_nil, List.length_cons, Nat.reduceAdd, Nat.reduceLeDiff, Nat.zero_le, U22, w0, r1, GX1]
        · rw [if_neg w0]
          by_cases w1 : w = 1
          · rw [if_pos w1]
            simp (disch := omega) only [KK, Int.reduceEq, not_false_iff, ↓reduceIte, ↓if_pos, ↓if_neg, xt_o, true_and, nlO_i, nlO_n, nlO_r, List.length_nil, List.length_cons, Nat.reduceAdd, Nat.reduceLeDiff, Nat.zero_le, U22, w1, r1, GX1]
          · rw [if_neg w1]
            rcases r2 with ⟨q1, q2⟩ | ⟨q1, q2, q3⟩
            · rw [q1]
              simp (disch := omega) only [KK, Int.reduceEq, not_false_iff, ↓reduceIte, ↓if_pos, ↓if_neg, xt_o, true_and, nlO_i, nlO_n, nlO_r, List.length_nil, List.length_cons, Nat.reduceAdd, Nat.reduceLeDiff, Nat.zero_le, U22, r1, q2, GX1, Int.reduceEq]
            · rw [← q3]
              simp (disch := omega) only [KK, Int.reduceEq, not_false_iff, ↓reduceIte, ↓if_pos, ↓if_neg, xt_o, true_and, nlO_i, nlO_n, nlO_r, List.length_nil, List.length_cons, Nat.reduceAdd, Nat.reduceLeDiff, Nat.zero_le, U22, r1, q2, GX1]
      rw [← fin 0]
      generalize hW : wp G (d + 7) 22 56 [some (vR G.1), some (vI way), some (vI hd), some (vI w), some (vR (G.1 + 1 + 21))] [] h1 Q = W
      by_cases c3 : way = 0
      · rw [if_pos c3] at r6
        simp (disch := omega) only [u22_0, u22_1, u22_4, u22_5, u22_6, u22_9, u22_10, u22_13, u22_14, u22_15, u22_20, u22_21, u22_24, u22_30, u22_31, u22_34, u22_35, u22_38, u22_39, u22_42, u22_43, u22_44, u22_45, u22_48, u22_51, u22_54, KK, hx, zn, hF, r6, GX12, GX11, VS11, xt_o, ↓if_pos, ↓if_neg, nlO_i, nlO_n, nlO_r, true_and, List.length_nil, List.length_cons, Nat.reduceAdd, Nat.reduceLeDiff, Nat.zero_le]
        exact hW
      · rw [if_neg c3] at r6
        simp (disch := omega) only [u22_0, u22_1, u22_4, u22_5, u22_6, u22_9, u22_10, u22_13, u22_14, u22_15, u22_20, u22_21, u22_24, u22_30, u22_31, u22_34, u22_35, u22_38, u22_39, u22_42, u22_43, u22_44, u22_45, u22_48, u22_51, u22_54, KK, hx, zn, hF, r6, GX12, GX11, VS11, xt_o, ↓if_pos, ↓if_neg, nlO_i, nlO_n, nlO_r, true_and, List.length_nil, List.length_cons, Nat.reduceAdd, Nat.reduceLeDiff, Nat.zero_le]
        exact hW
    · have hF := fun (K : KQ) => (hF K).trans (by rw [if_neg c2])
      rw [if_neg c2]
      refine cQ_id z (fun Q => ?_)
      rw [e22]
      simp (disch := omega) only [KK, Int.reduceEq, not_false_iff, ↓reduceIte, ↓if_pos, ↓if_neg, xt_o, true_and, nlO_i, nlO_n, nlO_r, List.length_nil, List.length_cons, Nat.reduceAdd, Nat.reduceLeDiff, Nat.zero_le, U22, hF]
  · rw [if_neg c]
    refine cQ_id z (fun Q => ?_)
    rw [e22]
    by_cases c1 : way < 0
    · simp (disch := omega) only [KK, Int.reduceEq, not_false_iff, ↓reduceIte, ↓if_pos, ↓if_neg, xt_o, true_and, nlO_i, nlO_n, nlO_r, List.length_nil, List.length_cons, Nat.reduceAdd, Nat.reduceLeDiff, Nat.zero_le, U22]
    · by_cases c2 : 1 < way
      · simp (disch := omega) only [KK, Int.reduceEq, not_false_iff, ↓reduceIte, ↓if_pos, ↓if_neg, xt_o, true_and, nlO_i, nlO_n, nlO_r, List.length_nil, List.length_cons, Nat.reduceAdd, Nat.reduceLeDiff, Nat.zero_le, U22]
      · by_cases c3 : w < 0
        · simp (disch := omega) only [KK, Int.reduceEq, not_false_iff, ↓reduceIte, ↓if_pos, ↓if_neg, xt_o, true_and, nlO_i, nlO_n, nlO_r, List.length_nil, List.length_cons, Nat.reduceAdd, Nat.reduceLeDiff, Nat.zero_le, U22]
        · simp (disch := omega) only [KK, Int.reduceEq, not_false_iff, ↓reduceIte, ↓if_pos, ↓if_neg, xt_o, true_and, nlO_i, nlO_n, nlO_r, List.length_nil, List.length_cons, Nat.reduceAdd, Nat.reduceLeDiff, Nat.zero_le, U22]
end K5
