/-! days on end; how many are back, through; a climb -/
theorem okW_GOESn : ∀ (n : Nat) {s : Int → Int}, okW s → s 0 + n ≤ 100000 → okW (GOESn n s)
  | 0, _, ok, _ => ok
  | n + 1, s, ok, h0 => okW_GOESn n (okW_GOES ok (by omega)) (by rw [GOES_0]; omega)
section W6
variable {G : MG} {d : Nat} {Q : KQ} {gb : Nat} {Bs : Nat → Prop} {ad : Int → Nat} {b : Int} {w lo : Nat} {vd : Int → Nat}
theorem c_daysGo_l (A : qAD ad lo) (hlo : w + 22 ≤ lo) {k : Int} (hk : k ≤ 1000) : ∀ (n : Nat) (s : Int → Int) (h : MH) (i : Int) (n3 : Option V), qW G Bs ad b w vd s h → okW s → s 0 + n ≤ 100000 → 0 ≤ i → i + n = k → nlO n3 = true → ∃ h' : MH, qW G Bs ad b w vd (GOESn n s) h' ∧ qFr gb Bs (qAs ad b w (s 28)) h h' ∧ (h'.1 = h.1 ∧ h'.2.1 = h.2.1) ∧ ∀ Q : KQ, wp G (d + 7) 54 2 [some (vR w), some (vI k), some (vI i), n3] [] h Q = Q none h' := by
  intro n
  induction n with
  | zero =>
    intro s h i n3 z ok h0 i0 hi hn3
    refine ⟨h, z, qFr_rf, ⟨rfl, rfl⟩, fun Q => ?_⟩
    rw [u54_2, u54_3, u54_4, if_pos (by omega), u54_57]
  | succ n ih =>
    intro s h i n3 z ok h0 i0 hi hn3
    obtain ⟨h1, r1, r2, r3, r4⟩ := c_day (d := d) A hlo z ok (by omega) (n1 := some (vI k)) (i := i) ⟨i0, by omega⟩ rfl hn3
    obtain ⟨h2, t1, t2, t3, t4⟩ := ih (GOES s) h1 (i + 1) (some (vI (s 28))) r1 (okW_GOES ok (by omega)) (by rw [GOES_0]; omega) (by omega) (by omega) rfl
    rw [GOES_low ok.1 28 (by omega)] at t2
    refine ⟨h2, t1, qFr_tr r2 t2, ⟨t3.1.trans r3.1, t3.2.trans r3.2⟩, fun Q => ?_⟩
    rw [u54_2, u54_3, u54_4, if_neg (by omega), r4 Q, t4 Q]
theorem c_daysGo (A : qAD ad lo) (hlo : w + 22 ≤ lo) {s : Int → Int} {h : MH} (z : qW G Bs ad b w vd s h) (ok : okW s) {n : Int} (hn : 0 ≤ n ∧ n ≤ 1000) (h0 : s 0 + n ≤ 100000) : ∃ h' : MH, qW G Bs ad b w vd (GOESn n.toNat s) h' ∧ qFr gb Bs (qAs ad b w (s 28)) h h' ∧ (h'.1 = h.1 ∧ h'.2.1 = h.2.1) ∧ ∀ Q : KQ, wpC G (d + 8) 54 [vR w, vI n] h Q = Q none h' := by
  obtain ⟨h', r1, r2, r3, r4⟩ := c_daysGo_l (d := d) A hlo (k := n) hn.2 n.toNat s h 0 none z ok (by omega) (by omega) (by omega) rfl
  refine ⟨h', r1, r2, r3, fun Q => ?_⟩
  rw [e54, u54_0, u54_1]
  simp only [nlO_i, nlO_n, true_and]
  exact r4 Q
theorem c_back_l {s : Int → Int} {h : MH} (z : qW G Bs ad b w vd s h) (ok : okW s) : ∀ (n : Nat) (i a : Int), 0 ≤ i → i + n = s 28 → wp G (d + 3) 58 4 [some (vR w), some (vI a), some (vI i)] [] h Q = Q (some (vI (bkF s n i a))) h := by
  have o28 := ok.1.2.1
  have z1 := z.1.1
  have hsz := fun (K : KQ) => ll_size (G := G) (d := d + 2) (Q := K) z.2.2.1
  have htg := fun (K : Nat → Prop) => ll_tag z.2.2.1 (K := K)
  intro n
  induction n with
  | zero =>
    intro i a i0 hi
    rw [bkF, u58_4]
    simp (disch := omega) only [KK, Int.reduceEq, not_false_iff, ↓reduceIte, ↓if_pos, ↓if_neg, xt_o, true_and, nlO_i, nlO_n, nlO_r, List.length_nil, List.length_cons, Nat.reduceAdd, Nat.reduceLeDiff, Nat.zero_le, U58, z1, hsz, htg, GX11, VS0]
  | succ n ih =>
    intro i a i0 hi
    have hgt := fun (K : KQ) => ll_get (G := G) (d := d) (Q := K) z.2.2.1 (i := i) ⟨i0, by omega⟩
    have hk : h.2.2 (ad (b + 10 + i)) = some (cObj 1 [vI (s (1 + i)), vI (s (6 + i)), vI (s (11 + i)), vI (s (16 + i))]) := z.2.2.2.2.2.1 i i0 (by omega)
    have hb := (ok.2.2.2.2.2.2 i i0 (by omega)).1
    rw [bkF, ← ih (i + 1) _ (by omega) (by omega), u58_4]
    rcases hb with e | e
    · rw [e] at hk
      simp (disch := omega) only [KK, Int.reduceEq, not_false_iff, ↓reduceIte, ↓if_pos, ↓if_neg, xt_o, true_and, nlO_i, nlO_n, nlO_r, List.length_nil, List.length_cons, Nat.reduceAdd, Nat.reduceLeDiff, Nat.zero_le, U58, z1, hsz, htg, hgt, hk, e, GX11, GX1, OKS, VS0, ar_add (a := i)]
    · rw [e] at hk
      simp (disch := omega) only [KK, Int.reduceEq, not_false_iff, ↓reduceIte, ↓if_pos, ↓if_neg, xt_o, true_and, nlO_i, nlO_n, nlO_r, List.length_nil, List.length_cons, Nat.reduceAdd, Nat.reduceLeDiff, Nat.zero_le, U58, z1, hsz, htg, hgt, hk, e, GX11, GX1, OKS, VS0, ar_add (a := i)]
theorem c_howManyBack {s : Int → Int} {h : MH} (z : qW G Bs ad b w vd s h) (ok : okW s) : wpC G (d + 4) 58 [vR w] h Q = Q (some (vI (BACKS s))) h := by
  have o28 := ok.1.2.1
  unfold BACKS
  rw [e58, ← c_back_l (G := G) (d := d) (Q := Q) z ok (s 28).toNat 0 0 (by omega) (by omega)]
  simp only [KK, Int.reduceEq, not_false_iff, ↓reduceIte, ↓if_pos, ↓if_neg, xt_o, true_and, nlO_i, nlO_n, nlO_r, List.length_nil, List.length_cons, Nat.reduceAdd, Nat.reduceLeDiff, Nat.zero_le, U58]
theorem c_thr_l {s : Int → Int} {h : MH} (z : qW G Bs ad b w vd s h) (ok : okW s) : ∀ (n : Nat) (i a : Int), 0 ≤ i → i + n = s 28 → wp G (d + 3) 57 4 [some (vR w), some (vI a), some (vI i)] [] h Q = Q (some (vI (thF s n i a))) h := by
  have o28 := ok.1.2.1
  have z1 := z.1.1
  have hsz := fun (K : KQ) => ll_size (G := G) (d := d + 2) (Q := K) z.2.2.1
  have htg := fun (K : Nat → Prop) => ll_tag z.2.2.1 (K := K)
  have hsz1 := fun (K : KQ) => ll_size (G := G) (d := d + 2) (Q := K) z.2.1
  have htg1 := fun (K : Nat → Prop) => ll_tag z.2.1 (K := K)
  intro n
  induction n with
  | zero =>
    intro i a i0 hi
    rw [thF, u57_4]
    simp (disch := omega) only [KK, Int.reduceEq, not_false_iff, ↓reduceIte, ↓if_pos, ↓if_neg, xt_o, true_and, nlO_i, nlO_n, nlO_r, List.length_nil, List.length_cons, Nat.reduceAdd, Nat.reduceLeDiff, Nat.zero_le, U57, z1, hsz, htg, GX11, VS0]
  | succ n ih =>
    intro i a i0 hi
    have hgt := fun (K : KQ) => ll_get (G := G) (d := d) (Q := K) z.2.2.1 (i := i) ⟨i0, by omega⟩
    have hk : h.2.2 (ad (b + 10 + i)) = some (cObj 1 [vI (s (1 + i)), vI (s (6 + i)), vI (s (11 + i)), vI (s (16 + i))]) := z.2.2.2.2.2.1 i i0 (by omega)
    rw [thF, ← ih (i + 1) _ (by omega) (by omega), u57_4]
    by_cases e : s 27 ≤ s (11 + i)
    · rw [if_pos e]
      simp (disch := omega) only [KK, Int.reduceEq, not_false_iff, ↓reduceIte, ↓if_pos, ↓if_neg, xt_o, true_and, nlO_i, nlO_n, nlO_r, List.length_nil, List.length_cons, Nat.reduceAdd, Nat.reduceLeDiff, Nat.zero_le, U57, z1, hsz, htg, hsz1, htg1, hgt, hk, GX11, GX1, OKS, VS0, ar_add (a := i)]
    · rw [if_neg e]
      simp (disch := omega) only [KK, Int.reduceEq, not_false_iff, ↓reduceIte, ↓if_pos, ↓if_neg, xt_o, true_and, nlO_i, nlO_n, nlO_r, List.length_nil, List.length_cons, Nat.reduceAdd, Nat.reduceLeDiff, Nat.zero_le, U57, z1, hsz, htg, hsz1, htg1, hgt, hk, GX11, GX1, OKS, VS0, ar_add (a := i)]
theorem c_howManyThrough {s : Int → Int} {h : MH} (z : qW G Bs ad b w vd s h) (ok : okW s) : wpC G (d + 4) 57 [vR w] h Q = Q (some (vI (THROUGHS s))) h := by
  have o28 := ok.1.2.1
  unfold THROUGHS
  rw [e57, ← c_thr_l (G := G) (d := d) (Q := Q) z ok (s 28).toNat 0 0 (by omega) (by omega)]
  simp only [KK, Int.reduceEq, not_false_iff, ↓reduceIte, ↓if_pos, ↓if_neg, xt_o, true_and, nlO_i, nlO_n, nlO_r, List.length_nil, List.length_cons, Nat.reduceAdd, Nat.reduceLeDiff, Nat.zero_le, U57]
theorem qW_cl (A : qAD ad lo) (hlo : w + 22 ≤ lo) {s : Int → Int} {h h' : MH} (z : qW G Bs ad b w vd s h) (ok : okW s) (f : qFr gb Bs (fun q => q = w + 21) h h') (hc : ∃ c1 c2 c3 c4 : Int, h'.2.2 (w + 21) = some (cObj 1 [vI c1, vI c2, vI c3, vI c4])) : qW G Bs ad b w vd s h' := by
  obtain ⟨⟨x1, x2, x3, x4, x5, x6, x7, c1, c2, c3, c4, x8⟩, y⟩ := z
  have oxo : qXo (fun q => q = w + 21) h := xo_1 x8 (by omega)
  have aw : ∀ i, ¬ ad i = w + 21 := fun i q => by have := A.2 i; omega
  exact ⟨⟨fr_o f x1 (fun q => by omega), qIR_fo x2 f (by decide) oxo, qIR_fo x3 f (by decide) oxo, qRW_fo x4 f (by decide) oxo, qRW_fo x5 f (by decide) oxo, qRW_fo x6 f (by decide) oxo, qVL_fo x7 f oxo, hc⟩, qWY_fo y f (okW_k ok) oxo (fun _ _ _ => aw _) (fun _ _ _ => aw _)⟩
/-- s1 is s but for who is away and what the askers have -/
def eqW (s s1 : Int → Int) : Prop := ∀ i, (i ≤ 0 ∨ 27 ≤ i) → s1 i = s i
theorem SW_eq {v sb : Nat} {s s1 : Int → Int} {h : MH} (e : eqW s s1) (o34 : -1 ≤ s 34) (z : qSW w v sb s h) : qSW w v sb s1 h := by
  obtain ⟨⟨sg, aw, z1⟩, ⟨W, z2, z2'⟩, z3, z4, tx, co, sh, ce, nc, pl, cs, sn, C, S, E, y, q1, q2, q3, q4, q5, q6, q7, q8, q9, q10⟩ := z
  have e34 : s1 34 = s 34 := e 34 (by omega)
  have eN : NERVE s1 = NERVE s := by
    unfold NERVE
    rw [e34]
    by_cases c : s 34 = -1
    · rw [if_pos c, if_pos c]
    · rw [if_neg c, if_neg c, e _ (by omega)]
  have eS : STEPM s1 = STEPM s := by
    unfold STEPM
    rw [e34]
    by_cases c : s 34 = -1
    · rw [if_pos c, if_pos c]
    · rw [if_neg c, if_neg c, e _ (by omega)]
  refine ⟨⟨sg, aw, by rw [e 0 (by omega)]; exact z1⟩, ⟨W, z2, fun f f0 f1 => (z2' f f0 f1).trans (e _ (by omega)).symm⟩, fun f f0 f1 => by rw [e _ (by omega)]; exact z3 f f0 f1, z4, tx, co, sh, ce, nc, pl, cs, sn, C, S, E, y, by rw [eN]; exact q1, q2, q3, q4, q5, q6, q7, q8, q9, ?_⟩
  rw [eS, e34, seg_cg _ _ (fun k hk hk2 => e k (by omega))]
  exact q10
theorem AW_eq {a r : Nat} {p : Int} {s s1 : Int → Int} {h : MH} (e : eqW s s1) (p0 : 0 ≤ p) (z : qAW a r s p h) : qAW a r s1 p h := qAW_cg z (e _ (by omega)) (e _ (by omega)) (e _ (by omega)) (fun k k0 k1 => e _ (by omega))
theorem CLF_done {s : Int → Int} {way H S B : Int} (hB : ¬ B = -5) : ∀ (n : Nat) (k : Int), CLF s way n k H S B = (H, S, B)
  | 0, _ => rfl
  | n + 1, k => by
    have e1 : clH s (CLP s way k) H B = H := if_neg (fun q => hB q.1)
    have e2 : clS s (CLP s way k) H S B = S := if_neg (fun q => hB q.1)
    have e3 : clB s (CLP s way k) H S B = B := if_neg (fun q => hB q.1)
    rw [CLF, e1, e2, e3]
    exact CLF_done hB n (k + 1)
theorem c_climbs_l (A : qAD ad lo) (hlo : w + 22 ≤ lo) {s s1 : Int → Int} (ok : okW s) (ok1 : okW s1) (e : eqW s s1) {ab way u : Int} (hu : u = if way = 0 then 1 else 0) (hab : ∀ k, 0 ≤ k → k < s 27 → bt ab k = s1 (21 + k)) {l2 : Option V} (n2 : nlO l2 = true) : ∀ (n : Nat) (h : MH) (k H S B pl bk : Int) (l6 l7 : Option V), qW G Bs ad b w vd s h → h.2.2 (w + 21) = some (cObj 1 [vI H, vI S, vI pl, vI bk]) → (0 ≤ H ∧ H ≤ 255) → ((B = -5 ∧ bk = 0 ∧ 0 ≤ S ∧ S ≤ 99) ∨ (¬ B = -5 ∧ bk = 1 ∧ pl = B)) → 0 ≤ k → k + n = s 27 → nlO l6 = true → nlO l7 = true → ∃ (h' : MH) (pl' bk' : Int), h'.2.2 (w + 21) = some (cObj 1 [vI (CLF s1 way n k H S B).1, vI (CLF s1 way n k H S B).2.1, vI pl', vI bk']) ∧ (((CLF s1 way n k H S B).2.2 = -5 ∧ bk' = 0) ∨ (¬ (CLF s1 way n k H S B).2.2 = -5 ∧ bk' = 1 ∧ pl' = (CLF s1 way n k H S B).2.2)) ∧ qFr gb Bs (fun q => q = w + 21) h h' ∧ (h'.1 = h.1 ∧ h'.2.1 = h.2.1) ∧ ∀ Q : KQ, wp G (d + 6) 59 29 [some (vR w), some (vI u), l2, some (vI ab), some (vI (s 27 - 1)), some (vI k), l6, l7] [] h Q = Q (some (vR (w + 21))) h' := by
  have o27 := ok.1.2.2.1
  have e27 : s1 27 = s 27 := e 27 (by omega)
  intro n
  induction n with
  | zero =>
    intro h k H S B pl bk l6 l7 z hc hH hB k0 kn n6 n7
    refine ⟨h, pl, bk, hc, ?_, qFr_rf, ⟨rfl, rfl⟩, fun Q => ?_⟩
    · exact hB.imp (fun q => ⟨q.1, q.2.1⟩) (fun q => q)
    · have z1 := z.1.1
      rw [u59_29]
      simp (disch := omega) only [KK, Int.reduceEq, not_false_iff, ↓reduceIte, ↓if_pos, ↓if_neg, xt_o, true_and, nlO_i, nlO_n, nlO_r, List.length_nil, List.length_cons, Nat.reduceAdd, Nat.reduceLeDiff, Nat.zero_le, U59, z1, GX11]
  | succ n ih =>
    intro h k H S B pl bk l6 l7 z hc hH hB k0 kn n6 n7
    have z1 := z.1.1
    rcases hB with ⟨hB, hbk, hS0, hS1⟩ | hB
    · have hp : 0 ≤ CLP s1 way k ∧ CLP s1 way k < s 27 := by
        unfold CLP
        rw [e27]
        split <;> omega
      obtain ⟨p, hpe⟩ : ∃ p, p = CLP s1 way k := ⟨_, rfl⟩
      rw [← hpe] at hp
      have hnum : ∀ (h : MH) (Q : KQ), wp G (d + 6) 59 46 [some (vR w), some (vI u), l2, some (vI ab), some (vI (s 27 - 1)), some (vI k), l6, l7] [] h Q = wp G (d + 6) 59 62 [some (vR w), some (vI u), l2, some (vI ab), some (vI (s 27 - 1)), some (vI k), some (vI p), l7] [] h Q := by
        intro h Q
        unfold CLP at hpe
        by_cases ew : way = 0
        · rw [if_pos ew] at hu hpe
          subst hpe
          rw [u59_46, u59_47, if_neg (by omega), u59_50, u59_52, u59_60]
          simp only [n6, n7, nlO_i, true_and]
        · rw [if_neg ew] at hu hpe
          rw [e27] at hpe
          subst hpe
          rw [u59_46, u59_47, if_pos (by omega), u59_55, u59_57, u59_59, u59_60, ar_sub (by omega)]
          simp only [n6, n7, nlO_i, true_and]
      have hhead : ∀ (Q : KQ), wp G (d + 6) 59 29 [some (vR w), some (vI u), l2, some (vI ab), some (vI (s 27 - 1)), some (vI k), l6, l7] [] h Q = wp G (d + 6) 59 46 [some (vR w), some (vI u), l2, some (vI ab), some (vI (s 27 - 1)), some (vI k), l6, l7] [] h Q := by
        intro Q
        generalize hW : wp G (d + 6) 59 46 [some (vR w), some (vI u), l2, some (vI ab), some (vI (s 27 - 1)), some (vI k), l6, l7] [] h Q = W
        rw [u59_29, u59_31, u59_33, if_neg (by omega)]
        simp only [u59_36, u59_37, u59_40, KK, z1, hc, GX11, GX1]
        rw [u59_43, if_neg (by omega)]
        exact hW
      have hbt := hab p hp.1 hp.2
      rw [CLF, ← hpe]
      by_cases cA : s1 (21 + p) = 0
      · skip
        have okm1 := ok1.1.1
        have o34 := ok.1.1.1
        obtain ⟨hS, hBs⟩ := qW_SW z ok
        obtain ⟨y0, hy0⟩ := qSW_y hS
        have hS1' := SW_eq e o34 hS
        have hA := z.2.2.2.2.1 p hp.1 hp.2
        have hA1 := AW_eq e hp.1 hA
        have hk7 := okW_k ok p hp.1 hp.2
        have oA1 := ok1.1.2.2.2.1 p hp.1 (by rw [e27]; exact hp.2)
        obtain ⟨y', hsp⟩ := c_speech (G := G) (d := d) hS1' okm1 hA1 oA1 (hd := H) hH
        have hsi := SAYS_in (s := s1) (hd := H) oA1
        have hor := or_in hH.1 hH.2 hsi.1 hsi.2
        have hwl := WGT_le (x := SAYS s1 p H) ok1
        have hnl := NERVE_le ok1
        have hne : ¬ w + 21 = hvA w vd s + 4 := ne_oa hc hy0
        have hnw : ¬ w = hvA w vd s + 4 := ne_oa z1 hy0
        have eSh : iBin 0 S (WGT s1 (SAYS s1 p H)) = S + WGT s1 (SAYS s1 p H) := ar_add (by omega)
        have emin : min 9999 (S + WGT s1 (SAYS s1 p H)) = S + WGT s1 (SAYS s1 p H) := Int.min_eq_right (by omega)
        have e1 : clH s1 p H B = iBin 4 H (SAYS s1 p H) := if_pos ⟨hB, cA⟩
        have e2 : clS s1 p H S B = S + WGT s1 (SAYS s1 p H) := (if_pos ⟨hB, cA⟩).trans eSh
        have e3 : clB s1 p H S B = if NERVE s1 < S + WGT s1 (SAYS s1 p H) then p else -5 := (if_pos ⟨hB, cA⟩).trans (by rw [eSh])
        rw [e1, e2, e3]
        obtain ⟨h1, hh1⟩ : ∃ h1, h1 = hset h (hvA w vd s + 4) (cArr 0 6 (ix y')) := ⟨_, rfl⟩
        rw [← hh1] at hsp
        have hc1 : h1.2.2 (w + 21) = some (cObj 1 [vI H, vI S, vI pl, vI bk]) := by rw [hh1, hs_ne hne]; exact hc
        have f1 : qFr gb Bs (fun q => q = w + 21) h h1 := by rw [hh1]; exact qFr_sb hBs hy0
        have z2 : qW G Bs ad b w vd s h1 := qW_cl A hlo z ok f1 ⟨H, S, pl, bk, hc1⟩
        obtain ⟨h2, hh2⟩ : ∃ h2, h2 = hset h1 (w + 21) (cObj 1 [vI H, vI S, vI p, vI bk]) := ⟨_, rfl⟩
        have hc2 : h2.2.2 (w + 21) = some (cObj 1 [vI H, vI S, vI p, vI bk]) := by rw [hh2, hs_eq]
        have f2 : qFr gb Bs (fun q => q = w + 21) h1 h2 := by rw [hh2]; exact qFr_set rfl hc1
        have z3 : qW G Bs ad b w vd s h2 := qW_cl A hlo z2 ok f2 ⟨H, S, p, bk, hc2⟩
        have hS2 := SW_eq e o34 (qW_SW z3 ok).1
        obtain ⟨bk', hbk'⟩ : ∃ bk' : Int, bk' = if NERVE s1 < S + WGT s1 (SAYS s1 p H) then 1 else 0 := ⟨_, rfl⟩
        obtain ⟨h3, hh3⟩ : ∃ h3, h3 = hset h2 (w + 21) (cObj 1 [vI (iBin 4 H (SAYS s1 p H)), vI (S + WGT s1 (SAYS s1 p H)), vI p, vI bk']) := ⟨_, rfl⟩
        have hc3 : h3.2.2 (w + 21) = some (cObj 1 [vI (iBin 4 H (SAYS s1 p H)), vI (S + WGT s1 (SAYS s1 p H)), vI p, vI bk']) := by rw [hh3, hs_eq]
        have f3 : qFr gb Bs (fun q => q = w + 21) h2 h3 := by rw [hh3]; exact qFr_set rfl hc2
        have z4 : qW G Bs ad b w vd s h3 := qW_cl A hlo z3 ok f3 ⟨_, _, _, _, hc3⟩
        have hB' : (((if NERVE s1 < S + WGT s1 (SAYS s1 p H) then p else -5) = -5 ∧ bk' = 0 ∧ 0 ≤ S + WGT s1 (SAYS s1 p H) ∧ S + WGT s1 (SAYS s1 p H) ≤ 99) ∨ (¬ (if NERVE s1 < S + WGT s1 (SAYS s1 p H) then p else -5) = -5 ∧ bk' = 1 ∧ p = (if NERVE s1 < S + WGT s1 (SAYS s1 p H) then p else -5))) := by
          by_cases cB : NERVE s1 < S + WGT s1 (SAYS s1 p H)
          · rw [if_pos cB] at hbk' ⊢
            exact Or.inr ⟨by omega, hbk', rfl⟩
          · rw [if_neg cB] at hbk' ⊢
            exact Or.inl ⟨rfl, hbk', by omega, by omega⟩
        obtain ⟨h', pl', bk'', r1, r2, r3, r4, r5⟩ := ih h3 (k + 1) _ _ _ p bk' (some (vI p)) (some (vI (SAYS s1 p H))) z4 hc3 hor hB' (by omega) (by omega) rfl rfl
        have k1 : h3.1 = h.1 ∧ h3.2.1 = h.2.1 := by rw [hh3, hh2, hh1]; exact ⟨rfl, rfl⟩
        refine ⟨h', pl', bk'', r1, r2, qFr_tr f1 (qFr_tr f2 (qFr_tr f3 r3)), ⟨r4.1.trans k1.1, r4.2.trans k1.2⟩, fun Q => ?_⟩
        rw [hhead, hnum, ← r5 Q]
        have z11 := z2.1.1
        have z13 := z3.1.1
        have hgt := fun (K : KQ) => ll_get (G := G) (d := d + 3) (Q := K) z.2.1 (i := p) hp
        have htg := fun (K : Nat → Prop) => ll_tag z.2.1 (K := K)
        have hAC := fun (pc : Nat) (L : Loc') (st : List V) => AC (G := G) (d := d + 6) (h := h) (Q := Q) (a := ad (b + p)) (r := ad (b + p) + 1) (k := s (43 + p)) (p := p) (v := s (49 + p)) (kn := s (55 + p)) (y := 59) (pc := pc) (L := L) (st := st) hk7
        have hau := hA.1
        have hg := fun (x : Int) (K : KQ) => c_wgtS (G := G) (d := d + 5) (Q := K) hS2 (x := x)
        have hh := fun (K : KQ) => c_holdS (G := G) (d := d + 2) (Q := K) hS2
        have hnv := fun (K : V → Prop) => SW_nv hS2 (K := K)
        have hhe := fun (K : KQ) => c_hears (G := G) (d := d + 4) (Q := K) hc2 (x := SAYS s1 p H) (wg := WGT s1 (SAYS s1 p H)) (nv := NERVE s1)
        rw [eSh, emin, ← hbk', ← hh3] at hhe
        unfold bt at hbt
        generalize hW : wp G (d + 6) 59 29 [some (vR w), some (vI u), l2, some (vI ab), some (vI (s 27 - 1)), some (vI (k + 1)), some (vI p), some (vI (SAYS s1 p H))] [] h3 Q = W
        simp only [u59_62, u59_63, u59_65, u59_66, u59_67, KK]
        rw [u59_68, hbt, cA, if_neg (by omega)]
        simp only [u59_71, u59_72, u59_73, u59_76, u59_78, u59_81, u59_84, u59_85, u59_88, u59_91, u59_94, KK, z1, hc, htg, hgt, hau, hAC, hsp, GX11, GX1, xt_o, VS0, VS11, n7, nlO_i, true_and, List.length_nil, List.length_cons, Nat.reduceAdd, Nat.reduceLeDiff, Nat.zero_le]
        simp only [u59_96, u59_97, u59_100, u59_102, KK, z11, hc1, GX11, PX1, true_and]
        rw [← hh2]
        simp only [u59_105, u59_106, u59_109, u59_111, u59_112, u59_114, u59_117, u59_118, u59_121, u59_124, u59_127, u59_130, KK, z13, hc2, hg, hh, hnv, hhe, xt_o, GX11, VS11, VS1, nlO_i, true_and, List.length_nil, List.length_cons, Nat.reduceAdd, Nat.reduceLeDiff, Nat.zero_le]
        rw [ar_add (by omega)]
        exact hW
      · have e1 : clH s1 p H B = H := if_neg (fun q => cA q.2)
        have e2 : clS s1 p H S B = S := if_neg (fun q => cA q.2)
        have e3 : clB s1 p H S B = B := if_neg (fun q => cA q.2)
        rw [e1, e2, e3]
        obtain ⟨h', pl', bk', r1, r2, r3, r4, r5⟩ := ih h (k + 1) H S B pl bk (some (vI p)) l7 z hc hH (Or.inl ⟨hB, hbk, hS0, hS1⟩) (by omega) (by omega) rfl n7
        refine ⟨h', pl', bk', r1, r2, r3, r4, fun Q => ?_⟩
        rw [hhead, hnum, ← r5 Q]
        unfold bt at hbt
        generalize hW : wp G (d + 6) 59 29 [some (vR w), some (vI u), l2, some (vI ab), some (vI (s 27 - 1)), some (vI (k + 1)), some (vI p), l7] [] h Q = W
        simp only [u59_62, u59_63, u59_65, u59_66, u59_67, KK]
        rw [u59_68, hbt, if_pos cA, u59_127, ar_add (by omega), u59_130]
        simp only [nlO_i, true_and]
        exact hW
    · rw [CLF_done hB.1]
      refine ⟨h, pl, bk, hc, Or.inr hB, qFr_rf, ⟨rfl, rfl⟩, fun Q => ?_⟩
      rw [u59_29]
      simp (disch := omega) only [KK, Int.reduceEq, not_false_iff, ↓reduceIte, ↓if_pos, ↓if_neg, xt_o, true_and, nlO_i, nlO_n, nlO_r, List.length_nil, List.length_cons, Nat.reduceAdd, Nat.reduceLeDiff, Nat.zero_le, U59, z1, hc, hB.2.1, GX11, GX1]
theorem c_climbs (A : qAD ad lo) (hlo : w + 22 ≤ lo) {s s1 : Int → Int} {h : MH} (z : qW G Bs ad b w vd s h) (ok : okW s) (ok1 : okW s1) (e : eqW s s1) {ab way u hd : Int} (hu : u = if way = 0 then 1 else 0) (hab : ∀ k, 0 ≤ k → k < s 27 → bt ab k = s1 (21 + k)) (hhd : 0 ≤ hd ∧ hd ≤ 255) : ∃ (h' : MH) (pl' bk' : Int), h'.2.2 (w + 21) = some (cObj 1 [vI (CLIMB s1 way hd).1, vI (CLIMB s1 way hd).2.1, vI pl', vI bk']) ∧ (((CLIMB s1 way hd).2.2 = -5 ∧ bk' = 0) ∨ (¬ (CLIMB s1 way hd).2.2 = -5 ∧ bk' = 1 ∧ pl' = (CLIMB s1 way hd).2.2)) ∧ qFr gb Bs (fun q => q = w + 21) h h' ∧ (h'.1 = h.1 ∧ h'.2.1 = h.2.1) ∧ qW G Bs ad b w vd s h' ∧ ∀ Q : KQ, wpC G (d + 7) 59 [vR w, vI u, vI hd, vI ab] h Q = Q (some (vR (w + 21))) h' := by
  have o27 := ok.1.2.2.1
  have z1 := z.1.1
  have e27 : s1 27 = s 27 := e 27 (by omega)
  obtain ⟨c1, c2, c3, c4, hc⟩ := z.1.2.2.2.2.2.2.2
  have f1 : qFr gb Bs (fun q => q = w + 21) h (hset h (w + 21) (cObj 1 [vI hd, vI 0, vI 0, vI 0])) := qFr_set rfl hc
  have z2 := qW_cl A hlo z ok f1 ⟨hd, 0, 0, 0, hs_eq⟩
  obtain ⟨h', pl', bk', r1, r2, r3, r4, r5⟩ := c_climbs_l (d := d) A hlo ok ok1 e hu hab (l2 := some (vI hd)) rfl (s 27).toNat _ 0 hd 0 (-5) 0 0 none none z2 hs_eq hhd (Or.inl ⟨rfl, rfl, by omega, by omega⟩) (by omega) (by omega) rfl rfl
  have eC : CLF s1 way (s 27).toNat 0 hd 0 (-5) = CLIMB s1 way hd := by unfold CLIMB; rw [e27]
  rw [eC] at r1 r2
  refine ⟨h', pl', bk', r1, r2, qFr_tr f1 r3, r4, qW_cl A hlo z2 ok r3 ⟨_, _, _, _, r1⟩, fun Q => ?_⟩
  have hst := fun (K : KQ) => c_startAnew (G := G) (d := d + 5) (Q := K) hc
  have hsz := fun (h : MH) (z : qW G Bs ad b w vd s h) (K : KQ) => ll_size (G := G) (d := d + 5) (Q := K) z.2.1
  have hsz2 := hsz _ z2
  have htg2 := fun (K : Nat → Prop) => ll_tag z2.2.1 (K := K)
  have hsb := ar_sub (a := s 27) (b := 1) (by omega)
  have hnw : ¬ w = w + 21 := by omega
  have z21 := z2.1.1
  rw [e59, ← r5 Q]
  simp only [u59_0, u59_1, u59_4, u59_7, u59_8, u59_11, u59_12, KK, z1, hs_ne hnw, hc, hs_eq, hs_hs, hst, GX11, PX1, xt_o, VS1, true_and, List.length_nil, List.length_cons, Nat.reduceAdd, Nat.reduceLeDiff, Nat.zero_le]
  simp only [u59_15, u59_16, u59_19, u59_22, u59_23, u59_24, u59_26, u59_27, KK, z21, hsz2, htg2, hsb, GX11, VS0, nlO_i, nlO_n, true_and, List.length_nil, List.length_cons, Nat.reduceAdd, Nat.reduceLeDiff, Nat.zero_le]
end W6
