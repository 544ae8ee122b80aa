/-! says, looked, odds, mean of the class -/
theorem one_bt {i k : Int} (i0 : 0 ≤ i) (i1 : i < 6) (k0 : 0 ≤ k) (k1 : k < 6) : bt (iBin 6 1 i) k = if k = i then 1 else 0 := by
  rcases (show i = 0 ∨ i = 1 ∨ i = 2 ∨ i = 3 ∨ i = 4 ∨ i = 5 by omega) with e | e | e | e | e | e <;> subst e <;> rcases (show k = 0 ∨ k = 1 ∨ k = 2 ∨ k = 3 ∨ k = 4 ∨ k = 5 by omega) with f | f | f | f | f | f <;> subst f <;> decide
section K7
variable {G : MG} {d : Nat} {Q : KQ} {Bs X : Nat → Prop} {ad : Int → Nat} {vn vi vt : Int → Nat} {s si st bd : Int → Int} {hi rn : Int} {h h' : MH}
theorem A_says (z : qK G Bs ad vn vi vt s si st hi rn bd h) {p hd what : Int} : cQ G (d + 7) 8 [vI p, vI hd, vI what] (vI (aSAYS s p hd what)) Bs ad vn vi vt s si st hi rn bd h := by
  have hx := K_x z
  have zn := (K_n z).1.1
  have ok := (K_p z).1
  have h27 := ok.1.2.2.1
  have hH := fun (K : KQ) => K_has (d := d + 4) (Q := K) z (i := p)
  have hF := fun (K : KQ) => c_areFacts (G := G) (d := d + 5) (h := h) (Q := K) (f := hd)
  unfold aSAYS
  by_cases c : 0 ≤ p ∧ p < s 27
  · have hH := fun (K : KQ) => (hH K).trans (by rw [if_pos c])
    by_cases c1 : what < 0
    · refine cQ_id z (fun Q => ?_)
      rw [if_neg (by omega), e8]
      simp (disch := omega) only [KK, Int.reduceEq, not_false_iff, ↓reduceIte, ↓if_pos, ↓if_neg, xt_o, true_and, nlO_i, nlO_n, nlO_r, List.length_nil, List.length_cons, Nat.reduceAdd, Nat.reduceLeDiff, Nat.zero_le, U8, hx, zn, hH, GX12, VS11, true_or, or_true]
    · by_cases c2 : what ≤ 2
      · rw [if_pos (by omega)]
        by_cases c3 : 0 ≤ hd ∧ hd ≤ 255
        · have hF := fun (K : KQ) => (hF K).trans (by rw [if_pos c3])
          rw [if_pos c3]
          have hA := (K_n z).2.2.2.2.1 p c.1 c.2
          have hk7 := okW_k ok p c.1 c.2
          have oA := ok.1.2.2.2.1 p c.1 c.2
          have hgt := fun (K : KQ) => ll_get (G := G) (d := d + 3) (Q := K) (K_n z).2.1 (i := p) c
          have htg := fun (K : Nat → Prop) => ll_tag (K_n z).2.1 (K := K)
          have hau := hA.1
          have hAC := fun (pc : Nat) (L : Loc') (st : List V) (Q : KQ) => AC (G := G) (d := d + 6) (h := h) (Q := Q) (a := ad (0 + p)) (r := ad (0 + p) + 1) (k := s (43 + p)) (p := p) (v := s (49 + p)) (kn := s (55 + p)) (y := 8) (pc := pc) (L := L) (st := st) hk7
          obtain ⟨hS, hB⟩ := qW_SW (K_n z) ok
          obtain ⟨y0, hy0⟩ := qSW_y hS
          have key : ∀ Q : KQ, wp G (d + 6) 8 0 [some (vR G.1), some (vI p), some (vI hd), some (vI what), none] [] h Q = wp G (d + 6) 8 48 [some (vR G.1), some (vI p), some (vI hd), some (vI what), some (vR (ad (0 + p)))] [] h Q := by
            intro Q
            generalize hW : wp G (d + 6) 8 48 [some (vR G.1), some (vI p), some (vI hd), some (vI what), some (vR (ad (0 + p)))] [] h Q = W
            simp (disch := omega) only [u8_0, u8_1, u8_4, u8_5, u8_8, u8_11, u8_12, u8_15, u8_16, u8_17, u8_22, u8_23, u8_26, u8_32, u8_33, u8_36, u8_39, u8_40, u8_43, u8_46, KK, hx, zn, hH, hF, hgt, htg, hau, hAC, GX12, GX11, VS11, VS0, xt_o, ↓if_pos, ↓if_neg, nlO_i, nlO_n, nlO_r, true_and, List.length_nil, List.length_cons, Nat.reduceAdd, Nat.reduceLeDiff, Nat.zero_le]
            exact hW
          by_cases w0 : what = 0
          · rw [if_pos w0]
            have hL := fun (K : KQ) => AL (G := G) (d := d + 5) (h := h) (Q := K) hA.1 hk7 (x := hd)
            refine cQ_id z (fun Q => ?_)
            rw [e8, key]
            simp (disch := omega) only [KK, Int.reduceEq, not_false_iff, ↓reduceIte, ↓if_pos, ↓if_neg, xt_o, true_and, nlO_i, nlO_n, nlO_r, List.length_nil, List.length_cons, Nat.reduceAdd, Nat.reduceLeDiff, Nat.zero_le, U8, w0, hau, hL]
            rfl
          · rw [if_neg w0]
            by_cases w1 : what = 1
            · rw [if_pos w1]
              obtain ⟨y', hM⟩ := c_mouthS (G := G) (d := d + 3) hS ok.1.1 hA oA (hd := hd) c3
              have hh := fun (K : KQ) => c_holdS (G := G) (d := d + 2) (Q := K) hS
              have hv := fun (K : Nat → Prop) => SW_v hS (K := K)
              have f1 : qFr G.1 Bs (fun _ => False) h _ := qFr_sb (y' := y') hB hy0
              refine ⟨_, K_q0 z f1 (Nat.le_refl _), qFr_wk f1 (fun _ q => q.elim), ⟨Nat.le_refl _, by rw [hs_1]; omega⟩, ⟨Nat.le_refl _, by rw [hs_2]; omega⟩, fun Q => ?_⟩
              rw [e8, key]
              simp (disch := omega) only [KK, Int.reduceEq, not_false_iff, ↓reduceIte, ↓if_pos, ↓if_neg, xt_o, true_and, nlO_i, nlO_n, nlO_r, List.length_nil, List.length_cons, Nat.reduceAdd, Nat.reduceLeDiff, Nat.zero_le, U8, w1, hx, zn, hh, hv, hM, GX12, GX11, VS11, VS10]
            · rw [if_neg w1]
              obtain ⟨y', hM⟩ := c_speech (G := G) (d := d) hS ok.1.1 hA oA (hd := hd) c3
              have f1 : qFr G.1 Bs (fun _ => False) h _ := qFr_sb (y' := y') hB hy0
              refine ⟨_, K_q0 z f1 (Nat.le_refl _), qFr_wk f1 (fun _ q => q.elim), ⟨Nat.le_refl _, by rw [hs_1]; omega⟩, ⟨Nat.le_refl _, by rw [hs_2]; omega⟩, fun Q => ?_⟩
              rw [e8, key]
              simp (disch := omega) only [KK, Int.reduceEq, not_false_iff, ↓reduceIte, ↓if_pos, ↓if_neg, xt_o, true_and, nlO_i, nlO_n, nlO_r, List.length_nil, List.length_cons, Nat.reduceAdd, Nat.reduceLeDiff, Nat.zero_le, U8, hx, zn, hM, GX12, VS11]
        · have hF := fun (K : KQ) => (hF K).trans (by rw [if_neg c3])
          rw [if_neg c3]
          refine cQ_id z (fun Q => ?_)
          rw [e8]
          simp (disch := omega) only [KK, Int.reduceEq, not_false_iff, ↓reduceIte, ↓if_pos, ↓if_neg, xt_o, true_and, nlO_i, nlO_n, nlO_r, List.length_nil, List.length_cons, Nat.reduceAdd, Nat.reduceLeDiff, Nat.zero_le, U8, hx, zn, hH, hF, GX12, VS11, true_or, or_true]
      · refine cQ_id z (fun Q => ?_)
        rw [if_neg (by omega), e8]
        simp (disch := omega) only [KK, Int.reduceEq, not_false_iff, ↓reduceIte, ↓if_pos, ↓if_neg, xt_o, true_and, nlO_i, nlO_n, nlO_r, List.length_nil, List.length_cons, Nat.reduceAdd, Nat.reduceLeDiff, Nat.zero_le, U8, hx, zn, hH, GX12, VS11, true_or, or_true]
  · have hH := fun (K : KQ) => (hH K).trans (by rw [if_neg c])
    refine cQ_id z (fun Q => ?_)
    rw [if_neg (fun q => c q.1), e8]
    simp (disch := omega) only [KK, Int.reduceEq, not_false_iff, ↓reduceIte, ↓if_pos, ↓if_neg, xt_o, true_and, nlO_i, nlO_n, nlO_r, List.length_nil, List.length_cons, Nat.reduceAdd, Nat.reduceLeDiff, Nat.zero_le, U8, hx, zn, hH, GX12, VS11, true_or, or_true]
theorem c_looked_l (z : qK G Bs ad vn vi vt s si st hi rn bd h) : ∀ (n : Nat) (i : Int) (l2 : Option V), 0 ≤ i → i + n = s 32 → nlO l2 = true → wp G (d + 4) 36 2 [some (vR G.1), some (vI i), l2] [] h Q = Q (some (vI (lkF s n i))) h := by
  have hx := K_x z
  have zn := (K_n z).1.1
  have okp := K_p z
  have ok := okp.1
  have zr := (K_n z).1.2.2.2.2.2.1
  have hkp := fun (K : KQ) => c_kept (G := G) (d := d + 2) (Q := K) zr
  have htg := fun (K : Nat → Prop) => rw_tag zr (K := K)
  have h32 := okp.2.2.2.1
  have hmin : min (s 32) ((8 : Nat) : Int) = s 32 := Int.min_eq_left (by omega)
  rw [hmin] at hkp
  intro n
  induction n with
  | zero =>
    intro i l2 i0 hi' n2
    rw [lkF, u36_2]
    simp (disch := omega) only [KK, Int.reduceEq, not_false_iff, ↓reduceIte, ↓if_pos, ↓if_neg, xt_o, true_and, nlO_i, nlO_n, nlO_r, List.length_nil, List.length_cons, Nat.reduceAdd, Nat.reduceLeDiff, Nat.zero_le, U36, hx, zn, hkp, htg, GX12, GX11, VS7]
  | succ n ih =>
    intro i l2 i0 hi' n2
    have hfi := fun (K : KQ) => (c_first (G := G) (d := d + 1) (Q := K) zr h32.1 (i := i)).trans (by rw [if_pos ⟨i0, by omega, by omega⟩])
    have hse := fun (K : KQ) => (c_second (G := G) (d := d + 1) (Q := K) zr h32.1 (i := i)).trans (by rw [if_pos ⟨i0, by omega, by omega⟩])
    have hbk := okp.2.2.2.2.2.2.2.1 i i0 (by omega)
    have hH := fun (K : KQ) => (K_hask (d := d + 2) (Q := K) z (i := s (111 + i))).trans (by rw [if_pos hbk])
    have hgt := fun (K : KQ) => ll_get (G := G) (d := d + 1) (Q := K) (K_n z).2.2.1 (i := s (111 + i)) hbk
    have htg2 := fun (K : Nat → Prop) => ll_tag (K_n z).2.2.1 (K := K)
    have hk : h.2.2 (ad (0 + 10 + s (111 + i))) = some (cObj 1 [vI (s (1 + s (111 + i))), vI (s (6 + s (111 + i))), vI (s (11 + s (111 + i))), vI (s (16 + s (111 + i)))]) := (K_n z).2.2.2.2.2.1 _ hbk.1 hbk.2
    rw [lkF]
    by_cases c : s (1 + s (111 + i)) = s (119 + i)
    · rw [if_pos c, ← ih (i + 1) (some (vI (s (111 + i)))) (by omega) (by omega) rfl, u36_2]
      simp (disch := omega) only [KK, Int.reduceEq, not_false_iff, ↓reduceIte, ↓if_pos, ↓if_neg, xt_o, true_and, nlO_i, nlO_n, nlO_r, List.length_nil, List.length_cons, Nat.reduceAdd, Nat.reduceLeDiff, Nat.zero_le, U36, hx, zn, hkp, htg, htg2, hfi, hse, hH, hgt, hk, c, n2, GX12, GX11, GX1, VS7, VS11, VS0, OKS, ar_add (a := i)]
    · rw [if_neg c, u36_2]
      simp (disch := omega) only [KK, Int.reduceEq, not_false_iff, ↓reduceIte, ↓if_pos, ↓if_neg, xt_o, true_and, nlO_i, nlO_n, nlO_r, List.length_nil, List.length_cons, Nat.reduceAdd, Nat.reduceLeDiff, Nat.zero_le, U36, hx, zn, hkp, htg, htg2, hfi, hse, hH, hgt, hk, c, n2, GX12, GX11, GX1, VS7, VS11, VS0, OKS]
theorem A_looked (z : qK G Bs ad vn vi vt s si st hi rn bd h) : cQ G (d + 5) 36 [] (vI (aLOOKED s)) Bs ad vn vi vt s si st hi rn bd h := by
  have h32 := (K_p z).2.2.2.1
  refine cQ_id z (fun Q => ?_)
  unfold aLOOKED
  rw [← c_looked_l (d := d) (Q := Q) z (s 32).toNat 0 none (by omega) (by omega) rfl, e36]
  simp only [KK, Int.reduceEq, not_false_iff, ↓reduceIte, ↓if_pos, ↓if_neg, xt_o, true_and, nlO_i, nlO_n, nlO_r, List.length_nil, List.length_cons, Nat.reduceAdd, Nat.reduceLeDiff, Nat.zero_le, U36]
theorem c_odds_l (okp : okP s) {hd f : Int} (hh : 0 ≤ hd ∧ hd ≤ 255) (hf : 0 ≤ f ∧ f < 8) {l3 : Option V} : ∀ (n : Nat) (h : MH) (i a : Int), qK G Bs ad vn vi vt s si st hi rn bd h → 0 ≤ i → i + n = s 27 → 0 ≤ a → a ≤ i → ∃ h' : MH, qK G Bs ad vn vi vt s si st hi rn bd h' ∧ qFr G.1 Bs (fun q => q = G.1 + 22) h h' ∧ (h'.1 = h.1 ∧ h'.2.1 = h.2.1) ∧ ∀ Q : KQ, wp G (d + 7) 30 50 [some (vR G.1), some (vI hd), some (vI f), l3, some (vI (s 27)), some (vI a), some (vI i)] [] h Q = wp G (d + 7) 30 96 [some (vR G.1), some (vI hd), some (vI f), l3, some (vI (s 27)), some (vI (odF s hd f n i a)), some (vI (s 27))] [] h' Q := by
  have ok := okp.1
  have h27 := ok.1.2.2.1
  intro n
  induction n with
  | zero =>
    intro h i a z i0 hi' a0 a1
    refine ⟨h, z, qFr_rf, ⟨rfl, rfl⟩, fun Q => ?_⟩
    have : i = s 27 := by omega
    subst this
    rw [odF, u30_50, u30_52, u30_54, if_pos (Int.le_refl _)]
  | succ n ih =>
    intro h i a z i0 hi' a0 a1
    have i6 : i < 6 := by omega
    have hx := K_x z
    have zn := (K_n z).1.1
    have eV := upV (s := s) i0 i6
    have ok2 := okW_V eV (up01 ok.2.2.2.2.1) ok
    have hb := AWAYS_bt ok.2.2.2.2.1 h27
    have hs1 := shl_of i0 (show i ≤ 6 by omega)
    have hs2 : iBin 6 1 i < 64 := (aw_or (a := 0) (x := 1) (by omega) (by omega) (Or.inr rfl) i0 i6).2.1 |> fun q => by
      have e : iBin 4 0 (iBin 6 1 i) = iBin 6 1 i := by
        rcases (show i = 0 ∨ i = 1 ∨ i = 2 ∨ i = 3 ∨ i = 4 ∨ i = 5 by omega) with e | e | e | e | e | e <;> subst e <;> decide
      omega
    obtain ⟨h1, pl, bk, r1, r2, r3, r4, r5, r6⟩ := c_climbs (gb := G.1) (d := d) (K_A z) (by omega) (K_n z) ok ok2 (fun j hj => eV j (by omega)) (ab := iBin 4 (AWAYS s) (iBin 6 1 i)) (way := 0) (u := 1) (hd := hd) rfl (fun k k0 k1 => by
      rw [(aor_of hb.1.1 hb.1.2 (by omega) hs2).2 k k0 (by omega), one_bt i0 i6 k0 (by omega), hb.2 k k0 (by omega), if_pos k1]
      by_cases e : k = i
      · rw [if_pos e, if_pos rfl, e, up_eq]
      · rw [if_neg e, if_neg (by decide), up_ne (by omega)]) hh
    have hc := CLIMB_in (way := 0) ok2 hh
    have hbt := set_bt hc.1 hc.2 hf.1 hf.2
    have hbe : iBin 3 (iBin 7 (CLIMB (up s (21 + i) 1) 0 hd).1 f) 1 = bt (CLIMB (up s (21 + i) 1) 0 hd).1 f := rfl
    have z2 := K_q z r3 (by omega) r5
    obtain ⟨h2, t1, t2, t3, t4⟩ := ih h1 (i + 1) (a + bt (CLIMB (up s (21 + i) 1) 0 hd).1 f) z2 (by omega) (by omega) (by omega) (by omega)
    refine ⟨h2, t1, qFr_tr r3 t2, ⟨t3.1.trans r4.1, t3.2.trans r4.2⟩, fun Q => ?_⟩
    rw [odF, ← t4 Q]
    generalize hW : wp G (d + 7) 30 50 [some (vR G.1), some (vI hd), some (vI f), l3, some (vI (s 27)), some (vI (a + bt (CLIMB (up s (21 + i) 1) 0 hd).1 f)), some (vI (i + 1))] [] h1 Q = W
    rw [u30_50, u30_52, u30_54, if_neg (by omega)]
    simp only [u30_57, u30_59, u30_60, u30_63, u30_64, u30_65, u30_66, u30_69, u30_72, u30_73, u30_75, u30_76, u30_77, u30_80, u30_83, u30_84, u30_85, u30_86, u30_87, u30_88, u30_90, u30_93, KK, hx, zn, r6, r1, hbe, GX12, GX11, GX1, VS11, xt_o, nlO_i, true_and, List.length_nil, List.length_cons, Nat.reduceAdd, Nat.reduceLeDiff, Nat.zero_le]
    rw [ar_add (by omega), ar_add (by omega)]
    exact hW
theorem A_odds (z : qK G Bs ad vn vi vt s si st hi rn bd h) {hd f part : Int} : cQ G (d + 8) 30 [vI hd, vI f, vI part] (vL (aODDS s hd f part)) Bs ad vn vi vt s si st hi rn bd h := by
  have hx := K_x z
  have zn := (K_n z).1.1
  have ok := (K_p z).1
  have h27 := ok.1.2.2.1
  have hsz := fun (K : KQ) => ll_size (G := G) (d := d + 6) (Q := K) (K_n z).2.1
  have htg := fun (K : Nat → Prop) => ll_tag (K_n z).2.1 (K := K)
  have hF := fun (K : KQ) => c_areFacts (G := G) (d := d + 6) (h := h) (Q := K) (f := hd)
  have hI := fun (K : KQ) => c_isFact (G := G) (d := d + 6) (h := h) (Q := K) (f := f)
  unfold aODDS
  by_cases c : 0 ≤ hd ∧ hd ≤ 255
  · have hF := fun (K : KQ) => (hF K).trans (by rw [if_pos c])
    by_cases c1 : 0 ≤ f ∧ f ≤ 7
    · have hI := fun (K : KQ) => (hI K).trans (by rw [if_pos (by omega)])
      by_cases c2 : 0 ≤ part ∧ part ≤ 1
      · by_cases c3 : s 27 = 0
        · refine cQ_id z (fun Q => ?_)
          rw [if_neg (fun q => q.2.2.2 c3), e30]
          simp (disch := omega) only [KK, Int.reduceEq, not_false_iff, ↓reduceIte, ↓if_pos, ↓if_neg, xt_o, true_and, nlO_i, nlO_n, nlO_r, List.length_nil, List.length_cons, Nat.reduceAdd, Nat.reduceLeDiff, Nat.zero_le, U30, hx, zn, hsz, htg, hF, hI, c3, GX12, GX11, VS0]
        · rw [if_pos ⟨c, c1, c2, c3⟩]
          obtain ⟨h1, r1, r2, r3, r4⟩ := c_odds_l (d := d) (K_p z) c (f := f) (by omega) (l3 := some (vI part)) (s 27).toNat h 0 0 z (by omega) (by omega) (by omega) (by omega)
          have hin := odF_in ok c (f := f) (by omega) (s 27).toNat 0 0 (by omega) (by omega)
          have hl := fun (K : KQ) => c_lowest (G := G) (d := d + 6) (h := h1) (Q := K) (u := odF s hd f (s 27).toNat 0 0) (l := s 27) (part := part) (by omega) (by omega) (by omega) (by omega)
          refine ⟨h1, r1, qFr_wk r2 (fun _ => X0_22), by omega, by omega, fun Q => ?_⟩
          have key : wp G (d + 7) 30 0 [some (vR G.1), some (vI hd), some (vI f), some (vI part), none, none, none] [] h Q = wp G (d + 7) 30 50 [some (vR G.1), some (vI hd), some (vI f), some (vI part), some (vI (s 27)), some (vI 0), some (vI 0)] [] h Q := by
            generalize hW : wp G (d + 7) 30 50 [some (vR G.1), some (vI hd), some (vI f), some (vI part), some (vI (s 27)), some (vI 0), some (vI 0)] [] h Q = W
            simp (disch := omega) only [KK, Int.reduceEq, not_false_iff, ↓reduceIte, ↓if_pos, ↓if_neg, xt_o, true_and, nlO_i, nlO_n, nlO_r, List.length_nil, List.length_cons, Nat.reduceAdd, Nat.reduceLeDiff, Nat.zero_le, U30, hx, zn, hsz, htg, hF, hI, GX12, GX11, VS0]
            exact hW
          rw [e30, key, r4 Q]
          simp (disch := omega) only [KK, Int.reduceEq, not_false_iff, ↓reduceIte, ↓if_pos, ↓if_neg, xt_o, true_and, nlO_i, nlO_n, nlO_r, List.length_nil, List.length_cons, Nat.reduceAdd, Nat.reduceLeDiff, Nat.zero_le, U30, hl]
      · refine cQ_id z (fun Q => ?_)
        rw [if_neg (fun q => c2 q.2.2.1), e30]
        by_cases c3 : part < 0
        · simp (disch := omega) only [KK, Int.reduceEq, not_false_iff, ↓reduceIte, ↓if_pos, ↓if_neg, xt_o, true_and, nlO_i, nlO_n, nlO_r, List.length_nil, List.length_cons, Nat.reduceAdd, Nat.reduceLeDiff, Nat.zero_le, U30, hx, zn, hsz, htg, hF, hI, GX12, GX11, VS0]
        · simp (disch := omega) only [KK, Int.reduceEq, not_false_iff, ↓reduceIte, ↓if_pos, ↓if_neg, xt_o, true_and, nlO_i, nlO_n, nlO_r, List.length_nil, List.length_cons, Nat.reduceAdd, Nat.reduceLeDiff, Nat.zero_le, U30, hx, zn, hsz, htg, hF, hI, GX12, GX11, VS0]
    · have hI := fun (K : KQ) => (hI K).trans (by rw [if_neg (by omega)])
      refine cQ_id z (fun Q => ?_)
      rw [if_neg (fun q => c1 q.2.1), e30]
      simp (disch := omega) only [KK, Int.reduceEq, not_false_iff, ↓reduceIte, ↓if_pos, ↓if_neg, xt_o, true_and, nlO_i, nlO_n, nlO_r, List.length_nil, List.length_cons, Nat.reduceAdd, Nat.reduceLeDiff, Nat.zero_le, U30, hx, zn, hsz, htg, hF, hI, GX12, GX11, VS0]
  · have hF := fun (K : KQ) => (hF K).trans (by rw [if_neg c])
    refine cQ_id z (fun Q => ?_)
    rw [if_neg (fun q => c q.1), e30]
    simp (disch := omega) only [KK, Int.reduceEq, not_false_iff, ↓reduceIte, ↓if_pos, ↓if_neg, xt_o, true_and, nlO_i, nlO_n, nlO_r, List.length_nil, List.length_cons, Nat.reduceAdd, Nat.reduceLeDiff, Nat.zero_le, U30, hx, zn, hsz, htg, hF, GX12, GX11, VS0]
theorem c_mean_l (z : qK G Bs ad vn vi vt s si st hi rn bd h) {l1 : Option V} : ∀ (n : Nat) (i a : Int), 0 ≤ i → i + n = s 28 → 0 ≤ a → a ≤ 200 * i → wp G (d + 4) 32 33 [some (vR G.1), l1, some (vI (s 28)), some (vI a), some (vI i)] [] h Q = wp G (d + 4) 32 66 [some (vR G.1), l1, some (vI (s 28)), some (vI (meF s n i a)), some (vI (s 28))] [] h Q := by
  have ok := (K_p z).1
  have h28 := ok.1.2.1
  have hx := K_x z
  have zn := (K_n z).1.1
  intro n
  induction n with
  | zero =>
    intro i a i0 hi' a0 a1
    have : i = s 28 := by omega
    subst this
    rw [meF, u32_33, u32_35, u32_36, if_pos (Int.le_refl _)]
  | succ n ih =>
    intro i a i0 hi' a0 a1
    have hgt := fun (K : KQ) => ll_get (G := G) (d := d + 1) (Q := K) (K_n z).2.2.1 (i := i) ⟨i0, by omega⟩
    have htg := fun (K : Nat → Prop) => ll_tag (K_n z).2.2.1 (K := K)
    have hk : h.2.2 (ad (0 + 10 + i)) = some (cObj 1 [vI (s (1 + i)), vI (s (6 + i)), vI (s (11 + i)), vI (s (16 + i))]) := (K_n z).2.2.2.2.2.1 _ i0 (by omega)
    have h6 := (ok.2.2.2.2.2.2 i i0 (by omega)).2.2.1
    rw [meF, ← ih (i + 1) (a + s (6 + i)) (by omega) (by omega) (by omega) (by omega)]
    generalize hW : wp G (d + 4) 32 33 [some (vR G.1), l1, some (vI (s 28)), some (vI (a + s (6 + i))), some (vI (i + 1))] [] h Q = W
    rw [u32_33, u32_35, u32_36, if_neg (by omega)]
    simp only [u32_39, u32_40, u32_41, u32_44, u32_47, u32_49, u32_52, u32_55, u32_58, u32_59, u32_60, u32_63, KK, hx, zn, hgt, htg, hk, OKS, GX12, GX11, GX1, VS0, xt_o, nlO_i, true_and, List.length_nil, List.length_cons, Nat.reduceAdd, Nat.reduceLeDiff, Nat.zero_le]
    rw [ar_add (by omega), ar_add (by omega)]
    exact hW
theorem A_mean (z : qK G Bs ad vn vi vt s si st hi rn bd h) {part : Int} : cQ G (d + 5) 32 [vI part] (vL (aMEAN s part)) Bs ad vn vi vt s si st hi rn bd h := by
  have hx := K_x z
  have zn := (K_n z).1.1
  have ok := (K_p z).1
  have h28 := ok.1.2.1
  have hsz := fun (K : KQ) => ll_size (G := G) (d := d + 3) (Q := K) (K_n z).2.2.1
  have htg := fun (K : Nat → Prop) => ll_tag (K_n z).2.2.1 (K := K)
  refine cQ_id z (fun Q => ?_)
  unfold aMEAN
  rw [e32]
  by_cases c2 : 0 ≤ part ∧ part ≤ 1
  · by_cases c3 : s 28 = 0
    · rw [if_neg (fun q => q.2 c3)]
      simp (disch := omega) only [KK, Int.reduceEq, not_false_iff, ↓reduceIte, ↓if_pos, ↓if_neg, xt_o, true_and, nlO_i, nlO_n, nlO_r, List.length_nil, List.length_cons, Nat.reduceAdd, Nat.reduceLeDiff, Nat.zero_le, U32, hx, zn, hsz, htg, c3, GX12, GX11, VS0]
    · rw [if_pos ⟨c2, c3⟩]
      have hin := meF_in ok (s 28).toNat 0 0 (by omega) (by omega)
      have hl := fun (K : KQ) => c_lowest (G := G) (d := d + 3) (h := h) (Q := K) (u := meF s (s 28).toNat 0 0) (l := s 28) (part := part) (by omega) (by omega) (by omega) (by omega)
      have key : wp G (d + 4) 32 0 [some (vR G.1), some (vI part), none, none, none] [] h Q = wp G (d + 4) 32 33 [some (vR G.1), some (vI part), some (vI (s 28)), some (vI 0), some (vI 0)] [] h Q := by
        generalize hW : wp G (d + 4) 32 33 [some (vR G.1), some (vI part), some (vI (s 28)), some (vI 0), some (vI 0)] [] h Q = W
        simp (disch := omega) only [KK, Int.reduceEq, not_false_iff, ↓reduceIte, ↓if_pos, ↓if_neg, xt_o, true_and, nlO_i, nlO_n, nlO_r, List.length_nil, List.length_cons, Nat.reduceAdd, Nat.reduceLeDiff, Nat.zero_le, U32, hx, zn, hsz, htg, GX12, GX11, VS0]
        exact hW
      rw [key, c_mean_l (d := d) z (s 28).toNat 0 0 (by omega) (by omega) (by omega) (by omega)]
      simp (disch := omega) only [KK, Int.reduceEq, not_false_iff, ↓reduceIte, ↓if_pos, ↓if_neg, xt_o, true_and, nlO_i, nlO_n, nlO_r, List.length_nil, List.length_cons, Nat.reduceAdd, Nat.reduceLeDiff, Nat.zero_le, U32, hl]
  · rw [if_neg (fun q => c2 q.1)]
    by_cases c3 : part < 0
    · simp (disch := omega) only [KK, Int.reduceEq, not_false_iff, ↓reduceIte, ↓if_pos, ↓if_neg, xt_o, true_and, nlO_i, nlO_n, nlO_r, List.length_nil, List.length_cons, Nat.reduceAdd, Nat.reduceLeDiff, Nat.zero_le, U32, hx, zn, hsz, htg, GX12, GX11, VS0]
    · simp (disch := omega) only [KK, Int.reduceEq, not_false_iff, ↓reduceIte, ↓if_pos, ↓if_neg, xt_o, true_and, nlO_i, nlO_n, nlO_r, List.length_nil, List.length_cons, Nat.reduceAdd, Nat.reduceLeDiff, Nat.zero_le, U32, hx, zn, hsz, htg, GX12, GX11, VS0]
end K7
