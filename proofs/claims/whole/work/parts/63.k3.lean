/-! calls of the class that change nothing -/
theorem up_same {s : Int → Int} {i x : Int} (e : s i = x) : up s i x = s := by
  funext j; unfold up; by_cases h : j = i
  · rw [if_pos h, h, e]
  · rw [if_neg h]
def aKNEW (s : Int → Int) (p what : Int) : Int := if (0 ≤ p ∧ p < s 27) ∧ 0 ≤ what ∧ what ≤ 1 then FIT s p (55 + p) 256 what else -1
def aFIRM (s : Int → Int) (p what : Int) : Int := if (0 ≤ p ∧ p < s 27) ∧ 0 ≤ what ∧ what ≤ 1 then FIT s p (49 + p) 10 what else -1
def aOF (s : Int → Int) (p w : Int) : Int := if 0 ≤ p ∧ p < s 27 then (if w = 0 then s (43 + p) else if w = 1 then s (49 + p) else if w = 2 then s (55 + p) else if w = 3 then s (21 + p) else -1) else -1
def aSAYS (s : Int → Int) (p hd w : Int) : Int := if (0 ≤ p ∧ p < s 27) ∧ 0 ≤ w ∧ w ≤ 2 then (if 0 ≤ hd ∧ hd ≤ 255 then (if w = 0 then LEFT s p hd else if w = 1 then MOUTH s p hd else SAYS s p hd) else -2) else -1
def aTOLD (s : Int → Int) (w : Int) : Int := if w = 0 then s 0 else if w = 1 then NERVE s else if w = 2 then AWAYS s else if w = 3 then THROUGHS s else if w = 4 then BACKS s else if 10 ≤ w ∧ w ≤ 17 then s (35 + (w - 10)) else -1
def aCLIMB (s : Int → Int) (way hd w : Int) : Int := if (0 ≤ way ∧ way ≤ 1) ∧ 0 ≤ w ∧ w ≤ 2 then (if 0 ≤ hd ∧ hd ≤ 255 then (if w = 0 then (CLIMB s way hd).1 else if w = 1 then (CLIMB s way hd).2.1 else (CLIMB s way hd).2.2) else -2) else -1
def aAS (s : Int → Int) (p k : Int) : Int := if (0 ≤ p ∧ p < s 27) ∧ 0 ≤ k ∧ k ≤ 6 then (if UND (s (43 + p)) k then s (49 + p) else -6) else -1
def aCOUNT (s : Int → Int) (rn w : Int) : Int := if w = 7 then rn else if 0 ≤ w ∧ w ≤ 6 then s (27 + w) else -1
def aTRACE (rn : Int) (bd : Int → Int) (i : Int) : Int := if 0 ≤ i ∧ i < rn ∧ i < 20 then bd i else -1
def lkF (s : Int → Int) : Nat → Int → Int
  | 0, _ => -5
  | n + 1, i => if s (1 + s (111 + i)) = s (119 + i) then lkF s n (i + 1) else i
def aLOOKED (s : Int → Int) : Int := lkF s (s 32).toNat 0
theorem c_mouthS {G : MG} {d : Nat} {h : MH} {w v sb a r : Nat} {s : Int → Int} {p hd : Int} (z : qSW w v sb s h) (ok : okM s) (ha : qAW a r s p h) (oa : okA s p) (hhd : 0 ≤ hd ∧ hd ≤ 255) : ∃ y' : Int → Int, ∀ Q : KQ, wpC G (d + 3) 82 [vR v, vR a, vI hd, vI (s 0)] h Q = Q (some (vI (MOUTH s p hd))) (hset h sb (cArr 0 6 (ix y'))) := by
  obtain ⟨⟨sg, aw, z1⟩, z2, z3, z4, tx, co, sh, ce, nc, pl, cs, sn, C, S, E, y, q1, q2, q3, q4, q5, q6, q7, q8, q9, q10⟩ := z
  obtain ⟨p0, p1, k0, k1, v0, v1, n0, n1⟩ := oa
  obtain ⟨o1, o2, o3, o4, o5, o6, o7⟩ := ok
  exact c_mouth (G := G) (d := d) q1 q2 q3 q4 q5 q7 ⟨q8, q9⟩ q6 ha.1 ⟨k0, k1⟩ hhd ⟨n0, n1⟩ (dy := s 0) ⟨o6, by omega⟩ q10 o5
theorem SW_v {w v sb : Nat} {s : Int → Int} {h : MH} (z : qSW w v sb s h) {K : Nat → Prop} : xTag (h.2.2 v) K = K 10 := by
  obtain ⟨-, -, -, -, tx, co, sh, ce, nc, pl, cs, sn, C, S, E, y, q1, -⟩ := z
  rw [q1]; rfl
section K4
variable {G : MG} {d : Nat} {Q : KQ} {Bs X : Nat → Prop} {ad : Int → Nat} {vn vi vt : Int → Nat} {s si st bd : Int → Int} {hi rn : Int} {h h' : MH}
set_option maxHeartbeats 4000000 in
theorem c_isOfKind {a r : Nat} {k p v kn c : Int} (ha : h.2.2 a = some (AUC r k p v kn)) (hk : 0 ≤ k ∧ k ≤ 6) (hc : 0 ≤ c ∧ c ≤ 6) : wpC G (d + 1) 40 [vR a, vI c] h Q = Q (some (vI (if UND k c then 1 else 0))) h := by
  rw [e40]
  rcases k7 hk with e | e | e | e | e | e | e <;> subst e <;> simp only [AUC_0, AUC_1, AUC_2, AUC_3, AUC_4, AUC_5, AUC_6] at ha <;> rcases k7 hc with f | f | f | f | f | f | f <;> subst f <;> (first | rw [if_pos (show UND _ _ by decide)] | rw [if_neg (show ¬ UND _ _ by decide)]) <;> simp (disch := omega) only [U40, KK, ha, OKS, Int.reduceEq, ↓reduceIte, xt_o, true_and, true_or, or_true, Bool.false_eq_true]
theorem A_knew (z : qK G Bs ad vn vi vt s si st hi rn bd h) (hr : h.1 + 2 ≤ maxC ∧ h.2.1 + 8 ≤ maxS) {p what : Int} : cQ G (d + 8) 27 [vI p, vI what] (vI (aKNEW s p what)) Bs ad vn vi vt s si st hi rn bd h := by
  have hx := K_x z
  have zn := (K_n z).1.1
  have ok := (K_p z).1
  have h27 := ok.1.2.2.1
  have hH := fun (K : KQ) => K_has (d := d + 5) (Q := K) z (i := p)
  unfold aKNEW
  by_cases c : 0 ≤ p ∧ p < s 27
  · have hH := fun (K : KQ) => (hH K).trans (by rw [if_pos c])
    by_cases c1 : what < 0
    · refine cQ_id z (fun Q => ?_)
      rw [if_neg (by omega), e27]
      simp (disch := omega) only [KK, Int.reduceEq, not_false_iff, ↓reduceIte, ↓if_pos, ↓if_neg, xt_o, true_and, nlO_i, nlO_n, nlO_r, List.length_nil, List.length_cons, Nat.reduceAdd, Nat.reduceLeDiff, Nat.zero_le, U27, hx, zn, hH, GX12, VS11, true_or, or_true]
    · by_cases c2 : what ≤ 1
      · rw [if_pos (by omega)]
        have hA := (K_n z).2.2.2.2.1 p c.1 c.2
        have hk7 := okW_k ok p c.1 c.2
        obtain ⟨h1, t1, t2, t3, t4, t5, t6⟩ := c_twin (Bs := Bs) (X := fun _ => False) (d := d + 3) z.2.2.1 hA hk7 hr
        have hne : ∀ i, 0 ≤ i → i < s 27 → ¬ ad (0 + i) = G.1 + h.1 := fun i i0 i1 q => by
          have h2 := ((K_n z).2.2.2.2.1 i i0 i1).1
          rw [q, z.2.2.1 _ (Nat.le_refl _)] at h2; cases h2
        have z1 := qW_f0 (K_n z) t2 (okW_k ok)
        have hx1 : h1.2.2 G.1 = some (xO G.1 hi) := fr_o t2 hx id
        obtain ⟨h2, f2, z2, k2, w2⟩ := c_knew_l (gb := G.1) (d := d) (K_p z) c rfl hne (a1 := some (vI p)) (a2 := some (vI what)) 256 h1 0 (-5) (s (55 + p)) z1 hx1 (by rw [up_same rfl]; exact t1) (by omega) (by omega) (by omega)
        have f3 : qFr G.1 Bs (fun _ => False) h h2 := by
          have f4 := qFr_tr (qFr_wk t2 (fun _ q => q.elim)) f2
          exact ⟨f4.1, fun a cc hc _ => f4.2 a cc hc (fun q => by rw [q, z.2.2.1 _ (Nat.le_refl _)] at hc; cases hc)⟩
        refine ⟨h2, K_q0 z f3 (by omega), qFr_wk f3 (fun _ q => q.elim), by omega, by omega, fun Q => ?_⟩
        have hgt := fun (K : KQ) => ll_get (G := G) (d := d + 4) (Q := K) (K_n z).2.1 (i := p) c
        have htg := fun (K : Nat → Prop) => ll_tag (K_n z).2.1 (K := K)
        have hau := hA.1
        have hAC := fun (pc : Nat) (L : Loc') (st : List V) => AC (G := G) (d := d + 7) (h := h) (Q := Q) (a := ad (0 + p)) (r := ad (0 + p) + 1) (k := s (43 + p)) (p := p) (v := s (49 + p)) (kn := s (55 + p)) (y := 27) (pc := pc) (L := L) (st := st) hk7
        rw [hau] at t6
        have w2 := w2 Q
        rw [show ((256 : Nat) : Int) - 1 = 255 from rfl] at w2
        unfold FIT
        have key : wp G (d + 7) 27 0 [some (vR G.1), some (vI p), some (vI what), none, none, none, none] [] h Q = wp G (d + 7) 27 52 [some (vR G.1), some (vI p), some (vI what), some (vR (G.1 + h.1)), some (vI 0), some (vI (-5)), some (vI 255)] [] h1 Q := by
          generalize hW : wp G (d + 7) 27 52 [some (vR G.1), some (vI p), some (vI what), some (vR (G.1 + h.1)), some (vI 0), some (vI (-5)), some (vI 255)] [] h1 Q = W
          simp (disch := omega) only [KK, Int.reduceEq, not_false_iff, ↓reduceIte, ↓if_pos, ↓if_neg, xt_o, true_and, nlO_i, nlO_n, nlO_r, List.length_nil, List.length_cons, Nat.reduceAdd, Nat.reduceLeDiff, Nat.zero_le, U27, hx, zn, hH, hgt, htg, hau, hAC, t6, GX12, GX11, VS11, VS0, true_or, or_true]
          exact hW
        rw [e27, key, w2]
        by_cases c3 : what = 0
        · rw [if_pos c3]
          simp (disch := omega) only [KK, Int.reduceEq, not_false_iff, ↓reduceIte, ↓if_pos, ↓if_neg, xt_o, true_and, nlO_i, nlO_n, nlO_r, List.length_nil, List.length_cons, Nat.reduceAdd, Nat.reduceLeDiff, Nat.zero_le, U27, c3]
        · rw [if_neg c3]
          simp (disch := omega) only [KK, Int.reduceEq, not_false_iff, ↓reduceIte, ↓if_pos, ↓if_neg, xt_o, true_and, nlO_i, nlO_n, nlO_r, List.length_nil, List.length_cons, Nat.reduceAdd, Nat.reduceLeDiff, Nat.zero_le, U27]
      · refine cQ_id z (fun Q => ?_)
        rw [if_neg (by omega), e27]
        simp (disch := omega) only [KK, Int.reduceEq, not_false_iff, ↓reduceIte, ↓if_pos, ↓if_neg, xt_o, true_and, nlO_i, nlO_n, nlO_r, List.length_nil, List.length_cons, Nat.reduceAdd, Nat.reduceLeDiff, Nat.zero_le, U27, hx, zn, hH, GX12, VS11, true_or, or_true]
  · have hH := fun (K : KQ) => (hH K).trans (by rw [if_neg c])
    refine cQ_id z (fun Q => ?_)
    rw [if_neg (fun q => c q.1), e27]
    simp (disch := omega) only [KK, Int.reduceEq, not_false_iff, ↓reduceIte, ↓if_pos, ↓if_neg, xt_o, true_and, nlO_i, nlO_n, nlO_r, List.length_nil, List.length_cons, Nat.reduceAdd, Nat.reduceLeDiff, Nat.zero_le, U27, hx, zn, hH, GX12, VS11, true_or, or_true]
theorem A_of (z : qK G Bs ad vn vi vt s si st hi rn bd h) {p what : Int} : cQ G (d + 5) 7 [vI p, vI what] (vI (aOF s p what)) Bs ad vn vi vt s si st hi rn bd h := by
  have hx := K_x z
  have zn := (K_n z).1.1
  have ok := (K_p z).1
  have h27 := ok.1.2.2.1
  have hH := fun (K : KQ) => K_has (d := d + 2) (Q := K) z (i := p)
  refine cQ_id z (fun Q => ?_)
  unfold aOF
  by_cases c : 0 ≤ p ∧ p < s 27
  · have hH := fun (K : KQ) => (hH K).trans (by rw [if_pos c])
    have hA := (K_n z).2.2.2.2.1 p c.1 c.2
    have hk7 := okW_k ok p c.1 c.2
    have hgt := fun (K : KQ) => ll_get (G := G) (d := d + 1) (Q := K) (K_n z).2.1 (i := p) c
    have htg := fun (K : Nat → Prop) => ll_tag (K_n z).2.1 (K := K)
    have hau := hA.1
    have hAC := fun (pc : Nat) (L : Loc') (st : List V) => AC (G := G) (d := d + 4) (h := h) (Q := Q) (a := ad (0 + p)) (r := ad (0 + p) + 1) (k := s (43 + p)) (p := p) (v := s (49 + p)) (kn := s (55 + p)) (y := 7) (pc := pc) (L := L) (st := st) hk7
    have hG1 := fun (K : V → Prop) => AG1 (K := K) (r := ad (0 + p) + 1) (k := s (43 + p)) (p := p) (v := s (49 + p)) (kn := s (55 + p)) hk7
    have hG2 := fun (K : V → Prop) => AG2 (K := K) (r := ad (0 + p) + 1) (k := s (43 + p)) (p := p) (v := s (49 + p)) (kn := s (55 + p)) hk7
    have hK := fun (K : KQ) => AK (G := G) (d := d + 3) (h := h) (Q := K) (a := ad (0 + p)) (r := ad (0 + p) + 1) (k := s (43 + p)) (p := p) (v := s (49 + p)) (kn := s (55 + p)) hk7
    have hIA := fun (K : KQ) => c_isAway (G := G) (d := d + 3) (Q := K) zn (i := p)
    have hbt := (AWAYS_bt ok.2.2.2.2.1 h27).2 p c.1 (by omega)
    rw [if_pos c.2] at hbt
    rw [if_pos c, e7]
    by_cases w0 : what = 0
    · rw [if_pos w0]
      simp (disch := omega) only [KK, Int.reduceEq, not_false_iff, ↓reduceIte, ↓if_pos, ↓if_neg, xt_o, true_and, nlO_i, nlO_n, nlO_r, List.length_nil, List.length_cons, Nat.reduceAdd, Nat.reduceLeDiff, Nat.zero_le, U7, w0, hx, zn, hH, hgt, htg, hau, hAC, hK, GX12, GX11, VS11, VS0]
    · rw [if_neg w0]
      by_cases w1 : what = 1
      · rw [if_pos w1]
        simp (disch := omega) only [KK, Int.reduceEq, not_false_iff, ↓reduceIte, ↓if_pos, ↓if_neg, xt_o, true_and, nlO_i, nlO_n, nlO_r, List.length_nil, List.length_cons, Nat.reduceAdd, Nat.reduceLeDiff, Nat.zero_le, U7, w1, hx, zn, hH, hgt, htg, hau, hAC, hG1, GX12, GX11, VS11, VS0]
      · rw [if_neg w1]
        by_cases w2 : what = 2
        · rw [if_pos w2]
          simp (disch := omega) only [KK, Int.reduceEq, not_false_iff, ↓reduceIte, ↓if_pos, ↓if_neg, xt_o, true_and, nlO_i, nlO_n, nlO_r, List.length_nil, List.length_cons, Nat.reduceAdd, Nat.reduceLeDiff, Nat.zero_le, U7, w2, hx, zn, hH, hgt, htg, hau, hAC, hG2, GX12, GX11, VS11, VS0]
        · rw [if_neg w2]
          by_cases w3 : what = 3
          · rw [if_pos w3]
            rcases ok.2.2.2.2.1 p c.1 (by omega) with q | q
            · have hIA := fun (K : KQ) => (hIA K).trans (by rw [hbt, q, if_neg (by decide)])
              simp (disch := omega) only [KK, Int.reduceEq, not_false_iff, ↓reduceIte, ↓if_pos, ↓if_neg, xt_o, true_and, nlO_i, nlO_n, nlO_r, List.length_nil, List.length_cons, Nat.reduceAdd, Nat.reduceLeDiff, Nat.zero_le, U7, w3, q, hx, zn, hH, hgt, htg, hau, hAC, hIA, GX12, GX11, VS11, VS0]
            · have hIA := fun (K : KQ) => (hIA K).trans (by rw [hbt, q, if_pos rfl])
              simp (disch := omega) only [KK, Int.reduceEq, not_false_iff, ↓reduceIte, ↓if_pos, ↓if_neg, xt_o, true_and, nlO_i, nlO_n, nlO_r, List.length_nil, List.length_cons, Nat.reduceAdd, Nat.reduceLeDiff, Nat.zero_le, U7, w3, q, hx, zn, hH, hgt, htg, hau, hAC, hIA, GX12, GX11, VS11, VS0]
          · rw [if_neg w3]
            simp (disch := omega) only [KK, Int.reduceEq, not_false_iff, ↓reduceIte, ↓if_pos, ↓if_neg, xt_o, true_and, nlO_i, nlO_n, nlO_r, List.length_nil, List.length_cons, Nat.reduceAdd, Nat.reduceLeDiff, Nat.zero_le, U7, hx, zn, hH, hgt, htg, hau, hAC, GX12, GX11, VS11, VS0]
  · have hH := fun (K : KQ) => (hH K).trans (by rw [if_neg c])
    rw [if_neg c, e7]
    simp (disch := omega) only [KK, Int.reduceEq, not_false_iff, ↓reduceIte, ↓if_pos, ↓if_neg, xt_o, true_and, nlO_i, nlO_n, nlO_r, List.length_nil, List.length_cons, Nat.reduceAdd, Nat.reduceLeDiff, Nat.zero_le, U7, hx, zn, hH, GX12, VS11]
theorem A_as (z : qK G Bs ad vn vi vt s si st hi rn bd h) {p k : Int} : cQ G (d + 5) 39 [vI p, vI k] (vI (aAS s p k)) Bs ad vn vi vt s si st hi rn bd h := by
  have hx := K_x z
  have zn := (K_n z).1.1
  have ok := (K_p z).1
  have hH := fun (K : KQ) => K_has (d := d + 2) (Q := K) z (i := p)
  refine cQ_id z (fun Q => ?_)
  unfold aAS
  by_cases c : 0 ≤ p ∧ p < s 27
  · have hH := fun (K : KQ) => (hH K).trans (by rw [if_pos c])
    by_cases c1 : k < 0
    · rw [if_neg (by omega), e39]
      simp (disch := omega) only [KK, Int.reduceEq, not_false_iff, ↓reduceIte, ↓if_pos, ↓if_neg, xt_o, true_and, nlO_i, nlO_n, nlO_r, List.length_nil, List.length_cons, Nat.reduceAdd, Nat.reduceLeDiff, Nat.zero_le, U39, hx, zn, hH, GX12, VS11, true_or, or_true]
    · by_cases c2 : k < 7
      · have hA := (K_n z).2.2.2.2.1 p c.1 c.2
        have hk7 := okW_k ok p c.1 c.2
        have hgt := fun (K : KQ) => ll_get (G := G) (d := d + 1) (Q := K) (K_n z).2.1 (i := p) c
        have htg := fun (K : Nat → Prop) => ll_tag (K_n z).2.1 (K := K)
        have hau := hA.1
        have hAC := fun (pc : Nat) (L : Loc') (st : List V) => AC (G := G) (d := d + 4) (h := h) (Q := Q) (a := ad (0 + p)) (r := ad (0 + p) + 1) (k := s (43 + p)) (p := p) (v := s (49 + p)) (kn := s (55 + p)) (y := 39) (pc := pc) (L := L) (st := st) hk7
        have hG1 := fun (K : V → Prop) => AG1 (K := K) (r := ad (0 + p) + 1) (k := s (43 + p)) (p := p) (v := s (49 + p)) (kn := s (55 + p)) hk7
        have hik := fun (K : KQ) => c_isOfKind (G := G) (d := d + 3) (Q := K) hau hk7 (c := k) ⟨by omega, by omega⟩
        rw [if_pos (by omega), e39]
        by_cases u : UND (s (43 + p)) k
        · have hik := fun (K : KQ) => (hik K).trans (by rw [if_pos u])
          rw [if_pos u]
          simp (disch := omega) only [KK, Int.reduceEq, not_false_iff, ↓reduceIte, ↓if_pos, ↓if_neg, xt_o, true_and, nlO_i, nlO_n, nlO_r, List.length_nil, List.length_cons, Nat.reduceAdd, Nat.reduceLeDiff, Nat.zero_le, U39, hx, zn, hH, hgt, htg, hau, hAC, hG1, hik, GX12, GX11, VS11, VS0, true_or, or_true]
        · have hik := fun (K : KQ) => (hik K).trans (by rw [if_neg u])
          rw [if_neg u]
          simp (disch := omega) only [KK, Int.reduceEq, not_false_iff, ↓reduceIte, ↓if_pos, ↓if_neg, xt_o, true_and, nlO_i, nlO_n, nlO_r, List.length_nil, List.length_cons, Nat.reduceAdd, Nat.reduceLeDiff, Nat.zero_le, U39, hx, zn, hH, hgt, htg, hau, hAC, hik, GX12, GX11, VS11, VS0, true_or, or_true]
      · rw [if_neg (by omega), e39]
        simp (disch := omega) only [KK, Int.reduceEq, not_false_iff, ↓reduceIte, ↓if_pos, ↓if_neg, xt_o, true_and, nlO_i, nlO_n, nlO_r, List.length_nil, List.length_cons, Nat.reduceAdd, Nat.reduceLeDiff, Nat.zero_le, U39, hx, zn, hH, GX12, VS11, true_or, or_true]
  · have hH := fun (K : KQ) => (hH K).trans (by rw [if_neg c])
    rw [if_neg (fun q => c q.1), e39]
    simp (disch := omega) only [KK, Int.reduceEq, not_false_iff, ↓reduceIte, ↓if_pos, ↓if_neg, xt_o, true_and, nlO_i, nlO_n, nlO_r, List.length_nil, List.length_cons, Nat.reduceAdd, Nat.reduceLeDiff, Nat.zero_le, U39, hx, zn, hH, GX12, VS11, true_or, or_true]
end K4
