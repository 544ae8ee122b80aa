/-! a world, read; what is said in it -/
def qLS (h : MH) (l : Nat) (n : Int) (f : Int → Option Nat) : Prop := ∃ (mc : Int) (ed : Nat), h.2.2 l = some (cObj 0 [vI mc, vR ed, vI n]) ∧ 0 ≤ n ∧ n ≤ 10 ∧ (0 < n → h.2.2 ed = some (cRef 0 10 (rx f)))
section C5a
variable {G : MG} {d : Nat} {h : MH} {Q : KQ} {l : Nat} {n : Int} {f : Int → Option Nat}
theorem l_size (z : qLS h l n f) : wpC G (d + 1) 228 [vR l] h Q = Q (some (vI n)) h := by
  obtain ⟨mc, ed, h1, -⟩ := z
  exact j_size h1
theorem l_empty (z : qLS h l n f) : wpC G (d + 1) 235 [vR l] h Q = Q (some (vI (if n = 0 then 1 else 0))) h := by
  obtain ⟨mc, ed, h1, -⟩ := z
  exact j_isEmpty h1
theorem l_get (z : qLS h l n f) {i : Int} (hi : 0 ≤ i ∧ i < n) : wpC G (d + 3) 233 [vR l, vI i] h Q = Q (some (vO (f i))) h := by
  obtain ⟨mc, ed, h1, h2, h3, h4⟩ := z
  exact j_get h1 (h4 (by omega)) hi (by omega)
theorem l_tag (z : qLS h l n f) {K : Nat → Prop} : xTag (h.2.2 l) K = K 0 := by
  obtain ⟨mc, ed, h1, -⟩ := z
  rw [h1]; rfl
theorem qLS_set {a ty m : Nat} {g g' : Nat → Int} (z : qLS h l n f) (ha : h.2.2 a = some (cArr ty m g)) : qLS (hset h a (cArr ty m g')) l n f := by
  obtain ⟨mc, ed, h1, h2, h3, h4⟩ := z
  exact ⟨mc, ed, (hs_ne (ne_oa h1 ha)).trans h1, h2, h3, fun q => (hs_ne (ne_ra (h4 q) ha)).trans (h4 q)⟩
theorem qLS_obj {a t : Nat} {fs gs : List V} (z : qLS h l n f) (ha : h.2.2 a = some (cObj t fs)) (ht : ¬ t = 0) : qLS (hset h a (cObj t gs)) l n f := by
  obtain ⟨mc, ed, h1, h2, h3, h4⟩ := z
  exact ⟨mc, ed, (hs_ne (ne_oo h1 ha (fun e => ht e.symm))).trans h1, h2, h3, fun q => (hs_ne (ne_ro (h4 q) ha)).trans (h4 q)⟩
variable {w : Nat} {sg dy aw : Int}
theorem c_hasAunt (hw : h.2.2 w = some (wO w sg dy aw)) (hl : qLS h (w + 1) n f) {i : Int} : wpC G (d + 2) 46 [vR w, vI i] h Q = Q (some (vI (if 0 ≤ i ∧ i < n then 1 else 0))) h := by
  have h1 := fun (K : KQ) => l_size (G := G) (d := d) (Q := K) hl
  have h2 := fun (K : Nat → Prop) => l_tag hl (K := K)
  rw [e46]
  by_cases c : i < 0
  · rw [if_neg (by omega)]
    simp (disch := omega) only [KK, Int.reduceEq, not_false_iff, ↓reduceIte, ↓if_pos, ↓if_neg, xt_o, true_and, nlO_i, nlO_n, nlO_r, List.length_nil, List.length_cons, Nat.reduceAdd, Nat.reduceLeDiff, Nat.zero_le, U46, or_true, true_or]
  · by_cases c2 : i < n
    · rw [if_pos (by omega)]
      simp (disch := omega) only [KK, Int.reduceEq, not_false_iff, ↓reduceIte, ↓if_pos, ↓if_neg, xt_o, true_and, nlO_i, nlO_n, nlO_r, List.length_nil, List.length_cons, Nat.reduceAdd, Nat.reduceLeDiff, Nat.zero_le, U46, hw, GX11, h1, h2, VS0, or_true, true_or]
    · rw [if_neg (by omega)]
      simp (disch := omega) only [KK, Int.reduceEq, not_false_iff, ↓reduceIte, ↓if_pos, ↓if_neg, xt_o, true_and, nlO_i, nlO_n, nlO_r, List.length_nil, List.length_cons, Nat.reduceAdd, Nat.reduceLeDiff, Nat.zero_le, U46, hw, GX11, h1, h2, VS0, or_true, true_or]
theorem c_hasAsker (hw : h.2.2 w = some (wO w sg dy aw)) (hl : qLS h (w + 2) n f) {i : Int} : wpC G (d + 2) 52 [vR w, vI i] h Q = Q (some (vI (if 0 ≤ i ∧ i < n then 1 else 0))) h := by
  have h1 := fun (K : KQ) => l_size (G := G) (d := d) (Q := K) hl
  have h2 := fun (K : Nat → Prop) => l_tag hl (K := K)
  rw [e52]
  by_cases c : i < 0
  · rw [if_neg (by omega)]
    simp (disch := omega) only [KK, Int.reduceEq, not_false_iff, ↓reduceIte, ↓if_pos, ↓if_neg, xt_o, true_and, nlO_i, nlO_n, nlO_r, List.length_nil, List.length_cons, Nat.reduceAdd, Nat.reduceLeDiff, Nat.zero_le, U52, or_true, true_or]
  · by_cases c2 : i < n
    · rw [if_pos (by omega)]
      simp (disch := omega) only [KK, Int.reduceEq, not_false_iff, ↓reduceIte, ↓if_pos, ↓if_neg, xt_o, true_and, nlO_i, nlO_n, nlO_r, List.length_nil, List.length_cons, Nat.reduceAdd, Nat.reduceLeDiff, Nat.zero_le, U52, hw, GX11, h1, h2, VS0, or_true, true_or]
    · rw [if_neg (by omega)]
      simp (disch := omega) only [KK, Int.reduceEq, not_false_iff, ↓reduceIte, ↓if_pos, ↓if_neg, xt_o, true_and, nlO_i, nlO_n, nlO_r, List.length_nil, List.length_cons, Nat.reduceAdd, Nat.reduceLeDiff, Nat.zero_le, U52, hw, GX11, h1, h2, VS0, or_true, true_or]
theorem c_isAway (hw : h.2.2 w = some (wO w sg dy aw)) {i : Int} : wpC G (d + 1) 47 [vR w, vI i] h Q = Q (some (vI (if bt aw i = 1 then 1 else 0))) h := by
  rw [e47]
  unfold bt
  by_cases c : iBin 3 (iBin 7 aw i) 1 = 1
  · rw [if_pos c]
    simp (disch := omega) only [KK, Int.reduceEq, not_false_iff, ↓reduceIte, ↓if_pos, ↓if_neg, xt_o, true_and, nlO_i, nlO_n, nlO_r, List.length_nil, List.length_cons, Nat.reduceAdd, Nat.reduceLeDiff, Nat.zero_le, U47, hw, GX11, c, or_true, true_or]
  · rw [if_neg c]
    simp (disch := omega) only [KK, Int.reduceEq, not_false_iff, ↓reduceIte, ↓if_pos, ↓if_neg, xt_o, true_and, nlO_i, nlO_n, nlO_r, List.length_nil, List.length_cons, Nat.reduceAdd, Nat.reduceLeDiff, Nat.zero_le, U47, hw, GX11, or_true, true_or]
theorem c_holding (hw : h.2.2 w = some (wO w sg dy aw)) (hl : qLS h (w + 3) n f) {v : Nat} {fs : List V} (hv : h.2.2 v = some (cObj 10 fs)) (hx : (n = 0 ∧ v = w + 15) ∨ (0 < n ∧ f (n - 1) = some v)) : wpC G (d + 4) 48 [vR w] h Q = Q (some (vR v)) h := by
  have h1 := fun (K : KQ) => l_size (G := G) (d := d + 2) (Q := K) hl
  have h2 := fun (K : Nat → Prop) => l_tag hl (K := K)
  have h3 := fun (K : KQ) => l_empty (G := G) (d := d + 2) (Q := K) hl
  have hn : n ≤ 10 := by obtain ⟨_, _, _, _, q, _⟩ := hl; exact q
  rw [e48]
  rcases hx with ⟨e, e2⟩ | ⟨e, e2⟩
  · rw [e2]
    have h3 := fun (K : KQ) => (h3 K).trans (by rw [if_pos e])
    simp (disch := omega) only [KK, Int.reduceEq, not_false_iff, ↓reduceIte, ↓if_pos, ↓if_neg, xt_o, true_and, nlO_i, nlO_n, nlO_r, List.length_nil, List.length_cons, Nat.reduceAdd, Nat.reduceLeDiff, Nat.zero_le, U48, hw, GX11, h2, h3, VS0]
  · have h3 := fun (K : KQ) => (h3 K).trans (by rw [if_neg (show ¬ n = 0 by omega)])
    have h4 := fun (K : KQ) => l_get (G := G) (d := d) (Q := K) hl (i := n - 1) (by omega)
    rw [e2] at h4
    have hsb := ar_sub (a := n) (b := 1) (by omega)
    simp (disch := omega) only [KK, Int.reduceEq, not_false_iff, ↓reduceIte, ↓if_pos, ↓if_neg, xt_o, true_and, nlO_i, nlO_n, nlO_r, List.length_nil, List.length_cons, Nat.reduceAdd, Nat.reduceLeDiff, Nat.zero_le, U48, hw, hv, GX11, h1, h2, h3, h4, hsb, VS0, OKS]
end C5a
theorem evL_le {y : Int → Int} : ∀ (l : List Int) (S : List Bool) (a : Int) (k : Nat), wfM l k → evL y l S a ≤ a + 300 * (l.length : Int)
  | [], _, a, _, _ => by show a ≤ a + 300 * ((0 : Nat) : Int); omega
  | c :: l, S, a, k, h => by
    rw [List.length_cons, show ((l.length + 1 : Nat) : Int) = (l.length : Int) + 1 by omega]
    rw [evL]
    rw [wfM] at h
    by_cases c0 : 0 ≤ c
    · rw [if_pos c0] at h ⊢
      have := evL_le (y := y) l (tsv y c :: S) a _ h.2
      omega
    · rw [if_neg c0] at h ⊢
      by_cases c1 : c = -1
      · rw [if_pos c1] at h ⊢
        have := evL_le (y := y) l (ntF S) a _ h.2
        omega
      · rw [if_neg c1] at h ⊢
        by_cases c2 : -10 < c
        · rw [if_pos c2] at h ⊢
          have := evL_le (y := y) l (joF c S) a _ h.2
          omega
        · rw [if_neg c2] at h ⊢
          have := evL_le (y := y) l [] (a + enF c S) _ h.2
          have h3 : enF c S ≤ 300 := by
            unfold enF
            split
            · split <;> omega
            · omega
          omega
theorem seg_len {s : Int → Int} : ∀ (n : Nat) (a : Int), (seg s a n).length = n
  | 0, _ => rfl
  | n + 1, a => by rw [seg, List.length_cons, seg_len n]
theorem MOUTH_le {s : Int → Int} {p hd : Int} (ok : okM s) : 0 ≤ MOUTH s p hd ∧ MOUTH s p hd < 100000 := by
  obtain ⟨o1, o2, o3, o4, o5, o6, o7⟩ := ok
  have := evL_le (y := BY s p hd) _ [] 1 0 o5
  rw [seg_len] at this
  unfold MOUTH
  omega
/-- the valley that holds -/
def HVr (v sb : Nat) (s : Int → Int) (h : MH) : Prop := ∃ (tx co sh ce nc : Nat) (pl cs sn : Int) (C S E y : Int → Int), h.2.2 v = some (vO' tx co sh ce sb pl cs sn (NERVE s)) ∧ h.2.2 sb = some (cArr 0 6 (ix y)) ∧ h.2.2 co = some (cArr 0 nc (ix C)) ∧ h.2.2 sh = some (cArr 0 10 (ix S)) ∧ h.2.2 ce = some (cArr 0 10 (ix E)) ∧ ¬ co = sb ∧ nc ≤ 100 ∧ 0 ≤ sn ∧ sn ≤ 10 ∧ VR C S E nc sn.toNat 0 0 (seg s (237 + 140 * s 34) (STEPM s).toNat)
/-- a world in which one can speak -/
def qSW (w v sb : Nat) (s : Int → Int) (h : MH) : Prop := (∃ sg aw : Int, h.2.2 w = some (wO w sg (s 0) aw)) ∧ (∃ W : Int → Int, h.2.2 (w + 4) = some (cArr 0 8 (ix W)) ∧ ∀ f, 0 ≤ f → f < 8 → W f = s (35 + f)) ∧ (∀ f, 0 ≤ f → f < 8 → 0 ≤ s (35 + f)) ∧ (∃ (n : Int) (f : Int → Option Nat), qLS h (w + 3) n f ∧ ((n = 0 ∧ v = w + 15) ∨ (0 < n ∧ f (n - 1) = some v))) ∧ HVr v sb s h
/-- an aunt's cells -/
def qAW (a r : Nat) (s : Int → Int) (p : Int) (h : MH) : Prop := h.2.2 a = some (AUC r (s (43 + p)) p (s (49 + p)) (s (55 + p))) ∧ (s (43 + p) = 6 → ∃ ro : Int → Int, h.2.2 r = some (cArr 0 4 (ix ro)) ∧ ∀ k, 0 ≤ k → k < 4 → ro k = s (61 + 4 * p + k) ∧ 0 ≤ ro k ∧ ro k ≤ 9)
section C5
variable {G : MG} {d : Nat} {h : MH} {Q : KQ} {w v sb a r : Nat} {s : Int → Int} {p hd : Int}
theorem qSW_sb {y' : Int → Int} (z : qSW w v sb s h) : qSW w v sb s (hset h sb (cArr 0 6 (ix y'))) := by
  obtain ⟨⟨sg, aw, z1⟩, ⟨W, z2, hW⟩, z3, ⟨n, f, z4, z5⟩, tx, co, sh, ce, nc, pl, cs, sn, C, S, E, y, q1, q2, q3, q4, q5, q6, q7, q8, q9, q10⟩ := z
  exact ⟨⟨sg, aw, (hs_ne (ne_oa z1 q2)).trans z1⟩, ⟨W, (hs_ne (ne_aa z2 q2 (by decide))).trans z2, hW⟩, z3, ⟨n, f, qLS_set z4 q2, z5⟩, tx, co, sh, ce, nc, pl, cs, sn, C, S, E, y', (hs_ne (ne_oa q1 q2)).trans q1, hs_eq, (hs_ne q6).trans q3, (hs_ne (ne_aa q4 q2 (by decide))).trans q4, (hs_ne (ne_aa q5 q2 (by decide))).trans q5, q6, q7, q8, q9, q10⟩
theorem qAW_set {t n : Nat} {g g' : Nat → Int} {b : Nat} (hk : 0 ≤ s (43 + p) ∧ s (43 + p) ≤ 6) (z : qAW a r s p h) (hb : h.2.2 b = some (cArr t n g)) (hn : ¬ n = 4) : qAW a r s p (hset h b (cArr t n g')) := by
  obtain ⟨t', fs, e, -⟩ := AUC_o (r := r) (p := p) (v := s (49 + p)) (kn := s (55 + p)) hk
  exact ⟨(hs_ne (ne_oa (z.1.trans (congrArg some e)) hb)).trans z.1, fun q => by
    obtain ⟨ro, z1, z2⟩ := z.2 q
    exact ⟨ro, (hs_ne (ne_aa z1 hb (fun e => hn e.symm))).trans z1, z2⟩⟩
theorem qSW_y (z : qSW w v sb s h) : ∃ y : Int → Int, h.2.2 sb = some (cArr 0 6 (ix y)) := by
  obtain ⟨-, -, -, -, tx, co, sh, ce, nc, pl, cs, sn, C, S, E, y, q1, q2, -⟩ := z
  exact ⟨y, q2⟩
theorem PK_says {s ro : Int → Int} (oa : okA s p) (hrow : s (43 + p) = 6 → ∀ k, 0 ≤ k → k < 4 → ro k = s (61 + 4 * p + k) ∧ 0 ≤ ro k ∧ ro k ≤ 9) (o0 : 0 ≤ s 0) : PK s (s (43 + p)) (s (49 + p)) (s 0) hd (LEFT s p hd) (MOUTH s p hd) ro = SAYS s p hd := by
  obtain ⟨p0, p1, k0, k1, v0, v1, n0, n1⟩ := oa
  have hlo := and_in (a := s (55 + p)) (b := iBin 5 hd (-1)) n0 (by omega)
  have r0 := Int.emod_nonneg (s 0) (show (4 : Int) ≠ 0 by decide)
  have r1 := Int.emod_lt_of_pos (s 0) (show (0 : Int) < 4 by decide)
  unfold PK SAYS MEEK
  by_cases e : s (43 + p) = 6
  · have hq := hrow e (s 0 % 4) r0 r1
    have ht := tol_of (x := LEFT s p hd) (k := ro (s 0 % 4)) hlo.1 (by show iBin 3 _ _ ≤ 255; omega) hq.2.1 hq.2.2
    simp only [e, Int.reduceEq, ↓reduceIte]
    rw [ht, hq.1]
  · simp only [if_neg e]
theorem c_speech (z : qSW w v sb s h) (ok : okM s) (ha : qAW a r s p h) (oa : okA s p) (hhd : 0 ≤ hd ∧ hd ≤ 255) : ∃ y' : Int → Int, ∀ Q : KQ, wpC G (d + 6) 49 [vR w, vR a, vI hd] h Q = Q (some (vI (SAYS s p hd))) (hset h sb (cArr 0 6 (ix y'))) := by
  have zz := z
  have oa' := oa
  obtain ⟨⟨sg, aw, z1⟩, ⟨W, z2, hW⟩, z3, ⟨n, f, z4, z5⟩, tx, co, sh, ce, nc, pl, cs, sn, C, S, E, y, q1, q2, q3, q4, q5, q6, q7, q8, q9, q10⟩ := z
  obtain ⟨p0, p1, k0, k1, v0, v1, n0, n1⟩ := oa'
  have ok' := ok
  obtain ⟨o1, o2, o3, o4, o5, o6, o7⟩ := ok'
  obtain ⟨y', hM⟩ := c_mouth (G := G) (d := d + 2) q1 q2 q3 q4 q5 q7 ⟨q8, q9⟩ q6 ha.1 ⟨k0, k1⟩ hhd ⟨n0, n1⟩ (dy := s 0) ⟨o6, by omega⟩ q10 o5
  refine ⟨y', fun Q => ?_⟩
  have hM' : ∀ Q : KQ, wpC G (d + 5) 82 [vR v, vR a, vI hd, vI (s 0)] h Q = Q (some (vI (MOUTH s p hd))) (hset h sb (cArr 0 6 (ix y'))) := hM
  have hlo := and_in (a := s (55 + p)) (b := iBin 5 hd (-1)) n0 (by omega)
  have hmo := MOUTH_le (p := p) (hd := hd) ok
  have ha2 := qAW_set (g' := ix y') ⟨k0, k1⟩ ha q2 (by decide)
  have zz2 := qSW_sb (y' := y') zz
  obtain ⟨⟨sg2, aw2, u1⟩, ⟨W2, u2, hW2⟩, -⟩ := zz2
  have hn1 : ¬ w = sb := ne_oa z1 q2
  obtain ⟨ro, hro⟩ : ∃ ro : Int → Int, s (43 + p) = 6 → (hset h sb (cArr 0 6 (ix y'))).2.2 r = some (cArr 0 4 (ix ro)) ∧ ∀ k, 0 ≤ k → k < 4 → ro k = s (61 + 4 * p + k) ∧ 0 ≤ ro k ∧ ro k ≤ 9 := by
    by_cases q : s (43 + p) = 6
    · obtain ⟨ro, r1, r2⟩ := ha2.2 q
      exact ⟨ro, fun _ => ⟨r1, r2⟩⟩
    · exact ⟨fun _ => 0, fun e => absurd e q⟩
  have hP := fun (K : KQ) => APK (G := G) (d := d + 1) (h := hset h sb (cArr 0 6 (ix y'))) (Q := K) u1 u2 hW2 z3 ha2.1 ⟨k0, k1⟩ (fun q => (hro q).1) (x := LEFT s p hd) (many := MOUTH s p hd) (hd := hd) hhd hlo.1 (by show iBin 3 _ _ ≤ 255; omega) (by omega) ⟨v0, v1⟩ ⟨o6, by omega⟩
  rw [PK_says oa (fun q => (hro q).2) o6] at hP
  have hL := fun (K : KQ) => AL (G := G) (d := d + 4) (h := h) (Q := K) ha.1 ⟨k0, k1⟩ (x := hd)
  have hL' : ∀ K : KQ, xTag (some (AUC r (s (43 + p)) p (s (49 + p)) (s (55 + p)))) (kS 8 G (d + 5) [vR a, vI hd] h K) = K (some (vI (LEFT s p hd))) h := hL
  have hH := fun (K : KQ) => c_holding (G := G) (d := d + 1) (h := h) (Q := K) z1 z4 q1 z5
  rw [e49]
  simp (disch := omega) only [KK, Int.reduceEq, not_false_iff, ↓reduceIte, ↓if_pos, ↓if_neg, xt_o, true_and, nlO_i, nlO_n, nlO_r, List.length_nil, List.length_cons, Nat.reduceAdd, Nat.reduceLeDiff, Nat.zero_le, U49, z1, q1, ha.1, ha2.1, hL', hH, hM', hP, GX11, VS11, VS10]
end C5
