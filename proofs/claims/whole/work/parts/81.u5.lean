/-! signs, learning, rows -/
def tROW (s : Int → Int) (p k n : Int) : Int → Int := if ((0 ≤ p ∧ p < s 27) ∧ 0 ≤ k ∧ k ≤ 3) ∧ (0 ≤ n ∧ n ≤ 9) ∧ s (43 + p) = 6 then up s (61 + 4 * p + k) n else s
def rROW (s : Int → Int) (p k n : Int) : Int := if (0 ≤ p ∧ p < s 27) ∧ 0 ≤ k ∧ k ≤ 3 then (if 0 ≤ n ∧ n ≤ 9 then (if s (43 + p) = 6 then s (61 + 4 * p + k) else -3) else -2) else -1
section U5
variable {G : MG} {d : Nat} {Q : KQ} {gb : Nat} {Bs X : Nat → Prop} {ad ad' : Int → Nat} {b : Int} {w lo : Nat} {vd vn vn' vi vt : Int → Nat} {s s' si st bd : Int → Int} {hi rn : Int} {h h' : MH}
theorem A_feed (z : qK G Bs ad vn vi vt s si st hi rn bd h) {x : Int} : cS G (d + 3) 1 [vI x] (vI (rFEED s x)) (tFEED s x) si hi rn bd h := by
  have hx := K_x z
  have zn := (K_n z).1.1
  have ok := (K_p z).1
  have A := K_A z
  obtain ⟨p0, p30, p31, p32, p33, p85, p95, p111, p127, p9, p10⟩ := K_p z
  unfold rFEED tFEED
  by_cases c : 0 ≤ x ∧ x ≤ 127
  · rw [if_pos c]
    by_cases c2 : s 33 = 100
    · rw [if_pos c2, if_neg (fun q => q.2 c2)]
      have hw : ∀ Q : KQ, wpC G (d + 2) 45 [vR (G.1 + 1), vI x] h Q = Q (some (vI (-4))) h := fun Q => by
        rw [e45]
        simp (disch := omega) only [KK, Int.reduceEq, not_false_iff, ↓reduceIte, ↓if_pos, ↓if_neg, xt_o, true_and, nlO_i, nlO_n, nlO_r, List.length_nil, List.length_cons, Nat.reduceAdd, Nat.reduceLeDiff, Nat.zero_le, U45, zn, GX11]
      refine cQ_S (cQ_id z (fun Q => ?_))
      rw [e1]
      simp (disch := omega) only [KK, Int.reduceEq, not_false_iff, ↓reduceIte, ↓if_pos, ↓if_neg, xt_o, true_and, nlO_i, nlO_n, nlO_r, List.length_nil, List.length_cons, Nat.reduceAdd, Nat.reduceLeDiff, Nat.zero_le, U1, hx, zn, hw, GX12, VS11]
    · rw [if_neg c2, if_pos ⟨c, c2⟩]
      obtain ⟨⟨x1, x2, ⟨T, x3, x3'⟩, x4, x5, x6, x7, c1, c2', c3, c4, x8⟩, y⟩ := K_n z
      have e : ∀ i, ¬ i = 33 → ¬ i = 127 + s 33 → sFEED s x i = s i := fun i h1 h2 => by
        unfold sFEED
        rw [up_ne h1, up_ne h2]
      have e33 : sFEED s x 33 = s 33 + 1 := up_eq
      have eT : sFEED s x (127 + s 33) = x := by unfold sFEED; rw [up_ne (by omega), up_eq]
      obtain ⟨h1, hh1⟩ : ∃ h1, h1 = hset h (G.1 + 1 + 5) (cArr 0 100 (ix (up T (s 33) x))) := ⟨_, rfl⟩
      have g1 : h1.2.2 (G.1 + 1) = some (wO (G.1 + 1) (s 33) (s 0) (AWAYS s)) := by rw [hh1, hs_ne (by omega)]; exact zn
      obtain ⟨h2, hh2⟩ : ∃ h2, h2 = hset h1 (G.1 + 1) (wO (G.1 + 1) (s 33 + 1) (s 0) (AWAYS s)) := ⟨_, rfl⟩
      have g2 : h2.2.2 (G.1 + 1) = some (wO (G.1 + 1) (s 33 + 1) (s 0) (AWAYS s)) := by rw [hh2, hs_eq]
      have f1 : qFr G.1 Bs (fun q => q = G.1 + 1 ∨ q = G.1 + 1 + 5) h h2 := by
        rw [hh2]
        exact qFr_tr (by rw [hh1]; exact qFr_set (Or.inr rfl) x3) (qFr_set (Or.inl rfl) g1)
      have o27 := ok.1.2.2.1
      have o28 := ok.1.2.1
      have o29 := ok.2.2.1
      have hTn : ∀ i, 0 ≤ i → i < ((100 : Nat) : Int) → up T (s 33) x i = sFEED s x (127 + i) := fun i i0 i1 => by
        by_cases q : i = s 33
        · rw [q, up_eq, eT]
        · rw [up_ne q, e _ (by omega) (by omega)]; exact x3' i i0 i1
      have okp : okP (sFEED s x) := okP_hi (fun i hi => e i (by omega) (by omega)) (K_p z) ⟨by rw [e 30 (by omega) (by omega)]; exact p30, by rw [e 31 (by omega) (by omega)]; exact p31, by rw [e 32 (by omega) (by omega)]; exact p32, by rw [e33]; omega, fun i i0 i1 => by rw [e 30 (by omega) (by omega)] at i1; rw [e _ (by omega) (by omega)]; exact p85 i i0 i1, fun i i0 i1 => by rw [e 31 (by omega) (by omega)] at i1; rw [e (95 + i) (by omega) (by omega), e (103 + i) (by omega) (by omega)]; exact p95 i i0 i1, fun i i0 i1 => by rw [e 32 (by omega) (by omega)] at i1; rw [e _ (by omega) (by omega)]; exact p111 i i0 i1, fun i i0 i1 => by
        rw [e33] at i1
        by_cases q : i = s 33
        · rw [q, eT]; exact c
        · rw [e _ (by omega) (by omega)]; exact p127 i i0 (by omega)⟩
      obtain ⟨z1, z2⟩ := K_now (s' := sFEED s x) z f1 (fun a q => by omega) (by rw [hh2, hh1]; rfl) ⟨⟨by rw [e33, e 0 (by omega) (by omega), AWAYS_cg (e 27 (by omega) (by omega)) o27.1 (fun k k0 k1 => e _ (by omega) (by omega))]; exact g2, qIR_cg (qIR_fr x2 f1 (by decide) (by omega)) (fun i i0 i1 => e _ (by omega) (by omega)), ⟨up T (s 33) x, by rw [hh2, hs_ne (by omega), hh1, hs_eq], hTn⟩, by rw [e 30 (by omega) (by omega)]; exact qRW_cg (qRW_fr x4 f1 (by decide) (by omega) (by omega) (by omega)) (fun i i0 i1 => e _ (by omega) (by omega)) (fun i i0 i1 => e _ (by omega) (by omega)), by rw [e 31 (by omega) (by omega)]; exact qRW_cg (qRW_fr x5 f1 (by decide) (by omega) (by omega) (by omega)) (fun i i0 i1 => e _ (by omega) (by omega)) (fun i i0 i1 => e _ (by omega) (by omega)), by rw [e 32 (by omega) (by omega)]; exact qRW_cg (qRW_fr x6 f1 (by decide) (by omega) (by omega) (by omega)) (fun i i0 i1 => e _ (by omega) (by omega)) (fun i i0 i1 => e _ (by omega) (by omega)), qVL_fr x7 f1 (fun k hk => by omega), c1, c2', c3, c4, fr_o f1 x8 (by omega)⟩, qWY_cg (qWY_fr y f1 (okW_k ok) ⟨o27.2, o28.2⟩ (fun k k1 k4 => by omega) (fun k _ _ => by have := A.2 (0 + k); omega) (fun k _ _ _ => by have := A.2 (0 + k); omega) (fun i k i0 i1 _ => by have := K_vn z i i0 i1; omega)) ⟨o27.2, o28.2, o29.2⟩ (fun i hi => e i (by omega) (by omega))⟩ okp (e 29 (by omega) (by omega))
      have hw : ∀ Q : KQ, wpC G (d + 2) 45 [vR (G.1 + 1), vI x] h Q = Q (some (vI (s 33 + 1))) h2 := fun Q => by
        rw [e45]
        simp (disch := omega) only [u45_0, u45_1, u45_4, u45_7, u45_8, u45_11, u45_13, u45_19, u45_20, u45_23, u45_24, u45_27, u45_28, KK, zn, x3, GX11, xs_i, ↓if_pos, ↓if_neg]
        rw [← hh1]
        simp (disch := omega) only [u45_29, u45_30, u45_30a, u45_31, u45_34, u45_35, u45_36, KK, g1, GX11, PX11, ar_add]
        rw [← hh2]
        simp only [u45_39, u45_40, u45_43, KK, g2, GX11, true_and]
      have k1 : h2.1 = h.1 ∧ h2.2.1 = h.2.1 := by rw [hh2, hh1]; exact ⟨rfl, rfl⟩
      refine ⟨Bs, ad, vn, vi, vt, st, h2, z1, z2, by omega, by omega, fun Q => ?_⟩
      rw [e1]
      simp (disch := omega) only [KK, Int.reduceEq, not_false_iff, ↓reduceIte, ↓if_pos, ↓if_neg, xt_o, true_and, nlO_i, nlO_n, nlO_r, List.length_nil, List.length_cons, Nat.reduceAdd, Nat.reduceLeDiff, Nat.zero_le, U1, hx, zn, hw, GX12, VS11]
  · rw [if_neg c, if_neg (fun q => c q.1)]
    refine cQ_S (cQ_id z (fun Q => ?_))
    rw [e1]
    by_cases c1 : x < 0
    · simp (disch := omega) only [KK, Int.reduceEq, not_false_iff, ↓reduceIte, ↓if_pos, ↓if_neg, xt_o, true_and, nlO_i, nlO_n, nlO_r, List.length_nil, List.length_cons, Nat.reduceAdd, Nat.reduceLeDiff, Nat.zero_le, U1]
    · simp (disch := omega) only [KK, Int.reduceEq, not_false_iff, ↓reduceIte, ↓if_pos, ↓if_neg, xt_o, true_and, nlO_i, nlO_n, nlO_r, List.length_nil, List.length_cons, Nat.reduceAdd, Nat.reduceLeDiff, Nat.zero_le, U1]
theorem okW_au {s s' : Int → Int} (ok : okW s) (e : ∀ i, (i < 49 ∨ 85 ≤ i) → s' i = s i) (ha : ∀ p, 0 ≤ p → p < s 27 → okA s' p) : okW s' := by
  obtain ⟨⟨q1, q2, q3, q4, q5⟩, q34, q29, qWt, qAw, qN, qA⟩ := ok
  refine ⟨⟨okM_g (e 0 (by omega)) (e 34 (by omega)) (fun k hk => e k (by omega)) q1, by rw [e 28 (by omega)]; exact q2, by rw [e 27 (by omega)]; exact q3, fun p p0 p1 => ha p p0 (by rw [e 27 (by omega)] at p1; exact p1), fun a a0 a1 => by rw [e _ (by omega)]; exact q5 a a0 a1⟩, by rw [e 34 (by omega), e 29 (by omega)]; exact q34, by rw [e 29 (by omega)]; exact q29, fun k k0 k1 => by rw [e _ (by omega)]; exact qWt k k0 k1, fun k k0 k1 => by rw [e _ (by omega)]; exact qAw k k0 k1, fun i i0 i1 => by rw [e _ (by omega)]; exact qN i i0 i1, fun a a0 a1 => ?_⟩
  rw [e (16 + a) (by omega), e (1 + a) (by omega), e (6 + a) (by omega), e (11 + a) (by omega)]
  exact qA a a0 a1
/-- an aunt's object or row in now is written -/
theorem K_aunt (z : qK G Bs ad vn vi vt s si st hi rn bd h) {p : Int} (hp : 0 ≤ p ∧ p < s 27) (f : qFr G.1 Bs X h h') (hc : h'.1 = h.1 ∧ h'.2.1 = h.2.1) (hX : ∀ a, X a → a = ad (0 + p) ∨ (a = ad (0 + p) + 1 ∧ s (43 + p) = 6)) (e : ∀ i, (i < 49 ∨ 85 ≤ i) → s' i = s i) (e2 : ∀ q, 0 ≤ q → q < 6 → ¬ q = p → s' (49 + q) = s (49 + q) ∧ s' (55 + q) = s (55 + q) ∧ ∀ k, 0 ≤ k → k < 4 → s' (61 + 4 * q + k) = s (61 + 4 * q + k)) (oa : okA s' p) (za : qAW (ad (0 + p)) (ad (0 + p) + 1) s' p h') : qK G Bs ad vn vi vt s' si st hi rn bd h' ∧ qFr G.1 Bs (X0 G.1) h h' := by
  have ok := (K_p z).1
  have A := K_A z
  have hk7 := okW_k ok p hp.1 hp.2
  have o27 := ok.1.2.2.1
  have zap := (K_n z).2.2.2.2.1 p hp.1 hp.2
  obtain ⟨tt, fs, eA, hat⟩ := AUC_o (r := ad (0 + p) + 1) (p := p) (v := s (49 + p)) (kn := s (55 + p)) hk7
  have zo := zap.1.trans (congrArg some eA)
  have htt : ¬ tt = 0 ∧ ¬ tt = 10 ∧ ¬ tt = 7 ∧ ¬ tt = 11 ∧ ¬ tt = 1 := by
    refine ⟨?_, ?_, ?_, ?_, ?_⟩ <;> (intro q; subst q; exact absurd hat (by decide))
  have no : ∀ {a t : Nat} {gs : List V}, h.2.2 a = some (cObj t gs) → (t = 0 ∨ t = 10 ∨ t = 7 ∨ t = 11 ∨ t = 1 ∨ ¬ a = ad (0 + p)) → ¬ X a := fun {a t gs} ha ht q => by
    rcases hX a q with e3 | ⟨e3, e4⟩
    · rw [e3, zo] at ha
      cases ha
      omega
    · obtain ⟨ro, r1, -⟩ := zap.2 e4
      rw [e3, r1] at ha; cases ha
  have nr : ∀ {a t n : Nat} {g : Nat → Option Nat}, h.2.2 a = some (cRef t n g) → ¬ X a := fun {a t n g} ha q => by
    rcases hX a q with e3 | ⟨e3, e4⟩
    · rw [e3, zo] at ha; cases ha
    · obtain ⟨ro, r1, -⟩ := zap.2 e4
      rw [e3, r1] at ha; cases ha
  have na : ∀ {a t n : Nat} {g : Nat → Int}, h.2.2 a = some (cArr t n g) → (¬ n = 4 ∨ ¬ a = ad (0 + p) + 1) → ¬ X a := fun {a t n g} ha hn q => by
    rcases hX a q with e3 | ⟨e3, e4⟩
    · rw [e3, zo] at ha; cases ha
    · obtain ⟨ro, r1, -⟩ := zap.2 e4
      rw [e3, r1] at ha; cases ha
      omega
  have vl : ∀ {v : Nat} {l : List Int} {nv : Int}, qVL Bs v l nv h → qVL Bs v l nv h' := fun {v l nv} q => by
    obtain ⟨nc, pl, cs, sn, C, S, E, y, q1, q2, q3, q4, q5, q6, q7⟩ := q
    have n5 : ¬ v + 5 = ad (0 + p) + 1 := fun e3 => by
      rw [show v + 4 = ad (0 + p) by omega, zo] at q2; cases q2
    obtain ⟨y', q2'⟩ := fr_6 f q2 (na q2 (Or.inl (by decide)))
    exact ⟨nc, pl, cs, sn, C, S, E, y', fr_o f q1 (no q1 (by omega)), q2', fr_b f q3 q6.2 (na q3 (Or.inr n5)), fr_a f q4 (by decide) (na q4 (Or.inl (by decide))), fr_a f q5 (by decide) (na q5 (Or.inl (by decide))), q6, q7⟩
  have ll : ∀ {l ee : Nat} {n : Int} {g : Int → Nat}, qLL G h l ee n g → qLL G h' l ee n g := fun {l ee n g} q => by
    obtain ⟨mc, ⟨q1, q2⟩ | ⟨F, q1, q2, q3⟩⟩ := q
    · exact ⟨mc, Or.inl ⟨fr_o f q1 (no q1 (by omega)), q2⟩⟩
    · exact ⟨mc, Or.inr ⟨F, fr_o f q1 (no q1 (by omega)), fr_r f q2 (nr q2), q3⟩⟩
  have rw' : ∀ {o cap : Nat} {n : Int} {g1 g2 : Int → Int}, qRW h o cap n g1 g2 → ¬ cap = 6 → ¬ cap = 4 → qRW h' o cap n g1 g2 := fun {o cap n g1 g2} q hc h4 => by
    obtain ⟨r1, r2, q1, q2, q3, q4⟩ := q
    exact ⟨r1, r2, fr_o f q1 (no q1 (by omega)), fr_a f q2 hc (na q2 (Or.inl h4)), fr_a f q3 hc (na q3 (Or.inl h4)), q4⟩
  have ir : ∀ {a n : Nat} {g : Int → Int}, qIR h a n g → ¬ n = 6 → ¬ n = 4 → qIR h' a n g := fun {a n g} q hn h4 => by
    obtain ⟨W, q1, q2⟩ := q
    exact ⟨W, fr_a f q1 hn (na q1 (Or.inl h4)), q2⟩
  have ww : ∀ {bu : Int} {wu : Nat} {vu : Int → Nat} {su : Int → Int}, 25 ≤ bu → okW su → qW G Bs ad bu wu vu su h → qW G Bs ad bu wu vu su h' := fun {bu wu vu su} hb oku q => by
    obtain ⟨⟨x1, x2, x3, x4, x5, x6, x7, c1, c2, c3, c4, x8⟩, y1, y2, y3, y4, y5, y6⟩ := q
    refine ⟨⟨fr_o f x1 (no x1 (by omega)), ir x2 (by decide) (by decide), ir x3 (by decide) (by decide), rw' x4 (by decide) (by decide), rw' x5 (by decide) (by decide), rw' x6 (by decide) (by decide), vl x7, c1, c2, c3, c4, fr_o f x8 (no x8 (by omega))⟩, ll y1, ll y2, ll y3, fun i i0 i1 => ?_, fun i i0 i1 => fr_o f (y5 i i0 i1) (no (y5 i i0 i1) (by omega)), fun i i0 i1 => vl (y6 i i0 i1)⟩
    have u27 := oku.1.2.2.1
    have ne : ¬ ad (bu + i) = ad (0 + p) := fun e3 => by have := A.1 _ _ e3; omega
    obtain ⟨t', gs, e4, -⟩ := AUC_o (r := ad (bu + i) + 1) (p := i) (v := su (49 + i)) (kn := su (55 + i)) (okW_k oku i i0 i1)
    have zq := y4 i i0 i1
    exact qAW_fr (okW_k oku i i0 i1) zq f (no (zq.1.trans (congrArg some e4)) (by omega)) (fun q6 => by
      obtain ⟨ro, r1, -⟩ := zq.2 q6
      exact na r1 (Or.inr (by omega)))
  have okw : okW s' := okW_au ok e (fun q q0 q1 => by
    by_cases c : q = p
    · rw [c]; exact oa
    · obtain ⟨e3, e4, -⟩ := e2 q q0 (by omega) c
      obtain ⟨r0, r1, r⟩ := ok.1.2.2.2.1 q q0 q1
      refine ⟨r0, r1, ?_⟩
      rw [e (43 + q) (by omega), e3, e4]
      exact r)
  have okp := okP_w (K_p z) okw (fun i hi => e i (by omega)) (by rw [e 0 (by omega)]; exact (K_p z).2.2.2.2.2.2.2.2.2.2)
  have zn' : qW G Bs ad 0 (G.1 + 1) vn s' h' := by
    obtain ⟨⟨x1, x2, x3, x4, x5, x6, x7, c1, c2, c3, c4, x8⟩, y1, y2, y3, y4, y5, y6⟩ := K_n z
    refine ⟨qWX_cg ⟨fr_o f x1 (no x1 (by omega)), ir x2 (by decide) (by decide), ir x3 (by decide) (by decide), rw' x4 (by decide) (by decide), rw' x5 (by decide) (by decide), rw' x6 (by decide) (by decide), vl x7, c1, c2, c3, c4, fr_o f x8 (no x8 (by omega))⟩ (e 0 (by omega)) (e 33 (by omega)) (AWAYS_cg (e 27 (by omega)) o27.1 (fun k k0 k1 => e _ (by omega))) ⟨e 30 (by omega), e 31 (by omega), e 32 (by omega)⟩ (fun i i0 i1 => e i (by omega)) (fun i i0 i1 => e i (by omega)), ?_⟩
    unfold qWY
    rw [e 27 (by omega), e 28 (by omega), e 29 (by omega)]
    refine ⟨ll y1, ll y2, ll y3, fun i i0 i1 => ?_, fun i i0 i1 => ?_, fun i i0 i1 => ?_⟩
    · by_cases c : i = p
      · rw [c]; exact za
      · have ne : ¬ ad (0 + i) = ad (0 + p) := fun e3 => by have := A.1 _ _ e3; omega
        obtain ⟨t', gs, e4, -⟩ := AUC_o (r := ad (0 + i) + 1) (p := i) (v := s (49 + i)) (kn := s (55 + i)) (okW_k ok i i0 i1)
        have zq := y4 i i0 i1
        obtain ⟨e5, e6, e7⟩ := e2 i i0 (by omega) c
        exact qAW_cg (qAW_fr (okW_k ok i i0 i1) zq f (no (zq.1.trans (congrArg some e4)) (by omega)) (fun q6 => by
          obtain ⟨ro, r1, -⟩ := zq.2 q6
          exact na r1 (Or.inr (by omega)))) (e _ (by omega)) e5 e6 e7
    · have o28 := ok.1.2.1
      unfold qAK
      rw [e (1 + i) (by omega), e (6 + i) (by omega), e (11 + i) (by omega), e (16 + i) (by omega)]
      exact fr_o f (y5 i i0 i1) (no (y5 i i0 i1) (by omega))
    · refine qVL_cg (vl (y6 i i0 i1)) ?_ (e _ (by omega))
      unfold stepsOf
      rw [e (232 + i) (by omega)]
      exact seg_cg _ _ (fun k hk hk2 => e k (by omega))
  have Ap := A.2 (0 + p)
  refine K_gen z (qG_mo (K_G z) (by omega)) (X := X) f (fun a q => ?_) (by omega) zn' (ww (by omega) (K_pi z).1 (K_i z)) (ww (by omega) (K_pt z) (K_t z)) okp (by rw [e 29 (by omega)]; exact K_vn z)
  rcases hX a q with q | ⟨q, -⟩
  · omega
  · omega
theorem A_learn (z : qK G Bs ad vn vi vt s si st hi rn bd h) {p x : Int} : cS G (d + 5) 10 [vI p, vI x] (vI (rLEARN s p x)) (tLEARN s p x) si hi rn bd h := by
  have hx := K_x z
  have zn := (K_n z).1.1
  have ok := (K_p z).1
  have o27 := ok.1.2.2.1
  have hH := fun (K : KQ) => K_has (d := d + 2) (Q := K) z (i := p)
  have hF := fun (K : KQ) => c_areFacts (G := G) (d := d + 3) (h := h) (Q := K) (f := x)
  unfold rLEARN tLEARN
  by_cases c : 0 ≤ p ∧ p < s 27
  · have hH := fun (K : KQ) => (hH K).trans (by rw [if_pos c])
    rw [if_pos c]
    by_cases c2 : 0 ≤ x ∧ x ≤ 255
    · have hF := fun (K : KQ) => (hF K).trans (by rw [if_pos c2])
      rw [if_pos c2, if_pos ⟨c, c2⟩]
      have hA := (K_n z).2.2.2.2.1 p c.1 c.2
      have hk7 := okW_k ok p c.1 c.2
      have hau := hA.1
      have oA := ok.1.2.2.2.1 p c.1 c.2
      have e : ∀ i, ¬ i = 55 + p → up s (55 + p) x i = s i := fun i hi => up_ne hi
      have f1 : qFr G.1 Bs (fun q => q = ad (0 + p)) h (hset h (ad (0 + p)) (AUC (ad (0 + p) + 1) (s (43 + p)) p (s (49 + p)) x)) := qFr_set rfl hau
      have za : qAW (ad (0 + p)) (ad (0 + p) + 1) (up s (55 + p) x) p (hset h (ad (0 + p)) (AUC (ad (0 + p) + 1) (s (43 + p)) p (s (49 + p)) x)) := by
        refine ⟨?_, fun q => ?_⟩
        · rw [hs_eq, e _ (by omega), e _ (by omega), up_eq]
        · rw [e _ (by omega)] at q
          obtain ⟨ro, r1, r2⟩ := hA.2 q
          refine ⟨ro, (hs_ne (by omega)).trans r1, fun k k0 k1 => ?_⟩
          rw [e _ (by omega)]; exact r2 k k0 k1
      obtain ⟨z1, z2⟩ := K_aunt z c f1 ⟨rfl, rfl⟩ (fun a q => Or.inl q) (fun i hi => e i (by omega)) (fun q q0 q1 qn => ⟨e _ (by omega), e _ (by omega), fun k k0 k1 => e _ (by omega)⟩) (by
        obtain ⟨r0, r1, r2, r3, r4, r5, r6, r7⟩ := oA
        refine ⟨r0, r1, ?_⟩
        rw [e (43 + p) (by omega), e (49 + p) (by omega), up_eq]
        omega) za
      have hgt := fun (K : KQ) => ll_get (G := G) (d := d + 1) (Q := K) (K_n z).2.1 (i := p) c
      have htg := fun (K : Nat → Prop) => ll_tag (K_n z).2.1 (K := K)
      have hAC := fun (pc : Nat) (L : Loc') (st : List V) (Q : KQ) => AC (G := G) (d := d + 4) (h := h) (Q := Q) (a := ad (0 + p)) (r := ad (0 + p) + 1) (k := s (43 + p)) (p := p) (v := s (49 + p)) (kn := s (55 + p)) (y := 10) (pc := pc) (L := L) (st := st) hk7
      have hG2 := fun (K : V → Prop) => AG2 (K := K) (r := ad (0 + p) + 1) (k := s (43 + p)) (p := p) (v := s (49 + p)) (kn := s (55 + p)) hk7
      have hP2 := fun (K : MC → Prop) => AP2 (K := K) (r := ad (0 + p) + 1) (k := s (43 + p)) (p := p) (v := s (49 + p)) (kn := s (55 + p)) (x := x) hk7
      refine ⟨Bs, ad, vn, vi, vt, st, _, z1, z2, ⟨Nat.le_refl _, by rw [hs_1]; omega⟩, ⟨Nat.le_refl _, by rw [hs_2]; omega⟩, fun Q => ?_⟩
      rw [e10]
      simp (disch := omega) only [KK, Int.reduceEq, not_false_iff, ↓reduceIte, ↓if_pos, ↓if_neg, xt_o, true_and, nlO_i, nlO_n, nlO_r, List.length_nil, List.length_cons, Nat.reduceAdd, Nat.reduceLeDiff, Nat.zero_le, U10, hx, zn, hH, hF, hgt, htg, hau, hAC, hG2, hP2, GX12, GX11, VS11, VS0]
    · have hF := fun (K : KQ) => (hF K).trans (by rw [if_neg c2])
      rw [if_neg c2, if_neg (fun q => c2 q.2)]
      refine cQ_S (cQ_id z (fun Q => ?_))
      rw [e10]
      simp (disch := omega) only [KK, Int.reduceEq, not_false_iff, ↓reduceIte, ↓if_pos, ↓if_neg, xt_o, true_and, nlO_i, nlO_n, nlO_r, List.length_nil, List.length_cons, Nat.reduceAdd, Nat.reduceLeDiff, Nat.zero_le, U10, hx, zn, hH, hF, GX12, VS11]
  · have hH := fun (K : KQ) => (hH K).trans (by rw [if_neg c])
    rw [if_neg c, if_neg (fun q => c q.1)]
    refine cQ_S (cQ_id z (fun Q => ?_))
    rw [e10]
    simp (disch := omega) only [KK, Int.reduceEq, not_false_iff, ↓reduceIte, ↓if_pos, ↓if_neg, xt_o, true_and, nlO_i, nlO_n, nlO_r, List.length_nil, List.length_cons, Nat.reduceAdd, Nat.reduceLeDiff, Nat.zero_le, U10, hx, zn, hH, GX12, VS11]
end U5
