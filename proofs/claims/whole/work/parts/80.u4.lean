/-! weights, signs, who is away, beginnings, learning, days that pass -/
def tAWAY (s : Int → Int) (p v : Int) : Int → Int := if 0 ≤ p ∧ p < s 27 then up s (21 + p) v else s
def rAWAY (s : Int → Int) (p : Int) : Int := if 0 ≤ p ∧ p < s 27 then s (21 + p) else -1
def tBEGIN (s : Int → Int) (a x : Int) : Int → Int := if (0 ≤ a ∧ a < s 28) ∧ 0 ≤ x ∧ x ≤ 255 then up (BEGs s a) (1 + a) x else s
def rBEGIN (s : Int → Int) (a x : Int) : Int := if 0 ≤ a ∧ a < s 28 then (if 0 ≤ x ∧ x ≤ 255 then s (1 + a) else -2) else -1
def tLEARN (s : Int → Int) (p x : Int) : Int → Int := if (0 ≤ p ∧ p < s 27) ∧ 0 ≤ x ∧ x ≤ 255 then up s (55 + p) x else s
def rLEARN (s : Int → Int) (p x : Int) : Int := if 0 ≤ p ∧ p < s 27 then (if 0 ≤ x ∧ x ≤ 255 then s (55 + p) else -2) else -1
def tPASS (s : Int → Int) (n : Int) : Int → Int := if (0 ≤ n ∧ n ≤ 60) ∧ s 0 + n ≤ 9999 then GOESn n.toNat s else s
def rPASS (s : Int → Int) (n : Int) : Int := if 0 ≤ n ∧ n ≤ 60 then (if s 0 + n ≤ 9999 then s 0 + n else -3) else -2
/-- what is not of the world's days, weights, aunts, askers stays -/
theorem okP_w {s s' : Int → Int} (okp : okP s) (okw : okW s') (e : ∀ i, ((27 ≤ i ∧ i ≤ 33) ∨ (85 ≤ i ∧ i < 227) ∨ 227 ≤ i) → s' i = s i) (h0 : s' 0 ≤ 9999) : okP s' := by
  obtain ⟨o0, p30, p31, p32, p33, p85, p95, p111, p127, p9, p10⟩ := okp
  refine ⟨okw, by rw [e 30 (by omega)]; exact p30, by rw [e 31 (by omega)]; exact p31, by rw [e 32 (by omega)]; exact p32, by rw [e 33 (by omega)]; exact p33, ?_, ?_, ?_, ?_, ?_, h0⟩
  · rw [e 30 (by omega)]
    intro i i0 i1
    rw [e _ (by omega)]; exact p85 i i0 i1
  · rw [e 31 (by omega), e 27 (by omega), e 28 (by omega)]
    intro i i0 i1
    rw [e (95 + i) (by omega), e (103 + i) (by omega)]; exact p95 i i0 i1
  · rw [e 32 (by omega), e 28 (by omega)]
    intro i i0 i1
    rw [e _ (by omega)]; exact p111 i i0 i1
  · rw [e 33 (by omega)]
    intro i i0 i1
    rw [e _ (by omega)]; exact p127 i i0 i1
  · rw [e 29 (by omega)]
    intro i i0 i1
    have h29 := o0.2.2.1
    have q := p9 i i0 i1
    rw [e (232 + i) (by omega)]
    refine ⟨q.1, q.2.1, ?_⟩
    unfold stepsOf
    rw [e (232 + i) (by omega), seg_cg _ _ (fun k hk hk2 => e k (by omega))]
    exact q.2.2
section U4
variable {G : MG} {d : Nat} {Q : KQ} {gb : Nat} {Bs X : Nat → Prop} {ad ad' : Int → Nat} {b : Int} {w lo : Nat} {vd vn vn' vi vt : Int → Nat} {s s' si st bd : Int → Int} {hi rn : Int} {h h' : MH}
theorem A_weigh (z : qK G Bs ad vn vi vt s si st hi rn bd h) {f n : Int} : cS G (d + 2) 12 [vI f, vI n] (vI (rWEIGH s f n)) (tWEIGH s f n) si hi rn bd h := by
  have hx := K_x z
  have zn := (K_n z).1.1
  have ok := (K_p z).1
  have A := K_A z
  have hI := fun (K : KQ) => c_isFact (G := G) (d := d) (h := h) (Q := K) (f := f)
  have hD := fun (K : KQ) => c_isDigit (G := G) (d := d) (h := h) (Q := K) (f := n)
  unfold rWEIGH tWEIGH
  by_cases c : 0 ≤ f ∧ f ≤ 7
  · have hI := fun (K : KQ) => (hI K).trans (by rw [if_pos (by omega)])
    rw [if_pos c]
    by_cases c2 : 0 ≤ n ∧ n ≤ 9
    · have hD := fun (K : KQ) => (hD K).trans (by rw [if_pos c2])
      rw [if_pos c2, if_pos ⟨c, c2⟩]
      obtain ⟨⟨x1, ⟨W, x2, x2'⟩, x3, x4, x5, x6, x7, c1, c2', c3, c4, x8⟩, y⟩ := K_n z
      have e : ∀ i, ¬ i = 35 + f → up s (35 + f) n i = s i := fun i hi => up_ne hi
      have f1 : qFr G.1 Bs (fun q => q = G.1 + 1 + 4) h (hset h (G.1 + 1 + 4) (cArr 0 8 (ix (up W f n)))) := qFr_set rfl x2
      have hWf : W f = s (35 + f) := x2' f c.1 (by omega)
      have hWn : ∀ i, 0 ≤ i → i < ((8 : Nat) : Int) → up W f n i = up s (35 + f) n (35 + i) := fun i i0 i1 => by
        by_cases q : i = f
        · rw [q, up_eq, up_eq]
        · rw [up_ne q, up_ne (by omega)]; exact x2' i i0 i1
      have o27 := ok.1.2.2.1
      have o28 := ok.1.2.1
      have o29 := ok.2.2.1
      have okw : okW (up s (35 + f) n) := by
        obtain ⟨⟨q1, q2, q3, q4, q5⟩, q34, q29, qWt, qAw, qN, qA⟩ := ok
        refine ⟨⟨okM_g (e 0 (by omega)) (e 34 (by omega)) (fun k hk => e k (by omega)) q1, by rw [e 28 (by omega)]; exact q2, by rw [e 27 (by omega)]; exact q3, fun p p0 p1 => ?_, fun a a0 a1 => by rw [e _ (by omega)]; exact q5 a a0 a1⟩, by rw [e 34 (by omega), e 29 (by omega)]; exact q34, by rw [e 29 (by omega)]; exact q29, fun k k0 k1 => ?_, fun k k0 k1 => by rw [e _ (by omega)]; exact qAw k k0 k1, fun i i0 i1 => by rw [e _ (by omega)]; exact qN i i0 i1, fun a a0 a1 => ?_⟩
        · rw [e 27 (by omega)] at p1
          obtain ⟨r0, r1, r⟩ := q4 p p0 p1
          refine ⟨r0, r1, ?_⟩
          rw [e (43 + p) (by omega), e (49 + p) (by omega), e (55 + p) (by omega)]
          exact r
        · by_cases q : k = f
          · rw [q, up_eq]; exact c2
          · rw [e _ (by omega)]; exact qWt k k0 k1
        · rw [e (16 + a) (by omega), e (1 + a) (by omega), e (6 + a) (by omega), e (11 + a) (by omega)]
          exact qA a a0 a1
      have okp := okP_w (K_p z) okw (fun i hi => e i (by omega)) (by rw [e 0 (by omega)]; exact (K_p z).2.2.2.2.2.2.2.2.2.2)
      obtain ⟨z1, z2⟩ := K_now (s' := up s (35 + f) n) z f1 (fun a q => by omega) rfl ⟨⟨by rw [e 33 (by omega), e 0 (by omega), AWAYS_cg (e 27 (by omega)) o27.1 (fun k k0 k1 => e _ (by omega))]; exact fr_o f1 x1 (by omega), ⟨up W f n, hs_eq, hWn⟩, qIR_cg (qIR_fr x3 f1 (by decide) (by omega)) (fun i i0 i1 => e _ (by omega)), by rw [e 30 (by omega)]; exact qRW_cg (qRW_fr x4 f1 (by decide) (by omega) (by omega) (by omega)) (fun i i0 i1 => e _ (by omega)) (fun i i0 i1 => e _ (by omega)), by rw [e 31 (by omega)]; exact qRW_cg (qRW_fr x5 f1 (by decide) (by omega) (by omega) (by omega)) (fun i i0 i1 => e _ (by omega)) (fun i i0 i1 => e _ (by omega)), by rw [e 32 (by omega)]; exact qRW_cg (qRW_fr x6 f1 (by decide) (by omega) (by omega) (by omega)) (fun i i0 i1 => e _ (by omega)) (fun i i0 i1 => e _ (by omega)), qVL_fr x7 f1 (fun k hk => by omega), c1, c2', c3, c4, fr_o f1 x8 (by omega)⟩, qWY_cg (qWY_fr y f1 (okW_k ok) ⟨o27.2, o28.2⟩ (fun k k1 k4 => by omega) (fun k _ _ => by have := A.2 (0 + k); omega) (fun k _ _ _ => by have := A.2 (0 + k); omega) (fun i k i0 i1 _ => by have := K_vn z i i0 i1; omega)) ⟨o27.2, o28.2, o29.2⟩ (fun i hi => e i (by omega))⟩ okp (e 29 (by omega))
      refine ⟨Bs, ad, vn, vi, vt, st, _, z1, z2, ⟨Nat.le_refl _, by rw [hs_1]; omega⟩, ⟨Nat.le_refl _, by rw [hs_2]; omega⟩, fun Q => ?_⟩
      rw [e12, ← hWf]
      simp (disch := omega) only [KK, Int.reduceEq, not_false_iff, ↓reduceIte, ↓if_pos, ↓if_neg, xt_o, true_and, nlO_i, nlO_n, nlO_r, List.length_nil, List.length_cons, Nat.reduceAdd, Nat.reduceLeDiff, Nat.zero_le, U12, hx, zn, x2, hI, hD, GX12, GX11, xa_i, xs_i]
    · have hD := fun (K : KQ) => (hD K).trans (by rw [if_neg c2])
      rw [if_neg c2, if_neg (fun q => c2 q.2)]
      refine cQ_S (cQ_id z (fun Q => ?_))
      rw [e12]
      simp (disch := omega) only [KK, Int.reduceEq, not_false_iff, ↓reduceIte, ↓if_pos, ↓if_neg, xt_o, true_and, nlO_i, nlO_n, nlO_r, List.length_nil, List.length_cons, Nat.reduceAdd, Nat.reduceLeDiff, Nat.zero_le, U12, hI, hD]
  · have hI := fun (K : KQ) => (hI K).trans (by rw [if_neg (by omega)])
    rw [if_neg c, if_neg (fun q => c q.1)]
    refine cQ_S (cQ_id z (fun Q => ?_))
    rw [e12]
    simp (disch := omega) only [KK, Int.reduceEq, not_false_iff, ↓reduceIte, ↓if_pos, ↓if_neg, xt_o, true_and, nlO_i, nlO_n, nlO_r, List.length_nil, List.length_cons, Nat.reduceAdd, Nat.reduceLeDiff, Nat.zero_le, U12, hI]
theorem A_away (z : qK G Bs ad vn vi vt s si st hi rn bd h) {p v : Int} (hv : v = 0 ∨ v = 1) : cS G (d + 4) 11 [vI p, vI v] (vI (rAWAY s p)) (tAWAY s p v) si hi rn bd h := by
  have hx := K_x z
  have zn := (K_n z).1.1
  have ok := (K_p z).1
  have A := K_A z
  have o27 := ok.1.2.2.1
  have hH := fun (K : KQ) => K_has (d := d + 1) (Q := K) z (i := p)
  unfold rAWAY tAWAY
  by_cases c : 0 ≤ p ∧ p < s 27
  · have hH := fun (K : KQ) => (hH K).trans (by rw [if_pos c])
    rw [if_pos c, if_pos c]
    have eV : eqV s (up s (21 + p) v) := fun k hk => up_ne (by omega)
    have h01 : ∀ k, 0 ≤ k → k < 6 → up s (21 + p) v (21 + k) = 0 ∨ up s (21 + p) v (21 + k) = 1 := fun k k0 k1 => by
      by_cases e : k = p
      · rw [e, up_eq]; exact hv
      · rw [up_ne (by omega)]; exact ok.2.2.2.2.1 k k0 k1
    have eA := AWAYS_up ok.2.2.2.2.1 o27 c.1 c.2 hv
    have hsa := fun (K : KQ) => c_setAway (G := G) (d := d + 2) (Q := K) zn (n := p) (v := v)
    have eA2 : (if ¬ v = 0 then iBin 4 (AWAYS s) (iBin 6 1 p) else iBin 3 (AWAYS s) (iBin 5 (iBin 6 1 p) (-1))) = AWAYS (up s (21 + p) v) := by
      rw [eA]
      rcases hv with q | q
      · rw [if_neg (fun z => z q), if_neg (by omega)]
      · rw [if_pos (by omega), if_pos q]
    rw [eA2] at hsa
    have f1 : qFr G.1 Bs (fun q => q = G.1 + 1) h (hset h (G.1 + 1) (wO (G.1 + 1) (s 33) (s 0) (AWAYS (up s (21 + p) v)))) := qFr_set rfl zn
    have y1 : qW G Bs ad 0 (G.1 + 1) vn (up s (21 + p) v) _ := qW_wob (K_n z) ok A (by omega) f1 (by rw [hs_eq, eV 33 (by omega), eV 0 (by omega)]) (fun k _ _ hk => eV k hk)
    have okp := okP_w (K_p z) (okW_V eV h01 ok) (fun i hi => eV i (by omega)) (by rw [eV 0 (by omega)]; exact (K_p z).2.2.2.2.2.2.2.2.2.2)
    obtain ⟨z1, z2⟩ := K_now z f1 (fun a q => by omega) rfl y1 okp (eV 29 (by omega))
    refine ⟨Bs, ad, vn, vi, vt, st, _, z1, z2, ⟨Nat.le_refl _, by rw [hs_1]; omega⟩, ⟨Nat.le_refl _, by rw [hs_2]; omega⟩, fun Q => ?_⟩
    have hIA := fun (K : KQ) => c_isAway (G := G) (d := d + 2) (Q := K) zn (i := p)
    have hbt := (AWAYS_bt ok.2.2.2.2.1 o27).2 p c.1 (by omega)
    rw [if_pos c.2] at hbt
    rw [e11]
    rcases ok.2.2.2.2.1 p c.1 (by omega) with q | q
    · have hIA := fun (K : KQ) => (hIA K).trans (by rw [hbt, q, if_neg (by decide)])
      rw [q]
      simp (disch := omega) only [KK, Int.reduceEq, not_false_iff, ↓reduceIte, ↓if_pos, ↓if_neg, xt_o, true_and, nlO_i, nlO_n, nlO_r, List.length_nil, List.length_cons, Nat.reduceAdd, Nat.reduceLeDiff, Nat.zero_le, U11, hx, zn, hH, hIA, hsa, GX12, VS11]
    · have hIA := fun (K : KQ) => (hIA K).trans (by rw [hbt, q, if_pos rfl])
      rw [q]
      simp (disch := omega) only [KK, Int.reduceEq, not_false_iff, ↓reduceIte, ↓if_pos, ↓if_neg, xt_o, true_and, nlO_i, nlO_n, nlO_r, List.length_nil, List.length_cons, Nat.reduceAdd, Nat.reduceLeDiff, Nat.zero_le, U11, hx, zn, hH, hIA, hsa, GX12, VS11]
  · have hH := fun (K : KQ) => (hH K).trans (by rw [if_neg c])
    rw [if_neg c, if_neg c]
    refine cQ_S (cQ_id z (fun Q => ?_))
    rw [e11]
    simp (disch := omega) only [KK, Int.reduceEq, not_false_iff, ↓reduceIte, ↓if_pos, ↓if_neg, xt_o, true_and, nlO_i, nlO_n, nlO_r, List.length_nil, List.length_cons, Nat.reduceAdd, Nat.reduceLeDiff, Nat.zero_le, U11, hx, zn, hH, GX12, VS11]
theorem A_begin (z : qK G Bs ad vn vi vt s si st hi rn bd h) {a x : Int} : cS G (d + 5) 17 [vI a, vI x] (vI (rBEGIN s a x)) (tBEGIN s a x) si hi rn bd h := by
  have hx := K_x z
  have zn := (K_n z).1.1
  have ok := (K_p z).1
  have A := K_A z
  have o28 := ok.1.2.1
  have hH := fun (K : KQ) => K_hask (d := d + 2) (Q := K) z (i := a)
  have hF := fun (K : KQ) => c_areFacts (G := G) (d := d + 3) (h := h) (Q := K) (f := x)
  unfold rBEGIN tBEGIN
  by_cases c : 0 ≤ a ∧ a < s 28
  · have hH := fun (K : KQ) => (hH K).trans (by rw [if_pos c])
    rw [if_pos c]
    by_cases c2 : 0 ≤ x ∧ x ≤ 255
    · have hF := fun (K : KQ) => (hF K).trans (by rw [if_pos c2])
      rw [if_pos c2, if_pos ⟨c, c2⟩]
      have a5 : 0 ≤ a ∧ a < 5 := ⟨c.1, by omega⟩
      have hk : h.2.2 (ad (0 + 10 + a)) = some (cObj 1 [vI (s (1 + a)), vI (s (6 + a)), vI (s (11 + a)), vI (s (16 + a))]) := (K_n z).2.2.2.2.2.1 _ c.1 c.2
      obtain ⟨h1, hh1⟩ : ∃ h1, h1 = hset h (ad (0 + 10 + a)) (cObj 1 [vI x, vI (s (6 + a)), vI (s (11 + a)), vI (s (16 + a))]) := ⟨_, rfl⟩
      have hk1 : h1.2.2 (ad (0 + 10 + a)) = some (cObj 1 [vI x, vI (s (6 + a)), vI (s (11 + a)), vI (s (16 + a))]) := by rw [hh1, hs_eq]
      have hsa := fun (K : KQ) => c_startAnew (G := G) (d := d + 3) (Q := K) hk1
      obtain ⟨h2, hh2⟩ : ∃ h2, h2 = hset h1 (ad (0 + 10 + a)) (cObj 1 [vI x, vI 0, vI 0, vI 0]) := ⟨_, rfl⟩
      rw [← hh2] at hsa
      have f1 : qFr G.1 Bs (fun q => q = ad (0 + 10 + a)) h h2 := by
        rw [hh2]
        exact qFr_tr (by rw [hh1]; exact qFr_set rfl hk) (qFr_set rfl hk1)
      have hc : h2.1 = h.1 ∧ h2.2.1 = h.2.1 := by rw [hh2, hh1]; exact ⟨rfl, rfl⟩
      have hl : lowS s (up (BEGs s a) (1 + a) x) := fun i hi => by rw [up_ne (by omega)]; exact BEGs_low a5 i hi
      obtain ⟨q1, q2, q3, q4⟩ := BEGs_at (t := s) a5
      have t1 : up (BEGs s a) (1 + a) x (1 + a) = x := up_eq
      have t2 : up (BEGs s a) (1 + a) x (6 + a) = 0 := (up_ne (by omega)).trans q2
      have t3 : up (BEGs s a) (1 + a) x (11 + a) = 0 := (up_ne (by omega)).trans q3
      have t4 : up (BEGs s a) (1 + a) x (16 + a) = 0 := (up_ne (by omega)).trans q4
      have oth : ∀ k, 0 ≤ k → k < 5 → ¬ k = a → up (BEGs s a) (1 + a) x (1 + k) = s (1 + k) ∧ up (BEGs s a) (1 + a) x (6 + k) = s (6 + k) ∧ up (BEGs s a) (1 + a) x (11 + k) = s (11 + k) ∧ up (BEGs s a) (1 + a) x (16 + k) = s (16 + k) := fun k k0 k1 e => by
        obtain ⟨u1, u2, u3, u4⟩ := BEGs_oth (t := s) k k0 k1 a5 e
        rw [up_ne (by omega), up_ne (by omega), up_ne (by omega), up_ne (by omega)]
        exact ⟨u1, u2, u3, u4⟩
      have y1 : qW G Bs ad 0 (G.1 + 1) vn (up (BEGs s a) (1 + a) x) h2 := qW_ask A (by omega) (K_n z) ok c f1 hl oth (by
        unfold qAK
        rw [t1, t2, t3, t4, hh2, hs_eq])
      have okw : okW (up (BEGs s a) (1 + a) x) := okW_low hl ok (fun k k0 k1 => by
        by_cases e : k = a
        · subst e
          rw [t1, t2, t3, t4]
          exact ⟨Or.inl rfl, c2, by omega, fun _ => by omega, by omega, by omega⟩
        · obtain ⟨u1, u2, u3, u4⟩ := oth k k0 k1 e
          have hc := ok.2.2.2.2.2.2 k k0 k1
          have hp := ok.1.2.2.2.2 k k0 k1
          rw [u1, u2, u3, u4]
          exact ⟨hc.1, hc.2.1, hc.2.2.1, hc.2.2.2.1, hp, hc.2.2.2.2⟩)
      have okp := okP_w (K_p z) okw (fun i hi => hl i (by omega)) (by rw [hl 0 (by omega)]; exact (K_p z).2.2.2.2.2.2.2.2.2.2)
      have oxo : qXo (fun q => q = ad (0 + 10 + a)) h := xo_1 hk (by omega)
      have nf : ∀ q, q < G.1 + 79 → ¬ q = ad (0 + 10 + a) := fun q hq e => by have := A.2 (0 + 10 + a); omega
      have nd : ∀ i, 25 ≤ i → ¬ ad i = ad (0 + 10 + a) := fun i hi e => by have := A.1 _ _ e; omega
      obtain ⟨z1, z2⟩ := K_gen z (qG_mo (K_G z) (by omega)) f1 (fun q hq => by have := A.2 (0 + 10 + a); omega) (by omega) y1 (qW_fo (K_i z) f1 (okW_k (K_pi z).1) oxo (nf _ (by omega)) (nf _ (by omega)) (fun k _ _ => nd _ (by omega)) (fun k _ _ => nd _ (by omega))) (qW_fo (K_t z) f1 (okW_k (K_pt z)) oxo (nf _ (by omega)) (nf _ (by omega)) (fun k _ _ => nd _ (by omega)) (fun k _ _ => nd _ (by omega))) okp (by rw [hl 29 (by omega)]; exact K_vn z)
      refine ⟨Bs, ad, vn, vi, vt, st, h2, z1, z2, by omega, by omega, fun Q => ?_⟩
      have hgt := fun (K : KQ) => ll_get (G := G) (d := d + 1) (Q := K) (K_n z).2.2.1 (i := a) c
      have htg := fun (K : Nat → Prop) => ll_tag (K_n z).2.2.1 (K := K)
      rw [e17]
      simp (disch := omega) only [u17_0, u17_1, u17_4, u17_5, u17_8, u17_13, u17_14, u17_17, u17_23, u17_24, u17_27, u17_30, u17_31, u17_34, u17_37, u17_38, u17_39, u17_42, u17_44, u17_45, u17_46, KK, hx, zn, hH, hF, hgt, htg, hk, OKS, GX12, GX11, GX1, PX1, VS11, VS0, xt_o, ↓if_pos, ↓if_neg, nlO_i, nlO_n, nlO_r, true_and, Int.reduceEq, not_false_iff, ↓reduceIte, List.length_nil, List.length_cons, Nat.reduceAdd, Nat.reduceLeDiff, Nat.zero_le]
      rw [← hh1]
      simp only [u17_49, u17_50, u17_53, u17_55, KK, hk1, hsa, VS1, xt_o, true_and, List.length_nil, List.length_cons, Nat.reduceAdd, Nat.reduceLeDiff, Nat.zero_le]
    · have hF := fun (K : KQ) => (hF K).trans (by rw [if_neg c2])
      rw [if_neg c2, if_neg (fun q => c2 q.2)]
      refine cQ_S (cQ_id z (fun Q => ?_))
      rw [e17]
      simp (disch := omega) only [KK, Int.reduceEq, not_false_iff, ↓reduceIte, ↓if_pos, ↓if_neg, xt_o, true_and, nlO_i, nlO_n, nlO_r, List.length_nil, List.length_cons, Nat.reduceAdd, Nat.reduceLeDiff, Nat.zero_le, U17, hx, zn, hH, hF, GX12, VS11]
  · have hH := fun (K : KQ) => (hH K).trans (by rw [if_neg c])
    rw [if_neg c, if_neg (fun q => c q.1)]
    refine cQ_S (cQ_id z (fun Q => ?_))
    rw [e17]
    simp (disch := omega) only [KK, Int.reduceEq, not_false_iff, ↓reduceIte, ↓if_pos, ↓if_neg, xt_o, true_and, nlO_i, nlO_n, nlO_r, List.length_nil, List.length_cons, Nat.reduceAdd, Nat.reduceLeDiff, Nat.zero_le, U17, hx, zn, hH, GX12, VS11]
theorem A_pass (z : qK G Bs ad vn vi vt s si st hi rn bd h) {n : Int} : cS G (d + 9) 19 [vI n] (vI (rPASS s n)) (tPASS s n) si hi rn bd h := by
  have hx := K_x z
  have zn := (K_n z).1.1
  have ok := (K_p z).1
  have A := K_A z
  have hd := (K_p z).2.2.2.2.2.2.2.2.2.2
  have hd0 := ok.1.1.2.2.2.2.2.1
  have o28 := ok.1.2.1
  have hF := fun (K : KQ) => c_areDays (G := G) (d := d + 7) (h := h) (Q := K) (f := n)
  unfold rPASS tPASS
  by_cases c : 0 ≤ n ∧ n ≤ 60
  · have hF := fun (K : KQ) => (hF K).trans (by rw [if_pos c])
    have had := ar_add (a := s 0) (b := n) (by omega)
    rw [if_pos c]
    by_cases c2 : s 0 + n ≤ 9999
    · rw [if_pos c2, if_pos ⟨c, c2⟩]
      obtain ⟨h1, y1, f1, k1, w1⟩ := c_daysGo (gb := G.1) (d := d) A (by omega) (K_n z) ok (n := n) (by omega) (by omega)
      have ok2 := okW_GOESn n.toNat ok (by omega)
      have eL := GOESn_low n.toNat ok.1 (by omega)
      have e0 := GOESn_d n.toNat s
      have oxo : qXo (qAs ad 0 (G.1 + 1) (s 28)) h := fun a ha => by
        rcases ha with e | ⟨k, k0, k1, e⟩
        · exact ⟨11, _, by rw [e]; exact zn, by omega, by omega, by omega⟩
        · exact ⟨1, _, by rw [e]; exact (K_n z).2.2.2.2.2.1 k k0 k1, by omega, by omega, by omega⟩
      have nf : ∀ a, a < G.1 + 79 → ¬ a = G.1 + 1 → ¬ qAs ad 0 (G.1 + 1) (s 28) a := fun a ha hn q => by
        rcases q with e | ⟨k, k0, k1, e⟩
        · exact hn e
        · have := A.2 (0 + 10 + k); omega
      have nd : ∀ i, 25 ≤ i → ¬ qAs ad 0 (G.1 + 1) (s 28) (ad i) := fun i hi q => by
        rcases q with e | ⟨k, k0, k1, e⟩
        · have := A.2 i; omega
        · have := A.1 _ _ e; omega
      have okp := okP_w (K_p z) ok2 (fun i hi => eL i (by omega)) (by rw [e0]; omega)
      obtain ⟨z1, z2⟩ := K_gen z (qG_mo (K_G z) (by omega)) f1 (fun q hq => by
        rcases hq with e | ⟨k, k0, k1, e⟩
        · omega
        · have := A.2 (0 + 10 + k); omega) (by omega) y1 (qW_fo (K_i z) f1 (okW_k (K_pi z).1) oxo (nf _ (by omega) (by omega)) (nf _ (by omega) (by omega)) (fun k _ _ => nd _ (by omega)) (fun k _ _ => nd _ (by omega))) (qW_fo (K_t z) f1 (okW_k (K_pt z)) oxo (nf _ (by omega) (by omega)) (nf _ (by omega) (by omega)) (fun k _ _ => nd _ (by omega)) (fun k _ _ => nd _ (by omega))) okp (by rw [eL 29 (by omega)]; exact K_vn z)
      have hx1 := K_x z1
      have zn1 := (K_n z1).1.1
      rw [e0] at zn1
      refine ⟨Bs, ad, vn, vi, vt, st, h1, z1, z2, by omega, by omega, fun Q => ?_⟩
      rw [show s 0 + n = s 0 + (n.toNat : Int) by omega, e19]
      simp (disch := omega) only [KK, Int.reduceEq, not_false_iff, ↓reduceIte, ↓if_pos, ↓if_neg, xt_o, true_and, nlO_i, nlO_n, nlO_r, List.length_nil, List.length_cons, Nat.reduceAdd, Nat.reduceLeDiff, Nat.zero_le, U19, hx, zn, hF, had, w1, hx1, zn1, GX12, GX11, VS11]
    · rw [if_neg c2, if_neg (fun q => c2 q.2)]
      refine cQ_S (cQ_id z (fun Q => ?_))
      rw [e19]
      simp (disch := omega) only [KK, Int.reduceEq, not_false_iff, ↓reduceIte, ↓if_pos, ↓if_neg, xt_o, true_and, nlO_i, nlO_n, nlO_r, List.length_nil, List.length_cons, Nat.reduceAdd, Nat.reduceLeDiff, Nat.zero_le, U19, hx, zn, hF, had, GX12, GX11]
  · have hF := fun (K : KQ) => (hF K).trans (by rw [if_neg c])
    rw [if_neg c, if_neg (fun q => c q.1)]
    refine cQ_S (cQ_id z (fun Q => ?_))
    rw [e19]
    simp (disch := omega) only [KK, Int.reduceEq, not_false_iff, ↓reduceIte, ↓if_pos, ↓if_neg, xt_o, true_and, nlO_i, nlO_n, nlO_r, List.length_nil, List.length_cons, Nat.reduceAdd, Nat.reduceLeDiff, Nat.zero_le, U19, hF]
end U4
