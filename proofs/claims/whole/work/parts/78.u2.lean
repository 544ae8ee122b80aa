/-! what was said, planned, booked; weights, signs -/
def sSAY (s : Int → Int) (x y : Int) : Int → Int := up (up (up s (85 + s 30) x) (90 + s 30) y) 30 (s 30 + 1)
def sPLAN (s : Int → Int) (x y : Int) : Int → Int := up (up (up s (95 + s 31) x) (103 + s 31) y) 31 (s 31 + 1)
def sBOOK (s : Int → Int) (x y : Int) : Int → Int := up (up (up s (111 + s 32) x) (119 + s 32) y) 32 (s 32 + 1)
def sFEED (s : Int → Int) (x : Int) : Int → Int := up (up s (127 + s 33) x) 33 (s 33 + 1)
def rSAY (s : Int → Int) (x y : Int) : Int := if x = -1 then 0 else if (0 ≤ x ∧ x ≤ 255) ∧ 0 ≤ y ∧ y ≤ 255 then (if s 30 = 5 then -4 else s 30 + 1) else -2
def tSAY (s : Int → Int) (x y : Int) : Int → Int := if x = -1 then up s 30 0 else if ((0 ≤ x ∧ x ≤ 255) ∧ 0 ≤ y ∧ y ≤ 255) ∧ ¬ s 30 = 5 then sSAY s x y else s
def rBOOK (s : Int → Int) (a x : Int) : Int := if a = -1 then 0 else if 0 ≤ a ∧ a < s 28 then (if 0 ≤ x ∧ x ≤ 255 then (if s 32 = 8 then -4 else s 32 + 1) else -2) else -1
def tBOOK (s : Int → Int) (a x : Int) : Int → Int := if a = -1 then up s 32 0 else if ((0 ≤ a ∧ a < s 28) ∧ 0 ≤ x ∧ x ≤ 255) ∧ ¬ s 32 = 8 then sBOOK s a x else s
abbrev plB (s : Int → Int) (w n : Int) : Prop := (0 ≤ w ∧ w ≤ 3) ∧ (w = 1 ∨ w = 2 → 0 ≤ n ∧ n < s 27) ∧ (w = 3 → 0 ≤ n ∧ n < s 28)
def rPLAN (s : Int → Int) (w n : Int) : Int := if w = -1 then 0 else if plB s w n then (if s 31 = 8 then -4 else s 31 + 1) else -1
def tPLAN (s : Int → Int) (w n : Int) : Int → Int := if w = -1 then up s 31 0 else if plB s w n ∧ ¬ s 31 = 8 then sPLAN s w n else s
def rFEED (s : Int → Int) (x : Int) : Int := if 0 ≤ x ∧ x ≤ 127 then (if s 33 = 100 then -4 else s 33 + 1) else -2
def tFEED (s : Int → Int) (x : Int) : Int → Int := if (0 ≤ x ∧ x ≤ 127) ∧ ¬ s 33 = 100 then sFEED s x else s
def rWEIGH (s : Int → Int) (f n : Int) : Int := if 0 ≤ f ∧ f ≤ 7 then (if 0 ≤ n ∧ n ≤ 9 then s (35 + f) else -2) else -1
def tWEIGH (s : Int → Int) (f n : Int) : Int → Int := if (0 ≤ f ∧ f ≤ 7) ∧ 0 ≤ n ∧ n ≤ 9 then up s (35 + f) n else s
theorem okP_hi {s s' : Int → Int} (e : ∀ i, (i < 30 ∨ (34 ≤ i ∧ i < 85) ∨ 227 ≤ i) → s' i = s i) (okp : okP s) (h : (0 ≤ s' 30 ∧ s' 30 ≤ 5) ∧ (0 ≤ s' 31 ∧ s' 31 ≤ 8) ∧ (0 ≤ s' 32 ∧ s' 32 ≤ 8) ∧ (0 ≤ s' 33 ∧ s' 33 ≤ 100) ∧ (∀ i, 0 ≤ i → i < s' 30 → 0 ≤ s' (85 + i) ∧ s' (85 + i) ≤ 255) ∧ (∀ i, 0 ≤ i → i < s' 31 → (0 ≤ s' (95 + i) ∧ s' (95 + i) ≤ 3) ∧ (s' (95 + i) = 1 ∨ s' (95 + i) = 2 → 0 ≤ s' (103 + i) ∧ s' (103 + i) < s 27) ∧ (s' (95 + i) = 3 → 0 ≤ s' (103 + i) ∧ s' (103 + i) < s 28)) ∧ (∀ i, 0 ≤ i → i < s' 32 → 0 ≤ s' (111 + i) ∧ s' (111 + i) < s 28) ∧ (∀ i, 0 ≤ i → i < s' 33 → 0 ≤ s' (127 + i) ∧ s' (127 + i) ≤ 127)) : okP s' := by
  obtain ⟨o0, -, -, -, -, -, -, -, -, o9, o10⟩ := okp
  obtain ⟨h1, h2, h3, h4, h5, h6, h7, h8⟩ := h
  refine ⟨okW_hi e o0, h1, h2, h3, h4, h5, ?_, ?_, h8, ?_, by rw [e 0 (by omega)]; exact o10⟩
  · rw [e 27 (by omega), e 28 (by omega)]; exact h6
  · rw [e 28 (by omega)]; exact h7
  · rw [e 29 (by omega)]
    intro i i0 i1
    have h29 := o0.2.2.1
    have q := o9 i i0 i1
    rw [e (232 + i) (by omega)]
    refine ⟨q.1, q.2.1, ?_⟩
    unfold stepsOf
    rw [e (232 + i) (by omega), seg_cg _ _ (fun k hk hk2 => e k (by omega))]
    exact q.2.2
section U2
variable {G : MG} {d : Nat} {Q : KQ} {gb : Nat} {Bs X : Nat → Prop} {ad ad' : Int → Nat} {b : Int} {w lo : Nat} {vd vn vn' vi vt : Int → Nat} {s s' si st bd : Int → Int} {hi rn : Int} {h h' : MH}
/-- what was said, planned or booked in now is changed -/
theorem K_rows (z : qK G Bs ad vn vi vt s si st hi rn bd h) (f : qFr G.1 Bs (fun q => G.1 + 7 ≤ q ∧ q < G.1 + 16) h h') (hc : h'.1 = h.1) (e : ∀ i, (i < 30 ∨ (33 ≤ i ∧ i < 85) ∨ 127 ≤ i) → s' i = s i) (r1 : qRW h' (G.1 + 1 + 6) 5 (s' 30) (fun i => s' (85 + i)) (fun i => s' (90 + i))) (r2 : qRW h' (G.1 + 1 + 9) 8 (s' 31) (fun i => s' (95 + i)) (fun i => s' (103 + i))) (r3 : qRW h' (G.1 + 1 + 12) 8 (s' 32) (fun i => s' (111 + i)) (fun i => s' (119 + i))) (okp : okP s') : qK G Bs ad vn vi vt s' si st hi rn bd h' ∧ qFr G.1 Bs (X0 G.1) h h' := by
  have ok := (K_p z).1
  have A := K_A z
  obtain ⟨⟨x1, x2, x3, x4, x5, x6, x7, c1, c2, c3, c4, x8⟩, y⟩ := K_n z
  refine K_now z f (fun a q => by omega) hc ⟨⟨?_, ?_, ?_, r1, r2, r3, qVL_fr x7 f (fun k hk => by omega), c1, c2, c3, c4, fr_o f x8 (by omega)⟩, ?_⟩ okp (e 29 (by omega))
  · rw [e 33 (by omega), e 0 (by omega), AWAYS_cg (e 27 (by omega)) ok.1.2.2.1.1 (fun k k0 k1 => e _ (by have := ok.1.2.2.1; omega))]
    exact fr_o f x1 (by omega)
  · exact qIR_cg (qIR_fr x2 f (by decide) (by omega)) (fun i i0 i1 => e _ (by omega))
  · exact qIR_cg (qIR_fr x3 f (by decide) (by omega)) (fun i i0 i1 => e _ (by omega))
  · have o27 := ok.1.2.2.1
    have o28 := ok.1.2.1
    have o29 := ok.2.2.1
    exact qWY_cg (qWY_fr y f (okW_k ok) ⟨o27.2, o28.2⟩ (fun k k1 k4 => by omega) (fun k _ _ => by have := A.2 (0 + k); omega) (fun k _ _ _ => by have := A.2 (0 + k); omega) (fun i k i0 i1 _ => by have := K_vn z i i0 i1; omega)) ⟨o27.2, o28.2, o29.2⟩ (fun i hi => e i (by omega))
theorem A_say (z : qK G Bs ad vn vi vt s si st hi rn bd h) {x y : Int} : cS G (d + 5) 26 [vI x, vI y] (vI (rSAY s x y)) (tSAY s x y) si hi rn bd h := by
  have hx := K_x z
  have zn := (K_n z).1.1
  have okp := K_p z
  obtain ⟨p0, p30, p31, p32, p33, p85, p95, p111, p127, p9, p10⟩ := okp
  have x4 := (K_n z).1.2.2.2.1
  have x5 := (K_n z).1.2.2.2.2.1
  have x6 := (K_n z).1.2.2.2.2.2.1
  have htg := fun (K : Nat → Prop) => rw_tag x4 (K := K)
  have hF := fun (i : Int) (K : KQ) => c_areFacts (G := G) (d := d + 3) (h := h) (Q := K) (f := i)
  have hfu := fun (K : KQ) => c_isFull (G := G) (d := d + 3) (Q := K) x4
  unfold rSAY tSAY
  by_cases c : x = -1
  · rw [if_pos c, if_pos c]
    have e : ∀ i, ¬ i = 30 → up s 30 0 i = s i := fun i hi => up_ne hi
    have e30 : up s 30 0 30 = 0 := up_eq
    obtain ⟨h1, t1, t2, t3, t4⟩ := c_rclear (G := G) (gb := G.1) (Bs := Bs) (X := fun q => q = G.1 + 1 + 6) (d := d + 3) x4 rfl (fun i => up s 30 0 (85 + i)) (fun i => up s 30 0 (90 + i))
    obtain ⟨z1, z2⟩ := K_rows (s' := up s 30 0) z (qFr_wk t2 (fun a q => by omega)) t3.1 (fun i hi => e i (by omega)) (by rw [e30]; exact t1) (by
      rw [e 31 (by omega)]
      exact qRW_cg (qRW_fr x5 t2 (by decide) (by omega) (by omega) (by omega)) (fun i i0 i1 => e _ (by omega)) (fun i i0 i1 => e _ (by omega))) (by
      rw [e 32 (by omega)]
      exact qRW_cg (qRW_fr x6 t2 (by decide) (by omega) (by omega) (by omega)) (fun i i0 i1 => e _ (by omega)) (fun i i0 i1 => e _ (by omega))) (okP_hi (fun i hi => e i (by omega)) (K_p z) ⟨by rw [e30]; omega, by rw [e 31 (by omega)]; exact p31, by rw [e 32 (by omega)]; exact p32, by rw [e 33 (by omega)]; exact p33, fun i i0 i1 => by rw [e30] at i1; omega, fun i i0 i1 => by rw [e 31 (by omega)] at i1; rw [e (95 + i) (by omega), e (103 + i) (by omega)]; exact p95 i i0 i1, fun i i0 i1 => by rw [e 32 (by omega)] at i1; rw [e _ (by omega)]; exact p111 i i0 i1, fun i i0 i1 => by rw [e 33 (by omega)] at i1; rw [e _ (by omega)]; exact p127 i i0 i1⟩)
    refine ⟨Bs, ad, vn, vi, vt, st, h1, z1, z2, by omega, by omega, fun Q => ?_⟩
    rw [e26]
    simp (disch := omega) only [KK, Int.reduceEq, not_false_iff, ↓reduceIte, ↓if_pos, ↓if_neg, xt_o, true_and, nlO_i, nlO_n, nlO_r, List.length_nil, List.length_cons, Nat.reduceAdd, Nat.reduceLeDiff, Nat.zero_le, U26, c, hx, zn, htg, t4, GX12, GX11, VS7]
  · rw [if_neg c, if_neg c]
    by_cases c1 : 0 ≤ x ∧ x ≤ 255
    · have hF1 := fun (K : KQ) => (hF x K).trans (by rw [if_pos c1])
      by_cases c2 : 0 ≤ y ∧ y ≤ 255
      · have hF2 := fun (K : KQ) => (hF y K).trans (by rw [if_pos c2])
        rw [if_pos ⟨c1, c2⟩]
        by_cases c3 : s 30 = 5
        · have hfu := fun (K : KQ) => (hfu K).trans (by rw [if_pos (show ((5 : Nat) : Int) ≤ s 30 by omega)])
          rw [if_pos c3, if_neg (fun q => q.2 c3)]
          refine cQ_S (cQ_id z (fun Q => ?_))
          rw [e26]
          simp (disch := omega) only [KK, Int.reduceEq, not_false_iff, ↓reduceIte, ↓if_pos, ↓if_neg, xt_o, true_and, nlO_i, nlO_n, nlO_r, List.length_nil, List.length_cons, Nat.reduceAdd, Nat.reduceLeDiff, Nat.zero_le, U26, hx, zn, htg, hF1, hF2, hfu, GX12, GX11, VS7, true_or, or_true]
        · have hfu := fun (K : KQ) => (hfu K).trans (by rw [if_neg (show ¬ ((5 : Nat) : Int) ≤ s 30 by omega)])
          rw [if_neg c3, if_pos ⟨⟨c1, c2⟩, c3⟩]
          have e : ∀ i, ¬ i = 30 → ¬ i = 85 + s 30 → ¬ i = 90 + s 30 → sSAY s x y i = s i := fun i h1 h2 h3 => by
            unfold sSAY
            rw [up_ne h1, up_ne h3, up_ne h2]
          have e30 : sSAY s x y 30 = s 30 + 1 := up_eq
          have e85 : sSAY s x y (85 + s 30) = x := by unfold sSAY; rw [up_ne (by omega), up_ne (by omega), up_eq]
          have e90 : sSAY s x y (90 + s 30) = y := by unfold sSAY; rw [up_ne (by omega), up_eq]
          obtain ⟨h1, t1, t2, t3, t4⟩ := c_put (G := G) (gb := G.1) (Bs := Bs) (X := fun q => G.1 + 7 ≤ q ∧ q < G.1 + 10) (d := d + 3) (x := x) (y := y) x4 ⟨by omega, by omega⟩ (by omega) (f' := fun i => sSAY s x y (85 + i)) (g' := fun i => sSAY s x y (90 + i)) (fun i i0 i1 i2 => ⟨e _ (by omega) (by omega) (by omega), e _ (by omega) (by omega) (by omega)⟩) (fun _ => ⟨e85, e90⟩)
          obtain ⟨z1, z2⟩ := K_rows (s' := sSAY s x y) z (qFr_wk t2 (fun a q => by omega)) t3.1 (fun i hi => e i (by omega) (by omega) (by omega)) (by rw [e30]; exact t1) (by
            rw [e 31 (by omega) (by omega) (by omega)]
            exact qRW_cg (qRW_fr x5 t2 (by decide) (by omega) (by omega) (by omega)) (fun i i0 i1 => e _ (by omega) (by omega) (by omega)) (fun i i0 i1 => e _ (by omega) (by omega) (by omega))) (by
            rw [e 32 (by omega) (by omega) (by omega)]
            exact qRW_cg (qRW_fr x6 t2 (by decide) (by omega) (by omega) (by omega)) (fun i i0 i1 => e _ (by omega) (by omega) (by omega)) (fun i i0 i1 => e _ (by omega) (by omega) (by omega))) (okP_hi (fun i hi => e i (by omega) (by omega) (by omega)) (K_p z) ⟨by rw [e30]; omega, by rw [e 31 (by omega) (by omega) (by omega)]; exact p31, by rw [e 32 (by omega) (by omega) (by omega)]; exact p32, by rw [e 33 (by omega) (by omega) (by omega)]; exact p33, fun i i0 i1 => by
              rw [e30] at i1
              by_cases q : i = s 30
              · rw [q, e85]; exact c1
              · rw [e _ (by omega) (by omega) (by omega)]; exact p85 i i0 (by omega), fun i i0 i1 => by rw [e 31 (by omega) (by omega) (by omega)] at i1; rw [e (95 + i) (by omega) (by omega) (by omega), e (103 + i) (by omega) (by omega) (by omega)]; exact p95 i i0 i1, fun i i0 i1 => by rw [e 32 (by omega) (by omega) (by omega)] at i1; rw [e _ (by omega) (by omega) (by omega)]; exact p111 i i0 i1, fun i i0 i1 => by rw [e 33 (by omega) (by omega) (by omega)] at i1; rw [e _ (by omega) (by omega) (by omega)]; exact p127 i i0 i1⟩)
          refine ⟨Bs, ad, vn, vi, vt, st, h1, z1, z2, by omega, by omega, fun Q => ?_⟩
          rw [e26]
          simp (disch := omega) only [KK, Int.reduceEq, not_false_iff, ↓reduceIte, ↓if_pos, ↓if_neg, xt_o, true_and, nlO_i, nlO_n, nlO_r, List.length_nil, List.length_cons, Nat.reduceAdd, Nat.reduceLeDiff, Nat.zero_le, U26, hx, zn, htg, hF1, hF2, hfu, t4, GX12, GX11, VS7, true_or, or_true]
      · have hF2 := fun (K : KQ) => (hF y K).trans (by rw [if_neg c2])
        rw [if_neg (fun q => c2 q.2), if_neg (fun q => c2 q.1.2)]
        refine cQ_S (cQ_id z (fun Q => ?_))
        rw [e26]
        simp (disch := omega) only [KK, Int.reduceEq, not_false_iff, ↓reduceIte, ↓if_pos, ↓if_neg, xt_o, true_and, nlO_i, nlO_n, nlO_r, List.length_nil, List.length_cons, Nat.reduceAdd, Nat.reduceLeDiff, Nat.zero_le, U26, hx, zn, htg, hF1, hF2, GX12, GX11, VS7, true_or, or_true]
    · have hF1 := fun (K : KQ) => (hF x K).trans (by rw [if_neg c1])
      rw [if_neg (fun q => c1 q.1), if_neg (fun q => c1 q.1.1)]
      refine cQ_S (cQ_id z (fun Q => ?_))
      rw [e26]
      simp (disch := omega) only [KK, Int.reduceEq, not_false_iff, ↓reduceIte, ↓if_pos, ↓if_neg, xt_o, true_and, nlO_i, nlO_n, nlO_r, List.length_nil, List.length_cons, Nat.reduceAdd, Nat.reduceLeDiff, Nat.zero_le, U26, hx, zn, htg, hF1, GX12, GX11, VS7, true_or, or_true]
end U2
