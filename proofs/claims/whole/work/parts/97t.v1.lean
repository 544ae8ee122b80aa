/-! a new valley: what is read is such as told; rows; worlds -/
def gV (N : Int) (r : RV) : Prop := (0 ≤ r.2.1 ∧ r.2.1 ≤ N) ∧ (0 ≤ r.2.2.1 ∧ r.2.2.1 ≤ 99) ∧ (∀ x ∈ r.2.2.2.1, okC x) ∧ (((flF r.2.2.2.1 ++ r.2.2.2.2.map trC).length : Nat) : Int) ≤ r.2.1 ∧ (r.1 = true → r.2.2.2.2 = [])
section VG
variable {T : Int → Int} {N : Int}
theorem vs_g {p nv : Int} {c : RC} {cl : List (List Int × Int)} {f : Int → Int → List (List Int × Int) → RV} (p0 : 0 ≤ p) (hc : gC N p c) (hn : 0 ≤ nv ∧ nv ≤ 99) (hk : ∀ x ∈ cl, okC x) (hl : ((flF cl).length : Int) ≤ p) (hf : ∀ p' nv' cl', 0 ≤ p' → p' ≤ N → (0 ≤ nv' ∧ nv' ≤ 99) → (∀ x ∈ cl', okC x) → ((flF cl').length : Int) ≤ p' → gV N (f p' nv' cl')) : gV N (vsF c nv cl f) := by
  obtain ⟨⟨b1, b2⟩, g0, g1, g2⟩ := hc
  unfold vsF
  by_cases k0 : c.1 = 0
  · have g0 := g0 k0
    rw [if_pos k0]
    refine ⟨⟨?_, b2⟩, hn, hk, ?_, fun q => ff_t q⟩
    · show 0 ≤ c.2.1; omega
    · show (((flF cl ++ c.2.2.2.map trC).length : Nat) : Int) ≤ c.2.1
      rw [List.length_append, List.length_map]; omega
  · rw [if_neg k0]
    by_cases k1 : c.1 = 1
    · rw [if_pos k1]
      exact hf _ _ _ (by omega) b2 (g1 k1) hk (by omega)
    · have g2 := g2 k0 k1
      have g2a := g2.1
      rw [if_neg k1]
      refine hf _ _ _ (by omega) b2 hn (fun x hx => ?_) ?_
      · rw [List.mem_append, List.mem_singleton] at hx
        rcases hx with q | q
        · exact hk x q
        · rw [q]; exact g2.2
      · rw [flF_app, List.length_append, List.length_append, List.length_map, List.length_singleton]
        show ((((flF cl).length + (c.2.2.2.length + 1) : Nat)) : Int) ≤ c.2.1
        omega
theorem vl_g : ∀ (n : Nat) (p nv : Int) (cl : List (List Int × Int)), 0 ≤ p → p ≤ N → (0 ≤ nv ∧ nv ≤ 99) → (∀ x ∈ cl, okC x) → ((flF cl).length : Int) ≤ p → gV N (vlF T N n p nv cl) := by
  intro n
  induction n with
  | zero =>
    intro p nv cl p0 p1 hn hk hl
    refine ⟨⟨p0, p1⟩, hn, hk, ?_, fun _ => rfl⟩
    show (((flF cl ++ []).length : Nat) : Int) ≤ p
    rw [List.append_nil]; exact hl
  | succ n ih =>
    intro p nv cl p0 p1 hn hk hl
    rw [vlF]
    by_cases q : hrF T N p = 59
    · have lt := hr_lt (T := T) (N := N) (p := p) (by omega)
      rw [if_pos q]
      exact vs_g (by omega) (cl_g (p := p + 1) (by omega) (by omega)) hn hk (by omega) ih
    · rw [if_neg q]
      refine ⟨⟨p0, p1⟩, hn, hk, ?_, fun _ => rfl⟩
      show (((flF cl ++ []).length : Nat) : Int) ≤ p
      rw [List.append_nil]; exact hl
theorem va_g (h : 0 ≤ N) : gV N (vaF T N) := vs_g (Int.le_refl 0) (cl_g (Int.le_refl 0) h) ⟨by omega, by omega⟩ (fun x hx => absurd hx List.not_mem_nil) (Int.le_refl 0) (vl_g 9)
end VG
theorem wf_fl : ∀ (cl : List (List Int × Int)), (∀ x ∈ cl, okC x) → wfM (flF cl) 0 := by
  intro cl
  induction cl with
  | nil => intro _; trivial
  | cons x cl ih =>
    intro h
    have hx := h x List.mem_cons_self
    show wfM (x.1.map trC ++ x.2 :: flF cl) 0
    refine hx.2.1 _ 0 (by omega) ?_
    rw [wfM, if_neg (by have := hx.2.2.2; omega), if_neg (by have := hx.2.2.2; omega), if_neg (by have := hx.2.2.2; omega)]
    exact ⟨⟨rfl, hx.2.2.1⟩, ih (fun y hy => h y (List.mem_cons_of_mem _ hy))⟩
/-- a row that differs in the valley to come alone, the tape empty -/
theorem okP_va {s R : Int → Int} {a : Int} (ok : okP s) (ha : a = s 29 ∧ a ≤ 4) (e : ∀ k, ¬ k = 33 → ¬ k = 227 + a → ¬ k = 232 + a → (k < 237 + 140 * a ∨ 377 + 140 * a ≤ k) → R k = s k) (e33 : R 33 = 0) (en : 0 ≤ R (227 + a) ∧ R (227 + a) ≤ 99) : okP R := by
  obtain ⟨⟨⟨⟨o1, o2, o3, o4, o5, o6, o7⟩, d1, d2, d3, d4⟩, o34, o29, oWt, oAw, oN, oA⟩, p30, p31, p32, p33, p85, p95, p111, p127, p9, p10⟩ := ok
  have el : ∀ k, ¬ k = 33 → k < 227 → R k = s k := fun k h1 h2 => e k h1 (by omega) (by omega) (by omega)
  have eS : STEPM R = STEPM s := by
    unfold STEPM
    rw [el 34 (by omega) (by omega)]
    by_cases c : s 34 = -1
    · rw [if_pos c, if_pos c]
    · rw [if_neg c, if_neg c, e _ (by omega) (by omega) (by omega) (by omega)]
  have hS0 : s 34 = -1 → STEPM s = 0 := fun c => if_pos c
  have eg : ∀ i, 0 ≤ i → i < a → R (232 + i) = s (232 + i) ∧ stepsOf R i = stepsOf s i := fun i i0 i1 => by
    have q := p9 i i0 (by omega)
    have e2 : R (232 + i) = s (232 + i) := e _ (by omega) (by omega) (by omega) (by omega)
    refine ⟨e2, ?_⟩
    unfold stepsOf
    rw [e2]
    exact seg_cg _ _ (fun k hk hk2 => e k (by omega) (by omega) (by omega) (by omega))
  refine ⟨⟨⟨⟨by rw [el 34 (by omega) (by omega)]; exact o1, by rw [el 34 (by omega) (by omega)]; exact o2, by rw [eS]; exact o3, by rw [eS]; exact o4, ?_, by rw [el 0 (by omega) (by omega)]; exact o6, by rw [el 0 (by omega) (by omega)]; exact o7⟩, by rw [el 28 (by omega) (by omega)]; exact d1, by rw [el 27 (by omega) (by omega)]; exact d2, fun p p0 p1 => ?_, fun c c0 c1 => by rw [el _ (by omega) (by omega)]; exact d4 c c0 c1⟩, by rw [el 34 (by omega) (by omega), el 29 (by omega) (by omega)]; exact o34, by rw [el 29 (by omega) (by omega)]; exact o29, fun f f0 f1 => by rw [el _ (by omega) (by omega)]; exact oWt f f0 f1, fun k k0 k1 => by rw [el _ (by omega) (by omega)]; exact oAw k k0 k1, fun i i0 i1 => ?_, fun c c0 c1 => ?_⟩, by rw [el 30 (by omega) (by omega)]; exact p30, by rw [el 31 (by omega) (by omega)]; exact p31, by rw [el 32 (by omega) (by omega)]; exact p32, by rw [e33]; omega, ?_, ?_, ?_, ?_, ?_, by rw [el 0 (by omega) (by omega)]; exact p10⟩
  · rw [eS, el 34 (by omega) (by omega), seg_cg _ _ (fun k hk hk2 => e k (by
      by_cases c : s 34 = -1
      · have := hS0 c; omega
      · omega) (by
      by_cases c : s 34 = -1
      · have := hS0 c; omega
      · omega) (by
      by_cases c : s 34 = -1
      · have := hS0 c; omega
      · omega) (by
      by_cases c : s 34 = -1
      · have := hS0 c; omega
      · omega))]
    exact o5
  · rw [el 27 (by omega) (by omega)] at p1
    obtain ⟨r0, r1, r⟩ := d3 p p0 p1
    refine ⟨r0, r1, ?_⟩
    rw [el (43 + p) (by omega) (by omega), el (49 + p) (by omega) (by omega), el (55 + p) (by omega) (by omega)]
    exact r
  · by_cases c : i = a
    · rw [c]; exact en
    · rw [e (227 + i) (by omega) (by omega) (by omega) (by omega)]; exact oN i i0 i1
  · rw [el (16 + c) (by omega) (by omega), el (1 + c) (by omega) (by omega), el (6 + c) (by omega) (by omega), el (11 + c) (by omega) (by omega)]
    exact oA c c0 c1
  · rw [el 30 (by omega) (by omega)]
    intro i i0 i1
    rw [el _ (by omega) (by omega)]; exact p85 i i0 i1
  · rw [el 31 (by omega) (by omega), el 27 (by omega) (by omega), el 28 (by omega) (by omega)]
    intro i i0 i1
    rw [el (95 + i) (by omega) (by omega), el (103 + i) (by omega) (by omega)]
    exact p95 i i0 i1
  · rw [el 32 (by omega) (by omega), el 28 (by omega) (by omega)]
    intro i i0 i1
    rw [el _ (by omega) (by omega)]; exact p111 i i0 i1
  · rw [e33]
    intro i i0 i1
    omega
  · rw [el 29 (by omega) (by omega)]
    intro i i0 i1
    have q := p9 i i0 i1
    have q2 := eg i i0 (by omega)
    rw [q2.1, q2.2]
    exact q
/-- the valley to come holds -/
theorem okP_vb {R : Int → Int} {a : Int} (ok : okP R) (ha : a = R 29 ∧ a ≤ 4) (h1 : 0 ≤ R (232 + a) ∧ R (232 + a) ≤ 140) (h2 : wfM (stepsOf R a) 0) : okP (up (up R 29 (a + 1)) 34 a) := by
  obtain ⟨⟨⟨⟨o1, o2, o3, o4, o5, o6, o7⟩, d1, d2, d3, d4⟩, o34, o29, oWt, oAw, oN, oA⟩, p30, p31, p32, p33, p85, p95, p111, p127, p9, p10⟩ := ok
  have e : ∀ k, ¬ k = 29 → ¬ k = 34 → up (up R 29 (a + 1)) 34 a k = R k := fun k k1 k2 => by rw [up_ne k2, up_ne k1]
  have e29 : up (up R 29 (a + 1)) 34 a 29 = a + 1 := by rw [up_ne (by omega), up_eq]
  have e34 : up (up R 29 (a + 1)) 34 a 34 = a := up_eq
  generalize up (up R 29 (a + 1)) 34 a = R' at e e29 e34 ⊢
  have es : ∀ i, 0 ≤ i → stepsOf R' i = stepsOf R i := fun i i0 => by
    unfold stepsOf
    rw [e (232 + i) (by omega) (by omega)]
    exact seg_cg _ _ (fun k hk hk2 => e k (by omega) (by omega))
  have eS : STEPM R' = R (232 + a) := by
    unfold STEPM
    rw [e34, if_neg (by omega), e _ (by omega) (by omega)]
  have ea := es a (by omega)
  unfold stepsOf at ea h2
  refine ⟨⟨⟨⟨by omega, by omega, by omega, by omega, ?_, by rw [e 0 (by omega) (by omega)]; exact o6, by rw [e 0 (by omega) (by omega)]; exact o7⟩, by rw [e 28 (by omega) (by omega)]; exact d1, by rw [e 27 (by omega) (by omega)]; exact d2, fun p p0 p1 => ?_, fun c c0 c1 => by rw [e _ (by omega) (by omega)]; exact d4 c c0 c1⟩, by omega, by omega, fun f f0 f1 => by rw [e _ (by omega) (by omega)]; exact oWt f f0 f1, fun k k0 k1 => by rw [e _ (by omega) (by omega)]; exact oAw k k0 k1, fun i i0 i1 => by rw [e _ (by omega) (by omega)]; exact oN i i0 i1, fun c c0 c1 => ?_⟩, by rw [e 30 (by omega) (by omega)]; exact p30, by rw [e 31 (by omega) (by omega)]; exact p31, by rw [e 32 (by omega) (by omega)]; exact p32, by rw [e 33 (by omega) (by omega)]; exact p33, ?_, ?_, ?_, ?_, ?_, by rw [e 0 (by omega) (by omega)]; exact p10⟩
  · rw [eS, e34, ← e (232 + a) (by omega) (by omega), ea]
    exact h2
  · rw [e 27 (by omega) (by omega)] at p1
    obtain ⟨r0, r1, r⟩ := d3 p p0 p1
    refine ⟨r0, r1, ?_⟩
    rw [e (43 + p) (by omega) (by omega), e (49 + p) (by omega) (by omega), e (55 + p) (by omega) (by omega)]
    exact r
  · rw [e (16 + c) (by omega) (by omega), e (1 + c) (by omega) (by omega), e (6 + c) (by omega) (by omega), e (11 + c) (by omega) (by omega)]
    exact oA c c0 c1
  · rw [e 30 (by omega) (by omega)]
    intro i i0 i1
    rw [e _ (by omega) (by omega)]; exact p85 i i0 i1
  · rw [e 31 (by omega) (by omega), e 27 (by omega) (by omega), e 28 (by omega) (by omega)]
    intro i i0 i1
    rw [e (95 + i) (by omega) (by omega), e (103 + i) (by omega) (by omega)]
    exact p95 i i0 i1
  · rw [e 32 (by omega) (by omega), e 28 (by omega) (by omega)]
    intro i i0 i1
    rw [e _ (by omega) (by omega)]; exact p111 i i0 i1
  · rw [e 33 (by omega) (by omega)]
    intro i i0 i1
    rw [e _ (by omega) (by omega)]; exact p127 i i0 i1
  · rw [e29]
    intro i i0 i1
    rw [e (232 + i) (by omega) (by omega), es i i0]
    by_cases c : i = a
    · rw [c]; exact ⟨h1.1, h1.2, h2⟩
    · exact p9 i i0 (by omega)
section V1
variable {G : MG} {d : Nat} {Q : KQ} {gb : Nat} {Bs X : Nat → Prop} {ad ad' : Int → Nat} {b : Int} {w lo : Nat} {vd vn vn' vi vt : Int → Nat} {s s' si st bd : Int → Int} {hi rn : Int} {h h' : MH}
def Bv (Bs : Nat → Prop) (q : Nat) : Nat → Prop := fun a => Bs a ∨ a = q
theorem qVL_B {q v : Nat} {l : List Int} {nv : Int} (z : qVL Bs v l nv h) (hq : h.2.2 q = none) : qVL (Bv Bs q) v l nv h := by
  obtain ⟨nc, pl, cs, sn, C, S, E, y, q1, q2, q3, q4, q5, q6, q7⟩ := z
  exact ⟨nc, pl, cs, sn, C, S, E, y, q1, q2, q3, q4, q5, ⟨Or.inl q6.1, fun z => z.elim q6.2 (fun e => by rw [e, hq] at q3; cases q3)⟩, q7⟩
theorem qW_B {q : Nat} (z : qW G Bs ad b w vd s h) (hq : h.2.2 q = none) : qW G (Bv Bs q) ad b w vd s h := by
  obtain ⟨⟨x1, x2, x3, x4, x5, x6, x7, x8⟩, y1, y2, y3, y4, y5, y6⟩ := z
  exact ⟨⟨x1, x2, x3, x4, x5, x6, qVL_B x7 hq, x8⟩, y1, y2, y3, y4, y5, fun i i0 i1 => qVL_B (y6 i i0 i1) hq⟩
theorem K_genB (z : qK G Bs ad vn vi vt s si st hi rn bd h) {Bt : Nat → Prop} (hB : ∀ a, Bt a → a < G.1 + h'.1 ∧ X0 G.1 a) (gq : qG G ad' h') (f : qFr G.1 Bt X h h') (hX : ∀ a, X a → (G.1 + 1 ≤ a ∧ a < G.1 + 67) ∨ G.1 + 79 ≤ a) (hc : h.1 ≤ h'.1) (zn : qW G Bt ad' 0 (G.1 + 1) vn' s' h') (zi : qW G Bt ad' 100 (G.1 + 23) vi si h') (zt : qW G Bt ad' 200 (G.1 + 45) vt st h') (okp : okP s') (hv : ∀ i, 0 ≤ i → i < s' 29 → G.1 + 79 ≤ vn' i) : qK G Bt ad' vn' vi vt s' si st hi rn bd h' ∧ qFr G.1 Bt (X0 G.1) h h' := by
  obtain ⟨-, -, hf, ⟨hx, hhi⟩, -, -, -, ⟨o1, o2, o3⟩, ⟨g, r⟩, r0, r1, q1, q2, q3, q4, q5, q6⟩ := z
  have nx : ∀ a, (a < G.1 + 1 ∨ (G.1 + 67 ≤ a ∧ a < G.1 + 79)) → ¬ X a := fun a ha q => by have := hX a q; omega
  exact ⟨⟨⟨gq.1, gq.2.1⟩, hB, qFs_fr f hf, ⟨fr_o f hx (nx _ (by omega)), hhi⟩, zn, zi, zt, ⟨okp, o2, o3⟩, ⟨g, qRW_fr r f (by decide) (nx _ (by omega)) (nx _ (by omega)) (nx _ (by omega))⟩, r0, r1, hv, q2, q3, gq.2.2, fr_r f q5 (nx _ (by omega)), q6⟩, qFr_wk f (fun a q => by have := hX a q; unfold X0; omega)⟩
theorem xcl_l {n : Nat} {f : Nat → Int} {K : Nat → MC → Prop} : xCln (some (cArr 0 n f)) K = K n (cArr 0 n f) := propext ⟨fun z => z.2, fun z => ⟨rfl, z⟩⟩
theorem xrw_l {n : Nat} {f : Nat → Int} {K : Prop} : xRow (some (cArr 0 n f)) K = K := propext ⟨fun z => z.2, fun z => ⟨rfl, z⟩⟩
theorem j_copyOf {t N : Nat} {T : Int → Int} (ht : h.2.2 t = some (cArr 0 100 (ix T))) (hne : ¬ t = G.1 + h.1) (hN : N ≤ 100) (hr : h.1 + 1 ≤ maxC ∧ h.2.1 + 100 ≤ maxS) : ∃ f : Nat → Int, (∀ i : Nat, i < N → f i = T i) ∧ ∀ Q : KQ, wpC G (d + 2) 243 [vR t, vI (N : Int)] h Q = Q (some (vR (G.1 + h.1))) (hnew h (G.1 + h.1) N (cArr 0 N f)) := by
  have rc : (h.1 + 1 ≤ maxC) = True := eq_true (by omega)
  by_cases c : N = 100
  · subst c
    have rs : (h.2.1 + 100 ≤ maxS) = True := eq_true (by omega)
    refine ⟨ix T, fun i _ => rfl, fun Q => ?_⟩
    rw [e243]
    simp (disch := omega) only [KK, Int.reduceEq, not_false_iff, ↓reduceIte, ↓if_pos, ↓if_neg, xt_o, true_and, nlO_i, nlO_n, nlO_r, List.length_nil, List.length_cons, Nat.reduceAdd, Nat.reduceLeDiff, Nat.zero_le, U243, ht, xl_a, xcl_l, xrw_l, hn_eq, rc, rs]
  · have rs : (h.2.1 + N ≤ maxS) = True := eq_true (by omega)
    have c' : ¬ (N : Int) = ((100 : Nat) : Int) := by omega
    have hm := fun (h : MH) (K : KQ) => j_min (G := G) (d := d) (h := h) (Q := K) (a := ((100 : Nat) : Int)) (b := (N : Int))
    rw [Int.min_eq_right (by omega)] at hm
    have t0 : (0 ≤ (N : Int)) = True := eq_true (by omega)
    have t1 : ((N : Int) ≤ 100000) = True := eq_true (by omega)
    refine ⟨ix (fun z => if z < (N : Int) then T z else 0), fun i hi => if_pos (by omega), fun Q => ?_⟩
    rw [e243]
    simp (disch := omega) only [KK, Int.reduceEq, not_false_iff, ↓reduceIte, ↓if_pos, ↓if_neg, xt_o, true_and, nlO_i, nlO_n, nlO_r, List.length_nil, List.length_cons, Nat.reduceAdd, Nat.reduceLeDiff, Nat.zero_le, U243, ht, xl_a, c', hm, rc, rs, t0, t1, Int.toNat_natCast, ix_0, hn_eq, hn_ne hne, xc_i, hs_hn]
end V1
