/-! pairs of rows; said held against one; knew, firm, who -/
section RW
variable {G : MG} {d : Nat} {Q : KQ} {h : MH} {o cap : Nat} {n : Int} {f g : Int → Int}
theorem rw_tag (z : qRW h o cap n f g) {K : Nat → Prop} : xTag (h.2.2 o) K = K 7 := by
  obtain ⟨r1, r2, q1, -⟩ := z
  rw [q1]; rfl
theorem c_kept (z : qRW h o cap n f g) : wpC G (d + 2) 87 [vR o] h Q = Q (some (vI (min n cap))) h := by
  obtain ⟨r1, r2, q1, q2, q3, q4⟩ := z
  have hm := fun (K : KQ) => j_min (G := G) (d := d) (h := h) (Q := K) (a := n) (b := (cap : Int))
  rw [e87]
  simp (disch := omega) only [KK, Int.reduceEq, not_false_iff, ↓reduceIte, ↓if_pos, ↓if_neg, xt_o, true_and, nlO_i, nlO_n, nlO_r, List.length_nil, List.length_cons, Nat.reduceAdd, Nat.reduceLeDiff, Nat.zero_le, U87, q1, q2, GX7, xl_a, hm]
theorem c_first (z : qRW h o cap n f g) (hn : 0 ≤ n) {i : Int} : wpC G (d + 3) 91 [vR o, vI i] h Q = Q (some (vI (if 0 ≤ i ∧ i < n ∧ i < cap then f i else -1))) h := by
  have hk := fun (K : KQ) => c_kept (G := G) (d := d) (Q := K) z
  obtain ⟨r1, r2, q1, q2, q3, q4⟩ := z
  rw [e91]
  by_cases c : 0 ≤ i ∧ i < n ∧ i < cap
  · rw [if_pos c, ← (q4 i c.1 c.2.1 c.2.2).1]
    have hmin : i < min n cap := by omega
    simp (disch := omega) only [KK, Int.reduceEq, not_false_iff, ↓reduceIte, ↓if_pos, ↓if_neg, xt_o, true_and, nlO_i, nlO_n, nlO_r, List.length_nil, List.length_cons, Nat.reduceAdd, Nat.reduceLeDiff, Nat.zero_le, U91, q1, q2, hk, GX7, VS7, xa_i, true_or, or_true]
  · rw [if_neg c]
    by_cases c0 : i < 0
    · simp (disch := omega) only [KK, Int.reduceEq, not_false_iff, ↓reduceIte, ↓if_pos, ↓if_neg, xt_o, true_and, nlO_i, nlO_n, nlO_r, List.length_nil, List.length_cons, Nat.reduceAdd, Nat.reduceLeDiff, Nat.zero_le, U91, true_or, or_true]
    · have hmin : min n cap ≤ i := by omega
      simp (disch := omega) only [KK, Int.reduceEq, not_false_iff, ↓reduceIte, ↓if_pos, ↓if_neg, xt_o, true_and, nlO_i, nlO_n, nlO_r, List.length_nil, List.length_cons, Nat.reduceAdd, Nat.reduceLeDiff, Nat.zero_le, U91, q1, hk, GX7, VS7, true_or, or_true]
theorem c_second (z : qRW h o cap n f g) (hn : 0 ≤ n) {i : Int} : wpC G (d + 3) 92 [vR o, vI i] h Q = Q (some (vI (if 0 ≤ i ∧ i < n ∧ i < cap then g i else -1))) h := by
  have hk := fun (K : KQ) => c_kept (G := G) (d := d) (Q := K) z
  obtain ⟨r1, r2, q1, q2, q3, q4⟩ := z
  rw [e92]
  by_cases c : 0 ≤ i ∧ i < n ∧ i < cap
  · rw [if_pos c, ← (q4 i c.1 c.2.1 c.2.2).2]
    have hmin : i < min n cap := by omega
    simp (disch := omega) only [KK, Int.reduceEq, not_false_iff, ↓reduceIte, ↓if_pos, ↓if_neg, xt_o, true_and, nlO_i, nlO_n, nlO_r, List.length_nil, List.length_cons, Nat.reduceAdd, Nat.reduceLeDiff, Nat.zero_le, U92, q1, q3, hk, GX7, VS7, xa_i, true_or, or_true]
  · rw [if_neg c]
    by_cases c0 : i < 0
    · simp (disch := omega) only [KK, Int.reduceEq, not_false_iff, ↓reduceIte, ↓if_pos, ↓if_neg, xt_o, true_and, nlO_i, nlO_n, nlO_r, List.length_nil, List.length_cons, Nat.reduceAdd, Nat.reduceLeDiff, Nat.zero_le, U92, true_or, or_true]
    · have hmin : min n cap ≤ i := by omega
      simp (disch := omega) only [KK, Int.reduceEq, not_false_iff, ↓reduceIte, ↓if_pos, ↓if_neg, xt_o, true_and, nlO_i, nlO_n, nlO_r, List.length_nil, List.length_cons, Nat.reduceAdd, Nat.reduceLeDiff, Nat.zero_le, U92, q1, hk, GX7, VS7, true_or, or_true]
end RW
/-- what the numbers must be, all in all -/
def okP (s : Int → Int) : Prop := okW s ∧ (0 ≤ s 30 ∧ s 30 ≤ 5) ∧ (0 ≤ s 31 ∧ s 31 ≤ 8) ∧ (0 ≤ s 32 ∧ s 32 ≤ 8) ∧ (0 ≤ s 33 ∧ s 33 ≤ 100) ∧ (∀ i, 0 ≤ i → i < s 30 → 0 ≤ s (85 + i) ∧ s (85 + i) ≤ 255) ∧ (∀ i, 0 ≤ i → i < s 31 → (0 ≤ s (95 + i) ∧ s (95 + i) ≤ 3) ∧ (s (95 + i) = 1 ∨ s (95 + i) = 2 → 0 ≤ s (103 + i) ∧ s (103 + i) < s 27) ∧ (s (95 + i) = 3 → 0 ≤ s (103 + i) ∧ s (103 + i) < s 28)) ∧ (∀ i, 0 ≤ i → i < s 32 → 0 ≤ s (111 + i) ∧ s (111 + i) < s 28) ∧ (∀ i, 0 ≤ i → i < s 33 → 0 ≤ s (127 + i) ∧ s (127 + i) ≤ 127) ∧ (∀ i, 0 ≤ i → i < s 29 → 0 ≤ s (232 + i) ∧ s (232 + i) ≤ 140 ∧ wfM (stepsOf s i) 0) ∧ s 0 ≤ 9999
/-- s1 is s but for v and what is known -/
def eqA (s s1 : Int → Int) : Prop := ∀ i, (i < 49 ∨ 61 ≤ i) → s1 i = s i
theorem asF_0 {s : Int → Int} {p : Int} : ∀ (n : Nat) (i : Int), asF s p n i 0 = 0
  | 0, _ => rfl
  | n + 1, i => by rw [asF, if_neg (fun z => z.1 rfl), asF_0 n]
theorem NERVE_A {s s1 : Int → Int} (e : eqA s s1) (o34 : -1 ≤ s 34) : NERVE s1 = NERVE s := by
  unfold NERVE
  rw [e 34 (by omega)]
  by_cases c : s 34 = -1
  · rw [if_pos c, if_pos c]
  · rw [if_neg c, if_neg c, e _ (by omega)]
theorem STEPM_A {s s1 : Int → Int} (e : eqA s s1) (o34 : -1 ≤ s 34) : STEPM s1 = STEPM s := by
  unfold STEPM
  rw [e 34 (by omega)]
  by_cases c : s 34 = -1
  · rw [if_pos c, if_pos c]
  · rw [if_neg c, if_neg c, e _ (by omega)]
theorem okM_A {s s1 : Int → Int} (e : eqA s s1) (ok : okM s) : okM s1 := by
  obtain ⟨o1, o2, o3, o4, o5, o6, o7⟩ := ok
  have eS := STEPM_A e o1
  have e34 : s1 34 = s 34 := e 34 (by omega)
  refine ⟨by omega, by omega, by omega, by omega, ?_, by rw [e 0 (by omega)]; exact o6, by rw [e 0 (by omega)]; exact o7⟩
  rw [eS, e34, seg_cg _ _ (fun k hk hk2 => e k (by omega))]
  exact o5
theorem SW_A {w v sb : Nat} {s s1 : Int → Int} {h : MH} (e : eqA s s1) (o34 : -1 ≤ s 34) (z : qSW w v sb s h) : qSW w v sb s1 h := by
  obtain ⟨⟨sg, aw, z1⟩, ⟨W, z2, z2'⟩, z3, z4, tx, co, sh, ce, nc, pl, cs, sn, C, S, E, y, q1, q2, q3, q4, q5, q6, q7, q8, q9, q10⟩ := z
  have eN := NERVE_A e o34
  have eS := STEPM_A e o34
  have e34 : s1 34 = s 34 := e 34 (by omega)
  refine ⟨⟨sg, aw, by rw [e 0 (by omega)]; exact z1⟩, ⟨W, z2, fun f f0 f1 => (z2' f f0 f1).trans (e _ (by omega)).symm⟩, fun f f0 f1 => by rw [e _ (by omega)]; exact z3 f f0 f1, z4, tx, co, sh, ce, nc, pl, cs, sn, C, S, E, y, by rw [eN]; exact q1, q2, q3, q4, q5, q6, q7, q8, q9, ?_⟩
  rw [eS, e34, seg_cg _ _ (fun k hk hk2 => e k (by omega))]
  exact q10
section W8
variable {G : MG} {d : Nat} {Q : KQ} {gb : Nat} {Bs : Nat → Prop} {ad : Int → Nat} {b : Int} {w lo : Nat} {vd : Int → Nat} {s s1 : Int → Int} {p : Int} {a r : Nat}
theorem c_fits_l (okp : okP s) (e : eqA s s1) (oa : okA s1 p) : ∀ (n : Nat) (h : MH) (i : Int), qW G Bs ad b w vd s h → qAW a r s1 p h → 0 ≤ i → i + n = s 30 → ∃ h' : MH, qFr gb Bs (fun _ => False) h h' ∧ (h'.1 = h.1 ∧ h'.2.1 = h.2.1) ∧ ∀ Q : KQ, wp G (d + 6) 70 2 [some (vR w), some (vR a), some (vI i)] [] h Q = Q (some (vI (asF s1 p n i 1))) h' := by
  have ok := okp.1
  have h30 := okp.2.1
  have o34 := ok.1.1.1
  intro n
  induction n with
  | zero =>
    intro h i z zA i0 hi
    refine ⟨h, qFr_rf, ⟨rfl, rfl⟩, fun Q => ?_⟩
    have z1 := z.1.1
    have zr := z.1.2.2.2.1
    have hkp := fun (K : KQ) => c_kept (G := G) (d := d + 4) (Q := K) zr
    have htg := fun (K : Nat → Prop) => rw_tag zr (K := K)
    have hmin : min (s 30) ((5 : Nat) : Int) = s 30 := Int.min_eq_left (by omega)
    rw [hmin] at hkp
    rw [asF, u70_2]
    simp (disch := omega) only [KK, Int.reduceEq, not_false_iff, ↓reduceIte, ↓if_pos, ↓if_neg, xt_o, true_and, nlO_i, nlO_n, nlO_r, List.length_nil, List.length_cons, Nat.reduceAdd, Nat.reduceLeDiff, Nat.zero_le, U70, z1, htg, hkp, GX11, VS7, or_true]
  | succ n ih =>
    intro h i z zA i0 hi
    have z1 := z.1.1
    have zr := z.1.2.2.2.1
    have hkp := fun (K : KQ) => c_kept (G := G) (d := d + 4) (Q := K) zr
    have htg := fun (K : Nat → Prop) => rw_tag zr (K := K)
    have hmin : min (s 30) ((5 : Nat) : Int) = s 30 := Int.min_eq_left (by omega)
    rw [hmin] at hkp
    have hfi := fun (K : KQ) => (c_first (G := G) (d := d + 3) (Q := K) zr h30.1 (i := i)).trans (by rw [if_pos ⟨i0, by omega, by omega⟩])
    obtain ⟨hS, hB⟩ := qW_SW z ok
    obtain ⟨y0, hy0⟩ := qSW_y hS
    have e85 : s1 (85 + i) = s (85 + i) := e _ (by omega)
    have e90 : s1 (90 + i) = s (90 + i) := e _ (by omega)
    obtain ⟨y', hsp⟩ := c_speech (G := G) (d := d) (SW_A e o34 hS) (okM_A e ok.1.1) zA oa (hd := s (85 + i)) (okp.2.2.2.2.2.1 i i0 (by omega))
    obtain ⟨h1, hh1⟩ : ∃ h1, h1 = hset h (hvA w vd s + 4) (cArr 0 6 (ix y')) := ⟨_, rfl⟩
    have f1 : qFr gb Bs (fun _ => False) h h1 := by rw [hh1]; exact qFr_sb hB hy0
    have z2 := qW_f0 z f1 (okW_k ok)
    have zA2 := qAW_fo ⟨oa.2.2.1, oa.2.2.2.1⟩ zA f1 (fun _ x => x.elim) id
    have zr2 := z2.1.2.2.2.1
    have z21 := z2.1.1
    have hse := fun (K : KQ) => (c_second (G := G) (d := d + 3) (Q := K) zr2 h30.1 (i := i)).trans (by rw [if_pos ⟨i0, by omega, by omega⟩])
    have htg2 := fun (K : Nat → Prop) => rw_tag zr2 (K := K)
    rw [← hh1] at hsp
    have hc1 : h1.1 = h.1 ∧ h1.2.1 = h.2.1 := by rw [hh1]; exact ⟨rfl, rfl⟩
    rw [asF, e85, e90]
    by_cases c : SAYS s1 p (s (85 + i)) = s (90 + i)
    · rw [if_pos ⟨by decide, c⟩]
      obtain ⟨h2, t1, t2, t3⟩ := ih h1 (i + 1) z2 zA2 (by omega) (by omega)
      refine ⟨h2, qFr_tr f1 t1, ⟨t2.1.trans hc1.1, t2.2.trans hc1.2⟩, fun Q => ?_⟩
      rw [← t3 Q, u70_2]
      simp (disch := omega) only [KK, Int.reduceEq, not_false_iff, ↓reduceIte, ↓if_pos, ↓if_neg, xt_o, true_and, nlO_i, nlO_n, nlO_r, List.length_nil, List.length_cons, Nat.reduceAdd, Nat.reduceLeDiff, Nat.zero_le, U70, z1, z21, htg, htg2, hkp, hfi, hse, hsp, GX11, VS7, VS11, ar_add (a := i), or_true]
    · rw [if_neg (fun q => c q.2), asF_0]
      refine ⟨h1, f1, hc1, fun Q => ?_⟩
      rw [u70_2]
      simp (disch := omega) only [KK, Int.reduceEq, not_false_iff, ↓reduceIte, ↓if_pos, ↓if_neg, xt_o, true_and, nlO_i, nlO_n, nlO_r, List.length_nil, List.length_cons, Nat.reduceAdd, Nat.reduceLeDiff, Nat.zero_le, U70, z1, z21, htg, htg2, hkp, hfi, hse, hsp, GX11, VS7, VS11, true_or]
theorem c_fits {h : MH} (z : qW G Bs ad b w vd s h) (okp : okP s) (e : eqA s s1) (zA : qAW a r s1 p h) (oa : okA s1 p) : ∃ h' : MH, qFr gb Bs (fun _ => False) h h' ∧ (h'.1 = h.1 ∧ h'.2.1 = h.2.1) ∧ ∀ Q : KQ, wpC G (d + 7) 70 [vR w, vR a] h Q = Q (some (vI (ASSAID s1 p))) h' := by
  have h30 := okp.2.1
  have e30 : s1 30 = s 30 := e 30 (by omega)
  obtain ⟨h', r1, r2, r3⟩ := c_fits_l (gb := gb) (d := d) okp e oa (s 30).toNat h 0 z zA (by omega) (by omega)
  refine ⟨h', r1, r2, fun Q => ?_⟩
  unfold ASSAID
  rw [e30, ← r3 Q, e70]
  simp only [KK, Int.reduceEq, not_false_iff, ↓reduceIte, ↓if_pos, ↓if_neg, xt_o, true_and, nlO_i, nlO_n, nlO_r, List.length_nil, List.length_cons, Nat.reduceAdd, Nat.reduceLeDiff, Nat.zero_le, U70]
end W8
def fiF (P : Int → Prop) [DecidablePred P] : Nat → Int → Int → Int × Int
  | 0, n, f => (n, f)
  | k + 1, n, f => if P k then fiF P k (n + 1) k else fiF P k n f
abbrev fiP (s : Int → Int) (p wh v : Int) : Prop := ASSAID (up s wh v) p = 1
def FIT (s : Int → Int) (p wh : Int) (many : Nat) (what : Int) : Int := if what = 0 then (fiF (fiP s p wh) many 0 (-5)).1 else (fiF (fiP s p wh) many 0 (-5)).2
theorem AS_01 {s : Int → Int} {p : Int} : ASSAID s p = 0 ∨ ASSAID s p = 1 := asF_01 _ 0 1 (Or.inr rfl)
/-- the class's own object -/
abbrev xO (x : Nat) (hi : Int) : MC := cObj 12 [vR (x + 1), vR (x + 23), vR (x + 45), vR (x + 67), vI hi]
section W9
variable {G : MG} {d : Nat} {Q : KQ} {gb : Nat} {Bs : Nat → Prop} {ad : Int → Nat} {b : Int} {x w lo : Nat} {vd : Int → Nat} {s : Int → Int} {p hi : Int} {tw : Nat}
/-- an aunt's object that is in no world -/
theorem qW_tw {h h' : MH} (z : qW G Bs ad b w vd s h) (ok : okW s) (f : qFr gb Bs (fun q => q = tw) h h') {k v kn p' : Int} (hk : 0 ≤ k ∧ k ≤ 6) {r : Nat} (ht : h.2.2 tw = some (AUC r k p' v kn)) (hne : ∀ i, 0 ≤ i → i < s 27 → ¬ ad (b + i) = tw) : qW G Bs ad b w vd s h' := by
  obtain ⟨t, fs, e, ha⟩ := AUC_o (r := r) (p := p') (v := v) (kn := kn) hk
  rw [e] at ht
  have htt : ¬ t = 0 ∧ ¬ t = 10 ∧ ¬ t = 7 ∧ ¬ t = 11 ∧ ¬ t = 1 := by
    refine ⟨?_, ?_, ?_, ?_, ?_⟩ <;> (intro q; subst q; exact absurd ha (by decide))
  obtain ⟨⟨x1, x2, x3, x4, x5, x6, x7, c1, c2, c3, c4, x8⟩, y1, y2, y3, y4, y5, y6⟩ := z
  exact qW_fo ⟨⟨x1, x2, x3, x4, x5, x6, x7, c1, c2, c3, c4, x8⟩, y1, y2, y3, y4, y5, y6⟩ f (okW_k ok) (xo_1 ht ⟨htt.1, htt.2.1, htt.2.2.1⟩) (ne_oo x1 ht (fun q => htt.2.2.2.1 q.symm)) (ne_oo x8 ht (fun q => htt.2.2.2.2 q.symm)) hne (fun i i0 i1 => ne_oo (y5 i i0 i1) ht (fun q => htt.2.2.2.2 q.symm))
theorem c_knew_l (okp : okP s) (hp : 0 ≤ p ∧ p < s 27) (hxw : w = x + 1) (hne : ∀ i, 0 ≤ i → i < s 27 → ¬ ad (b + i) = tw) {a1 a2 : Option V} : ∀ (k : Nat) (h : MH) (n f c : Int), qW G Bs ad b w vd s h → h.2.2 x = some (xO x hi) → qAW tw (tw + 1) (up s (55 + p) c) p h → (k : Int) ≤ 256 → 0 ≤ n → n + k ≤ 1000 → ∃ h' : MH, qFr gb Bs (fun q => q = tw) h h' ∧ qW G Bs ad b w vd s h' ∧ (h'.1 = h.1 ∧ h'.2.1 = h.2.1) ∧ ∀ Q : KQ, wp G (d + 7) 27 52 [some (vR x), a1, a2, some (vR tw), some (vI n), some (vI f), some (vI ((k : Int) - 1))] [] h Q = wp G (d + 7) 27 87 [some (vR x), a1, a2, some (vR tw), some (vI (fiF (fiP s p (55 + p)) k n f).1), some (vI (fiF (fiP s p (55 + p)) k n f).2), some (vI (-1))] [] h' Q := by
  have ok := okp.1
  have oA := ok.1.2.2.2.1 p hp.1 hp.2
  have h27 := ok.1.2.2.1
  obtain ⟨p0, p1, k0, k1, v0, v1, n0, n1⟩ := oA
  intro k
  induction k with
  | zero =>
    intro h n f c z hx zA hk n00 hn
    refine ⟨h, qFr_rf, z, ⟨rfl, rfl⟩, fun Q => ?_⟩
    rw [fiF, u27_52]
    generalize hW : wp G (d + 7) 27 87 [some (vR x), a1, a2, some (vR tw), some (vI n), some (vI f), some (vI (-1))] [] h Q = W
    rw [show ((0 : Nat) : Int) - 1 = -1 from rfl, u27_54, if_pos (by decide)]
    exact hW
  | succ k ih =>
    intro h n f c z hx zA hk n00 hn
    have zA0 := zA.1
    rw [up_ne (by omega), up_ne (by omega), up_eq] at zA0
    obtain ⟨h1, hh1⟩ : ∃ h1, h1 = hset h tw (AUC (tw + 1) (s (43 + p)) p (s (49 + p)) k) := ⟨_, rfl⟩
    have f1 : qFr gb Bs (fun q => q = tw) h h1 := by rw [hh1]; exact qFr_set rfl zA0
    have z2 := qW_tw z ok f1 ⟨k0, k1⟩ zA0 hne
    have hx1 : h1.2.2 x = some (xO x hi) := by
      obtain ⟨t, fs, e, ha⟩ := AUC_o (r := tw + 1) (p := p) (v := s (49 + p)) (kn := c) ⟨k0, k1⟩
      rw [e] at zA0
      rw [hh1, hs_ne (ne_oo hx zA0 (fun q => by subst q; exact absurd ha (by decide)))]
      exact hx
    have eA : eqA s (up s (55 + p) k) := fun i hi => up_ne (by omega)
    have zA1 : qAW tw (tw + 1) (up s (55 + p) k) p h1 := by
      refine ⟨?_, fun q => ?_⟩
      · rw [hh1, hs_eq, up_ne (by omega), up_ne (by omega), up_eq]
      · rw [up_ne (by omega)] at q
        obtain ⟨ro, r1, r2⟩ := zA.2 (by rw [up_ne (by omega)]; exact q)
        refine ⟨ro, ?_, fun j j0 j1 => ?_⟩
        · rw [hh1, hs_ne (by omega)]; exact r1
        · have := r2 j j0 j1
          rw [up_ne (by omega)] at this ⊢
          exact this
    have oA1 : okA (up s (55 + p) k) p := by
      refine ⟨p0, p1, ?_⟩
      rw [up_ne (by omega), up_ne (by omega), up_eq]
      omega
    obtain ⟨h2, f2, k2, w2⟩ := c_fits (gb := gb) (d := d) z2 okp eA zA1 oA1
    have z3 := qW_f0 z2 f2 (okW_k ok)
    have hx2 : h2.2.2 x = some (xO x hi) := fr_o f2 hx1 id
    have zA2 := qAW_fo ⟨oA1.2.2.1, oA1.2.2.2.1⟩ zA1 f2 (fun _ q => q.elim) id
    have hc1 : h1.1 = h.1 ∧ h1.2.1 = h.2.1 := by rw [hh1]; exact ⟨rfl, rfl⟩
    have z21 := z2.1.1
    rw [hxw] at w2 z21
    have hP2 := fun (K : MC → Prop) => AP2 (K := K) (r := tw + 1) (k := s (43 + p)) (p := p) (v := s (49 + p)) (kn := c) (x := (k : Int)) ⟨k0, k1⟩
    rw [fiF]
    by_cases c1 : fiP s p (55 + p) k
    · have c1' : ASSAID (up s (55 + p) k) p = 1 := c1
      rw [if_pos c1]
      obtain ⟨h3, t1, t2, t3, t4⟩ := ih h2 (n + 1) k k z3 hx2 zA2 (by omega) (by omega) (by omega)
      refine ⟨h3, qFr_tr f1 (qFr_tr (qFr_wk f2 (fun _ q => q.elim)) t1), t2, ⟨t3.1.trans (k2.1.trans hc1.1), t3.2.trans (k2.2.trans hc1.2)⟩, fun Q => ?_⟩
      rw [← t4 Q, u27_52, show ((k + 1 : Nat) : Int) - 1 = (k : Int) by omega]
      generalize hW : wp G (d + 7) 27 52 [some (vR x), a1, a2, some (vR tw), some (vI (n + 1)), some (vI (k : Int)), some (vI ((k : Int) - 1))] [] h2 Q = W
      rw [u27_54, if_neg (by omega)]
      simp only [u27_57, u27_58, u27_60, KK, zA0, hP2]
      rw [← hh1]
      simp only [u27_63, u27_64, u27_67, u27_68, KK, hx1, z21, GX12, VS11, xt_o, w2, c1', List.length_nil, List.length_cons, Nat.reduceAdd, Nat.reduceLeDiff, Nat.zero_le, true_and]
      rw [u27_71, if_neg (by decide)]
      simp only [u27_74, u27_77, u27_79, u27_81, u27_84, nlO_i, nlO_r, true_and]
      rw [ar_add (by omega), ar_add (by omega)]
      exact hW
    · have c1' : ASSAID (up s (55 + p) k) p = 0 := AS_01.resolve_right c1
      rw [if_neg c1]
      obtain ⟨h3, t1, t2, t3, t4⟩ := ih h2 n f k z3 hx2 zA2 (by omega) (by omega) (by omega)
      refine ⟨h3, qFr_tr f1 (qFr_tr (qFr_wk f2 (fun _ q => q.elim)) t1), t2, ⟨t3.1.trans (k2.1.trans hc1.1), t3.2.trans (k2.2.trans hc1.2)⟩, fun Q => ?_⟩
      rw [← t4 Q, u27_52, show ((k + 1 : Nat) : Int) - 1 = (k : Int) by omega]
      generalize hW : wp G (d + 7) 27 52 [some (vR x), a1, a2, some (vR tw), some (vI n), some (vI f), some (vI ((k : Int) - 1))] [] h2 Q = W
      rw [u27_54, if_neg (by omega)]
      simp only [u27_57, u27_58, u27_60, KK, zA0, hP2]
      rw [← hh1]
      simp only [u27_63, u27_64, u27_67, u27_68, KK, hx1, z21, GX12, VS11, xt_o, w2, c1', List.length_nil, List.length_cons, Nat.reduceAdd, Nat.reduceLeDiff, Nat.zero_le, true_and]
      rw [u27_71, if_pos rfl]
      simp only [u27_81, u27_84, nlO_i, nlO_r, true_and]
      rw [ar_add (by omega)]
      exact hW
end W9
