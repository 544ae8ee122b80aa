/-! a world's days -/
section LLs
variable {G : MG} {d : Nat} {h : MH} {Q : KQ} {l e : Nat} {n : Int} {f : Int → Nat}
theorem ll_LS (z : qLL G h l e n f) : ∃ F : Int → Option Nat, qLS h l n F ∧ ∀ i, 0 ≤ i → i < n → F i = some (f i) := by
  obtain ⟨mc, ⟨q1, q2⟩ | ⟨F, q1, q2, q3, q4, q5⟩⟩ := z
  · have q3 := q2.1
    exact ⟨fun _ => none, ⟨mc, _, q1, by omega, by omega, fun q => by omega⟩, fun i i0 i1 => by omega⟩
  · exact ⟨F, ⟨mc, e, q1, q3, q4, fun _ => q2⟩, q5⟩
theorem ll_size (z : qLL G h l e n f) : wpC G (d + 1) 228 [vR l] h Q = Q (some (vI n)) h := by
  obtain ⟨F, q, -⟩ := ll_LS z
  exact l_size q
theorem ll_empty (z : qLL G h l e n f) : wpC G (d + 1) 235 [vR l] h Q = Q (some (vI (if n = 0 then 1 else 0))) h := by
  obtain ⟨F, q, -⟩ := ll_LS z
  exact l_empty q
theorem ll_get (z : qLL G h l e n f) {i : Int} (hi : 0 ≤ i ∧ i < n) : wpC G (d + 3) 233 [vR l, vI i] h Q = Q (some (vR (f i))) h := by
  obtain ⟨F, q, q2⟩ := ll_LS z
  have := l_get (G := G) (d := d) (Q := Q) q hi
  rw [q2 i hi.1 hi.2] at this
  exact this
theorem ll_tag (z : qLL G h l e n f) {K : Nat → Prop} : xTag (h.2.2 l) K = K 0 := by
  obtain ⟨F, q, -⟩ := ll_LS z
  exact l_tag q
theorem ll_n (z : qLL G h l e n f) : 0 ≤ n ∧ n ≤ 10 := by
  obtain ⟨F, ⟨_, _, _, q1, q2, _⟩, -⟩ := ll_LS z
  exact ⟨q1, q2⟩
end LLs
theorem xo_1 {h : MH} {x t : Nat} {fs : List V} (hx : h.2.2 x = some (cObj t fs)) (ht : ¬ t = 0 ∧ ¬ t = 10 ∧ ¬ t = 7) : qXo (fun q => q = x) h := fun q hq => by
  have hq : q = x := hq
  subst hq
  exact ⟨t, fs, hx, ht⟩
def qAD (ad : Int → Nat) (lo : Nat) : Prop := (∀ i j, ad i = ad j → i = j) ∧ ∀ i, lo ≤ ad i
/-- the valley that holds in a world -/
def hvA (w : Nat) (vd : Int → Nat) (s : Int → Int) : Nat := if s 29 = 0 then w + 15 else vd (s 29 - 1)
section W3
variable {G : MG} {d : Nat} {Q : KQ} {gb : Nat} {Bs : Nat → Prop} {h h' : MH} {s s' : Int → Int} {ad : Int → Nat} {b : Int} {w lo : Nat} {vd : Int → Nat}
theorem qW_SW (z : qW G Bs ad b w vd s h) (ok : okW s) : qSW w (hvA w vd s) (hvA w vd s + 4) s h ∧ Bs (hvA w vd s + 4) := by
  obtain ⟨⟨z1, ⟨W, z2, z2'⟩, z3, z4, z5, z6, z7, -⟩, y1, y2, y3, y4, y5, y6⟩ := z
  obtain ⟨-, o34, o29, oWt, -⟩ := ok
  obtain ⟨F, q1, q2⟩ := ll_LS y3
  have hV : HVr (hvA w vd s) (hvA w vd s + 4) s h ∧ Bs (hvA w vd s + 4) := by
    unfold hvA
    by_cases e : s 29 = 0
    · rw [if_pos e]
      obtain ⟨nc, pl, cs, sn, C, S, E, y, p1, p2, p3, p4, p5, p6, p7, p8, p9, p10⟩ := z7
      have eN : NERVE s = 12 := if_pos (by omega)
      have eS : STEPM s = 0 := if_pos (by omega)
      exact ⟨⟨_, _, _, _, nc, pl, cs, sn, C, S, E, y, by rw [eN]; exact p1, p2, p3, p4, p5, by omega, p7, p8, p9, by rw [eS]; exact p10⟩, p6.1⟩
    · rw [if_neg e]
      obtain ⟨nc, pl, cs, sn, C, S, E, y, p1, p2, p3, p4, p5, p6, p7, p8, p9, p10⟩ := y6 (s 29 - 1) (by omega) (by omega)
      have eN : NERVE s = s (227 + (s 29 - 1)) := (if_neg (by omega)).trans (by rw [o34])
      have eS : STEPM s = s (232 + (s 29 - 1)) := (if_neg (by omega)).trans (by rw [o34])
      exact ⟨⟨_, _, _, _, nc, pl, cs, sn, C, S, E, y, by rw [eN]; exact p1, p2, p3, p4, p5, by omega, p7, p8, p9, by rw [eS, o34]; exact p10⟩, p6.1⟩
  refine ⟨⟨⟨s 33, AWAYS s, z1⟩, ⟨W, z2, z2'⟩, fun f f0 f1 => (oWt f f0 f1).1, ⟨s 29, F, q1, ?_⟩, hV.1⟩, hV.2⟩
  by_cases e : s 29 = 0
  · exact Or.inl ⟨e, if_pos e⟩
  · exact Or.inr ⟨by omega, by rw [q2 _ (by omega) (by omega)]; exact congrArg some (if_neg e).symm⟩
theorem c_holdS {v sb : Nat} (z : qSW w v sb s h) : wpC G (d + 4) 48 [vR w] h Q = Q (some (vR v)) h := by
  obtain ⟨⟨sg, aw, z1⟩, z2, z3, ⟨n, f, z4, z5⟩, tx, co, sh, ce, nc, pl, cs, sn, C, S, E, y, q1, -⟩ := z
  exact c_holding z1 z4 q1 z5
theorem SW_nv {v sb : Nat} (z : qSW w v sb s h) {K : V → Prop} : xGet 8 10 (h.2.2 v) K = K (vI (NERVE s)) := by
  obtain ⟨-, -, -, -, tx, co, sh, ce, nc, pl, cs, sn, C, S, E, y, q1, -⟩ := z
  rw [q1]; simp only [GX10]
theorem c_wgtS {v sb : Nat} (z : qSW w v sb s h) {x : Int} : wpC G (d + 1) 56 [vR w, vI x] h Q = Q (some (vI (WGT s x))) h := by
  obtain ⟨⟨sg, aw, z1⟩, ⟨W, z2, z3⟩, -⟩ := z
  exact c_weightOf z1 z2 z3
theorem c_startAnew {a : Nat} {c1 c2 c3 c4 : Int} (ha : h.2.2 a = some (cObj 1 [vI c1, vI c2, vI c3, vI c4])) : wpC G (d + 1) 97 [vR a] h Q = Q none (hset h a (cObj 1 [vI c1, vI 0, vI 0, vI 0])) := by
  rw [e97]
  simp (disch := omega) only [KK, Int.reduceEq, not_false_iff, ↓reduceIte, ↓if_pos, ↓if_neg, xt_o, true_and, nlO_i, nlO_n, nlO_r, List.length_nil, List.length_cons, Nat.reduceAdd, Nat.reduceLeDiff, Nat.zero_le, U97, ha, hs_eq, hs_hs, GX1, PX1, true_or]
theorem c_hears {a : Nat} {c1 c2 c3 c4 : Int} (ha : h.2.2 a = some (cObj 1 [vI c1, vI c2, vI c3, vI c4])) {x wg nv : Int} : wpC G (d + 2) 96 [vR a, vI x, vI wg, vI nv] h Q = Q none (hset h a (cObj 1 [vI (iBin 4 c1 x), vI (min 9999 (iBin 0 c2 wg)), vI c3, vI (if nv < min 9999 (iBin 0 c2 wg) then 1 else 0)])) := by
  have hm := fun (h : MH) (p q : Int) (K : KQ) => j_min (G := G) (d := d) (h := h) (Q := K) (a := p) (b := q)
  rw [e96]
  by_cases e : nv < min 9999 (iBin 0 c2 wg)
  · rw [if_pos e]
    simp (disch := omega) only [KK, Int.reduceEq, not_false_iff, ↓reduceIte, ↓if_pos, ↓if_neg, xt_o, true_and, nlO_i, nlO_n, nlO_r, List.length_nil, List.length_cons, Nat.reduceAdd, Nat.reduceLeDiff, Nat.zero_le, U96, ha, hm, hs_eq, hs_hs, GX1, PX1, true_or, or_true]
  · rw [if_neg e]
    simp (disch := omega) only [KK, Int.reduceEq, not_false_iff, ↓reduceIte, ↓if_pos, ↓if_neg, xt_o, true_and, nlO_i, nlO_n, nlO_r, List.length_nil, List.length_cons, Nat.reduceAdd, Nat.reduceLeDiff, Nat.zero_le, U96, ha, hm, hs_eq, hs_hs, GX1, PX1, true_or, or_true]
theorem qW_ask (A : qAD ad lo) (hlo : w + 22 ≤ lo) (z : qW G Bs ad b w vd s h) (ok : okW s) {a : Int} (a0 : 0 ≤ a ∧ a < s 28) (f : qFr gb Bs (fun q => q = ad (b + 10 + a)) h h') (low : lowS s s') (oth : ∀ c, 0 ≤ c → c < 5 → ¬ c = a → s' (1 + c) = s (1 + c) ∧ s' (6 + c) = s (6 + c) ∧ s' (11 + c) = s (11 + c) ∧ s' (16 + c) = s (16 + c)) (hc : qAK (ad (b + 10 + a)) s' a h') : qW G Bs ad b w vd s' h' := by
  obtain ⟨zx, y1, y2, y3, y4, y5, y6⟩ := z
  have o28 := ok.1.2.1
  have o27 := ok.1.2.2.1
  have o29 := ok.2.2.1
  have oxo : qXo (fun q => q = ad (b + 10 + a)) h := xo_1 (y5 a a0.1 a0.2) (by omega)
  have e27 : s' 27 = s 27 := low 27 (by omega)
  have e28 : s' 28 = s 28 := low 28 (by omega)
  have e29 : s' 29 = s 29 := low 29 (by omega)
  refine ⟨qWX_cg (qWX_fo zx f oxo ?_ ?_) (low 0 (by omega)) (low 33 (by omega)) (AWAYS_cg e27 o27.1 (fun k k0 k1 => low _ (by omega))) ⟨low 30 (by omega), low 31 (by omega), low 32 (by omega)⟩ (fun i i0 i1 => low i (by omega)) (fun i i0 i1 => low i (by omega)), ?_⟩
  · intro e
    have := A.2 (b + 10 + a)
    omega
  · intro e
    have := A.2 (b + 10 + a)
    omega
  · unfold qWY
    rw [e27, e28, e29]
    refine ⟨qLL_fo y1 f oxo, qLL_fo y2 f oxo, qLL_fo y3 f oxo, fun i i0 i1 => qAW_cg (qAW_fo (okW_k ok i i0 i1) (y4 i i0 i1) f oxo (fun e => by have := A.1 _ _ e; omega)) (low _ (by omega)) (low _ (by omega)) (low _ (by omega)) (fun k k0 k1 => low _ (by omega)), fun c c0 c1 => ?_, fun i i0 i1 => ?_⟩
    · by_cases e : c = a
      · rw [e]; exact hc
      · obtain ⟨q1, q2, q3, q4⟩ := oth c c0 (by omega) e
        unfold qAK
        rw [q1, q2, q3, q4]
        exact qAK_fr (y5 c c0 c1) f (fun e2 => e (by have := A.1 _ _ e2; omega))
    · refine qVL_cg (qVL_fo (y6 i i0 i1) f oxo) ?_ (low _ (by omega))
      unfold stepsOf
      rw [low (232 + i) (by omega)]
      exact seg_cg _ _ (fun k hk hk2 => low k (by omega))
theorem GOA_oth {a c : Int} (a0 : 0 ≤ a ∧ a < 5) (c0 : 0 ≤ c) (c1 : c < 5) (e : ¬ c = a) : GOA s a (1 + c) = s (1 + c) ∧ GOA s a (6 + c) = s (6 + c) ∧ GOA s a (11 + c) = s (11 + c) ∧ GOA s a (16 + c) = s (16 + c) := by
  unfold GOA
  split
  · unfold MEET
    split
    · refine ⟨up_ne (by omega), up_ne (by omega), up_ne (by omega), up_ne (by omega)⟩
    · split
      · unfold MEETs
        refine ⟨?_, ?_, ?_, ?_⟩ <;> rw [up_ne (by omega), up_ne (by omega), up_ne (by omega)]
      · unfold MEETs
        refine ⟨?_, ?_, ?_, ?_⟩ <;> rw [up_ne (by omega), up_ne (by omega), up_ne (by omega)]
  · exact ⟨rfl, rfl, rfl, rfl⟩
end W3
