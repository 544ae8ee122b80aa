/-! what a taking leaves alone; twins of askers; rows taken -/
def qXl (X : Nat → Prop) (h : MH) : Prop := ∀ a c, X a → h.2.2 a = some c → (∃ fs, c = cObj 0 fs) ∨ ∃ t n f, c = cRef t n f
section T1
variable {G : MG} {gb : Nat} {Bs X X' : Nat → Prop} {h h' h'' : MH} {s : Int → Int} {ad ad' : Int → Nat} {b : Int} {w lo : Nat} {vd : Int → Nat}
theorem qFr_tr2 (z : qFr gb Bs X h h') (z' : qFr gb Bs X' h' h'') (hx : ∀ a c, X' a → h.2.2 a = some c → X a) : qFr gb Bs X h h'' := ⟨fun y => z'.1 (z.1 y), fun a c hc hn => by
  have hn' : ¬ X' a := fun q => hn (hx a c q hc)
  rcases z.2 a c hc hn with q | ⟨hb, y, y', e, q⟩
  · exact z'.2 a c q hn'
  · rcases z'.2 a _ q hn' with q' | ⟨-, y1, y2, e2, q'⟩
    · exact Or.inr ⟨hb, y, y', e, q'⟩
    · exact Or.inr ⟨hb, y, y2, e, q'⟩⟩
theorem xll_o {a t : Nat} {fs : List V} (o : qXl X h) (ha : h.2.2 a = some (cObj t fs)) (ht : ¬ t = 0) : ¬ X a := fun x => by
  rcases o a _ x ha with ⟨gs, e⟩ | ⟨t', n, f, e⟩
  · cases e; exact ht rfl
  · cases e
theorem xll_a {a t n : Nat} {f : Nat → Int} (o : qXl X h) (ha : h.2.2 a = some (cArr t n f)) : ¬ X a := fun x => by
  rcases o a _ x ha with ⟨gs, e⟩ | ⟨t', n, f, e⟩
  · cases e
  · cases e
theorem qVL_fl {v : Nat} {l : List Int} {nv : Int} (z : qVL Bs v l nv h) (f : qFr gb Bs X h h') (o : qXl X h) : qVL Bs v l nv h' := by
  obtain ⟨nc, pl, cs, sn, C, S, E, y, q1, q2, q3, q4, q5, q6, q7⟩ := z
  obtain ⟨y', q2'⟩ := fr_6 f q2 (xll_a o q2)
  exact ⟨nc, pl, cs, sn, C, S, E, y', fr_o f q1 (xll_o o q1 (by omega)), q2', fr_b f q3 q6.2 (xll_a o q3), fr_a f q4 (by decide) (xll_a o q4), fr_a f q5 (by decide) (xll_a o q5), q6, q7⟩
theorem qRW_fl {o' cap : Nat} {n : Int} {g1 g2 : Int → Int} (z : qRW h o' cap n g1 g2) (f : qFr gb Bs X h h') (hc : ¬ cap = 6) (o : qXl X h) : qRW h' o' cap n g1 g2 := by
  obtain ⟨r1, r2, q1, q2, q3, q4⟩ := z
  exact ⟨r1, r2, fr_o f q1 (xll_o o q1 (by omega)), fr_a f q2 hc (xll_a o q2), fr_a f q3 hc (xll_a o q3), q4⟩
theorem qIR_fl {a n : Nat} {g : Int → Int} (z : qIR h a n g) (f : qFr gb Bs X h h') (hn : ¬ n = 6) (o : qXl X h) : qIR h' a n g := by
  obtain ⟨W, q1, q2⟩ := z
  exact ⟨W, fr_a f q1 hn (xll_a o q1), q2⟩
theorem qAW_fl {a r : Nat} {p : Int} (hk : 0 ≤ s (43 + p) ∧ s (43 + p) ≤ 6) (z : qAW a r s p h) (f : qFr gb Bs X h h') (o : qXl X h) : qAW a r s p h' := by
  obtain ⟨t', fs, e, ha⟩ := AUC_o (r := r) (p := p) (v := s (49 + p)) (kn := s (55 + p)) hk
  have z1 := z.1.trans (congrArg some e)
  refine ⟨?_, fun q => ?_⟩
  · have := fr_o f z1 (xll_o o z1 (fun q => by subst q; exact absurd ha (by decide)))
    exact this.trans (congrArg some e.symm)
  · obtain ⟨ro, r1, r2⟩ := z.2 q
    exact ⟨ro, fr_a f r1 (by decide) (xll_a o r1), r2⟩
theorem qAK_fl {a : Nat} {i : Int} (z : qAK a s i h) (f : qFr gb Bs X h h') (o : qXl X h) : qAK a s i h' := fr_o f z (xll_o o z (by omega))
theorem qWX_fl (z : qWX Bs w s h) (f : qFr gb Bs X h h') (o : qXl X h) : qWX Bs w s h' := by
  obtain ⟨z1, z2, z3, z4, z5, z6, z7, c1, c2, c3, c4, z8⟩ := z
  exact ⟨fr_o f z1 (xll_o o z1 (by omega)), qIR_fl z2 f (by decide) o, qIR_fl z3 f (by decide) o, qRW_fl z4 f (by decide) o, qRW_fl z5 f (by decide) o, qRW_fl z6 f (by decide) o, qVL_fl z7 f o, c1, c2, c3, c4, fr_o f z8 (xll_o o z8 (by omega))⟩
theorem qW_fl (z : qW G Bs ad b w vd s h) (f : qFr gb Bs X h h') (hk : ∀ i, 0 ≤ i → i < s 27 → 0 ≤ s (43 + i) ∧ s (43 + i) ≤ 6) (o : qXl X h) (hl : ∀ k : Nat, k < 4 → ¬ X (w + k)) (he : ∀ k, 20 ≤ k → k < 23 → ¬ X (ad (b + k))) : qW G Bs ad b w vd s h' := by
  obtain ⟨zx, z1, z2, z3, z4, z5, z6⟩ := z
  exact ⟨qWX_fl zx f o, qLL_fr z1 f (hl 1 (by omega)) (he 20 (by omega) (by omega)), qLL_fr z2 f (hl 2 (by omega)) (he 21 (by omega) (by omega)), qLL_fr z3 f (hl 3 (by omega)) (he 22 (by omega) (by omega)), fun i i0 i1 => qAW_fl (hk i i0 i1) (z4 i i0 i1) f o, fun i i0 i1 => qAK_fl (z5 i i0 i1) f o, fun i i0 i1 => qVL_fl (z6 i i0 i1) f o⟩
/-- only fixed cells of another world are written -/
theorem qW_fa (A : qAD ad lo) (z : qW G Bs ad b w vd s h) (f : qFr gb Bs X h h') (hk : ∀ i, 0 ≤ i → i < s 27 → 0 ≤ s (43 + i) ∧ s (43 + i) ≤ 6) (h6 : s 27 ≤ 6 ∧ s 28 ≤ 5) (hv : ∀ i, 0 ≤ i → i < s 29 → lo ≤ vd i) (hX : ∀ a, X a → a < lo ∧ ¬ (w ≤ a ∧ a < w + 22)) : qW G Bs ad b w vd s h' := by
  have c : ∀ a, lo ≤ a → ¬ X a := fun a ha q => by have := (hX a q).1; omega
  exact ⟨qWX_fr z.1 f (fun k hk q => (hX _ q).2 ⟨by omega, by omega⟩), qWY_fr z.2 f hk h6 (fun k _ hk q => (hX _ q).2 ⟨by omega, by omega⟩) (fun k _ _ => c _ (A.2 _)) (fun k _ _ _ => c _ (by have := A.2 (b + k); omega)) (fun i k i0 i1 hk => c _ (by have := hv i i0 i1; omega))⟩
theorem qWY_ad (z : qWY G Bs ad b w vd s h) (h6 : s 27 ≤ 6 ∧ s 28 ≤ 5) (e : ∀ i, 0 ≤ i → i < 25 → ad' (b + i) = ad (b + i)) : qWY G Bs ad' b w vd s h := by
  obtain ⟨z1, z2, z3, z4, z5, z6⟩ := z
  have e10 : ∀ i, 0 ≤ i → i < 5 → ad' (b + 10 + i) = ad (b + 10 + i) := fun i i0 i1 => by
    have := e (10 + i) (by omega) (by omega)
    rw [← Int.add_assoc] at this; exact this
  have ll : ∀ {l e1 e2 : Nat} {n : Int} {f g : Int → Nat}, e2 = e1 → (∀ i, 0 ≤ i → i < n → g i = f i) → qLL G h l e1 n f → qLL G h l e2 n g := by
    intro l e1 e2 n f g he hf q
    rw [he]
    obtain ⟨mc, q | ⟨F, q1, q2, q3, q4, q5⟩⟩ := q
    · exact ⟨mc, Or.inl q⟩
    · exact ⟨mc, Or.inr ⟨F, q1, q2, q3, q4, fun i i0 i1 => (q5 i i0 i1).trans (congrArg some (hf i i0 i1).symm)⟩⟩
  refine ⟨ll (e 20 (by omega) (by omega)) (fun i i0 i1 => e i i0 (by omega)) z1, ll (e 21 (by omega) (by omega)) (fun i i0 i1 => e10 i i0 (by omega)) z2, ll (e 22 (by omega) (by omega)) (fun i i0 i1 => rfl) z3, fun i i0 i1 => ?_, fun i i0 i1 => ?_, z6⟩
  · rw [e i i0 (by omega)]; exact z4 i i0 i1
  · rw [e10 i i0 (by omega)]; exact z5 i i0 i1
theorem qW_ad (z : qW G Bs ad b w vd s h) (h6 : s 27 ≤ 6 ∧ s 28 ≤ 5) (e : ∀ i, 0 ≤ i → i < 25 → ad' (b + i) = ad (b + i)) : qW G Bs ad' b w vd s h := ⟨z.1, qWY_ad z.2 h6 e⟩
variable {d : Nat} {Q : KQ}
theorem c_ktwin (hf : qFs G h) {a : Nat} {c1 c2 c3 c4 : Int} (ha : h.2.2 a = some (cObj 1 [vI c1, vI c2, vI c3, vI c4])) (h4 : c4 = 0 ∨ c4 = 1) (hr : h.1 + 1 ≤ maxC ∧ h.2.1 + 4 ≤ maxS) : wpC G (d + 2) 95 [vR a] h Q = Q (some (vR (G.1 + h.1))) (hnew h (G.1 + h.1) 4 (cObj 1 [vI c1, vI c2, vI c3, vI c4])) := by
  have r1 : (h.1 + 1 ≤ maxC) = True := eq_true hr.1
  have r2 : (h.2.1 + 4 ≤ maxS) = True := eq_true hr.2
  have r3 : (c4 = 0 ∨ c4 = 1) = True := eq_true h4
  have nz : ¬ a = G.1 + h.1 := fun e => by
    rw [e, hf _ (Nat.le_refl _)] at ha; cases ha
  rw [e95]
  simp (disch := omega) only [KK, Int.reduceEq, not_false_iff, ↓reduceIte, ↓if_pos, ↓if_neg, xt_o, true_and, nlO_i, nlO_n, nlO_r, List.length_nil, List.length_cons, Nat.reduceAdd, Nat.reduceLeDiff, Nat.zero_le, U95, e94, U94, ha, hn_ne nz, hn_eq, hs_hn, r1, r2, r3, GX1, PX1, OKS, true_or]
theorem c_rtake {o o' cap : Nat} {n n' : Int} {f g f' g' : Int → Int} (z : qRW h o cap n f g) (z' : qRW h o' cap n' f' g') (hn : 0 ≤ n) (ho : o + 3 ≤ o' ∨ o' + 3 ≤ o) (hc : ¬ cap = 6) (hX : X o' ∧ X (o' + 1) ∧ X (o' + 2)) : ∃ h' : MH, qRW h' o' cap n f g ∧ qFr gb Bs X h h' ∧ (h'.1 = h.1 ∧ h'.2.1 = h.2.1) ∧ ∀ Q : KQ, wpC G (d + 3) 86 [vR o', vR o] h Q = Q none h' := by
  have hk := fun (K : KQ) => c_kept (G := G) (d := d) (Q := K) z
  obtain ⟨r1, r2, q1, q2, q3, q4⟩ := z
  obtain ⟨t1, t2, u1, u2, u3, u4⟩ := z'
  have hm := fun (K : KQ) => j_min (G := G) (d := d + 1) (h := h) (Q := K) (a := (cap : Int)) (b := min n cap)
  have em : min (cap : Int) (min n cap) = min n cap := by omega
  rw [em] at hm
  have hmn : 0 ≤ min n (cap : Int) ∧ min n (cap : Int) ≤ cap ∧ min n (cap : Int) ≤ cap := by omega
  have a1 : ¬ o + 2 = o' + 1 := by omega
  have a2 : ¬ o' = o' + 1 := by omega
  have a3 : ¬ o = o' + 1 := by omega
  have a4 : ¬ o' + 2 = o' + 1 := by omega
  have a5 : ¬ o = o' + 2 := by omega
  have a6 : ¬ o' = o' + 2 := by omega
  have a7 : ¬ o' + 1 = o' + 2 := by omega
  refine ⟨hset (hset (hset h (o' + 1) (cArr 0 cap (ix (fun z => if z < min n cap then r1 z else t1 z)))) (o' + 2) (cArr 0 cap (ix (fun z => if z < min n cap then r2 z else t2 z)))) o' (cObj 7 [vR (o' + 1), vR (o' + 2), vI n]), ⟨_, _, hs_eq, (hs_ne (fun q => a2 q.symm)).trans ((hs_ne a7).trans hs_eq), (hs_ne (fun q => a6 q.symm)).trans hs_eq, fun i i0 i1 i2 => ?_⟩, qFr_tr (qFr_set hX.2.1 u2) (qFr_tr (qFr_set hX.2.2 ((hs_ne a4).trans u3)) (qFr_set hX.1 ((hs_ne a6).trans ((hs_ne a2).trans u1)))), ⟨rfl, rfl⟩, fun Q => ?_⟩
  · show (if i < min n cap then r1 i else t1 i) = _ ∧ (if i < min n cap then r2 i else t2 i) = _
    rw [if_pos (by omega), if_pos (by omega)]
    exact q4 i i0 i1 i2
  · rw [e86]
    simp (disch := omega) only [KK, Int.reduceEq, not_false_iff, ↓reduceIte, ↓if_pos, ↓if_neg, xt_o, true_and, nlO_i, nlO_n, nlO_r, List.length_nil, List.length_cons, Nat.reduceAdd, Nat.reduceLeDiff, Nat.zero_le, U86, q1, q2, q3, u1, u2, u3, hs_ne a1, hs_ne a2, hs_ne a3, hs_ne a4, hs_ne a5, hs_ne a6, hs_ne a7, hk, hm, xl_a, GX7, PX7, VS7, xc_i]
end T1
