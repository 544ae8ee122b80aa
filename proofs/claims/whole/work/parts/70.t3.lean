/-! a taking: the askers, the valleys -/
section T3
variable {G : MG} {Bs : Nat → Prop} {s : Int → Int} {b b' : Int} {w w' : Nat} {vd : Int → Nat} {d : Nat}
theorem ll_ng {G : MG} {h : MH} {l e : Nat} {n : Int} {f : Int → Nat} (z : qLL G h l e n f) (hf : qFs G h) (hm : h.1 ≤ maxC) (hst : h.2.2 (G.2.1 GE) = some (cRef 1 0 (fun _ => none))) : ¬ G.2.1 GE = l ∧ ¬ G.2.1 GE = e := by
  have hmx : maxC = 683770 := rfl
  obtain ⟨mc, ⟨q1, q2, q3⟩ | ⟨F, q1, q2, q3⟩⟩ := z
  · refine ⟨ne_ro hst q1, fun q => ?_⟩
    rw [q, hf _ (by omega)] at hst; cases hst
  · refine ⟨ne_ro hst q1, fun q => ?_⟩
    rw [q, q2] at hst; cases hst
theorem tk_asks (ok : okW s) (hw : w + 22 ≤ w' ∨ w' + 22 ≤ w) (hwl : w + 22 ≤ G.1 + 79 ∧ w' + 22 ≤ G.1 + 79) (hb : b + 25 ≤ b' ∨ b' + 25 ≤ b) {sg dy aw : Int} : ∀ (m : Nat) (k : Int) (ad : Int → Nat) (h : MH), qG G ad h → qFs G h → h.2.2 (G.2.1 GE) = some (cRef 1 0 (fun _ => none)) → qW G Bs ad b w vd s h → h.2.2 w' = some (wO w' sg dy aw) → qLL G h (w' + 2) (ad (b' + 21)) k (fun i => ad (b' + 10 + i)) → (∀ i, 0 ≤ i → i < k → qAK (ad (b' + 10 + i)) s i h) → 0 ≤ k → k + m = s 28 → h.1 + 3 * m + 1 ≤ maxC → h.2.1 + 18 * m ≤ maxS → ∃ (ad' : Int → Nat) (h' : MH), (qG G ad' h' ∧ qFs G h' ∧ h'.2.2 (G.2.1 GE) = some (cRef 1 0 (fun _ => none))) ∧ (∀ i, (i < b' + 10 ∨ b' + 15 ≤ i) → ¬ i = b' + 21 → ad' i = ad i) ∧ (ad' (b' + 21) = ad (b' + 21) ∨ G.1 + h.1 ≤ ad' (b' + 21)) ∧ qLL G h' (w' + 2) (ad' (b' + 21)) (s 28) (fun i => ad' (b' + 10 + i)) ∧ (∀ i, 0 ≤ i → i < s 28 → qAK (ad' (b' + 10 + i)) s i h') ∧ qFr G.1 Bs (fun q => q = w' + 2 ∨ q = ad (b' + 21)) h h' ∧ (h.1 ≤ h'.1 ∧ h'.1 ≤ h.1 + 3 * m) ∧ (h.2.1 ≤ h'.2.1 ∧ h'.2.1 ≤ h.2.1 + 18 * m) ∧ ∀ Q : KQ, wp G (d + 6) 53 57 [some (vR w'), some (vR w), some (vI k)] [] h Q = wp G (d + 6) 53 96 [some (vR w'), some (vR w), some (vI (s 28))] [] h' Q := by
  have h27 := ok.1.2.2.1
  have h28 := ok.1.2.1
  intro m
  induction m with
  | zero =>
    intro k ad h gq hf hst z hw' l1 la k0 hk hm1 hm2
    have : k = s 28 := by omega
    subst this
    refine ⟨ad, h, ⟨gq, hf, hst⟩, fun i _ _ => rfl, Or.inl rfl, l1, la, qFr_rf, by omega, by omega, fun Q => ?_⟩
    have z1 := z.1.1
    have hsz := fun (K : KQ) => ll_size (G := G) (d := d + 5) (Q := K) z.2.2.1
    have htg := fun (K : Nat → Prop) => ll_tag z.2.2.1 (K := K)
    generalize hW : wp G (d + 6) 53 96 [some (vR w'), some (vR w), some (vI (s 28))] [] h Q = W
    rw [u53_57]
    simp only [u53_58, u53_59, u53_62, u53_65, KK, z1, GX11, htg, hsz, VS0, List.length_nil, List.length_cons, Nat.reduceAdd, Nat.reduceLeDiff, Nat.zero_le, true_and]
    rw [if_pos (Int.le_refl _)]
    exact hW
  | succ m ih =>
    intro k ad h gq hf hst z hw' l1 la k0 hk hm1 hm2
    have z1 := z.1.1
    have hK : h.2.2 (ad (b + 10 + k)) = some (cObj 1 [vI (s (1 + k)), vI (s (6 + k)), vI (s (11 + k)), vI (s (16 + k))]) := z.2.2.2.2.2.1 k k0 (by omega)
    have hb4 := (ok.2.2.2.2.2.2 k k0 (by omega)).1
    have t6 := fun (Q : KQ) => c_ktwin (G := G) (d := d + 4) (Q := Q) hf hK hb4 ⟨by omega, by omega⟩
    obtain ⟨h1, hh1⟩ : ∃ h1, h1 = hnew h (G.1 + h.1) 4 (cObj 1 [vI (s (1 + k)), vI (s (6 + k)), vI (s (11 + k)), vI (s (16 + k))]) := ⟨_, rfl⟩
    rw [← hh1] at t6
    have t2 : qFr G.1 Bs (fun _ => False) h h1 := by rw [hh1]; exact qFr_new hf
    have t1 : h1.2.2 (G.1 + h.1) = some (cObj 1 [vI (s (1 + k)), vI (s (6 + k)), vI (s (11 + k)), vI (s (16 + k))]) := by rw [hh1, hn_eq]
    have t3 : h1.1 = h.1 + 1 := by rw [hh1, hn_1]
    have t4 : h1.2.1 = h.2.1 + 4 := by rw [hh1, hn_2]
    obtain ⟨ad1, had1⟩ : ∃ ad1, ad1 = updA ad (b' + 10 + k) (G.1 + h.1) := ⟨_, rfl⟩
    have gq1 : qG G ad1 h1 := by rw [had1]; exact qG_up gq (by omega) (by omega)
    have hf1 := qFs_fr t2 hf
    have hst1 : h1.2.2 (G.2.1 GE) = some (cRef 1 0 (fun _ => none)) := fr_r t2 hst id
    have e20 : ad1 (b' + 21) = ad (b' + 21) := by rw [had1]; exact updA_ne (by omega)
    have l1' : qLL G h1 (w' + 2) (ad1 (b' + 21)) k (fun i => ad (b' + 10 + i)) := by rw [e20]; exact qLL_fr l1 t2 id id
    have zz1 := qW_f0 z t2 (okW_k ok)
    have hw1 : h1.2.2 w' = some (wO w' sg dy aw) := fr_o t2 hw' id
    obtain ⟨h2, e', a1, a2, a3, a4, a5⟩ := c_add (Bs := Bs) (X := fun q => q = w' + 2 ∨ q = ad1 (b' + 21)) (d := d + 1) hf1 hst1 l1' (by omega) ⟨Or.inl rfl, Or.inr rfl⟩ t1 (by decide) (by decide) ⟨by omega, by omega⟩ (g := fun i => ad1 (b' + 10 + i)) (fun i i0 i1 => by rw [had1]; exact updA_ne (by omega)) (by rw [had1]; exact updA_eq)
    obtain ⟨ad2, had2⟩ : ∃ ad2, ad2 = updA ad1 (b' + 21) e' := ⟨_, rfl⟩
    have gq2 : qG G ad2 h2 := by rw [had2]; exact qG_e gq1 a2 (by omega)
    have hf2 := qFs_fr a3 hf1
    have lo1 := gq.1.2
    have lo2 := gq1.1.2
    have ng := ll_ng l1' hf1 (by omega) hst1
    have hst2 : h2.2.2 (G.2.1 GE) = some (cRef 1 0 (fun _ => none)) := fr_r a3 hst1 (fun q => q.elim ng.1 ng.2)
    have xl := xl_le hf1 (by omega) l1'
    have e2o : ∀ i, ¬ i = b' + 21 → ad2 i = ad1 i := fun i hi => by rw [had2]; exact updA_ne hi
    have e1o : ∀ i, ¬ i = b' + 10 + k → ad1 i = ad i := fun i hi => by rw [had1]; exact updA_ne hi
    have e2e : ad2 (b' + 21) = e' := by rw [had2]; exact updA_eq
    have zz2 : qW G Bs ad2 b w vd s h2 := by
      have q1 : qW G Bs ad1 b w vd s h1 := qW_ad zz1 ⟨h27.2, h28.2⟩ (fun i i0 i1 => e1o _ (by omega))
      have q2 : qW G Bs ad1 b w vd s h2 := qW_fl q1 a3 (okW_k ok) xl (fun j hj q => by
        rcases q with q | q
        · omega
        · have := lo2 (b' + 21); omega) (fun j j0 j1 q => by
        rcases q with q | q
        · have := lo2 (b + j); omega
        · have := gq1.1.1 _ _ q; omega)
      exact qW_ad q2 ⟨h27.2, h28.2⟩ (fun i i0 i1 => e2o _ (by omega))
    have hw2 : h2.2.2 w' = some (wO w' sg dy aw) := fr_o a3 hw1 (fun q => by
      rcases q with q | q
      · omega
      · have := lo2 (b' + 21); omega)
    have l12 : qLL G h2 (w' + 2) (ad2 (b' + 21)) (k + 1) (fun i => ad2 (b' + 10 + i)) := by
      rw [e2e]
      exact ll_cg a1 (fun i i0 i1 => e2o _ (by omega))
    have la2 : ∀ i, 0 ≤ i → i < k + 1 → qAK (ad2 (b' + 10 + i)) s i h2 := fun i i0 i1 => by
      rw [e2o _ (by omega)]
      by_cases c : i = k
      · rw [c, had1, updA_eq]
        exact qAK_fl t1 a3 xl
      · rw [e1o _ (by omega)]
        exact qAK_fl (qAK_fl (la i i0 (by omega)) t2 xl_F) a3 xl
    have hc2 : h2.1 ≤ h.1 + 3 ∧ h1.1 ≤ h2.1 := by rcases a2 with q | q <;> omega
    obtain ⟨ad', h', ⟨r1, r2, r3⟩, r4, r4', r5, r6, r7, r8, r9, r10⟩ := ih (k + 1) ad2 h2 gq2 hf2 hst2 zz2 hw2 l12 la2 (by omega) (by omega) (by omega) (by omega)
    have e2alt : ad2 (b' + 21) = ad (b' + 21) ∨ G.1 + h.1 ≤ ad2 (b' + 21) := by
      rw [e2e]
      rcases a2 with q | q
      · left; rw [q.1, e20]
      · right; omega
    refine ⟨ad', h', ⟨r1, r2, r3⟩, fun i hi hn => (r4 i hi hn).trans ((e2o i hn).trans (e1o i (by omega))), ?_, r5, r6, ?_, by omega, by omega, fun Q => ?_⟩
    · rcases r4' with q | q
      · rw [q]; exact e2alt
      · right; omega
    · refine qFr_tr2 (qFr_tr (qFr_wk t2 (fun _ q => q.elim)) (qFr_wk a3 (fun a q => by rw [e20] at q; exact q))) r7 (fun a c q hc => ?_)
      rcases q with q | q
      · exact Or.inl q
      · rcases e2alt with e | e
        · exact Or.inr (q.trans e)
        · rw [q, hf _ e] at hc; cases hc
    · have hsz := fun (K : KQ) => ll_size (G := G) (d := d + 5) (Q := K) z.2.2.1
      have htg := fun (K : Nat → Prop) => ll_tag z.2.2.1 (K := K)
      have hgt := fun (K : KQ) => ll_get (G := G) (d := d + 3) (Q := K) z.2.2.1 (i := k) ⟨k0, by omega⟩
      have htg1 := fun (K : Nat → Prop) => ll_tag l1' (K := K)
      rw [← r10 Q]
      generalize hW : wp G (d + 6) 53 57 [some (vR w'), some (vR w), some (vI (k + 1))] [] h2 Q = W
      rw [u53_57]
      simp only [u53_58, u53_59, u53_62, u53_65, KK, z1, GX11, htg, hsz, VS0, List.length_nil, List.length_cons, Nat.reduceAdd, Nat.reduceLeDiff, Nat.zero_le, true_and]
      rw [if_neg (by omega)]
      simp only [u53_68, u53_69, u53_72, u53_73, u53_76, u53_77, u53_80, u53_83, KK, z1, hw', hK, OKS, GX11, htg, hgt, t6, VS0, VS1, xt_o, List.length_nil, List.length_cons, Nat.reduceAdd, Nat.reduceLeDiff, Nat.zero_le, true_and]
      simp only [u53_86, u53_89, u53_90, u53_93, KK, htg1, a5, VS0, xt_o, nlO_i, nlO_r, List.length_nil, List.length_cons, Nat.reduceAdd, Nat.reduceLeDiff, Nat.zero_le, true_and]
      rw [ar_add (by omega)]
      exact hW
theorem tk_vals (ok : okW s) (hw : w + 22 ≤ w' ∨ w' + 22 ≤ w) (hwl : w + 22 ≤ G.1 + 79 ∧ w' + 22 ≤ G.1 + 79) (hb : b + 25 ≤ b' ∨ b' + 25 ≤ b) {sg dy aw : Int} : ∀ (m : Nat) (k : Int) (ad : Int → Nat) (h : MH), qG G ad h → qFs G h → h.2.2 (G.2.1 GE) = some (cRef 1 0 (fun _ => none)) → qW G Bs ad b w vd s h → h.2.2 w' = some (wO w' sg dy aw) → qLL G h (w' + 3) (ad (b' + 22)) k vd → 0 ≤ k → k + m = s 29 → h.1 + 3 * m + 1 ≤ maxC → h.2.1 + 18 * m ≤ maxS → ∃ (ad' : Int → Nat) (h' : MH), (qG G ad' h' ∧ qFs G h' ∧ h'.2.2 (G.2.1 GE) = some (cRef 1 0 (fun _ => none))) ∧ (∀ i, ¬ i = b' + 22 → ad' i = ad i) ∧ (ad' (b' + 22) = ad (b' + 22) ∨ G.1 + h.1 ≤ ad' (b' + 22)) ∧ qLL G h' (w' + 3) (ad' (b' + 22)) (s 29) vd ∧ qFr G.1 Bs (fun q => q = w' + 3 ∨ q = ad (b' + 22)) h h' ∧ (h.1 ≤ h'.1 ∧ h'.1 ≤ h.1 + 3 * m) ∧ (h.2.1 ≤ h'.2.1 ∧ h'.2.1 ≤ h.2.1 + 18 * m) ∧ ∀ Q : KQ, wp G (d + 6) 53 105 [some (vR w'), some (vR w), some (vI k)] [] h Q = wp G (d + 6) 53 141 [some (vR w'), some (vR w), some (vI (s 29))] [] h' Q := by
  have h27 := ok.1.2.2.1
  have h28 := ok.1.2.1
  have h29 := ok.2.2.1
  intro m
  induction m with
  | zero =>
    intro k ad h gq hf hst z hw' l1 k0 hk hm1 hm2
    have : k = s 29 := by omega
    subst this
    refine ⟨ad, h, ⟨gq, hf, hst⟩, fun i _ => rfl, Or.inl rfl, l1, qFr_rf, by omega, by omega, fun Q => ?_⟩
    have z1 := z.1.1
    have hsz := fun (K : KQ) => ll_size (G := G) (d := d + 5) (Q := K) z.2.2.2.1
    have htg := fun (K : Nat → Prop) => ll_tag z.2.2.2.1 (K := K)
    generalize hW : wp G (d + 6) 53 141 [some (vR w'), some (vR w), some (vI (s 29))] [] h Q = W
    rw [u53_105]
    simp only [u53_106, u53_107, u53_110, u53_113, KK, z1, GX11, htg, hsz, VS0, List.length_nil, List.length_cons, Nat.reduceAdd, Nat.reduceLeDiff, Nat.zero_le, true_and]
    rw [if_pos (Int.le_refl _)]
    exact hW
  | succ m ih =>
    intro k ad h gq hf hst z hw' l1 k0 hk hm1 hm2
    have z1 := z.1.1
    obtain ⟨nc, pl, cs, sn, C, S, E, y, hv, -⟩ := z.2.2.2.2.2.2 k k0 (by omega)
    obtain ⟨h2, e', a1, a2, a3, a4, a5⟩ := c_add (Bs := Bs) (X := fun q => q = w' + 3 ∨ q = ad (b' + 22)) (d := d + 1) hf hst l1 (by omega) ⟨Or.inl rfl, Or.inr rfl⟩ hv (by decide) (by decide) ⟨by omega, by omega⟩ (g := vd) (fun i i0 i1 => rfl) rfl
    obtain ⟨ad2, had2⟩ : ∃ ad2, ad2 = updA ad (b' + 22) e' := ⟨_, rfl⟩
    have gq2 : qG G ad2 h2 := by rw [had2]; exact qG_e gq a2 (by omega)
    have hf2 := qFs_fr a3 hf
    have lo2 := gq.1.2
    have ng := ll_ng l1 hf (by omega) hst
    have hst2 : h2.2.2 (G.2.1 GE) = some (cRef 1 0 (fun _ => none)) := fr_r a3 hst (fun q => q.elim ng.1 ng.2)
    have xl := xl_le hf (by omega) l1
    have e2o : ∀ i, ¬ i = b' + 22 → ad2 i = ad i := fun i hi => by rw [had2]; exact updA_ne hi
    have e2e : ad2 (b' + 22) = e' := by rw [had2]; exact updA_eq
    have zz2 : qW G Bs ad2 b w vd s h2 := by
      have q2 : qW G Bs ad b w vd s h2 := qW_fl z a3 (okW_k ok) xl (fun j hj q => by
        rcases q with q | q
        · omega
        · have := lo2 (b' + 22); omega) (fun j j0 j1 q => by
        rcases q with q | q
        · have := lo2 (b + j); omega
        · have := gq.1.1 _ _ q; omega)
      exact qW_ad q2 ⟨h27.2, h28.2⟩ (fun i i0 i1 => e2o _ (by omega))
    have hw2 : h2.2.2 w' = some (wO w' sg dy aw) := fr_o a3 hw' (fun q => by
      rcases q with q | q
      · omega
      · have := lo2 (b' + 22); omega)
    have l12 : qLL G h2 (w' + 3) (ad2 (b' + 22)) (k + 1) vd := by
      rw [e2e]; exact a1
    have hc2 : h2.1 ≤ h.1 + 3 ∧ h.1 ≤ h2.1 := by rcases a2 with q | q <;> omega
    obtain ⟨ad', h', ⟨r1, r2, r3⟩, r4, r4', r5, r7, r8, r9, r10⟩ := ih (k + 1) ad2 h2 gq2 hf2 hst2 zz2 hw2 l12 (by omega) (by omega) (by omega) (by omega)
    have e2alt : ad2 (b' + 22) = ad (b' + 22) ∨ G.1 + h.1 ≤ ad2 (b' + 22) := by
      rw [e2e]
      rcases a2 with q | q
      · left; rw [q.1]
      · right; omega
    refine ⟨ad', h', ⟨r1, r2, r3⟩, fun i hn => (r4 i hn).trans (e2o i hn), ?_, r5, ?_, by omega, by omega, fun Q => ?_⟩
    · rcases r4' with q | q
      · rw [q]; exact e2alt
      · right; omega
    · refine qFr_tr2 a3 r7 (fun a c q hc => ?_)
      rcases q with q | q
      · exact Or.inl q
      · rcases e2alt with e | e
        · exact Or.inr (q.trans e)
        · rw [q, hf _ e] at hc; cases hc
    · have hsz := fun (K : KQ) => ll_size (G := G) (d := d + 5) (Q := K) z.2.2.2.1
      have htg := fun (K : Nat → Prop) => ll_tag z.2.2.2.1 (K := K)
      have hgt := fun (K : KQ) => ll_get (G := G) (d := d + 3) (Q := K) z.2.2.2.1 (i := k) ⟨k0, by omega⟩
      have htg1 := fun (K : Nat → Prop) => ll_tag l1 (K := K)
      rw [← r10 Q]
      generalize hW : wp G (d + 6) 53 105 [some (vR w'), some (vR w), some (vI (k + 1))] [] h2 Q = W
      rw [u53_105]
      simp only [u53_106, u53_107, u53_110, u53_113, KK, z1, GX11, htg, hsz, VS0, List.length_nil, List.length_cons, Nat.reduceAdd, Nat.reduceLeDiff, Nat.zero_le, true_and]
      rw [if_neg (by omega)]
      simp only [u53_116, u53_117, u53_120, u53_121, u53_124, u53_125, u53_128, KK, z1, hw', hv, OKS, GX11, htg, hgt, VS0, xt_o, List.length_nil, List.length_cons, Nat.reduceAdd, Nat.reduceLeDiff, Nat.zero_le, true_and]
      simp only [u53_131, u53_134, u53_135, u53_138, KK, htg1, a5, VS0, xt_o, nlO_i, nlO_r, List.length_nil, List.length_cons, Nat.reduceAdd, Nat.reduceLeDiff, Nat.zero_le, true_and]
      rw [ar_add (by omega)]
      exact hW
end T3
