/-! a taking: the aunts, the askers, the valleys -/
theorem auntT_lt {t : Nat} (h : auntT t = true) : t < 14 ∧ ¬ t = 0 := by
  unfold auntT at h
  simp only [Bool.or_eq_true, beq_iff_eq] at h
  omega
theorem ll_cg {G : MG} {h : MH} {l e : Nat} {n : Int} {f g : Int → Nat} (q : qLL G h l e n f) (hf : ∀ i, 0 ≤ i → i < n → g i = f i) : qLL G h l e n g := by
  obtain ⟨mc, q | ⟨F, q1, q2, q3, q4, q5⟩⟩ := q
  · exact ⟨mc, Or.inl q⟩
  · exact ⟨mc, Or.inr ⟨F, q1, q2, q3, q4, fun i i0 i1 => (q5 i i0 i1).trans (congrArg some (hf i i0 i1).symm)⟩⟩
theorem xl_F {h : MH} : qXl (fun _ => False) h := fun _ _ x _ => x.elim
theorem xl_le {G : MG} {h : MH} {l e : Nat} {n : Int} {f : Int → Nat} (hf : qFs G h) (hm : h.1 ≤ maxC) (z : qLL G h l e n f) : qXl (fun q => q = l ∨ q = e) h := fun a c x hc => by
  have hmx : maxC = 683770 := rfl
  obtain ⟨mc, ⟨q1, q2, q3⟩ | ⟨F, q1, q2, q3⟩⟩ := z
  · rcases x with x | x
    · rw [x, q1] at hc; cases hc; exact Or.inl ⟨_, rfl⟩
    · rw [x, hf e (by omega)] at hc; cases hc
  · rcases x with x | x
    · rw [x, q1] at hc; cases hc; exact Or.inl ⟨_, rfl⟩
    · rw [x, q2] at hc; cases hc; exact Or.inr ⟨_, _, _, rfl⟩
theorem qG_e {G : MG} {ad : Int → Nat} {h h' : MH} {L : Int} {e' : Nat} (z : qG G ad h) (e : (e' = ad L ∧ h'.1 = h.1) ∨ (e' = G.1 + h.1 ∧ h'.1 = h.1 + 1)) (hm : h.1 + 1 ≤ maxC) : qG G (updA ad L e') h' := by
  rcases e with ⟨e1, e2⟩ | ⟨e1, e2⟩
  · have : updA ad L e' = ad := by
      funext i; unfold updA; by_cases c : i = L
      · rw [if_pos c, c, e1]
      · rw [if_neg c]
    rw [this]
    exact qG_mo z (by omega)
  · rw [e1]
    exact qG_up z (by omega) hm
section T2
variable {G : MG} {Bs : Nat → Prop} {s : Int → Int} {b b' : Int} {w w' : Nat} {vd : Int → Nat} {d : Nat}
theorem tk_aunts (ok : okW s) (hw : w + 22 ≤ w' ∨ w' + 22 ≤ w) (hwl : w + 22 ≤ G.1 + 79 ∧ w' + 22 ≤ G.1 + 79) (hb : b + 25 ≤ b' ∨ b' + 25 ≤ b) {sg dy aw : Int} {n2 n3 : Int} {f2 f3 : Int → Nat} : ∀ (m : Nat) (k : Int) (ad : Int → Nat) (h : MH), qG G ad h → qFs G h → h.2.2 (G.2.1 GE) = some (cRef 1 0 (fun _ => none)) → qW G Bs ad b w vd s h → h.2.2 w' = some (wO w' sg dy aw) → qLL G h (w' + 1) (ad (b' + 20)) k (fun i => ad (b' + i)) → (∀ i, 0 ≤ i → i < k → qAW (ad (b' + i)) (ad (b' + i) + 1) s i h) → qLL G h (w' + 2) (ad (b' + 21)) n2 f2 → qLL G h (w' + 3) (ad (b' + 22)) n3 f3 → 0 ≤ k → k + m = s 27 → h.1 + 3 * m + 1 ≤ maxC → h.2.1 + 18 * m ≤ maxS → ∃ (ad' : Int → Nat) (h' : MH), (qG G ad' h' ∧ qFs G h' ∧ h'.2.2 (G.2.1 GE) = some (cRef 1 0 (fun _ => none))) ∧ (∀ i, (i < b' ∨ b' + 6 ≤ i) → ¬ i = b' + 20 → ad' i = ad i) ∧ (ad' (b' + 20) = ad (b' + 20) ∨ G.1 + h.1 ≤ ad' (b' + 20)) ∧ qLL G h' (w' + 1) (ad' (b' + 20)) (s 27) (fun i => ad' (b' + i)) ∧ (∀ i, 0 ≤ i → i < s 27 → qAW (ad' (b' + i)) (ad' (b' + i) + 1) s i h') ∧ qFr G.1 Bs (fun q => q = w' + 1 ∨ q = ad (b' + 20)) h h' ∧ (h.1 ≤ h'.1 ∧ h'.1 ≤ h.1 + 3 * m) ∧ (h.2.1 ≤ h'.2.1 ∧ h'.2.1 ≤ h.2.1 + 18 * m) ∧ ∀ Q : KQ, wp G (d + 6) 53 9 [some (vR w'), some (vR w), some (vI k)] [] h Q = wp G (d + 6) 53 48 [some (vR w'), some (vR w), some (vI (s 27))] [] h' Q := by
  have h27 := ok.1.2.2.1
  have h28 := ok.1.2.1
  intro m
  induction m with
  | zero =>
    intro k ad h gq hf hst z hw' l1 la l2 l3 k0 hk hm1 hm2
    have : k = s 27 := by omega
    subst this
    refine ⟨ad, h, ⟨gq, hf, hst⟩, fun i _ _ => rfl, Or.inl rfl, l1, la, qFr_rf, by omega, by omega, fun Q => ?_⟩
    have z1 := z.1.1
    have hsz := fun (K : KQ) => ll_size (G := G) (d := d + 5) (Q := K) z.2.1
    have htg := fun (K : Nat → Prop) => ll_tag z.2.1 (K := K)
    generalize hW : wp G (d + 6) 53 48 [some (vR w'), some (vR w), some (vI (s 27))] [] h Q = W
    rw [u53_9]
    simp only [u53_10, u53_11, u53_14, u53_17, KK, z1, GX11, htg, hsz, VS0, List.length_nil, List.length_cons, Nat.reduceAdd, Nat.reduceLeDiff, Nat.zero_le, true_and]
    rw [if_pos (Int.le_refl _)]
    exact hW
  | succ m ih =>
    intro k ad h gq hf hst z hw' l1 la l2 l3 k0 hk hm1 hm2
    have z1 := z.1.1
    have hk7 := okW_k ok k k0 (by omega)
    have hA := z.2.2.2.2.1 k k0 (by omega)
    obtain ⟨h1, t1, t2, t3, t4, t5, t6⟩ := c_twin (Bs := Bs) (X := fun _ => False) (d := d + 2) hf hA hk7 ⟨by omega, by omega⟩
    obtain ⟨ad1, had1⟩ : ∃ ad1, ad1 = updA ad (b' + k) (G.1 + h.1) := ⟨_, rfl⟩
    have gq1 : qG G ad1 h1 := by rw [had1]; exact qG_up gq (by omega) (by omega)
    have hf1 := qFs_fr t2 hf
    have hst1 : h1.2.2 (G.2.1 GE) = some (cRef 1 0 (fun _ => none)) := fr_r t2 hst id
    have e20 : ad1 (b' + 20) = ad (b' + 20) := by rw [had1]; exact updA_ne (by omega)
    have l1' : qLL G h1 (w' + 1) (ad1 (b' + 20)) k (fun i => ad (b' + i)) := by rw [e20]; exact qLL_fr l1 t2 id id
    have zz1 := qW_f0 z t2 (okW_k ok)
    have hw1 : h1.2.2 w' = some (wO w' sg dy aw) := fr_o t2 hw' id
    obtain ⟨tt, fs, eA, hat⟩ := AUC_o (r := G.1 + h.1 + 1) (p := k) (v := s (49 + k)) (kn := s (55 + k)) hk7
    have htt := auntT_lt hat
    obtain ⟨h2, e', a1, a2, a3, a4, a5⟩ := c_add (Bs := Bs) (X := fun q => q = w' + 1 ∨ q = ad1 (b' + 20)) (d := d + 1) hf1 hst1 l1' (by omega) ⟨Or.inl rfl, Or.inr rfl⟩ (t1.1.trans (congrArg some eA)) htt.1 htt.2 ⟨by omega, by omega⟩ (g := fun i => ad1 (b' + i)) (fun i i0 i1 => by rw [had1]; exact updA_ne (by omega)) (by rw [had1]; exact updA_eq)
    obtain ⟨ad2, had2⟩ : ∃ ad2, ad2 = updA ad1 (b' + 20) e' := ⟨_, rfl⟩
    have gq2 : qG G ad2 h2 := by rw [had2]; exact qG_e gq1 a2 (by omega)
    have hf2 := qFs_fr a3 hf1
    have lo1 := gq.1.2
    have lo2 := gq1.1.2
    have nGE : ¬ G.2.1 GE = w' + 1 := by
      obtain ⟨mc, ⟨q1, -⟩ | ⟨F, q1, -⟩⟩ := l1
      · exact ne_ro hst q1
      · exact ne_ro hst q1
    have nGe : ¬ G.2.1 GE = ad1 (b' + 20) := fun q => by
      obtain ⟨mc, ⟨q1, q2, q3⟩ | ⟨F, q1, q2, q3⟩⟩ := l1'
      · have hmx : maxC = 683770 := rfl
        rw [q, hf1 _ (by omega)] at hst1; cases hst1
      · rw [q, q2] at hst1; cases hst1
    have hst2 : h2.2.2 (G.2.1 GE) = some (cRef 1 0 (fun _ => none)) := fr_r a3 hst1 (fun q => q.elim nGE nGe)
    have xl := xl_le hf1 (by omega) l1'
    have e2o : ∀ i, ¬ i = b' + 20 → ad2 i = ad1 i := fun i hi => by rw [had2]; exact updA_ne hi
    have e1o : ∀ i, ¬ i = b' + k → ad1 i = ad i := fun i hi => by rw [had1]; exact updA_ne hi
    have e2e : ad2 (b' + 20) = e' := by rw [had2]; exact updA_eq
    have zz2 : qW G Bs ad2 b w vd s h2 := by
      have q1 : qW G Bs ad1 b w vd s h1 := qW_ad zz1 ⟨h27.2, h28.2⟩ (fun i i0 i1 => e1o _ (by omega))
      have q2 : qW G Bs ad1 b w vd s h2 := qW_fl q1 a3 (okW_k ok) xl (fun j hj q => by
        rcases q with q | q
        · omega
        · have := lo2 (b' + 20); omega) (fun j j0 j1 q => by
        rcases q with q | q
        · have := lo2 (b + j); omega
        · have := gq1.1.1 _ _ q; omega)
      exact qW_ad q2 ⟨h27.2, h28.2⟩ (fun i i0 i1 => e2o _ (by omega))
    have hw2 : h2.2.2 w' = some (wO w' sg dy aw) := fr_o a3 hw1 (fun q => by
      rcases q with q | q
      · omega
      · have := lo2 (b' + 20); omega)
    have l2' : qLL G h2 (w' + 2) (ad2 (b' + 21)) n2 f2 := by
      rw [e2o _ (by omega), e1o _ (by omega)]
      refine qLL_fr (qLL_fr l2 t2 id id) a3 (fun q => ?_) (fun q => ?_)
      · rcases q with q | q
        · omega
        · have := lo2 (b' + 20); omega
      · rcases q with q | q
        · have := lo1 (b' + 21); omega
        · rw [e20] at q; have := gq.1.1 _ _ q; omega
    have l3' : qLL G h2 (w' + 3) (ad2 (b' + 22)) n3 f3 := by
      rw [e2o _ (by omega), e1o _ (by omega)]
      refine qLL_fr (qLL_fr l3 t2 id id) a3 (fun q => ?_) (fun q => ?_)
      · rcases q with q | q
        · omega
        · have := lo2 (b' + 20); omega
      · rcases q with q | q
        · have := lo1 (b' + 22); omega
        · rw [e20] at q; have := gq.1.1 _ _ q; omega
    have l12 : qLL G h2 (w' + 1) (ad2 (b' + 20)) (k + 1) (fun i => ad2 (b' + i)) := by
      rw [e2e]
      exact ll_cg a1 (fun i i0 i1 => e2o _ (by omega))
    have la2 : ∀ i, 0 ≤ i → i < k + 1 → qAW (ad2 (b' + i)) (ad2 (b' + i) + 1) s i h2 := fun i i0 i1 => by
      rw [e2o _ (by omega)]
      by_cases c : i = k
      · rw [c, had1, updA_eq]
        exact qAW_fl hk7 t1 a3 xl
      · rw [e1o _ (by omega)]
        exact qAW_fl (okW_k ok i i0 (by omega)) (qAW_fl (okW_k ok i i0 (by omega)) (la i i0 (by omega)) t2 xl_F) a3 xl
    have hc2 : h2.1 ≤ h.1 + 3 ∧ h1.1 ≤ h2.1 := by rcases a2 with q | q <;> omega
    obtain ⟨ad', h', ⟨r1, r2, r3⟩, r4, r4', r5, r6, r7, r8, r9, r10⟩ := ih (k + 1) ad2 h2 gq2 hf2 hst2 zz2 hw2 l12 la2 l2' l3' (by omega) (by omega) (by omega) (by omega)
    have e2alt : ad2 (b' + 20) = ad (b' + 20) ∨ G.1 + h.1 ≤ ad2 (b' + 20) := by
      rw [e2e]
      rcases a2 with q | q
      · left; rw [q.1, e20]
      · right; omega
    refine ⟨ad', h', ⟨r1, r2, r3⟩, fun i hi hn => (r4 i hi hn).trans ((e2o i hn).trans (e1o i (by omega))), ?_, r5, r6, ?_, by omega, by omega, fun Q => ?_⟩
    · rcases r4' with q | q
      · rw [q]; exact e2alt
      · right; omega
    · refine qFr_tr2 (qFr_tr (qFr_wk t2 (fun _ q => q.elim)) (qFr_wk a3 (fun a q => by rw [e20] at q; exact q))) r7 (fun a c q hc => ?_)
      rcases q with q | q
      · exact Or.inl q
      · rcases e2alt with e | e
        · exact Or.inr (q.trans e)
        · rw [q, hf _ e] at hc; cases hc
    · have hsz := fun (K : KQ) => ll_size (G := G) (d := d + 5) (Q := K) z.2.1
      have htg := fun (K : Nat → Prop) => ll_tag z.2.1 (K := K)
      have hgt := fun (K : KQ) => ll_get (G := G) (d := d + 3) (Q := K) z.2.1 (i := k) ⟨k0, by omega⟩
      have htg1 := fun (K : Nat → Prop) => ll_tag l1' (K := K)
      have hau := hA.1
      have hAC := fun (pc : Nat) (L : Loc') (st : List V) => AC (G := G) (d := d + 6) (h := h) (Q := Q) (a := ad (b + k)) (r := ad (b + k) + 1) (k := s (43 + k)) (p := k) (v := s (49 + k)) (kn := s (55 + k)) (y := 53) (pc := pc) (L := L) (st := st) hk7
      rw [hau] at t6
      rw [← r10 Q]
      generalize hW : wp G (d + 6) 53 9 [some (vR w'), some (vR w), some (vI (k + 1))] [] h2 Q = W
      rw [u53_9]
      simp only [u53_10, u53_11, u53_14, u53_17, KK, z1, GX11, htg, hsz, VS0, List.length_nil, List.length_cons, Nat.reduceAdd, Nat.reduceLeDiff, Nat.zero_le, true_and]
      rw [if_neg (by omega)]
      simp only [u53_20, u53_21, u53_24, u53_25, u53_28, u53_29, u53_32, u53_35, KK, z1, hw', GX11, htg, hgt, hau, hAC, t6, VS0, xt_o, List.length_nil, List.length_cons, Nat.reduceAdd, Nat.reduceLeDiff, Nat.zero_le, true_and]
      simp only [u53_38, u53_41, u53_42, u53_45, KK, htg1, a5, VS0, xt_o, nlO_i, nlO_r, List.length_nil, List.length_cons, Nat.reduceAdd, Nat.reduceLeDiff, Nat.zero_le, true_and]
      rw [ar_add (by omega)]
      exact hW
end T2
