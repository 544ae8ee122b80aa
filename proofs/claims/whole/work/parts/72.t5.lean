/-! a taking: all of it -/
section T5
variable {G : MG} {Bs : Nat → Prop} {s s' : Int → Int} {b b' : Int} {w w' : Nat} {vd vd' : Int → Nat} {d : Nat} {ad : Int → Nat}
theorem ph_w {h1 h2 : MH} {adA adB : Int → Nat} {j : Nat} {jj bu : Int} {wu : Nat} {vu : Int → Nat} {su : Int → Int} (hj : 1 ≤ j ∧ j ≤ 3) (hjj : 20 ≤ jj ∧ jj ≤ 22) (A : qAD adA (G.1 + 79)) (f : qFr G.1 Bs (fun q => q = w' + j ∨ q = adA (b' + jj)) h1 h2) (o : qXl (fun q => q = w' + j ∨ q = adA (b' + jj)) h1) (adr : ∀ i, (i < b' ∨ b' + 25 ≤ i) → adB i = adA i) (hw : wu + 22 ≤ w' ∨ w' + 22 ≤ wu) (hl : wu + 22 ≤ G.1 + 79 ∧ w' + 22 ≤ G.1 + 79) (hb : bu + 25 ≤ b' ∨ b' + 25 ≤ bu) (ok : okW su) (z : qW G Bs adA bu wu vu su h1) : qW G Bs adB bu wu vu su h2 := by
  have h27 := ok.1.2.2.1
  have h28 := ok.1.2.1
  refine qW_ad (qW_fl z f (okW_k ok) o (fun k hk q => ?_) (fun k k0 k1 q => ?_)) ⟨h27.2, h28.2⟩ (fun i i0 i1 => adr _ (by omega))
  · rcases q with q | q
    · omega
    · have := A.2 (b' + jj); omega
  · rcases q with q | q
    · have := A.2 (bu + k); omega
    · have := A.1 _ _ q; omega
theorem c_take {h : MH} (gq : qG G ad h) (hf : qFs G h) (hst : h.2.2 (G.2.1 GE) = some (cRef 1 0 (fun _ => none))) (okp : okP s) (hw : w + 22 ≤ w' ∨ w' + 22 ≤ w) (hwl : w + 22 ≤ G.1 + 79 ∧ w' + 22 ≤ G.1 + 79) (hge : G.2.1 GE < G.1 ∧ G.1 ≤ w') (hb : b + 25 ≤ b' ∨ b' + 25 ≤ b) (z : qW G Bs ad b w vd s h) (z' : qW G Bs ad b' w' vd' s' h) (hv : ∀ i, 0 ≤ i → i < s 29 → G.1 + 79 ≤ vd i) (hr : h.1 + 60 ≤ maxC ∧ h.2.1 + 300 ≤ maxS) : ∃ (ad' : Int → Nat) (h' : MH), (qG G ad' h' ∧ qFs G h' ∧ h'.2.2 (G.2.1 GE) = some (cRef 1 0 (fun _ => none))) ∧ (∀ i, (i < b' ∨ b' + 25 ≤ i) → ad' i = ad i) ∧ qW G Bs ad' b' w' vd s h' ∧ (∀ (bu : Int) (wu : Nat) (vu : Int → Nat) (su : Int → Int), (wu + 22 ≤ w' ∨ w' + 22 ≤ wu) → wu + 22 ≤ G.1 + 79 → (bu + 25 ≤ b' ∨ b' + 25 ≤ bu) → okW su → (∀ i, 0 ≤ i → i < su 29 → G.1 + 79 ≤ vu i) → qW G Bs ad bu wu vu su h → qW G Bs ad' bu wu vu su h') ∧ qFr G.1 Bs (fun q => (w' ≤ q ∧ q < w' + 15) ∨ G.1 + 79 ≤ q) h h' ∧ (h.1 ≤ h'.1 ∧ h'.1 ≤ h.1 + 60) ∧ (h.2.1 ≤ h'.2.1 ∧ h'.2.1 ≤ h.2.1 + 300) ∧ ∀ Q : KQ, wpC G (d + 7) 53 [vR w', vR w] h Q = Q none h' := by
  have ok := okp.1
  have h27 := ok.1.2.2.1
  have h28 := ok.1.2.1
  have h29 := ok.2.2.1
  have lo0 := gq.1.2
  obtain ⟨zx', y1, y2, y3, -⟩ := z'
  -- the aunts
  obtain ⟨h1, p1, p2, p3, p4⟩ := c_clear (Bs := Bs) (X := fun q => q = w' + 1 ∨ q = ad (b' + 20)) (d := d + 5) y1 ⟨Or.inl rfl, Or.inr rfl⟩ (fun i => ad (b' + i))
  have o0 := xl_le hf (by omega) y1
  have gq1 := qG_mo (h' := h1) gq (by omega)
  have hf1 := qFs_fr p2 hf
  have ng0 := ll_ng y1 hf (by omega) hst
  have hst1 : h1.2.2 (G.2.1 GE) = some (cRef 1 0 (fun _ => none)) := fr_r p2 hst (fun q => q.elim ng0.1 ng0.2)
  have z1 : qW G Bs ad b w vd s h1 := ph_w (by omega) (by omega) gq.1 p2 o0 (fun _ _ => rfl) hw hwl hb ok z
  have zx1 := qWX_fl zx' p2 o0
  obtain ⟨ad2, h2, ⟨gq2, hf2, hst2⟩, q4, q4', q5, q6, q7, q8, q9, q10⟩ := tk_aunts (Bs := Bs) (d := d) ok hw hwl hb (n2 := s' 28) (n3 := s' 29) (f2 := fun i => ad (b' + 10 + i)) (f3 := vd') (s 27).toNat 0 ad h1 gq1 hf1 hst1 z1 zx1.1 p1 (fun i i0 i1 => by omega) (qLL_fr y2 p2 (fun q => by
    rcases q with q | q
    · omega
    · have := lo0 (b' + 20); omega) (fun q => by
    rcases q with q | q
    · have := lo0 (b' + 21); omega
    · have := gq.1.1 _ _ q; omega)) (qLL_fr y3 p2 (fun q => by
    rcases q with q | q
    · omega
    · have := lo0 (b' + 20); omega) (fun q => by
    rcases q with q | q
    · have := lo0 (b' + 22); omega
    · have := gq.1.1 _ _ q; omega)) (by omega) (by omega) (by omega) (by omega)
  have o1 := xl_le hf1 (by omega) p1
  have z2 : qW G Bs ad2 b w vd s h2 := ph_w (by omega) (by omega) gq.1 q7 o1 (fun i hi => q4 i (by omega) (by omega)) hw hwl hb ok z1
  have zx2 := qWX_fl zx1 q7 o1
  -- the askers
  have F02 : qFr G.1 Bs (fun q => q = w' + 1 ∨ q = ad (b' + 20)) h h2 := qFr_tr p2 q7
  have lo2 := gq2.1.2
  have y2b : qLL G h2 (w' + 2) (ad2 (b' + 21)) (s' 28) (fun i => ad (b' + 10 + i)) := by
    rw [q4 _ (by omega) (by omega)]
    refine qLL_fr y2 F02 (fun q => ?_) (fun q => ?_)
    · rcases q with q | q
      · omega
      · have := lo0 (b' + 20); omega
    · rcases q with q | q
      · have := lo0 (b' + 21); omega
      · have := gq.1.1 _ _ q; omega
  obtain ⟨h3, r1, r2, r3, r4⟩ := c_clear (Bs := Bs) (X := fun q => q = w' + 2 ∨ q = ad2 (b' + 21)) (d := d + 5) y2b ⟨Or.inl rfl, Or.inr rfl⟩ (fun i => ad2 (b' + 10 + i))
  have o2 := xl_le hf2 (by omega) y2b
  have gq3 := qG_mo (h' := h3) gq2 (by omega)
  have hf3 := qFs_fr r2 hf2
  have ng2 := ll_ng y2b hf2 (by omega) hst2
  have hst3 : h3.2.2 (G.2.1 GE) = some (cRef 1 0 (fun _ => none)) := fr_r r2 hst2 (fun q => q.elim ng2.1 ng2.2)
  have z3 : qW G Bs ad2 b w vd s h3 := ph_w (by omega) (by omega) gq2.1 r2 o2 (fun _ _ => rfl) hw hwl hb ok z2
  have zx3 := qWX_fl zx2 r2 o2
  obtain ⟨ad4, h4, ⟨gq4, hf4, hst4⟩, t4, t4', t5, t6, t7, t8, t9, t10⟩ := tk_asks (Bs := Bs) (d := d) ok hw hwl hb (s 28).toNat 0 ad2 h3 gq3 hf3 hst3 z3 zx3.1 r1 (fun i i0 i1 => by omega) (by omega) (by omega) (by omega) (by omega)
  have o3 := xl_le hf3 (by omega) r1
  have z4 : qW G Bs ad4 b w vd s h4 := ph_w (by omega) (by omega) gq2.1 t7 o3 (fun i hi => t4 i (by omega) (by omega)) hw hwl hb ok z3
  have zx4 := qWX_fl zx3 t7 o3
  -- the valleys
  have F24 : qFr G.1 Bs (fun q => q = w' + 2 ∨ q = ad2 (b' + 21)) h2 h4 := qFr_tr r2 t7
  have lo4 := gq4.1.2
  have y3b : qLL G h4 (w' + 3) (ad4 (b' + 22)) (s' 29) vd' := by
    rw [t4 _ (by omega) (by omega), q4 _ (by omega) (by omega)]
    refine qLL_fr (qLL_fr y3 F02 (fun q => ?_) (fun q => ?_)) F24 (fun q => ?_) (fun q => ?_)
    · rcases q with q | q
      · omega
      · have := lo0 (b' + 20); omega
    · rcases q with q | q
      · have := lo0 (b' + 22); omega
      · have := gq.1.1 _ _ q; omega
    · rcases q with q | q
      · omega
      · have := lo2 (b' + 21); omega
    · rw [← q4 _ (by omega) (by omega)] at q
      rcases q with q | q
      · have := lo2 (b' + 22); omega
      · have := gq2.1.1 _ _ q; omega
  obtain ⟨h5, u1, u2, u3, u4⟩ := c_clear (Bs := Bs) (X := fun q => q = w' + 3 ∨ q = ad4 (b' + 22)) (d := d + 5) y3b ⟨Or.inl rfl, Or.inr rfl⟩ vd
  have o4 := xl_le hf4 (by omega) y3b
  have gq5 := qG_mo (h' := h5) gq4 (by omega)
  have hf5 := qFs_fr u2 hf4
  have ng4 := ll_ng y3b hf4 (by omega) hst4
  have hst5 : h5.2.2 (G.2.1 GE) = some (cRef 1 0 (fun _ => none)) := fr_r u2 hst4 (fun q => q.elim ng4.1 ng4.2)
  have z5 : qW G Bs ad4 b w vd s h5 := ph_w (by omega) (by omega) gq4.1 u2 o4 (fun _ _ => rfl) hw hwl hb ok z4
  have zx5 := qWX_fl zx4 u2 o4
  obtain ⟨ad6, h6, ⟨gq6, hf6, hst6⟩, v4, v4', v5, v7, v8, v9, v10⟩ := tk_vals (Bs := Bs) (d := d) ok hw hwl hb (s 29).toNat 0 ad4 h5 gq5 hf5 hst5 z5 zx5.1 u1 (by omega) (by omega) (by omega) (by omega)
  have o5 := xl_le hf5 (by omega) u1
  have z6 : qW G Bs ad6 b w vd s h6 := ph_w (by omega) (by omega) gq4.1 v7 o5 (fun i hi => v4 i (by omega)) hw hwl hb ok z5
  have zx6 := qWX_fl zx5 v7 o5
  have F46 : qFr G.1 Bs (fun q => q = w' + 3 ∨ q = ad4 (b' + 22)) h4 h6 := qFr_tr u2 v7
  obtain ⟨h7, x1, x2, x3, x4⟩ := tk_rest (Bs := Bs) (d := d + 2) okp hw z6.1 zx6
  have e62 : ∀ i, 0 ≤ i → i < 6 → ad6 (b' + i) = ad2 (b' + i) := fun i i0 i1 => (v4 _ (by omega)).trans (t4 _ (by omega) (by omega))
  have e64 : ∀ i, 0 ≤ i → i < 5 → ad6 (b' + 10 + i) = ad4 (b' + 10 + i) := fun i i0 i1 => v4 _ (by omega)
  have lo6 := gq6.1.2
  have hf7 := qFs_fr x2 hf6
  have wy : qWY G Bs ad6 b' w' vd s h6 := by
    refine ⟨?_, ?_, v5, fun i i0 i1 => ?_, fun i i0 i1 => ?_, z6.2.2.2.2.2.2⟩
    · have e : ad6 (b' + 20) = ad2 (b' + 20) := (v4 _ (by omega)).trans (t4 _ (by omega) (by omega))
      rw [e]
      have q5' := ll_cg q5 (g := fun i => ad6 (b' + i)) (fun i i0 i1 => e62 i i0 (by omega))
      refine qLL_fr (qLL_fr q5' F24 (fun q => ?_) (fun q => ?_)) F46 (fun q => ?_) (fun q => ?_)
      · rcases q with q | q
        · omega
        · have := lo2 (b' + 21); omega
      · rcases q with q | q
        · have := lo2 (b' + 20); omega
        · have := gq2.1.1 _ _ q; omega
      · rcases q with q | q
        · omega
        · have := lo4 (b' + 22); omega
      · rw [← t4 _ (by omega) (by omega)] at q
        rcases q with q | q
        · have := lo4 (b' + 20); omega
        · have := gq4.1.1 _ _ q; omega
    · have e : ad6 (b' + 21) = ad4 (b' + 21) := v4 _ (by omega)
      rw [e]
      have t5' := ll_cg t5 (g := fun i => ad6 (b' + 10 + i)) (fun i i0 i1 => e64 i i0 (by omega))
      refine qLL_fr t5' F46 (fun q => ?_) (fun q => ?_)
      · rcases q with q | q
        · omega
        · have := lo4 (b' + 22); omega
      · rcases q with q | q
        · have := lo4 (b' + 21); omega
        · have := gq4.1.1 _ _ q; omega
    · rw [e62 i i0 (by omega)]
      have k7 := okW_k ok i i0 i1
      exact qAW_fl k7 (qAW_fl k7 (qAW_fl k7 (qAW_fl k7 (q6 i i0 i1) r2 o2) t7 o3) u2 o4) v7 o5
    · rw [e64 i i0 (by omega)]
      exact qAK_fl (qAK_fl (t6 i i0 i1) u2 o4) v7 o5
  have wy7 : qWY G Bs ad6 b' w' vd s h7 := qWY_fr wy x2 (okW_k ok) ⟨h27.2, h28.2⟩ (fun k k1 k4 => by omega) (fun k k0 k1 => by have := lo6 (b' + k); omega) (fun k k0 k1 _ => by have := lo6 (b' + k); omega) (fun i k i0 i1 hk => by have := hv i i0 i1; omega)
  have adT : ∀ i, (i < b' ∨ b' + 25 ≤ i) → ad6 i = ad i := fun i hi => (v4 i (by omega)).trans ((t4 i (by omega) (by omega)).trans (q4 i (by omega) (by omega)))
  have hst7 : h7.2.2 (G.2.1 GE) = some (cRef 1 0 (fun _ => none)) := fr_r x2 hst6 (fun q => by omega)
  refine ⟨ad6, h7, ⟨qG_mo gq6 (by omega), hf7, hst7⟩, adT, ⟨x1, wy7⟩, fun bu wu vu su a1 a2 a3 a4 a5 zu => ?_, ?_, by omega, by omega, fun Q => ?_⟩
  · have zu1 : qW G Bs ad bu wu vu su h1 := ph_w (by omega) (by omega) gq.1 p2 o0 (fun _ _ => rfl) a1 ⟨a2, hwl.2⟩ a3 a4 zu
    have zu2 : qW G Bs ad2 bu wu vu su h2 := ph_w (by omega) (by omega) gq.1 q7 o1 (fun i hi => q4 i (by omega) (by omega)) a1 ⟨a2, hwl.2⟩ a3 a4 zu1
    have zu3 : qW G Bs ad2 bu wu vu su h3 := ph_w (by omega) (by omega) gq2.1 r2 o2 (fun _ _ => rfl) a1 ⟨a2, hwl.2⟩ a3 a4 zu2
    have zu4 : qW G Bs ad4 bu wu vu su h4 := ph_w (by omega) (by omega) gq2.1 t7 o3 (fun i hi => t4 i (by omega) (by omega)) a1 ⟨a2, hwl.2⟩ a3 a4 zu3
    have zu5 : qW G Bs ad4 bu wu vu su h5 := ph_w (by omega) (by omega) gq4.1 u2 o4 (fun _ _ => rfl) a1 ⟨a2, hwl.2⟩ a3 a4 zu4
    have zu6 : qW G Bs ad6 bu wu vu su h6 := ph_w (by omega) (by omega) gq4.1 v7 o5 (fun i hi => v4 i (by omega)) a1 ⟨a2, hwl.2⟩ a3 a4 zu5
    exact qW_fa gq6.1 zu6 x2 (okW_k a4) ⟨a4.1.2.2.1.2, a4.1.2.1.2⟩ a5 (fun a ha => by omega)
  · refine qFr_tr (qFr_wk F02 (fun a q => ?_)) (qFr_tr (qFr_wk F24 (fun a q => ?_)) (qFr_tr (qFr_wk F46 (fun a q => ?_)) (qFr_wk x2 (fun a q => ?_))))
    · rcases q with q | q
      · left; omega
      · right; have := lo0 (b' + 20); omega
    · rcases q with q | q
      · left; omega
      · right; have := lo2 (b' + 21); omega
    · rcases q with q | q
      · left; omega
      · right; have := lo4 (b' + 22); omega
    · left; omega
  · have zs0 := zx'.1
    have zs2 := zx2.1
    have zs4 := zx4.1
    have tg0 := fun (K : Nat → Prop) => ll_tag y1 (K := K)
    have tg2 := fun (K : Nat → Prop) => ll_tag y2b (K := K)
    have tg4 := fun (K : Nat → Prop) => ll_tag y3b (K := K)
    rw [e53]
    simp only [u53_0, u53_1, u53_4, u53_7, u53_8, KK, zs0, tg0, p4, GX11, VS0, nlO_i, nlO_n, nlO_r, List.length_nil, List.length_cons, Nat.reduceAdd, Nat.reduceLeDiff, Nat.zero_le, true_and]
    rw [q10 Q]
    simp only [u53_48, u53_49, u53_52, u53_55, u53_56, KK, zs2, tg2, r4, GX11, VS0, nlO_i, nlO_n, nlO_r, List.length_nil, List.length_cons, Nat.reduceAdd, Nat.reduceLeDiff, Nat.zero_le, true_and]
    rw [t10 Q]
    simp only [u53_96, u53_97, u53_100, u53_103, u53_104, KK, zs4, tg4, u4, GX11, VS0, nlO_i, nlO_n, nlO_r, List.length_nil, List.length_cons, Nat.reduceAdd, Nat.reduceLeDiff, Nat.zero_le, true_and]
    rw [v10 Q, x4 Q]
end T5
