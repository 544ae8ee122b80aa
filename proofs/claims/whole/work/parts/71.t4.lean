/-! a taking, whole -/
section T4
variable {G : MG} {Bs : Nat → Prop} {s s' : Int → Int} {b b' : Int} {w w' : Nat} {vd vd' : Int → Nat} {d : Nat} {ad : Int → Nat}
theorem tk_rest {h : MH} (ok : okP s) (hw : w + 22 ≤ w' ∨ w' + 22 ≤ w) (z : qWX Bs w s h) (z' : qWX Bs w' s' h) : ∃ h' : MH, qWX Bs w' s h' ∧ qFr G.1 Bs (fun q => q = w' ∨ (w' + 4 ≤ q ∧ q < w' + 15)) h h' ∧ (h'.1 = h.1 ∧ h'.2.1 = h.2.1) ∧ ∀ (Q : KQ) (l2 : Option V), wp G (d + 4) 53 141 [some (vR w'), some (vR w), l2] [] h Q = Q none h' := by
  obtain ⟨x1, ⟨W, x2, x2'⟩, ⟨T, x3, x3'⟩, x4, x5, x6, x7, x8⟩ := z
  obtain ⟨y1, ⟨W', y2, y2'⟩, ⟨T', y3, y3'⟩, y4, y5, y6, y7, y8⟩ := z'
  have n0 : ¬ w' = w' + 4 := by omega
  have n1 : ¬ w = w' + 4 := by omega
  have n2 : ¬ w + 5 = w' + 4 := by omega
  have n3 : ¬ w' + 5 = w' + 4 := by omega
  have n4 : ¬ w' = w' + 5 := by omega
  have n5 : ¬ w = w' + 5 := by omega
  have n6 : ¬ w = w' := by omega
  obtain ⟨h1, hh1⟩ : ∃ h1, h1 = hset h (w' + 4) (cArr 0 8 (ix (fun z => if z < 8 then W z else W' z))) := ⟨_, rfl⟩
  have f1 : qFr G.1 Bs (fun q => q = w' + 4) h h1 := by rw [hh1]; exact qFr_set rfl y2
  obtain ⟨h2, hh2⟩ : ∃ h2, h2 = hset h1 (w' + 5) (cArr 0 100 (ix (fun z => if z < 100 then T z else T' z))) := ⟨_, rfl⟩
  have y3a : h1.2.2 (w' + 5) = some (cArr 0 100 (ix T')) := by rw [hh1, hs_ne n3]; exact y3
  have x3a : h1.2.2 (w + 5) = some (cArr 0 100 (ix T)) := by rw [hh1, hs_ne n2]; exact x3
  have f2 : qFr G.1 Bs (fun q => q = w' + 5) h1 h2 := by rw [hh2]; exact qFr_set rfl y3a
  have g1 : h1.2.2 w' = some (wO w' (s' 33) (s' 0) (AWAYS s')) := fr_o f1 y1 (fun q => n0 q)
  have g2 : h2.2.2 w' = some (wO w' (s' 33) (s' 0) (AWAYS s')) := fr_o f2 g1 (fun q => n4 q)
  have u1 : h1.2.2 w = some (wO w (s 33) (s 0) (AWAYS s)) := fr_o f1 x1 (fun q => n1 q)
  have u2 : h2.2.2 w = some (wO w (s 33) (s 0) (AWAYS s)) := fr_o f2 u1 (fun q => n5 q)
  obtain ⟨h3, hh3⟩ : ∃ h3, h3 = hset h2 w' (wO w' (s 33) (s' 0) (AWAYS s')) := ⟨_, rfl⟩
  have f3 : qFr G.1 Bs (fun q => q = w') h2 h3 := by rw [hh3]; exact qFr_set rfl g2
  have g3 : h3.2.2 w' = some (wO w' (s 33) (s' 0) (AWAYS s')) := by rw [hh3, hs_eq]
  have u3 : h3.2.2 w = some (wO w (s 33) (s 0) (AWAYS s)) := fr_o f3 u2 (fun q => n6 q)
  have F3 : qFr G.1 Bs (fun q => q = w' ∨ q = w' + 4 ∨ q = w' + 5) h h3 := qFr_tr (qFr_wk f1 (fun _ q => Or.inr (Or.inl q))) (qFr_tr (qFr_wk f2 (fun _ q => Or.inr (Or.inr q))) (qFr_wk f3 (fun _ q => Or.inl q)))
  have rr : ∀ {o cap : Nat} {n : Int} {f g : Int → Int}, qRW h o cap n f g → ¬ cap = 6 → (w + 6 ≤ o ∧ o ≤ w + 12 ∨ w' + 6 ≤ o ∧ o ≤ w' + 12) → qRW h3 o cap n f g := fun q hc ho => qRW_fr q F3 hc (by omega) (by omega) (by omega)
  obtain ⟨h4, p1, f4, p3, p4⟩ := c_rtake (G := G) (gb := G.1) (Bs := Bs) (X := fun q => w' + 6 ≤ q ∧ q < w' + 9) (d := d + 1) (rr x4 (by decide) (by omega)) (rr y4 (by decide) (by omega)) ok.2.1.1 (by omega) (by decide) (by omega)
  have x5a := qRW_fr (rr x5 (by decide) (by omega)) f4 (by decide) (by omega) (by omega) (by omega)
  have y5a := qRW_fr (rr y5 (by decide) (by omega)) f4 (by decide) (by omega) (by omega) (by omega)
  obtain ⟨h5, r1, f5, r3, r4⟩ := c_rtake (G := G) (gb := G.1) (Bs := Bs) (X := fun q => w' + 9 ≤ q ∧ q < w' + 12) (d := d + 1) x5a y5a ok.2.2.1.1 (by omega) (by decide) (by omega)
  have x6a := qRW_fr (qRW_fr (rr x6 (by decide) (by omega)) f4 (by decide) (by omega) (by omega) (by omega)) f5 (by decide) (by omega) (by omega) (by omega)
  have y6a := qRW_fr (qRW_fr (rr y6 (by decide) (by omega)) f4 (by decide) (by omega) (by omega) (by omega)) f5 (by decide) (by omega) (by omega) (by omega)
  obtain ⟨h6, t1, f6, t3, t4⟩ := c_rtake (G := G) (gb := G.1) (Bs := Bs) (X := fun q => w' + 12 ≤ q ∧ q < w' + 15) (d := d + 1) x6a y6a ok.2.2.2.1.1 (by omega) (by decide) (by omega)
  have g4 : h4.2.2 w' = some (wO w' (s 33) (s' 0) (AWAYS s')) := fr_o f4 g3 (by omega)
  have g5 : h5.2.2 w' = some (wO w' (s 33) (s' 0) (AWAYS s')) := fr_o f5 g4 (by omega)
  have g6 : h6.2.2 w' = some (wO w' (s 33) (s' 0) (AWAYS s')) := fr_o f6 g5 (by omega)
  have u4 : h4.2.2 w = some (wO w (s 33) (s 0) (AWAYS s)) := fr_o f4 u3 (by omega)
  have u5 : h5.2.2 w = some (wO w (s 33) (s 0) (AWAYS s)) := fr_o f5 u4 (by omega)
  have u6 : h6.2.2 w = some (wO w (s 33) (s 0) (AWAYS s)) := fr_o f6 u5 (by omega)
  obtain ⟨h7, hh7⟩ : ∃ h7, h7 = hset h6 w' (wO w' (s 33) (s 0) (AWAYS s')) := ⟨_, rfl⟩
  have f7 : qFr G.1 Bs (fun q => q = w') h6 h7 := by rw [hh7]; exact qFr_set rfl g6
  have g7 : h7.2.2 w' = some (wO w' (s 33) (s 0) (AWAYS s')) := by rw [hh7, hs_eq]
  have u7 : h7.2.2 w = some (wO w (s 33) (s 0) (AWAYS s)) := fr_o f7 u6 (fun q => n6 q)
  obtain ⟨h8, hh8⟩ : ∃ h8, h8 = hset h7 w' (wO w' (s 33) (s 0) (AWAYS s)) := ⟨_, rfl⟩
  have f8 : qFr G.1 Bs (fun q => q = w') h7 h8 := by rw [hh8]; exact qFr_set rfl g7
  have g8 : h8.2.2 w' = some (wO w' (s 33) (s 0) (AWAYS s)) := by rw [hh8, hs_eq]
  have F78 : qFr G.1 Bs (fun q => q = w') h6 h8 := qFr_tr f7 f8
  have F68 : qFr G.1 Bs (fun q => q = w' ∨ (w' + 12 ≤ q ∧ q < w' + 15)) h5 h8 := qFr_tr (qFr_wk f6 (fun _ q => Or.inr q)) (qFr_wk F78 (fun _ q => Or.inl q))
  have F58 : qFr G.1 Bs (fun q => q = w' ∨ (w' + 9 ≤ q ∧ q < w' + 15)) h4 h8 := qFr_tr (qFr_wk f5 (fun _ q => Or.inr (by omega))) (qFr_wk F68 (fun _ q => by omega))
  have F48 : qFr G.1 Bs (fun q => q = w' ∨ (w' + 6 ≤ q ∧ q < w' + 15)) h3 h8 := qFr_tr (qFr_wk f4 (fun _ q => Or.inr (by omega))) (qFr_wk F58 (fun _ q => by omega))
  have F28 : qFr G.1 Bs (fun q => q = w' ∨ (w' + 6 ≤ q ∧ q < w' + 15)) h2 h8 := qFr_tr (qFr_wk f3 (fun _ q => Or.inl q)) F48
  have F18 : qFr G.1 Bs (fun q => q = w' ∨ (w' + 5 ≤ q ∧ q < w' + 15)) h1 h8 := qFr_tr (qFr_wk f2 (fun _ q => Or.inr (by omega))) (qFr_wk F28 (fun _ q => by omega))
  have F08 : qFr G.1 Bs (fun q => q = w' ∨ (w' + 4 ≤ q ∧ q < w' + 15)) h h8 := qFr_tr (qFr_wk f1 (fun _ q => by omega)) (qFr_wk F18 (fun _ q => by omega))
  obtain ⟨c1, c2, c3, c4, y8⟩ := y8
  have i1 : qIR h1 (w' + 4) 8 (fun f => s (35 + f)) := ⟨_, by rw [hh1, hs_eq], fun i i0 i1 => by
    show (if i < 8 then W i else W' i) = _
    rw [if_pos (by omega)]; exact x2' i i0 i1⟩
  have i2 : qIR h2 (w' + 5) 100 (fun i => s (127 + i)) := ⟨_, by rw [hh2, hs_eq], fun i i0 i1 => by
    show (if i < 100 then T i else T' i) = _
    rw [if_pos (by omega)]; exact x3' i i0 i1⟩
  have k1 : h8.1 = h.1 ∧ h8.2.1 = h.2.1 := by
    have a3 : h3.1 = h.1 ∧ h3.2.1 = h.2.1 := by rw [hh3, hh2, hh1]; exact ⟨rfl, rfl⟩
    have a8 : h8.1 = h6.1 ∧ h8.2.1 = h6.2.1 := by rw [hh8, hh7]; exact ⟨rfl, rfl⟩
    omega
  refine ⟨h8, ⟨g8, qIR_fr i1 F18 (by decide) (by omega), qIR_fr i2 F28 (by decide) (by omega), qRW_fr p1 F58 (by decide) (by omega) (by omega) (by omega), qRW_fr r1 F68 (by decide) (by omega) (by omega) (by omega), qRW_fr t1 F78 (by decide) (by omega) (by omega) (by omega), qVL_fr y7 F08 (fun k hk => by omega), c1, c2, c3, c4, fr_o F08 y8 (by omega)⟩, F08, k1, fun Q l2 => ?_⟩
  have s4s : ∀ K : Nat → Prop, xTag (h3.2.2 (w' + 6)) K = K 7 := fun K => rw_tag (rr y4 (by decide) (by omega)) (K := K)
  have s5s : ∀ K : Nat → Prop, xTag (h4.2.2 (w' + 9)) K = K 7 := fun K => rw_tag y5a (K := K)
  have s6s : ∀ K : Nat → Prop, xTag (h5.2.2 (w' + 12)) K = K 7 := fun K => rw_tag y6a (K := K)
  simp (disch := omega) only [u53_141, u53_142, u53_145, u53_146, u53_147, u53_150, u53_151, u53_153, KK, x1, x2, y1, y2, GX11, xc_i, List.length_nil, List.length_cons, Nat.reduceAdd, Nat.reduceLeDiff, Nat.zero_le, true_and]
  rw [← hh1]
  simp (disch := omega) only [u53_156, u53_157, u53_160, u53_161, u53_162, u53_165, u53_166, u53_168, KK, u1, g1, x3a, y3a, GX11, xc_i, List.length_nil, List.length_cons, Nat.reduceAdd, Nat.reduceLeDiff, Nat.zero_le, true_and]
  rw [← hh2]
  simp only [u53_171, u53_172, u53_173, u53_176, KK, u2, g2, GX11, PX11, true_and]
  rw [← hh3]
  simp only [u53_179, u53_180, u53_183, u53_184, u53_187, KK, u3, g3, s4s, p4, GX11, VS7, List.length_nil, List.length_cons, Nat.reduceAdd, Nat.reduceLeDiff, Nat.zero_le, true_and]
  simp only [u53_190, u53_191, u53_194, u53_195, u53_198, KK, u4, g4, s5s, r4, GX11, VS7, List.length_nil, List.length_cons, Nat.reduceAdd, Nat.reduceLeDiff, Nat.zero_le, true_and]
  simp only [u53_201, u53_202, u53_205, u53_206, u53_209, KK, u5, g5, s6s, t4, GX11, VS7, List.length_nil, List.length_cons, Nat.reduceAdd, Nat.reduceLeDiff, Nat.zero_le, true_and]
  simp only [u53_212, u53_213, u53_214, u53_217, KK, u6, g6, GX11, PX11, true_and]
  rw [← hh7]
  simp only [u53_220, u53_221, u53_222, u53_225, KK, u7, g7, GX11, PX11, true_and]
  rw [← hh8]
  simp only [u53_228]
end T4
