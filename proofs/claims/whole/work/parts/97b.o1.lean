/-! the best order, model: its keeping -/
def MSO (m : Nat) (s im : Int → Int) (hi rn : Int) (bd : Int → Int) (c k : Int) (row best : Int → Int) (h : MH) : Prop := (∃ f0 f5 f6 f7 f8 f9 f12 f13 f14 f21 f22 f23 : Int, h.2.2 m = some (mO m f0 hi f5 f6 f7 f8 f9 f12 f13 f14 c k rn f21 f22 f23)) ∧ h.2.2 (m + 1) = some (cArr 0 937 (ix s)) ∧ h.2.2 (m + 2) = some (cArr 0 937 (ix im)) ∧ h.2.2 (m + 8) = some (cArr 0 20 (ix bd)) ∧ (∃ u y t : Int → Int, h.2.2 (m + 3) = some (cArr 0 27 (ix u)) ∧ h.2.2 (m + 4) = some (cArr 0 6 (ix y)) ∧ h.2.2 (m + 5) = some (cArr 1 64 (ix t))) ∧ h.2.2 (m + 6) = some (cArr 0 6 (ix row)) ∧ h.2.2 (m + 7) = some (cArr 0 6 (ix best))
section O1
variable {G : MG} {d : Nat} {m : Nat} {s im bd row best : Int → Int} {hi rn c k : Int} {h : MH}
theorem MSO_S (z : MSO m s im hi rn bd c k row best h) : MS m s im hi rn bd h := by
  obtain ⟨⟨f0, f5, f6, f7, f8, f9, f12, f13, f14, f21, f22, f23, z0⟩, z1, z2, z8, ⟨u, y, t, z3, z4, z5⟩, z6, z7⟩ := z
  exact ⟨⟨f0, f5, f6, f7, f8, f9, f12, f13, f14, c, k, f21, f22, f23, z0⟩, z1, z2, z8, u, y, t, row, best, z3, z4, z5, z6, z7⟩
theorem MSO_6 {row' : Int → Int} (z : MSO m s im hi rn bd c k row best h) : MSO m s im hi rn bd c k row' best (hset h (m + 6) (cArr 0 6 (ix row'))) := by
  obtain ⟨⟨f0, f5, f6, f7, f8, f9, f12, f13, f14, f21, f22, f23, z0⟩, z1, z2, z8, ⟨u, y, t, z3, z4, z5⟩, z6, z7⟩ := z
  exact ⟨⟨f0, f5, f6, f7, f8, f9, f12, f13, f14, f21, f22, f23, (hs_ne (by omega)).trans z0⟩, (hs_ne (by omega)).trans z1, (hs_ne (by omega)).trans z2, (hs_ne (by omega)).trans z8, ⟨u, y, t, (hs_ne (by omega)).trans z3, (hs_ne (by omega)).trans z4, (hs_ne (by omega)).trans z5⟩, hs_eq, (hs_ne (by omega)).trans z7⟩
theorem MSO_7 {best' : Int → Int} (z : MSO m s im hi rn bd c k row best h) : MSO m s im hi rn bd c k row best' (hset h (m + 7) (cArr 0 6 (ix best'))) := by
  obtain ⟨⟨f0, f5, f6, f7, f8, f9, f12, f13, f14, f21, f22, f23, z0⟩, z1, z2, z8, ⟨u, y, t, z3, z4, z5⟩, z6, z7⟩ := z
  exact ⟨⟨f0, f5, f6, f7, f8, f9, f12, f13, f14, f21, f22, f23, (hs_ne (by omega)).trans z0⟩, (hs_ne (by omega)).trans z1, (hs_ne (by omega)).trans z2, (hs_ne (by omega)).trans z8, ⟨u, y, t, (hs_ne (by omega)).trans z3, (hs_ne (by omega)).trans z4, (hs_ne (by omega)).trans z5⟩, (hs_ne (by omega)).trans z6, hs_eq⟩
theorem o_says (z : MSO m s im hi rn bd c k row best h) (ok : okM s) {p hd : Int} (oa : okA s p) : ∃ h' : MH, MSO m s im hi rn bd c k row best h' ∧ mF m h h' ∧ ∀ Q : KQ, wpC G (d + 3) 162 [vR m, vI p, vI hd] h Q = Q (some (vI (SAYS s p hd))) h' := by
  obtain ⟨⟨f0, f5, f6, f7, f8, f9, f12, f13, f14, f21, f22, f23, z0⟩, z1, z2, z8, ⟨u, y, t, z3, z4, z5⟩, z6, z7⟩ := z
  obtain ⟨y', t', w⟩ := m_saysOf (G := G) (d := d) z0 z1 z4 z5 ok (hd := hd) oa
  exact ⟨_, ⟨⟨f0, f5, f6, f7, f8, f9, f12, f13, f14, f21, f22, f23, (scr_m (by omega) (by omega)).trans z0⟩, (scr_m (by omega) (by omega)).trans z1, (scr_m (by omega) (by omega)).trans z2, (scr_m (by omega) (by omega)).trans z8, ⟨u, y', t', (scr_m (by omega) (by omega)).trans z3, scr_4, scr_5⟩, (scr_m (by omega) (by omega)).trans z6, (scr_m (by omega) (by omega)).trans z7⟩, mF_scr, w⟩
theorem o_copy {l1 l2 l3 : Option V} (n3 : nlO l3 = true) : ∀ (n : Nat) (i : Int) (best : Int → Int) (h : MH), MSO m s im hi rn bd c k row best h → 0 ≤ i → i + n = 6 → ∃ h' : MH, MSO m s im hi rn bd c k row (cp best row i 6) h' ∧ mF m h h' ∧ ∀ Q : KQ, wp G d 193 42 [some (vR m), l1, l2, l3, some (vI i)] [] h Q = Q none h' := by
  intro n
  induction n with
  | zero =>
    intro i best h z i0 hin
    have : i = 6 := by omega
    subst this
    rw [cp_end]
    refine ⟨h, z, mF_rf, fun Q => ?_⟩
    rw [u193_42, u193_44, u193_46, if_pos (Int.le_refl _), u193_69]
  | succ n ih =>
    intro i best h z i0 hin
    obtain ⟨h', a1, a2, a3⟩ := ih (i + 1) _ _ (MSO_7 (best' := up best i (row i)) z) (by omega) (by omega)
    rw [cp_up (by omega)] at a1
    obtain ⟨⟨f0, f5, f6, f7, f8, f9, f12, f13, f14, f21, f22, f23, z0⟩, z1, z2, z8, ⟨u, y, t, z3, z4, z5⟩, z6, z7⟩ := z
    refine ⟨h', a1, mF_tr (mF_set (by omega)) a2, fun Q => ?_⟩
    rw [← a3 Q]
    generalize hW : wp G d 193 42 [some (vR m), l1, l2, l3, some (vI (i + 1))] [] _ Q = W
    rw [u193_42, u193_44, u193_46, if_neg (by omega)]
    simp (disch := omega) only [KK, Int.reduceEq, not_false_iff, ↓reduceIte, ↓if_pos, ↓if_neg, xt_o, true_and, nlO_i, nlO_n, nlO_r, List.length_nil, List.length_cons, Nat.reduceAdd, Nat.reduceLeDiff, Nat.zero_le, u193_49, u193_50, u193_53, u193_55, u193_56, u193_59, u193_61, u193_62, u193_63, u193_66, z0, z6, z7, GX13, xa_i, xs_i, n3, ar_add]
    exact hW
abbrev btO (c k hd sk : Int) : Prop := c < cnt hd ∨ (cnt hd = c ∧ sk < k)
theorem o_keeps (z : MSO m s im hi rn bd c k row best h) {hd sk : Int} : ∃ h' : MH, MSO m s im hi rn bd (if btO c k hd sk then cnt hd else c) (if btO c k hd sk then sk else k) row (if btO c k hd sk then cp best row 0 6 else best) h' ∧ mF m h h' ∧ ∀ Q : KQ, wpC G (d + 2) 193 [vR m, vI hd, vI sk] h Q = Q none h' := by
  have zz := z
  obtain ⟨⟨f0, f5, f6, f7, f8, f9, f12, f13, f14, f21, f22, f23, z0⟩, z1, z2, z8, ⟨u, y, t, z3, z4, z5⟩, z6, z7⟩ := zz
  have hc := fun (K : KQ) => m_countOf (G := G) (d := d) (h := h) (Q := K) (x := hd)
  by_cases b : btO c k hd sk
  · rw [if_pos b, if_pos b, if_pos b]
    obtain ⟨h1, hh1⟩ : ∃ h1, h1 = hset h m (mO m f0 hi f5 f6 f7 f8 f9 f12 f13 f14 (cnt hd) sk rn f21 f22 f23) := ⟨_, rfl⟩
    have zn : MSO m s im hi rn bd (cnt hd) sk row best h1 := by
      rw [hh1]
      exact ⟨⟨f0, f5, f6, f7, f8, f9, f12, f13, f14, f21, f22, f23, hs_eq⟩, (hs_ne (by omega)).trans z1, (hs_ne (by omega)).trans z2, (hs_ne (by omega)).trans z8, ⟨u, y, t, (hs_ne (by omega)).trans z3, (hs_ne (by omega)).trans z4, (hs_ne (by omega)).trans z5⟩, (hs_ne (by omega)).trans z6, (hs_ne (by omega)).trans z7⟩
    obtain ⟨h2, a1, a2, a3⟩ := o_copy (G := G) (d := d + 1) (l1 := some (vI hd)) (l2 := some (vI sk)) (l3 := some (vI (cnt hd))) rfl 6 0 best h1 zn (by omega) rfl
    refine ⟨h2, a1, mF_tr (by rw [hh1]; exact mF_set (by omega)) a2, fun Q => ?_⟩
    rw [← a3 Q, e193]
    generalize hW : wp G (d + 1) 193 42 _ [] h1 Q = W
    rw [hh1] at hW
    by_cases b1 : c < cnt hd
    · simp (disch := omega) only [KK, Int.reduceEq, not_false_iff, ↓reduceIte, ↓if_pos, ↓if_neg, xt_o, true_and, nlO_i, nlO_n, nlO_r, List.length_nil, List.length_cons, Nat.reduceAdd, Nat.reduceLeDiff, Nat.zero_le, U193, hc, z0, hs_eq, hs_hs, GX13, PX13, or_true, true_or]
      exact hW
    · have b2 := b.resolve_left b1
      rw [b2.1] at hW
      simp (disch := omega) only [KK, Int.reduceEq, not_false_iff, ↓reduceIte, ↓if_pos, ↓if_neg, xt_o, true_and, nlO_i, nlO_n, nlO_r, List.length_nil, List.length_cons, Nat.reduceAdd, Nat.reduceLeDiff, Nat.zero_le, U193, hc, z0, hs_eq, hs_hs, GX13, PX13, b2.1, or_true, true_or]
      exact hW
  · rw [if_neg b, if_neg b, if_neg b]
    refine ⟨h, z, mF_rf, fun Q => ?_⟩
    have b1 : ¬ c < cnt hd := fun q => b (Or.inl q)
    rw [e193]
    by_cases b2 : cnt hd = c
    · have b3 : ¬ sk < k := fun q => b (Or.inr ⟨b2, q⟩)
      simp (disch := omega) only [KK, Int.reduceEq, not_false_iff, ↓reduceIte, ↓if_pos, ↓if_neg, xt_o, true_and, nlO_i, nlO_n, nlO_r, List.length_nil, List.length_cons, Nat.reduceAdd, Nat.reduceLeDiff, Nat.zero_le, U193, hc, z0, b2, GX13]
    · simp (disch := omega) only [KK, Int.reduceEq, not_false_iff, ↓reduceIte, ↓if_pos, ↓if_neg, xt_o, true_and, nlO_i, nlO_n, nlO_r, List.length_nil, List.length_cons, Nat.reduceAdd, Nat.reduceLeDiff, Nat.zero_le, U193, hc, z0, b2, GX13]
end O1
