/-! ordersFrom of the model -/
theorem RVO_ge {n vv lim c k : Int} {best : Int → Int} (h : lim ≤ 262144) (z : RVO n vv lim c k best) : -1 ≤ vv := by
  rcases z with ⟨z1, z2⟩ | ⟨hd', o, z1, z2, z3, z4, z5, z6⟩
  · omega
  · have hc' := cn8 z1.1 z1.2
    rw [z4]; unfold lfO; omega
section O3
variable {G : MG} {d : Nat} {m : Nat} {s im bd : Int → Int} {hi rn : Int}
theorem o_orders (ok : okW s) : ∀ (q : Nat) (us od hd sk L vv c k : Int) (row best : Int → Int) (h : MH), MSO m s im hi rn bd c k row best h → 0 ≤ us → us < (2 ^ (s 27).toNat : Nat) → uz us (s 27).toNat = q → 0 ≤ L → L + q = s 27 → 0 ≤ od → od < p8 q → 0 ≤ hd → hd ≤ 255 → 0 ≤ sk → sk ≤ NERVE s → qRI L row od → RVO (s 27) vv (od * q8 q) c k best → ∃ (h' : MH) (c' k' : Int) (row' best' : Int → Int), MSO m s im hi rn bd c' k' row' best' h' ∧ mF m h h' ∧ qRI L row' od ∧ RVO (s 27) (max vv (oF s q us od hd sk)) ((od + 1) * q8 q) c' k' best' ∧ ∀ Q : KQ, wpC G (d + 5 + q) 192 [vR m, vI L, vI (iBin 6 1 (s 27) - 1 - us), vI hd, vI sk] h Q = Q none h' := by
  have o27 := ok.1.2.2.1
  have o34 := ok.2.1
  have o29 := ok.2.2.1
  have en : (((s 27).toNat : Nat) : Int) = s 27 := Int.toNat_of_nonneg o27.1
  have NV := NERVE_le ok
  intro q
  induction q with
  | zero =>
    intro us od hd sk L vv c k row best h z u0 u1 uzm L0 Lq e0 e1 h0 h1 k0 k1 hr hv
    have hu := (uz_of (by omega) u0 u1).1.mp uzm
    rw [en] at hu
    have e8 : p8 0 = 262144 := rfl
    have eq8 : q8 0 = 1 := rfl
    have eL : L = s 27 := by omega
    rw [eq8, Int.mul_one] at hv
    subst eL
    obtain ⟨h1', a1, a2, a3⟩ := o_keeps (G := G) (d := d + 2) z (hd := hd) (sk := sk)
    have z0 := z
    obtain ⟨⟨f0, f5, f6, f7, f8, f9, f12, f13, f14, f21, f22, f23, y0⟩, -⟩ := z0
    refine ⟨h1', _, _, _, _, a1, a2, hr, ?_, fun Q => ?_⟩
    · rw [eq8, Int.mul_one]
      exact RVO_leaf o27.2 e0 (by omega) h0 h1 k0 (by omega) hr hv
    · have el : iBin 6 1 (s 27) - 1 - us = 0 := by omega
      rw [el]
      show wpC G (d + 4 + 1) 192 _ h Q = _
      rw [e192]
      simp (disch := omega) only [KK, Int.reduceEq, not_false_iff, ↓reduceIte, ↓if_pos, ↓if_neg, xt_o, true_and, nlO_i, nlO_n, nlO_r, List.length_nil, List.length_cons, Nat.reduceAdd, Nat.reduceLeDiff, Nat.zero_le, U192, y0, a3, VS13]
  | succ q ih =>
    intro us od hd sk L vv c k row best h z u0 u1 uzm L0 Lq e0 e1 h0 h1 k0 k1 hr hv
    have hm6 : q + 1 ≤ 6 := by have := uz_le (us := us) (n := (s 27).toNat); omega
    have hp8 := p8_s hm6
    have hu := uz_of (by omega) u0 u1
    rw [en] at hu
    have hne : ¬ iBin 6 1 (s 27) - 1 - us = 0 := fun x => by
      have := hu.1.mpr (by omega)
      omega
    obtain ⟨left, hleft⟩ : ∃ left : Int, left = iBin 6 1 (s 27) - 1 - us := ⟨_, rfl⟩
    rw [← hleft] at hu hne
    have loop : ∀ (n : Nat) (i vv c k : Int) (row best : Int → Int) (h : MH) (l6 l7 : Option V), MSO m s im hi rn bd c k row best h → 0 ≤ i → i + n = s 27 → nlO l6 = true → nlO l7 = true → qRI L row od → RVO (s 27) vv ((od * 8 + i) * q8 q) c k best → ∃ (h' : MH) (c' k' : Int) (row' best' : Int → Int), MSO m s im hi rn bd c' k' row' best' h' ∧ mF m h h' ∧ qRI L row' od ∧ RVO (s 27) (oLp s (oF s q) us od hd sk n i vv) ((od + 1) * q8 (q + 1)) c' k' best' ∧ ∀ Q : KQ, wp G (d + 5 + q) 192 15 [some (vR m), some (vI L), some (vI left), some (vI hd), some (vI sk), some (vI i), l6, l7] [] h Q = Q none h' := by
      intro n
      induction n with
      | zero =>
        intro i vv c k row best h l6 l7 z i0 hin n6 n7 hr hv
        have : i = s 27 := by omega
        subst this
        have hb := q8_1 (m := q)
        refine ⟨h, c, k, row, best, z, mF_rf, hr, RVO_mo (by
          have x1 := (q8_i (m := q) (i := s 27) e0 o27.1 (by omega)).2
          have x2 : (od * 8 + s 27) * q8 q ≤ (od * 8 + s 27 + 1) * q8 q := Int.mul_le_mul_of_nonneg_right (by omega) (by omega)
          omega) hv, fun Q => ?_⟩
        obtain ⟨⟨f0, f5, f6, f7, f8, f9, f12, f13, f14, f21, f22, f23, y0⟩, y1, -⟩ := z
        rw [u192_15]
        simp (disch := omega) only [u192_17, u192_18, u192_21, u192_23, KK, y0, y1, GX13, xa_i]
        rw [u192_24, if_pos (Int.le_refl _), u192_138]
      | succ n ihn =>
        intro i vv c k row best h l6 l7 z i0 hin n6 n7 hr hv
        have i6 : i < s 27 := by omega
        have hui := hu.2 i i0 i6
        have hb8 := q8_1 (m := q)
        have stp : (od * 8 + i) * q8 q ≤ (od * 8 + (i + 1)) * q8 q := Int.mul_le_mul_of_nonneg_right (by omega) (by omega)
        have z' := z
        obtain ⟨⟨f0, f5, f6, f7, f8, f9, f12, f13, f14, f21, f22, f23, y0⟩, y1, y2, y8, -, y6, y7⟩ := z'
        have hbits : iBin 3 (iBin 7 left i) 1 = bt left i := rfl
        have head : ∀ Q : KQ, wp G (d + 5 + q) 192 15 [some (vR m), some (vI L), some (vI left), some (vI hd), some (vI sk), some (vI i), l6, l7] [] h Q = if bt us i = 1 then wp G (d + 5 + q) 192 15 [some (vR m), some (vI L), some (vI left), some (vI hd), some (vI sk), some (vI (i + 1)), l6, l7] [] h Q else wp G (d + 5 + q) 192 37 [some (vR m), some (vI L), some (vI left), some (vI hd), some (vI sk), some (vI i), l6, l7] [] h Q := fun Q => by
          rw [u192_15]
          simp (disch := omega) only [u192_17, u192_18, u192_21, u192_23, KK, y0, y1, GX13, xa_i]
          rw [u192_24, if_neg (by omega)]
          simp only [u192_27, u192_28, u192_30, u192_31, u192_32, u192_33, hbits]
          rw [u192_34, hui.2.1]
          rcases hui.1 with e | e
          · rw [e, if_neg (by omega), if_neg (by omega)]
          · rw [e, if_pos (by omega), if_pos rfl, u192_132, u192_135, ar_add (by omega)]
            simp only [nlO_i, true_and]
        by_cases cb : bt us i = 1
        · obtain ⟨h', c', k', row', best', a1, a2, a3, a4, a5⟩ := ihn (i + 1) vv c k row best h l6 l7 z (by omega) (by omega) n6 n7 hr (RVO_mo stp hv)
          refine ⟨h', c', k', row', best', a1, a2, a3, ?_, fun Q => ?_⟩
          · rw [oLp, if_pos (Or.inl cb)]; exact a4
          · rw [head, if_pos cb, a5]
        · have hb0 : bt us i = 0 := hui.1.resolve_right cb
          obtain ⟨⟨v0, v1⟩, v2, v3⟩ := hui.2.2 hb0
          have hsa := saO_in ok (hd := hd) i0 i6
          have hwg := WGT_le (x := saO s i hd) ok
          have hAW := ok.2.2.2.2.1 i i0 (by omega)
          have tail : ∀ (h : MH), MSO m s im hi rn bd c k row best h → ∃ (h' : MH) (c' k' : Int) (row' best' : Int → Int), MSO m s im hi rn bd c' k' row' best' h' ∧ mF m h h' ∧ qRI L row' od ∧ RVO (s 27) (oLp s (oF s q) us od hd sk (n + 1) i vv) ((od + 1) * q8 (q + 1)) c' k' best' ∧ ∀ Q : KQ, wp G (d + 5 + q) 192 64 [some (vR m), some (vI L), some (vI left), some (vI hd), some (vI sk), some (vI i), some (vI (saO s i hd)), l7] [] h Q = Q none h' := by
            intro h z
            have z' := z
            obtain ⟨⟨f0, f5, f6, f7, f8, f9, f12, f13, f14, f21, f22, f23, y0⟩, y1, y2, y8, -, y6, y7⟩ := z'
            have zr := MSO_6 (row' := up row L i) z
            obtain ⟨hA, hh1⟩ : ∃ hA, hA = hset h (m + 6) (cArr 0 6 (ix (up row L i))) := ⟨_, rfl⟩
            rw [← hh1] at zr
            have zr' := zr
            obtain ⟨⟨g0, g5, g6, g7, g8, g9, g12, g13, g14, g21, g22, g23, x0⟩, x1, -⟩ := zr'
            have m1 : mF m h hA := by rw [hh1]; exact mF_set (by omega)
            have hwt : ∀ (K : KQ), wpC G (d + 5 + q) 178 [vR m, vI (saO s i hd)] h K = K (some (vI (WGT s (saO s i hd)))) h := fun K => by
              rw [show d + 5 + q = d + 4 + q + 1 by omega]; exact m_weightOf y0 y1
            have htl : ∀ (K : KQ), wpC G (d + 5 + q) 161 [vR m, vI 227, vI 12] hA K = K (some (vI (NERVE s))) hA := fun K => by
              rw [show d + 5 + q = d + 4 + q + 1 by omega]
              unfold NERVE
              exact m_tellsOf x0 x1 (by omega) (by omega)
            have pre : ∀ Q : KQ, wp G (d + 5 + q) 192 64 [some (vR m), some (vI L), some (vI left), some (vI hd), some (vI sk), some (vI i), some (vI (saO s i hd)), l7] [] h Q = if NERVE s < sk + WGT s (saO s i hd) then wp G (d + 5 + q) 192 132 [some (vR m), some (vI L), some (vI left), some (vI hd), some (vI sk), some (vI i), some (vI (saO s i hd)), some (vI (sk + WGT s (saO s i hd)))] [] hA Q else wp G (d + 5 + q) 192 111 [some (vR m), some (vI L), some (vI left), some (vI hd), some (vI sk), some (vI i), some (vI (saO s i hd)), some (vI (sk + WGT s (saO s i hd)))] [] hA Q := fun Q => by
              simp (disch := omega) only [u192_64, u192_66, u192_67, u192_69, u192_72, u192_73, u192_75, u192_76, u192_79, u192_80, u192_82, u192_83, u192_84, u192_87, u192_89, u192_91, u192_92, u192_93, KK, y0, hwt, n7, ar_add (a := sk), y6, GX13, VS13, xt_o, xs_i, List.length_nil, List.length_cons, Nat.reduceAdd, Nat.reduceLeDiff, Nat.zero_le, true_and]
              rw [← hh1]
              simp (disch := omega) only [u192_87, u192_89, u192_91, u192_92, u192_93, x0, x1, GX13, xa_i, KK, ar_add (a := 21), nlO_i, true_and]
              rcases hAW with e | e
              · rw [e]
                simp (disch := omega) only [KK, Int.reduceEq, not_false_iff, ↓reduceIte, ↓if_pos, ↓if_neg, xt_o, true_and, nlO_i, nlO_n, nlO_r, List.length_nil, List.length_cons, Nat.reduceAdd, Nat.reduceLeDiff, Nat.zero_le, u192_94, u192_97, u192_99, u192_100, u192_103, u192_105, x0, htl, VS13]
                rw [u192_108]
              · have e0' : saO s i hd = 0 := if_pos e
                rw [e, e0', WGT_0, if_neg (by omega)]
                simp (disch := omega) only [KK, Int.reduceEq, not_false_iff, ↓reduceIte, ↓if_pos, ↓if_neg, xt_o, true_and, nlO_i, nlO_n, nlO_r, List.length_nil, List.length_cons, Nat.reduceAdd, Nat.reduceLeDiff, Nat.zero_le, u192_94]
            by_cases c2 : NERVE s < sk + WGT s (saO s i hd)
            · obtain ⟨h', c', k', row', best', a1, a2, a3, a4, a5⟩ := ihn (i + 1) vv c k _ best hA (some (vI (saO s i hd))) (some (vI (sk + WGT s (saO s i hd)))) zr (by omega) (by omega) rfl rfl (qRI_up hr) (RVO_mo stp hv)
              refine ⟨h', c', k', row', best', a1, mF_tr m1 a2, a3, ?_, fun Q => ?_⟩
              · rw [oLp, if_pos (Or.inr c2)]; exact a4
              · rw [pre, if_pos c2, u192_132, u192_135, ar_add (by omega), a5]
                simp only [nlO_i, true_and]
            · have hor := or_in h0 h1 hsa.1 hsa.2
              obtain ⟨h2, c2', k2, row2, best2, b1, b2, b3, b4, b5⟩ := ih (iBin 4 us (iBin 6 1 i)) (od * 8 + i) (iBin 4 hd (saO s i hd)) (sk + WGT s (saO s i hd)) (L + 1) vv c k _ best hA zr v0 v1 (by omega) (by omega) (by omega) (by omega) (by omega) hor.1 hor.2 (by omega) (by omega) (qRI_step e0 i0 (by omega) L0 hr) hv
              obtain ⟨h', c', k', row', best', a1, a2, a3, a4, a5⟩ := ihn (i + 1) _ c2' k2 row2 best2 h2 (some (vI (saO s i hd))) (some (vI (sk + WGT s (saO s i hd)))) b1 (by omega) (by omega) rfl rfl (qRI_low e0 i0 (by omega) b3) (by rw [← Int.add_assoc]; exact b4)
              refine ⟨h', c', k', row', best', a1, mF_tr m1 (mF_tr b2 a2), a3, ?_, fun Q => ?_⟩
              · rw [oLp, if_neg (fun x => x.elim cb c2)]; exact a4
              · rw [pre, if_neg c2, ← a5 Q]
                generalize hW : wp G (d + 5 + q) 192 15 _ [] h2 Q = W
                rw [← v3] at b5
                simp (disch := omega) only [u192_111, u192_112, u192_113, u192_114, u192_115, u192_116, u192_117, u192_119, u192_120, u192_121, u192_122, u192_123, u192_124, u192_126, u192_127, u192_129, u192_132, u192_135, KK, x0, b5, VS13, xt_o, nlO_i, ar_add (a := i), ar_add (a := L), List.length_nil, List.length_cons, Nat.reduceAdd, Nat.reduceLeDiff, Nat.zero_le, true_and]
                exact hW
          rcases hAW with e | e
          · have esa : saO s i hd = SAYS s i hd := if_neg (by omega)
            obtain ⟨h1, b1, b2, b3⟩ := o_says (G := G) (d := d + 2 + q) z ok.1.1 (ok.1.2.2.2.1 i i0 i6) (hd := hd)
            have b3 : ∀ K : KQ, wpC G (d + 5 + q) 162 [vR m, vI i, vI hd] h K = K (some (vI (SAYS s i hd))) h1 := fun K => by
              rw [show d + 5 + q = d + 2 + q + 3 by omega]; exact b3 K
            obtain ⟨h', c', k', row', best', a1, a2, a3, a4, a5⟩ := tail h1 b1
            refine ⟨h', c', k', row', best', a1, mF_tr b2 a2, a3, a4, fun Q => ?_⟩
            rw [head, if_neg cb, ← a5 Q, esa]
            generalize hW : wp G (d + 5 + q) 192 64 _ [] h1 Q = W
            simp (disch := omega) only [KK, Int.reduceEq, not_false_iff, ↓reduceIte, ↓if_pos, ↓if_neg, xt_o, true_and, nlO_i, nlO_n, nlO_r, List.length_nil, List.length_cons, Nat.reduceAdd, Nat.reduceLeDiff, Nat.zero_le, u192_37, u192_38, u192_41, u192_43, u192_45, u192_46, u192_47, u192_48, u192_55, u192_56, u192_58, u192_59, u192_62, y0, y1, e, b3, n6, GX13, VS13, xa_i, ar_add]
            exact hW
          · have esa : saO s i hd = 0 := if_pos e
            obtain ⟨h', c', k', row', best', a1, a2, a3, a4, a5⟩ := tail h z
            refine ⟨h', c', k', row', best', a1, a2, a3, a4, fun Q => ?_⟩
            rw [head, if_neg cb, ← a5 Q, esa]
            generalize hW : wp G (d + 5 + q) 192 64 _ [] h Q = W
            simp (disch := omega) only [KK, Int.reduceEq, not_false_iff, ↓reduceIte, ↓if_pos, ↓if_neg, xt_o, true_and, nlO_i, nlO_n, nlO_r, List.length_nil, List.length_cons, Nat.reduceAdd, Nat.reduceLeDiff, Nat.zero_le, u192_37, u192_38, u192_41, u192_43, u192_45, u192_46, u192_47, u192_48, u192_51, u192_52, u192_62, y0, y1, e, n6, GX13, xa_i, ar_add]
            exact hW
    have hv0 : RVO (s 27) vv ((od * 8 + 0) * q8 q) c k best := by
      have : (od * 8 + 0) * q8 q = od * q8 (q + 1) := by
        rw [Int.add_zero, q8_s, Int.mul_assoc]
      rw [this]; exact hv
    obtain ⟨h', c', k', row', best', a1, a2, a3, a4, a5⟩ := loop (s 27).toNat 0 vv c k row best h none none z (by omega) (by omega) rfl rfl hr hv0
    have hge : -1 ≤ vv := RVO_ge (by have := p8_q hm6 e0 e1; have := q8_1 (m := q + 1); have x : od * q8 (q + 1) ≤ (od + 1) * q8 (q + 1) := Int.mul_le_mul_of_nonneg_right (by omega) (by omega); omega) hv
    refine ⟨h', c', k', row', best', a1, a2, a3, ?_, fun Q => ?_⟩
    · rw [oF, ← oLp_max, Int.max_eq_left hge]; exact a4
    · rw [← a5 Q, ← hleft]
      have z' := z
      obtain ⟨⟨f0, f5, f6, f7, f8, f9, f12, f13, f14, f21, f22, f23, y0⟩, -⟩ := z'
      show wpC G (d + 5 + q + 1) 192 _ h Q = _
      rw [e192]
      generalize hW : wp G (d + 5 + q) 192 15 _ [] h Q = W
      simp (disch := omega) only [KK, Int.reduceEq, not_false_iff, ↓reduceIte, ↓if_pos, ↓if_neg, xt_o, true_and, nlO_i, nlO_n, nlO_r, List.length_nil, List.length_cons, Nat.reduceAdd, Nat.reduceLeDiff, Nat.zero_le, u192_0, u192_1, u192_12, u192_13, hne]
      exact hW
end O3
