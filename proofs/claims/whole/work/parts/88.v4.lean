/-! the best order, class -/
def saO (s : Int → Int) (i hd : Int) : Int := if s (21 + i) = 1 then 0 else SAYS s i hd
def lfO (od hd sk : Int) : Int := cnt hd * 33554432 + (127 - sk) * 262144 + (262143 - od)
def oLp (s : Int → Int) (f : Int → Int → Int → Int → Int) (us od hd sk : Int) : Nat → Int → Int → Int
  | 0, _, b => b
  | n + 1, i, b => oLp s f us od hd sk n (i + 1) (if bt us i = 1 ∨ NERVE s < sk + WGT s (saO s i hd) then b else max b (f (iBin 4 us (iBin 6 1 i)) (od * 8 + i) (iBin 4 hd (saO s i hd)) (sk + WGT s (saO s i hd))))
def oF (s : Int → Int) : Nat → Int → Int → Int → Int → Int
  | 0, _, od, hd, sk => lfO od hd sk
  | m + 1, us, od, hd, sk => oLp s (oF s m) us od hd sk (s 27).toNat 0 (-1)
def p8 (m : Nat) : Int := (8 ^ (6 - m) : Nat)
theorem p8_s {m : Nat} (h : m + 1 ≤ 6) : p8 m = 8 * p8 (m + 1) ∧ p8 m ≤ 262144 := by
  rcases (show m = 0 ∨ m = 1 ∨ m = 2 ∨ m = 3 ∨ m = 4 ∨ m = 5 by omega) with e | e | e | e | e | e <;> subst e <;> decide
theorem uz_le {us : Int} {n : Nat} : uz us n ≤ n := by
  have := List.length_filter_le (fun k : Nat => decide (bt us (k : Int) = 0)) (List.range n)
  rw [List.length_range] at this
  exact this
theorem cn8_all : (List.range 256).all (fun n => decide (0 ≤ cnt (n : Int)) && decide (cnt (n : Int) ≤ 8)) = true := by decide +kernel
theorem cn8 {x : Int} (x0 : 0 ≤ x) (x1 : x ≤ 255) : 0 ≤ cnt x ∧ cnt x ≤ 8 := by
  have h := List.all_eq_true.mp cn8_all x.toNat (List.mem_range.mpr (by omega))
  rw [Int.toNat_of_nonneg x0] at h
  simp only [Bool.and_eq_true, decide_eq_true_eq] at h
  exact h
theorem od_i {od i : Int} (o0 : 0 ≤ od) (o1 : od < 262144) (i0 : 0 ≤ i) (i1 : i < 8) : iBin 4 (iBin 6 od 3) i = od * 8 + i := by
  have h1 := qshl (a := od) (b := 3) (k := 3) (by decide) (by omega) o0 (by omega)
  have h2 := qor_add (a := od) (b := i) (k := 3) (by omega) o0 (by omega) i0 (by omega) (by omega)
  rw [h1, h2]
  rfl
theorem lf_of {od hd sk : Int} (o0 : 0 ≤ od) (o1 : od < 262144) (h0 : 0 ≤ hd) (h1 : hd ≤ 255) (s0 : 0 ≤ sk) (s1 : sk ≤ 99) : iBin 4 (iBin 6 (iBin 4 (iBin 6 (cnt hd) 7) (iBin 1 127 sk)) 18) (iBin 1 262143 od) = lfO od hd sk := by
  have hc := cn8 h0 h1
  have e1 := qshl (a := cnt hd) (b := 7) (k := 7) (by decide) (by omega) hc.1 (by omega)
  have e2 := qor_add (a := cnt hd) (b := 127 - sk) (k := 7) (by omega) hc.1 (by omega) (by omega) (by omega) (by omega)
  have e3 := qshl (a := cnt hd * (2 ^ 7 : Nat) + (127 - sk)) (b := 18) (k := 18) (by decide) (by omega) (by omega) (by omega)
  have e4 := qor_add (a := cnt hd * (2 ^ 7 : Nat) + (127 - sk)) (b := 262143 - od) (k := 18) (by omega) (by omega) (by omega) (by omega) (by omega) (by omega)
  rw [ar_sub (a := 127) (by omega), ar_sub (a := 262143) (by omega), e1, e2, e3, e4]
  unfold lfO
  omega
theorem saO_in {s : Int → Int} (ok : okW s) {i hd : Int} (i0 : 0 ≤ i) (i1 : i < s 27) : 0 ≤ saO s i hd ∧ saO s i hd ≤ 255 := by
  unfold saO
  split
  · omega
  · exact SAYS_in (ok.1.2.2.2.1 i i0 i1)
section V4
variable {G : MG} {d : Nat} {Q : KQ} {gb : Nat} {Bs : Nat → Prop} {h h' : MH} {s s' : Int → Int} {ad : Int → Nat} {b : Int} {w lo : Nat} {vd : Int → Nat}
theorem c_best (A : qAD ad lo) (hlo : w + 22 ≤ lo) (ok : okW s) : ∀ (m : Nat) (us od hd sk : Int) (h : MH), qW G Bs ad b w vd s h → 0 ≤ us → us < (2 ^ (s 27).toNat : Nat) → uz us (s 27).toNat = m → 0 ≤ od → od < p8 m → 0 ≤ hd → hd ≤ 255 → 0 ≤ sk → sk ≤ 99 → ∃ h' : MH, qW G Bs ad b w vd s h' ∧ qFr gb Bs (fun _ => False) h h' ∧ (h'.1 = h.1 ∧ h'.2.1 = h.2.1) ∧ ∀ Q : KQ, wpC G (d + 8 + m) 61 [vR w, vI us, vI od, vI hd, vI sk] h Q = Q (some (vI (oF s m us od hd sk))) h' := by
  have o27 := ok.1.2.2.1
  have en : (((s 27).toNat : Nat) : Int) = s 27 := Int.toNat_of_nonneg o27.1
  intro m
  induction m with
  | zero =>
    intro us od hd sk h z u0 u1 uzm o0 o1 h0 h1 k0 k1
    have hu := (uz_of (by omega) u0 u1).1.mp uzm
    rw [en] at hu
    have hal := fun (K : KQ) => c_allAunts (G := G) (d := d + 5) (Q := K) z ok
    have hbc := fun (K : KQ) => j_bc (G := G) (d := d + 6) (h := h) (Q := K) (x := hd) ⟨h0, h1⟩
    have z1 := z.1.1
    refine ⟨h, z, qFr_rf, ⟨rfl, rfl⟩, fun Q => ?_⟩
    show wpC G (d + 7 + 1) 61 _ h Q = _
    rw [e61]
    have e8 : p8 0 = 262144 := rfl
    simp (disch := omega) only [KK, Int.reduceEq, not_false_iff, ↓reduceIte, ↓if_pos, ↓if_neg, xt_o, true_and, nlO_i, nlO_n, nlO_r, List.length_nil, List.length_cons, Nat.reduceAdd, Nat.reduceLeDiff, Nat.zero_le, U61, z1, hal, hbc, hu, VS11]
    rw [lf_of o0 (by omega) h0 h1 k0 k1]
    rfl
  | succ m ih =>
    intro us od hd sk h z u0 u1 uzm o0 o1 h0 h1 k0 k1
    have hm6 : m + 1 ≤ 6 := by have := uz_le (us := us) (n := (s 27).toNat); omega
    have hp8 := p8_s hm6
    have hu := uz_of (by omega) u0 u1
    have hne : ¬ us = iBin 6 1 (s 27) - 1 := fun q => by
      rw [← en] at q
      have := hu.1.mpr q
      omega
    have NV := NERVE_le ok
    have loop : ∀ (n : Nat) (i b' : Int) (h : MH) (l7 l8 : Option V), qW G Bs ad b w vd s h → 0 ≤ i → i + n = s 27 → nlO l7 = true → nlO l8 = true → ∃ h' : MH, qW G Bs ad b w vd s h' ∧ qFr gb Bs (fun _ => False) h h' ∧ (h'.1 = h.1 ∧ h'.2.1 = h.2.1) ∧ ∀ Q : KQ, wp G (d + 8 + m) 61 40 [some (vR w), some (vI us), some (vI od), some (vI hd), some (vI sk), some (vI b'), some (vI i), l7, l8] [] h Q = Q (some (vI (oLp s (oF s m) us od hd sk n i b'))) h' := by
      intro n
      induction n with
      | zero =>
        intro i b' h l7 l8 z i0 hi n7 n8
        have z1 := z.1.1
        have hsz := fun (K : KQ) => ll_size (G := G) (d := d + 7 + m) (Q := K) z.2.1
        have htg := fun (K : Nat → Prop) => ll_tag z.2.1 (K := K)
        refine ⟨h, z, qFr_rf, ⟨rfl, rfl⟩, fun Q => ?_⟩
        have : i = s 27 := by omega
        subst this
        rw [u61_40]
        have e7 : d + 8 + m = d + 7 + m + 1 := by omega
        rw [e7]
        simp (disch := omega) only [KK, Int.reduceEq, not_false_iff, ↓reduceIte, ↓if_pos, ↓if_neg, xt_o, true_and, nlO_i, nlO_n, nlO_r, List.length_nil, List.length_cons, Nat.reduceAdd, Nat.reduceLeDiff, Nat.zero_le, U61, z1, hsz, htg, GX11, VS0, Int.le_refl]
        rfl
      | succ n ihn =>
        intro i b' h l7 l8 z i0 hi n7 n8
        have z1 := z.1.1
        have e7 : d + 8 + m = d + 7 + m + 1 := by omega
        have e6 : d + 8 + m = d + 2 + m + 6 := by omega
        have hsz : ∀ (K : KQ), wpC G (d + 8 + m) 228 [vR (w + 1)] h K = K (some (vI (s 27))) h := fun K => by rw [e7]; exact ll_size z.2.1
        have htg := fun (K : Nat → Prop) => ll_tag z.2.1 (K := K)
        have i6 : i < s 27 := by omega
        have hui := hu.2 i i0 (by omega)
        have hbits : iBin 3 (iBin 7 us i) 1 = bt us i := rfl
        have head : ∀ Q : KQ, wp G (d + 8 + m) 61 40 [some (vR w), some (vI us), some (vI od), some (vI hd), some (vI sk), some (vI b'), some (vI i), l7, l8] [] h Q = if bt us i = 1 then wp G (d + 8 + m) 61 40 [some (vR w), some (vI us), some (vI od), some (vI hd), some (vI sk), some (vI b'), some (vI (i + 1)), l7, l8] [] h Q else wp G (d + 8 + m) 61 65 [some (vR w), some (vI us), some (vI od), some (vI hd), some (vI sk), some (vI b'), some (vI i), l7, l8] [] h Q := fun Q => by
          rw [u61_40]
          simp only [u61_42, u61_43, u61_46, KK, z1, hsz, htg, GX11, VS0, xt_o, List.length_nil, List.length_cons, Nat.reduceAdd, Nat.reduceLeDiff, Nat.zero_le, true_and]
          rw [u61_49, if_neg (by omega)]
          simp only [u61_52, u61_53, u61_55, u61_56, u61_57, u61_58, hbits]
          rw [u61_59]
          by_cases c : bt us i = 1
          · rw [if_neg (fun q => q c), if_pos c, u61_62, u61_149, u61_152, ar_add (by omega)]
            simp only [nlO_i, true_and]
          · rw [if_pos c, if_neg c]
        by_cases c : bt us i = 1
        · obtain ⟨h', a1, a2, a3, a4⟩ := ihn (i + 1) b' h l7 l8 z (by omega) (by omega) n7 n8
          refine ⟨h', a1, a2, a3, fun Q => ?_⟩
          rw [head, if_pos c, a4, oLp, if_pos (Or.inl c)]
        · have hb0 : bt us i = 0 := hui.1.resolve_right c
          obtain ⟨⟨v0, v1⟩, v2, -⟩ := hui.2.2 hb0
          have hsa := saO_in ok (hd := hd) i0 i6
          have hwg := WGT_le (x := saO s i hd) ok
          have tail : ∀ (h : MH), qW G Bs ad b w vd s h → ∃ h' : MH, qW G Bs ad b w vd s h' ∧ qFr gb Bs (fun _ => False) h h' ∧ (h'.1 = h.1 ∧ h'.2.1 = h.2.1) ∧ ∀ Q : KQ, wp G (d + 8 + m) 61 97 [some (vR w), some (vI us), some (vI od), some (vI hd), some (vI sk), some (vI b'), some (vI i), some (vI (saO s i hd)), l8] [] h Q = Q (some (vI (oLp s (oF s m) us od hd sk (n + 1) i b'))) h' := by
            intro h z
            have z1 := z.1.1
            obtain ⟨hS, hB⟩ := qW_SW z ok
            have hwt : ∀ (K : KQ), wpC G (d + 8 + m) 56 [vR w, vI (saO s i hd)] h K = K (some (vI (WGT s (saO s i hd)))) h := fun K => by rw [e7]; exact c_wgtS hS
            have hh : ∀ (K : KQ), wpC G (d + 8 + m) 48 [vR w] h K = K (some (vR (hvA w vd s))) h := fun K => by rw [show d + 8 + m = d + 4 + m + 4 by omega]; exact c_holdS hS
            have hnv := fun (K : V → Prop) => SW_nv hS (K := K)
            have pre : ∀ Q : KQ, wp G (d + 8 + m) 61 97 [some (vR w), some (vI us), some (vI od), some (vI hd), some (vI sk), some (vI b'), some (vI i), some (vI (saO s i hd)), l8] [] h Q = if NERVE s < sk + WGT s (saO s i hd) then wp G (d + 8 + m) 61 149 [some (vR w), some (vI us), some (vI od), some (vI hd), some (vI sk), some (vI b'), some (vI i), some (vI (saO s i hd)), some (vI (sk + WGT s (saO s i hd)))] [] h Q else wp G (d + 8 + m) 61 120 [some (vR w), some (vI us), some (vI od), some (vI hd), some (vI sk), some (vI b'), some (vI i), some (vI (saO s i hd)), some (vI (sk + WGT s (saO s i hd)))] [] h Q := fun Q => by
              simp only [u61_97, u61_99, u61_100, u61_102, u61_105, u61_106, u61_108, u61_110, u61_111, u61_114, KK, z1, hwt, hh, hnv, VS11, xt_o, n8, ar_add (a := sk) (b := WGT s (saO s i hd)) (by omega), List.length_nil, List.length_cons, Nat.reduceAdd, Nat.reduceLeDiff, Nat.zero_le, true_and]
              rw [u61_117]
              simp only [nlO_i, true_and]
            by_cases c2 : NERVE s < sk + WGT s (saO s i hd)
            · obtain ⟨h', a1, a2, a3, a4⟩ := ihn (i + 1) b' h (some (vI (saO s i hd))) (some (vI (sk + WGT s (saO s i hd)))) z (by omega) (by omega) rfl rfl
              refine ⟨h', a1, a2, a3, fun Q => ?_⟩
              rw [pre, if_pos c2, u61_149, u61_152, ar_add (by omega), a4, oLp, if_pos (Or.inr c2)]
              simp only [nlO_i, true_and]
            · obtain ⟨h1, x1, x2, x3, x4⟩ := ih (iBin 4 us (iBin 6 1 i)) (od * 8 + i) (iBin 4 hd (saO s i hd)) (sk + WGT s (saO s i hd)) h z v0 v1 (by omega) (by omega) (by omega) (or_in h0 h1 hsa.1 hsa.2).1 (or_in h0 h1 hsa.1 hsa.2).2 (by omega) (by omega)
              obtain ⟨h', a1, a2, a3, a4⟩ := ihn (i + 1) (max b' (oF s m (iBin 4 us (iBin 6 1 i)) (od * 8 + i) (iBin 4 hd (saO s i hd)) (sk + WGT s (saO s i hd)))) h1 (some (vI (saO s i hd))) (some (vI (sk + WGT s (saO s i hd)))) x1 (by omega) (by omega) rfl rfl
              refine ⟨h', a1, qFr_tr x2 a2, ⟨a3.1.trans x3.1, a3.2.trans x3.2⟩, fun Q => ?_⟩
              have hmx : ∀ (a b : Int) (K : KQ), wpC G (d + 8 + m) 239 [vI a, vI b] h1 K = K (some (vI (max a b))) h1 := fun a b K => by rw [e7]; exact j_max
              have eo := od_i (od := od) (i := i) o0 (by omega) i0 (by omega)
              rw [pre, if_neg c2, oLp, if_neg (fun q => q.elim c c2), ← a4 Q]
              generalize hW : wp G (d + 8 + m) 61 40 _ [] h1 Q = W
              simp only [u61_120, u61_122, u61_123, u61_124, u61_125, u61_127, u61_128, u61_129, u61_130, u61_131, u61_132, u61_134, u61_135, u61_136, u61_138, u61_139, u61_141, u61_144, u61_147, u61_149, u61_152, KK, z1, eo, x4, hmx, VS11, xt_o, nlO_i, ar_add (a := i) (b := 1) (by omega), List.length_nil, List.length_cons, Nat.reduceAdd, Nat.reduceLeDiff, Nat.zero_le, true_and]
              exact hW
          have hbtA := (AWAYS_bt ok.2.2.2.2.1 o27).2 i i0 (by omega)
          rw [if_pos i6] at hbtA
          have hIA : ∀ (K : KQ), wpC G (d + 8 + m) 47 [vR w, vI i] h K = K (some (vI (if s (21 + i) = 1 then 1 else 0))) h := fun K => by
            rw [e7, ← hbtA]; exact c_isAway z1
          by_cases cA : s (21 + i) = 1
          · have esa : saO s i hd = 0 := if_pos cA
            obtain ⟨h', a1, a2, a3, a4⟩ := tail h z
            refine ⟨h', a1, a2, a3, fun Q => ?_⟩
            rw [head, if_neg c, ← a4 Q, esa]
            generalize hW : wp G (d + 8 + m) 61 97 _ [] h Q = W
            rw [if_pos cA] at hIA
            simp (disch := omega) only [KK, Int.reduceEq, not_false_iff, ↓reduceIte, ↓if_pos, ↓if_neg, xt_o, true_and, nlO_i, nlO_n, nlO_r, List.length_nil, List.length_cons, Nat.reduceAdd, Nat.reduceLeDiff, Nat.zero_le, u61_65, u61_66, u61_68, u61_71, u61_74, u61_75, u61_95, z1, hIA, VS11, n7]
            exact hW
          · have esa : saO s i hd = SAYS s i hd := if_neg cA
            obtain ⟨hS, hB⟩ := qW_SW z ok
            obtain ⟨y0, hy0⟩ := qSW_y hS
            obtain ⟨y', hsp⟩ := c_speech (G := G) (d := d + 2 + m) hS ok.1.1 (z.2.2.2.2.1 _ i0 i6) (ok.1.2.2.2.1 _ i0 i6) (hd := hd) ⟨h0, h1⟩
            have f1 : qFr gb Bs (fun _ => False) h (hset h (hvA w vd s + 4) (cArr 0 6 (ix y'))) := qFr_sb hB hy0
            obtain ⟨h', a1, a2, a3, a4⟩ := tail _ (qW_f0 z f1 (okW_k ok))
            refine ⟨h', a1, qFr_tr f1 a2, a3, fun Q => ?_⟩
            have hgt : ∀ (K : KQ), wpC G (d + 8 + m) 233 [vR (w + 1), vI i] h K = K (some (vR (ad (b + i)))) h := fun K => by rw [show d + 8 + m = d + 5 + m + 3 by omega]; exact ll_get z.2.1 ⟨i0, i6⟩
            have hau := (z.2.2.2.2.1 _ i0 i6).1
            have hAC := fun (pc : Nat) (L : Loc') (st : List V) => AC (G := G) (d := d + 8 + m) (h := h) (Q := Q) (a := ad (b + i)) (r := ad (b + i) + 1) (k := s (43 + i)) (p := i) (v := s (49 + i)) (kn := s (55 + i)) (y := 61) (pc := pc) (L := L) (st := st) (okW_k ok _ i0 i6)
            have hsp : ∀ K : KQ, wpC G (d + 8 + m) 49 [vR w, vR (ad (b + i)), vI hd] h K = K (some (vI (SAYS s i hd))) (hset h (hvA w vd s + 4) (cArr 0 6 (ix y'))) := fun K => by rw [e6]; exact hsp K
            rw [head, if_neg c, ← a4 Q, esa]
            generalize hW : wp G (d + 8 + m) 61 97 _ [] _ Q = W
            rw [if_neg cA] at hIA
            simp (disch := omega) only [KK, Int.reduceEq, not_false_iff, ↓reduceIte, ↓if_pos, ↓if_neg, xt_o, true_and, nlO_i, nlO_n, nlO_r, List.length_nil, List.length_cons, Nat.reduceAdd, Nat.reduceLeDiff, Nat.zero_le, u61_65, u61_66, u61_68, u61_71, u61_78, u61_79, u61_80, u61_83, u61_85, u61_88, u61_91, u61_92, u61_95, z1, hIA, hgt, htg, hau, hAC, hsp, GX11, VS11, VS0, n7]
            exact hW
    obtain ⟨h', a1, a2, a3, a4⟩ := loop (s 27).toNat 0 (-1) h none none z (by omega) (by omega) rfl rfl
    refine ⟨h', a1, a2, a3, fun Q => ?_⟩
    have z1 := z.1.1
    have hal : ∀ (K : KQ), wpC G (d + 8 + m) 62 [vR w] h K = K (some (vI (iBin 6 1 (s 27) - 1))) h := fun K => by rw [show d + 8 + m = d + 6 + m + 2 by omega]; exact c_allAunts z ok
    show wpC G (d + 8 + m + 1) 61 _ h Q = _
    rw [e61, oF, ← a4 Q]
    generalize hW : wp G (d + 8 + m) 61 40 _ [] h Q = W
    simp (disch := omega) only [KK, Int.reduceEq, not_false_iff, ↓reduceIte, ↓if_pos, ↓if_neg, xt_o, true_and, nlO_i, nlO_n, nlO_r, List.length_nil, List.length_cons, Nat.reduceAdd, Nat.reduceLeDiff, Nat.zero_le, u61_0, u61_1, u61_2, u61_5, u61_34, u61_35, u61_37, u61_38, z1, hal, hne, VS11]
    exact hW
end V4
