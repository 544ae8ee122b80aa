/-! visits; days -/
section W4
variable {G : MG} {d : Nat} {Q : KQ} {gb : Nat} {Bs : Nat → Prop} {h h' : MH} {s s' : Int → Int} {ad : Int → Nat} {b : Int} {w lo : Nat} {vd : Int → Nat}
theorem ask_ne {a y : Nat} {i : Int} (z : qAK a s i h) {n : Nat} {g : Nat → Int} (hy : h.2.2 y = some (cArr 0 n g)) : ¬ a = y := ne_oa z hy
theorem c_visit (A : qAD ad lo) (hlo : w + 22 ≤ lo) (z : qW G Bs ad b w vd s h) (ok : okW s) {a : Int} (a0 : 0 ≤ a ∧ a < s 28) : ∃ h' : MH, qW G Bs ad b w vd (GOA s a) h' ∧ qFr gb Bs (fun q => q = ad (b + 10 + a)) h h' ∧ (h'.1 = h.1 ∧ h'.2.1 = h.2.1) ∧ ∀ Q : KQ, wpC G (d + 7) 55 [vR w, vR (ad (b + 10 + a))] h Q = Q none h' := by
  have zz := z
  obtain ⟨⟨z1, -⟩, y1, y2, y3, y4, y5, y6⟩ := zz
  have ok' := ok
  obtain ⟨okd, o34, o29, oWt, oAw, oN, oA⟩ := ok'
  have okd' := okd
  obtain ⟨okm, o28, o27, okA', oP⟩ := okd'
  have a5 : 0 ≤ a ∧ a < 5 := ⟨a0.1, by omega⟩
  obtain ⟨ob, ohd, osh, onb, opl⟩ := oA a a5.1 a5.2
  have hk := y5 a a0.1 a0.2
  have hk' : h.2.2 (ad (b + 10 + a)) = some (cObj 1 [vI (s (1 + a)), vI (s (6 + a)), vI (s (11 + a)), vI (s (16 + a))]) := hk
  obtain ⟨F1, hl1, hF1⟩ := ll_LS y1
  have hHA := fun (i : Int) (K : KQ) => c_hasAunt (G := G) (d := d + 4) (Q := K) z1 hl1 (i := i)
  have hlow : lowS s (GOA s a) := lowS_GOA a5
  by_cases c : s (16 + a) = 0 ∧ s (11 + a) < s 27
  · have hp0 := oP a a5.1 a5.2
    have hIA := fun (i : Int) (K : KQ) => c_isAway (G := G) (d := d + 5) (Q := K) z1 (i := i)
    have hbt := (AWAYS_bt oAw o27).2 (s (11 + a)) hp0 (by omega)
    rw [if_pos c.2] at hbt
    have hHA1 : ∀ K : KQ, wpC G (d + 6) 46 [vR w, vI (s (11 + a))] h K = K (some (vI 1)) h := fun K => (hHA _ K).trans (by rw [if_pos ⟨hp0, c.2⟩])
    by_cases cA : s (21 + s (11 + a)) = 1
    · have eG : GOA s a = up s (11 + a) (s (11 + a) + 1) := by
        unfold GOA MEET; rw [if_pos c, if_pos cA]
      have hIA1 : ∀ K : KQ, wpC G (d + 6) 47 [vR w, vI (s (11 + a))] h K = K (some (vI 1)) h := fun K => (hIA _ K).trans (by rw [hbt, if_pos cA])
      refine ⟨hset h (ad (b + 10 + a)) (cObj 1 [vI (s (1 + a)), vI (s (6 + a)), vI (s (11 + a) + 1), vI (s (16 + a))]), qW_ask (gb := gb) A hlo z ok a0 (qFr_set rfl hk') hlow (fun c' c0 c1 e => GOA_oth a5 c0 c1 e) ?_, qFr_set rfl hk', ⟨rfl, rfl⟩, fun Q => ?_⟩
      · unfold qAK
        rw [hs_eq, eG, up_ne (by omega), up_ne (by omega), up_eq, up_ne (by omega)]
      · have c1 := c.1
        rw [e55]
        simp (disch := omega) only [KK, Int.reduceEq, not_false_iff, ↓reduceIte, ↓if_pos, ↓if_neg, xt_o, true_and, nlO_i, nlO_n, nlO_r, List.length_nil, List.length_cons, Nat.reduceAdd, Nat.reduceLeDiff, Nat.zero_le, U55, hk', z1, hHA1, hIA1, c1, GX1, PX1, VS11, ar_add]
    · have hIA1 : ∀ K : KQ, wpC G (d + 6) 47 [vR w, vI (s (11 + a))] h K = K (some (vI 0)) h := fun K => (hIA _ K).trans (by rw [hbt, if_neg cA])
      obtain ⟨hS, hB⟩ := qW_SW z ok
      obtain ⟨y0, hy0⟩ := qSW_y hS
      obtain ⟨y', hsp⟩ := c_speech (G := G) (d := d) hS okm (y4 _ hp0 c.2) (okA' _ hp0 c.2) (hd := s (1 + a)) ohd
      have hS2 := qSW_sb (y' := y') hS
      have hne := ask_ne hk hy0
      have hwne : ¬ w = hvA w vd s + 4 := ne_oa z1 hy0
      have hh := fun (K : KQ) => c_holdS (G := G) (d := d + 2) (Q := K) hS2
      have hg := fun (x : Int) (K : KQ) => c_wgtS (G := G) (d := d + 5) (Q := K) hS2 (x := x)
      have hnv := fun (K : V → Prop) => SW_nv hS2 (K := K)
      have hgt := fun (K : KQ) => ll_get (G := G) (d := d + 3) (Q := K) y1 (i := s (11 + a)) ⟨hp0, c.2⟩
      have htg := fun (K : Nat → Prop) => ll_tag y1 (K := K)
      have hk2 : (hset h (hvA w vd s + 4) (cArr 0 6 (ix y'))).2.2 (ad (b + 10 + a)) = some (cObj 1 [vI (s (1 + a)), vI (s (6 + a)), vI (s (11 + a)), vI (s (16 + a))]) := (hs_ne hne).trans hk'
      have hhe := fun (x wg nv : Int) (K : KQ) => c_hears (G := G) (d := d + 4) (Q := K) hk2 (x := x) (wg := wg) (nv := nv)
      have hwg := WGT_le (x := SAYA s a) ok
      have hnb := onb c.1
      have eSh : iBin 0 (s (6 + a)) (WGT s (SAYA s a)) = s (6 + a) + WGT s (SAYA s a) := ar_add (by omega)
      have emin : min 9999 (s (6 + a) + WGT s (SAYA s a)) = s (6 + a) + WGT s (SAYA s a) := Int.min_eq_right (by omega)
      have hz1 : (hset h (hvA w vd s + 4) (cArr 0 6 (ix y'))).2.2 w = _ := (hs_ne hwne).trans z1
      have hau := (y4 _ hp0 c.2).1
      have hfr : ∀ c, qFr gb Bs (fun q => q = ad (b + 10 + a)) h (hset (hset h (hvA w vd s + 4) (cArr 0 6 (ix y'))) (ad (b + 10 + a)) c) := fun c => qFr_tr (qFr_sb hB hy0) (qFr_set rfl hk2)
      have hsp' : ∀ Q : KQ, wpC G (d + 6) 49 [vR w, vR (ad (b + s (11 + a))), vI (s (1 + a))] h Q = Q (some (vI (SAYA s a))) (hset h (hvA w vd s + 4) (cArr 0 6 (ix y'))) := hsp
      have c1 := c.1
      by_cases cB : NERVE s < SHKA s a
      · have eG : GOA s a = up (MEETs s a) (16 + a) 1 := by
          unfold GOA MEET; rw [if_pos c, if_neg cA, if_pos cB]
        unfold SHKA at cB
        rw [eSh] at cB
        refine ⟨hset (hset h (hvA w vd s + 4) (cArr 0 6 (ix y'))) (ad (b + 10 + a)) (cObj 1 [vI (iBin 4 (s (1 + a)) (SAYA s a)), vI (s (6 + a) + WGT s (SAYA s a)), vI (s (11 + a)), vI 1]), qW_ask A hlo z ok a0 (hfr _) hlow (fun c' c0 c1 e => GOA_oth a5 c0 c1 e) ?_, hfr _, ⟨rfl, rfl⟩, fun Q => ?_⟩
        · unfold qAK
          rw [hs_eq, eG]
          unfold MEETs SHKA
          rw [up_ne (by omega), up_ne (by omega), up_eq, up_ne (by omega), up_eq, up_ne (by omega), up_ne (by omega), up_ne (by omega), up_eq, eSh]
        · have hAC := fun (pc : Nat) (L : Loc') (st : List V) => AC (G := G) (d := d + 6) (h := h) (Q := Q) (a := ad (b + s (11 + a))) (r := ad (b + s (11 + a)) + 1) (k := s (43 + s (11 + a))) (p := s (11 + a)) (v := s (49 + s (11 + a))) (kn := s (55 + s (11 + a))) (y := 55) (pc := pc) (L := L) (st := st) (okW_k ok _ hp0 c.2)
          rw [e55]
          simp (disch := omega) only [KK, Int.reduceEq, not_false_iff, ↓reduceIte, ↓if_pos, ↓if_neg, xt_o, true_and, nlO_i, nlO_n, nlO_r, List.length_nil, List.length_cons, Nat.reduceAdd, Nat.reduceLeDiff, Nat.zero_le, U55, hk', hk2, z1, hz1, hHA1, hIA1, hgt, htg, hau, hAC, hsp', hg, hh, hnv, hhe, eSh, emin, c1, hs_eq, hs_hs, GX1, PX1, GX11, VS11, VS1, VS0]
      · have eG : GOA s a = up (MEETs s a) (11 + a) (s (11 + a) + 1) := by
          unfold GOA MEET; rw [if_pos c, if_neg cA, if_neg cB]
        unfold SHKA at cB
        rw [eSh] at cB
        refine ⟨hset (hset h (hvA w vd s + 4) (cArr 0 6 (ix y'))) (ad (b + 10 + a)) (cObj 1 [vI (iBin 4 (s (1 + a)) (SAYA s a)), vI (s (6 + a) + WGT s (SAYA s a)), vI (s (11 + a) + 1), vI 0]), qW_ask A hlo z ok a0 (hfr _) hlow (fun c' c0 c1 e => GOA_oth a5 c0 c1 e) ?_, hfr _, ⟨rfl, rfl⟩, fun Q => ?_⟩
        · unfold qAK
          rw [hs_eq, eG]
          unfold MEETs SHKA
          rw [up_ne (by omega), up_ne (by omega), up_eq, up_ne (by omega), up_eq, up_eq, up_ne (by omega), up_ne (by omega), up_ne (by omega), eSh, c1]
        · have hAC := fun (pc : Nat) (L : Loc') (st : List V) => AC (G := G) (d := d + 6) (h := h) (Q := Q) (a := ad (b + s (11 + a))) (r := ad (b + s (11 + a)) + 1) (k := s (43 + s (11 + a))) (p := s (11 + a)) (v := s (49 + s (11 + a))) (kn := s (55 + s (11 + a))) (y := 55) (pc := pc) (L := L) (st := st) (okW_k ok _ hp0 c.2)
          rw [e55]
          simp (disch := omega) only [KK, Int.reduceEq, not_false_iff, ↓reduceIte, ↓if_pos, ↓if_neg, xt_o, true_and, nlO_i, nlO_n, nlO_r, List.length_nil, List.length_cons, Nat.reduceAdd, Nat.reduceLeDiff, Nat.zero_le, U55, hk', hk2, z1, hz1, hHA1, hIA1, hgt, htg, hau, hAC, hsp', hg, hh, hnv, hhe, eSh, emin, c1, hs_eq, hs_hs, GX1, PX1, GX11, VS11, VS1, VS0, ar_add (b := 1)]
  · have eG : GOA s a = s := if_neg c
    rw [eG]
    refine ⟨h, z, qFr_rf, ⟨rfl, rfl⟩, fun Q => ?_⟩
    rw [e55]
    by_cases c1 : s (16 + a) = 0
    · have hHA1 : ∀ K : KQ, wpC G (d + 6) 46 [vR w, vI (s (11 + a))] h K = K (some (vI 0)) h := fun K => (hHA _ K).trans (by rw [if_neg (fun q => c ⟨c1, q.2⟩)])
      simp (disch := omega) only [KK, Int.reduceEq, not_false_iff, ↓reduceIte, ↓if_pos, ↓if_neg, xt_o, true_and, nlO_i, nlO_n, nlO_r, List.length_nil, List.length_cons, Nat.reduceAdd, Nat.reduceLeDiff, Nat.zero_le, U55, hk', z1, hHA1, c1, GX1, VS11]
    · simp (disch := omega) only [KK, Int.reduceEq, not_false_iff, ↓reduceIte, ↓if_pos, ↓if_neg, xt_o, true_and, nlO_i, nlO_n, nlO_r, List.length_nil, List.length_cons, Nat.reduceAdd, Nat.reduceLeDiff, Nat.zero_le, U55, hk', GX1]
end W4
