/-! on, plans done -/
section T9
variable {G : MG} {d : Nat} {Q : KQ} {Bs X : Nat → Prop} {ad : Int → Nat} {vn vi vt : Int → Nat} {s si st bd : Int → Int} {hi rn : Int} {h h' : MH}
/-- one row of a plan, tried -/
theorem c_plS {t : Int → Int} (z : qK G Bs ad vn vi vt s si t hi rn bd h) (e27 : t 27 = s 27) (e28 : t 28 = s 28) {w n : Int} (hw : 0 ≤ w ∧ w ≤ 3) (hn1 : w = 1 ∨ w = 2 → 0 ≤ n ∧ n < s 27) (hn3 : w = 3 → 0 ≤ n ∧ n < s 28) (ht : t 0 < 100000) {i : Int} {l1 : Option V} (n1 : nlO l1 = true) (hi' : 0 ≤ i ∧ i ≤ 100) : ∃ h' : MH, qK G Bs ad vn vi vt s si (plS w n t) hi rn bd h' ∧ (plS w n t 27 = t 27 ∧ plS w n t 28 = t 28 ∧ plS w n t 0 ≤ t 0 + 1 ∧ 0 ≤ plS w n t 0) ∧ qFr G.1 Bs (X0 G.1) h h' ∧ (h'.1 = h.1 ∧ h'.2.1 = h.2.1) ∧ ∀ Q : KQ, wp G (d + 8) 34 63 [some (vR G.1), l1, some (vI i), some (vI w), some (vI n)] [] h Q = wp G (d + 8) 34 24 [some (vR G.1), l1, some (vI (i + 1)), some (vI w), some (vI n)] [] h' Q := by
  have hx := K_x z
  have zt := (K_t z).1.1
  have okt := K_pt z
  have ot0 := okt.1.1.2.2.2.2.2.1
  have o28 := okt.1.2.1
  have o27 := okt.1.2.2.1
  have A := K_A z
  have wkX : ∀ a, qAs ad 200 (G.1 + 45) (t 28) a → X0 G.1 a := fun a q => by
    rcases q with q | ⟨c, c0, c1, q⟩
    · left; omega
    · right; have := A.2 (200 + 10 + c); omega
  by_cases w0 : w = 0
  · obtain ⟨h1, y1, y2, y3, y4⟩ := c_daysGo (gb := G.1) (d := d) A (by omega) (K_t z) okt (n := 1) (by omega) (by omega)
    have eg : GOESn (1 : Int).toNat t = GOES t := rfl
    rw [eg] at y1
    have e29 : GOES t 29 = t 29 := GOES_low okt.1 29 (by omega)
    have eS : plS w n t = GOES t := if_pos w0
    rw [eS]
    refine ⟨h1, K_trd z y2 y3.1 y1 (okW_GOES okt ht) e29, ⟨GOES_low okt.1 27 (by omega), GOES_low okt.1 28 (by omega), by rw [GOES_0]; omega, by rw [GOES_0]; omega⟩, qFr_wk y2 wkX, y3, fun Q => ?_⟩
    generalize hW : wp G (d + 8) 34 24 [some (vR G.1), l1, some (vI (i + 1)), some (vI w), some (vI n)] [] h1 Q = W
    rw [u34_63, u34_64, if_neg (fun q => q w0)]
    simp only [u34_67, u34_68, u34_71, u34_72, u34_75, u34_135, u34_138, KK, hx, zt, y4, GX12, VS11, xt_o, n1, nlO_i, true_and, List.length_nil, List.length_cons, Nat.reduceAdd, Nat.reduceLeDiff, Nat.zero_le]
    rw [ar_add (by omega)]
    exact hW
  · by_cases w3 : w = 3
    · have hn := hn3 w3
      rw [← e28] at hn
      obtain ⟨F, hl, -⟩ := ll_LS (K_t z).2.2.1
      have hH := fun (K : KQ) => (c_hasAsker (G := G) (d := d + 6) (Q := K) zt hl (i := n)).trans (by rw [if_pos hn])
      have hgt := fun (K : KQ) => ll_get (G := G) (d := d + 5) (Q := K) (K_t z).2.2.1 (i := n) hn
      have htg := fun (K : Nat → Prop) => ll_tag (K_t z).2.2.1 (K := K)
      have hk : h.2.2 (ad (200 + 10 + n)) = some (cObj 1 [vI (t (1 + n)), vI (t (6 + n)), vI (t (11 + n)), vI (t (16 + n))]) := (K_t z).2.2.2.2.2.1 _ hn.1 hn.2
      have hsa := fun (K : KQ) => c_startAnew (G := G) (d := d + 7) (Q := K) hk
      obtain ⟨h1, hh1⟩ : ∃ h1, h1 = hset h (ad (200 + 10 + n)) (cObj 1 [vI (t (1 + n)), vI 0, vI 0, vI 0]) := ⟨_, rfl⟩
      have f1 : qFr G.1 Bs (fun q => q = ad (200 + 10 + n)) h h1 := by rw [hh1]; exact qFr_set rfl hk
      have n5 : 0 ≤ n ∧ n < 5 := ⟨hn.1, by omega⟩
      have bl := BEGs_low (t := t) n5
      have y1 : qW G Bs ad 200 (G.1 + 45) vt (BEGs t n) h1 := qW_ask A (by omega) (K_t z) okt hn f1 bl (fun c c0 c1 e => BEGs_oth c c0 c1 n5 e) (by
        obtain ⟨q1, q2, q3, q4⟩ := BEGs_at (t := t) n5
        unfold qAK
        rw [q1, q2, q3, q4, hh1, hs_eq])
      have eS : plS w n t = BEGs t n := (if_neg w0).trans (if_pos w3)
      rw [eS]
      have fw : qFr G.1 Bs (qAs ad 200 (G.1 + 45) (t 28)) h h1 := qFr_wk f1 (fun a q => Or.inr ⟨n, hn.1, hn.2, q⟩)
      have hc1 : h1.1 = h.1 ∧ h1.2.1 = h.2.1 := by rw [hh1]; exact ⟨rfl, rfl⟩
      refine ⟨h1, K_trd z fw hc1.1 y1 (okW_BEG okt n5) (bl 29 (by omega)), ⟨bl 27 (by omega), bl 28 (by omega), by rw [bl 0 (by omega)]; omega, by rw [bl 0 (by omega)]; omega⟩, qFr_wk fw wkX, hc1, fun Q => ?_⟩
      generalize hW : wp G (d + 8) 34 24 [some (vR G.1), l1, some (vI (i + 1)), some (vI w), some (vI n)] [] h1 Q = W
      rw [u34_63, u34_64, if_pos w0, u34_78, u34_79, u34_80, if_neg (fun q => q w3)]
      simp only [u34_83, u34_84, u34_87, u34_89, KK, hx, zt, hH, GX12, VS11, xt_o, List.length_nil, List.length_cons, Nat.reduceAdd, Nat.reduceLeDiff, Nat.zero_le, true_and]
      rw [u34_92, if_neg (by decide)]
      simp only [u34_95, u34_96, u34_99, u34_102, u34_104, u34_107, u34_110, KK, hx, zt, hgt, htg, hk, hsa, OKS, GX12, GX11, VS0, VS1, xt_o, List.length_nil, List.length_cons, Nat.reduceAdd, Nat.reduceLeDiff, Nat.zero_le, true_and]
      rw [← hh1]
      simp only [u34_113, u34_135, u34_138, n1, true_and]
      rw [ar_add (by omega)]
      exact hW
    · have hn := hn1 (by omega)
      rw [← e27] at hn
      obtain ⟨v, hv⟩ : ∃ v : Int, v = if w = 1 then 1 else 0 := ⟨_, rfl⟩
      have hv01 : v = 0 ∨ v = 1 := by rw [hv]; split; exact Or.inr rfl; exact Or.inl rfl
      have eS : plS w n t = up t (21 + n) v := ((if_neg w0).trans (if_neg w3)).trans (by rw [hv])
      have eV : eqV t (up t (21 + n) v) := fun k hk => up_ne (by omega)
      have h01 : ∀ k, 0 ≤ k → k < 6 → up t (21 + n) v (21 + k) = 0 ∨ up t (21 + n) v (21 + k) = 1 := fun k k0 k1 => by
        by_cases e : k = n
        · rw [e, up_eq]; exact hv01
        · rw [up_ne (by omega)]; exact okt.2.2.2.2.1 k k0 k1
      have eA := AWAYS_up okt.2.2.2.2.1 o27 hn.1 hn.2 hv01
      have hsa := fun (K : KQ) => c_setAway (G := G) (d := d + 7) (Q := K) zt (n := n) (v := v)
      have eA2 : (if ¬ v = 0 then iBin 4 (AWAYS t) (iBin 6 1 n) else iBin 3 (AWAYS t) (iBin 5 (iBin 6 1 n) (-1))) = AWAYS (up t (21 + n) v) := by
        rw [eA]
        rcases hv01 with q | q
        · rw [if_neg (fun z => z q), if_neg (by omega)]
        · rw [if_pos (by omega), if_pos q]
      rw [eA2] at hsa
      obtain ⟨h1, hh1⟩ : ∃ h1, h1 = hset h (G.1 + 45) (wO (G.1 + 45) (t 33) (t 0) (AWAYS (up t (21 + n) v))) := ⟨_, rfl⟩
      have f1 : qFr G.1 Bs (fun q => q = G.1 + 45) h h1 := by rw [hh1]; exact qFr_set rfl zt
      have y1 : qW G Bs ad 200 (G.1 + 45) vt (up t (21 + n) v) h1 := qW_wob (K_t z) okt A (by omega) f1 (by rw [hh1, hs_eq, eV 33 (by omega), eV 0 (by omega)]) (fun k _ _ hk => eV k hk)
      rw [eS]
      have fw : qFr G.1 Bs (qAs ad 200 (G.1 + 45) (t 28)) h h1 := qFr_wk f1 (fun a q => Or.inl q)
      have hc1 : h1.1 = h.1 ∧ h1.2.1 = h.2.1 := by rw [hh1]; exact ⟨rfl, rfl⟩
      refine ⟨h1, K_trd z fw hc1.1 y1 (okW_V eV h01 okt) (eV 29 (by omega)), ⟨eV 27 (by omega), eV 28 (by omega), by rw [eV 0 (by omega)]; omega, by rw [eV 0 (by omega)]; omega⟩, qFr_wk fw wkX, hc1, fun Q => ?_⟩
      generalize hW : wp G (d + 8) 34 24 [some (vR G.1), l1, some (vI (i + 1)), some (vI w), some (vI n)] [] h1 Q = W
      rw [u34_63, u34_64, if_pos w0, u34_78, u34_79, u34_80, if_pos w3]
      have key : wp G (d + 8) 34 116 [some (vR G.1), l1, some (vI i), some (vI w), some (vI n)] [] h Q = wp G (d + 8) 34 132 [some (vR G.1), l1, some (vI i), some (vI w), some (vI n)] [vI v, vI n, vR (G.1 + 45)] h Q := by
        simp only [u34_116, u34_117, u34_120, u34_122, u34_123, KK, hx, GX12]
        rw [u34_124]
        by_cases w1 : w = 1
        · rw [if_neg (fun q => q w1), u34_127, u34_128, hv, if_pos w1]
        · rw [if_pos w1, u34_131, hv, if_neg w1]
      rw [key]
      simp only [u34_132, KK, zt, hsa, VS11, xt_o, List.length_nil, List.length_cons, Nat.reduceAdd, Nat.reduceLeDiff, Nat.zero_le, true_and]
      rw [← hh1]
      simp only [u34_135, u34_138, n1, true_and]
      rw [ar_add (by omega)]
      exact hW
theorem plF_ok : ∀ (m : Nat) (i : Int) (t : Int → Int), True := fun _ _ _ => trivial
theorem c_done_l {l1 : Option V} (n1 : nlO l1 = true) : ∀ (m : Nat) (i : Int) (t : Int → Int) (h : MH) (l3 l4 : Option V), qK G Bs ad vn vi vt s si t hi rn bd h → t 27 = s 27 → t 28 = s 28 → 0 ≤ t 0 → t 0 + m ≤ 90000 → 0 ≤ i → i + m = s 31 → nlO l3 = true → nlO l4 = true → ∃ (h' : MH) (l3' l4' : Option V), qK G Bs ad vn vi vt s si (plF s m i t) hi rn bd h' ∧ qFr G.1 Bs (X0 G.1) h h' ∧ (h'.1 = h.1 ∧ h'.2.1 = h.2.1) ∧ ∀ Q : KQ, wp G (d + 8) 34 24 [some (vR G.1), l1, some (vI i), l3, l4] [] h Q = wp G (d + 8) 34 141 [some (vR G.1), l1, some (vI (s 31)), l3', l4'] [] h' Q := by
  intro m
  induction m with
  | zero =>
    intro i t h l3 l4 z e27 e28 t0 tm i0 hi' n3 n4
    have h31 := (K_p z).2.2.1
    have hx := K_x z
    have zn := (K_n z).1.1
    have zr := (K_n z).1.2.2.2.2.1
    have hkp := fun (K : KQ) => c_kept (G := G) (d := d + 6) (Q := K) zr
    have htg := fun (K : Nat → Prop) => rw_tag zr (K := K)
    have hmin : min (s 31) ((8 : Nat) : Int) = s 31 := Int.min_eq_left (by omega)
    rw [hmin] at hkp
    have : i = s 31 := by omega
    subst this
    refine ⟨h, l3, l4, z, qFr_rf, ⟨rfl, rfl⟩, fun Q => ?_⟩
    rw [u34_24]
    simp only [u34_25, u34_26, u34_29, u34_32, KK, hx, zn, htg, hkp, GX12, GX11, VS7, xt_o, List.length_nil, List.length_cons, Nat.reduceAdd, Nat.reduceLeDiff, Nat.zero_le, true_and]
    rw [u34_35, if_pos (Int.le_refl _)]
  | succ m ih =>
    intro i t h l3 l4 z e27 e28 t0 tm i0 hi' n3 n4
    have h31 := (K_p z).2.2.1
    have hx := K_x z
    have zn := (K_n z).1.1
    have zr := (K_n z).1.2.2.2.2.1
    have hkp := fun (K : KQ) => c_kept (G := G) (d := d + 6) (Q := K) zr
    have htg := fun (K : Nat → Prop) => rw_tag zr (K := K)
    have hmin : min (s 31) ((8 : Nat) : Int) = s 31 := Int.min_eq_left (by omega)
    rw [hmin] at hkp
    have hfi := fun (K : KQ) => (c_first (G := G) (d := d + 5) (Q := K) zr h31.1 (i := i)).trans (by rw [if_pos ⟨i0, by omega, by omega⟩])
    have hse := fun (K : KQ) => (c_second (G := G) (d := d + 5) (Q := K) zr h31.1 (i := i)).trans (by rw [if_pos ⟨i0, by omega, by omega⟩])
    have hpl := (K_p z).2.2.2.2.2.2.1 i i0 (by omega)
    obtain ⟨h1, z1, ⟨a1, a2, a3, a4⟩, f1, c1, w1⟩ := c_plS (d := d) z e27 e28 (w := s (95 + i)) (n := s (103 + i)) hpl.1 hpl.2.1 hpl.2.2 (by omega) (i := i) n1 ⟨i0, by omega⟩
    obtain ⟨h2, l3', l4', z2, f2, c2, w2⟩ := ih (i + 1) _ h1 (some (vI (s (95 + i)))) (some (vI (s (103 + i)))) z1 (a1.trans e27) (a2.trans e28) a4 (by omega) (by omega) (by omega) rfl rfl
    refine ⟨h2, l3', l4', z2, qFr_tr f1 f2, ⟨c2.1.trans c1.1, c2.2.trans c1.2⟩, fun Q => ?_⟩
    rw [← w2 Q, ← w1 Q]
    generalize hW : wp G (d + 8) 34 63 [some (vR G.1), l1, some (vI i), some (vI (s (95 + i))), some (vI (s (103 + i)))] [] h Q = W
    rw [u34_24]
    simp only [u34_25, u34_26, u34_29, u34_32, KK, hx, zn, htg, hkp, GX12, GX11, VS7, xt_o, List.length_nil, List.length_cons, Nat.reduceAdd, Nat.reduceLeDiff, Nat.zero_le, true_and]
    rw [u34_35, if_neg (by omega)]
    simp only [u34_38, u34_39, u34_42, u34_45, u34_46, u34_49, u34_50, u34_51, u34_54, u34_57, u34_58, u34_61, KK, hx, zn, htg, hfi, hse, GX12, GX11, VS7, xt_o, n3, n4, nlO_i, List.length_nil, List.length_cons, Nat.reduceAdd, Nat.reduceLeDiff, Nat.zero_le, true_and]
    exact hW
theorem A_done (z : qK G Bs ad vn vi vt s si st hi rn bd h) (hr : h.1 + 60 ≤ maxC ∧ h.2.1 + 300 ≤ maxS) {w : Int} : cS G (d + 9) 34 [vI w] (vI (aDONE s w)) s si hi rn bd h := by
  have hx := K_x z
  have zn := (K_n z).1.1
  have zt := (K_t z).1.1
  unfold aDONE
  by_cases c : 0 ≤ w ∧ w ≤ 1
  · rw [if_pos c]
    have hd := (K_p z).2.2.2.2.2.2.2.2.2.2
    have hd0 := (K_p z).1.1.1.2.2.2.2.2.1
    have h31 := (K_p z).2.2.1
    obtain ⟨ad', h1, z1, f1, c1, c2, w1⟩ := K_try (d := d + 1) z hr
    obtain ⟨h2, l3', l4', z2, f2, c3, w2⟩ := c_done_l (d := d) (l1 := some (vI w)) rfl (s 31).toNat 0 s h1 none none z1 rfl rfl hd0 (by omega) (by omega) (by omega) rfl rfl
    have hx2 := K_x z2
    have zt2 := (K_t z2).1.1
    have hbk := fun (K : KQ) => c_howManyBack (G := G) (d := d + 4) (Q := K) (K_t z2) (K_pt z2)
    have hth := fun (K : KQ) => c_howManyThrough (G := G) (d := d + 4) (Q := K) (K_t z2) (K_pt z2)
    refine ⟨Bs, ad', vn, vi, vn, _, h2, z2, qFr_tr f1 f2, by omega, by omega, fun Q => ?_⟩
    have w2 := w2 Q
    have key : wp G (d + 8) 34 0 [some (vR G.1), some (vI w), none, none, none] [] h Q = wp G (d + 8) 34 24 [some (vR G.1), some (vI w), some (vI 0), none, none] [] h1 Q := by
      generalize hW : wp G (d + 8) 34 24 [some (vR G.1), some (vI w), some (vI 0), none, none] [] h1 Q = W
      rw [u34_0, u34_1, if_neg (by omega), u34_4, u34_5, u34_6, if_pos (by omega)]
      simp only [u34_11, u34_12, u34_15, u34_16, u34_19, u34_22, u34_23, KK, hx, zt, w1, GX12, VS11, xt_o, nlO_i, nlO_n, List.length_nil, List.length_cons, Nat.reduceAdd, Nat.reduceLeDiff, Nat.zero_le, true_and]
      exact hW
    rw [e34, key, w2]
    by_cases w0 : w = 0
    · rw [if_pos w0]
      simp (disch := omega) only [KK, Int.reduceEq, not_false_iff, ↓reduceIte, ↓if_pos, ↓if_neg, xt_o, true_and, nlO_i, nlO_n, nlO_r, List.length_nil, List.length_cons, Nat.reduceAdd, Nat.reduceLeDiff, Nat.zero_le, U34, w0, hx2, zt2, hbk, GX12, VS11]
    · rw [if_neg w0]
      simp (disch := omega) only [KK, Int.reduceEq, not_false_iff, ↓reduceIte, ↓if_pos, ↓if_neg, xt_o, true_and, nlO_i, nlO_n, nlO_r, List.length_nil, List.length_cons, Nat.reduceAdd, Nat.reduceLeDiff, Nat.zero_le, U34, hx2, zt2, hth, GX12, VS11]
  · rw [if_neg c]
    refine cQ_S (cQ_id z (fun Q => ?_))
    rw [e34]
    by_cases c1 : w < 0
    · simp (disch := omega) only [KK, Int.reduceEq, not_false_iff, ↓reduceIte, ↓if_pos, ↓if_neg, xt_o, true_and, nlO_i, nlO_n, nlO_r, List.length_nil, List.length_cons, Nat.reduceAdd, Nat.reduceLeDiff, Nat.zero_le, U34]
    · simp (disch := omega) only [KK, Int.reduceEq, not_false_iff, ↓reduceIte, ↓if_pos, ↓if_neg, xt_o, true_and, nlO_i, nlO_n, nlO_r, List.length_nil, List.length_cons, Nat.reduceAdd, Nat.reduceLeDiff, Nat.zero_le, U34]
theorem A_on (z : qK G Bs ad vn vi vt s si st hi rn bd h) (hr : h.1 + 60 ≤ maxC ∧ h.2.1 + 300 ≤ maxS) {n w : Int} (hw : w < 2147483648) : cS G (d + 9) 21 [vI n, vI w] (vI (aON s n w)) s si hi rn bd h := by
  have hx := K_x z
  have zn := (K_n z).1.1
  have zt := (K_t z).1.1
  have ok := (K_p z).1
  have h28 := ok.1.2.1
  have hF := fun (K : KQ) => c_areDays (G := G) (d := d + 7) (h := h) (Q := K) (f := n)
  have hH := fun (i : Int) (K : KQ) => K_hask (d := d + 6) (Q := K) z (i := i)
  have hd := (K_p z).2.2.2.2.2.2.2.2.2.2
  have hd0 := ok.1.1.2.2.2.2.2.1
  unfold aON
  obtain ⟨g, hg⟩ : ∃ g : Int, g = if w < 0 then -1 else w / 10 := ⟨_, rfl⟩
  obtain ⟨oa, hoa⟩ : ∃ oa : Int, oa = if (1 ≤ g ∧ g ≤ 3) ∧ w % 10 < s 28 then 1 else 0 := ⟨_, rfl⟩
  have k1 : ∀ Q : KQ, wp G (d + 8) 21 0 [some (vR G.1), some (vI n), some (vI w), none, none, none] [] h Q = wp G (d + 8) 21 44 [some (vR G.1), some (vI n), some (vI w), some (vI g), some (vI oa), none] [] h Q := fun Q => by
    generalize hW : wp G (d + 8) 21 44 [some (vR G.1), some (vI n), some (vI w), some (vI g), some (vI oa), none] [] h Q = W
    by_cases c0 : w < 0
    · rw [if_pos c0] at hg
      rw [if_neg (by omega)] at hoa
      rw [u21_0, u21_1, if_neg (by omega)]
      rw [hg, hoa] at hW
      simp (disch := omega) only [u21_4, u21_5, u21_12, u21_13, u21_14, u21_15, ↓if_pos, ↓if_neg, u21_41, u21_42, nlO_i, nlO_n, true_and, Int.reduceLT, ↓reduceIte, or_true, true_or]
      exact hW
    · rw [if_neg c0] at hg
      have hdv := ar_div (a := w) (b := 10) (by omega)
      have hrm := ar_rem (a := w) (b := 10) (by omega)
      rw [u21_0, u21_1, if_pos (by omega)]
      by_cases c1 : g < 1
      · rw [if_neg (by omega)] at hoa
        rw [hoa] at hW
        simp (disch := omega) only [u21_8, u21_9, u21_11, hdv, ← hg, u21_12, u21_13, u21_14, u21_15, ↓if_pos, ↓if_neg, u21_41, u21_42, nlO_i, nlO_n, true_and, Int.reduceEq, not_false_iff, or_true, true_or]
        exact hW
      · by_cases c2 : 3 < g
        · rw [if_neg (by omega)] at hoa
          rw [hoa] at hW
          simp (disch := omega) only [u21_8, u21_9, u21_11, hdv, ← hg, u21_12, u21_13, u21_14, u21_15, u21_18, u21_19, u21_20, ↓if_pos, ↓if_neg, u21_41, u21_42, nlO_i, nlO_n, true_and, Int.reduceEq, not_false_iff, or_true, true_or]
          exact hW
        · by_cases c3 : w % 10 < s 28
          · rw [if_pos ⟨⟨by omega, by omega⟩, c3⟩] at hoa
            have hH := fun (K : KQ) => (hH (w % 10) K).trans (by rw [if_pos ⟨by omega, c3⟩])
            rw [hoa] at hW
            simp (disch := omega) only [u21_8, u21_9, u21_11, hdv, ← hg, u21_12, u21_13, u21_14, u21_15, u21_18, u21_19, u21_20, u21_23, u21_24, u21_27, u21_28, u21_30, u21_31, u21_34, u21_37, u21_38, KK, hx, zn, hrm, hH, GX12, VS11, xt_o, ↓if_pos, ↓if_neg, u21_42, nlO_i, nlO_n, true_and, Int.reduceEq, not_false_iff, or_true, true_or, List.length_nil, List.length_cons, Nat.reduceAdd, Nat.reduceLeDiff, Nat.zero_le]
            exact hW
          · rw [if_neg (fun q => c3 q.2)] at hoa
            have hH := fun (K : KQ) => (hH (w % 10) K).trans (by rw [if_neg (fun q => c3 q.2)])
            rw [hoa] at hW
            simp (disch := omega) only [u21_8, u21_9, u21_11, hdv, ← hg, u21_12, u21_13, u21_14, u21_15, u21_18, u21_19, u21_20, u21_23, u21_24, u21_27, u21_28, u21_30, u21_31, u21_34, u21_41, KK, hx, zn, hrm, hH, GX12, VS11, xt_o, ↓if_pos, ↓if_neg, u21_42, nlO_i, nlO_n, true_and, Int.reduceEq, not_false_iff, or_true, true_or, List.length_nil, List.length_cons, Nat.reduceAdd, Nat.reduceLeDiff, Nat.zero_le]
            exact hW
  by_cases cW : w = 0 ∨ (10 ≤ w ∧ w < 10 + s 28) ∨ (20 ≤ w ∧ w < 20 + s 28) ∨ (30 ≤ w ∧ w < 30 + s 28)
  · rw [if_pos cW]
    have k2 : ∀ Q : KQ, wp G (d + 8) 21 44 [some (vR G.1), some (vI n), some (vI w), some (vI g), some (vI oa), none] [] h Q = wp G (d + 8) 21 55 [some (vR G.1), some (vI n), some (vI w), some (vI g), some (vI oa), none] [] h Q := fun Q => by
      by_cases c0 : w = 0
      · rw [u21_44, u21_45, if_pos c0]
      · have eg : g = w / 10 := by rw [hg, if_neg (by omega)]
        have : oa = 1 := by rw [hoa, if_pos (by omega)]
        rw [u21_44, u21_45, if_neg c0, u21_48, u21_50, if_pos (by omega)]
    by_cases c : 0 ≤ n ∧ n ≤ 60
    · rw [if_pos c]
      have hF := fun (K : KQ) => (hF K).trans (by rw [if_pos c])
      obtain ⟨ad', h1, h2, z1, z2, f, c1, c2, x1, x2⟩ := K_days (d := d) z hr c
      have hx1 := K_x z1
      have hx2 := K_x z2
      have zt1 := (K_t z1).1.1
      have zt2 := (K_t z2).1.1
      have ok2 := K_pt z2
      have l28 := GOESn_low n.toNat ok.1 (by omega) 28 (by omega)
      obtain ⟨F2, hl2, -⟩ := ll_LS (K_t z2).2.2.1
      have htg2 := fun (K : Nat → Prop) => ll_tag (K_t z2).2.2.1 (K := K)
      have k3 : ∀ Q : KQ, wp G (d + 8) 21 55 [some (vR G.1), some (vI n), some (vI w), some (vI g), some (vI oa), none] [] h Q = wp G (d + 8) 21 84 [some (vR G.1), some (vI n), some (vI w), some (vI g), some (vI oa), none] [] h2 Q := fun Q => by
        generalize hW : wp G (d + 8) 21 84 [some (vR G.1), some (vI n), some (vI w), some (vI g), some (vI oa), none] [] h2 Q = W
        simp (disch := omega) only [u21_55, u21_56, u21_59, u21_65, u21_66, u21_69, u21_70, u21_73, u21_76, u21_77, u21_80, u21_81, KK, hx, hx1, zt, zt1, hF, x1, x2, GX12, VS11, xt_o, ↓if_pos, ↓if_neg, nlO_i, nlO_n, true_and, List.length_nil, List.length_cons, Nat.reduceAdd, Nat.reduceLeDiff, Nat.zero_le]
        exact hW
      refine ⟨Bs, ad', vn, vi, vn, _, h2, z2, f, by omega, by omega, fun Q => ?_⟩
      rw [e21, k1, k2, k3]
      by_cases c0 : w = 0
      · have hbk := fun (K : KQ) => c_howManyBack (G := G) (d := d + 4) (Q := K) (K_t z2) ok2
        rw [if_pos c0]
        simp (disch := omega) only [KK, Int.reduceEq, not_false_iff, ↓reduceIte, ↓if_pos, ↓if_neg, xt_o, true_and, nlO_i, nlO_n, nlO_r, List.length_nil, List.length_cons, Nat.reduceAdd, Nat.reduceLeDiff, Nat.zero_le, U21, c0, hx2, zt2, hbk, GX12, VS11]
      · rw [if_neg c0]
        obtain ⟨p, hp⟩ : ∃ p : Int, p = w % 10 := ⟨_, rfl⟩
        have hp2 : 0 ≤ p ∧ p < GOESn n.toNat s 28 := by rw [l28]; omega
        have hrm := ar_rem (a := w) (b := 10) (by omega)
        rw [← hp] at hrm
        have hH2 := fun (K : KQ) => (c_hasAsker (G := G) (d := d + 6) (Q := K) zt2 hl2 (i := p)).trans (by rw [if_pos hp2])
        have hgt2 := fun (K : KQ) => ll_get (G := G) (d := d + 5) (Q := K) (K_t z2).2.2.1 (i := p) hp2
        have hk2 : h2.2.2 (ad' (200 + 10 + p)) = some (cObj 1 [vI (GOESn n.toNat s (1 + p)), vI (GOESn n.toNat s (6 + p)), vI (GOESn n.toNat s (11 + p)), vI (GOESn n.toNat s (16 + p))]) := (K_t z2).2.2.2.2.2.1 _ hp2.1 hp2.2
        rcases (show (10 ≤ w ∧ w < 20) ∨ (20 ≤ w ∧ w < 30) ∨ (30 ≤ w ∧ w < 40) by omega) with q | q | q
        · have eg : g = 1 := by rw [hg, if_neg (by omega)]; omega
          rw [if_pos q.2, show w - 10 = p by omega]
          simp (disch := omega) only [KK, Int.reduceEq, not_false_iff, ↓reduceIte, ↓if_pos, ↓if_neg, xt_o, true_and, nlO_i, nlO_n, nlO_r, List.length_nil, List.length_cons, Nat.reduceAdd, Nat.reduceLeDiff, Nat.zero_le, U21, eg, hx2, zt2, hrm, hH2, htg2, hgt2, hk2, GX12, GX11, GX1, VS11, VS0, OKS]
        · have eg : g = 2 := by rw [hg, if_neg (by omega)]; omega
          rw [if_neg (by omega), if_pos q.2, show w - 20 = p by omega]
          simp (disch := omega) only [KK, Int.reduceEq, not_false_iff, ↓reduceIte, ↓if_pos, ↓if_neg, xt_o, true_and, nlO_i, nlO_n, nlO_r, List.length_nil, List.length_cons, Nat.reduceAdd, Nat.reduceLeDiff, Nat.zero_le, U21, eg, hx2, zt2, hrm, hH2, htg2, hgt2, hk2, GX12, GX11, GX1, VS11, VS0, OKS]
        · have eg : g = 3 := by rw [hg, if_neg (by omega)]; omega
          rw [if_neg (by omega), if_neg (by omega), show w - 30 = p by omega]
          simp (disch := omega) only [KK, Int.reduceEq, not_false_iff, ↓reduceIte, ↓if_pos, ↓if_neg, xt_o, true_and, nlO_i, nlO_n, nlO_r, List.length_nil, List.length_cons, Nat.reduceAdd, Nat.reduceLeDiff, Nat.zero_le, U21, eg, hx2, zt2, hrm, hH2, htg2, hgt2, hk2, GX12, GX11, GX1, VS11, VS0, OKS]
    · rw [if_neg c]
      have hF := fun (K : KQ) => (hF K).trans (by rw [if_neg c])
      refine cQ_S (cQ_id z (fun Q => ?_))
      rw [e21, k1, k2]
      simp (disch := omega) only [KK, Int.reduceEq, not_false_iff, ↓reduceIte, ↓if_pos, ↓if_neg, xt_o, true_and, nlO_i, nlO_n, nlO_r, List.length_nil, List.length_cons, Nat.reduceAdd, Nat.reduceLeDiff, Nat.zero_le, U21, hF]
  · rw [if_neg cW]
    refine cQ_S (cQ_id z (fun Q => ?_))
    have : oa = 0 := by
      rw [hoa, if_neg]
      rw [hg]
      split <;> omega
    rw [e21, k1, u21_44, u21_45, if_neg (by omega), u21_48, u21_50, if_neg (by omega)]
    simp (disch := omega) only [KK, Int.reduceEq, not_false_iff, ↓reduceIte, ↓if_pos, ↓if_neg, xt_o, true_and, nlO_i, nlO_n, nlO_r, List.length_nil, List.length_cons, Nat.reduceAdd, Nat.reduceLeDiff, Nat.zero_le, U21]
end T9
