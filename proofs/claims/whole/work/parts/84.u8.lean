/-! a new aunt -/
theorem sAUNT_aw {s : Int → Int} {k v kn : Int} (h01 : ∀ k, 0 ≤ k → k < 6 → s (21 + k) = 0 ∨ s (21 + k) = 1) (h : 0 ≤ s 27 ∧ s 27 < 6) : (∀ j, 0 ≤ j → j < 6 → sAUNT s k v kn (21 + j) = 0 ∨ sAUNT s k v kn (21 + j) = 1) ∧ AWAYS (sAUNT s k v kn) = AWAYS s := by
  obtain ⟨e27, -, -, -, e21, -⟩ := sAUNT_at (s := s) (k := k) (v := v) (kn := kn) h
  have h01' : ∀ j, 0 ≤ j → j < 6 → sAUNT s k v kn (21 + j) = 0 ∨ sAUNT s k v kn (21 + j) = 1 := fun j j0 j1 => by
    by_cases e : j = s 27
    · rw [e, e21]; exact Or.inl rfl
    · rw [sAUNT_ne (by omega) (by omega) (by omega) (by omega) (by omega) (by omega)]; exact h01 j j0 j1
  refine ⟨h01', ?_⟩
  have a1 := AWAYS_bt h01' (by rw [e27]; omega)
  have a2 := AWAYS_bt h01 ⟨h.1, by omega⟩
  refine aw_ext a1.1.1 a1.1.2 a2.1.1 a2.1.2 (fun j j0 j1 => ?_)
  rw [a1.2 j j0 j1, a2.2 j j0 j1, e27]
  by_cases e : j = s 27
  · rw [if_pos (by omega), if_neg (by omega), e, e21]
  · by_cases e2 : j < s 27
    · rw [if_pos (by omega), if_pos e2, sAUNT_ne (by omega) (by omega) (by omega) (by omega) (by omega) (by omega)]
    · rw [if_neg (by omega), if_neg e2]
section U8
variable {G : MG} {d : Nat} {Q : KQ} {gb : Nat} {Bs X : Nat → Prop} {ad ad' : Int → Nat} {b : Int} {w lo : Nat} {vd vn vn' vi vt : Int → Nat} {s s' si st bd : Int → Int} {hi rn : Int} {h h' : MH}
theorem A_aunt (z : qK G Bs ad vn vi vt s si st hi rn bd h) (hr : h.1 + 60 ≤ maxC ∧ h.2.1 + 300 ≤ maxS) {k v kn : Int} : cS G (d + 7) 4 [vI k, vI v, vI kn] (vI (rAUNT s k v kn)) (tAUNT s k v kn) si hi rn bd h := by
  have hx := K_x z
  have zn := (K_n z).1.1
  have ok := (K_p z).1
  have o27 := ok.1.2.2.1
  have o28 := ok.1.2.1
  have o29 := ok.2.2.1
  have hf := z.2.2.1
  have hst := (K_st z).1
  have hge := (K_st z).2
  have gq := K_G z
  have hsz := fun (K : KQ) => ll_size (G := G) (d := d + 5) (Q := K) (K_n z).2.1
  have htg := fun (K : Nat → Prop) => ll_tag (K_n z).2.1 (K := K)
  have hD := fun (K : KQ) => c_isDigit (G := G) (d := d + 5) (h := h) (Q := K) (f := v)
  have hF := fun (K : KQ) => c_areFacts (G := G) (d := d + 5) (h := h) (Q := K) (f := kn)
  unfold rAUNT tAUNT
  by_cases ck : 0 ≤ k ∧ k ≤ 6
  · rw [if_pos ck]
    by_cases cv : 0 ≤ v ∧ v ≤ 9
    · have hD := fun (K : KQ) => (hD K).trans (by rw [if_pos cv])
      by_cases cn : 0 ≤ kn ∧ kn ≤ 255
      · have hF := fun (K : KQ) => (hF K).trans (by rw [if_pos cn])
        rw [if_pos ⟨cv, cn⟩]
        by_cases c : s 27 = 6
        · rw [if_pos c, if_neg (fun q => q.2 c)]
          refine cQ_S (cQ_id z (fun Q => ?_))
          rw [e4]
          simp (disch := omega) only [KK, Int.reduceEq, not_false_iff, ↓reduceIte, ↓if_pos, ↓if_neg, xt_o, true_and, nlO_i, nlO_n, nlO_r, List.length_nil, List.length_cons, Nat.reduceAdd, Nat.reduceLeDiff, Nat.zero_le, U4, hx, zn, hsz, htg, hD, hF, GX12, GX11, VS0]
        · rw [if_neg c, if_pos ⟨⟨ck, cv, cn⟩, c⟩]
          have a6 : 0 ≤ s 27 ∧ s 27 < 6 := ⟨o27.1, by omega⟩
          have e : ∀ i, ¬ i = 27 → ((1 ≤ i ∧ i ≤ 20) ∨ i ≤ 0 ∨ (28 ≤ i ∧ i < 43) ∨ 85 ≤ i) → sAUNT s k v kn i = s i := fun i h1 h2 => sAUNT_ne (by omega) (by omega) (by omega) (by omega) (by omega) h1
          have eo : ∀ i, 0 ≤ i → i < s 27 → sAUNT s k v kn (43 + i) = s (43 + i) ∧ sAUNT s k v kn (49 + i) = s (49 + i) ∧ sAUNT s k v kn (55 + i) = s (55 + i) ∧ ∀ j, 0 ≤ j → j < 4 → sAUNT s k v kn (61 + 4 * i + j) = s (61 + 4 * i + j) := fun i i0 i1 => ⟨sAUNT_ne (by omega) (by omega) (by omega) (by omega) (by omega) (by omega), sAUNT_ne (by omega) (by omega) (by omega) (by omega) (by omega) (by omega), sAUNT_ne (by omega) (by omega) (by omega) (by omega) (by omega) (by omega), fun j j0 j1 => sAUNT_ne (by omega) (by omega) (by omega) (by omega) (by omega) (by omega)⟩
          obtain ⟨e27, e43, e49, e55, e21, e61⟩ := sAUNT_at (s := s) (k := k) (v := v) (kn := kn) a6
          obtain ⟨h01', eAW⟩ := sAUNT_aw (k := k) (v := v) (kn := kn) ok.2.2.2.2.1 a6
          obtain ⟨h1, za, f1, k1, k2, w1⟩ := c_auntOf (Bs := Bs) (X := fun _ => False) (s := sAUNT s k v kn) (p := s 27) (d := d + 2) hf ck e43 e49 e55 e61 ⟨by omega, by omega⟩
          obtain ⟨ad1, had1⟩ : ∃ ad1, ad1 = updA ad (0 + s 27) (G.1 + h.1) := ⟨_, rfl⟩
          have gq1 : qG G ad1 h1 := by rw [had1]; exact qG_up gq (by omega) (by omega)
          have hf1 := qFs_fr f1 hf
          have hst1 : h1.2.2 (G.2.1 GE) = some (cRef 1 0 (fun _ => none)) := fr_r f1 hst id
          have e1o : ∀ i, ¬ i = 0 + s 27 → ad1 i = ad i := fun i hi => by rw [had1]; exact updA_ne hi
          have l1 : qLL G h1 (G.1 + 1 + 1) (ad1 (0 + 20)) (s 27) (fun i => ad (0 + i)) := by rw [e1o _ (by omega)]; exact qLL_fr (K_n z).2.1 f1 id id
          obtain ⟨tt, fs, eA, hat⟩ := AUC_o (r := G.1 + h.1 + 1) (k := k) (p := s 27) (v := v) (kn := kn) ck
          have htt := auntT_lt hat
          have za1 := za.1
          rw [e43, e49, e55] at za1
          have c1 := za1.trans (congrArg some eA)
          obtain ⟨h2, e', a1, a2, a3, a4, a5'⟩ := c_add (Bs := Bs) (X := fun q => q = G.1 + 1 + 1 ∨ q = ad1 (0 + 20)) (d := d + 1) hf1 hst1 l1 (by omega) ⟨Or.inl rfl, Or.inr rfl⟩ c1 htt.1 htt.2 ⟨by omega, by omega⟩ (g := fun i => ad1 (0 + i)) (fun i i0 i1 => e1o _ (by omega)) (by rw [had1]; exact updA_eq)
          obtain ⟨ad2, had2⟩ : ∃ ad2, ad2 = updA ad1 (0 + 20) e' := ⟨_, rfl⟩
          have gq2 : qG G ad2 h2 := by rw [had2]; exact qG_e gq1 a2 (by omega)
          have e2o : ∀ i, ¬ i = 0 + 20 → ad2 i = ad1 i := fun i hi => by rw [had2]; exact updA_ne hi
          have e2e : ad2 (0 + 20) = e' := by rw [had2]; exact updA_eq
          have lo2 := gq1.1.2
          have xl := xl_le hf1 (by omega) l1
          have ww : ∀ {bu : Int} {wu : Nat} {vu : Int → Nat} {su : Int → Int}, 25 ≤ bu → (G.1 + 23 ≤ wu ∧ wu + 22 ≤ G.1 + 79) → okW su → qW G Bs ad bu wu vu su h → qW G Bs ad2 bu wu vu su h2 := fun {bu wu vu su} hb hwu oku q => by
            have u27 := oku.1.2.2.1
            have u28 := oku.1.2.1
            have q1 : qW G Bs ad1 bu wu vu su h1 := qW_ad (qW_f0 q f1 (okW_k oku)) ⟨u27.2, u28.2⟩ (fun i i0 i1 => e1o _ (by omega))
            have q2 : qW G Bs ad1 bu wu vu su h2 := qW_fl q1 a3 (okW_k oku) xl (fun j hj q => by
              rcases q with q | q
              · omega
              · have := lo2 (0 + 20); omega) (fun j j0 j1 q => by
              rcases q with q | q
              · have := lo2 (bu + j); omega
              · have := gq1.1.1 _ _ q; omega)
            exact qW_ad q2 ⟨u27.2, u28.2⟩ (fun i i0 i1 => e2o _ (by omega))
          have okw : okW (sAUNT s k v kn) := by
            obtain ⟨⟨q1, q2, q3, q4, q5⟩, q34, q29, qWt, qAw, qN, qA⟩ := ok
            refine ⟨⟨okM_g (e 0 (by omega) (by omega)) (e 34 (by omega) (by omega)) (fun k hk => e k (by omega) (by omega)) q1, by rw [e 28 (by omega) (by omega)]; exact q2, by rw [e27]; omega, fun p p0 p1 => ?_, fun a a0 a1 => by rw [e _ (by omega) (by omega)]; exact q5 a a0 a1⟩, by rw [e 34 (by omega) (by omega), e 29 (by omega) (by omega)]; exact q34, by rw [e 29 (by omega) (by omega)]; exact q29, fun k k0 k1 => by rw [e _ (by omega) (by omega)]; exact qWt k k0 k1, h01', fun i i0 i1 => by rw [e _ (by omega) (by omega)]; exact qN i i0 i1, fun a a0 a1 => ?_⟩
            · rw [e27] at p1
              by_cases q : p = s 27
              · rw [q]
                refine ⟨by omega, by omega, ?_⟩
                rw [e43, e49, e55]
                omega
              · obtain ⟨u1, u2, u3, -⟩ := eo p p0 (by omega)
                obtain ⟨r0, r1, r⟩ := q4 p p0 (by omega)
                refine ⟨r0, r1, ?_⟩
                rw [u1, u2, u3]
                exact r
            · rw [e (16 + a) (by omega) (by omega), e (1 + a) (by omega) (by omega), e (6 + a) (by omega) (by omega), e (11 + a) (by omega) (by omega)]
              exact qA a a0 a1
          have okp : okP (sAUNT s k v kn) := by
            obtain ⟨p0, p30, p31, p32, p33, p85, p95, p111, p127, p9, p10⟩ := K_p z
            refine ⟨okw, by rw [e 30 (by omega) (by omega)]; exact p30, by rw [e 31 (by omega) (by omega)]; exact p31, by rw [e 32 (by omega) (by omega)]; exact p32, by rw [e 33 (by omega) (by omega)]; exact p33, ?_, ?_, ?_, ?_, ?_, by rw [e 0 (by omega) (by omega)]; exact p10⟩
            · rw [e 30 (by omega) (by omega)]
              intro i i0 i1
              rw [e _ (by omega) (by omega)]; exact p85 i i0 i1
            · rw [e 31 (by omega) (by omega), e27, e 28 (by omega) (by omega)]
              intro i i0 i1
              rw [e (95 + i) (by omega) (by omega), e (103 + i) (by omega) (by omega)]
              obtain ⟨w1, w2, w3⟩ := p95 i i0 i1
              exact ⟨w1, fun q => by have := w2 q; omega, w3⟩
            · rw [e 32 (by omega) (by omega), e 28 (by omega) (by omega)]
              intro i i0 i1
              rw [e _ (by omega) (by omega)]; exact p111 i i0 i1
            · rw [e 33 (by omega) (by omega)]
              intro i i0 i1
              rw [e _ (by omega) (by omega)]; exact p127 i i0 i1
            · rw [e 29 (by omega) (by omega)]
              intro i i0 i1
              have q := p9 i i0 i1
              rw [e (232 + i) (by omega) (by omega)]
              refine ⟨q.1, q.2.1, ?_⟩
              unfold stepsOf
              rw [e (232 + i) (by omega) (by omega), seg_cg _ _ (fun k hk hk2 => e k (by omega) (by omega))]
              exact q.2.2
          have nl : ∀ {l : Nat}, l < G.1 + 79 → ¬ l = G.1 + 1 + 1 → ¬ (l = G.1 + 1 + 1 ∨ l = ad1 (0 + 20)) := fun {l} hl hn q => by
            rcases q with q | q
            · exact hn q
            · have := lo2 (0 + 20); omega
          have ne' : ∀ i, ¬ i = 0 + 20 → ¬ (ad1 i = G.1 + 1 + 1 ∨ ad1 i = ad1 (0 + 20)) := fun i hi q => by
            rcases q with q | q
            · have := lo2 i; omega
            · exact hi (gq1.1.1 _ _ q)
          have zn' : qW G Bs ad2 0 (G.1 + 1) vn (sAUNT s k v kn) h2 := by
            obtain ⟨zx, y1, y2, y3, y4, y5, y6⟩ := K_n z
            refine ⟨qWX_cg (qWX_fl (qWX_fl zx f1 xl_F) a3 xl) (e 0 (by omega) (by omega)) (e 33 (by omega) (by omega)) eAW ⟨e 30 (by omega) (by omega), e 31 (by omega) (by omega), e 32 (by omega) (by omega)⟩ (fun i i0 i1 => e _ (by omega) (by omega)) (fun i i0 i1 => e _ (by omega) (by omega)), ?_⟩
            unfold qWY
            rw [e27, e 28 (by omega) (by omega), e 29 (by omega) (by omega)]
            refine ⟨?_, ?_, ?_, fun i i0 i1 => ?_, fun i i0 i1 => ?_, fun i i0 i1 => ?_⟩
            · rw [e2e]
              exact ll_cg a1 (fun i i0 i1 => e2o _ (by omega))
            · have q := qLL_fr (qLL_fr y2 f1 id id) a3 (nl (by omega) (by omega)) (by
                have q1 := ne' (0 + 21) (by omega)
                rw [e1o (0 + 21) (by omega)] at q1; exact q1)
              rw [e2o _ (by omega), e1o _ (by omega)]
              exact ll_cg q (fun i i0 i1 => (e2o _ (by omega)).trans (e1o _ (by omega)))
            · have q := qLL_fr (qLL_fr y3 f1 id id) a3 (nl (by omega) (by omega)) (by
                have q1 := ne' (0 + 22) (by omega)
                rw [e1o (0 + 22) (by omega)] at q1; exact q1)
              rw [e2o _ (by omega), e1o _ (by omega)]
              exact q
            · rw [e2o _ (by omega)]
              by_cases q : i = s 27
              · rw [q, had1, updA_eq]
                exact qAW_fl (by rw [e43]; exact ck) za a3 xl
              · rw [e1o _ (by omega)]
                have k7' := okW_k ok i i0 (by omega)
                obtain ⟨u1, u2, u3, u4⟩ := eo i i0 (by omega)
                exact qAW_cg (qAW_fl k7' (qAW_fl k7' (y4 i i0 (by omega)) f1 xl_F) a3 xl) u1 u2 u3 u4
            · rw [e2o _ (by omega), e1o _ (by omega)]
              unfold qAK
              rw [e (1 + i) (by omega) (by omega), e (6 + i) (by omega) (by omega), e (11 + i) (by omega) (by omega), e (16 + i) (by omega) (by omega)]
              exact qAK_fl (qAK_fl (y5 i i0 i1) f1 xl_F) a3 xl
            · refine qVL_cg (qVL_fl (qVL_fl (y6 i i0 i1) f1 xl_F) a3 xl) ?_ (e _ (by omega) (by omega))
              unfold stepsOf
              rw [e (232 + i) (by omega) (by omega)]
              exact seg_cg _ _ (fun k hk hk2 => e k (by omega) (by omega))
          have hc2 : h1.1 ≤ h2.1 ∧ h2.1 ≤ h1.1 + 1 := by rcases a2 with q | q <;> omega
          obtain ⟨z1, z2⟩ := K_gen z gq2 (qFr_tr (qFr_wk f1 (fun _ q => q.elim)) a3) (fun a q => by
            rcases q with q | q
            · omega
            · have := lo2 (0 + 20); omega) (by omega) zn' (ww (by omega) (by omega) (K_pi z).1 (K_i z)) (ww (by omega) (by omega) (K_pt z) (K_t z)) okp (by rw [e 29 (by omega) (by omega)]; exact K_vn z)
          refine ⟨Bs, ad2, vn, vi, vt, st, h2, z1, z2, by omega, by omega, fun Q => ?_⟩
          have htg1 := fun (K : Nat → Prop) => ll_tag l1 (K := K)
          rw [e4]
          simp (disch := omega) only [KK, Int.reduceEq, not_false_iff, ↓reduceIte, ↓if_pos, ↓if_neg, xt_o, true_and, nlO_i, nlO_n, nlO_r, List.length_nil, List.length_cons, Nat.reduceAdd, Nat.reduceLeDiff, Nat.zero_le, U4, hx, zn, hsz, htg, hD, hF, w1, htg1, a5', GX12, GX11, VS0]
      · have hF := fun (K : KQ) => (hF K).trans (by rw [if_neg cn])
        rw [if_neg (fun q => cn q.2), if_neg (fun q => cn q.1.2.2)]
        refine cQ_S (cQ_id z (fun Q => ?_))
        rw [e4]
        simp (disch := omega) only [KK, Int.reduceEq, not_false_iff, ↓reduceIte, ↓if_pos, ↓if_neg, xt_o, true_and, nlO_i, nlO_n, nlO_r, List.length_nil, List.length_cons, Nat.reduceAdd, Nat.reduceLeDiff, Nat.zero_le, U4, hD, hF]
    · have hD := fun (K : KQ) => (hD K).trans (by rw [if_neg cv])
      rw [if_neg (fun q => cv q.1), if_neg (fun q => cv q.1.2.1)]
      refine cQ_S (cQ_id z (fun Q => ?_))
      rw [e4]
      simp (disch := omega) only [KK, Int.reduceEq, not_false_iff, ↓reduceIte, ↓if_pos, ↓if_neg, xt_o, true_and, nlO_i, nlO_n, nlO_r, List.length_nil, List.length_cons, Nat.reduceAdd, Nat.reduceLeDiff, Nat.zero_le, U4, hD]
  · rw [if_neg ck, if_neg (fun q => ck q.1.1)]
    refine cQ_S (cQ_id z (fun Q => ?_))
    rw [e4]
    by_cases c1 : k < 0
    · simp (disch := omega) only [KK, Int.reduceEq, not_false_iff, ↓reduceIte, ↓if_pos, ↓if_neg, xt_o, true_and, nlO_i, nlO_n, nlO_r, List.length_nil, List.length_cons, Nat.reduceAdd, Nat.reduceLeDiff, Nat.zero_le, U4]
    · simp (disch := omega) only [KK, Int.reduceEq, not_false_iff, ↓reduceIte, ↓if_pos, ↓if_neg, xt_o, true_and, nlO_i, nlO_n, nlO_r, List.length_nil, List.length_cons, Nat.reduceAdd, Nat.reduceLeDiff, Nat.zero_le, U4]
end U8
