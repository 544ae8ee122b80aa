/-! new aunts, new askers -/
def sAUNT (s : Int → Int) (k v kn : Int) : Int → Int := up (up (up (up (up (up (up (up (up s (43 + s 27) k) (49 + s 27) v) (55 + s 27) kn) (21 + s 27) 0) (61 + 4 * s 27 + 0) 0) (61 + 4 * s 27 + 1) 0) (61 + 4 * s 27 + 2) 0) (61 + 4 * s 27 + 3) 0) 27 (s 27 + 1)
def sASKER (s : Int → Int) : Int → Int := up (BEGs (up s (1 + s 28) 0) (s 28)) 28 (s 28 + 1)
def rAUNT (s : Int → Int) (k v kn : Int) : Int := if 0 ≤ k ∧ k ≤ 6 then (if (0 ≤ v ∧ v ≤ 9) ∧ 0 ≤ kn ∧ kn ≤ 255 then (if s 27 = 6 then -4 else s 27) else -2) else -1
def tAUNT (s : Int → Int) (k v kn : Int) : Int → Int := if ((0 ≤ k ∧ k ≤ 6) ∧ (0 ≤ v ∧ v ≤ 9) ∧ 0 ≤ kn ∧ kn ≤ 255) ∧ ¬ s 27 = 6 then sAUNT s k v kn else s
def rASKER (s : Int → Int) : Int := if s 28 = 5 then -4 else s 28
def tASKER (s : Int → Int) : Int → Int := if s 28 = 5 then s else sASKER s
theorem sAUNT_ne {s : Int → Int} {k v kn i : Int} (h1 : ¬ i = 43 + s 27) (h2 : ¬ i = 49 + s 27) (h3 : ¬ i = 55 + s 27) (h4 : ¬ i = 21 + s 27) (h5 : ¬ (61 + 4 * s 27 ≤ i ∧ i ≤ 64 + 4 * s 27)) (h6 : ¬ i = 27) : sAUNT s k v kn i = s i := by
  unfold sAUNT
  rw [up_ne h6, up_ne (by omega), up_ne (by omega), up_ne (by omega), up_ne (by omega), up_ne h4, up_ne h3, up_ne h2, up_ne h1]
theorem sAUNT_at {s : Int → Int} {k v kn : Int} (h : 0 ≤ s 27 ∧ s 27 < 6) : sAUNT s k v kn 27 = s 27 + 1 ∧ sAUNT s k v kn (43 + s 27) = k ∧ sAUNT s k v kn (49 + s 27) = v ∧ sAUNT s k v kn (55 + s 27) = kn ∧ sAUNT s k v kn (21 + s 27) = 0 ∧ ∀ j, 0 ≤ j → j < 4 → sAUNT s k v kn (61 + 4 * s 27 + j) = 0 := by
  unfold sAUNT
  refine ⟨up_eq, ?_, ?_, ?_, ?_, fun j j0 j1 => ?_⟩
  · rw [up_ne (by omega), up_ne (by omega), up_ne (by omega), up_ne (by omega), up_ne (by omega), up_ne (by omega), up_ne (by omega), up_ne (by omega), up_eq]
  · rw [up_ne (by omega), up_ne (by omega), up_ne (by omega), up_ne (by omega), up_ne (by omega), up_ne (by omega), up_ne (by omega), up_eq]
  · rw [up_ne (by omega), up_ne (by omega), up_ne (by omega), up_ne (by omega), up_ne (by omega), up_ne (by omega), up_eq]
  · rw [up_ne (by omega), up_ne (by omega), up_ne (by omega), up_ne (by omega), up_ne (by omega), up_eq]
  · rw [up_ne (by omega)]
    rcases (show j = 0 ∨ j = 1 ∨ j = 2 ∨ j = 3 by omega) with e | e | e | e <;> subst e
    · rw [up_ne (by omega), up_ne (by omega), up_ne (by omega), up_eq]
    · rw [up_ne (by omega), up_ne (by omega), up_eq]
    · rw [up_ne (by omega), up_eq]
    · rw [up_eq]
section U7
variable {G : MG} {d : Nat} {Q : KQ} {gb : Nat} {Bs X : Nat → Prop} {ad ad' : Int → Nat} {b : Int} {w lo : Nat} {vd vn vn' vi vt : Int → Nat} {s s' si st bd : Int → Int} {hi rn : Int} {h h' : MH}
theorem c_auntOf (hf : qFs G h) {k p v kn : Int} (hk : 0 ≤ k ∧ k ≤ 6) (ek : s (43 + p) = k) (ev : s (49 + p) = v) (en : s (55 + p) = kn) (er : ∀ j, 0 ≤ j → j < 4 → s (61 + 4 * p + j) = 0) (hr : h.1 + 2 ≤ maxC ∧ h.2.1 + 8 ≤ maxS) : ∃ h' : MH, qAW (G.1 + h.1) (G.1 + h.1 + 1) s p h' ∧ qFr G.1 Bs X h h' ∧ (h.1 + 1 ≤ h'.1 ∧ h'.1 ≤ h.1 + 2) ∧ (h.2.1 ≤ h'.2.1 ∧ h'.2.1 ≤ h.2.1 + 8) ∧ ∀ Q : KQ, wpC G (d + 4) 6 [vI k, vI p, vI v, vI kn] h Q = Q (some (vR (G.1 + h.1))) h' := by
  have r1 : (h.1 + 1 ≤ maxC) = True := eq_true (by omega)
  have r2 : (h.2.1 + 3 ≤ maxS) = True := eq_true (by omega)
  have r3 : (h.1 + 1 + 1 ≤ maxC) = True := eq_true (by omega)
  have r4 : (h.2.1 + 4 ≤ maxS) = True := eq_true (by omega)
  have r5 : (h.2.1 + 4 + 4 ≤ maxS) = True := eq_true (by omega)
  have pl : ∀ (t : Nat) (ht' : AUC (G.1 + h.1 + 1) k p v kn = cObj t [vI p, vI v, vI kn]) (h6 : ¬ k = 6), (∀ Q : KQ, wpC G (d + 4) 6 [vI k, vI p, vI v, vI kn] h Q = Q (some (vR (G.1 + h.1))) (hnew h (G.1 + h.1) 3 (cObj t [vI p, vI v, vI kn]))) → ∃ h' : MH, qAW (G.1 + h.1) (G.1 + h.1 + 1) s p h' ∧ qFr G.1 Bs X h h' ∧ (h.1 + 1 ≤ h'.1 ∧ h'.1 ≤ h.1 + 2) ∧ (h.2.1 ≤ h'.2.1 ∧ h'.2.1 ≤ h.2.1 + 8) ∧ ∀ Q : KQ, wpC G (d + 4) 6 [vI k, vI p, vI v, vI kn] h Q = Q (some (vR (G.1 + h.1))) h' := by
    intro t ht' h6 hw
    refine ⟨hnew h (G.1 + h.1) 3 (cObj t [vI p, vI v, vI kn]), ⟨by rw [hn_eq, ek, ev, en, ht'], fun e => absurd (ek.symm.trans e) h6⟩, qFr_new hf, ?_, ?_, hw⟩
    · rw [hn_1]; omega
    · rw [hn_2]; omega
  rcases k7 hk with e | e | e | e | e | e | e
  · subst e
    refine pl 2 AUC_0 (by omega) (fun Q => ?_)
    have hi1 := fun (K : KQ) => c_aInit (G := G) (d := d + 2) (h := hnew h (G.1 + h.1) 3 (cObj 2 [vI 0, vI 0, vI 0])) (b := G.1 + h.1) (t := 2) (Q := K) (x := p) (y := v) (z := kn) (rest := []) rfl hn_eq (fun _ _ _ _ _ => ⟨by simp only [PX2], by simp only [PX2], by simp only [PX2]⟩)
    rw [e6]
    simp (disch := omega) only [KK, Int.reduceEq, not_false_iff, ↓reduceIte, ↓if_pos, ↓if_neg, xt_o, true_and, nlO_i, nlO_n, nlO_r, List.length_nil, List.length_cons, Nat.reduceAdd, Nat.reduceLeDiff, Nat.zero_le, U6, hn_eq, hi1, hs_hn, r1, r2, OKS]
  · subst e
    refine pl 4 AUC_1 (by omega) (fun Q => ?_)
    have hi1 := fun (K : KQ) => c_aInit (G := G) (d := d + 1) (h := hnew h (G.1 + h.1) 3 (cObj 4 [vI 0, vI 0, vI 0])) (b := G.1 + h.1) (t := 4) (Q := K) (x := p) (y := v) (z := kn) (rest := []) rfl hn_eq (fun _ _ _ _ _ => ⟨by simp only [PX4], by simp only [PX4], by simp only [PX4]⟩)
    rw [e6]
    simp (disch := omega) only [KK, Int.reduceEq, not_false_iff, ↓reduceIte, ↓if_pos, ↓if_neg, xt_o, true_and, nlO_i, nlO_n, nlO_r, List.length_nil, List.length_cons, Nat.reduceAdd, Nat.reduceLeDiff, Nat.zero_le, U6, e106, U106, hn_eq, hi1, hs_hn, r1, r2, OKS]
  · subst e
    refine pl 5 AUC_2 (by omega) (fun Q => ?_)
    have hi1 := fun (K : KQ) => c_aInit (G := G) (d := d + 1) (h := hnew h (G.1 + h.1) 3 (cObj 5 [vI 0, vI 0, vI 0])) (b := G.1 + h.1) (t := 5) (Q := K) (x := p) (y := v) (z := kn) (rest := []) rfl hn_eq (fun _ _ _ _ _ => ⟨by simp only [PX5], by simp only [PX5], by simp only [PX5]⟩)
    rw [e6]
    simp (disch := omega) only [KK, Int.reduceEq, not_false_iff, ↓reduceIte, ↓if_pos, ↓if_neg, xt_o, true_and, nlO_i, nlO_n, nlO_r, List.length_nil, List.length_cons, Nat.reduceAdd, Nat.reduceLeDiff, Nat.zero_le, U6, e111, U111, hn_eq, hi1, hs_hn, r1, r2, OKS]
  · subst e
    refine pl 8 AUC_3 (by omega) (fun Q => ?_)
    have hi1 := fun (K : KQ) => c_aInit (G := G) (d := d + 1) (h := hnew h (G.1 + h.1) 3 (cObj 8 [vI 0, vI 0, vI 0])) (b := G.1 + h.1) (t := 8) (Q := K) (x := p) (y := v) (z := kn) (rest := []) rfl hn_eq (fun _ _ _ _ _ => ⟨by simp only [PX8], by simp only [PX8], by simp only [PX8]⟩)
    rw [e6]
    simp (disch := omega) only [KK, Int.reduceEq, not_false_iff, ↓reduceIte, ↓if_pos, ↓if_neg, xt_o, true_and, nlO_i, nlO_n, nlO_r, List.length_nil, List.length_cons, Nat.reduceAdd, Nat.reduceLeDiff, Nat.zero_le, U6, e116, U116, hn_eq, hi1, hs_hn, r1, r2, OKS]
  · subst e
    refine pl 6 AUC_4 (by omega) (fun Q => ?_)
    have hi1 := fun (K : KQ) => c_aInit (G := G) (d := d + 0) (h := hnew h (G.1 + h.1) 3 (cObj 6 [vI 0, vI 0, vI 0])) (b := G.1 + h.1) (t := 6) (Q := K) (x := p) (y := v) (z := kn) (rest := []) rfl hn_eq (fun _ _ _ _ _ => ⟨by simp only [PX6], by simp only [PX6], by simp only [PX6]⟩)
    rw [e6]
    simp (disch := omega) only [KK, Int.reduceEq, not_false_iff, ↓reduceIte, ↓if_pos, ↓if_neg, xt_o, true_and, nlO_i, nlO_n, nlO_r, List.length_nil, List.length_cons, Nat.reduceAdd, Nat.reduceLeDiff, Nat.zero_le, U6, e121, U121, e106, U106, hn_eq, hi1, hs_hn, r1, r2, OKS]
  · subst e
    refine pl 3 AUC_5 (by omega) (fun Q => ?_)
    have hi1 := fun (K : KQ) => c_aInit (G := G) (d := d + 0) (h := hnew h (G.1 + h.1) 3 (cObj 3 [vI 0, vI 0, vI 0])) (b := G.1 + h.1) (t := 3) (Q := K) (x := p) (y := v) (z := kn) (rest := []) rfl hn_eq (fun _ _ _ _ _ => ⟨by simp only [PX3], by simp only [PX3], by simp only [PX3]⟩)
    rw [e6]
    simp (disch := omega) only [KK, Int.reduceEq, not_false_iff, ↓reduceIte, ↓if_pos, ↓if_neg, xt_o, true_and, nlO_i, nlO_n, nlO_r, List.length_nil, List.length_cons, Nat.reduceAdd, Nat.reduceLeDiff, Nat.zero_le, U6, e126, U126, e111, U111, hn_eq, hi1, hs_hn, r1, r2, OKS]
  · subst e
    have n4 : ¬ G.1 + h.1 = G.1 + h.1 + 1 := by omega
    have hi1 := fun (K : KQ) => c_aInit (G := G) (d := d) (h := hnew h (G.1 + h.1) 4 (cObj 9 [vI 0, vI 0, vI 0, vN])) (b := G.1 + h.1) (t := 9) (Q := K) (x := p) (y := v) (z := kn) (rest := [vN]) rfl hn_eq (fun _ _ _ _ _ => ⟨by simp only [PX9], by simp only [PX9], by simp only [PX9]⟩)
    have eA : G.1 + (h.1 + 1) = G.1 + h.1 + 1 := rfl
    refine ⟨hset (hnew (hnew h (G.1 + h.1) 4 (cObj 9 [vI p, vI v, vI kn, vN])) (G.1 + h.1 + 1) 4 (cArr 0 4 (ix (fun _ => 0)))) (G.1 + h.1) (cObj 9 [vI p, vI v, vI kn, vR (G.1 + h.1 + 1)]), ⟨?_, fun _ => ⟨fun _ => 0, (hs_ne (by omega)).trans hn_eq, fun j j0 j1 => ?_⟩⟩, ?_, ?_, ?_, fun Q => ?_⟩
    · rw [hs_eq, ek, ev, en, AUC_6]
    · rw [er j j0 j1]; exact ⟨rfl, Int.le_refl 0, by show (0 : Int) ≤ 9; decide⟩
    · refine ⟨fun y q hq => ?_, fun a c hc hb => Or.inl ?_⟩
      · have hq : G.1 + (h.1 + 1 + 1) ≤ q := hq
        rw [hs_ne (by omega), hn_ne (by omega), hn_ne (by omega)]
        exact hf q (by omega)
      · have b1 : ¬ a = G.1 + h.1 := fun e => by
          rw [e, hf _ (Nat.le_refl _)] at hc; cases hc
        have b2 : ¬ a = G.1 + h.1 + 1 := fun e => by
          rw [e, hf _ (by omega)] at hc; cases hc
        rw [hs_ne b1, hn_ne b2, hn_ne b1]
        exact hc
    · show h.1 + 1 ≤ h.1 + 1 + 1 ∧ h.1 + 1 + 1 ≤ h.1 + 2; omega
    · show h.2.1 ≤ h.2.1 + 4 + 4 ∧ h.2.1 + 4 + 4 ≤ h.2.1 + 8; omega
    · rw [e6]
      simp (disch := omega) only [KK, Int.reduceEq, not_false_iff, ↓reduceIte, ↓if_pos, ↓if_neg, xt_o, true_and, nlO_i, nlO_n, nlO_r, List.length_nil, List.length_cons, Nat.reduceAdd, Nat.reduceLeDiff, Nat.zero_le, U6, e131, U131, e116, U116, hn_ne n4, hn_eq, hn_1, hn_2, hs_ne n4, hs_eq, hs_1, hs_2, GX9, PX9, hi1, hs_hn, eA, r1, r3, r4, r5, OKS, ix_0, Int.reduceToNat, Int.reduceLE, and_self]
theorem A_asker (z : qK G Bs ad vn vi vt s si st hi rn bd h) (hr : h.1 + 60 ≤ maxC ∧ h.2.1 + 300 ≤ maxS) : cS G (d + 7) 14 [] (vI (rASKER s)) (tASKER s) si hi rn bd h := by
  have hx := K_x z
  have zn := (K_n z).1.1
  have ok := (K_p z).1
  have o27 := ok.1.2.2.1
  have o28 := ok.1.2.1
  have o29 := ok.2.2.1
  have hf := z.2.2.1
  have hst := (K_st z).1
  have hge := (K_st z).2
  have gq := K_G z
  have hsz := fun (K : KQ) => ll_size (G := G) (d := d + 5) (Q := K) (K_n z).2.2.1
  have htg := fun (K : Nat → Prop) => ll_tag (K_n z).2.2.1 (K := K)
  unfold rASKER tASKER
  by_cases c : s 28 = 5
  · rw [if_pos c, if_pos c]
    refine cQ_S (cQ_id z (fun Q => ?_))
    rw [e14]
    simp (disch := omega) only [KK, Int.reduceEq, not_false_iff, ↓reduceIte, ↓if_pos, ↓if_neg, xt_o, true_and, nlO_i, nlO_n, nlO_r, List.length_nil, List.length_cons, Nat.reduceAdd, Nat.reduceLeDiff, Nat.zero_le, U14, hx, zn, hsz, htg, GX12, GX11, VS0]
  · rw [if_neg c, if_neg c]
    have a5 : 0 ≤ s 28 ∧ s 28 < 5 := ⟨o28.1, by omega⟩
    have r1 : (h.1 + 1 ≤ maxC) = True := eq_true (by omega)
    have r2 : (h.2.1 + 4 ≤ maxS) = True := eq_true (by omega)
    have e : ∀ i, ¬ i = 28 → ¬ i = 1 + s 28 → ¬ i = 6 + s 28 → ¬ i = 11 + s 28 → ¬ i = 16 + s 28 → sASKER s i = s i := fun i h1 h2 h3 h4 h5 => by
      unfold sASKER BEGs
      rw [up_ne h1, up_ne h5, up_ne h4, up_ne h3, up_ne h2]
    have e28 : sASKER s 28 = s 28 + 1 := up_eq
    obtain ⟨b1, b2, b3, b4⟩ := BEGs_at (t := up s (1 + s 28) 0) a5
    have t1 : sASKER s (1 + s 28) = 0 := by unfold sASKER; rw [up_ne (by omega), b1, up_eq]
    have t2 : sASKER s (6 + s 28) = 0 := (up_ne (by omega)).trans b2
    have t3 : sASKER s (11 + s 28) = 0 := (up_ne (by omega)).trans b3
    have t4 : sASKER s (16 + s 28) = 0 := (up_ne (by omega)).trans b4
    obtain ⟨h1, hh1⟩ : ∃ h1, h1 = hnew h (G.1 + h.1) 4 (cObj 1 [vI 0, vI 0, vI 0, vI 0]) := ⟨_, rfl⟩
    have f1 : qFr G.1 Bs (fun _ => False) h h1 := by rw [hh1]; exact qFr_new hf
    have c1 : h1.2.2 (G.1 + h.1) = some (cObj 1 [vI 0, vI 0, vI 0, vI 0]) := by rw [hh1, hn_eq]
    have k1 : h1.1 = h.1 + 1 := by rw [hh1, hn_1]
    have k2 : h1.2.1 = h.2.1 + 4 := by rw [hh1, hn_2]
    obtain ⟨ad1, had1⟩ : ∃ ad1, ad1 = updA ad (0 + 10 + s 28) (G.1 + h.1) := ⟨_, rfl⟩
    have gq1 : qG G ad1 h1 := by rw [had1]; exact qG_up gq (by omega) (by omega)
    have hf1 := qFs_fr f1 hf
    have hst1 : h1.2.2 (G.2.1 GE) = some (cRef 1 0 (fun _ => none)) := fr_r f1 hst id
    have e1o : ∀ i, ¬ i = 0 + 10 + s 28 → ad1 i = ad i := fun i hi => by rw [had1]; exact updA_ne hi
    have l1 : qLL G h1 (G.1 + 1 + 2) (ad1 (0 + 21)) (s 28) (fun i => ad (0 + 10 + i)) := by rw [e1o _ (by omega)]; exact qLL_fr (K_n z).2.2.1 f1 id id
    obtain ⟨h2, e', a1, a2, a3, a4, a5'⟩ := c_add (Bs := Bs) (X := fun q => q = G.1 + 1 + 2 ∨ q = ad1 (0 + 21)) (d := d + 1) hf1 hst1 l1 (by omega) ⟨Or.inl rfl, Or.inr rfl⟩ c1 (by decide) (by decide) ⟨by omega, by omega⟩ (g := fun i => ad1 (0 + 10 + i)) (fun i i0 i1 => e1o _ (by omega)) (by rw [had1]; exact updA_eq)
    obtain ⟨ad2, had2⟩ : ∃ ad2, ad2 = updA ad1 (0 + 21) e' := ⟨_, rfl⟩
    have gq2 : qG G ad2 h2 := by rw [had2]; exact qG_e gq1 a2 (by omega)
    have e2o : ∀ i, ¬ i = 0 + 21 → ad2 i = ad1 i := fun i hi => by rw [had2]; exact updA_ne hi
    have e2e : ad2 (0 + 21) = e' := by rw [had2]; exact updA_eq
    have lo2 := gq1.1.2
    have xl := xl_le hf1 (by omega) l1
    have ww : ∀ {bu : Int} {wu : Nat} {vu : Int → Nat} {su : Int → Int}, 25 ≤ bu → (G.1 + 23 ≤ wu ∧ wu + 22 ≤ G.1 + 79) → okW su → qW G Bs ad bu wu vu su h → qW G Bs ad2 bu wu vu su h2 := fun {bu wu vu su} hb hwu oku q => by
      have u27 := oku.1.2.2.1
      have u28 := oku.1.2.1
      have q1 : qW G Bs ad1 bu wu vu su h1 := qW_ad (qW_f0 q f1 (okW_k oku)) ⟨u27.2, u28.2⟩ (fun i i0 i1 => e1o _ (by omega))
      have q2 : qW G Bs ad1 bu wu vu su h2 := qW_fl q1 a3 (okW_k oku) xl (fun j hj q => by
        rcases q with q | q
        · omega
        · have := lo2 (0 + 21); omega) (fun j j0 j1 q => by
        rcases q with q | q
        · have := lo2 (bu + j); omega
        · have := gq1.1.1 _ _ q; omega)
      exact qW_ad q2 ⟨u27.2, u28.2⟩ (fun i i0 i1 => e2o _ (by omega))
    have okw : okW (sASKER s) := by
      obtain ⟨⟨q1, q2, q3, q4, q5⟩, q34, q29, qWt, qAw, qN, qA⟩ := ok
      have ee : ∀ i, ¬ i = 28 → (i < 1 ∨ 21 ≤ i) → sASKER s i = s i := fun i h1 h2 => e i h1 (by omega) (by omega) (by omega) (by omega)
      have asks : ∀ a, 0 ≤ a → a < 5 → (a = s 28 ∧ sASKER s (1 + a) = 0 ∧ sASKER s (6 + a) = 0 ∧ sASKER s (11 + a) = 0 ∧ sASKER s (16 + a) = 0) ∨ (sASKER s (1 + a) = s (1 + a) ∧ sASKER s (6 + a) = s (6 + a) ∧ sASKER s (11 + a) = s (11 + a) ∧ sASKER s (16 + a) = s (16 + a)) := fun a a0 a1 => by
        by_cases q : a = s 28
        · rw [q]; exact Or.inl ⟨rfl, t1, t2, t3, t4⟩
        · exact Or.inr ⟨e _ (by omega) (by omega) (by omega) (by omega) (by omega), e _ (by omega) (by omega) (by omega) (by omega) (by omega), e _ (by omega) (by omega) (by omega) (by omega) (by omega), e _ (by omega) (by omega) (by omega) (by omega) (by omega)⟩
      refine ⟨⟨okM_g (ee 0 (by omega) (by omega)) (ee 34 (by omega) (by omega)) (fun k hk => ee k (by omega) (by omega)) q1, by rw [e28]; omega, by rw [ee 27 (by omega) (by omega)]; exact q3, fun p p0 p1 => ?_, fun a a0 a1 => ?_⟩, by rw [ee 34 (by omega) (by omega), ee 29 (by omega) (by omega)]; exact q34, by rw [ee 29 (by omega) (by omega)]; exact q29, fun k k0 k1 => by rw [ee _ (by omega) (by omega)]; exact qWt k k0 k1, fun k k0 k1 => by rw [ee _ (by omega) (by omega)]; exact qAw k k0 k1, fun i i0 i1 => by rw [ee _ (by omega) (by omega)]; exact qN i i0 i1, fun a a0 a1 => ?_⟩
      · rw [ee 27 (by omega) (by omega)] at p1
        obtain ⟨r0, r1, r⟩ := q4 p p0 p1
        refine ⟨r0, r1, ?_⟩
        rw [ee (43 + p) (by omega) (by omega), ee (49 + p) (by omega) (by omega), ee (55 + p) (by omega) (by omega)]
        exact r
      · rcases asks a a0 a1 with ⟨-, -, -, q, -⟩ | ⟨-, -, q, -⟩
        · rw [q]; omega
        · rw [q]; exact q5 a a0 a1
      · rcases asks a a0 a1 with ⟨-, u1, u2, u3, u4⟩ | ⟨u1, u2, u3, u4⟩
        · rw [u1, u2, u3, u4]
          exact ⟨Or.inl rfl, by omega, by omega, fun _ => by omega, by omega⟩
        · rw [u1, u2, u3, u4]; exact qA a a0 a1
    have okp : okP (sASKER s) := by
      obtain ⟨p0, p30, p31, p32, p33, p85, p95, p111, p127, p9, p10⟩ := K_p z
      have ee : ∀ i, ¬ i = 28 → (i < 1 ∨ 21 ≤ i) → sASKER s i = s i := fun i h1 h2 => e i h1 (by omega) (by omega) (by omega) (by omega)
      refine ⟨okw, by rw [ee 30 (by omega) (by omega)]; exact p30, by rw [ee 31 (by omega) (by omega)]; exact p31, by rw [ee 32 (by omega) (by omega)]; exact p32, by rw [ee 33 (by omega) (by omega)]; exact p33, ?_, ?_, ?_, ?_, ?_, by rw [ee 0 (by omega) (by omega)]; exact p10⟩
      · rw [ee 30 (by omega) (by omega)]
        intro i i0 i1
        rw [ee _ (by omega) (by omega)]; exact p85 i i0 i1
      · rw [ee 31 (by omega) (by omega), ee 27 (by omega) (by omega), e28]
        intro i i0 i1
        rw [ee (95 + i) (by omega) (by omega), ee (103 + i) (by omega) (by omega)]
        obtain ⟨w1, w2, w3⟩ := p95 i i0 i1
        exact ⟨w1, w2, fun q => by have := w3 q; omega⟩
      · rw [ee 32 (by omega) (by omega), e28]
        intro i i0 i1
        rw [ee _ (by omega) (by omega)]
        have := p111 i i0 i1
        omega
      · rw [ee 33 (by omega) (by omega)]
        intro i i0 i1
        rw [ee _ (by omega) (by omega)]; exact p127 i i0 i1
      · rw [ee 29 (by omega) (by omega)]
        intro i i0 i1
        have q := p9 i i0 i1
        rw [ee (232 + i) (by omega) (by omega)]
        refine ⟨q.1, q.2.1, ?_⟩
        unfold stepsOf
        rw [ee (232 + i) (by omega) (by omega), seg_cg _ _ (fun k hk hk2 => ee k (by omega) (by omega))]
        exact q.2.2
    have nl : ∀ {l : Nat}, l < G.1 + 79 → ¬ l = G.1 + 1 + 2 → ¬ (l = G.1 + 1 + 2 ∨ l = ad1 (0 + 21)) := fun {l} hl hn q => by
      rcases q with q | q
      · exact hn q
      · have := lo2 (0 + 21); omega
    have ne' : ∀ i, ¬ i = 0 + 21 → ¬ (ad1 i = G.1 + 1 + 2 ∨ ad1 i = ad1 (0 + 21)) := fun i hi q => by
      rcases q with q | q
      · have := lo2 i; omega
      · exact hi (gq1.1.1 _ _ q)
    have zn' : qW G Bs ad2 0 (G.1 + 1) vn (sASKER s) h2 := by
      obtain ⟨zx, y1, y2, y3, y4, y5, y6⟩ := K_n z
      refine ⟨qWX_cg (qWX_fl (qWX_fl zx f1 xl_F) a3 xl) (e 0 (by omega) (by omega) (by omega) (by omega) (by omega)) (e 33 (by omega) (by omega) (by omega) (by omega) (by omega)) (AWAYS_cg (e 27 (by omega) (by omega) (by omega) (by omega) (by omega)) o27.1 (fun k k0 k1 => e _ (by omega) (by omega) (by omega) (by omega) (by omega))) ⟨e 30 (by omega) (by omega) (by omega) (by omega) (by omega), e 31 (by omega) (by omega) (by omega) (by omega) (by omega), e 32 (by omega) (by omega) (by omega) (by omega) (by omega)⟩ (fun i i0 i1 => e _ (by omega) (by omega) (by omega) (by omega) (by omega)) (fun i i0 i1 => e _ (by omega) (by omega) (by omega) (by omega) (by omega)), ?_⟩
      unfold qWY
      rw [e 27 (by omega) (by omega) (by omega) (by omega) (by omega), e28, e 29 (by omega) (by omega) (by omega) (by omega) (by omega)]
      refine ⟨?_, ?_, ?_, fun i i0 i1 => ?_, fun i i0 i1 => ?_, fun i i0 i1 => ?_⟩
      · have q := qLL_fr (qLL_fr y1 f1 id id) a3 (nl (by omega) (by omega)) (by
          have q1 := ne' (0 + 20) (by omega)
          rw [e1o (0 + 20) (by omega)] at q1; exact q1)
        rw [e2o _ (by omega), e1o _ (by omega)]
        exact ll_cg q (fun i i0 i1 => (e2o _ (by omega)).trans (e1o _ (by omega)))
      · rw [e2e]
        exact ll_cg a1 (fun i i0 i1 => e2o _ (by omega))
      · have q := qLL_fr (qLL_fr y3 f1 id id) a3 (nl (by omega) (by omega)) (by
          have q1 := ne' (0 + 22) (by omega)
          rw [e1o (0 + 22) (by omega)] at q1; exact q1)
        rw [e2o _ (by omega), e1o _ (by omega)]
        exact q
      · rw [e2o _ (by omega), e1o _ (by omega)]
        have k7' := okW_k ok i i0 i1
        exact qAW_cg (qAW_fl k7' (qAW_fl k7' (y4 i i0 i1) f1 xl_F) a3 xl) (e _ (by omega) (by omega) (by omega) (by omega) (by omega)) (e _ (by omega) (by omega) (by omega) (by omega) (by omega)) (e _ (by omega) (by omega) (by omega) (by omega) (by omega)) (fun k k0 k1 => e _ (by omega) (by omega) (by omega) (by omega) (by omega))
      · rw [e2o _ (by omega)]
        by_cases q : i = s 28
        · rw [q]
          unfold qAK
          rw [t1, t2, t3, t4, had1, updA_eq]
          exact fr_o a3 c1 (xll_o xl c1 (by decide))
        · rw [e1o _ (by omega)]
          unfold qAK
          rw [e (1 + i) (by omega) (by omega) (by omega) (by omega) (by omega), e (6 + i) (by omega) (by omega) (by omega) (by omega) (by omega), e (11 + i) (by omega) (by omega) (by omega) (by omega) (by omega), e (16 + i) (by omega) (by omega) (by omega) (by omega) (by omega)]
          exact qAK_fl (qAK_fl (y5 i i0 (by omega)) f1 xl_F) a3 xl
      · refine qVL_cg (qVL_fl (qVL_fl (y6 i i0 i1) f1 xl_F) a3 xl) ?_ (e _ (by omega) (by omega) (by omega) (by omega) (by omega))
        unfold stepsOf
        rw [e (232 + i) (by omega) (by omega) (by omega) (by omega) (by omega)]
        exact seg_cg _ _ (fun k hk hk2 => e k (by omega) (by omega) (by omega) (by omega) (by omega))
    have hc2 : h1.1 ≤ h2.1 ∧ h2.1 ≤ h1.1 + 1 := by rcases a2 with q | q <;> omega
    obtain ⟨z1, z2⟩ := K_gen z gq2 (qFr_tr (qFr_wk f1 (fun _ q => q.elim)) a3) (fun a q => by
      rcases q with q | q
      · omega
      · have := lo2 (0 + 21); omega) (by omega) zn' (ww (by omega) (by omega) (K_pi z).1 (K_i z)) (ww (by omega) (by omega) (K_pt z) (K_t z)) okp (by rw [e 29 (by omega) (by omega) (by omega) (by omega) (by omega)]; exact K_vn z)
    refine ⟨Bs, ad2, vn, vi, vt, st, h2, z1, z2, by omega, by omega, fun Q => ?_⟩
    have htg1 := fun (K : Nat → Prop) => ll_tag l1 (K := K)
    have nz : ¬ G.1 + 1 + 2 = G.1 + h.1 := by have := gq.2.2; omega
    have i94 : ∀ K : KQ, wpC G (d + 6) 94 [vR (G.1 + h.1)] (hnew h (G.1 + h.1) 4 (cObj 1 [vI 0, vI 0, vI 0, vI 0])) K = K none h1 := fun K => by
      rw [e94, hh1]
      simp (disch := omega) only [KK, Int.reduceEq, not_false_iff, ↓reduceIte, ↓if_pos, ↓if_neg, xt_o, true_and, nlO_i, nlO_n, nlO_r, List.length_nil, List.length_cons, Nat.reduceAdd, Nat.reduceLeDiff, Nat.zero_le, U94, hn_eq, hs_hn, PX1, true_or]
    rw [e14]
    simp (disch := omega) only [KK, Int.reduceEq, not_false_iff, ↓reduceIte, ↓if_pos, ↓if_neg, xt_o, true_and, nlO_i, nlO_n, nlO_r, List.length_nil, List.length_cons, Nat.reduceAdd, Nat.reduceLeDiff, Nat.zero_le, U14, hx, zn, hsz, htg, r1, r2, hn_eq, i94, htg1, a5', GX12, GX11, VS0, OKS]
end U7
