/-! twins; pairs of rows; what was said held against one -/
theorem hs_hn {h : MH} {a n : Nat} {c c' : MC} : hset (hnew h a n c) a c' = hnew h a n c' := by
  unfold hset hnew; rw [up1_up1]
theorem xc_i {m m' : Nat} {f g : Int → Int} {n : Int} {K : MC → Prop} (hn : 0 ≤ n ∧ n ≤ (m : Int) ∧ n ≤ (m' : Int)) : xCpy (some (cArr 0 m (ix f))) (some (cArr 0 m' (ix g))) 0 0 n K = K (cArr 0 m' (ix (fun z => if z < n then f z else g z))) := by
  have e : cpy (ix f) (ix g) (0 : Int).toNat (0 : Int).toNat n.toNat = ix (fun z => if z < n then f z else g z) := by
    funext j
    show (if 0 ≤ j ∧ j < 0 + n.toNat then f ((0 + (j - 0) : Nat) : Int) else g j) = (if (j : Int) < n then f j else g j)
    rw [Nat.sub_zero, Nat.zero_add, Nat.zero_add]
    by_cases c : (j : Int) < n
    · rw [if_pos c, if_pos ⟨Nat.zero_le _, by omega⟩]
    · rw [if_neg c, if_neg (by omega)]
  exact propext ⟨fun z => by rw [← e]; exact z.2.2.2.2.2.2.2, fun z => ⟨rfl, rfl, by omega, by omega, hn.1, by omega, by omega, by rw [e]; exact z⟩⟩
def qFs (G : MG) (h : MH) : Prop := ∀ q, G.1 + h.1 ≤ q → h.2.2 q = none
theorem qFs_fr {G : MG} {Bs X : Nat → Prop} {h h' : MH} (f : qFr G.1 Bs X h h') (z : qFs G h) : qFs G h' := f.1 z
section TW
variable {G : MG} {d : Nat} {Q : KQ} {Bs X : Nat → Prop} {h : MH} {s : Int → Int} {a : Nat} {p : Int}
theorem c_aInit {b t : Nat} {x y z : Int} {f0 f1 f2 : V} (h0 : okSet 50 t = true) {rest : List V} (hb : h.2.2 b = some (cObj t (f0 :: f1 :: f2 :: rest))) (hg : ∀ (v0 v1 v2 w : V) (K : MC → Prop), xPut 0 50 w (some (cObj t (v0 :: v1 :: v2 :: rest))) K = K (cObj t (w :: v1 :: v2 :: rest)) ∧ xPut 1 50 w (some (cObj t (v0 :: v1 :: v2 :: rest))) K = K (cObj t (v0 :: w :: v2 :: rest)) ∧ xPut 2 50 w (some (cObj t (v0 :: v1 :: v2 :: rest))) K = K (cObj t (v0 :: v1 :: w :: rest))) : wpC G (d + 1) 98 [vR b, vI x, vI y, vI z] h Q = Q none (hset h b (cObj t (vI x :: vI y :: vI z :: rest))) := by
  have g0 := fun (v0 v1 v2 w : V) (K : MC → Prop) => (hg v0 v1 v2 w K).1
  have g1 := fun (v0 v1 v2 w : V) (K : MC → Prop) => (hg v0 v1 v2 w K).2.1
  have g2 := fun (v0 v1 v2 w : V) (K : MC → Prop) => (hg v0 v1 v2 w K).2.2
  rw [e98]
  simp (disch := omega) only [KK, Int.reduceEq, not_false_iff, ↓reduceIte, ↓if_pos, ↓if_neg, xt_o, true_and, nlO_i, nlO_n, nlO_r, List.length_nil, List.length_cons, Nat.reduceAdd, Nat.reduceLeDiff, Nat.zero_le, U98, hb, g0, g1, g2, hs_eq, hs_hs]
theorem c_twin (hf : qFs G h) (z : qAW a (a + 1) s p h) (hk : 0 ≤ s (43 + p) ∧ s (43 + p) ≤ 6) (hr : h.1 + 2 ≤ maxC ∧ h.2.1 + 8 ≤ maxS) : ∃ h' : MH, qAW (G.1 + h.1) (G.1 + h.1 + 1) s p h' ∧ qFr G.1 Bs X h h' ∧ (h.1 ≤ h'.1 ∧ h'.1 ≤ h.1 + 2) ∧ (h.2.1 ≤ h'.2.1 ∧ h'.2.1 ≤ h.2.1 + 8) ∧ G.1 + h.1 < G.1 + h'.1 ∧ ∀ Q : KQ, xTag (h.2.2 a) (kS 30 G (d + 4) [vR a] h Q) = Q (some (vR (G.1 + h.1))) h' := by
  obtain ⟨z0, z6⟩ := z
  have r1 : (h.1 + 1 ≤ maxC) = True := eq_true (by omega)
  have r2 : (h.2.1 + 3 ≤ maxS) = True := eq_true (by omega)
  have r3 : (h.1 + 1 + 1 ≤ maxC) = True := eq_true (by omega)
  have r4 : (h.2.1 + 4 ≤ maxS) = True := eq_true (by omega)
  have r5 : (h.2.1 + 4 + 4 ≤ maxS) = True := eq_true (by omega)
  have nz : ¬ a = G.1 + h.1 := fun e => by
    have := hf (G.1 + h.1) (Nat.le_refl _)
    rw [e, this] at z0; cases z0
  have pl : ∀ (t : Nat) (ht : AUC (a + 1) (s (43 + p)) p (s (49 + p)) (s (55 + p)) = cObj t [vI p, vI (s (49 + p)), vI (s (55 + p))]) (ht' : AUC (G.1 + h.1 + 1) (s (43 + p)) p (s (49 + p)) (s (55 + p)) = cObj t [vI p, vI (s (49 + p)), vI (s (55 + p))]) (h6 : ¬ s (43 + p) = 6), (∀ Q : KQ, xTag (h.2.2 a) (kS 30 G (d + 4) [vR a] h Q) = Q (some (vR (G.1 + h.1))) (hnew h (G.1 + h.1) 3 (cObj t [vI p, vI (s (49 + p)), vI (s (55 + p))]))) → ∃ h' : MH, qAW (G.1 + h.1) (G.1 + h.1 + 1) s p h' ∧ qFr G.1 Bs X h h' ∧ (h.1 ≤ h'.1 ∧ h'.1 ≤ h.1 + 2) ∧ (h.2.1 ≤ h'.2.1 ∧ h'.2.1 ≤ h.2.1 + 8) ∧ G.1 + h.1 < G.1 + h'.1 ∧ ∀ Q : KQ, xTag (h.2.2 a) (kS 30 G (d + 4) [vR a] h Q) = Q (some (vR (G.1 + h.1))) h' := by
    intro t ht ht' h6 hw
    refine ⟨hnew h (G.1 + h.1) 3 (cObj t [vI p, vI (s (49 + p)), vI (s (55 + p))]), ⟨by rw [hn_eq, ht'], fun e => absurd e h6⟩, qFr_new hf, ?_, ?_, ?_, hw⟩
    · rw [hn_1]; omega
    · rw [hn_2]; omega
    · rw [hn_1]; omega
  rcases k7 hk with e | e | e | e | e | e | e
  · rw [e] at z0 pl
    rw [AUC_0] at z0
    refine pl 2 AUC_0 AUC_0 (by omega) (fun Q => ?_)
    have hi := fun (h : MH) (b : Nat) (f0 f1 f2 : V) (x y z : Int) (K : KQ) (hb : h.2.2 b = some (cObj 2 [f0, f1, f2])) => c_aInit (G := G) (d := d + 2) (Q := K) (x := x) (y := y) (z := z) rfl hb (fun _ _ _ _ _ => ⟨by simp only [PX2], by simp only [PX2], by simp only [PX2]⟩)
    have hi1 := fun (K : KQ) => hi (hnew h (G.1 + h.1) 3 (cObj 2 [vI 0, vI 0, vI 0])) (G.1 + h.1) (vI 0) (vI 0) (vI 0) p (s (49 + p)) (s (55 + p)) K hn_eq
    rw [z0]
    simp only [xt_o, KK, VS2, e102]
    simp (disch := omega) only [KK, Int.reduceEq, not_false_iff, ↓reduceIte, ↓if_pos, ↓if_neg, xt_o, true_and, nlO_i, nlO_n, nlO_r, List.length_nil, List.length_cons, Nat.reduceAdd, Nat.reduceLeDiff, Nat.zero_le, U102, hn_ne nz, hn_eq, z0, GX2, hi1, hs_hn, r1, r2, OKS]
  · rw [e] at z0 pl
    rw [AUC_1] at z0
    refine pl 4 AUC_1 AUC_1 (by omega) (fun Q => ?_)
    have hi := fun (h : MH) (b : Nat) (f0 f1 f2 : V) (x y z : Int) (K : KQ) (hb : h.2.2 b = some (cObj 4 [f0, f1, f2])) => c_aInit (G := G) (d := d + 1) (Q := K) (x := x) (y := y) (z := z) rfl hb (fun _ _ _ _ _ => ⟨by simp only [PX4], by simp only [PX4], by simp only [PX4]⟩)
    have hi1 := fun (K : KQ) => hi (hnew h (G.1 + h.1) 3 (cObj 4 [vI 0, vI 0, vI 0])) (G.1 + h.1) (vI 0) (vI 0) (vI 0) p (s (49 + p)) (s (55 + p)) K hn_eq
    rw [z0]
    simp only [xt_o, KK, VS4, e109]
    simp (disch := omega) only [KK, Int.reduceEq, not_false_iff, ↓reduceIte, ↓if_pos, ↓if_neg, xt_o, true_and, nlO_i, nlO_n, nlO_r, List.length_nil, List.length_cons, Nat.reduceAdd, Nat.reduceLeDiff, Nat.zero_le, U109, e106, U106, hn_ne nz, hn_eq, z0, GX4, hi1, hs_hn, r1, r2, OKS]
  · rw [e] at z0 pl
    rw [AUC_2] at z0
    refine pl 5 AUC_2 AUC_2 (by omega) (fun Q => ?_)
    have hi := fun (h : MH) (b : Nat) (f0 f1 f2 : V) (x y z : Int) (K : KQ) (hb : h.2.2 b = some (cObj 5 [f0, f1, f2])) => c_aInit (G := G) (d := d + 1) (Q := K) (x := x) (y := y) (z := z) rfl hb (fun _ _ _ _ _ => ⟨by simp only [PX5], by simp only [PX5], by simp only [PX5]⟩)
    have hi1 := fun (K : KQ) => hi (hnew h (G.1 + h.1) 3 (cObj 5 [vI 0, vI 0, vI 0])) (G.1 + h.1) (vI 0) (vI 0) (vI 0) p (s (49 + p)) (s (55 + p)) K hn_eq
    rw [z0]
    simp only [xt_o, KK, VS5, e114]
    simp (disch := omega) only [KK, Int.reduceEq, not_false_iff, ↓reduceIte, ↓if_pos, ↓if_neg, xt_o, true_and, nlO_i, nlO_n, nlO_r, List.length_nil, List.length_cons, Nat.reduceAdd, Nat.reduceLeDiff, Nat.zero_le, U114, e111, U111, hn_ne nz, hn_eq, z0, GX5, hi1, hs_hn, r1, r2, OKS]
  · rw [e] at z0 pl
    rw [AUC_3] at z0
    refine pl 8 AUC_3 AUC_3 (by omega) (fun Q => ?_)
    have hi := fun (h : MH) (b : Nat) (f0 f1 f2 : V) (x y z : Int) (K : KQ) (hb : h.2.2 b = some (cObj 8 [f0, f1, f2])) => c_aInit (G := G) (d := d + 1) (Q := K) (x := x) (y := y) (z := z) rfl hb (fun _ _ _ _ _ => ⟨by simp only [PX8], by simp only [PX8], by simp only [PX8]⟩)
    have hi1 := fun (K : KQ) => hi (hnew h (G.1 + h.1) 3 (cObj 8 [vI 0, vI 0, vI 0])) (G.1 + h.1) (vI 0) (vI 0) (vI 0) p (s (49 + p)) (s (55 + p)) K hn_eq
    rw [z0]
    simp only [xt_o, KK, VS8, e119]
    simp (disch := omega) only [KK, Int.reduceEq, not_false_iff, ↓reduceIte, ↓if_pos, ↓if_neg, xt_o, true_and, nlO_i, nlO_n, nlO_r, List.length_nil, List.length_cons, Nat.reduceAdd, Nat.reduceLeDiff, Nat.zero_le, U119, e116, U116, hn_ne nz, hn_eq, z0, GX8, hi1, hs_hn, r1, r2, OKS]
  · rw [e] at z0 pl
    rw [AUC_4] at z0
    refine pl 6 AUC_4 AUC_4 (by omega) (fun Q => ?_)
    have hi := fun (h : MH) (b : Nat) (f0 f1 f2 : V) (x y z : Int) (K : KQ) (hb : h.2.2 b = some (cObj 6 [f0, f1, f2])) => c_aInit (G := G) (d := d) (Q := K) (x := x) (y := y) (z := z) rfl hb (fun _ _ _ _ _ => ⟨by simp only [PX6], by simp only [PX6], by simp only [PX6]⟩)
    have hi1 := fun (K : KQ) => hi (hnew h (G.1 + h.1) 3 (cObj 6 [vI 0, vI 0, vI 0])) (G.1 + h.1) (vI 0) (vI 0) (vI 0) p (s (49 + p)) (s (55 + p)) K hn_eq
    rw [z0]
    simp only [xt_o, KK, VS6, e124]
    simp (disch := omega) only [KK, Int.reduceEq, not_false_iff, ↓reduceIte, ↓if_pos, ↓if_neg, xt_o, true_and, nlO_i, nlO_n, nlO_r, List.length_nil, List.length_cons, Nat.reduceAdd, Nat.reduceLeDiff, Nat.zero_le, U124, e121, U121, e106, U106, hn_ne nz, hn_eq, z0, GX6, hi1, hs_hn, r1, r2, OKS]
  · rw [e] at z0 pl
    rw [AUC_5] at z0
    refine pl 3 AUC_5 AUC_5 (by omega) (fun Q => ?_)
    have hi := fun (h : MH) (b : Nat) (f0 f1 f2 : V) (x y z : Int) (K : KQ) (hb : h.2.2 b = some (cObj 3 [f0, f1, f2])) => c_aInit (G := G) (d := d) (Q := K) (x := x) (y := y) (z := z) rfl hb (fun _ _ _ _ _ => ⟨by simp only [PX3], by simp only [PX3], by simp only [PX3]⟩)
    have hi1 := fun (K : KQ) => hi (hnew h (G.1 + h.1) 3 (cObj 3 [vI 0, vI 0, vI 0])) (G.1 + h.1) (vI 0) (vI 0) (vI 0) p (s (49 + p)) (s (55 + p)) K hn_eq
    rw [z0]
    simp only [xt_o, KK, VS3, e129]
    simp (disch := omega) only [KK, Int.reduceEq, not_false_iff, ↓reduceIte, ↓if_pos, ↓if_neg, xt_o, true_and, nlO_i, nlO_n, nlO_r, List.length_nil, List.length_cons, Nat.reduceAdd, Nat.reduceLeDiff, Nat.zero_le, U129, e126, U126, e111, U111, hn_ne nz, hn_eq, z0, GX3, hi1, hs_hn, r1, r2, OKS]
  · obtain ⟨ro, q1, q2⟩ := z6 e
    rw [e] at z0
    rw [AUC_6] at z0
    have n1 : ¬ a = G.1 + h.1 + 1 := fun e2 => by
      have := hf (G.1 + h.1 + 1) (by omega)
      rw [e2, this] at z0; cases z0
    have n2 : ¬ a + 1 = G.1 + h.1 := fun e2 => by
      have := hf (G.1 + h.1) (Nat.le_refl _)
      rw [e2, this] at q1; cases q1
    have n3 : ¬ a + 1 = G.1 + h.1 + 1 := fun e2 => nz (by omega)
    have n4 : ¬ G.1 + h.1 = G.1 + h.1 + 1 := by omega
    have n5 : ¬ G.1 + h.1 + 1 = G.1 + h.1 := by omega
    have hf1 : ∀ q, G.1 + (h.1 + 1) ≤ q → (hnew h (G.1 + h.1) 4 (cObj 9 [vI p, vI (s (49 + p)), vI (s (55 + p)), vN])).2.2 q = none := fun q hq => by
      rw [hn_ne (by omega)]; exact hf q (by omega)
    have hi := fun (h : MH) (b : Nat) (f0 f1 f2 : V) (x y z : Int) (K : KQ) (hb : h.2.2 b = some (cObj 9 [f0, f1, f2, vN])) => c_aInit (G := G) (d := d) (Q := K) (x := x) (y := y) (z := z) rfl hb (fun _ _ _ _ _ => ⟨by simp only [PX9], by simp only [PX9], by simp only [PX9]⟩)
    have hi1 := fun (K : KQ) => hi (hnew h (G.1 + h.1) 4 (cObj 9 [vI 0, vI 0, vI 0, vN])) (G.1 + h.1) (vI 0) (vI 0) (vI 0) p (s (49 + p)) (s (55 + p)) K hn_eq
    have eA : G.1 + (h.1 + 1) = G.1 + h.1 + 1 := rfl
    refine ⟨hset (hset (hnew (hnew h (G.1 + h.1) 4 (cObj 9 [vI p, vI (s (49 + p)), vI (s (55 + p)), vN])) (G.1 + h.1 + 1) 4 (cArr 0 4 (ix (fun _ => 0)))) (G.1 + h.1) (cObj 9 [vI p, vI (s (49 + p)), vI (s (55 + p)), vR (G.1 + h.1 + 1)])) (G.1 + h.1 + 1) (cArr 0 4 (ix (fun z => if z < 4 then ro z else 0))), ⟨?_, fun _ => ⟨_, hs_eq, fun k k0 k1 => ?_⟩⟩, ?_, ?_, ?_, ?_, fun Q => ?_⟩
    · rw [hs_ne n4, hs_eq, e, AUC_6]
    · show (if k < 4 then ro k else 0) = _ ∧ 0 ≤ (if k < 4 then ro k else 0) ∧ (if k < 4 then ro k else 0) ≤ 9
      rw [if_pos k1]
      exact q2 k k0 k1
    · refine ⟨fun y q hq => ?_, fun b c hc hb => Or.inl ?_⟩
      · have hq : G.1 + (h.1 + 1 + 1) ≤ q := hq
        rw [hs_ne (by omega), hs_ne (by omega), hn_ne (by omega), hn_ne (by omega)]
        exact hf q (by omega)
      · have b1 : ¬ b = G.1 + h.1 := fun e => by
          have := hf (G.1 + h.1) (Nat.le_refl _)
          rw [e, this] at hc; cases hc
        have b2 : ¬ b = G.1 + h.1 + 1 := fun e => by
          have := hf (G.1 + h.1 + 1) (by omega)
          rw [e, this] at hc; cases hc
        rw [hs_ne b2, hs_ne b1, hn_ne b2, hn_ne b1]
        exact hc
    · show h.1 ≤ h.1 + 1 + 1 ∧ h.1 + 1 + 1 ≤ h.1 + 2; omega
    · show h.2.1 ≤ h.2.1 + 4 + 4 ∧ h.2.1 + 4 + 4 ≤ h.2.1 + 8; omega
    · show G.1 + h.1 < G.1 + (h.1 + 1 + 1); omega
    · rw [z0]
      simp only [xt_o, KK, VS9, e135]
      simp (disch := omega) only [KK, Int.reduceEq, not_false_iff, ↓reduceIte, ↓if_pos, ↓if_neg, xt_o, true_and, nlO_i, nlO_n, nlO_r, List.length_nil, List.length_cons, Nat.reduceAdd, Nat.reduceLeDiff, Nat.zero_le, U135, e131, U131, e116, U116, hn_ne nz, hn_ne n1, hn_ne n2, hn_ne n3, hn_ne n4, hn_ne n5, hn_eq, hn_1, hn_2, hs_ne nz, hs_ne n1, hs_ne n2, hs_ne n3, hs_ne n4, hs_ne n5, hs_eq, hs_1, hs_2, z0, q1, GX9, PX9, hi1, hs_hn, eA, r1, r3, r4, r5, OKS, xc_i, ix_0, Int.reduceToNat, Int.reduceLE, and_self]
end TW
