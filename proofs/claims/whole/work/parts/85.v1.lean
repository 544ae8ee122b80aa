/-! acts of the class -/
def qRn (o : Nat) (rn : Int) (bd : Int → Int) (h : MH) : Prop := ∃ g : Int → Int, qRW h o 20 rn bd g
def rE (gb : Nat) (Bs X : Nat → Prop) (a : Nat) (cell : MC) (o : Nat) (rn : Int) (bd : Int → Int) (L : List Int) (h : MH) (W : KQ → Prop) (val : Int) : Prop := ∃ h' : MH, qRn o (rn + (L.length : Int)) (rbL bd rn L) h' ∧ h'.2.2 a = some cell ∧ qFr gb Bs X h h' ∧ (h'.1 = h.1 ∧ h'.2.1 = h.2.1) ∧ ∀ Q : KQ, W Q = Q (some (vI val)) h'
theorem rbL_1 {bd : Int → Int} {rn x : Int} {L : List Int} : rbL (rbF bd rn x) (rn + 1) L = rbL bd rn (x :: L) := rfl
theorem len_1 {rn x : Int} {L : List Int} : rn + 1 + (L.length : Int) = rn + ((x :: L).length : Int) := by
  rw [List.length_cons]; omega
section V1
variable {G : MG} {d : Nat} {Q : KQ} {gb : Nat} {Bs X : Nat → Prop} {h : MH} {a r o : Nat} {k p v kn rn x : Int} {bd : Int → Int}
theorem rput (z : qRn o rn bd h) (hn : 0 ≤ rn ∧ rn ≤ 900) (hX : X o ∧ X (o + 1) ∧ X (o + 2)) (ha : h.2.2 a = some (AUC r k p v kn)) (hk : 0 ≤ k ∧ k ≤ 6) {y : Int} : ∃ h' : MH, qRn o (rn + 1) (rbF bd rn y) h' ∧ h'.2.2 a = some (AUC r k p v kn) ∧ qFr gb Bs X h h' ∧ (h'.1 = h.1 ∧ h'.2.1 = h.2.1) ∧ (∀ K : Nat → Prop, xTag (h.2.2 o) K = K 7) ∧ ∀ Q : KQ, wpC G (d + 1) 90 [vR o, vI y, vI x] h Q = Q (some (vI (rn + 1))) h' := by
  obtain ⟨g, z⟩ := z
  have zt := fun (K : Nat → Prop) => rw_tag z (K := K)
  obtain ⟨h', t1, t2, t3, t4⟩ := c_put (G := G) (gb := gb) (Bs := Bs) (X := fun q => q = o ∨ q = o + 1 ∨ q = o + 2) (d := d) (x := y) (y := x) z ⟨hn.1, by omega⟩ ⟨Or.inl rfl, Or.inr (Or.inl rfl), Or.inr (Or.inr rfl)⟩ (f' := rbF bd rn y) (g' := up g rn x) (fun i i0 i1 i2 => ⟨by
    unfold rbF
    split
    · exact up_ne (by omega)
    · rfl, up_ne (by omega)⟩) (fun c => ⟨by
    unfold rbF
    rw [if_pos (by omega), up_eq], up_eq⟩)
  refine ⟨h', ⟨_, t1⟩, ?_, qFr_wk t2 (fun q hq => by rcases hq with e | e | e <;> rw [e]; exact hX.1; exact hX.2.1; exact hX.2.2), t3, zt, t4⟩
  obtain ⟨t, fs, e, hat⟩ := AUC_o (r := r) (p := p) (v := v) (kn := kn) hk
  obtain ⟨r1, r2, q1, q2, q3, -⟩ := z
  rw [e] at ha ⊢
  have h7 : ¬ t = 7 := fun q => by subst q; exact absurd hat (by decide)
  refine fr_o t2 ha (fun q => ?_)
  rcases q with q | q | q
  · exact ne_oo ha q1 h7 q
  · exact ne_oa ha q2 q
  · exact ne_oa ha q3 q
theorem APs {y : Nat} {al : List V} {K : KQ} (hk : 0 ≤ k ∧ k ≤ 6) : xTag (some (AUC r k p v kn)) (kP G d y al h K) = wpC G d y al h K := by
  obtain ⟨t, fs, e, hat⟩ := AUC_o (r := r) (p := p) (v := v) (kn := kn) hk
  have h14 : (t < 14) = True := eq_true (auntT_lt hat).1
  rw [e]
  simp only [xt_o, KK, h14, true_and]
theorem c_rings0 (z : qRn o rn bd h) (hn : 0 ≤ rn ∧ rn ≤ 900) (hX : X o ∧ X (o + 1) ∧ X (o + 2)) (ha : h.2.2 a = some (AUC r k p v kn)) (hk : 0 ≤ k ∧ k ≤ 6) : rE gb Bs X a (AUC r k p v kn) o rn bd [1] h (fun Q => wpC G (d + 2) 103 [vR a, vR o, vI x] h Q) (iBin 0 x p) := by
  obtain ⟨h1, t1, t2, t3, t4, t5, t6⟩ := rput (G := G) (gb := gb) (Bs := Bs) (d := d) (x := x) z hn hX ha hk (y := 1)
  have hG0 := fun (K : V → Prop) => AG0 (K := K) (r := r) (k := k) (p := p) (v := v) (kn := kn) hk
  refine ⟨h1, t1, t2, t3, t4, fun Q => ?_⟩
  show wpC G (d + 2) 103 _ h Q = _
  rw [e103]
  simp (disch := omega) only [KK, Int.reduceEq, not_false_iff, ↓reduceIte, ↓if_pos, ↓if_neg, xt_o, true_and, nlO_i, nlO_n, nlO_r, List.length_nil, List.length_cons, Nat.reduceAdd, Nat.reduceLeDiff, Nat.zero_le, U103, t5, t6, t2, hG0, VS7]
theorem c_rings1 (z : qRn o rn bd h) (hn : 0 ≤ rn ∧ rn ≤ 800) (hX : X o ∧ X (o + 1) ∧ X (o + 2)) (ha : h.2.2 a = some (AUC r k p v kn)) (hk : 0 ≤ k ∧ k ≤ 6) : rE gb Bs X a (AUC r k p v kn) o rn bd [11, 1] h (fun Q => wpC G (d + 3) 110 [vR a, vR o, vI x] h Q) (iBin 0 (iBin 2 x 3) p) := by
  obtain ⟨h1, t1, t2, t3, t4, t5, t6⟩ := rput (G := G) (gb := gb) (Bs := Bs) (d := d + 1) (x := x) z (by omega) hX ha hk (y := 11)
  obtain ⟨h2, u1, u2, u3, u4, u5⟩ := c_rings0 (G := G) (gb := gb) (Bs := Bs) (d := d) (x := iBin 2 x 3) t1 (by omega) hX t2 hk
  have hP := fun (y : Nat) (al : List V) (K : KQ) => APs (G := G) (d := d + 2) (h := h1) (r := r) (k := k) (p := p) (v := v) (kn := kn) (y := y) (al := al) (K := K) hk
  rw [len_1 (x := 11), rbL_1] at u1
  refine ⟨h2, u1, u2, qFr_tr t3 u3, ⟨u4.1.trans t4.1, u4.2.trans t4.2⟩, fun Q => ?_⟩
  show wpC G (d + 3) 110 _ h Q = _
  rw [e110]
  simp (disch := omega) only [KK, Int.reduceEq, not_false_iff, ↓reduceIte, ↓if_pos, ↓if_neg, xt_o, true_and, nlO_i, nlO_n, nlO_r, List.length_nil, List.length_cons, Nat.reduceAdd, Nat.reduceLeDiff, Nat.zero_le, U110, t5, t6, t2, hP, u5, VS7]
theorem c_rings5 (z : qRn o rn bd h) (hn : 0 ≤ rn ∧ rn ≤ 800) (hX : X o ∧ X (o + 1) ∧ X (o + 2)) (ha : h.2.2 a = some (AUC r k p v kn)) (hk : 0 ≤ k ∧ k ≤ 6) : rE gb Bs X a (AUC r k p v kn) o rn bd [51, 1] h (fun Q => wpC G (d + 3) 130 [vR a, vR o, vI x] h Q) (iBin 5 (iBin 0 x p) p) := by
  obtain ⟨h1, t1, t2, t3, t4, t5, t6⟩ := rput (G := G) (gb := gb) (Bs := Bs) (d := d + 1) (x := x) z (by omega) hX ha hk (y := 51)
  obtain ⟨h2, u1, u2, u3, u4, u5⟩ := c_rings0 (G := G) (gb := gb) (Bs := Bs) (d := d) (x := x) t1 (by omega) hX t2 hk
  have hP := fun (y : Nat) (al : List V) (K : KQ) => APs (G := G) (d := d + 2) (h := h1) (r := r) (k := k) (p := p) (v := v) (kn := kn) (y := y) (al := al) (K := K) hk
  have hG0 := fun (K : V → Prop) => AG0 (K := K) (r := r) (k := k) (p := p) (v := v) (kn := kn) hk
  rw [len_1 (x := 51), rbL_1] at u1
  refine ⟨h2, u1, u2, qFr_tr t3 u3, ⟨u4.1.trans t4.1, u4.2.trans t4.2⟩, fun Q => ?_⟩
  show wpC G (d + 3) 130 _ h Q = _
  rw [e130]
  simp (disch := omega) only [KK, Int.reduceEq, not_false_iff, ↓reduceIte, ↓if_pos, ↓if_neg, xt_o, true_and, nlO_i, nlO_n, nlO_r, List.length_nil, List.length_cons, Nat.reduceAdd, Nat.reduceLeDiff, Nat.zero_le, U130, t5, t6, t2, u2, hP, hG0, u5, VS7]
theorem rE_cg {W W' : KQ → Prop} {L L' : List Int} {val val' : Int} {cell : MC} (z : rE gb Bs X a cell o rn bd L h W val) (hW : ∀ Q, W' Q = W Q) (hL : L' = L) (hv : val' = val) : rE gb Bs X a cell o rn bd L' h W' val' := by
  subst hL; subst hv
  obtain ⟨h', z1, z2, z3, z4, z5⟩ := z
  exact ⟨h', z1, z2, z3, z4, fun Q => (hW Q).trans (z5 Q)⟩
theorem ARI (z : qRn o rn bd h) (hn : 0 ≤ rn ∧ rn ≤ 800) (hX : X o ∧ X (o + 1) ∧ X (o + 2)) (ha : h.2.2 a = some (AUC r k p v kn)) (hk : 0 ≤ k ∧ k ≤ 6) : rE gb Bs X a (AUC r k p v kn) o rn bd (riB k) h (fun Q => xTag (some (AUC r k p v kn)) (kS 35 G (d + 3) [vR a, vR o, vI x] h Q)) (riV k p x) := by
  have h0 := c_rings0 (G := G) (gb := gb) (Bs := Bs) (d := d + 1) (x := x) z (by omega) hX ha hk
  have h1 := c_rings1 (G := G) (gb := gb) (Bs := Bs) (d := d) (x := x) z hn hX ha hk
  have h5 := c_rings5 (G := G) (gb := gb) (Bs := Bs) (d := d) (x := x) z hn hX ha hk
  rcases k7 hk with e | e | e | e | e | e | e <;> subst e
  · refine rE_cg h0 (fun Q => ?_) rfl rfl
    rw [AUC_0]; simp only [xt_o, KK, VS2]
  · refine rE_cg h1 (fun Q => ?_) rfl rfl
    rw [AUC_1]; simp only [xt_o, KK, VS4]
  · refine rE_cg h0 (fun Q => ?_) rfl rfl
    rw [AUC_2]; simp only [xt_o, KK, VS5]
  · refine rE_cg h0 (fun Q => ?_) rfl rfl
    rw [AUC_3]; simp only [xt_o, KK, VS8]
  · refine rE_cg h1 (fun Q => ?_) rfl rfl
    rw [AUC_4]; simp only [xt_o, KK, VS6]
  · refine rE_cg h5 (fun Q => ?_) rfl rfl
    rw [AUC_5]; simp only [xt_o, KK, VS3]
  · refine rE_cg h0 (fun Q => ?_) rfl rfl
    rw [AUC_6]; simp only [xt_o, KK, VS9]
theorem c_asks0 (z : qRn o rn bd h) (hn : 0 ≤ rn ∧ rn ≤ 700) (hX : X o ∧ X (o + 1) ∧ X (o + 2)) (ha : h.2.2 a = some (AUC r k p v kn)) (hk : 0 ≤ k ∧ k ≤ 6) : rE gb Bs X a (AUC r k p v kn) o rn bd (2 :: riB k) h (fun Q => wpC G (d + 4) 104 [vR a, vR o, vI x] h Q) (paV k p v x) := by
  obtain ⟨h1, t1, t2, t3, t4, t5, t6⟩ := rput (G := G) (gb := gb) (Bs := Bs) (d := d + 2) (x := x) z (by omega) hX ha hk (y := 2)
  obtain ⟨h2, u1, u2, u3, u4, u5⟩ := ARI (G := G) (gb := gb) (Bs := Bs) (d := d) (x := x) t1 (by omega) hX t2 hk
  have hG1 := fun (K : V → Prop) => AG1 (K := K) (r := r) (k := k) (p := p) (v := v) (kn := kn) hk
  rw [len_1 (x := 2), rbL_1] at u1
  refine ⟨h2, u1, u2, qFr_tr t3 u3, ⟨u4.1.trans t4.1, u4.2.trans t4.2⟩, fun Q => ?_⟩
  show wpC G (d + 4) 104 _ h Q = _
  rw [e104]
  simp (disch := omega) only [KK, Int.reduceEq, not_false_iff, ↓reduceIte, ↓if_pos, ↓if_neg, xt_o, true_and, nlO_i, nlO_n, nlO_r, List.length_nil, List.length_cons, Nat.reduceAdd, Nat.reduceLeDiff, Nat.zero_le, U104, t5, t6, t2, u2, hG1, u5, VS7]
  rfl
theorem c_asks2 (z : qRn o rn bd h) (hn : 0 ≤ rn ∧ rn ≤ 600) (hX : X o ∧ X (o + 1) ∧ X (o + 2)) (ha : h.2.2 a = some (AUC r k p v kn)) (hk : 0 ≤ k ∧ k ≤ 6) : rE gb Bs X a (AUC r k p v kn) o rn bd (21 :: 2 :: riB k) h (fun Q => wpC G (d + 5) 115 [vR a, vR o, vI x] h Q) (iNeg (paV k p v x)) := by
  obtain ⟨h1, t1, t2, t3, t4, t5, t6⟩ := rput (G := G) (gb := gb) (Bs := Bs) (d := d + 3) (x := x) z (by omega) hX ha hk (y := 21)
  obtain ⟨h2, u1, u2, u3, u4, u5⟩ := c_asks0 (G := G) (gb := gb) (Bs := Bs) (d := d) (x := x) t1 (by omega) hX t2 hk
  have hP := fun (y : Nat) (al : List V) (K : KQ) => APs (G := G) (d := d + 4) (h := h1) (r := r) (k := k) (p := p) (v := v) (kn := kn) (y := y) (al := al) (K := K) hk
  rw [len_1 (x := 21), rbL_1] at u1
  refine ⟨h2, u1, u2, qFr_tr t3 u3, ⟨u4.1.trans t4.1, u4.2.trans t4.2⟩, fun Q => ?_⟩
  show wpC G (d + 5) 115 _ h Q = _
  rw [e115]
  simp (disch := omega) only [KK, Int.reduceEq, not_false_iff, ↓reduceIte, ↓if_pos, ↓if_neg, xt_o, true_and, nlO_i, nlO_n, nlO_r, List.length_nil, List.length_cons, Nat.reduceAdd, Nat.reduceLeDiff, Nat.zero_le, U115, t5, t6, t2, hP, u5, VS7]
theorem c_asks6 (z : qRn o rn bd h) (hn : 0 ≤ rn ∧ rn ≤ 600) (hX : X o ∧ X (o + 1) ∧ X (o + 2)) (ha : h.2.2 a = some (AUC r k p v kn)) (hk : 0 ≤ k ∧ k ≤ 6) : rE gb Bs X a (AUC r k p v kn) o rn bd (61 :: 2 :: riB k) h (fun Q => wpC G (d + 5) 136 [vR a, vR o, vI x] h Q) (iBin 0 (paV k p v x) v) := by
  obtain ⟨h1, t1, t2, t3, t4, t5, t6⟩ := rput (G := G) (gb := gb) (Bs := Bs) (d := d + 3) (x := x) z (by omega) hX ha hk (y := 61)
  obtain ⟨h2, u1, u2, u3, u4, u5⟩ := c_asks0 (G := G) (gb := gb) (Bs := Bs) (d := d) (x := x) t1 (by omega) hX t2 hk
  have hP := fun (y : Nat) (al : List V) (K : KQ) => APs (G := G) (d := d + 4) (h := h1) (r := r) (k := k) (p := p) (v := v) (kn := kn) (y := y) (al := al) (K := K) hk
  have hG1 := fun (K : V → Prop) => AG1 (K := K) (r := r) (k := k) (p := p) (v := v) (kn := kn) hk
  rw [len_1 (x := 61), rbL_1] at u1
  refine ⟨h2, u1, u2, qFr_tr t3 u3, ⟨u4.1.trans t4.1, u4.2.trans t4.2⟩, fun Q => ?_⟩
  show wpC G (d + 5) 136 _ h Q = _
  rw [e136]
  simp (disch := omega) only [KK, Int.reduceEq, not_false_iff, ↓reduceIte, ↓if_pos, ↓if_neg, xt_o, true_and, nlO_i, nlO_n, nlO_r, List.length_nil, List.length_cons, Nat.reduceAdd, Nat.reduceLeDiff, Nat.zero_le, U136, t5, t6, t2, u2, hP, hG1, u5, VS7]
theorem AAS (z : qRn o rn bd h) (hn : 0 ≤ rn ∧ rn ≤ 600) (hX : X o ∧ X (o + 1) ∧ X (o + 2)) (ha : h.2.2 a = some (AUC r k p v kn)) (hk : 0 ≤ k ∧ k ≤ 6) : rE gb Bs X a (AUC r k p v kn) o rn bd (asB k) h (fun Q => xTag (some (AUC r k p v kn)) (kS 36 G (d + 5) [vR a, vR o, vI x] h Q)) (asV k p v x) := by
  have h0 := c_asks0 (G := G) (gb := gb) (Bs := Bs) (d := d + 1) (x := x) z (by omega) hX ha hk
  have h2 := c_asks2 (G := G) (gb := gb) (Bs := Bs) (d := d) (x := x) z hn hX ha hk
  have h6 := c_asks6 (G := G) (gb := gb) (Bs := Bs) (d := d) (x := x) z hn hX ha hk
  rcases k7 hk with e | e | e | e | e | e | e <;> subst e
  · refine rE_cg h0 (fun Q => ?_) rfl rfl
    rw [AUC_0]; simp only [xt_o, KK, VS2]
  · refine rE_cg h0 (fun Q => ?_) rfl rfl
    rw [AUC_1]; simp only [xt_o, KK, VS4]
  · refine rE_cg h2 (fun Q => ?_) rfl rfl
    rw [AUC_2]; simp only [xt_o, KK, VS5]
  · refine rE_cg h0 (fun Q => ?_) rfl rfl
    rw [AUC_3]; simp only [xt_o, KK, VS8]
  · refine rE_cg h0 (fun Q => ?_) rfl rfl
    rw [AUC_4]; simp only [xt_o, KK, VS6]
  · refine rE_cg h2 (fun Q => ?_) rfl rfl
    rw [AUC_5]; simp only [xt_o, KK, VS3]
  · refine rE_cg h6 (fun Q => ?_) rfl rfl
    rw [AUC_6]; simp only [xt_o, KK, VS9]
theorem c_warns0 (z : qRn o rn bd h) (hn : 0 ≤ rn ∧ rn ≤ 500) (hX : X o ∧ X (o + 1) ∧ X (o + 2)) (ha : h.2.2 a = some (AUC r k p v kn)) (hk : 0 ≤ k ∧ k ≤ 6) : rE gb Bs X a (AUC r k p v kn) o rn bd (3 :: asB k) h (fun Q => wpC G (d + 6) 105 [vR a, vR o, vI x] h Q) (ptV k p v x) := by
  obtain ⟨h1, t1, t2, t3, t4, t5, t6⟩ := rput (G := G) (gb := gb) (Bs := Bs) (d := d + 4) (x := x) z (by omega) hX ha hk (y := 3)
  obtain ⟨h2, u1, u2, u3, u4, u5⟩ := AAS (G := G) (gb := gb) (Bs := Bs) (d := d) (x := x) t1 (by omega) hX t2 hk
  rw [len_1 (x := 3), rbL_1] at u1
  refine ⟨h2, u1, u2, qFr_tr t3 u3, ⟨u4.1.trans t4.1, u4.2.trans t4.2⟩, fun Q => ?_⟩
  show wpC G (d + 6) 105 _ h Q = _
  rw [e105]
  simp (disch := omega) only [KK, Int.reduceEq, not_false_iff, ↓reduceIte, ↓if_pos, ↓if_neg, xt_o, true_and, nlO_i, nlO_n, nlO_r, List.length_nil, List.length_cons, Nat.reduceAdd, Nat.reduceLeDiff, Nat.zero_le, U105, t5, t6, t2, u5, VS7]
  rfl
theorem c_warns3 (z : qRn o rn bd h) (hn : 0 ≤ rn ∧ rn ≤ 400) (hX : X o ∧ X (o + 1) ∧ X (o + 2)) (ha : h.2.2 a = some (AUC r k p v kn)) (hk : 0 ≤ k ∧ k ≤ 6) : rE gb Bs X a (AUC r k p v kn) o rn bd (31 :: 3 :: asB k) h (fun Q => wpC G (d + 7) 120 [vR a, vR o, vI x] h Q) (iBin 5 (ptV k p v x) 7) := by
  obtain ⟨h1, t1, t2, t3, t4, t5, t6⟩ := rput (G := G) (gb := gb) (Bs := Bs) (d := d + 5) (x := x) z (by omega) hX ha hk (y := 31)
  obtain ⟨h2, u1, u2, u3, u4, u5⟩ := c_warns0 (G := G) (gb := gb) (Bs := Bs) (d := d) (x := x) t1 (by omega) hX t2 hk
  have hP := fun (y : Nat) (al : List V) (K : KQ) => APs (G := G) (d := d + 6) (h := h1) (r := r) (k := k) (p := p) (v := v) (kn := kn) (y := y) (al := al) (K := K) hk
  rw [len_1 (x := 31), rbL_1] at u1
  refine ⟨h2, u1, u2, qFr_tr t3 u3, ⟨u4.1.trans t4.1, u4.2.trans t4.2⟩, fun Q => ?_⟩
  show wpC G (d + 7) 120 _ h Q = _
  rw [e120]
  simp (disch := omega) only [KK, Int.reduceEq, not_false_iff, ↓reduceIte, ↓if_pos, ↓if_neg, xt_o, true_and, nlO_i, nlO_n, nlO_r, List.length_nil, List.length_cons, Nat.reduceAdd, Nat.reduceLeDiff, Nat.zero_le, U120, t5, t6, t2, hP, u5, VS7]
theorem c_warns4 (z : qRn o rn bd h) (hn : 0 ≤ rn ∧ rn ≤ 400) (hX : X o ∧ X (o + 1) ∧ X (o + 2)) (ha : h.2.2 a = some (AUC r 4 p v kn)) : rE gb Bs X a (AUC r 4 p v kn) o rn bd ((41 :: 3 :: asB 4) ++ riB 4) h (fun Q => wpC G (d + 7) 125 [vR a, vR o, vI x] h Q) (iBin 0 (ptV 4 p v (iBin 1 x 1)) (riV 4 p 2)) := by
  have hk : (0 : Int) ≤ 4 ∧ (4 : Int) ≤ 6 := by omega
  obtain ⟨h1, t1, t2, t3, t4, t5, t6⟩ := rput (G := G) (gb := gb) (Bs := Bs) (d := d + 5) (x := x) z (by omega) hX ha hk (y := 41)
  obtain ⟨h2, u1, u2, u3, u4, u5⟩ := c_warns0 (G := G) (gb := gb) (Bs := Bs) (d := d) (x := iBin 1 x 1) t1 (by omega) hX t2 hk
  have hl : ((3 :: asB 4).length : Int) = 4 := rfl
  rw [hl] at u1
  obtain ⟨h3, w1, w2, w3, w4, w5⟩ := c_rings1 (G := G) (gb := gb) (Bs := Bs) (d := d + 3) (x := 2) u1 (by omega) hX u2 hk
  have hP := fun (y : Nat) (al : List V) (K : KQ) => APs (G := G) (d := d + 6) (h := h1) (r := r) (k := 4) (p := p) (v := v) (kn := kn) (y := y) (al := al) (K := K) hk
  have eb : rbL (rbL (rbF bd rn 41) (rn + 1) (3 :: asB 4)) (rn + 1 + 4) [11, 1] = rbL bd rn ((41 :: 3 :: asB 4) ++ riB 4) := by
    have := rbL_app (b := rbF bd rn 41) (3 :: asB 4) [11, 1] (rn + 1)
    rw [hl] at this
    rw [this]
    rfl
  have en : rn + 1 + 4 + (([11, 1] : List Int).length : Int) = rn + (((41 :: 3 :: asB 4) ++ riB 4).length : Int) := by
    have e1 : (([11, 1] : List Int).length : Int) = 2 := rfl
    have e2 : (((41 :: 3 :: asB 4) ++ riB 4).length : Int) = 7 := rfl
    omega
  rw [eb, en] at w1
  refine ⟨h3, w1, w2, qFr_tr t3 (qFr_tr u3 w3), ⟨w4.1.trans (u4.1.trans t4.1), w4.2.trans (u4.2.trans t4.2)⟩, fun Q => ?_⟩
  show wpC G (d + 7) 125 _ h Q = _
  rw [AUC_4] at u2
  rw [e125]
  simp (disch := omega) only [KK, Int.reduceEq, not_false_iff, ↓reduceIte, ↓if_pos, ↓if_neg, xt_o, true_and, nlO_i, nlO_n, nlO_r, List.length_nil, List.length_cons, Nat.reduceAdd, Nat.reduceLeDiff, Nat.zero_le, U125, t5, t6, t2, hP, u2, u5, w5, VS7, VS6]
  rfl
theorem AWA (z : qRn o rn bd h) (hn : 0 ≤ rn ∧ rn ≤ 400) (hX : X o ∧ X (o + 1) ∧ X (o + 2)) (ha : h.2.2 a = some (AUC r k p v kn)) (hk : 0 ≤ k ∧ k ≤ 6) : rE gb Bs X a (AUC r k p v kn) o rn bd (waB k) h (fun Q => xTag (some (AUC r k p v kn)) (kS 37 G (d + 7) [vR a, vR o, vI x] h Q)) (waV k p v x) := by
  have h0 := c_warns0 (G := G) (gb := gb) (Bs := Bs) (d := d + 1) (x := x) z (by omega) hX ha hk
  have h3 := c_warns3 (G := G) (gb := gb) (Bs := Bs) (d := d) (x := x) z hn hX ha hk
  rcases k7 hk with e | e | e | e | e | e | e <;> subst e
  · refine rE_cg h0 (fun Q => ?_) rfl rfl
    rw [AUC_0]; simp only [xt_o, KK, VS2]
  · refine rE_cg h0 (fun Q => ?_) rfl rfl
    rw [AUC_1]; simp only [xt_o, KK, VS4]
  · refine rE_cg h0 (fun Q => ?_) rfl rfl
    rw [AUC_2]; simp only [xt_o, KK, VS5]
  · refine rE_cg h3 (fun Q => ?_) rfl rfl
    rw [AUC_3]; simp only [xt_o, KK, VS8]
  · refine rE_cg (c_warns4 (G := G) (gb := gb) (Bs := Bs) (d := d) (x := x) z hn hX ha) (fun Q => ?_) rfl rfl
    rw [AUC_4]; simp only [xt_o, KK, VS6]
  · refine rE_cg h0 (fun Q => ?_) rfl rfl
    rw [AUC_5]; simp only [xt_o, KK, VS3]
  · refine rE_cg h3 (fun Q => ?_) rfl rfl
    rw [AUC_6]; simp only [xt_o, KK, VS9]
end V1
