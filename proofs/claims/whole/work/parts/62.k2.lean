/-! the class's cells, all in all -/
/-- what the class may write: its own, and what is new -/
def X0 (x : Nat) : Nat → Prop := fun a => (x ≤ a ∧ a < x + 70) ∨ x + 79 ≤ a
def qK (G : MG) (Bs : Nat → Prop) (ad : Int → Nat) (vn vi vt : Int → Nat) (s si st : Int → Int) (hi rn : Int) (bd : Int → Int) (h : MH) : Prop :=
  (qAD ad (G.1 + 79) ∧ (∀ i, ad i < G.1 + h.1 ∨ G.1 + 700000 ≤ ad i)) ∧ (∀ a, Bs a → a < G.1 + h.1 ∧ X0 G.1 a) ∧ qFs G h ∧ (h.2.2 G.1 = some (xO G.1 hi) ∧ (hi = 0 ∨ hi = 1)) ∧ qW G Bs ad 0 (G.1 + 1) vn s h ∧ qW G Bs ad 100 (G.1 + 23) vi si h ∧ qW G Bs ad 200 (G.1 + 45) vt st h ∧ (okP s ∧ okP si ∧ okW st) ∧ (∃ g : Int → Int, qRW h (G.1 + 67) 20 rn bd g) ∧ 0 ≤ rn ∧ rn ≤ 100 ∧ (∀ i, 0 ≤ i → i < s 29 → G.1 + 79 ≤ vn i) ∧ (∀ i, 0 ≤ i → i < si 29 → G.1 + 79 ≤ vi i) ∧ (∀ i, 0 ≤ i → i < st 29 → G.1 + 79 ≤ vt i) ∧ 79 ≤ h.1 ∧ h.2.2 (G.2.1 GE) = some (cRef 1 0 (fun _ => none)) ∧ G.2.1 GE < G.1
section K2
variable {G : MG} {d : Nat} {Q : KQ} {Bs X : Nat → Prop} {ad : Int → Nat} {vn vi vt : Int → Nat} {s si st bd : Int → Int} {hi rn : Int} {h h' : MH}
theorem K_x (z : qK G Bs ad vn vi vt s si st hi rn bd h) : h.2.2 G.1 = some (xO G.1 hi) := z.2.2.2.1.1
theorem K_n (z : qK G Bs ad vn vi vt s si st hi rn bd h) : qW G Bs ad 0 (G.1 + 1) vn s h := z.2.2.2.2.1
theorem K_p (z : qK G Bs ad vn vi vt s si st hi rn bd h) : okP s := z.2.2.2.2.2.2.2.1.1
theorem K_A (z : qK G Bs ad vn vi vt s si st hi rn bd h) : qAD ad (G.1 + 79) := z.1.1
/-- only the climber of now is written, and rows of subjects; cells may be new -/
theorem K_q (z : qK G Bs ad vn vi vt s si st hi rn bd h) (f : qFr G.1 Bs (fun q => q = G.1 + 22) h h') (hc : h.1 ≤ h'.1) (zn : qW G Bs ad 0 (G.1 + 1) vn s h') : qK G Bs ad vn vi vt s si st hi rn bd h' := by
  obtain ⟨⟨A, al⟩, hB, hf, ⟨hx, hhi⟩, z1, z2, z3, ⟨o1, o2, o3⟩, ⟨g, r⟩, r0⟩ := z
  obtain ⟨c1, c2, c3, c4, hcl⟩ := z1.1.2.2.2.2.2.2.2
  have oxo : qXo (fun q => q = G.1 + 22) h := xo_1 hcl (by omega)
  have aw : ∀ i, ¬ ad i = G.1 + 22 := fun i q => by have := A.2 i; omega
  exact ⟨⟨A, fun i => (al i).imp (fun q => by omega) id⟩, fun a ha => ⟨by have := (hB a ha).1; omega, (hB a ha).2⟩, qFs_fr f hf, ⟨fr_o f hx (fun q => by omega), hhi⟩, zn, qW_fo z2 f (okW_k o2.1) oxo (fun q => by omega) (fun q => by omega) (fun _ _ _ => aw _) (fun _ _ _ => aw _), qW_fo z3 f (okW_k o3) oxo (fun q => by omega) (fun q => by omega) (fun _ _ _ => aw _) (fun _ _ _ => aw _), ⟨o1, o2, o3⟩, ⟨g, qRW_fo r f (by decide) oxo⟩, r0.1, r0.2.1, r0.2.2.1, r0.2.2.2.1, r0.2.2.2.2.1, by have := r0.2.2.2.2.2.1; omega, fr_r f r0.2.2.2.2.2.2.1 (fun q => by have := r0.2.2.2.2.2.2.2; omega), r0.2.2.2.2.2.2.2⟩
theorem K_q0 (z : qK G Bs ad vn vi vt s si st hi rn bd h) (f : qFr G.1 Bs (fun _ => False) h h') (hc : h.1 ≤ h'.1) : qK G Bs ad vn vi vt s si st hi rn bd h' := K_q z (qFr_wk f (fun _ q => q.elim)) hc (qW_f0 (K_n z) f (okW_k (K_p z).1))
theorem X0_22 {x a : Nat} : a = x + 22 → X0 x a := fun e => Or.inl (by omega)
end K2
/-- a call of the class that changes nothing told -/
def cQ (G : MG) (k y : Nat) (a : List V) (r : V) (Bs : Nat → Prop) (ad : Int → Nat) (vn vi vt : Int → Nat) (s si st : Int → Int) (hi rn : Int) (bd : Int → Int) (h : MH) : Prop := ∃ h' : MH, qK G Bs ad vn vi vt s si st hi rn bd h' ∧ qFr G.1 Bs (X0 G.1) h h' ∧ (h.1 ≤ h'.1 ∧ h'.1 ≤ h.1 + 2) ∧ (h.2.1 ≤ h'.2.1 ∧ h'.2.1 ≤ h.2.1 + 8) ∧ ∀ Q : KQ, wpC G k y (vR G.1 :: a) h Q = Q (some r) h'
section K3
variable {G : MG} {d : Nat} {Q : KQ} {Bs X : Nat → Prop} {ad : Int → Nat} {vn vi vt : Int → Nat} {s si st bd : Int → Int} {hi rn : Int} {h h' : MH}
theorem cQ_id {y k : Nat} {a : List V} {r : V} (z : qK G Bs ad vn vi vt s si st hi rn bd h) (w : ∀ Q : KQ, wpC G k y (vR G.1 :: a) h Q = Q (some r) h) : cQ G k y a r Bs ad vn vi vt s si st hi rn bd h := ⟨h, z, qFr_rf, by omega, by omega, w⟩
theorem c_isFact {f : Int} : wpC G (d + 1) 13 [vI f] h Q = Q (some (vI (if 0 ≤ f ∧ f < 8 then 1 else 0))) h := by
  rw [e13]
  by_cases c : f < 0
  · rw [if_neg (by omega)]
    simp (disch := omega) only [KK, Int.reduceEq, not_false_iff, ↓reduceIte, ↓if_pos, ↓if_neg, xt_o, true_and, nlO_i, nlO_n, nlO_r, List.length_nil, List.length_cons, Nat.reduceAdd, Nat.reduceLeDiff, Nat.zero_le, U13, true_or, or_true]
  · by_cases c2 : f < 8
    · rw [if_pos (by omega)]
      simp (disch := omega) only [KK, Int.reduceEq, not_false_iff, ↓reduceIte, ↓if_pos, ↓if_neg, xt_o, true_and, nlO_i, nlO_n, nlO_r, List.length_nil, List.length_cons, Nat.reduceAdd, Nat.reduceLeDiff, Nat.zero_le, U13, true_or, or_true]
    · rw [if_neg (by omega)]
      simp (disch := omega) only [KK, Int.reduceEq, not_false_iff, ↓reduceIte, ↓if_pos, ↓if_neg, xt_o, true_and, nlO_i, nlO_n, nlO_r, List.length_nil, List.length_cons, Nat.reduceAdd, Nat.reduceLeDiff, Nat.zero_le, U13, true_or, or_true]
theorem c_areFacts {f : Int} : wpC G (d + 1) 5 [vI f] h Q = Q (some (vI (if 0 ≤ f ∧ f ≤ 255 then 1 else 0))) h := by
  rw [e5]
  by_cases c : f < 0
  · rw [if_neg (by omega)]
    simp (disch := omega) only [KK, Int.reduceEq, not_false_iff, ↓reduceIte, ↓if_pos, ↓if_neg, xt_o, true_and, nlO_i, nlO_n, nlO_r, List.length_nil, List.length_cons, Nat.reduceAdd, Nat.reduceLeDiff, Nat.zero_le, U5, true_or, or_true]
  · by_cases c2 : f ≤ 255
    · rw [if_pos (by omega)]
      simp (disch := omega) only [KK, Int.reduceEq, not_false_iff, ↓reduceIte, ↓if_pos, ↓if_neg, xt_o, true_and, nlO_i, nlO_n, nlO_r, List.length_nil, List.length_cons, Nat.reduceAdd, Nat.reduceLeDiff, Nat.zero_le, U5, true_or, or_true]
    · rw [if_neg (by omega)]
      simp (disch := omega) only [KK, Int.reduceEq, not_false_iff, ↓reduceIte, ↓if_pos, ↓if_neg, xt_o, true_and, nlO_i, nlO_n, nlO_r, List.length_nil, List.length_cons, Nat.reduceAdd, Nat.reduceLeDiff, Nat.zero_le, U5, true_or, or_true]
theorem c_isDigit {f : Int} : wpC G (d + 1) 3 [vI f] h Q = Q (some (vI (if 0 ≤ f ∧ f ≤ 9 then 1 else 0))) h := by
  rw [e3]
  by_cases c : f < 0
  · rw [if_neg (by omega)]
    simp (disch := omega) only [KK, Int.reduceEq, not_false_iff, ↓reduceIte, ↓if_pos, ↓if_neg, xt_o, true_and, nlO_i, nlO_n, nlO_r, List.length_nil, List.length_cons, Nat.reduceAdd, Nat.reduceLeDiff, Nat.zero_le, U3, true_or, or_true]
  · by_cases c2 : f ≤ 9
    · rw [if_pos (by omega)]
      simp (disch := omega) only [KK, Int.reduceEq, not_false_iff, ↓reduceIte, ↓if_pos, ↓if_neg, xt_o, true_and, nlO_i, nlO_n, nlO_r, List.length_nil, List.length_cons, Nat.reduceAdd, Nat.reduceLeDiff, Nat.zero_le, U3, true_or, or_true]
    · rw [if_neg (by omega)]
      simp (disch := omega) only [KK, Int.reduceEq, not_false_iff, ↓reduceIte, ↓if_pos, ↓if_neg, xt_o, true_and, nlO_i, nlO_n, nlO_r, List.length_nil, List.length_cons, Nat.reduceAdd, Nat.reduceLeDiff, Nat.zero_le, U3, true_or, or_true]
theorem c_areDays {f : Int} : wpC G (d + 1) 20 [vI f] h Q = Q (some (vI (if 0 ≤ f ∧ f ≤ 60 then 1 else 0))) h := by
  rw [e20]
  by_cases c : f < 0
  · rw [if_neg (by omega)]
    simp (disch := omega) only [KK, Int.reduceEq, not_false_iff, ↓reduceIte, ↓if_pos, ↓if_neg, xt_o, true_and, nlO_i, nlO_n, nlO_r, List.length_nil, List.length_cons, Nat.reduceAdd, Nat.reduceLeDiff, Nat.zero_le, U20, true_or, or_true]
  · by_cases c2 : f ≤ 60
    · rw [if_pos (by omega)]
      simp (disch := omega) only [KK, Int.reduceEq, not_false_iff, ↓reduceIte, ↓if_pos, ↓if_neg, xt_o, true_and, nlO_i, nlO_n, nlO_r, List.length_nil, List.length_cons, Nat.reduceAdd, Nat.reduceLeDiff, Nat.zero_le, U20, true_or, or_true]
    · rw [if_neg (by omega)]
      simp (disch := omega) only [KK, Int.reduceEq, not_false_iff, ↓reduceIte, ↓if_pos, ↓if_neg, xt_o, true_and, nlO_i, nlO_n, nlO_r, List.length_nil, List.length_cons, Nat.reduceAdd, Nat.reduceLeDiff, Nat.zero_le, U20, true_or, or_true]
theorem K_has (z : qK G Bs ad vn vi vt s si st hi rn bd h) {i : Int} : wpC G (d + 2) 46 [vR (G.1 + 1), vI i] h Q = Q (some (vI (if 0 ≤ i ∧ i < s 27 then 1 else 0))) h := by
  obtain ⟨F, q, -⟩ := ll_LS (K_n z).2.1
  exact c_hasAunt (K_n z).1.1 q
theorem K_hask (z : qK G Bs ad vn vi vt s si st hi rn bd h) {i : Int} : wpC G (d + 2) 52 [vR (G.1 + 1), vI i] h Q = Q (some (vI (if 0 ≤ i ∧ i < s 28 then 1 else 0))) h := by
  obtain ⟨F, q, -⟩ := ll_LS (K_n z).2.2.1
  exact c_hasAsker (K_n z).1.1 q
theorem A_hush (z : qK G Bs ad vn vi vt s si st hi rn bd h) {f : Int} : cQ G (d + 9) 24 [vI f] (vI (if 0 ≤ f ∧ f ≤ 7 then HUSH s f else -1)) Bs ad vn vi vt s si st hi rn bd h := by
  have hx := K_x z
  have hI := fun (K : KQ) => c_isFact (G := G) (d := d + 7) (h := h) (Q := K) (f := f)
  by_cases c : 0 ≤ f ∧ f ≤ 7
  · have hI := fun (K : KQ) => (hI K).trans (by rw [if_pos (by omega)])
    obtain ⟨h1, r1, r2, r3, r4⟩ := c_fewestToHush (gb := G.1) (d := d) (K_A z) (by omega) (K_p z).1 (K_n z) (f := f)
    refine ⟨h1, K_q z r2 (by omega) r1, qFr_wk r2 (fun _ => X0_22), by omega, by omega, fun Q => ?_⟩
    have zn := (K_n z).1.1
    rw [if_pos c, e24]
    simp (disch := omega) only [KK, Int.reduceEq, not_false_iff, ↓reduceIte, ↓if_pos, ↓if_neg, xt_o, true_and, nlO_i, nlO_n, nlO_r, List.length_nil, List.length_cons, Nat.reduceAdd, Nat.reduceLeDiff, Nat.zero_le, U24, hx, hI, zn, r4, GX12, VS11]
  · have hI := fun (K : KQ) => (hI K).trans (by rw [if_neg (by omega)])
    refine cQ_id z (fun Q => ?_)
    rw [if_neg c, e24]
    simp (disch := omega) only [KK, Int.reduceEq, not_false_iff, ↓reduceIte, ↓if_pos, ↓if_neg, xt_o, true_and, nlO_i, nlO_n, nlO_r, List.length_nil, List.length_cons, Nat.reduceAdd, Nat.reduceLeDiff, Nat.zero_le, U24, hI]
theorem A_whole (z : qK G Bs ad vn vi vt s si st hi rn bd h) {f : Int} : cQ G (d + 6) 25 [vI f] (vI (if f = 0 then WHOLEs s else if f = 1 then cnt (KNOWN s 63) else -1)) Bs ad vn vi vt s si st hi rn bd h := by
  have hx := K_x z
  have ok := (K_p z).1
  have zn := (K_n z).1.1
  refine cQ_id z (fun Q => ?_)
  have h27 := ok.1.2.2.1
  have hsh := shl_of h27.1 h27.2
  have hsb := ar_sub (a := iBin 6 1 (s 27)) (b := 1) (by omega)
  have eK := KNOWN_63 h27
  rw [hsb] at eK
  have hW := fun (K : KQ) => c_fewestWho (G := G) (d := d) (Q := K) (K_n z) ok
  have hal := fun (K : KQ) => c_allAunts (G := G) (d := d + 3) (Q := K) (K_n z) ok
  have hkn := fun (K : KQ) => c_knownTogether (G := G) (d := d + 1) (Q := K) (K_n z) ok (x := iBin 6 1 (s 27) - 1)
  rw [eK] at hkn
  have hin := knF_in (s := s) (x := 63) (fun p p0 p1 => by
    obtain ⟨-, -, -, -, -, -, n0, n1⟩ := ok.1.2.2.2.1 p p0 p1
    exact ⟨n0, n1⟩) (s 27).toNat 0 0 (by omega) (by omega) (by omega) (by omega)
  have hb := fun (K : KQ) => j_bc (G := G) (d := d + 4) (h := h) (Q := K) (x := KNOWN s 63) hin
  rw [e25]
  by_cases c : f = 0
  · rw [if_pos c]
    simp (disch := omega) only [KK, Int.reduceEq, not_false_iff, ↓reduceIte, ↓if_pos, ↓if_neg, xt_o, true_and, nlO_i, nlO_n, nlO_r, List.length_nil, List.length_cons, Nat.reduceAdd, Nat.reduceLeDiff, Nat.zero_le, U25, c, hx, zn, hW, GX12, VS11]
  · rw [if_neg c]
    by_cases c1 : f = 1
    · rw [if_pos c1]
      simp (disch := omega) only [KK, Int.reduceEq, not_false_iff, ↓reduceIte, ↓if_pos, ↓if_neg, xt_o, true_and, nlO_i, nlO_n, nlO_r, List.length_nil, List.length_cons, Nat.reduceAdd, Nat.reduceLeDiff, Nat.zero_le, U25, c1, hx, zn, hal, hkn, hb, GX12, VS11]
    · rw [if_neg c1]
      simp (disch := omega) only [KK, Int.reduceEq, not_false_iff, ↓reduceIte, ↓if_pos, ↓if_neg, xt_o, true_and, nlO_i, nlO_n, nlO_r, List.length_nil, List.length_cons, Nat.reduceAdd, Nat.reduceLeDiff, Nat.zero_le, U25]
theorem A_who (z : qK G Bs ad vn vi vt s si st hi rn bd h) : cQ G (d + 8) 29 [] (vI (WHOs s)) Bs ad vn vi vt s si st hi rn bd h := by
  have h27 := (K_p z).1.1.2.2.1
  obtain ⟨h1, f1, k1, w1⟩ := c_who_l (gb := G.1) (d := d) (K_p z) rfl (s 27).toNat h 0 0 (K_n z) (K_x z) (by omega) (by omega) (by omega) (by omega)
  refine ⟨h1, K_q0 z f1 (by omega), qFr_wk f1 (fun _ q => q.elim), by omega, by omega, fun Q => ?_⟩
  unfold WHOs
  rw [← w1 Q, e29]
  simp only [KK, Int.reduceEq, not_false_iff, ↓reduceIte, ↓if_pos, ↓if_neg, xt_o, true_and, nlO_i, nlO_n, nlO_r, List.length_nil, List.length_cons, Nat.reduceAdd, Nat.reduceLeDiff, Nat.zero_le, U29]
end K3
