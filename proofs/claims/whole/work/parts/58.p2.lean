/-! the class's fewest: HUSH, WHOLE -/
theorem FEW_cg {P P' : Int → Prop} [DecidablePred P] [DecidablePred P'] {no : Int} : ∀ (n : Nat) (k b : Int), (∀ j, k ≤ j → j < k + n → (P j ↔ P' j)) → FEW P no n k b = FEW P' no n k b
  | 0, _, _, _ => rfl
  | n + 1, k, b, h => by
    have e := h k (Int.le_refl _) (by omega)
    rw [FEW, FEW, FEW_cg n (k + 1) _ (fun j j0 j1 => h j (by omega) (by omega))]
    by_cases c : P k ∧ (b = no ∨ cnt k < cnt b)
    · rw [if_pos c, if_pos ⟨e.mp c.1, c.2⟩]
    · rw [if_neg c, if_neg (fun q => c ⟨e.mpr q.1, q.2⟩)]
theorem FEW_no {P : Int → Prop} [DecidablePred P] {no no' : Int} (h0 : no < 0) (h1 : no' < 0) : ∀ (n : Nat) (k b b' : Int), 0 ≤ k → ((b = no ∧ b' = no') ∨ (b = b' ∧ 0 ≤ b)) → ((b = b' ∧ 0 ≤ b) ∨ ∃ j, k ≤ j ∧ j < k + n ∧ P j) → FEW P no n k b = FEW P no' n k b'
  | 0, k, b, b', k0, hb, hx => by
    rcases hx with hx | ⟨j, j0, j1, -⟩
    · exact hx.1
    · omega
  | n + 1, k, b, b', k0, hb, hx => by
    rw [FEW, FEW]
    by_cases c : P k
    · by_cases cb : b = no
      · have cb' : b' = no' := by rcases hb with hb | hb <;> omega
        rw [if_pos ⟨c, Or.inl cb⟩, if_pos ⟨c, Or.inl cb'⟩]
        exact FEW_no h0 h1 n (k + 1) k k (by omega) (Or.inr ⟨rfl, k0⟩) (Or.inl ⟨rfl, k0⟩)
      · have cb' : b = b' ∧ 0 ≤ b := by rcases hb with hb | hb; exact absurd hb.1 cb; exact hb
        obtain ⟨e, hb0⟩ := cb'
        subst e
        by_cases cc : cnt k < cnt b
        · rw [if_pos ⟨c, Or.inr cc⟩, if_pos ⟨c, Or.inr cc⟩]
          exact FEW_no h0 h1 n (k + 1) k k (by omega) (Or.inr ⟨rfl, k0⟩) (Or.inl ⟨rfl, k0⟩)
        · rw [if_neg (fun q => q.2.elim cb cc), if_neg (fun q => q.2.elim (fun e => by omega) cc)]
          exact FEW_no h0 h1 n (k + 1) b b (by omega) (Or.inr ⟨rfl, hb0⟩) (Or.inl ⟨rfl, hb0⟩)
    · rw [if_neg (fun q => c q.1), if_neg (fun q => c q.1)]
      refine FEW_no h0 h1 n (k + 1) b b' (by omega) hb (hx.imp id ?_)
      rintro ⟨j, j0, j1, hj⟩
      by_cases e : j = k
      · subst e; exact absurd hj c
      · exact ⟨j, by omega, by omega, hj⟩
theorem FEW_in {P : Int → Prop} [DecidablePred P] {no : Int} : ∀ (n : Nat) (k b : Int), 0 ≤ k → (b = no ∨ (0 ≤ b ∧ b < k)) → FEW P no n k b = no ∨ (0 ≤ FEW P no n k b ∧ FEW P no n k b < k + n)
  | 0, k, b, k0, hb => by rw [FEW]; omega
  | n + 1, k, b, k0, hb => by
    rw [FEW]
    have := FEW_in (P := P) (no := no) n (k + 1) (if P k ∧ (b = no ∨ cnt k < cnt b) then k else b) (by omega) (by split <;> omega)
    omega
abbrev knP (s : Int → Int) (set : Int) : Prop := KNOWN s set = KNOWN s 63
def WHOLEs (s : Int → Int) : Int := FEW (knP s) (-1) (iBin 6 1 (s 27)).toNat 0 (-1)
theorem knF_in {s : Int → Int} {x : Int} (hk : ∀ p, 0 ≤ p → p < s 27 → 0 ≤ s (55 + p) ∧ s (55 + p) ≤ 255) : ∀ (n : Nat) (i a : Int), 0 ≤ i → i + n = s 27 → 0 ≤ a → a ≤ 255 → 0 ≤ knF s x n i a ∧ knF s x n i a ≤ 255
  | 0, _, _, _, _, a0, a1 => ⟨a0, a1⟩
  | n + 1, i, a, i0, hi, a0, a1 => by
    have h := hk i i0 (by omega)
    have h2 : 0 ≤ (if bt x i = 1 then s (55 + i) else 0) ∧ (if bt x i = 1 then s (55 + i) else 0) ≤ 255 := by split <;> omega
    have h3 := or_in a0 a1 h2.1 h2.2
    rw [knF]
    exact knF_in hk n (i + 1) _ (by omega) (by omega) h3.1 h3.2
theorem knF_cg {s : Int → Int} {x y : Int} : ∀ (n : Nat) (i a : Int), (∀ k, i ≤ k → k < i + n → (bt x k = 1 ↔ bt y k = 1)) → knF s x n i a = knF s y n i a
  | 0, _, _, _ => rfl
  | n + 1, i, a, h => by
    have e := h i (Int.le_refl _) (by omega)
    rw [knF, knF]
    by_cases c : bt x i = 1
    · rw [if_pos c, if_pos (e.mp c)]
      exact knF_cg n (i + 1) _ (fun k k0 k1 => h k (by omega) (by omega))
    · rw [if_neg c, if_neg (fun q => c (e.mpr q))]
      exact knF_cg n (i + 1) _ (fun k k0 k1 => h k (by omega) (by omega))
theorem all_bt {n k : Int} (h0 : 0 ≤ n) (h1 : n ≤ 6) (k0 : 0 ≤ k) (k1 : k < n) : bt (iBin 1 (iBin 6 1 n) 1) k = 1 ∧ bt 63 k = 1 := by
  rcases (show n = 0 ∨ n = 1 ∨ n = 2 ∨ n = 3 ∨ n = 4 ∨ n = 5 ∨ n = 6 by omega) with e | e | e | e | e | e | e <;> subst e <;> rcases (show k = 0 ∨ k = 1 ∨ k = 2 ∨ k = 3 ∨ k = 4 ∨ k = 5 by omega) with f | f | f | f | f | f <;> subst f <;> first | omega | decide
theorem KNOWN_63 {s : Int → Int} (h27 : 0 ≤ s 27 ∧ s 27 ≤ 6) : KNOWN s (iBin 1 (iBin 6 1 (s 27)) 1) = KNOWN s 63 := knF_cg _ 0 0 (fun k k0 k1 => by
  have := all_bt h27.1 h27.2 k0 (by omega)
  rw [this.1, this.2])
section P2
variable {G : MG} {d : Nat} {Q : KQ} {gb : Nat} {Bs : Nat → Prop} {ad : Int → Nat} {b : Int} {w lo : Nat} {vd : Int → Nat} {s : Int → Int} {h : MH}
theorem c_allAunts (z : qW G Bs ad b w vd s h) (ok : okW s) : wpC G (d + 2) 62 [vR w] h Q = Q (some (vI (iBin 6 1 (s 27) - 1))) h := by
  have h27 := ok.1.2.2.1
  have hsh := shl_of h27.1 h27.2
  have z1 := z.1.1
  have hsz := fun (K : KQ) => ll_size (G := G) (d := d) (Q := K) z.2.1
  have htg := fun (K : Nat → Prop) => ll_tag z.2.1 (K := K)
  have hsb := ar_sub (a := iBin 6 1 (s 27)) (b := 1) (by omega)
  rw [e62]
  simp (disch := omega) only [KK, Int.reduceEq, not_false_iff, ↓reduceIte, ↓if_pos, ↓if_neg, xt_o, true_and, nlO_i, nlO_n, nlO_r, List.length_nil, List.length_cons, Nat.reduceAdd, Nat.reduceLeDiff, Nat.zero_le, U62, z1, hsz, htg, hsb, GX11, VS0]
theorem c_isFewer {k c : Int} (hk : 0 ≤ k ∧ k ≤ 255) (hc : c = -5 ∨ (0 ≤ c ∧ c ≤ 255)) : wpC G (d + 2) 67 [vI k, vI c] h Q = Q (some (vI (if c = -5 ∨ cnt k < cnt c then 1 else 0))) h := by
  have h1 := fun (K : KQ) => j_bc (G := G) (d := d) (h := h) (Q := K) (x := k) hk
  rw [e67]
  by_cases e : c = -5
  · rw [if_pos (Or.inl e)]
    simp (disch := omega) only [KK, Int.reduceEq, not_false_iff, ↓reduceIte, ↓if_pos, ↓if_neg, xt_o, true_and, nlO_i, nlO_n, nlO_r, List.length_nil, List.length_cons, Nat.reduceAdd, Nat.reduceLeDiff, Nat.zero_le, U67, e, true_or, or_true]
  · have h2 := fun (K : KQ) => j_bc (G := G) (d := d) (h := h) (Q := K) (x := c) (hc.resolve_left e)
    by_cases e2 : cnt k < cnt c
    · rw [if_pos (Or.inr e2)]
      simp (disch := omega) only [KK, Int.reduceEq, not_false_iff, ↓reduceIte, ↓if_pos, ↓if_neg, xt_o, true_and, nlO_i, nlO_n, nlO_r, List.length_nil, List.length_cons, Nat.reduceAdd, Nat.reduceLeDiff, Nat.zero_le, U67, h1, h2, true_or, or_true]
    · rw [if_neg (fun q => q.elim e e2)]
      simp (disch := omega) only [KK, Int.reduceEq, not_false_iff, ↓reduceIte, ↓if_pos, ↓if_neg, xt_o, true_and, nlO_i, nlO_n, nlO_r, List.length_nil, List.length_cons, Nat.reduceAdd, Nat.reduceLeDiff, Nat.zero_le, U67, h1, h2, true_or, or_true]
theorem hab_of (ok : okW s) {x : Int} (x0 : 0 ≤ x) (x1 : x < 64) : ∀ k, 0 ≤ k → k < s 27 → bt (iBin 4 (AWAYS s) x) k = seF x (s 27).toNat 0 s (21 + k) := fun k k0 k1 => by
  have h27 := ok.1.2.2.1
  have ha := AWAYS_bt ok.2.2.2.2.1 h27
  rw [(aor_of ha.1.1 ha.1.2 x0 x1).2 k k0 (by omega), seF_at _ 0 s k k0 (by omega), ha.2 k k0 (by omega), if_pos k1]
theorem c_hush_l (A : qAD ad lo) (hlo : w + 22 ≤ lo) (ok : okW s) {f : Int} : ∀ (n : Nat) (h : MH) (k c : Int), qW G Bs ad b w vd s h → (c = -5 ∨ (0 ≤ c ∧ c < 64)) → 0 ≤ k → k + n = iBin 6 1 (s 27) → ∃ h' : MH, qW G Bs ad b w vd s h' ∧ qFr gb Bs (fun q => q = w + 21) h h' ∧ (h'.1 = h.1 ∧ h'.2.1 = h.2.1) ∧ ∀ Q : KQ, wp G (d + 7) 66 5 [some (vR w), some (vI f), some (vI c), some (vI k)] [] h Q = Q (some (vI (FEW (huP s f) (-5) n k c))) h' := by
  have h27 := ok.1.2.2.1
  have hsh := shl_of h27.1 h27.2
  intro n
  induction n with
  | zero =>
    intro h k c z hc k0 kn
    refine ⟨h, z, qFr_rf, ⟨rfl, rfl⟩, fun Q => ?_⟩
    have hal := fun (K : KQ) => c_allAunts (G := G) (d := d + 5) (Q := K) z ok
    have z1 := z.1.1
    rw [FEW, u66_5]
    simp (disch := omega) only [KK, Int.reduceEq, not_false_iff, ↓reduceIte, ↓if_pos, ↓if_neg, xt_o, true_and, nlO_i, nlO_n, nlO_r, List.length_nil, List.length_cons, Nat.reduceAdd, Nat.reduceLeDiff, Nat.zero_le, U66, z1, hal, VS11]
  | succ n ih =>
    intro h k c z hc k0 kn
    have hal := fun (K : KQ) => c_allAunts (G := G) (d := d + 5) (Q := K) z ok
    have hfw := fun (K : KQ) => c_isFewer (G := G) (d := d + 5) (h := h) (Q := K) (k := k) (c := c) (by omega) (by omega)
    have z1 := z.1.1
    rw [FEW]
    by_cases cf : c = -5 ∨ cnt k < cnt c
    · have hfw1 := fun (K : KQ) => (hfw K).trans (by rw [if_pos cf])
      have eV := seF_V (x := k) (n := (s 27).toNat) (s := s) (by omega)
      have ok2 := okW_V eV (seF_01 ok.2.2.2.2.1) ok
      obtain ⟨h1, pl, bk, r1, r2, r3, r4, r5, r6⟩ := c_climbs (d := d) A hlo z ok ok2 (fun i hi => eV i (by omega)) (ab := iBin 4 (AWAYS s) k) (way := 0) (u := 1) (hd := 0) rfl (hab_of ok k0 (by omega)) (by omega)
      by_cases cp : huP s f k
      · have cp' : iBin 3 (iBin 7 (CLIMB (seF k (s 27).toNat 0 s) 0 0).1 f) 1 = 0 := cp
        rw [if_pos ⟨cp, cf⟩]
        obtain ⟨h2, i1, i2, i3, i4⟩ := ih h1 (k + 1) k r5 (Or.inr ⟨k0, by omega⟩) (by omega) (by omega)
        refine ⟨h2, i1, qFr_tr r3 i2, ⟨i3.1.trans r4.1, i3.2.trans r4.2⟩, fun Q => ?_⟩
        rw [← i4 Q, u66_5]
        simp (disch := omega) only [KK, Int.reduceEq, not_false_iff, ↓reduceIte, ↓if_pos, ↓if_neg, xt_o, true_and, nlO_i, nlO_n, nlO_r, List.length_nil, List.length_cons, Nat.reduceAdd, Nat.reduceLeDiff, Nat.zero_le, U66, z1, hal, hfw1, r6, r1, cp', GX11, GX1, VS11, ar_add (a := k)]
      · have cp' : ¬ iBin 3 (iBin 7 (CLIMB (seF k (s 27).toNat 0 s) 0 0).1 f) 1 = 0 := cp
        rw [if_neg (fun q => cp q.1)]
        obtain ⟨h2, i1, i2, i3, i4⟩ := ih h1 (k + 1) c r5 hc (by omega) (by omega)
        refine ⟨h2, i1, qFr_tr r3 i2, ⟨i3.1.trans r4.1, i3.2.trans r4.2⟩, fun Q => ?_⟩
        rw [← i4 Q, u66_5]
        simp (disch := omega) only [KK, Int.reduceEq, not_false_iff, ↓reduceIte, ↓if_pos, ↓if_neg, xt_o, true_and, nlO_i, nlO_n, nlO_r, List.length_nil, List.length_cons, Nat.reduceAdd, Nat.reduceLeDiff, Nat.zero_le, U66, z1, hal, hfw1, r6, r1, cp', GX11, GX1, VS11, ar_add (a := k)]
    · have hfw1 := fun (K : KQ) => (hfw K).trans (by rw [if_neg cf])
      rw [if_neg (fun q => cf q.2)]
      obtain ⟨h2, i1, i2, i3, i4⟩ := ih h (k + 1) c z hc (by omega) (by omega)
      refine ⟨h2, i1, i2, i3, fun Q => ?_⟩
      rw [← i4 Q, u66_5]
      simp (disch := omega) only [KK, Int.reduceEq, not_false_iff, ↓reduceIte, ↓if_pos, ↓if_neg, xt_o, true_and, nlO_i, nlO_n, nlO_r, List.length_nil, List.length_cons, Nat.reduceAdd, Nat.reduceLeDiff, Nat.zero_le, U66, z1, hal, hfw1, GX11, VS11, ar_add (a := k)]
theorem c_fewestToHush (A : qAD ad lo) (hlo : w + 22 ≤ lo) (ok : okW s) (z : qW G Bs ad b w vd s h) {f : Int} : ∃ h' : MH, qW G Bs ad b w vd s h' ∧ qFr gb Bs (fun q => q = w + 21) h h' ∧ (h'.1 = h.1 ∧ h'.2.1 = h.2.1) ∧ ∀ Q : KQ, wpC G (d + 8) 66 [vR w, vI f] h Q = Q (some (vI (HUSH s f))) h' := by
  have h27 := ok.1.2.2.1
  have hsh := shl_of h27.1 h27.2
  obtain ⟨h', r1, r2, r3, r4⟩ := c_hush_l (d := d) A hlo ok (f := f) (iBin 6 1 (s 27)).toNat h 0 (-5) z (Or.inl rfl) (by omega) (by omega)
  refine ⟨h', r1, r2, r3, fun Q => ?_⟩
  unfold HUSH
  rw [← r4 Q, e66]
  simp only [KK, Int.reduceEq, not_false_iff, ↓reduceIte, ↓if_pos, ↓if_neg, xt_o, true_and, nlO_i, nlO_n, nlO_r, List.length_nil, List.length_cons, Nat.reduceAdd, Nat.reduceLeDiff, Nat.zero_le, U66]
theorem c_known_l (z : qW G Bs ad b w vd s h) (ok : okW s) {x : Int} : ∀ (n : Nat) (i a : Int), 0 ≤ i → i + n = s 27 → 0 ≤ a → a ≤ 255 → wp G (d + 3) 69 4 [some (vR w), some (vI x), some (vI a), some (vI i)] [] h Q = Q (some (vI (knF s x n i a))) h := by
  have h27 := ok.1.2.2.1
  have z1 := z.1.1
  have hsz := fun (K : KQ) => ll_size (G := G) (d := d + 2) (Q := K) z.2.1
  have htg := fun (K : Nat → Prop) => ll_tag z.2.1 (K := K)
  intro n
  induction n with
  | zero =>
    intro i a i0 hi a0 a1
    rw [knF, u69_4]
    simp (disch := omega) only [KK, Int.reduceEq, not_false_iff, ↓reduceIte, ↓if_pos, ↓if_neg, xt_o, true_and, nlO_i, nlO_n, nlO_r, List.length_nil, List.length_cons, Nat.reduceAdd, Nat.reduceLeDiff, Nat.zero_le, U69, z1, hsz, htg, GX11, VS0]
  | succ n ih =>
    intro i a i0 hi a0 a1
    have hgt := fun (K : KQ) => ll_get (G := G) (d := d) (Q := K) z.2.1 (i := i) ⟨i0, by omega⟩
    have hA := z.2.2.2.2.1 i i0 (by omega)
    have hk7 := okW_k ok i i0 (by omega)
    have hau := hA.1
    have oA := ok.1.2.2.2.1 i i0 (by omega)
    obtain ⟨-, -, -, -, -, -, n0, n1⟩ := oA
    have hAC := fun (pc : Nat) (L : Loc') (st : List V) => AC (G := G) (d := d + 3) (h := h) (Q := Q) (a := ad (b + i)) (r := ad (b + i) + 1) (k := s (43 + i)) (p := i) (v := s (49 + i)) (kn := s (55 + i)) (y := 69) (pc := pc) (L := L) (st := st) hk7
    have hG2 := fun (K : V → Prop) => AG2 (K := K) (r := ad (b + i) + 1) (k := s (43 + i)) (p := i) (v := s (49 + i)) (kn := s (55 + i)) hk7
    by_cases e : bt x i = 1
    · have h3 := or_in a0 a1 n0 n1
      rw [knF, if_pos e, ← ih (i + 1) _ (by omega) (by omega) h3.1 h3.2, u69_4]
      unfold bt at e
      simp (disch := omega) only [KK, Int.reduceEq, not_false_iff, ↓reduceIte, ↓if_pos, ↓if_neg, xt_o, true_and, nlO_i, nlO_n, nlO_r, List.length_nil, List.length_cons, Nat.reduceAdd, Nat.reduceLeDiff, Nat.zero_le, U69, z1, hsz, htg, hgt, hau, hAC, hG2, e, GX11, VS0, ar_add (a := i)]
    · have e0 : iBin 4 a 0 = a := (bit_of a0 (by omega)).2.2.2.2.1
      rw [knF, if_neg e, e0, ← ih (i + 1) _ (by omega) (by omega) a0 a1, u69_4]
      unfold bt at e
      simp (disch := omega) only [KK, Int.reduceEq, not_false_iff, ↓reduceIte, ↓if_pos, ↓if_neg, xt_o, true_and, nlO_i, nlO_n, nlO_r, List.length_nil, List.length_cons, Nat.reduceAdd, Nat.reduceLeDiff, Nat.zero_le, U69, z1, hsz, htg, e, GX11, VS0, ar_add (a := i)]
theorem c_knownTogether (z : qW G Bs ad b w vd s h) (ok : okW s) {x : Int} : wpC G (d + 4) 69 [vR w, vI x] h Q = Q (some (vI (KNOWN s x))) h := by
  have h27 := ok.1.2.2.1
  unfold KNOWN
  rw [e69, ← c_known_l (G := G) (d := d) (Q := Q) z ok (x := x) (s 27).toNat 0 0 (by omega) (by omega) (by omega) (by omega)]
  simp only [KK, Int.reduceEq, not_false_iff, ↓reduceIte, ↓if_pos, ↓if_neg, xt_o, true_and, nlO_i, nlO_n, nlO_r, List.length_nil, List.length_cons, Nat.reduceAdd, Nat.reduceLeDiff, Nat.zero_le, U69]
theorem c_whole_l (z : qW G Bs ad b w vd s h) (ok : okW s) : ∀ (n : Nat) (k c : Int), (c = -5 ∨ (0 ≤ c ∧ c < 64)) → 0 ≤ k → k + n = iBin 6 1 (s 27) → wp G (d + 4) 68 14 [some (vR w), some (vI (KNOWN s 63)), some (vI c), some (vI k)] [] h Q = Q (some (vI (FEW (knP s) (-5) n k c))) h := by
  have h27 := ok.1.2.2.1
  have hsh := shl_of h27.1 h27.2
  have hal := fun (K : KQ) => c_allAunts (G := G) (d := d + 2) (Q := K) z ok
  have hkn := fun (x : Int) (K : KQ) => c_knownTogether (G := G) (d := d) (Q := K) z ok (x := x)
  have z1 := z.1.1
  intro n
  induction n with
  | zero =>
    intro k c hc k0 kn
    rw [FEW, u68_14]
    simp (disch := omega) only [KK, Int.reduceEq, not_false_iff, ↓reduceIte, ↓if_pos, ↓if_neg, xt_o, true_and, nlO_i, nlO_n, nlO_r, List.length_nil, List.length_cons, Nat.reduceAdd, Nat.reduceLeDiff, Nat.zero_le, U68, z1, hal, VS11]
  | succ n ih =>
    intro k c hc k0 kn
    have hfw := fun (K : KQ) => c_isFewer (G := G) (d := d + 2) (h := h) (Q := K) (k := k) (c := c) (by omega) (by omega)
    by_cases cf : c = -5 ∨ cnt k < cnt c
    · have hfw1 := fun (K : KQ) => (hfw K).trans (by rw [if_pos cf])
      by_cases cp : knP s k
      · have cp' : KNOWN s k = KNOWN s 63 := cp
        rw [FEW, if_pos ⟨cp, cf⟩, ← ih (k + 1) k (Or.inr ⟨k0, by omega⟩) (by omega) (by omega), u68_14]
        simp (disch := omega) only [KK, Int.reduceEq, not_false_iff, ↓reduceIte, ↓if_pos, ↓if_neg, xt_o, true_and, nlO_i, nlO_n, nlO_r, List.length_nil, List.length_cons, Nat.reduceAdd, Nat.reduceLeDiff, Nat.zero_le, U68, z1, hal, hfw1, hkn, cp', VS11, ar_add (a := k)]
      · have cp' : ¬ KNOWN s k = KNOWN s 63 := cp
        rw [FEW, if_neg (fun q => cp q.1), ← ih (k + 1) c hc (by omega) (by omega), u68_14]
        simp (disch := omega) only [KK, Int.reduceEq, not_false_iff, ↓reduceIte, ↓if_pos, ↓if_neg, xt_o, true_and, nlO_i, nlO_n, nlO_r, List.length_nil, List.length_cons, Nat.reduceAdd, Nat.reduceLeDiff, Nat.zero_le, U68, z1, hal, hfw1, hkn, cp', VS11, ar_add (a := k)]
    · have hfw1 := fun (K : KQ) => (hfw K).trans (by rw [if_neg cf])
      rw [FEW, if_neg (fun q => cf q.2), ← ih (k + 1) c hc (by omega) (by omega), u68_14]
      simp (disch := omega) only [KK, Int.reduceEq, not_false_iff, ↓reduceIte, ↓if_pos, ↓if_neg, xt_o, true_and, nlO_i, nlO_n, nlO_r, List.length_nil, List.length_cons, Nat.reduceAdd, Nat.reduceLeDiff, Nat.zero_le, U68, z1, hal, hfw1, VS11, ar_add (a := k)]
theorem c_fewestWho (z : qW G Bs ad b w vd s h) (ok : okW s) : wpC G (d + 5) 68 [vR w] h Q = Q (some (vI (WHOLEs s))) h := by
  have h27 := ok.1.2.2.1
  have hsh := shl_of h27.1 h27.2
  have hal := fun (K : KQ) => c_allAunts (G := G) (d := d + 2) (Q := K) z ok
  have hkn := fun (x : Int) (K : KQ) => c_knownTogether (G := G) (d := d) (Q := K) z ok (x := x)
  have z1 := z.1.1
  have hsb := ar_sub (a := iBin 6 1 (s 27)) (b := 1) (by omega)
  have eK := KNOWN_63 h27
  rw [hsb] at eK
  have eW : WHOLEs s = FEW (knP s) (-5) (iBin 6 1 (s 27)).toNat 0 (-5) := FEW_no (by omega) (by omega) _ 0 (-1) (-5) (by omega) (Or.inl ⟨rfl, rfl⟩) (Or.inr ⟨iBin 6 1 (s 27) - 1, by omega, by omega, eK⟩)
  rw [eW, ← c_whole_l (G := G) (d := d) (Q := Q) z ok (iBin 6 1 (s 27)).toNat 0 (-5) (Or.inl rfl) (by omega) (by omega), e68]
  simp (disch := omega) only [KK, Int.reduceEq, not_false_iff, ↓reduceIte, ↓if_pos, ↓if_neg, xt_o, true_and, nlO_i, nlO_n, nlO_r, List.length_nil, List.length_cons, Nat.reduceAdd, Nat.reduceLeDiff, Nat.zero_le, U68, z1, hal, hkn, eK, VS11]
end P2
