/-! order of the class -/
def q8 (m : Nat) : Int := (8 ^ m : Nat)
theorem q8_s {m : Nat} : q8 (m + 1) = 8 * q8 m := by
  unfold q8
  rw [Nat.pow_succ]
  omega
theorem q8_1 {m : Nat} : 1 ≤ q8 m := by
  have := Nat.pow_pos (n := m) (show 0 < 8 by omega)
  unfold q8
  omega
theorem p8_q {m : Nat} {od : Int} (hm : m ≤ 6) (o0 : 0 ≤ od) (h : od < p8 m) : (od + 1) * q8 m ≤ 262144 ∧ 0 ≤ od * q8 m := by
  rcases (show m = 0 ∨ m = 1 ∨ m = 2 ∨ m = 3 ∨ m = 4 ∨ m = 5 ∨ m = 6 by omega) with e | e | e | e | e | e | e <;> subst e
  · have e1 : p8 0 = 262144 := rfl
    have e2 : q8 0 = 1 := rfl
    rw [e2]; omega
  · have e1 : p8 1 = 32768 := rfl
    have e2 : q8 1 = 8 := rfl
    rw [e2]; omega
  · have e1 : p8 2 = 4096 := rfl
    have e2 : q8 2 = 64 := rfl
    rw [e2]; omega
  · have e1 : p8 3 = 512 := rfl
    have e2 : q8 3 = 512 := rfl
    rw [e2]; omega
  · have e1 : p8 4 = 64 := rfl
    have e2 : q8 4 = 4096 := rfl
    rw [e2]; omega
  · have e1 : p8 5 = 8 := rfl
    have e2 : q8 5 = 32768 := rfl
    rw [e2]; omega
  · have e1 : p8 6 = 1 := rfl
    have e2 : q8 6 = 262144 := rfl
    rw [e2]; omega
/-- an order's number is kept between lo and hi -/
def orI (lo hi v : Int) : Prop := v = -1 ∨ ∃ hd o k : Int, (0 ≤ hd ∧ hd ≤ 255) ∧ (0 ≤ k ∧ k ≤ 99) ∧ (lo ≤ o ∧ o < hi) ∧ v = lfO o hd k
theorem orI_mo {lo hi lo' hi' v : Int} (h : lo' ≤ lo ∧ hi ≤ hi') (z : orI lo hi v) : orI lo' hi' v := by
  rcases z with z | ⟨hd, o, k, z1, z2, z3, z4⟩
  · exact Or.inl z
  · exact Or.inr ⟨hd, o, k, z1, z2, by omega, z4⟩
theorem orI_max {lo hi v v' : Int} (z : orI lo hi v) (z' : orI lo hi v') : orI lo hi (max v v') := by
  rw [Int.max_def]
  split
  · exact z'
  · exact z
theorem orI_in {lo hi v : Int} (h : 0 ≤ lo ∧ hi ≤ 262144) (z : orI lo hi v) : v = -1 ∨ (0 ≤ v ∧ v < 2147483648) := by
  rcases z with z | ⟨hd, o, k, z1, z2, z3, z4⟩
  · exact Or.inl z
  · have := cn8 z1.1 z1.2
    unfold lfO at z4
    omega
theorem q8_i {m : Nat} {od i : Int} (o0 : 0 ≤ od) (i0 : 0 ≤ i) (i1 : i < 8) : od * q8 (m + 1) ≤ (od * 8 + i) * q8 m ∧ (od * 8 + i + 1) * q8 m ≤ (od + 1) * q8 (m + 1) := by
  have hP := q8_1 (m := m)
  rw [q8_s]
  generalize q8 m = P at hP
  have e0 : od * (8 * P) = 8 * (od * P) := Int.mul_left_comm _ _ _
  have e1 : (od * 8 + i) * P = 8 * (od * P) + i * P := by
    rw [Int.add_mul, Int.mul_assoc, e0]
  have e2 : (od * 8 + i + 1) * P = 8 * (od * P) + (i + 1) * P := by
    rw [Int.add_assoc, Int.add_mul, Int.mul_assoc, e0]
  have e3 : (od + 1) * (8 * P) = 8 * (od * P) + 8 * P := by
    rw [Int.add_mul, e0, Int.one_mul]
  have h1 : 0 ≤ i * P := Int.mul_nonneg i0 (by omega)
  have h2 : (i + 1) * P ≤ 8 * P := Int.mul_le_mul_of_nonneg_right (by omega) (by omega)
  rw [e0, e1, e2, e3]
  omega
theorem oF_in {s : Int → Int} (ok : okW s) : ∀ (m : Nat) (us od hd sk : Int), m ≤ 6 → 0 ≤ od → od < p8 m → 0 ≤ hd → hd ≤ 255 → 0 ≤ sk → sk ≤ 99 → orI (od * q8 m) ((od + 1) * q8 m) (oF s m us od hd sk) := by
  have o27 := ok.1.2.2.1
  have NV := NERVE_le ok
  intro m
  induction m with
  | zero =>
    intro us od hd sk hm o0 o1 h0 h1 k0 k1
    have e2 : q8 0 = 1 := rfl
    exact Or.inr ⟨hd, od, sk, ⟨h0, h1⟩, ⟨k0, k1⟩, by rw [e2]; omega, rfl⟩
  | succ m ih =>
    intro us od hd sk hm o0 o1 h0 h1 k0 k1
    have hp8 := p8_s hm
    have loop : ∀ (n : Nat) (i b : Int), 0 ≤ i → i + n = s 27 → orI (od * q8 (m + 1)) ((od + 1) * q8 (m + 1)) b → orI (od * q8 (m + 1)) ((od + 1) * q8 (m + 1)) (oLp s (oF s m) us od hd sk n i b) := by
      intro n
      induction n with
      | zero => intro i b i0 hi hb; exact hb
      | succ n ihn =>
        intro i b i0 hi hb
        rw [oLp]
        refine ihn (i + 1) _ (by omega) (by omega) ?_
        split
        · exact hb
        · rename_i c
          have hsa := saO_in ok (hd := hd) i0 (show i < s 27 by omega)
          have hwg := WGT_le (x := saO s i hd) ok
          have hor := or_in h0 h1 hsa.1 hsa.2
          have hk : ¬ NERVE s < sk + WGT s (saO s i hd) := fun q => c (Or.inr q)
          exact orI_max hb (orI_mo (q8_i o0 i0 (by omega)) (ih _ (od * 8 + i) _ _ (by omega) (by omega) (by omega) hor.1 hor.2 (by omega) (by omega)))
    rw [oF]
    exact loop _ 0 (-1) (by omega) (by omega) (Or.inl rfl)
theorem uz_0 {n : Nat} (h : n ≤ 6) : uz 0 n = n := by
  rcases (show n = 0 ∨ n = 1 ∨ n = 2 ∨ n = 3 ∨ n = 4 ∨ n = 5 ∨ n = 6 by omega) with e | e | e | e | e | e | e <;> subst e <;> decide
def vORD (s : Int → Int) (kn : Int) : Int := oF s (s 27).toNat 0 0 kn 0
def aORD (s : Int → Int) (kn what : Int) : Int := if what = 0 ∨ what = 1 ∨ (10 ≤ what ∧ what < 16) then (if 0 ≤ kn ∧ kn ≤ 255 then (if vORD s kn = -1 then -5 else if what = 0 then vORD s kn / 33554432 else if what = 1 then 127 - vORD s kn / 262144 % 128 else if what - 10 < s 27 then (262143 - vORD s kn % 262144) / q8 (s 27 - 1 - (what - 10)).toNat % 8 else -5) else -2) else -1
theorem p8_0 {n : Nat} (h : n ≤ 6) : 0 < p8 n := by
  rcases (show n = 0 ∨ n = 1 ∨ n = 2 ∨ n = 3 ∨ n = 4 ∨ n = 5 ∨ n = 6 by omega) with e | e | e | e | e | e | e <;> subst e <;> decide
theorem vORD_in {s : Int → Int} (ok : okW s) {kn : Int} (h : 0 ≤ kn ∧ kn ≤ 255) : orI 0 262144 (vORD s kn) ∧ (vORD s kn = -1 ∨ (0 ≤ vORD s kn ∧ vORD s kn < 2147483648)) := by
  have o27 := ok.1.2.2.1
  have h1 := oF_in ok (s 27).toNat 0 0 kn 0 (by omega) (by omega) (p8_0 (by omega)) h.1 h.2 (by omega) (by omega)
  have h2 := p8_q (m := (s 27).toNat) (od := 0) (by omega) (by omega) (p8_0 (by omega))
  have h3 : orI 0 262144 (vORD s kn) := orI_mo ⟨h2.2, h2.1⟩ h1
  exact ⟨h3, orI_in (by omega) h3⟩
section V5
variable {G : MG} {d : Nat} {Q : KQ} {Bs X : Nat → Prop} {ad : Int → Nat} {vn vi vt : Int → Nat} {s si st bd : Int → Int} {hi rn : Int} {h h' : MH}
theorem c_aio {v j : Int} (v0 : 0 ≤ v) (v1 : v < 2147483648) (j0 : 0 ≤ j) (j1 : j < 6) : wpC G (d + 1) 63 [vI v, vI j] h Q = Q (some (vI ((262143 - v % 262144) / q8 j.toNat % 8))) h := by
  have e1 := qand (a := v) (b := 262143) (k := 18) (by omega) (by decide) v0 v1
  have e2 := ar_sub (a := 262143) (b := v % (2 ^ 18 : Nat)) (by omega)
  have e3 := qshr (a := 262143 - v % (2 ^ 18 : Nat)) (b := iBin 2 3 j) (k := 3 * j.toNat) (by
    rcases (show j = 0 ∨ j = 1 ∨ j = 2 ∨ j = 3 ∨ j = 4 ∨ j = 5 by omega) with e | e | e | e | e | e <;> subst e <;> decide) (by omega) (by omega) (by omega)
  have e5 : ((2 ^ (3 * j.toNat) : Nat) : Int) = q8 j.toNat := by
    rw [Nat.pow_mul]; rfl
  have hq := q8_1 (m := j.toNat)
  rw [e5] at e3
  have e6 : (0 : Int) ≤ (262143 - v % (2 ^ 18 : Nat)) / q8 j.toNat := Int.ediv_nonneg (by omega) (by omega)
  have e7 : (262143 - v % (2 ^ 18 : Nat)) / q8 j.toNat ≤ 262143 - v % (2 ^ 18 : Nat) := Int.ediv_le_self _ (by omega)
  have e4 := qand (a := (262143 - v % (2 ^ 18 : Nat)) / q8 j.toNat) (b := 7) (k := 3) (by omega) (by decide) e6 (by omega)
  rw [e63]
  simp (disch := omega) only [KK, Int.reduceEq, not_false_iff, ↓reduceIte, ↓if_pos, ↓if_neg, xt_o, true_and, nlO_i, nlO_n, nlO_r, List.length_nil, List.length_cons, Nat.reduceAdd, Nat.reduceLeDiff, Nat.zero_le, U63, e1, e2, e3, e4]
  rfl
theorem A_order (z : qK G Bs ad vn vi vt s si st hi rn bd h) {kn what : Int} (hw : what < 2147483648) : cQ G (d + 17) 23 [vI kn, vI what] (vI (aORD s kn what)) Bs ad vn vi vt s si st hi rn bd h := by
  have hx := K_x z
  have zn := (K_n z).1.1
  have ok := (K_p z).1
  have o27 := ok.1.2.2.1
  have hF := fun (K : KQ) => c_areFacts (G := G) (d := d + 15) (h := h) (Q := K) (f := kn)
  have hsz := fun (K : KQ) => ll_size (G := G) (d := d + 15) (Q := K) (K_n z).2.1
  have htg := fun (K : Nat → Prop) => ll_tag (K_n z).2.1 (K := K)
  obtain ⟨oa, hoa⟩ : ∃ oa : Int, oa = if 10 ≤ what ∧ what < 16 then 1 else 0 := ⟨_, rfl⟩
  have k1 : ∀ Q : KQ, wp G (d + 16) 23 0 [some (vR G.1), some (vI kn), some (vI what), none, none, none] [] h Q = wp G (d + 16) 23 24 [some (vR G.1), some (vI kn), some (vI what), some (vI (iBin 1 what 10)), some (vI oa), none] [] h Q := fun Q => by
    by_cases c0 : what < 10
    · rw [if_neg (by omega)] at hoa
      rw [hoa]
      simp (disch := omega) only [KK, Int.reduceEq, not_false_iff, ↓reduceIte, ↓if_pos, ↓if_neg, xt_o, true_and, nlO_i, nlO_n, nlO_r, List.length_nil, List.length_cons, Nat.reduceAdd, Nat.reduceLeDiff, Nat.zero_le, u23_0, u23_1, u23_3, u23_4, u23_5, u23_6, u23_8, u23_21, u23_22]
    · have e := ar_sub (a := what) (b := 10) (by omega)
      by_cases c1 : what < 16
      · rw [if_pos (by omega)] at hoa
        rw [hoa]
        simp (disch := omega) only [KK, Int.reduceEq, not_false_iff, ↓reduceIte, ↓if_pos, ↓if_neg, xt_o, true_and, nlO_i, nlO_n, nlO_r, List.length_nil, List.length_cons, Nat.reduceAdd, Nat.reduceLeDiff, Nat.zero_le, u23_0, u23_1, u23_3, u23_4, u23_5, u23_6, u23_8, u23_11, u23_12, u23_14, u23_17, u23_18, u23_21, u23_22, e]
      · rw [if_neg (by omega)] at hoa
        rw [hoa]
        simp (disch := omega) only [KK, Int.reduceEq, not_false_iff, ↓reduceIte, ↓if_pos, ↓if_neg, xt_o, true_and, nlO_i, nlO_n, nlO_r, List.length_nil, List.length_cons, Nat.reduceAdd, Nat.reduceLeDiff, Nat.zero_le, u23_0, u23_1, u23_3, u23_4, u23_5, u23_6, u23_8, u23_11, u23_12, u23_14, u23_17, u23_18, u23_21, u23_22, e]
  unfold aORD
  by_cases c : what = 0 ∨ what = 1 ∨ (10 ≤ what ∧ what < 16)
  · rw [if_pos c]
    have k2 : ∀ Q : KQ, wp G (d + 16) 23 24 [some (vR G.1), some (vI kn), some (vI what), some (vI (iBin 1 what 10)), some (vI oa), none] [] h Q = wp G (d + 16) 23 40 [some (vR G.1), some (vI kn), some (vI what), some (vI (iBin 1 what 10)), some (vI oa), none] [] h Q := fun Q => by
      by_cases c0 : what = 0
      · rw [u23_24, u23_25, if_pos c0]
      · by_cases c1 : what = 1
        · rw [u23_24, u23_25, if_neg c0, u23_28, u23_29, u23_30, if_pos c1]
        · have : oa = 1 := by rw [hoa, if_pos (by omega)]
          rw [u23_24, u23_25, if_neg c0, u23_28, u23_29, u23_30, if_neg c1, u23_33, u23_35, if_pos (by omega)]
    by_cases cn : 0 ≤ kn ∧ kn ≤ 255
    · rw [if_pos cn]
      have hF := fun (K : KQ) => (hF K).trans (by rw [if_pos cn])
      have hp := p8_0 (n := (s 27).toNat) (by omega)
      obtain ⟨e, he⟩ : ∃ e, d + 15 = e + 8 + (s 27).toNat := ⟨d + 7 - (s 27).toNat, by omega⟩
      obtain ⟨h1, y1, y2, y3, y4⟩ := c_best (G := G) (gb := G.1) (d := e) (K_A z) (by omega) ok (s 27).toNat 0 0 kn 0 h (K_n z) (by omega) (by have := Nat.two_pow_pos (s 27).toNat; omega) (uz_0 (by omega)) (by omega) hp cn.1 cn.2 (by omega) (by omega)
      rw [← he] at y4
      have zk := K_q0 z y2 (by omega)
      have hbo : ∀ K : KQ, wpC G (d + 16) 60 [vR (G.1 + 1), vI kn] h K = K (some (vI (vORD s kn))) h1 := fun K => by
        rw [e60]
        simp (disch := omega) only [KK, Int.reduceEq, not_false_iff, ↓reduceIte, ↓if_pos, ↓if_neg, xt_o, true_and, nlO_i, nlO_n, nlO_r, List.length_nil, List.length_cons, Nat.reduceAdd, Nat.reduceLeDiff, Nat.zero_le, U60, zn, y4, VS11]
        rfl
      have hv := (vORD_in ok cn).2
      have hx1 := K_x zk
      have zn1 := (K_n zk).1.1
      have hsz1 := fun (K : KQ) => ll_size (G := G) (d := d + 15) (Q := K) (K_n zk).2.1
      have htg1 := fun (K : Nat → Prop) => ll_tag (K_n zk).2.1 (K := K)
      refine ⟨h1, zk, qFr_wk y2 (fun _ q => q.elim), by omega, by omega, fun Q => ?_⟩
      rw [e23, k1, k2]
      by_cases cv : vORD s kn = -1
      · rw [if_pos cv]
        simp (disch := omega) only [KK, Int.reduceEq, not_false_iff, ↓reduceIte, ↓if_pos, ↓if_neg, xt_o, true_and, nlO_i, nlO_n, nlO_r, List.length_nil, List.length_cons, Nat.reduceAdd, Nat.reduceLeDiff, Nat.zero_le, U23, hx, zn, hF, hbo, cv, GX12, VS11]
      · rw [if_neg cv]
        have hv := hv.resolve_left cv
        by_cases c0 : what = 0
        · have : oa = 0 := by rw [hoa, if_neg (by omega)]
          rw [if_pos c0]
          have e1 := qshr (a := vORD s kn) (b := 25) (k := 25) (by decide) (by omega) hv.1 hv.2
          have hfb : ∀ K : KQ, wpC G (d + 16) 64 [vI (vORD s kn)] h1 K = K (some (vI (vORD s kn / 33554432))) h1 := fun K => by
            rw [e64]
            simp (disch := omega) only [KK, Int.reduceEq, not_false_iff, ↓reduceIte, ↓if_pos, ↓if_neg, xt_o, true_and, nlO_i, nlO_n, nlO_r, List.length_nil, List.length_cons, Nat.reduceAdd, Nat.reduceLeDiff, Nat.zero_le, U64, e1]
            rfl
          simp (disch := omega) only [KK, Int.reduceEq, not_false_iff, ↓reduceIte, ↓if_pos, ↓if_neg, xt_o, true_and, nlO_i, nlO_n, nlO_r, List.length_nil, List.length_cons, Nat.reduceAdd, Nat.reduceLeDiff, Nat.zero_le, U23, hx, zn, hF, hbo, hfb, cv, c0, this, GX12, VS11]
        · rw [if_neg c0]
          by_cases c1 : what = 1
          · have : oa = 0 := by rw [hoa, if_neg (by omega)]
            rw [if_pos c1]
            have e1 := qshr (a := vORD s kn) (b := 18) (k := 18) (by decide) (by omega) hv.1 hv.2
            have e2 := qand (a := vORD s kn / (2 ^ 18 : Nat)) (b := 127) (k := 7) (by omega) (by decide) (by omega) (by omega)
            have e3 := ar_sub (a := 127) (b := vORD s kn / (2 ^ 18 : Nat) % (2 ^ 7 : Nat)) (by omega)
            have hfb : ∀ K : KQ, wpC G (d + 16) 65 [vI (vORD s kn)] h1 K = K (some (vI (127 - vORD s kn / 262144 % 128))) h1 := fun K => by
              rw [e65]
              simp (disch := omega) only [KK, Int.reduceEq, not_false_iff, ↓reduceIte, ↓if_pos, ↓if_neg, xt_o, true_and, nlO_i, nlO_n, nlO_r, List.length_nil, List.length_cons, Nat.reduceAdd, Nat.reduceLeDiff, Nat.zero_le, U65, e1, e2, e3]
              rfl
            simp (disch := omega) only [KK, Int.reduceEq, not_false_iff, ↓reduceIte, ↓if_pos, ↓if_neg, xt_o, true_and, nlO_i, nlO_n, nlO_r, List.length_nil, List.length_cons, Nat.reduceAdd, Nat.reduceLeDiff, Nat.zero_le, U23, hx, zn, hF, hbo, hfb, cv, c1, this, GX12, VS11]
          · rw [if_neg c1]
            have : oa = 1 := by rw [hoa, if_pos (by omega)]
            have e10 := ar_sub (a := what) (b := 10) (by omega)
            by_cases c2 : what - 10 < s 27
            · rw [if_pos c2]
              have e11 := ar_sub (a := s 27) (b := 1) (by omega)
              have e12 := ar_sub (a := s 27 - 1) (b := what - 10) (by omega)
              have hai := fun (K : KQ) => c_aio (G := G) (d := d + 15) (h := h1) (Q := K) (v := vORD s kn) (j := s 27 - 1 - (what - 10)) hv.1 hv.2 (by omega) (by omega)
              simp (disch := omega) only [KK, Int.reduceEq, not_false_iff, ↓reduceIte, ↓if_pos, ↓if_neg, xt_o, true_and, nlO_i, nlO_n, nlO_r, List.length_nil, List.length_cons, Nat.reduceAdd, Nat.reduceLeDiff, Nat.zero_le, U23, hx, zn, hx1, zn1, hsz1, htg1, hF, hbo, cv, hai, this, e10, e11, e12, GX12, GX11, VS11, VS0]
            · rw [if_neg c2]
              simp (disch := omega) only [KK, Int.reduceEq, not_false_iff, ↓reduceIte, ↓if_pos, ↓if_neg, xt_o, true_and, nlO_i, nlO_n, nlO_r, List.length_nil, List.length_cons, Nat.reduceAdd, Nat.reduceLeDiff, Nat.zero_le, U23, hx, zn, hx1, zn1, hsz1, htg1, hF, hbo, cv, this, e10, GX12, GX11, VS11, VS0]
    · rw [if_neg cn]
      have hF := fun (K : KQ) => (hF K).trans (by rw [if_neg cn])
      refine cQ_id z (fun Q => ?_)
      rw [e23, k1, k2]
      simp (disch := omega) only [KK, Int.reduceEq, not_false_iff, ↓reduceIte, ↓if_pos, ↓if_neg, xt_o, true_and, nlO_i, nlO_n, nlO_r, List.length_nil, List.length_cons, Nat.reduceAdd, Nat.reduceLeDiff, Nat.zero_le, U23, hF]
  · rw [if_neg c]
    refine cQ_id z (fun Q => ?_)
    have : oa = 0 := by rw [hoa, if_neg (by omega)]
    rw [e23, k1, u23_24, u23_25, if_neg (by omega), u23_28, u23_29, u23_30, if_neg (by omega), u23_33, u23_35, if_neg (by omega)]
    simp (disch := omega) only [KK, Int.reduceEq, not_false_iff, ↓reduceIte, ↓if_pos, ↓if_neg, xt_o, true_and, nlO_i, nlO_n, nlO_r, List.length_nil, List.length_cons, Nat.reduceAdd, Nat.reduceLeDiff, Nat.zero_le, U23]
end V5
