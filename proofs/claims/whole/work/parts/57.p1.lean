/-! the model by relation; HUSH -/
def MSX (m : Nat) (s im : Int → Int) (hi rn : Int) (bd : Int → Int) (H S B : Int) (h : MH) : Prop := (∃ f0 f5 f6 f7 f8 f9 f17 f18 f21 f22 f23 : Int, h.2.2 m = some (mO m f0 hi f5 f6 f7 f8 f9 H S B f17 f18 rn f21 f22 f23)) ∧ h.2.2 (m + 1) = some (cArr 0 937 (ix s)) ∧ h.2.2 (m + 2) = some (cArr 0 937 (ix im)) ∧ h.2.2 (m + 8) = some (cArr 0 20 (ix bd)) ∧ mJ m h
def eqV (s s1 : Int → Int) : Prop := ∀ i, (i < 21 ∨ 27 ≤ i) → s1 i = s i
theorem okW_V {s s1 : Int → Int} (e : eqV s s1) (h01 : ∀ k, 0 ≤ k → k < 6 → s1 (21 + k) = 0 ∨ s1 (21 + k) = 1) (ok : okW s) : okW s1 := by
  obtain ⟨⟨⟨o1, o2, o3, o4, o5, o6, o7⟩, p2, p3, p4, p5⟩, o34, o29, oWt, oAw, oN, oA⟩ := ok
  have e34 : s1 34 = s 34 := e 34 (by omega)
  have eS : STEPM s1 = STEPM s := by
    unfold STEPM
    rw [e34]
    by_cases c : s 34 = -1
    · rw [if_pos c, if_pos c]
    · rw [if_neg c, if_neg c, e _ (by omega)]
  refine ⟨⟨⟨by omega, by omega, by omega, by omega, ?_, by rw [e 0 (by omega)]; exact o6, by rw [e 0 (by omega)]; exact o7⟩, by rw [e 28 (by omega)]; exact p2, by rw [e 27 (by omega)]; exact p3, fun p q0 q1 => ?_, fun a a0 a1 => by rw [e _ (by omega)]; exact p5 a a0 a1⟩, by rw [e34, e 29 (by omega)]; exact o34, by rw [e 29 (by omega)]; exact o29, fun f f0 f1 => by rw [e _ (by omega)]; exact oWt f f0 f1, h01, fun i i0 i1 => by rw [e _ (by omega)]; exact oN i i0 i1, fun a a0 a1 => by rw [e (16 + a) (by omega), e (1 + a) (by omega), e (6 + a) (by omega), e (11 + a) (by omega)]; exact oA a a0 a1⟩
  · rw [eS, e34, seg_cg _ _ (fun k hk hk2 => e k (by omega))]
    exact o5
  · rw [e 27 (by omega)] at q1
    obtain ⟨r0, r1, r⟩ := p4 p q0 q1
    refine ⟨r0, r1, ?_⟩
    rw [e (43 + p) (by omega), e (49 + p) (by omega), e (55 + p) (by omega)]
    exact r
theorem seF_ne {x : Int} : ∀ (n : Nat) (i : Int) (s : Int → Int) (k : Int), (k < 21 + i ∨ 21 + i + n ≤ k) → seF x n i s k = s k
  | 0, _, _, _, _ => rfl
  | n + 1, i, s, k, h => by
    rw [seF, seF_ne n (i + 1) _ k (by omega), up_ne (by omega)]
theorem seF_at {x : Int} : ∀ (n : Nat) (i : Int) (s : Int → Int) (k : Int), i ≤ k → k < i + n → seF x n i s (21 + k) = if bt x k = 1 then 1 else s (21 + k)
  | 0, i, s, k, h0, h1 => by omega
  | n + 1, i, s, k, h0, h1 => by
    rw [seF]
    by_cases e : k = i
    · rw [seF_ne n (i + 1) _ _ (by omega), e, up_eq]
    · rw [seF_at n (i + 1) _ k (by omega) (by omega), up_ne (by omega)]
theorem seF_V {x : Int} {n : Nat} {s : Int → Int} (hn : n ≤ 6) : eqV s (seF x n 0 s) := fun i hi => seF_ne n 0 s i (by omega)
theorem seF_01 {x : Int} {n : Nat} {s : Int → Int} (h01 : ∀ k, 0 ≤ k → k < 6 → s (21 + k) = 0 ∨ s (21 + k) = 1) : ∀ k, 0 ≤ k → k < 6 → seF x n 0 s (21 + k) = 0 ∨ seF x n 0 s (21 + k) = 1 := fun k k0 k1 => by
  by_cases e : k < n
  · rw [seF_at n 0 s k k0 (by omega)]
    split
    · exact Or.inr rfl
    · exact h01 k k0 k1
  · rw [seF_ne n 0 s _ (by omega)]
    exact h01 k k0 k1
def chkO (a : Int) : Bool := (List.range 64).all (fun b => let r := iBin 4 a (b : Int); decide (0 ≤ r) && decide (r < 64) && (List.range 6).all (fun k => decide (bt r k = if bt b k = 1 then 1 else bt a k)))
theorem chkO_all : (List.range 64).all (fun n => chkO n) = true := by decide +kernel
theorem aor_of {a c : Int} (h0 : 0 ≤ a) (h1 : a < 64) (c0 : 0 ≤ c) (c1 : c < 64) : (0 ≤ iBin 4 a c ∧ iBin 4 a c < 64) ∧ ∀ k, 0 ≤ k → k < 6 → bt (iBin 4 a c) k = if bt c k = 1 then 1 else bt a k := by
  have h := List.all_eq_true.mp chkO_all a.toNat (List.mem_range.mpr (by omega))
  rw [Int.toNat_of_nonneg h0] at h
  unfold chkO at h
  have h2 := List.all_eq_true.mp h c.toNat (List.mem_range.mpr (by omega))
  rw [Int.toNat_of_nonneg c0] at h2
  simp only [Bool.and_eq_true, List.all_eq_true, decide_eq_true_eq] at h2
  refine ⟨h2.1, fun k k0 k1 => ?_⟩
  have h3 := h2.2 k.toNat (List.mem_range.mpr (by omega))
  rw [Int.toNat_of_nonneg k0] at h3
  exact h3
theorem shl_of {n : Int} (h0 : 0 ≤ n) (h1 : n ≤ 6) : 1 ≤ iBin 6 1 n ∧ iBin 6 1 n ≤ 64 := by
  rcases (show n = 0 ∨ n = 1 ∨ n = 2 ∨ n = 3 ∨ n = 4 ∨ n = 5 ∨ n = 6 by omega) with e | e | e | e | e | e | e <;> subst e <;> decide
/-- the sets from one on: the fewest that will do -/
def FEW (P : Int → Prop) [DecidablePred P] (no : Int) : Nat → Int → Int → Int
  | 0, _, b => b
  | n + 1, k, b => FEW P no n (k + 1) (if P k ∧ (b = no ∨ cnt k < cnt b) then k else b)
abbrev huP (s : Int → Int) (f set : Int) : Prop := bt (CLIMB (seF set (s 27).toNat 0 s) 0 0).1 f = 0
def HUSH (s : Int → Int) (f : Int) : Int := FEW (huP s f) (-5) (iBin 6 1 (s 27)).toNat 0 (-5)
section P1
variable {G : MG} {d : Nat} {Q : KQ}
variable {m : Nat} {s im bd : Int → Int} {hi rn H S B : Int} {h : MH}
theorem MSX_S (z : MSX m s im hi rn bd H S B h) : MS m s im hi rn bd h := by
  obtain ⟨⟨f0, f5, f6, f7, f8, f9, f17, f18, f21, f22, f23, z0⟩, z1⟩ := z
  exact ⟨⟨f0, f5, f6, f7, f8, f9, H, S, B, f17, f18, f21, f22, f23, z0⟩, z1⟩
theorem MS_X (z : MS m s im hi rn bd h) : ∃ H S B, MSX m s im hi rn bd H S B h := by
  obtain ⟨⟨f0, f5, f6, f7, f8, f9, H, S, B, f17, f18, f21, f22, f23, z0⟩, z1⟩ := z
  exact ⟨H, S, B, ⟨f0, f5, f6, f7, f8, f9, f17, f18, f21, f22, f23, z0⟩, z1⟩
theorem MSX_s {s' : Int → Int} (z : MSX m s im hi rn bd H S B h) : MSX m s' im hi rn bd H S B (hset h (m + 1) (cArr 0 937 (ix s'))) := by
  obtain ⟨⟨f0, f5, f6, f7, f8, f9, f17, f18, f21, f22, f23, z0⟩, h1, h2, h8, j⟩ := z
  exact ⟨⟨f0, f5, f6, f7, f8, f9, f17, f18, f21, f22, f23, (hs_ne (by omega)).trans z0⟩, hs_eq, (hs_ne (by omega)).trans h2, (hs_ne (by omega)).trans h8, mJ_set (by omega) j⟩
theorem MSX_fr {u' : Int → Int} (z : MSX m s im hi rn bd H S B h) : MSX m s im hi rn bd H S B (hset h (m + 3) (cArr 0 27 (ix u'))) := by
  obtain ⟨⟨f0, f5, f6, f7, f8, f9, f17, f18, f21, f22, f23, z0⟩, h1, h2, h8, j⟩ := z
  exact ⟨⟨f0, f5, f6, f7, f8, f9, f17, f18, f21, f22, f23, (hs_ne (by omega)).trans z0⟩, (hs_ne (by omega)).trans h1, (hs_ne (by omega)).trans h2, (hs_ne (by omega)).trans h8, mJ_fr j⟩
theorem r_keeps (z : MSX m s im hi rn bd H S B h) : ∃ (h' : MH) (u : Int → Int), MSX m s im hi rn bd H S B h' ∧ mF m h h' ∧ h'.2.2 (m + 3) = some (cArr 0 27 (ix (cp u s 0 27))) ∧ ∀ Q : KQ, wpC G (d + 1) 174 [vR m] h Q = Q none h' := by
  have zz := z
  obtain ⟨⟨f0, f5, f6, f7, f8, f9, f17, f18, f21, f22, f23, z0⟩, h1, h2, h8, u, y, t, o, b, j1, -⟩ := zz
  exact ⟨_, u, MSX_fr z, mF_set (by omega), hs_eq, fun Q => m_keeps z0 h1 j1⟩
theorem r_sends (z : MSX m s im hi rn bd H S B h) (h27 : 0 ≤ s 27 ∧ s 27 ≤ 6) {F : MC} (hF : h.2.2 (m + 3) = some F) {x : Int} : ∃ h' : MH, MSX m (seF x (s 27).toNat 0 s) im hi rn bd H S B h' ∧ mF m h h' ∧ h'.2.2 (m + 3) = some F ∧ ∀ Q : KQ, wpC G (d + 1) 195 [vR m, vI x] h Q = Q none h' := by
  have zz := z
  obtain ⟨⟨f0, f5, f6, f7, f8, f9, f17, f18, f21, f22, f23, z0⟩, h1, h2, h8, j⟩ := zz
  refine ⟨_, MSX_s z, mF_set (by omega), (hs_ne (by omega)).trans hF, fun Q => ?_⟩
  rw [e195, ← m_sends_l (G := G) (d := d) (Q := Q) (x := x) (s 27).toNat s h 0 z0 h1 (by omega) (by omega) h27.2]
  simp only [KK, Int.reduceEq, not_false_iff, ↓reduceIte, ↓if_pos, ↓if_neg, xt_o, true_and, nlO_i, nlO_n, nlO_r, List.length_nil, List.length_cons, Nat.reduceAdd, Nat.reduceLeDiff, Nat.zero_le, U195]
theorem r_goesBack {s' u : Int → Int} (z : MSX m s' im hi rn bd H S B h) (hF : h.2.2 (m + 3) = some (cArr 0 27 (ix (cp u s 0 27)))) (e : ∀ k, (k < 0 ∨ 27 ≤ k) → s' k = s k) : ∃ h' : MH, MSX m s im hi rn bd H S B h' ∧ mF m h h' ∧ ∀ Q : KQ, wpC G (d + 1) 179 [vR m] h Q = Q none h' := by
  have zz := z
  obtain ⟨⟨f0, f5, f6, f7, f8, f9, f17, f18, f21, f22, f23, z0⟩, h1, h2, h8, j⟩ := zz
  have hb := fun (Q : KQ) => m_goesBack (G := G) (d := d) (Q := Q) z0 h1 hF
  rw [cp_back e] at hb
  exact ⟨_, MSX_s z, mF_set (by omega), hb⟩
theorem r_climbs (z : MSX m s im hi rn bd H S B h) (ok : okW s) {F : MC} (hF : h.2.2 (m + 3) = some F) {way hd : Int} : ∃ h' : MH, MSX m s im hi rn bd (CLIMB s way hd).1 (CLIMB s way hd).2.1 (CLIMB s way hd).2.2 h' ∧ mF m h h' ∧ h'.2.2 (m + 3) = some F ∧ ∀ Q : KQ, wpC G (d + 5) 189 [vR m, vI way, vI hd] h Q = Q none h' := by
  have zz := z
  obtain ⟨⟨f0, f5, f6, f7, f8, f9, f17, f18, f21, f22, f23, z0⟩, h1, h2, h8, u, y, t, o, b, j1, j2, j3, j4, j5⟩ := zz
  obtain ⟨y', t', hc⟩ := m_climbs (G := G) (d := d) z0 h1 j2 j3 ok.1.1 ok.1.2.2.1 ok.1.2.2.2.1 (way := way) (hd := hd)
  refine ⟨_, ⟨⟨f0, f5, f6, f7, f8, f9, f17, f18, f21, f22, f23, hs_eq⟩, ?_, ?_, ?_, ?_⟩, mF_tr mF_scr (mF_set (by omega)), ?_, hc⟩
  · rw [hs_ne (by omega), scr_m (by omega) (by omega)]; exact h1
  · rw [hs_ne (by omega), scr_m (by omega) (by omega)]; exact h2
  · rw [hs_ne (by omega), scr_m (by omega) (by omega)]; exact h8
  · exact mJ_set (by omega) (mJ_scr ⟨u, y, t, o, b, j1, j2, j3, j4, j5⟩)
  · rw [hs_ne (by omega), scr_m (by omega) (by omega)]; exact hF
theorem m_hush_l (ok : okW s) {f : Int} : ∀ (n : Nat) (h : MH) (H S B k b : Int) (l4 : Option V), MSX m s im hi rn bd H S B h → (b = -5 ∨ (0 ≤ b ∧ b < 64)) → 0 ≤ k → k + n = iBin 6 1 (s 27) → nlO l4 = true → ∃ h' : MH, MS m s im hi rn bd h' ∧ mF m h h' ∧ ∀ Q : KQ, wp G (d + 6) 194 17 [some (vR m), some (vI f), some (vI b), some (vI k), l4] [] h Q = Q (some (vI (FEW (huP s f) (-5) n k b))) h' := by
  have h27 := ok.1.2.2.1
  have hsh := shl_of h27.1 h27.2
  intro n
  induction n with
  | zero =>
    intro h H S B k b l4 z hb k0 kn n4
    refine ⟨h, MSX_S z, mF_rf, fun Q => ?_⟩
    obtain ⟨⟨f0, f5, f6, f7, f8, f9, f17, f18, f21, f22, f23, z0⟩, h1, h2, h8, j⟩ := z
    rw [FEW, u194_17]
    simp (disch := omega) only [KK, Int.reduceEq, not_false_iff, ↓reduceIte, ↓if_pos, ↓if_neg, xt_o, true_and, nlO_i, nlO_n, nlO_r, List.length_nil, List.length_cons, Nat.reduceAdd, Nat.reduceLeDiff, Nat.zero_le, U194, z0, h1, GX13, xa_i]
  | succ n ih =>
    intro h H S B k b l4 z hb k0 kn n4
    obtain ⟨h1, u, z1, m1, F1, w1⟩ := r_keeps (G := G) (d := d + 5) z
    obtain ⟨h2, z2, m2, F2, w2⟩ := r_sends (G := G) (d := d + 5) z1 h27 F1 (x := k)
    have eV := seF_V (x := k) (n := (s 27).toNat) (s := s) (by omega)
    have ok2 := okW_V eV (seF_01 ok.2.2.2.2.1) ok
    obtain ⟨h3, z3, m3, F3, w3⟩ := r_climbs (G := G) (d := d + 1) z2 ok2 F2 (way := 0) (hd := 0)
    obtain ⟨h4, z4, m4, w4⟩ := r_goesBack (G := G) (d := d + 5) z3 F3 (fun k hk => eV k (by omega))
    have hm4 := mF_tr m1 (mF_tr m2 (mF_tr m3 m4))
    rw [FEW]
    obtain ⟨⟨a0, a5, a6, a7, a8, a9, a17, a18, a21, a22, a23, q0⟩, q1, -⟩ := z
    obtain ⟨⟨b0, b5, b6, b7, b8, b9, b17, b18, b21, b22, b23, p0⟩, p1, -⟩ := z1
    obtain ⟨⟨c0, c5, c6, c7, c8, c9, c17, c18, c21, c22, c23, r0⟩, r1, -⟩ := z2
    have z3' := z3
    have z4' := z4
    obtain ⟨⟨e0, e5, e6, e7, e8, e9, e17, e18, e21, e22, e23, t0⟩, t1, -⟩ := z3'
    obtain ⟨⟨g0, g5, g6, g7, g8, g9, g17, g18, g21, g22, g23, v0⟩, v1, -⟩ := z4'
    have hc1 := fun (h : MH) (K : KQ) => m_countOf (G := G) (d := d + 5) (h := h) (Q := K) (x := k)
    have hc2 := fun (h : MH) (K : KQ) => m_countOf (G := G) (d := d + 5) (h := h) (Q := K) (x := b)
    by_cases c1 : huP s f k
    · have c1' : iBin 3 (iBin 7 (CLIMB (seF k (s 27).toNat 0 s) 0 0).1 f) 1 = 0 := c1
      by_cases c2 : b = -5
      · rw [if_pos ⟨c1, Or.inl c2⟩]
        obtain ⟨h', i1, i2, i3⟩ := ih h4 _ _ _ (k + 1) k (some (vI 1)) z4 (Or.inr ⟨k0, by omega⟩) (by omega) (by omega) rfl
        refine ⟨h', i1, mF_tr hm4 i2, fun Q => ?_⟩
        rw [← i3 Q, u194_17]
        simp (disch := omega) only [KK, Int.reduceEq, not_false_iff, ↓reduceIte, ↓if_pos, ↓if_neg, xt_o, true_and, nlO_i, nlO_n, nlO_r, List.length_nil, List.length_cons, Nat.reduceAdd, Nat.reduceLeDiff, Nat.zero_le, U194, q0, q1, p0, p1, r0, r1, t0, t1, v0, v1, GX13, VS13, xa_i, w1, w2, w3, w4, c1', hc1, hc2, n4, ar_add (a := k)]
      · by_cases c3 : cnt k < cnt b
        · rw [if_pos ⟨c1, Or.inr c3⟩]
          obtain ⟨h', i1, i2, i3⟩ := ih h4 _ _ _ (k + 1) k (some (vI 1)) z4 (Or.inr ⟨k0, by omega⟩) (by omega) (by omega) rfl
          refine ⟨h', i1, mF_tr hm4 i2, fun Q => ?_⟩
          rw [← i3 Q, u194_17]
          simp (disch := omega) only [KK, Int.reduceEq, not_false_iff, ↓reduceIte, ↓if_pos, ↓if_neg, xt_o, true_and, nlO_i, nlO_n, nlO_r, List.length_nil, List.length_cons, Nat.reduceAdd, Nat.reduceLeDiff, Nat.zero_le, U194, q0, q1, p0, p1, r0, r1, t0, t1, v0, v1, GX13, VS13, xa_i, w1, w2, w3, w4, c1', hc1, hc2, n4, ar_add (a := k)]
        · rw [if_neg (fun q => q.2.elim c2 c3)]
          obtain ⟨h', i1, i2, i3⟩ := ih h4 _ _ _ (k + 1) b (some (vI 1)) z4 hb (by omega) (by omega) rfl
          refine ⟨h', i1, mF_tr hm4 i2, fun Q => ?_⟩
          rw [← i3 Q, u194_17]
          simp (disch := omega) only [KK, Int.reduceEq, not_false_iff, ↓reduceIte, ↓if_pos, ↓if_neg, xt_o, true_and, nlO_i, nlO_n, nlO_r, List.length_nil, List.length_cons, Nat.reduceAdd, Nat.reduceLeDiff, Nat.zero_le, U194, q0, q1, p0, p1, r0, r1, t0, t1, v0, v1, GX13, VS13, xa_i, w1, w2, w3, w4, c1', hc1, hc2, n4, ar_add (a := k)]
    · have c1' : ¬ iBin 3 (iBin 7 (CLIMB (seF k (s 27).toNat 0 s) 0 0).1 f) 1 = 0 := c1
      rw [if_neg (fun q => c1 q.1)]
      obtain ⟨h', i1, i2, i3⟩ := ih h4 _ _ _ (k + 1) b (some (vI 0)) z4 hb (by omega) (by omega) rfl
      refine ⟨h', i1, mF_tr hm4 i2, fun Q => ?_⟩
      rw [← i3 Q, u194_17]
      simp (disch := omega) only [KK, Int.reduceEq, not_false_iff, ↓reduceIte, ↓if_pos, ↓if_neg, xt_o, true_and, nlO_i, nlO_n, nlO_r, List.length_nil, List.length_cons, Nat.reduceAdd, Nat.reduceLeDiff, Nat.zero_le, U194, q0, q1, p0, p1, r0, r1, t0, t1, v0, v1, GX13, VS13, xa_i, w1, w2, w3, w4, c1', n4, ar_add (a := k)]
theorem m_hush (ok : okW s) (z : MS m s im hi rn bd h) {f : Int} : ∃ h' : MH, MS m s im hi rn bd h' ∧ mF m h h' ∧ ∀ Q : KQ, wpC G (d + 7) 194 [vR m, vI f] h Q = Q (some (vI (if 0 ≤ f ∧ f ≤ 7 then HUSH s f else -1))) h' := by
  have h27 := ok.1.2.2.1
  have hsh := shl_of h27.1 h27.2
  by_cases c : 0 ≤ f ∧ f ≤ 7
  · obtain ⟨H, S, B, zx⟩ := MS_X z
    obtain ⟨h', r1, r2, r3⟩ := m_hush_l (G := G) (d := d) ok (f := f) (iBin 6 1 (s 27)).toNat h H S B 0 (-5) none zx (Or.inl rfl) (by omega) (by omega) rfl
    refine ⟨h', r1, r2, fun Q => ?_⟩
    have hI := fun (K : KQ) => m_in_t (G := G) (d := d + 5) (h := h) (Q := K) (v := f) (lo := 0) (hi := 7) c
    unfold HUSH
    rw [if_pos c, ← r3 Q, e194]
    simp (disch := omega) only [KK, Int.reduceEq, not_false_iff, ↓reduceIte, ↓if_pos, ↓if_neg, xt_o, true_and, nlO_i, nlO_n, nlO_r, List.length_nil, List.length_cons, Nat.reduceAdd, Nat.reduceLeDiff, Nat.zero_le, U194, hI]
  · refine ⟨h, z, mF_rf, fun Q => ?_⟩
    have hI := fun (K : KQ) => m_in_f (G := G) (d := d + 5) (h := h) (Q := K) (v := f) (lo := 0) (hi := 7) c
    rw [if_neg c, e194]
    simp (disch := omega) only [KK, Int.reduceEq, not_false_iff, ↓reduceIte, ↓if_pos, ↓if_neg, xt_o, true_and, nlO_i, nlO_n, nlO_r, List.length_nil, List.length_cons, Nat.reduceAdd, Nat.reduceLeDiff, Nat.zero_le, U194, hI]
end P1
