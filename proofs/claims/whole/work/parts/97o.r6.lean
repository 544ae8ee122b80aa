/-! the model reads clauses -/
def scF (a : Int) (s : Int → Int) (c : RC) : Int → Int := if c.1 = 0 then sE a s (c.2.2.2.map trC) else if c.1 = 1 then up s (227 + a) c.2.2.1 else sE a s (c.2.2.2.map trC ++ [c.2.2.1])
def wC (c : RC) : Int := if c.1 = 0 then 1 else 0
def flF : List (List Int × Int) → List Int
  | [] => []
  | x :: cl => x.1.map trC ++ x.2 :: flF cl
theorem flF_app {x : List Int × Int} : ∀ (cl : List (List Int × Int)), flF (cl ++ [x]) = flF cl ++ (x.1.map trC ++ [x.2]) := by
  intro cl
  induction cl with
  | nil => rfl
  | cons y cl ih => show y.1.map trC ++ y.2 :: flF (cl ++ [x]) = (y.1.map trC ++ y.2 :: flF cl) ++ _; rw [ih, List.append_assoc]; rfl
/-- a clause is such as told -/
def okC (x : List Int × Int) : Prop := (∀ c ∈ x.1, -3 ≤ c ∧ c < 1800) ∧ wfD 13 x.1 ∧ -299 ≤ x.2 ∧ x.2 ≤ -10
def gC (N p : Int) (c : RC) : Prop := (p ≤ c.2.1 ∧ c.2.1 ≤ N) ∧ (c.1 = 0 → (c.2.2.2.length : Int) ≤ c.2.1 - p) ∧ (c.1 = 1 → 0 ≤ c.2.2.1 ∧ c.2.2.1 ≤ 99) ∧ (¬ c.1 = 0 → ¬ c.1 = 1 → (c.2.2.2.length : Int) + 1 ≤ c.2.1 - p ∧ okC (c.2.2.2, c.2.2.1))
section CG
variable {T : Int → Int} {N : Int}
theorem fw_lt {x : Int} : fwF x < 12 := by
  unfold fwF
  by_cases c : x = 110
  · rw [if_pos c]; decide
  · rw [if_neg c]
    by_cases c : x = 98
    · rw [if_pos c]; decide
    · rw [if_neg c]; decide
theorem cl_g {p : Int} (p0 : 0 ≤ p) (p1 : p ≤ N) : gC N p (clF T N p) := by
  unfold clF
  have hw := wd_b (T := T) (N := N) (wS (fwF (hrF T N p))) (wS_0 fw_lt) p p1
  generalize wdF T N (wS (fwF (hrF T N p))) p = a at hw ⊢
  have bad : ∀ {q : Int} {l : List Int}, p ≤ q → q ≤ N → (l.length : Int) ≤ q - p → gC N p (0, q, 0, l) := fun {q l} h1 h2 h3 => ⟨⟨h1, h2⟩, fun _ => h3, fun z => absurd (show (0 : Nat) = 1 from z) (by decide), fun z => absurd rfl z⟩
  by_cases c1 : a.1 = true
  · rw [if_pos c1]
    have hn := nu_b (T := T) (N := N) (p := a.2) hw.2
    by_cases c2 : (nuF T N a.2).1 = -1
    · rw [if_pos c2]; exact bad hw.1 hw.2 (by show ((0 : Nat) : Int) ≤ _; omega)
    · rw [if_neg c2]
      have hn := hn.resolve_left (fun q => c2 q.1)
      generalize nuF T N a.2 = n at hn ⊢
      by_cases c3 : hrF T N p = 110
      · rw [if_pos c3]
        refine ⟨⟨?_, hn.2.2⟩, fun z => absurd (show (1 : Nat) = 0 from z) (by decide), fun _ => hn.1, fun _ z => absurd rfl z⟩
        show p ≤ n.2; omega
      · rw [if_neg c3]
        by_cases c4 : hrF T N n.2 = 32
        · rw [if_pos c4]
          have lt := hr_lt (T := T) (N := N) (p := n.2) (by omega)
          obtain ⟨⟨b1, b2⟩, b3, b4, b5⟩ := ei_g (T := T) (N := N) (sg_g 5) (n.2 + 1) (by omega) (by omega)
          generalize eiF T N (sgF T N 5) (n.2 + 1) = r at b1 b2 b3 b4 b5 ⊢
          by_cases c5 : r.1 = true
          · rw [if_pos c5]
            refine ⟨⟨?_, b2⟩, fun z => absurd (show (2 : Nat) = 0 from z) (by decide), fun z => absurd (show (2 : Nat) = 1 from z) (by decide), fun _ _ => ⟨?_, b4, b5 c5, ?_, ?_⟩⟩
            · show p ≤ r.2.1; omega
            · show (r.2.2.length : Int) + 1 ≤ r.2.1 - p; omega
            · show -299 ≤ (if hrF T N p = 98 then (-10 : Int) else -200) - n.1
              split <;> omega
            · show (if hrF T N p = 98 then (-10 : Int) else -200) - n.1 ≤ -10
              split <;> omega
          · rw [if_neg c5]; exact bad (by omega) b2 (by omega)
        · rw [if_neg c4]; exact bad (by omega) hn.2.2 (by show ((0 : Nat) : Int) ≤ _; omega)
  · rw [if_neg c1]; exact bad hw.1 hw.2 (by show ((0 : Nat) : Int) ≤ _; omega)
end CG
section R6
variable {G : MG} {h0 : MH} {T : Int → Int}
variable {m : Nat} {f0 f4 f5 f6 f7 f8 f9 f12 f13 f14 f17 f18 f20 f21 f22 f23 : Int}
variable {p : Int} {s : Int → Int} {d : Nat} {Q : KQ}
theorem m_tells (z : qSt G h0) (hm : G.1 ≤ m) (hT : sT s T) (hN : f7 ≤ 100) (h5 : 0 ≤ f5 ∧ f5 ≤ 4) (p0 : 0 ≤ p) (p1 : p ≤ f7) (c3 : hrF T f7 p = 110) : wpC G (d + 6) 143 [vR m, vI 227, vR (G.2.1 9)] (mP m h0 (mO m f0 f4 f5 p f7 0 0 f12 f13 f14 f17 f18 f20 f21 f22 f23) s) Q = Q none (mP m h0 (mO m f0 f4 f5 ((clF T f7 p).2.1) f7 (wC (clF T f7 p)) 0 f12 f13 f14 f17 f18 f20 f21 f22 f23) (scF f5 s (clF T f7 p))) := by
  have hs := fun (K : KQ) => m_spells (G := G) (d := d) (Q := K) (h0 := h0) (m := m) (f0 := f0) (f4 := f4) (f5 := f5) (f7 := f7) (f12 := f12) (f13 := f13) (f14 := f14) (f17 := f17) (f18 := f18) (f20 := f20) (f21 := f21) (f22 := f22) (f23 := f23) (o := 0) z hm hT hN (i := 9) (by decide) p0 p1
  have hw := wd_b (T := T) (N := f7) (wS 9) (wS_0 (by decide)) p p1
  have e0 : wS (fwF (hrF T f7 p)) = wS 9 := by rw [c3]; rfl
  unfold clF
  rw [e0, e143]
  generalize wdF T f7 (wS 9) p = a at hs hw ⊢
  by_cases c1 : a.1 = true
  · rw [c1] at hs
    rw [if_pos c1, if_pos c3]
    have hn := nu_b (T := T) (N := f7) (p := a.2) hw.2
    have hg := fun (K : KQ) => m_figures0 (G := G) (d := d + 3) (Q := K) (h0 := h0) (m := m) (f0 := f0) (f4 := f4) (f5 := f5) (f7 := f7) (f12 := f12) (f13 := f13) (f14 := f14) (f17 := f17) (f18 := f18) (f20 := f20) (f21 := f21) (f22 := f22) (f23 := f23) (p := a.2) (o := 0) hT (by omega) hw.2 hN
    by_cases c2 : (nuF T f7 a.2).1 = -1
    · have hg := fun (K : KQ) => (hg K).trans (by rw [if_pos c2, if_pos c2])
      have e4 : (nuF T f7 a.2).2 = a.2 := by omega
      rw [e4] at hg
      rw [if_pos c2]
      show _ = Q none (mP m h0 (mO m f0 f4 f5 (a.2) f7 1 0 f12 f13 f14 f17 f18 f20 f21 f22 f23) s)
      simp (disch := omega) only [KK, Int.reduceEq, not_false_iff, ↓reduceIte, ↓if_pos, ↓if_neg, xt_o, true_and, nlO_i, nlO_n, nlO_r, List.length_nil, List.length_cons, Nat.reduceAdd, Nat.reduceLeDiff, Nat.zero_le, U143, mP_m, mP_s, hs, hg, wB_t, GX13, VS13]
    · have hg := fun (K : KQ) => (hg K).trans (by rw [if_neg c2, if_neg c2])
      rw [if_neg c2]
      generalize nuF T f7 a.2 = n at hg hn c2 ⊢
      show _ = Q none (mP m h0 (mO m f0 f4 f5 (n.2) f7 0 0 f12 f13 f14 f17 f18 f20 f21 f22 f23) (up s (227 + f5) n.1))
      simp (disch := omega) only [KK, Int.reduceEq, not_false_iff, ↓reduceIte, ↓if_pos, ↓if_neg, xt_o, true_and, nlO_i, nlO_n, nlO_r, List.length_nil, List.length_cons, Nat.reduceAdd, Nat.reduceLeDiff, Nat.zero_le, U143, mP_m, mP_s, mP_hs, hs, hg, wB_t, GX13, VS13, xs_i, ar_add]
  · rw [Bool.eq_false_iff.mpr c1] at hs
    have hg := fun (K : KQ) => m_figures1 (G := G) (d := d + 3) (Q := K) (h0 := h0) (m := m) (f0 := f0) (f4 := f4) (f5 := f5) (f7 := f7) (f12 := f12) (f13 := f13) (f14 := f14) (f17 := f17) (f18 := f18) (f20 := f20) (f21 := f21) (f22 := f22) (f23 := f23) (p := a.2) (o := 0) hT (by omega) hN
    rw [if_neg c1]
    show _ = Q none (mP m h0 (mO m f0 f4 f5 (a.2) f7 1 0 f12 f13 f14 f17 f18 f20 f21 f22 f23) s)
    simp (disch := omega) only [KK, Int.reduceEq, not_false_iff, ↓reduceIte, ↓if_pos, ↓if_neg, xt_o, true_and, nlO_i, nlO_n, nlO_r, List.length_nil, List.length_cons, Nat.reduceAdd, Nat.reduceLeDiff, Nat.zero_le, U143, mP_m, mP_s, hs, hg, wB_f, GX13, VS13]
theorem m_much (z : qSt G h0) (hm : G.1 ≤ m) (hT : sT s T) (hN : f7 ≤ 100) (h5 : 0 ≤ f5 ∧ f5 ≤ 4) (p0 : 0 ≤ p) (p1 : p ≤ f7) (hn0 : 0 ≤ s (232 + f5)) (hn2 : s (232 + f5) ≤ p) (c3 : ¬ hrF T f7 p = 110) {i : Nat} (hi : i < 12) (ei : wS (fwF (hrF T f7 p)) = wS i) {K0 : Int} (eK : (if hrF T f7 p = 98 then (-10 : Int) else -200) = K0) : wpC G (d + 24) 147 [vR m, vI K0, vR (G.2.1 i)] (mP m h0 (mO m f0 f4 f5 p f7 0 0 f12 f13 f14 f17 f18 f20 f21 f22 f23) s) Q = Q none (mP m h0 (mO m f0 f4 f5 ((clF T f7 p).2.1) f7 (wC (clF T f7 p)) 0 f12 f13 f14 f17 f18 f20 f21 f22 f23) (scF f5 s (clF T f7 p))) := by
  have hs := fun (K : KQ) => m_spells (G := G) (d := d + 18) (Q := K) (h0 := h0) (m := m) (f0 := f0) (f4 := f4) (f5 := f5) (f7 := f7) (f12 := f12) (f13 := f13) (f14 := f14) (f17 := f17) (f18 := f18) (f20 := f20) (f21 := f21) (f22 := f22) (f23 := f23) (o := 0) z hm hT hN (i := i) hi p0 p1
  have hw := wd_b (T := T) (N := f7) (wS i) (wS_0 hi) p p1
  have hKb : -200 ≤ K0 ∧ K0 ≤ -10 := by rw [← eK]; split <;> omega
  unfold clF
  rw [ei, eK, e147]
  generalize wdF T f7 (wS i) p = a at hs hw ⊢
  have hu1 := fun (q : Int) (q0 : 0 ≤ q) (q1 : q ≤ f7) (x : Int) (K : KQ) => m_must1 (G := G) (d := d + 21) (Q := K) (h0 := h0) (m := m) (f0 := f0) (f4 := f4) (f5 := f5) (f7 := f7) (f12 := f12) (f13 := f13) (f14 := f14) (f17 := f17) (f18 := f18) (f20 := f20) (f21 := f21) (f22 := f22) (f23 := f23) (p := q) (s := s) (o := 0) (x := x) ⟨q0, by omega⟩
  have hw1 := fun (q : Int) (K : KQ) => m_some_w (G := G) (d := d + 20) (Q := K) (h0 := h0) (m := m) (f0 := f0) (f4 := f4) (f5 := f5) (f7 := f7) (f12 := f12) (f13 := f13) (f14 := f14) (f17 := f17) (f18 := f18) (f20 := f20) (f21 := f21) (f22 := f22) (f23 := f23) (p := q) (s := s) (o := 0)
  have he1 := fun (q : Int) (s : Int → Int) (x : Int) (K : KQ) => m_emits1 (G := G) (d := d + 22) (Q := K) (h0 := h0) (m := m) (f0 := f0) (f4 := f4) (f5 := f5) (f7 := f7) (f12 := f12) (f13 := f13) (f14 := f14) (f17 := f17) (f18 := f18) (f20 := f20) (f21 := f21) (f22 := f22) (f23 := f23) (p := q) (s := s) (o := 0) (x := x)
  by_cases c1 : a.1 = true
  · rw [c1] at hs
    rw [if_pos c1, if_neg c3]
    have hn := nu_b (T := T) (N := f7) (p := a.2) hw.2
    have hg := fun (K : KQ) => m_figures0 (G := G) (d := d + 21) (Q := K) (h0 := h0) (m := m) (f0 := f0) (f4 := f4) (f5 := f5) (f7 := f7) (f12 := f12) (f13 := f13) (f14 := f14) (f17 := f17) (f18 := f18) (f20 := f20) (f21 := f21) (f22 := f22) (f23 := f23) (p := a.2) (o := 0) hT (by omega) hw.2 hN
    by_cases c2 : (nuF T f7 a.2).1 = -1
    · have hg := fun (K : KQ) => (hg K).trans (by rw [if_pos c2, if_pos c2])
      have e4 : (nuF T f7 a.2).2 = a.2 := by omega
      have hu1 := hu1 a.2 (by omega) hw.2
      rw [e4] at hg
      rw [if_pos c2]
      show _ = Q none (mP m h0 (mO m f0 f4 f5 (a.2) f7 1 0 f12 f13 f14 f17 f18 f20 f21 f22 f23) s)
      simp (disch := omega) only [KK, Int.reduceEq, not_false_iff, ↓reduceIte, ↓if_pos, ↓if_neg, xt_o, true_and, nlO_i, nlO_n, nlO_r, List.length_nil, List.length_cons, Nat.reduceAdd, Nat.reduceLeDiff, Nat.zero_le, U147, mP_m, mP_s, hs, hg, hu1, hw1, he1, wB_t, GX13, VS13]
    · have hg := fun (K : KQ) => (hg K).trans (by rw [if_neg c2, if_neg c2])
      have hn := hn.resolve_left (fun q => c2 q.1)
      rw [if_neg c2]
      generalize nuF T f7 a.2 = n at hg hn c2 ⊢
      have hu := fun (K : KQ) => m_must0 (G := G) (d := d + 21) (Q := K) (h0 := h0) (m := m) (f0 := f0) (f4 := f4) (f5 := f5) (f7 := f7) (f12 := f12) (f13 := f13) (f14 := f14) (f17 := f17) (f18 := f18) (f20 := f20) (f21 := f21) (f22 := f22) (f23 := f23) (p := n.2) (s := s) (o := 0) (x := 32) hT (by omega) hN hn.2.2
      by_cases c4 : hrF T f7 n.2 = 32
      · have hu := fun (K : KQ) => (hu K).trans (by rw [if_pos c4])
        have lt := hr_lt (T := T) (N := f7) (p := n.2) (by omega)
        have hF := fun (p : Int) (s : Int → Int) (p0 : 0 ≤ p) (p1 : p ≤ f7) (hn : 0 ≤ s (232 + f5)) (hn2 : s (232 + f5) ≤ p) (hT : sT s T) (Q : KQ) => m_fac (G := G) (h0 := h0) (m := m) (f0 := f0) (f4 := f4) (f5 := f5) (f7 := f7) (f12 := f12) (f13 := f13) (f14 := f14) (f17 := f17) (f18 := f18) (f20 := f20) (f21 := f21) (f22 := f22) (f23 := f23) z hm hN h5 5 d (by decide) p s p0 p1 hn hn2 hT Q
        have hE := m_every (G := G) (D := d + 15) (h0 := h0) (m := m) (f0 := f0) (f4 := f4) (f5 := f5) (f7 := f7) (f12 := f12) (f13 := f13) (f14 := f14) (f17 := f17) (f18 := f18) (f20 := f20) (f21 := f21) (f22 := f22) (f23 := f23) (o := 0) hN h5 (sg_g 5) hF
        have hS : ∀ Q : KQ, wpC G (d + 23) 148 [vR m] (mP m h0 (mO m f0 f4 f5 (n.2 + 1) f7 0 0 f12 f13 f14 f17 f18 f20 f21 f22 f23) s) Q = Q none (mP m h0 (mO m f0 f4 f5 ((eiF T f7 (sgF T f7 5) (n.2 + 1)).2.1) f7 (wB (eiF T f7 (sgF T f7 5) (n.2 + 1)).1) 0 f12 f13 f14 f17 f18 f20 f21 f22 f23) (sE f5 s ((eiF T f7 (sgF T f7 5) (n.2 + 1)).2.2.map trC))) := fun Q => m_some (G := G) (D := d + 16) (h0 := h0) (m := m) (f0 := f0) (f4 := f4) (f5 := f5) (f7 := f7) (f12 := f12) (f13 := f13) (f14 := f14) (f17 := f17) (f18 := f18) (f20 := f20) (f21 := f21) (f22 := f22) (f23 := f23) (o := 0) hN h5 (bo_g (sg_g 5)) hE (n.2 + 1) s (by omega) (by omega) hn0 (by omega) hT Q
        obtain ⟨⟨b1, b2⟩, b3, -, -⟩ := ei_g (T := T) (N := f7) (sg_g 5) (n.2 + 1) (by omega) (by omega)
        rw [if_pos c4]
        generalize eiF T f7 (sgF T f7 5) (n.2 + 1) = r at hS b1 b2 b3 ⊢
        obtain ⟨b, q, l⟩ := r
        have b1 : n.2 + 1 ≤ q := b1
        have b2 : q ≤ f7 := b2
        have b3 : (l.length : Int) ≤ q - (n.2 + 1) := b3
        have hn3 := sE_n (a := f5) (l.map trC) s
        rw [List.length_map] at hn3
        cases b with
        | true =>
          have he := fun (x : Int) (K : KQ) => m_emits0 (G := G) (d := d + 22) (Q := K) (h0 := h0) (m := m) (f0 := f0) (f4 := f4) (f5 := f5) (f7 := f7) (f12 := f12) (f13 := f13) (f14 := f14) (f17 := f17) (f18 := f18) (f20 := f20) (f21 := f21) (f22 := f22) (f23 := f23) (p := q) (s := sE f5 s (l.map trC)) (o := 0) (x := x) h5 ⟨by omega, by omega⟩
          rw [if_pos rfl]
          show _ = Q none (mP m h0 (mO m f0 f4 f5 q f7 0 0 f12 f13 f14 f17 f18 f20 f21 f22 f23) (sE f5 s (l.map trC ++ [K0 - n.1])))
          rw [sE_app]
          show _ = Q none (mP m h0 (mO m f0 f4 f5 q f7 0 0 f12 f13 f14 f17 f18 f20 f21 f22 f23) (emF f5 (sE f5 s (l.map trC)) (K0 - n.1)))
          simp (disch := omega) only [KK, Int.reduceEq, not_false_iff, ↓reduceIte, ↓if_pos, ↓if_neg, xt_o, true_and, nlO_i, nlO_n, nlO_r, List.length_nil, List.length_cons, Nat.reduceAdd, Nat.reduceLeDiff, Nat.zero_le, U147, mP_m, mP_s, hs, hg, hu, hS, he, wB_t, GX13, VS13, ar_sub]
        | false =>
          rw [if_neg (fun z => ff_t z)]
          show _ = Q none (mP m h0 (mO m f0 f4 f5 q f7 1 0 f12 f13 f14 f17 f18 f20 f21 f22 f23) (sE f5 s (l.map trC)))
          simp (disch := omega) only [KK, Int.reduceEq, not_false_iff, ↓reduceIte, ↓if_pos, ↓if_neg, xt_o, true_and, nlO_i, nlO_n, nlO_r, List.length_nil, List.length_cons, Nat.reduceAdd, Nat.reduceLeDiff, Nat.zero_le, U147, mP_m, mP_s, hs, hg, hu, hS, he1, wB_t, wB_f, GX13, VS13]
      · have hu := fun (K : KQ) => (hu K).trans (by rw [if_neg c4])
        rw [if_neg c4]
        show _ = Q none (mP m h0 (mO m f0 f4 f5 (n.2) f7 1 0 f12 f13 f14 f17 f18 f20 f21 f22 f23) s)
        simp (disch := omega) only [KK, Int.reduceEq, not_false_iff, ↓reduceIte, ↓if_pos, ↓if_neg, xt_o, true_and, nlO_i, nlO_n, nlO_r, List.length_nil, List.length_cons, Nat.reduceAdd, Nat.reduceLeDiff, Nat.zero_le, U147, mP_m, mP_s, hs, hg, hu, hw1, he1, wB_t, GX13, VS13]
  · rw [Bool.eq_false_iff.mpr c1] at hs
    have hg := fun (K : KQ) => m_figures1 (G := G) (d := d + 21) (Q := K) (h0 := h0) (m := m) (f0 := f0) (f4 := f4) (f5 := f5) (f7 := f7) (f12 := f12) (f13 := f13) (f14 := f14) (f17 := f17) (f18 := f18) (f20 := f20) (f21 := f21) (f22 := f22) (f23 := f23) (p := a.2) (o := 0) hT (by omega) hN
    have hu1 := hu1 a.2 (by omega) hw.2
    rw [if_neg c1]
    show _ = Q none (mP m h0 (mO m f0 f4 f5 (a.2) f7 1 0 f12 f13 f14 f17 f18 f20 f21 f22 f23) s)
    simp (disch := omega) only [KK, Int.reduceEq, not_false_iff, ↓reduceIte, ↓if_pos, ↓if_neg, xt_o, true_and, nlO_i, nlO_n, nlO_r, List.length_nil, List.length_cons, Nat.reduceAdd, Nat.reduceLeDiff, Nat.zero_le, U147, mP_m, mP_s, hs, hg, hu1, hw1, he1, wB_f, GX13, VS13]
theorem m_clause (z : qSt G h0) (hm : G.1 ≤ m) (hT : sT s T) (hN : f7 ≤ 100) (h5 : 0 ≤ f5 ∧ f5 ≤ 4) (p0 : 0 ≤ p) (p1 : p ≤ f7) (hn0 : 0 ≤ s (232 + f5)) (hn2 : s (232 + f5) ≤ p) : wpC G (d + 25) 141 [vR m] (mP m h0 (mO m f0 f4 f5 p f7 0 0 f12 f13 f14 f17 f18 f20 f21 f22 f23) s) Q = Q none (mP m h0 (mO m f0 f4 f5 ((clF T f7 p).2.1) f7 (wC (clF T f7 p)) 0 f12 f13 f14 f17 f18 f20 f21 f22 f23) (scF f5 s (clF T f7 p))) := by
  have hh := fun (K : KQ) => m_here (G := G) (d := d + 23) (Q := K) (h0 := h0) (m := m) (f0 := f0) (f4 := f4) (f5 := f5) (f7 := f7) (f12 := f12) (f13 := f13) (f14 := f14) (f17 := f17) (f18 := f18) (f20 := f20) (f21 := f21) (f22 := f22) (f23 := f23) (w := 0) (o := 0) hT p0 hN
  rw [e141]
  by_cases c1 : hrF T f7 p = 98
  · have e := fun (K : KQ) => m_much (G := G) (d := d) (Q := K) (h0 := h0) (m := m) (f0 := f0) (f4 := f4) (f5 := f5) (f7 := f7) (f12 := f12) (f13 := f13) (f14 := f14) (f17 := f17) (f18 := f18) (f20 := f20) (f21 := f21) (f22 := f22) (f23 := f23) z hm hT hN h5 p0 p1 hn0 hn2 (by omega) (i := 10) (by decide) (by rw [c1]; rfl) (if_pos c1)
    simp (disch := omega) only [KK, Int.reduceEq, not_false_iff, ↓reduceIte, ↓if_pos, ↓if_neg, xt_o, true_and, nlO_i, nlO_n, nlO_r, List.length_nil, List.length_cons, Nat.reduceAdd, Nat.reduceLeDiff, Nat.zero_le, U141, mP_m, hh, c1, e, VS13]
  · by_cases c2 : hrF T f7 p = 110
    · have e := fun (K : KQ) => m_tells (G := G) (d := d + 18) (Q := K) (h0 := h0) (m := m) (f0 := f0) (f4 := f4) (f5 := f5) (f7 := f7) (f12 := f12) (f13 := f13) (f14 := f14) (f17 := f17) (f18 := f18) (f20 := f20) (f21 := f21) (f22 := f22) (f23 := f23) z hm hT hN h5 p0 p1 c2
      simp (disch := omega) only [KK, Int.reduceEq, not_false_iff, ↓reduceIte, ↓if_pos, ↓if_neg, xt_o, true_and, nlO_i, nlO_n, nlO_r, List.length_nil, List.length_cons, Nat.reduceAdd, Nat.reduceLeDiff, Nat.zero_le, U141, mP_m, hh, c2, e, VS13]
    · by_cases c3 : hrF T f7 p = 115
      · have e := fun (K : KQ) => m_much (G := G) (d := d) (Q := K) (h0 := h0) (m := m) (f0 := f0) (f4 := f4) (f5 := f5) (f7 := f7) (f12 := f12) (f13 := f13) (f14 := f14) (f17 := f17) (f18 := f18) (f20 := f20) (f21 := f21) (f22 := f22) (f23 := f23) z hm hT hN h5 p0 p1 hn0 hn2 c2 (i := 11) (by decide) (by rw [c3]; rfl) (if_neg c1)
        simp (disch := omega) only [KK, Int.reduceEq, not_false_iff, ↓reduceIte, ↓if_pos, ↓if_neg, xt_o, true_and, nlO_i, nlO_n, nlO_r, List.length_nil, List.length_cons, Nat.reduceAdd, Nat.reduceLeDiff, Nat.zero_le, U141, mP_m, hh, c3, e, VS13]
      · have e0 : fwF (hrF T f7 p) = 2 := by unfold fwF; rw [if_neg c2, if_neg c1]
        have e1 : wdF T f7 (wS 2) p = (false, p) := if_neg (by omega)
        have e : clF T f7 p = (0, p, 0, []) := by
          unfold clF
          rw [e0, e1]
          exact if_neg (fun z => ff_t z)
        rw [e]
        show _ = Q none (mP m h0 (mO m f0 f4 f5 p f7 1 0 f12 f13 f14 f17 f18 f20 f21 f22 f23) s)
        simp (disch := omega) only [KK, Int.reduceEq, not_false_iff, ↓reduceIte, ↓if_pos, ↓if_neg, xt_o, true_and, nlO_i, nlO_n, nlO_r, List.length_nil, List.length_cons, Nat.reduceAdd, Nat.reduceLeDiff, Nat.zero_le, U141, mP_m, mP_hm, hh, c1, c2, c3, VS13, PX13, true_or, or_true]
end R6
