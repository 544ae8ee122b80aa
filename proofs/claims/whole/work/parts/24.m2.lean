/-! sets of facts as numbers 0 .. 255 -/
def chkSet (x : Int) : Bool := (List.range 8).all (fun k => let b := bt x k
  (decide (b = 0) || decide (b = 1)) &&
  (let y := iBin 3 x (iBin 5 (iBin 6 1 k) (-1)); decide (0 ≤ y) && decide (y ≤ x) && (decide (b = 0) || decide (y < x))) &&
  (let y := iBin 4 x (iBin 6 1 k); decide (0 ≤ y) && decide (y ≤ 255))) && (decide (x = 0) || (List.range 8).any (fun k => decide (bt x k = 1))) && decide (0 ≤ cnt x) && decide (cnt x ≤ 8)
theorem chkSet_all : (List.range 256).all (fun n => chkSet n) = true := by decide +kernel
theorem set_of {x : Int} (h0 : 0 ≤ x) (h1 : x ≤ 255) : chkSet x = true := by
  have := List.all_eq_true.mp chkSet_all x.toNat (List.mem_range.mpr (by omega))
  rw [Int.toNat_of_nonneg h0] at this
  exact this
theorem set_k {x k : Int} (h0 : 0 ≤ x) (h1 : x ≤ 255) (k0 : 0 ≤ k) (k1 : k < 8) : (bt x k = 0 ∨ bt x k = 1) ∧ (0 ≤ iBin 3 x (iBin 5 (iBin 6 1 k) (-1)) ∧ iBin 3 x (iBin 5 (iBin 6 1 k) (-1)) ≤ x ∧ (bt x k = 0 ∨ iBin 3 x (iBin 5 (iBin 6 1 k) (-1)) < x)) ∧ 0 ≤ iBin 4 x (iBin 6 1 k) ∧ iBin 4 x (iBin 6 1 k) ≤ 255 := by
  have h := set_of h0 h1
  unfold chkSet at h
  simp only [Bool.and_eq_true, List.all_eq_true] at h
  have h2 := h.1.1.1 k.toNat (List.mem_range.mpr (by omega))
  rw [Int.toNat_of_nonneg k0] at h2
  simp only [Bool.or_eq_true, decide_eq_true_eq] at h2
  exact ⟨h2.1.1, ⟨h2.1.2.1.1, h2.1.2.1.2, h2.1.2.2⟩, h2.2.1, h2.2.2⟩
theorem set_ex {x : Int} (h0 : 0 ≤ x) (h1 : x ≤ 255) (hx : ¬ x = 0) : ∃ k : Int, 0 ≤ k ∧ k < 8 ∧ bt x k = 1 := by
  have h := set_of h0 h1
  unfold chkSet at h
  simp only [Bool.and_eq_true, Bool.or_eq_true, decide_eq_true_eq] at h
  rcases h.1.1.2 with h2 | h2
  · exact absurd h2 hx
  · obtain ⟨k, hk, h3⟩ := List.any_eq_true.mp h2
    have := List.mem_range.mp hk
    exact ⟨k, by omega, by omega, of_decide_eq_true h3⟩
theorem set_cnt {x : Int} (h0 : 0 ≤ x) (h1 : x ≤ 255) : 0 ≤ cnt x ∧ cnt x ≤ 8 := by
  have h := set_of h0 h1
  unfold chkSet at h
  simp only [Bool.and_eq_true, decide_eq_true_eq] at h
  exact ⟨h.1.2, h.2⟩
/-! which fact is next, which are chosen -/
/-- is fact f to be taken rather than the best till now -/
abbrev btr (s : Int → Int) (how best f : Int) : Prop := best = -1 ∨ how = 2 ∨ (how = 1 ∧ s (35 + best) < s (35 + f))
def pickF (s : Int → Int) (rest how : Int) : Nat → Int → Int → Int
  | 0, _, b => b
  | n + 1, f, b => pickF s rest how n (f + 1) (if bt rest f = 1 ∧ btr s how b f then f else b)
def pick (s : Int → Int) (rest how : Int) : Int := pickF s rest how 8 0 (-1)
def choF (s : Int → Int) (many how : Int) : Nat → Int → Int → Int → Int
  | 0, _, set, _ => set
  | k + 1, rest, set, n => if n < many ∧ ¬ rest = 0 then choF s many how k (iBin 3 rest (iBin 5 (iBin 6 1 (pick s rest how)) (-1))) (iBin 4 set (iBin 6 1 (pick s rest how))) (iBin 0 n 1) else set
def CHO (s : Int → Int) (facts many how : Int) : Int := choF s many how 256 facts 0 0
theorem pickF_in {s : Int → Int} {rest how : Int} : ∀ (n : Nat) (f b : Int), f + n = 8 → 0 ≤ f → (b = -1 ∨ (0 ≤ b ∧ b < f ∧ bt rest b = 1)) → (pickF s rest how n f b = -1 ∧ b = -1 ∧ (∀ k, f ≤ k → k < 8 → ¬ bt rest k = 1)) ∨ (0 ≤ pickF s rest how n f b ∧ pickF s rest how n f b < 8 ∧ bt rest (pickF s rest how n f b) = 1)
  | 0, f, b, hf, h0, hb => by
    rcases hb with hb | ⟨h1, h2, h3⟩
    · exact Or.inl ⟨hb, hb, fun k h1 h2 => by omega⟩
    · exact Or.inr ⟨h1, by show b < 8; omega, h3⟩
  | n + 1, f, b, hf, h0, hb => by
    rw [pickF]
    by_cases e : bt rest f = 1 ∧ btr s how b f
    · rw [if_pos e]
      rcases pickF_in (s := s) (how := how) n (f + 1) f (by omega) (by omega) (Or.inr ⟨h0, by omega, e.1⟩) with ⟨-, h2, -⟩ | h
      · omega
      · exact Or.inr h
    · rw [if_neg e]
      rcases pickF_in (s := s) (how := how) n (f + 1) b (by omega) (by omega) (hb.elim Or.inl (fun z => Or.inr ⟨z.1, by omega, z.2.2⟩)) with ⟨h1, h2, h3⟩ | h
      · refine Or.inl ⟨h1, h2, fun k k1 k2 hk => ?_⟩
        by_cases ek : k = f
        · subst ek; exact e ⟨hk, Or.inl h2⟩
        · exact h3 k (by omega) k2 hk
      · exact Or.inr h
theorem pick_in {s : Int → Int} {rest how : Int} (h0 : 0 ≤ rest) (h1 : rest ≤ 255) (hr : ¬ rest = 0) : 0 ≤ pick s rest how ∧ pick s rest how < 8 ∧ bt rest (pick s rest how) = 1 := by
  rcases pickF_in (s := s) (rest := rest) (how := how) 8 0 (-1) rfl (by omega) (Or.inl rfl) with ⟨-, -, h3⟩ | h
  · obtain ⟨k, k0, k1, k2⟩ := set_ex h0 h1 hr
    exact absurd k2 (h3 k k0 k1)
  · exact h
section M2
variable {G : MG} {d : Nat} {h : MH} {Q : KQ}
variable {m : Nat} {s : Int → Int} {f0 f4 f5 f6 f7 f8 f9 f12 f13 f14 f17 f18 f20 f21 f22 f23 : Int}
theorem m_pick_l (hm : h.2.2 m = some (mO m f0 f4 f5 f6 f7 f8 f9 f12 f13 f14 f17 f18 f20 f21 f22 f23)) (hs : h.2.2 (m + 1) = some (cArr 0 937 (ix s))) {l1 : Option V} {many how rest set n : Int} : ∀ (k : Nat) (f b : Int) (l9 l10 : Option V), f + k = 8 → 0 ≤ f → -1 ≤ b → b < 8 → nlO l9 = true → nlO l10 = true → ∃ l9' l10' : Option V, nlO l9' = true ∧ nlO l10' = true ∧ wp G d 163 26 [some (vR m), l1, some (vI many), some (vI how), some (vI rest), some (vI set), some (vI n), some (vI b), some (vI f), l9, l10] [] h Q = wp G d 163 122 [some (vR m), l1, some (vI many), some (vI how), some (vI rest), some (vI set), some (vI n), some (vI (pickF s rest how k f b)), some (vI 8), l9', l10'] [] h Q
  | 0, f, b, l9, l10, hf, h0, b0, b1, n9, n10 => by
    refine ⟨l9, l10, n9, n10, ?_⟩
    have : f = 8 := by omega
    subst this
    rw [u163_26]
    simp (disch := omega) only [U163, KK, ↓if_pos, pickF]
  | k + 1, f, b, l9, l10, hf, h0, b0, b1, n9, n10 => by
    have key : ∀ (g : Int) (z9 z10 : Int), g = (if bt rest f = 1 ∧ btr s how b f then f else b) → wp G d 163 26 [some (vR m), l1, some (vI many), some (vI how), some (vI rest), some (vI set), some (vI n), some (vI b), some (vI f), l9, l10] [] h Q = wp G d 163 26 [some (vR m), l1, some (vI many), some (vI how), some (vI rest), some (vI set), some (vI n), some (vI g), some (vI (f + 1)), some (vI z9), some (vI z10)] [] h Q → ∃ l9' l10' : Option V, nlO l9' = true ∧ nlO l10' = true ∧ wp G d 163 26 [some (vR m), l1, some (vI many), some (vI how), some (vI rest), some (vI set), some (vI n), some (vI b), some (vI f), l9, l10] [] h Q = wp G d 163 122 [some (vR m), l1, some (vI many), some (vI how), some (vI rest), some (vI set), some (vI n), some (vI (pickF s rest how (k + 1) f b)), some (vI 8), l9', l10'] [] h Q := by
      intro g z9 z10 hg hw
      have gb : -1 ≤ g ∧ g < 8 := by
        rw [hg]; split <;> omega
      obtain ⟨a, c, na, nc, ih⟩ := m_pick_l hm hs (l1 := l1) (many := many) (how := how) (rest := rest) (set := set) (n := n) k (f + 1) g (some (vI z9)) (some (vI z10)) (by omega) (by omega) gb.1 gb.2 rfl rfl
      refine ⟨a, c, na, nc, ?_⟩
      rw [hw, ih, pickF, ← hg]
    by_cases e1 : iBin 3 (iBin 7 rest f) 1 = 1
    · by_cases e2 : btr s how b f
      · refine key f 1 1 (if_pos ⟨e1, e2⟩).symm ?_
        by_cases c1 : b = -1
        · rw [u163_26]
          simp (disch := omega) only [U163, KK, ↓if_neg, ↓if_pos, n9, n10, nlO_i, true_and, ar_add (a := f)]
        · by_cases c2 : how = 2
          · rw [u163_26]
            simp (disch := omega) only [U163, KK, ↓if_neg, ↓if_pos, n9, n10, nlO_i, true_and, ar_add (a := f)]
          · have c3 : how = 1 ∧ s (35 + b) < s (35 + f) := by rcases e2 with e2 | e2 | e2; exact absurd e2 c1; exact absurd e2 c2; exact e2
            obtain ⟨c3, c4⟩ := c3
            rw [u163_26]
            simp (disch := omega) only [U163, KK, ↓if_neg, ↓if_pos, hm, hs, GX13, xa_i, n9, n10, nlO_i, true_and, ar_add (a := f), ar_add (a := 35)]
      · refine key b 1 0 (if_neg (fun z => e2 z.2)).symm ?_
        have c1 : ¬ b = -1 := fun z => e2 (Or.inl z)
        have c2 : ¬ how = 2 := fun z => e2 (Or.inr (Or.inl z))
        by_cases c3 : how = 1
        · have c4 : s (35 + f) ≤ s (35 + b) := by
            have := fun z => e2 (Or.inr (Or.inr ⟨c3, z⟩))
            omega
          rw [u163_26]
          simp (disch := omega) only [U163, KK, ↓if_neg, ↓if_pos, hm, hs, GX13, xa_i, n9, n10, nlO_i, true_and, ar_add (a := f), ar_add (a := 35)]
        · rw [u163_26]
          simp (disch := omega) only [U163, KK, ↓if_neg, ↓if_pos, n9, n10, nlO_i, true_and, ar_add (a := f)]
    · have kk : ∀ z10 : Int, _ := fun z10 => key b 0 z10 (if_neg (fun z => e1 z.1)).symm
      by_cases c1 : b = -1
      · refine kk 1 ?_
        rw [u163_26]
        simp (disch := omega) only [U163, KK, ↓if_neg, ↓if_pos, n9, n10, nlO_i, true_and, ar_add (a := f)]
      · by_cases c2 : how = 2
        · refine kk 1 ?_
          rw [u163_26]
          simp (disch := omega) only [U163, KK, ↓if_neg, ↓if_pos, n9, n10, nlO_i, true_and, ar_add (a := f)]
        · by_cases c3 : how = 1
          · by_cases c4 : s (35 + f) ≤ s (35 + b)
            · refine kk 0 ?_
              rw [u163_26]
              simp (disch := omega) only [U163, KK, ↓if_neg, ↓if_pos, hm, hs, GX13, xa_i, n9, n10, nlO_i, true_and, ar_add (a := f), ar_add (a := 35)]
            · refine kk 1 ?_
              rw [u163_26]
              simp (disch := omega) only [U163, KK, ↓if_neg, ↓if_pos, hm, hs, GX13, xa_i, n9, n10, nlO_i, true_and, ar_add (a := f), ar_add (a := 35)]
          · refine kk 0 ?_
            rw [u163_26]
            simp (disch := omega) only [U163, KK, ↓if_neg, ↓if_pos, n9, n10, nlO_i, true_and, ar_add (a := f)]
theorem m_cho_l (hm : h.2.2 m = some (mO m f0 f4 f5 f6 f7 f8 f9 f12 f13 f14 f17 f18 f20 f21 f22 f23)) (hs : h.2.2 (m + 1) = some (cArr 0 937 (ix s))) {l1 : Option V} {many how : Int} : ∀ (k : Nat) (rest set n : Int) (l7 l8 l9 l10 : Option V), 0 ≤ rest → rest ≤ 255 → rest.toNat < k → nlO l7 = true → nlO l8 = true → nlO l9 = true → nlO l10 = true → wp G d 163 9 [some (vR m), l1, some (vI many), some (vI how), some (vI rest), some (vI set), some (vI n), l7, l8, l9, l10] [] h Q = Q (some (vI (choF s many how k rest set n))) h
  | 0, rest, set, n, l7, l8, l9, l10, r0, r1, rk, n7, n8, n9, n10 => absurd rk (Nat.not_lt_zero _)
  | k + 1, rest, set, n, l7, l8, l9, l10, r0, r1, rk, n7, n8, n9, n10 => by
    by_cases c1 : n < many
    · by_cases c2 : rest = 0
      · rw [u163_9]
        simp (disch := omega) only [U163, KK, ↓if_neg, ↓if_pos, c2, choF, not_true, and_false, ↓reduceIte]
      · obtain ⟨p0, p1, p2⟩ := pick_in (s := s) (how := how) r0 r1 c2
        obtain ⟨z9, z10, a9, a10, hp⟩ := m_pick_l (G := G) (d := d) (Q := Q) hm hs (l1 := l1) (many := many) (how := how) (rest := rest) (set := set) (n := n) 8 0 (-1) l9 l10 rfl (by omega) (by omega) (by omega) n9 n10
        obtain ⟨-, ⟨q0, q1, q2⟩, -⟩ := set_k r0 r1 p0 p1
        have q3 := q2.resolve_left (by omega)
        have ih := m_cho_l hm hs (l1 := l1) (many := many) (how := how) k (iBin 3 rest (iBin 5 (iBin 6 1 (pick s rest how)) (-1))) (iBin 4 set (iBin 6 1 (pick s rest how))) (iBin 0 n 1) (some (vI (pick s rest how))) (some (vI 8)) z9 z10 q0 (by omega) (by omega) rfl rfl a9 a10
        rw [choF, if_pos ⟨c1, c2⟩, ← ih]
        rw [u163_9]
        simp (disch := omega) only [U163, KK, ↓if_neg, n7, n8, nlO_i, true_and]
        rw [hp]
        simp only [U163, KK, nlO_i, true_and]
        rfl
    · rw [u163_9]
      simp (disch := omega) only [U163, KK, ↓if_pos, choF, c1, false_and, ↓reduceIte]
theorem m_chosen (hm : h.2.2 m = some (mO m f0 f4 f5 f6 f7 f8 f9 f12 f13 f14 f17 f18 f20 f21 f22 f23)) (hs : h.2.2 (m + 1) = some (cArr 0 937 (ix s))) {x many how : Int} (h0 : 0 ≤ x) (h1 : x ≤ 255) : wpC G (d + 1) 163 [vR m, vI x, vI many, vI how] h Q = Q (some (vI (CHO s x many how))) h := by
  rw [e163]
  simp only [U163, KK, nlO_n, nlO_i, nlO_r, true_and]
  exact m_cho_l hm hs 256 x 0 0 none none none none h0 h1 (by omega) rfl rfl rfl rfl
end M2
