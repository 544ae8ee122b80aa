/-! days -/
/-- s' is s but for what the askers have -/
def lowS (s s' : Int → Int) : Prop := ∀ i, (i ≤ 0 ∨ 21 ≤ i) → s' i = s i
theorem lowS_up {s : Int → Int} {k v : Int} (h : 1 ≤ k ∧ k ≤ 20) : lowS s (up s k v) := fun i hi => up_ne (by omega)
theorem lowS_tr {s s' s'' : Int → Int} (h : lowS s s') (h' : lowS s' s'') : lowS s s'' := fun i hi => (h' i hi).trans (h i hi)
theorem lowS_MEET {s : Int → Int} {a : Int} (a0 : 0 ≤ a ∧ a < 5) : lowS s (MEET s a) := by
  unfold MEET
  split
  · exact lowS_up (by omega)
  · split
    · exact lowS_tr (lowS_tr (lowS_up (by omega)) (lowS_up (by omega))) (lowS_up (by omega))
    · exact lowS_tr (lowS_tr (lowS_up (by omega)) (lowS_up (by omega))) (lowS_up (by omega))
theorem lowS_GOA {s : Int → Int} {a : Int} (a0 : 0 ≤ a ∧ a < 5) : lowS s (GOA s a) := by
  unfold GOA
  split
  · exact lowS_MEET a0
  · exact fun _ _ => rfl
theorem seg_congr {s s' : Int → Int} : ∀ (n : Nat) (i : Int), (∀ k, i ≤ k → s' k = s k) → seg s' i n = seg s i n
  | 0, _, _ => rfl
  | n + 1, i, h => by
    rw [seg, seg, h i (Int.le_refl _), seg_congr n (i + 1) (fun k hk => h k (by omega))]
theorem okM_low {s s' : Int → Int} (h : lowS s s') (ok : okM s) : okM s' := by
  obtain ⟨o1, o2, o3, o4, o5, o6, o7⟩ := ok
  have e34 : s' 34 = s 34 := h 34 (by omega)
  have e0 : s' 0 = s 0 := h 0 (by omega)
  have eS : STEPM s' = STEPM s := by
    unfold STEPM
    rw [e34]
    by_cases c : s 34 = -1
    · rw [if_pos c, if_pos c]
    · rw [if_neg c, if_neg c, h _ (by omega)]
  refine ⟨by omega, by omega, by omega, by omega, ?_, by omega, by omega⟩
  rw [eS, e34, seg_congr _ _ (fun k hk => h k (by omega))]
  exact o5
theorem okA_low {s s' : Int → Int} {p : Int} (h : lowS s s') (ok : okA s p) : okA s' p := by
  obtain ⟨p0, p1, q⟩ := ok
  refine ⟨p0, p1, ?_⟩
  rw [h (43 + p) (by omega), h (49 + p) (by omega), h (55 + p) (by omega)]
  exact q
/-- what a day needs -/
def okD (s : Int → Int) : Prop := okM s ∧ (0 ≤ s 28 ∧ s 28 ≤ 5) ∧ (0 ≤ s 27 ∧ s 27 ≤ 6) ∧ (∀ p, 0 ≤ p → p < s 27 → okA s p) ∧ ∀ a, 0 ≤ a → a < 5 → 0 ≤ s (11 + a)
theorem okD_GOA {s : Int → Int} {a : Int} (a0 : 0 ≤ a ∧ a < 5) (ok : okD s) : okD (GOA s a) := by
  have hl := lowS_GOA (s := s) a0
  obtain ⟨o1, o2, o3, o4, o5⟩ := ok
  refine ⟨okM_low hl o1, by rw [hl 28 (by omega)]; exact o2, by rw [hl 27 (by omega)]; exact o3, fun p p0 p1 => okA_low hl (o4 p p0 (by rw [hl 27 (by omega)] at p1; exact p1)), fun b b0 b1 => ?_⟩
  have hb := o5 b b0 b1
  have ha := o5 a a0.1 a0.2
  unfold GOA
  split
  · unfold MEET
    split
    · by_cases e : b = a
      · rw [e, up_eq]; omega
      · rw [up_ne (by omega)]; exact hb
    · split
      · unfold MEETs
        rw [up_ne (by omega), up_ne (by omega), up_ne (by omega)]; exact hb
      · by_cases e : b = a
        · rw [e, up_eq]; omega
        · unfold MEETs
          rw [up_ne (by omega), up_ne (by omega), up_ne (by omega)]; exact hb
  · exact hb
def GOF : Nat → Int → (Int → Int) → (Int → Int)
  | 0, _, s => s
  | n + 1, a, s => GOF n (a + 1) (GOA s a)
def GOES (s : Int → Int) : Int → Int := up (GOF (s 28).toNat 0 s) 0 (s 0 + 1)
theorem GOF_ok : ∀ (n : Nat) (a : Int) (s : Int → Int), 0 ≤ a → a + n ≤ 5 → okD s → okD (GOF n a s) ∧ lowS s (GOF n a s)
  | 0, _, _, _, _, ok => ⟨ok, fun _ _ => rfl⟩
  | n + 1, a, s, a0, a1, ok => by
    have z := GOF_ok n (a + 1) (GOA s a) (by omega) (by omega) (okD_GOA ⟨a0, by omega⟩ ok)
    exact ⟨z.1, lowS_tr (lowS_GOA ⟨a0, by omega⟩) z.2⟩
section M9
variable {G : MG} {d : Nat} {Q : KQ}
variable {m : Nat} {f0 f4 f5 f6 f7 f8 f9 f12 f13 f14 f17 f18 f20 f21 f22 f23 : Int}
theorem m_isThrough {s : Int → Int} {h : MH} (hm : h.2.2 m = some (mO m f0 f4 f5 f6 f7 f8 f9 f12 f13 f14 f17 f18 f20 f21 f22 f23)) (hs : h.2.2 (m + 1) = some (cArr 0 937 (ix s))) {a : Int} (a0 : 0 ≤ a ∧ a < 5) : wpC G (d + 1) 176 [vR m, vI a] h Q = Q (some (vI (if s 27 ≤ s (11 + a) then 1 else 0))) h := by
  rw [e176]
  by_cases c : s 27 ≤ s (11 + a)
  · simp (disch := omega) only [U176, KK, Int.reduceEq, not_false_iff, ↓reduceIte, ↓if_pos, ↓if_neg, hm, hs, GX13, xa_i, ar_add, true_and, or_true, true_or]
  · simp (disch := omega) only [U176, KK, Int.reduceEq, not_false_iff, ↓reduceIte, ↓if_pos, ↓if_neg, hm, hs, GX13, xa_i, ar_add, true_and, or_true, true_or]
theorem m_goes_l : ∀ (n : Nat) (s : Int → Int) (h : MH) (y t : Int → Int) (a : Int), h.2.2 m = some (mO m f0 f4 f5 f6 f7 f8 f9 f12 f13 f14 f17 f18 f20 f21 f22 f23) → h.2.2 (m + 1) = some (cArr 0 937 (ix s)) → h.2.2 (m + 4) = some (cArr 0 6 (ix y)) → h.2.2 (m + 5) = some (cArr 1 64 (ix t)) → okD s → 0 ≤ a → a + n = s 28 → ∃ y' t' : Int → Int, ∀ Q : KQ, wp G (d + 4) 175 2 [some (vR m), some (vI a)] [] h Q = Q none (mst m (up (GOF n a s) 0 (s 0 + 1)) y' t' h) := by
  intro n
  induction n with
  | zero =>
    intro s h y t a hm hs hy ht ok a0 an
    obtain ⟨⟨o1, o2, o3, o4, o5, o6, o7⟩, o8, o9, -⟩ := ok
    refine ⟨y, t, fun Q => ?_⟩
    unfold mst
    rw [scr_same hy ht, u175_2, GOF]
    simp (disch := omega) only [U175, KK, ↓if_pos, hm, hs, GX13, xa_i, xs_i, ar_add, true_and]
  | succ n ih =>
    intro s h y t a hm hs hy ht ok a0 an
    have ok' := ok
    obtain ⟨hM, o8, o9, hA, hP⟩ := ok'
    have a5 : 0 ≤ a ∧ a < 5 := ⟨a0, by omega⟩
    rw [GOF]
    by_cases c : s (16 + a) = 0 ∧ s (11 + a) < s 27
    · obtain ⟨y1, t1, h1⟩ := m_meets (G := G) (d := d) hm hs hy ht hM a5 (hA _ (hP a a5.1 a5.2) c.2)
      have eG : GOA s a = MEET s a := if_pos c
      have hl : lowS s (GOA s a) := lowS_GOA a5
      have okG := okD_GOA a5 ok
      rw [eG] at hl okG ⊢
      obtain ⟨y2, t2, h2⟩ := ih (MEET s a) (mst m (MEET s a) y1 t1 h) y1 t1 (a + 1) (by rw [mst_m (by omega) (by omega) (by omega)]; exact hm) mst_1 mst_4 mst_5 okG (by omega) (by rw [hl 28 (by omega)]; omega)
      refine ⟨y2, t2, fun Q => ?_⟩
      have h3 := h2 Q
      rw [mst_mst, hl 0 (by omega)] at h3
      rw [← h3, u175_2]
      obtain ⟨c1, c2⟩ := c
      have hT := fun (K : KQ) => m_isThrough (G := G) (d := d + 3) (Q := K) hm hs a5
      simp (disch := omega) only [U175, KK, Int.reduceEq, not_false_iff, ↓reduceIte, ↓if_pos, ↓if_neg, hm, hs, GX13, xa_i, ar_add, hT, h1, xt_o, VS13, nlO_i, nlO_n, nlO_r, true_and, List.length_nil, List.length_cons, Nat.reduceAdd, Nat.reduceLeDiff, Nat.zero_le]
    · have eG : GOA s a = s := if_neg c
      rw [eG]
      obtain ⟨y2, t2, h2⟩ := ih s h y t (a + 1) hm hs hy ht ok (by omega) (by omega)
      refine ⟨y2, t2, fun Q => ?_⟩
      rw [← h2 Q, u175_2]
      have hT := fun (K : KQ) => m_isThrough (G := G) (d := d + 3) (Q := K) hm hs a5
      by_cases c1 : s (16 + a) = 0
      · have c2 : s 27 ≤ s (11 + a) := by
          have := fun z => c ⟨c1, z⟩
          omega
        simp (disch := omega) only [U175, KK, Int.reduceEq, not_false_iff, ↓reduceIte, ↓if_pos, ↓if_neg, hm, hs, GX13, xa_i, ar_add, hT, xt_o, VS13, nlO_i, nlO_n, nlO_r, true_and, List.length_nil, List.length_cons, Nat.reduceAdd, Nat.reduceLeDiff, Nat.zero_le]
      · simp (disch := omega) only [U175, KK, Int.reduceEq, not_false_iff, ↓reduceIte, ↓if_pos, ↓if_neg, hm, hs, GX13, xa_i, ar_add, nlO_i, nlO_n, nlO_r, true_and]
theorem m_goes {s : Int → Int} {h : MH} {y t : Int → Int} (hm : h.2.2 m = some (mO m f0 f4 f5 f6 f7 f8 f9 f12 f13 f14 f17 f18 f20 f21 f22 f23)) (hs : h.2.2 (m + 1) = some (cArr 0 937 (ix s))) (hy : h.2.2 (m + 4) = some (cArr 0 6 (ix y))) (ht : h.2.2 (m + 5) = some (cArr 1 64 (ix t))) (ok : okD s) : ∃ y' t' : Int → Int, ∀ Q : KQ, wpC G (d + 5) 175 [vR m] h Q = Q none (mst m (GOES s) y' t' h) := by
  obtain ⟨y', t', h1⟩ := m_goes_l (G := G) (d := d) (s 28).toNat s h y t 0 hm hs hy ht ok (by omega) (by have := ok.2.1; omega)
  refine ⟨y', t', fun Q => ?_⟩
  unfold GOES
  rw [← h1 Q, e175]
  simp only [U175, nlO_n, nlO_i, nlO_r, true_and]
end M9
