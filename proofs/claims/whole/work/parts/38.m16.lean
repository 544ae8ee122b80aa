/-! as said -/
section M16
variable {G : MG} {d : Nat} {Q : KQ}
variable {m : Nat} {s : Int → Int} {f0 f4 f5 f6 f7 f8 f9 f12 f13 f14 f17 f18 f20 f21 f22 f23 : Int}
theorem m_isAsSaid_l (ok : okM s) (h30 : 0 ≤ s 30 ∧ s 30 ≤ 5) {p : Int} (oa : okA s p) : ∀ (n : Nat) (h : MH) (y t : Int → Int) (i a : Int), h.2.2 m = some (mO m f0 f4 f5 f6 f7 f8 f9 f12 f13 f14 f17 f18 f20 f21 f22 f23) → h.2.2 (m + 1) = some (cArr 0 937 (ix s)) → h.2.2 (m + 4) = some (cArr 0 6 (ix y)) → h.2.2 (m + 5) = some (cArr 1 64 (ix t)) → (a = 0 ∨ a = 1) → 0 ≤ i → i + n = s 30 → ∃ y' t' : Int → Int, ∀ Q : KQ, wp G (d + 3) 201 4 [some (vR m), some (vI p), some (vI a), some (vI i)] [] h Q = Q (some (vI (asF s p n i a))) (scr m y' t' h) := by
  intro n
  induction n with
  | zero =>
    intro h y t i a hm hs hy ht ha i0 hi
    refine ⟨y, t, fun Q => ?_⟩
    rw [asF, scr_same hy ht, u201_4]
    simp (disch := omega) only [U201, KK, ↓if_pos, hm, hs, GX13, xa_i, ha, true_and]
  | succ n ih =>
    intro h y t i a hm hs hy ht ha i0 hi
    rw [asF]
    by_cases c : a = 0
    · rw [if_neg (fun z => z.1 c)]
      obtain ⟨y2, t2, h2⟩ := ih h y t (i + 1) 0 hm hs hy ht (Or.inl rfl) (by omega) (by omega)
      refine ⟨y2, t2, fun Q => ?_⟩
      rw [← h2 Q, u201_4]
      simp (disch := omega) only [U201, KK, ↓if_neg, ↓if_pos, hm, hs, GX13, xa_i, ar_add (a := i), nlO_i, nlO_r, true_and]
    · obtain ⟨y1, t1, h1⟩ := m_saysOf (G := G) (d := d) hm hs hy ht ok (p := p) (hd := s (85 + i)) oa
      have z0 : (scr m y1 t1 h).2.2 m = _ := (scr_m (by omega) (by omega)).trans hm
      have z1 : (scr m y1 t1 h).2.2 (m + 1) = _ := (scr_m (by omega) (by omega)).trans hs
      obtain ⟨y2, t2, h2⟩ := ih (scr m y1 t1 h) y1 t1 (i + 1) (if ¬ a = 0 ∧ SAYS s p (s (85 + i)) = s (90 + i) then 1 else 0) z0 z1 scr_4 scr_5 (by split; exact Or.inr rfl; exact Or.inl rfl) (by omega) (by omega)
      refine ⟨y2, t2, fun Q => ?_⟩
      have h3 := h2 Q
      rw [scr_scr] at h3
      rw [← h3, u201_4]
      by_cases e : SAYS s p (s (85 + i)) = s (90 + i)
      · rw [if_pos ⟨c, e⟩]
        simp (disch := omega) only [U201, KK, ↓if_neg, ↓if_pos, hm, hs, z0, z1, GX13, xa_i, h1, ar_add (a := 85), ar_add (a := 90), ar_add (a := i), xt_o, VS13, nlO_i, nlO_n, nlO_r, true_and, List.length_nil, List.length_cons, Nat.reduceAdd, Nat.reduceLeDiff, Nat.zero_le]
      · rw [if_neg (fun z => e z.2)]
        simp (disch := omega) only [U201, KK, ↓if_neg, ↓if_pos, hm, hs, z0, z1, GX13, xa_i, h1, ar_add (a := 85), ar_add (a := 90), ar_add (a := i), xt_o, VS13, nlO_i, nlO_n, nlO_r, true_and, List.length_nil, List.length_cons, Nat.reduceAdd, Nat.reduceLeDiff, Nat.zero_le]
theorem asF_01 {p : Int} : ∀ (n : Nat) (i a : Int), (a = 0 ∨ a = 1) → asF s p n i a = 0 ∨ asF s p n i a = 1
  | 0, _, _, h => h
  | n + 1, i, a, _ => by
    rw [asF]
    exact asF_01 n (i + 1) _ (by split; exact Or.inr rfl; exact Or.inl rfl)
theorem m_isAsSaid {h : MH} {y t : Int → Int} (hm : h.2.2 m = some (mO m f0 f4 f5 f6 f7 f8 f9 f12 f13 f14 f17 f18 f20 f21 f22 f23)) (hs : h.2.2 (m + 1) = some (cArr 0 937 (ix s))) (hy : h.2.2 (m + 4) = some (cArr 0 6 (ix y))) (ht : h.2.2 (m + 5) = some (cArr 1 64 (ix t))) (ok : okM s) (h30 : 0 ≤ s 30 ∧ s 30 ≤ 5) {p : Int} (oa : okA s p) : ∃ y' t' : Int → Int, ∀ Q : KQ, wpC G (d + 4) 201 [vR m, vI p] h Q = Q (some (vI (ASSAID s p))) (scr m y' t' h) := by
  obtain ⟨y', t', h1⟩ := m_isAsSaid_l (G := G) (d := d) ok h30 oa (s 30).toNat h y t 0 1 hm hs hy ht (Or.inr rfl) (by omega) (by omega)
  refine ⟨y', t', fun Q => ?_⟩
  unfold ASSAID
  rw [← h1 Q, e201]
  simp only [U201, nlO_n, nlO_i, nlO_r, true_and]
end M16
