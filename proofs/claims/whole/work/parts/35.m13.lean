/-! a climb -/
def clH (s : Int → Int) (p H B : Int) : Int := if B = -5 ∧ s (21 + p) = 0 then iBin 4 H (SAYS s p H) else H
def clS (s : Int → Int) (p H S B : Int) : Int := if B = -5 ∧ s (21 + p) = 0 then iBin 0 S (WGT s (SAYS s p H)) else S
def clB (s : Int → Int) (p H S B : Int) : Int := if B = -5 ∧ s (21 + p) = 0 then (if NERVE s < iBin 0 S (WGT s (SAYS s p H)) then p else -5) else B
section M13
variable {G : MG} {d : Nat} {Q : KQ}
variable {m : Nat} {s : Int → Int} {f0 f4 f5 f6 f7 f8 f9 f17 f18 f20 f21 f22 f23 : Int}
theorem m_comesTo {h : MH} {y t : Int → Int} {H S B : Int} (hm : h.2.2 m = some (mO m f0 f4 f5 f6 f7 f8 f9 H S B f17 f18 f20 f21 f22 f23)) (hs : h.2.2 (m + 1) = some (cArr 0 937 (ix s))) (hy : h.2.2 (m + 4) = some (cArr 0 6 (ix y))) (ht : h.2.2 (m + 5) = some (cArr 1 64 (ix t))) (ok : okM s) {p : Int} (oa : okA s p) : ∃ y' t' : Int → Int, ∀ Q : KQ, wpC G (d + 4) 190 [vR m, vI p] h Q = Q none (hset (scr m y' t' h) m (mO m f0 f4 f5 f6 f7 f8 f9 (clH s p H B) (clS s p H S B) (clB s p H S B) f17 f18 f20 f21 f22 f23)) := by
  have oa' := oa
  obtain ⟨p0, p1, -⟩ := oa'
  by_cases c : B = -5 ∧ s (21 + p) = 0
  · obtain ⟨y', t', hS⟩ := m_saysOf (G := G) (d := d) hm hs hy ht ok (p := p) (hd := H) oa
    refine ⟨y', t', fun Q => ?_⟩
    have n1 : ¬ m + 1 = m := by omega
    have z0 : (scr m y' t' h).2.2 m = _ := (scr_m (by omega) (by omega)).trans hm
    have z1 : (scr m y' t' h).2.2 (m + 1) = _ := (scr_m (by omega) (by omega)).trans hs
    obtain ⟨o1, o2, -⟩ := ok
    have hW := fun (A C E : Int) (x : Int) (K : KQ) => m_weightOf (G := G) (d := d + 2) (m := m) (h := hset (scr m y' t' h) m (mO m f0 f4 f5 f6 f7 f8 f9 A C E f17 f18 f20 f21 f22 f23)) (Q := K) (s := s) (x := x) hs_eq (by rw [hs_ne n1]; exact z1)
    have hT := fun (A C E : Int) (K : KQ) => m_tellsOf (G := G) (d := d + 2) (m := m) (h := hset (scr m y' t' h) m (mO m f0 f4 f5 f6 f7 f8 f9 A C E f17 f18 f20 f21 f22 f23)) (Q := K) (s := s) hs_eq (by rw [hs_ne n1]; exact z1) ⟨o1, o2⟩ (w := 227) (n := 12) (by omega)
    unfold clH clS clB
    rw [if_pos c, if_pos c, if_pos c, e190]
    obtain ⟨c1, c2⟩ := c
    by_cases e : NERVE s < iBin 0 S (WGT s (SAYS s p H))
    · rw [if_pos e]
      unfold NERVE at e
      simp (disch := omega) only [U190, KK, Int.reduceEq, not_false_iff, ↓reduceIte, ↓if_pos, ↓if_neg, hm, hs, z0, z1, hs_eq, hs_ne, hs_hs, GX13, PX13, xa_i, ar_add (a := 21), hS, hW, hT, xt_o, VS13, nlO_i, nlO_n, nlO_r, true_and, List.length_nil, List.length_cons, Nat.reduceAdd, Nat.reduceLeDiff, Nat.zero_le]
    · rw [if_neg e]
      unfold NERVE at e
      simp (disch := omega) only [U190, KK, Int.reduceEq, not_false_iff, ↓reduceIte, ↓if_pos, ↓if_neg, hm, hs, z0, z1, hs_eq, hs_ne, hs_hs, GX13, PX13, xa_i, ar_add (a := 21), hS, hW, hT, xt_o, VS13, nlO_i, nlO_n, nlO_r, true_and, List.length_nil, List.length_cons, Nat.reduceAdd, Nat.reduceLeDiff, Nat.zero_le]
  · refine ⟨y, t, fun Q => ?_⟩
    unfold clH clS clB
    rw [if_neg c, if_neg c, if_neg c, scr_same hy ht, hs_same hm, e190]
    by_cases c1 : B = -5
    · have c2 : ¬ s (21 + p) = 0 := fun z => c ⟨c1, z⟩
      simp (disch := omega) only [U190, KK, Int.reduceEq, not_false_iff, ↓reduceIte, ↓if_pos, ↓if_neg, hm, hs, GX13, xa_i, ar_add (a := 21), true_and]
    · simp (disch := omega) only [U190, KK, Int.reduceEq, not_false_iff, ↓reduceIte, ↓if_pos, ↓if_neg, hm, GX13, true_and]
end M13
