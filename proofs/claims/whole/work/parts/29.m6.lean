def MEEK (s : Int → Int) (p hd : Int) : Int := if cnt hd < s (49 + p) then CHO s (LEFT s p hd) (MOUTH s p hd) 0 else 0
/-- what one says -/
def SAYS (s : Int → Int) (p hd : Int) : Int :=
  if s (43 + p) = 1 then CHO s (LEFT s p hd) (MOUTH s p hd) 1
  else if s (43 + p) = 2 then MEEK s p hd
  else if s (43 + p) = 3 then CHO s (LEFT s p hd) (MOUTH s p hd) 2
  else if s (43 + p) = 4 then iBin 3 (CHO s (LEFT s p hd) (MOUTH s p hd) 1) (iBin 5 (iBin 6 1 (s (49 + p) % 8)) (-1))
  else if s (43 + p) = 5 then iBin 4 (MEEK s p hd) (iBin 3 1 (iBin 5 hd (-1)))
  else if s (43 + p) = 6 then iBin 4 (CHO s (LEFT s p hd) (MOUTH s p hd) 2) (iBin 3 (iBin 3 (LEFT s p hd) (s (61 + 4 * p + s 0 % 4))) 15)
  else CHO s (LEFT s p hd) (MOUTH s p hd) 0
/-- what aunt p's numbers must be -/
def okA (s : Int → Int) (p : Int) : Prop := 0 ≤ p ∧ p < 6 ∧ 0 ≤ s (43 + p) ∧ s (43 + p) ≤ 6 ∧ 0 ≤ s (49 + p) ∧ s (49 + p) ≤ 9 ∧ 0 ≤ s (55 + p) ∧ s (55 + p) ≤ 255
theorem scr_m {m : Nat} {y t : Int → Int} {h : MH} {a : Nat} (e : ¬ a = m + 4) (e' : ¬ a = m + 5) : (scr m y t h).2.2 a = h.2.2 a := by
  unfold scr
  rw [hs_ne e', hs_ne e]
theorem scr_4 {m : Nat} {y t : Int → Int} {h : MH} : (scr m y t h).2.2 (m + 4) = some (cArr 0 6 (ix y)) := by
  unfold scr
  rw [hs_ne (by omega), hs_eq]
theorem scr_5 {m : Nat} {y t : Int → Int} {h : MH} : (scr m y t h).2.2 (m + 5) = some (cArr 1 64 (ix t)) := by
  unfold scr
  rw [hs_eq]
theorem hs_comm {h : MH} {a b : Nat} {c c' : MC} (e : ¬ a = b) : hset (hset h a c) b c' = hset (hset h b c') a c := by
  unfold hset
  have : up1 (up1 h.2.2 a (some c)) b (some c') = up1 (up1 h.2.2 b (some c')) a (some c) := by
    funext j
    unfold up1
    by_cases h1 : j = b
    · by_cases h2 : j = a
      · exact absurd (h2.symm.trans h1) e
      · rw [if_pos h1, if_neg h2, if_pos h1]
    · by_cases h2 : j = a
      · rw [if_neg h1, if_pos h2, if_pos h2]
      · rw [if_neg h1, if_neg h2, if_neg h2, if_neg h1]
  rw [this]
theorem scr_scr {m : Nat} {y t y' t' : Int → Int} {h : MH} : scr m y' t' (scr m y t h) = scr m y' t' h := by
  unfold scr
  rw [hs_comm (a := m + 5) (b := m + 4) (by omega), hs_hs, hs_hs]
section M6
variable {G : MG} {d : Nat} {Q : KQ}
variable {m : Nat} {s : Int → Int} {f0 f4 f5 f6 f7 f8 f9 f12 f13 f14 f17 f18 f20 f21 f22 f23 : Int}
set_option maxHeartbeats 4000000 in
theorem m_saysOf {h : MH} (hm : h.2.2 m = some (mO m f0 f4 f5 f6 f7 f8 f9 f12 f13 f14 f17 f18 f20 f21 f22 f23)) (hs : h.2.2 (m + 1) = some (cArr 0 937 (ix s))) {y t : Int → Int} (hy : h.2.2 (m + 4) = some (cArr 0 6 (ix y))) (ht : h.2.2 (m + 5) = some (cArr 1 64 (ix t))) (ok : okM s) {p hd : Int} (oa : okA s p) : ∃ y' t' : Int → Int, ∀ Q : KQ, wpC G (d + 3) 162 [vR m, vI p, vI hd] h Q = Q (some (vI (SAYS s p hd))) (scr m y' t' h) := by
  obtain ⟨p0, p1, k0, k1, v0, v1, w0, w1⟩ := oa
  obtain ⟨y', t', hM⟩ := m_mouthOf (G := G) (d := d) hm hs hy ht ok (p := p) (hd := hd) ⟨p0, p1⟩
  refine ⟨y', t', fun Q => ?_⟩
  have z0 : (scr m y' t' h).2.2 m = _ := (scr_m (by omega) (by omega)).trans hm
  have z1 : (scr m y' t' h).2.2 (m + 1) = _ := (scr_m (by omega) (by omega)).trans hs
  have hL := fun (K : KQ) => m_leftOf (G := G) (d := d + 1) (h := h) (Q := K) hm hs (x := hd) ⟨p0, p1⟩
  have hl := and_in (a := s (55 + p)) (b := iBin 5 hd (-1)) w0 (by omega)
  have hC := fun (many how : Int) (K : KQ) => m_chosen (G := G) (d := d + 1) (h := scr m y' t' h) (Q := K) z0 z1 (x := LEFT s p hd) (many := many) (how := how) hl.1 (by show iBin 3 _ _ ≤ 255; omega)
  obtain ⟨-, -, -, -, -, o6, o7⟩ := ok
  have r0 := Int.emod_nonneg (s 0) (show (4 : Int) ≠ 0 by decide)
  have r1 := Int.emod_lt_of_pos (s 0) (show (0 : Int) < 4 by decide)
  rw [e162]
  unfold SAYS MEEK
  rcases (show s (43 + p) = 0 ∨ s (43 + p) = 1 ∨ s (43 + p) = 2 ∨ s (43 + p) = 3 ∨ s (43 + p) = 4 ∨ s (43 + p) = 5 ∨ s (43 + p) = 6 by omega) with e | e | e | e | e | e | e <;> by_cases c : cnt hd < s (49 + p) <;> simp (disch := omega) only [U162, KK, Int.reduceEq, not_false_iff, ↓reduceIte, ↓if_pos, ↓if_neg, hm, hs, z0, z1, GX13, xa_i, ar_add, ar_mul, ar_rem, m_countOf, xt_o, VS13, hL, hM, hC, e, nlO_i, nlO_n, nlO_r, true_and, List.length_nil, List.length_cons, Nat.reduceAdd, Nat.reduceLeDiff, Nat.zero_le]
end M6
