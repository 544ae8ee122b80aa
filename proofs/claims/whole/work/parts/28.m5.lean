/-- by what a clause's tests look -/
def BY (s : Int → Int) (p hd : Int) : Int → Int := fun k => if k = 0 then p else if k = 1 then s (43 + p) else if k = 2 then s (49 + p) else if k = 3 then cnt hd else if k = 4 then cnt (LEFT s p hd) else s 0 % 10
def STEPM (s : Int → Int) : Int := if s 34 = -1 then 0 else s (232 + s 34)
def NERVE (s : Int → Int) : Int := if s 34 = -1 then 12 else s (227 + s 34)
def MOUTH (s : Int → Int) (p hd : Int) : Int := max 0 (evL (BY s p hd) (seg s (237 + 140 * s 34) (STEPM s).toNat) [] 1)
/-- what a model's clauses must be -/
def okM (s : Int → Int) : Prop := -1 ≤ s 34 ∧ s 34 ≤ 4 ∧ 0 ≤ STEPM s ∧ STEPM s ≤ 140 ∧ wfM (seg s (237 + 140 * s 34) (STEPM s).toNat) 0 ∧ 0 ≤ s 0 ∧ s 0 ≤ 100000
/-- the model's scratch rows -/
def scr (m : Nat) (y t : Int → Int) (h : MH) : MH := hset (hset h (m + 4) (cArr 0 6 (ix y))) (m + 5) (cArr 1 64 (ix t))
section M5
variable {G : MG} {d : Nat} {Q : KQ}
variable {m : Nat} {s : Int → Int} {f0 f4 f5 f6 f7 f8 f9 f12 f13 f14 f17 f18 f20 f21 f22 f23 : Int}
theorem m_mouthOf {h : MH} (hm : h.2.2 m = some (mO m f0 f4 f5 f6 f7 f8 f9 f12 f13 f14 f17 f18 f20 f21 f22 f23)) (hs : h.2.2 (m + 1) = some (cArr 0 937 (ix s))) {y t : Int → Int} (hy : h.2.2 (m + 4) = some (cArr 0 6 (ix y))) (ht : h.2.2 (m + 5) = some (cArr 1 64 (ix t))) (ok : okM s) {p hd : Int} (hp : 0 ≤ p ∧ p < 6) : ∃ y' t' : Int → Int, ∀ Q : KQ, wpC G (d + 2) 159 [vR m, vI p, vI hd] h Q = Q (some (vI (MOUTH s p hd))) (scr m y' t' h) := by
  obtain ⟨o1, o2, o3, o4, o5, o6, o7⟩ := ok
  have ne0 : ¬ m = m + 4 := by omega
  have ne1 : ¬ m + 1 = m + 4 := by omega
  have ne5 : ¬ m + 5 = m + 4 := by omega
  obtain ⟨t', ih⟩ := m_mou_l (G := G) (d := d + 1) (s := s) (m := m) (y := up (up (up (up (up (up y 0 p) 1 (s (43 + p))) 2 (s (49 + p))) 3 (cnt hd)) 4 (cnt (LEFT s p hd))) 5 (s 0 % 10)) (l1 := some (vI p)) (l2 := some (vI hd)) rfl (many := STEPM s) (fr := 237 + 140 * s 34) (by omega) (STEPM s).toNat (237 + 140 * s 34) 1 [] t (hset h (m + 4) (cArr 0 6 (ix (up (up (up (up (up (up y 0 p) 1 (s (43 + p))) 2 (s (49 + p))) 3 (cnt hd)) 4 (cnt (LEFT s p hd))) 5 (s 0 % 10))))) none none none none (by rw [hs_ne ne0]; exact hm) (by rw [hs_ne ne1]; exact hs) hs_eq (by rw [hs_ne ne5]; exact ht) (by omega) (by omega) rfl rfl rfl rfl o5 (by show 0 ≤ 13; omega) trivial (by omega) (by omega) (by omega)
  refine ⟨up (up (up (up (up (up y 0 p) 1 (s (43 + p))) 2 (s (49 + p))) 3 (cnt hd)) 4 (cnt (LEFT s p hd))) 5 (s 0 % 10), t', fun Q => ?_⟩
  unfold scr MOUTH
  rw [e159]
  have hl := evL_congr (y := BY s p hd) (y' := up (up (up (up (up (up y 0 p) 1 (s (43 + p))) 2 (s (49 + p))) 3 (cnt hd)) 4 (cnt (LEFT s p hd))) 5 (s 0 % 10)) (fun k k0 k1 => by
    unfold BY up
    rcases (show k = 0 ∨ k = 1 ∨ k = 2 ∨ k = 3 ∨ k = 4 ∨ k = 5 by omega) with e | e | e | e | e | e <;> subst e <;> rfl) _ [] 1 0 o5
  rw [hl, ← ih Q]
  have hL := fun (c : MC) (K : KQ) => m_leftOf (G := G) (d := d) (h := hset h (m + 4) c) (Q := K) (by rw [hs_ne ne0]; exact hm) (by rw [hs_ne ne1]; exact hs) (x := hd) hp
  have hT := fun (c : MC) (K : KQ) => m_tellsOf (G := G) (d := d) (h := hset h (m + 4) c) (Q := K) (by rw [hs_ne ne0]; exact hm) (by rw [hs_ne ne1]; exact hs) ⟨o1, o2⟩ (w := 232) (n := 0) (by omega)
  simp (disch := omega) only [U159, KK, Int.reduceEq, not_false_iff, ↓reduceIte, hm, hs, hy, GX13, xa_i, xs_i, hs_eq, hs_ne, hs_hs, ar_add, ar_mul, ar_rem, m_countOf, xt_o, VS13, hL, hT, nlO_i, nlO_n, nlO_r, true_and, List.length_nil, List.length_cons, Nat.reduceAdd, Nat.reduceLeDiff, Nat.zero_le]
  rfl
end M5
