/-! days tried, and gone back from -/
theorem GOES_low {s : Int → Int} (ok : okD s) : ∀ k, (k < 0 ∨ 21 ≤ k) → GOES s k = s k := by
  intro k hk
  have o8 := ok.2.1
  have hl := (GOF_ok (s 28).toNat 0 s (by omega) (by omega) ok).2
  unfold GOES
  rw [up_ne (by omega)]
  exact hl k (by omega)
theorem GOESn_low : ∀ (n : Nat) {s : Int → Int}, okD s → s 0 + n ≤ 100000 → ∀ k, (k < 0 ∨ 21 ≤ k) → GOESn n s k = s k := by
  intro n
  induction n with
  | zero => intro s ok h0 k hk; rfl
  | succ n ih =>
    intro s ok h0 k hk
    rw [GOESn, ih (okD_GOES ok (by omega)) (by rw [GOES_0]; omega) k hk, GOES_low ok k hk]
theorem cp_back {s s' u : Int → Int} (h : ∀ k, (k < 0 ∨ 27 ≤ k) → s' k = s k) : cp s' (cp u s 0 27) 0 27 = s := by
  funext k
  unfold cp
  by_cases e : 0 ≤ k ∧ k < 27
  · rw [if_pos e, if_pos e]
  · rw [if_neg e]
    exact h k (by omega)
def COMES (s : Int → Int) (a : Int) : Int := if GOESn 6 s (16 + a) = 1 then -5 else GOESn 6 s (1 + a)
section M12
variable {G : MG} {d : Nat} {Q : KQ}
variable {m : Nat} {s : Int → Int} {f0 f4 f5 f6 f7 f8 f9 f12 f13 f14 f17 f18 f20 f21 f22 f23 : Int}
theorem m_comes_l {a : Int} : ∀ (n : Nat) (s : Int → Int) (h : MH) (y t : Int → Int) (i : Int), h.2.2 m = some (mO m f0 f4 f5 f6 f7 f8 f9 f12 f13 f14 f17 f18 f20 f21 f22 f23) → h.2.2 (m + 1) = some (cArr 0 937 (ix s)) → h.2.2 (m + 4) = some (cArr 0 6 (ix y)) → h.2.2 (m + 5) = some (cArr 1 64 (ix t)) → okD s → s 0 + n ≤ 100000 → 0 ≤ i → i + n = 6 → ∃ y' t' : Int → Int, ∀ Q : KQ, wp G (d + 5) 173 6 [some (vR m), some (vI a), some (vI i)] [] h Q = wp G (d + 5) 173 22 [some (vR m), some (vI a), some (vI 6)] [] (mst m (GOESn n s) y' t' h) Q := by
  intro n
  induction n with
  | zero =>
    intro s h y t i hm hs hy ht ok h0 i0 hi
    refine ⟨y, t, fun Q => ?_⟩
    have : i = 6 := by omega
    subst this
    rw [GOESn, mst_same hs hy ht, u173_6]
    have hx : ∀ L st h, wp G (d + 5) 173 22 L st h Q = wp G (d + 5) 173 22 L st h Q := fun _ _ _ => rfl
    generalize hW : wp G (d + 5) 173 22 [some (vR m), some (vI a), some (vI 6)] [] h Q = W
    rw [u173_7, u173_9, if_pos (by omega)]
    exact hW
  | succ n ih =>
    intro s h y t i hm hs hy ht ok h0 i0 hi
    obtain ⟨y1, t1, h1⟩ := m_goes (G := G) (d := d) hm hs hy ht ok
    have okG := okD_GOES ok (by omega)
    obtain ⟨y2, t2, h2⟩ := ih (GOES s) (mst m (GOES s) y1 t1 h) y1 t1 (i + 1) (by rw [mst_m (by omega) (by omega) (by omega)]; exact hm) mst_1 mst_4 mst_5 okG (by rw [GOES_0]; omega) (by omega) (by omega)
    refine ⟨y2, t2, fun Q => ?_⟩
    have h3 := h2 Q
    rw [mst_mst] at h3
    rw [GOESn, ← h3, u173_6, u173_7, u173_9, if_neg (by omega)]
    simp (disch := omega) only [U173, KK, Int.reduceEq, not_false_iff, ↓reduceIte, ↓if_pos, ↓if_neg, hm, ar_add, h1, xt_o, VS13, nlO_i, nlO_n, nlO_r, true_and, List.length_nil, List.length_cons, Nat.reduceAdd, Nat.reduceLeDiff, Nat.zero_le]
theorem m_comes {h : MH} {y t u : Int → Int} (hm : h.2.2 m = some (mO m f0 f4 f5 f6 f7 f8 f9 f12 f13 f14 f17 f18 f20 f21 f22 f23)) (hs : h.2.2 (m + 1) = some (cArr 0 937 (ix s))) (hu : h.2.2 (m + 3) = some (cArr 0 27 (ix u))) (hy : h.2.2 (m + 4) = some (cArr 0 6 (ix y))) (ht : h.2.2 (m + 5) = some (cArr 1 64 (ix t))) (ok : okD s) (h0 : s 0 ≤ 99000) {a : Int} (a0 : 0 ≤ a ∧ a < 5) : ∃ u' y' t' : Int → Int, ∀ Q : KQ, wpC G (d + 6) 173 [vR m, vI a] h Q = Q (some (vI (COMES s a))) (mst m s y' t' (hset h (m + 3) (cArr 0 27 (ix u')))) := by
  have n0 : ¬ m = m + 3 := by omega
  have n1 : ¬ m + 1 = m + 3 := by omega
  have n4 : ¬ m + 4 = m + 3 := by omega
  have n5 : ¬ m + 5 = m + 3 := by omega
  obtain ⟨y', t', h1⟩ := m_comes_l (G := G) (d := d) (a := a) 6 s (hset h (m + 3) (cArr 0 27 (ix (cp u s 0 27)))) y t 0 (by rw [hs_ne n0]; exact hm) (by rw [hs_ne n1]; exact hs) (by rw [hs_ne n4]; exact hy) (by rw [hs_ne n5]; exact ht) ok (by omega) (by omega) rfl
  refine ⟨cp u s 0 27, y', t', fun Q => ?_⟩
  have hk := fun (K : KQ) => m_keeps (G := G) (d := d + 4) (Q := K) hm hs hu
  have e0 : (mst m (GOESn 6 s) y' t' (hset h (m + 3) (cArr 0 27 (ix (cp u s 0 27))))).2.2 m = _ := (mst_m (by omega) (by omega) (by omega)).trans ((hs_ne n0).trans hm)
  have e1 : (mst m (GOESn 6 s) y' t' (hset h (m + 3) (cArr 0 27 (ix (cp u s 0 27))))).2.2 (m + 1) = _ := mst_1
  have e3 : (mst m (GOESn 6 s) y' t' (hset h (m + 3) (cArr 0 27 (ix (cp u s 0 27))))).2.2 (m + 3) = _ := (mst_m (by omega) (by omega) (by omega)).trans hs_eq
  have hb := fun (K : KQ) => m_goesBack (G := G) (d := d + 4) (Q := K) e0 e1 e3
  rw [cp_back (fun k hk => GOESn_low 6 ok (by omega) k (by omega))] at hb
  have em : hset (mst m (GOESn 6 s) y' t' (hset h (m + 3) (cArr 0 27 (ix (cp u s 0 27))))) (m + 1) (cArr 0 937 (ix s)) = mst m s y' t' (hset h (m + 3) (cArr 0 27 (ix (cp u s 0 27)))) := by
    unfold mst
    rw [hs_hs]
  rw [em] at hb
  rw [e173]
  unfold COMES
  have key : wp G (d + 5) 173 0 [some (vR m), some (vI a), none] [] h Q = wp G (d + 5) 173 6 [some (vR m), some (vI a), some (vI 0)] [] (hset h (m + 3) (cArr 0 27 (ix (cp u s 0 27)))) Q := by
    simp (disch := omega) only [U173, KK, hm, hk, xt_o, VS13, nlO_i, nlO_n, nlO_r, true_and, List.length_nil, List.length_cons, Nat.reduceAdd, Nat.reduceLeDiff, Nat.zero_le]
  rw [key, h1 Q]
  by_cases c : GOESn 6 s (16 + a) = 1
  · simp (disch := omega) only [U173, KK, Int.reduceEq, not_false_iff, ↓reduceIte, ↓if_pos, ↓if_neg, e0, e1, GX13, xa_i, ar_add, hb, xt_o, VS13, nlO_i, nlO_n, nlO_r, true_and, List.length_nil, List.length_cons, Nat.reduceAdd, Nat.reduceLeDiff, Nat.zero_le]
  · simp (disch := omega) only [U173, KK, Int.reduceEq, not_false_iff, ↓reduceIte, ↓if_pos, ↓if_neg, e0, e1, GX13, xa_i, ar_add, hb, xt_o, VS13, nlO_i, nlO_n, nlO_r, true_and, List.length_nil, List.length_cons, Nat.reduceAdd, Nat.reduceLeDiff, Nat.zero_le]
end M12
