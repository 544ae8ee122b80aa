/-! a day -/
def SAYA (s : Int → Int) (a : Int) : Int := SAYS s (s (11 + a)) (s (1 + a))
def SHKA (s : Int → Int) (a : Int) : Int := iBin 0 (s (6 + a)) (WGT s (SAYA s a))
def MEETs (s : Int → Int) (a : Int) : Int → Int := up (up s (1 + a) (iBin 4 (s (1 + a)) (SAYA s a))) (6 + a) (SHKA s a)
def MEET (s : Int → Int) (a : Int) : Int → Int := if s (21 + s (11 + a)) = 1 then up s (11 + a) (s (11 + a) + 1) else if NERVE s < SHKA s a then up (MEETs s a) (16 + a) 1 else up (MEETs s a) (11 + a) (s (11 + a) + 1)
def GOA (s : Int → Int) (a : Int) : Int → Int := if s (16 + a) = 0 ∧ s (11 + a) < s 27 then MEET s a else s
theorem wsum_up {s : Int → Int} {k v x : Int} (hk : k < 35) : ∀ (n : Nat) (i a : Int), 0 ≤ i → wsum (up s k v) x n i a = wsum s x n i a
  | 0, _, _, _ => rfl
  | n + 1, i, a, hi => by
    rw [wsum, wsum, up_ne (by omega)]
    exact wsum_up hk n _ _ (by omega)
theorem WGT_up {s : Int → Int} {k v x : Int} (hk : k < 35) : WGT (up s k v) x = WGT s x := wsum_up hk 8 0 0 (by omega)
/-- the model's rows anew -/
def mst (m : Nat) (s y t : Int → Int) (h : MH) : MH := hset (scr m y t h) (m + 1) (cArr 0 937 (ix s))
section M7
variable {G : MG} {d : Nat} {Q : KQ}
variable {m : Nat} {s : Int → Int} {f0 f4 f5 f6 f7 f8 f9 f12 f13 f14 f17 f18 f20 f21 f22 f23 : Int}
theorem scr_same {h : MH} {y t : Int → Int} (hy : h.2.2 (m + 4) = some (cArr 0 6 (ix y))) (ht : h.2.2 (m + 5) = some (cArr 1 64 (ix t))) : scr m y t h = h := by
  unfold scr
  rw [hs_same hy, hs_same ht]
theorem mst_same {h : MH} {y t : Int → Int} (hs : h.2.2 (m + 1) = some (cArr 0 937 (ix s))) (hy : h.2.2 (m + 4) = some (cArr 0 6 (ix y))) (ht : h.2.2 (m + 5) = some (cArr 1 64 (ix t))) : mst m s y t h = h := by
  unfold mst
  rw [scr_same hy ht, hs_same hs]
theorem mst_scr {h : MH} {y t : Int → Int} (hs : h.2.2 (m + 1) = some (cArr 0 937 (ix s))) : scr m y t h = mst m s y t h := by
  unfold mst
  rw [hs_same]
  rw [scr_m (by omega) (by omega)]
  exact hs
theorem mst_m {y t : Int → Int} {h : MH} {a : Nat} (e1 : ¬ a = m + 1) (e : ¬ a = m + 4) (e' : ¬ a = m + 5) : (mst m s y t h).2.2 a = h.2.2 a := by
  unfold mst
  rw [hs_ne e1, scr_m e e']
theorem mst_1 {y t : Int → Int} {h : MH} : (mst m s y t h).2.2 (m + 1) = some (cArr 0 937 (ix s)) := by
  unfold mst
  rw [hs_eq]
theorem mst_4 {y t : Int → Int} {h : MH} : (mst m s y t h).2.2 (m + 4) = some (cArr 0 6 (ix y)) := by
  unfold mst
  rw [hs_ne (by omega), scr_4]
theorem mst_5 {y t : Int → Int} {h : MH} : (mst m s y t h).2.2 (m + 5) = some (cArr 1 64 (ix t)) := by
  unfold mst
  rw [hs_ne (by omega), scr_5]
theorem mst_mst {s' y t y' t' : Int → Int} {h : MH} : mst m s' y' t' (mst m s y t h) = mst m s' y' t' h := by
  unfold mst scr
  rw [hs_comm (a := m + 1) (b := m + 4) (by omega), hs_comm (a := m + 1) (b := m + 5) (by omega), hs_hs, hs_comm (a := m + 5) (b := m + 4) (by omega), hs_hs, hs_hs]
theorem m_meets {h : MH} (hm : h.2.2 m = some (mO m f0 f4 f5 f6 f7 f8 f9 f12 f13 f14 f17 f18 f20 f21 f22 f23)) (hs : h.2.2 (m + 1) = some (cArr 0 937 (ix s))) {y t : Int → Int} (hy : h.2.2 (m + 4) = some (cArr 0 6 (ix y))) (ht : h.2.2 (m + 5) = some (cArr 1 64 (ix t))) (ok : okM s) {a : Int} (a0 : 0 ≤ a ∧ a < 5) (oa : okA s (s (11 + a))) : ∃ y' t' : Int → Int, ∀ Q : KQ, wpC G (d + 4) 177 [vR m, vI a] h Q = Q none (mst m (MEET s a) y' t' h) := by
  have oa' := oa
  obtain ⟨p0, p1, -⟩ := oa'
  by_cases c : s (21 + s (11 + a)) = 1
  · refine ⟨y, t, fun Q => ?_⟩
    unfold MEET mst
    rw [if_pos c, scr_same hy ht, e177]
    simp (disch := omega) only [U177, KK, Int.reduceEq, not_false_iff, ↓reduceIte, ↓if_pos, ↓if_neg, hm, hs, GX13, xa_i, xs_i, ar_add, nlO_i, nlO_n, nlO_r, true_and]
  · obtain ⟨y', t', hS⟩ := m_saysOf (G := G) (d := d) hm hs hy ht ok (p := s (11 + a)) (hd := s (1 + a)) oa
    refine ⟨y', t', fun Q => ?_⟩
    have n0 : ¬ m = m + 1 := by omega
    have z0 : (scr m y' t' h).2.2 m = _ := (scr_m (by omega) (by omega)).trans hm
    have z1 : (scr m y' t' h).2.2 (m + 1) = _ := (scr_m (by omega) (by omega)).trans hs
    obtain ⟨o1, o2, -⟩ := ok
    have hW := fun (u : Int → Int) (x : Int) (K : KQ) => m_weightOf (G := G) (d := d + 2) (h := hset (scr m y' t' h) (m + 1) (cArr 0 937 (ix u))) (Q := K) (s := u) (x := x) (by rw [hs_ne n0]; exact z0) hs_eq
    have hT := fun (u : Int → Int) (e : u 34 = s 34) (K : KQ) => m_tellsOf (G := G) (d := d + 2) (h := hset (scr m y' t' h) (m + 1) (cArr 0 937 (ix u))) (Q := K) (s := u) (by rw [hs_ne n0]; exact z0) hs_eq (by rw [e]; exact ⟨o1, o2⟩) (w := 227) (n := 12) (by omega)
    have hT1 := fun (v w : Int) (K : KQ) => hT (up (up s (1 + a) v) (6 + a) w) (by rw [up_ne (by omega), up_ne (by omega)]) K
    unfold MEET mst
    rw [if_neg c, e177]
    have hS' : ∀ Q : KQ, wpC G (d + 3) 162 [vR m, vI (s (11 + a)), vI (s (1 + a))] h Q = Q (some (vI (SAYA s a))) (scr m y' t' h) := hS
    by_cases e : NERVE s < SHKA s a
    · rw [if_pos e]
      unfold NERVE SHKA at e
      simp (disch := omega) only [U177, KK, Int.reduceEq, not_false_iff, ↓reduceIte, ↓if_pos, ↓if_neg, hm, hs, z0, z1, hs_eq, hs_ne, hs_hs, GX13, xa_i, xs_i, ar_add (a := 11), ar_add (a := 21), ar_add (a := 1), ar_add (a := 6), ar_add (a := 16), hS', hW, hT1, WGT_up, up_eq, up_ne, xt_o, VS13, nlO_i, nlO_n, nlO_r, true_and, List.length_nil, List.length_cons, Nat.reduceAdd, Nat.reduceLeDiff, Nat.zero_le]
      rfl
    · rw [if_neg e]
      unfold NERVE SHKA at e
      simp (disch := omega) only [U177, KK, Int.reduceEq, not_false_iff, ↓reduceIte, ↓if_pos, ↓if_neg, hm, hs, z0, z1, hs_eq, hs_ne, hs_hs, GX13, xa_i, xs_i, ar_add (a := 11), ar_add (a := 21), ar_add (a := 1), ar_add (a := 6), ar_add (a := 16), ar_add (b := 1), hS', hW, hT1, WGT_up, up_eq, up_ne, xt_o, VS13, nlO_i, nlO_n, nlO_r, true_and, List.length_nil, List.length_cons, Nat.reduceAdd, Nat.reduceLeDiff, Nat.zero_le]
      rfl
end M7
