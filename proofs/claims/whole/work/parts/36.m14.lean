/-! a climb to its end -/
def CLP (s : Int → Int) (way k : Int) : Int := if way = 0 then k else s 27 - 1 - k
def CLF (s : Int → Int) (way : Int) : Nat → Int → Int → Int → Int → Int × Int × Int
  | 0, _, H, S, B => (H, S, B)
  | n + 1, k, H, S, B => CLF s way n (k + 1) (clH s (CLP s way k) H B) (clS s (CLP s way k) H S B) (clB s (CLP s way k) H S B)
def CLIMB (s : Int → Int) (way hd : Int) : Int × Int × Int := CLF s way (s 27).toNat 0 hd 0 (-5)
theorem scr_hm {m : Nat} {y t : Int → Int} {h : MH} {c : MC} : scr m y t (hset h m c) = hset (scr m y t h) m c := by
  unfold scr
  rw [hs_comm (a := m) (b := m + 4) (by omega), hs_comm (a := m) (b := m + 5) (by omega)]
section M14
variable {G : MG} {d : Nat} {Q : KQ}
variable {m : Nat} {s : Int → Int} {f0 f4 f5 f6 f7 f8 f9 f17 f18 f20 f21 f22 f23 : Int}
theorem m_climbs_l (ok : okM s) (h27 : 0 ≤ s 27 ∧ s 27 ≤ 6) (oA : ∀ p, 0 ≤ p → p < s 27 → okA s p) {way : Int} {l2 : Option V} (n2 : nlO l2 = true) : ∀ (n : Nat) (h : MH) (y t : Int → Int) (k H S B : Int), h.2.2 m = some (mO m f0 f4 f5 f6 f7 f8 f9 H S B f17 f18 f20 f21 f22 f23) → h.2.2 (m + 1) = some (cArr 0 937 (ix s)) → h.2.2 (m + 4) = some (cArr 0 6 (ix y)) → h.2.2 (m + 5) = some (cArr 1 64 (ix t)) → 0 ≤ k → k + n = s 27 → ∃ y' t' : Int → Int, ∀ Q : KQ, wp G (d + 4) 189 18 [some (vR m), some (vI way), l2, some (vI k)] [] h Q = Q none (hset (scr m y' t' h) m (mO m f0 f4 f5 f6 f7 f8 f9 (CLF s way n k H S B).1 (CLF s way n k H S B).2.1 (CLF s way n k H S B).2.2 f17 f18 f20 f21 f22 f23)) := by
  intro n
  induction n with
  | zero =>
    intro h y t k H S B hm hs hy ht k0 kn
    refine ⟨y, t, fun Q => ?_⟩
    rw [CLF, scr_same hy ht, hs_same hm, u189_18]
    simp (disch := omega) only [U189, KK, ↓if_pos, hm, hs, GX13, xa_i]
  | succ n ih =>
    intro h y t k H S B hm hs hy ht k0 kn
    have hp : 0 ≤ CLP s way k ∧ CLP s way k < s 27 := by
      unfold CLP
      split <;> omega
    obtain ⟨y1, t1, h1⟩ := m_comesTo (G := G) (d := d) hm hs hy ht ok (oA _ hp.1 hp.2)
    obtain ⟨y2, t2, h2⟩ := ih (hset (scr m y1 t1 h) m (mO m f0 f4 f5 f6 f7 f8 f9 (clH s (CLP s way k) H B) (clS s (CLP s way k) H S B) (clB s (CLP s way k) H S B) f17 f18 f20 f21 f22 f23)) y1 t1 (k + 1) _ _ _ hs_eq (by rw [hs_ne (by omega), scr_m (by omega) (by omega)]; exact hs) (by rw [hs_ne (by omega), scr_4]) (by rw [hs_ne (by omega), scr_5]) (by omega) (by omega)
    refine ⟨y2, t2, fun Q => ?_⟩
    have h3 := h2 Q
    rw [scr_hm, scr_scr, hs_hs] at h3
    rw [CLF, ← h3, u189_18]
    by_cases c : way = 0
    · have e : CLP s way k = k := if_pos c
      rw [e] at h1 ⊢
      simp (disch := omega) only [U189, KK, Int.reduceEq, not_false_iff, ↓reduceIte, ↓if_pos, ↓if_neg, hm, hs, GX13, xa_i, ar_add (a := k), h1, xt_o, VS13, nlO_i, nlO_n, nlO_r, n2, true_and, List.length_nil, List.length_cons, Nat.reduceAdd, Nat.reduceLeDiff, Nat.zero_le]
    · have e : CLP s way k = s 27 - 1 - k := if_neg c
      rw [e] at h1 ⊢
      simp (disch := omega) only [U189, KK, Int.reduceEq, not_false_iff, ↓reduceIte, ↓if_pos, ↓if_neg, hm, hs, GX13, xa_i, ar_add (a := k), ar_sub, h1, xt_o, VS13, nlO_i, nlO_n, nlO_r, n2, true_and, List.length_nil, List.length_cons, Nat.reduceAdd, Nat.reduceLeDiff, Nat.zero_le]
theorem m_climbs {h : MH} {y t : Int → Int} {f12 f13 f14 : Int} (hm : h.2.2 m = some (mO m f0 f4 f5 f6 f7 f8 f9 f12 f13 f14 f17 f18 f20 f21 f22 f23)) (hs : h.2.2 (m + 1) = some (cArr 0 937 (ix s))) (hy : h.2.2 (m + 4) = some (cArr 0 6 (ix y))) (ht : h.2.2 (m + 5) = some (cArr 1 64 (ix t))) (ok : okM s) (h27 : 0 ≤ s 27 ∧ s 27 ≤ 6) (oA : ∀ p, 0 ≤ p → p < s 27 → okA s p) {way hd : Int} : ∃ y' t' : Int → Int, ∀ Q : KQ, wpC G (d + 5) 189 [vR m, vI way, vI hd] h Q = Q none (hset (scr m y' t' h) m (mO m f0 f4 f5 f6 f7 f8 f9 (CLIMB s way hd).1 (CLIMB s way hd).2.1 (CLIMB s way hd).2.2 f17 f18 f20 f21 f22 f23)) := by
  obtain ⟨y', t', h1⟩ := m_climbs_l (G := G) (d := d) (m := m) (f0 := f0) (f4 := f4) (f5 := f5) (f6 := f6) (f7 := f7) (f8 := f8) (f9 := f9) (f17 := f17) (f18 := f18) (f20 := f20) (f21 := f21) (f22 := f22) (f23 := f23) ok h27 oA (way := way) (l2 := some (vI hd)) rfl (s 27).toNat (hset h m (mO m f0 f4 f5 f6 f7 f8 f9 hd 0 (-5) f17 f18 f20 f21 f22 f23)) y t 0 hd 0 (-5) hs_eq (by rw [hs_ne (by omega)]; exact hs) (by rw [hs_ne (by omega)]; exact hy) (by rw [hs_ne (by omega)]; exact ht) (by omega) (by omega)
  refine ⟨y', t', fun Q => ?_⟩
  have h3 := h1 Q
  rw [scr_hm, hs_hs] at h3
  unfold CLIMB
  rw [← h3, e189]
  simp only [U189, KK, hm, hs_eq, hs_hs, PX13, nlO_n, nlO_i, nlO_r, true_and]
end M14
