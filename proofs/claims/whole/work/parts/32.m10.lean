/-! rows copied; days on end -/
def cp (u w : Int → Int) (i n : Int) : Int → Int := fun k => if i ≤ k ∧ k < n then w k else u k
theorem cp_end {u w : Int → Int} {n : Int} : cp u w n n = u := by
  funext k
  exact if_neg (by omega)
theorem cp_up {u w : Int → Int} {i n : Int} (h : i < n) : cp (up u i (w i)) w (i + 1) n = cp u w i n := by
  funext k
  unfold cp up
  by_cases e : k = i
  · rw [if_neg (by omega), if_pos e, if_pos (by omega), e]
  · by_cases e2 : i + 1 ≤ k ∧ k < n
    · rw [if_pos e2, if_pos (by omega)]
    · rw [if_neg e2, if_neg e, if_neg (by omega)]
theorem okD_GOES {s : Int → Int} (ok : okD s) (h0 : s 0 < 100000) : okD (GOES s) := by
  have o8 := ok.2.1
  obtain ⟨⟨⟨o1, o2, o3, o4, o5, o6, o7⟩, p2, p3, p4, p5⟩, hl⟩ := GOF_ok (s 28).toNat 0 s (by omega) (by omega) ok
  unfold GOES
  generalize GOF (s 28).toNat 0 s = u at *
  have e0 : u 0 = s 0 := hl 0 (by omega)
  have eq : ∀ k, ¬ k = 0 → up u 0 (s 0 + 1) k = u k := fun k hk => up_ne hk
  have z0 : up u 0 (s 0 + 1) 0 = s 0 + 1 := up_eq
  have eS : STEPM (up u 0 (s 0 + 1)) = STEPM u := by
    unfold STEPM
    rw [eq 34 (by omega)]
    by_cases c : u 34 = -1
    · rw [if_pos c, if_pos c]
    · rw [if_neg c, if_neg c, eq _ (by omega)]
  refine ⟨⟨by rw [eq 34 (by omega)]; omega, by rw [eq 34 (by omega)]; omega, by rw [eS]; omega, by rw [eS]; omega, ?_, by rw [z0]; omega, by rw [z0]; omega⟩, by rw [eq 28 (by omega)]; exact p2, by rw [eq 27 (by omega)]; exact p3, fun p q0 q1 => ?_, fun a a0 a1 => by rw [eq _ (by omega)]; exact p5 a a0 a1⟩
  · rw [eS, eq 34 (by omega), seg_congr _ _ (fun k hk => eq k (by omega))]
    exact o5
  · rw [eq 27 (by omega)] at q1
    obtain ⟨r0, r1, r⟩ := p4 p q0 q1
    refine ⟨r0, r1, ?_⟩
    rw [eq (43 + p) (by omega), eq (49 + p) (by omega), eq (55 + p) (by omega)]
    exact r
def GOESn : Nat → (Int → Int) → (Int → Int)
  | 0, s => s
  | n + 1, s => GOESn n (GOES s)
theorem GOES_0 {s : Int → Int} : GOES s 0 = s 0 + 1 := up_eq
section M10
variable {G : MG} {d : Nat} {Q : KQ}
variable {m : Nat} {s : Int → Int} {f0 f4 f5 f6 f7 f8 f9 f12 f13 f14 f17 f18 f20 f21 f22 f23 : Int}
theorem m_goesOn_l {k : Int} (hk : k ≤ 1000) : ∀ (n : Nat) (s : Int → Int) (h : MH) (y t : Int → Int) (i : Int), h.2.2 m = some (mO m f0 f4 f5 f6 f7 f8 f9 f12 f13 f14 f17 f18 f20 f21 f22 f23) → h.2.2 (m + 1) = some (cArr 0 937 (ix s)) → h.2.2 (m + 4) = some (cArr 0 6 (ix y)) → h.2.2 (m + 5) = some (cArr 1 64 (ix t)) → okD s → s 0 + n ≤ 100000 → 0 ≤ i → i + n = k → ∃ y' t' : Int → Int, (okD (GOESn n s) ∧ GOESn n s 0 = s 0 + n) ∧ ∀ Q : KQ, wp G (d + 5) 186 2 [some (vR m), some (vI k), some (vI i)] [] h Q = Q none (mst m (GOESn n s) y' t' h) := by
  intro n
  induction n with
  | zero =>
    intro s h y t i hm hs hy ht ok h0 i0 hi
    refine ⟨y, t, ⟨ok, by rw [GOESn]; omega⟩, fun Q => ?_⟩
    rw [GOESn, mst_same hs hy ht, u186_2]
    simp (disch := omega) only [U186, KK, ↓if_pos]
  | succ n ih =>
    intro s h y t i hm hs hy ht ok h0 i0 hi
    obtain ⟨y1, t1, h1⟩ := m_goes (G := G) (d := d) hm hs hy ht ok
    have okG := okD_GOES ok (by omega)
    obtain ⟨y2, t2, ⟨q1, q2⟩, h2⟩ := ih (GOES s) (mst m (GOES s) y1 t1 h) y1 t1 (i + 1) (by rw [mst_m (by omega) (by omega) (by omega)]; exact hm) mst_1 mst_4 mst_5 okG (by rw [GOES_0]; omega) (by omega) (by omega)
    refine ⟨y2, t2, ⟨q1, by rw [GOESn, q2, GOES_0]; omega⟩, fun Q => ?_⟩
    have h3 := h2 Q
    rw [mst_mst] at h3
    rw [GOESn, ← h3, u186_2]
    simp (disch := omega) only [U186, KK, Int.reduceEq, not_false_iff, ↓reduceIte, ↓if_pos, ↓if_neg, hm, ar_add, h1, xt_o, VS13, nlO_i, nlO_n, nlO_r, true_and, List.length_nil, List.length_cons, Nat.reduceAdd, Nat.reduceLeDiff, Nat.zero_le]
theorem m_goesOn {h : MH} {y t : Int → Int} (hm : h.2.2 m = some (mO m f0 f4 f5 f6 f7 f8 f9 f12 f13 f14 f17 f18 f20 f21 f22 f23)) (hs : h.2.2 (m + 1) = some (cArr 0 937 (ix s))) (hy : h.2.2 (m + 4) = some (cArr 0 6 (ix y))) (ht : h.2.2 (m + 5) = some (cArr 1 64 (ix t))) (ok : okD s) {k : Int} (hk : 0 ≤ k ∧ k ≤ 60) (h0 : s 0 + k ≤ 100000) : ∃ y' t' : Int → Int, (okD (GOESn k.toNat s) ∧ GOESn k.toNat s 0 = s 0 + k) ∧ ∀ Q : KQ, wpC G (d + 6) 186 [vR m, vI k] h Q = Q none (mst m (GOESn k.toNat s) y' t' h) := by
  obtain ⟨y', t', ⟨q1, q2⟩, h1⟩ := m_goesOn_l (G := G) (d := d) (k := k) (by omega) k.toNat s h y t 0 hm hs hy ht ok (by omega) (by omega) (by omega)
  refine ⟨y', t', ⟨q1, by omega⟩, fun Q => ?_⟩
  rw [← h1 Q, e186]
  simp only [U186, nlO_n, nlO_i, nlO_r, true_and]
theorem m_keeps_l : ∀ (n : Nat) (u : Int → Int) (h : MH) (i : Int), h.2.2 m = some (mO m f0 f4 f5 f6 f7 f8 f9 f12 f13 f14 f17 f18 f20 f21 f22 f23) → h.2.2 (m + 1) = some (cArr 0 937 (ix s)) → h.2.2 (m + 3) = some (cArr 0 27 (ix u)) → 0 ≤ i → i + n = 27 → wp G d 174 2 [some (vR m), some (vI i)] [] h Q = Q none (hset h (m + 3) (cArr 0 27 (ix (cp u s i 27)))) := by
  intro n
  induction n with
  | zero =>
    intro u h i hm hs hu i0 hi
    have : i = 27 := by omega
    subst this
    rw [cp_end, hs_same hu, u174_2]
    simp (disch := omega) only [U174, KK, ↓if_pos]
  | succ n ih =>
    intro u h i hm hs hu i0 hi
    have n0 : ¬ m = m + 3 := by omega
    have n1 : ¬ m + 1 = m + 3 := by omega
    have h2 := ih (up u i (s i)) (hset h (m + 3) (cArr 0 27 (ix (up u i (s i))))) (i + 1) (by rw [hs_ne n0]; exact hm) (by rw [hs_ne n1]; exact hs) hs_eq (by omega) (by omega)
    rw [hs_hs, cp_up (by omega)] at h2
    rw [← h2, u174_2]
    simp (disch := omega) only [U174, KK, ↓if_neg, hm, hs, hu, GX13, xa_i, xs_i, ar_add, nlO_r, true_and]
theorem m_keeps {u : Int → Int} {h : MH} (hm : h.2.2 m = some (mO m f0 f4 f5 f6 f7 f8 f9 f12 f13 f14 f17 f18 f20 f21 f22 f23)) (hs : h.2.2 (m + 1) = some (cArr 0 937 (ix s))) (hu : h.2.2 (m + 3) = some (cArr 0 27 (ix u))) : wpC G (d + 1) 174 [vR m] h Q = Q none (hset h (m + 3) (cArr 0 27 (ix (cp u s 0 27)))) := by
  rw [e174, ← m_keeps_l (G := G) (d := d) (Q := Q) 27 u h 0 hm hs hu (by omega) rfl]
  simp only [U174, nlO_n, nlO_i, nlO_r, true_and]
theorem m_goesBack_l {u : Int → Int} : ∀ (n : Nat) (s : Int → Int) (h : MH) (i : Int), h.2.2 m = some (mO m f0 f4 f5 f6 f7 f8 f9 f12 f13 f14 f17 f18 f20 f21 f22 f23) → h.2.2 (m + 1) = some (cArr 0 937 (ix s)) → h.2.2 (m + 3) = some (cArr 0 27 (ix u)) → 0 ≤ i → i + n = 27 → wp G d 179 2 [some (vR m), some (vI i)] [] h Q = Q none (hset h (m + 1) (cArr 0 937 (ix (cp s u i 27)))) := by
  intro n
  induction n with
  | zero =>
    intro s h i hm hs hu i0 hi
    have : i = 27 := by omega
    subst this
    rw [cp_end, hs_same hs, u179_2]
    simp (disch := omega) only [U179, KK, ↓if_pos]
  | succ n ih =>
    intro s h i hm hs hu i0 hi
    have n0 : ¬ m = m + 1 := by omega
    have n1 : ¬ m + 3 = m + 1 := by omega
    have h2 := ih (up s i (u i)) (hset h (m + 1) (cArr 0 937 (ix (up s i (u i))))) (i + 1) (by rw [hs_ne n0]; exact hm) hs_eq (by rw [hs_ne n1]; exact hu) (by omega) (by omega)
    rw [hs_hs, cp_up (by omega)] at h2
    rw [← h2, u179_2]
    simp (disch := omega) only [U179, KK, ↓if_neg, hm, hs, hu, GX13, xa_i, xs_i, ar_add, nlO_r, true_and]
theorem m_goesBack {u : Int → Int} {h : MH} (hm : h.2.2 m = some (mO m f0 f4 f5 f6 f7 f8 f9 f12 f13 f14 f17 f18 f20 f21 f22 f23)) (hs : h.2.2 (m + 1) = some (cArr 0 937 (ix s))) (hu : h.2.2 (m + 3) = some (cArr 0 27 (ix u))) : wpC G (d + 1) 179 [vR m] h Q = Q none (hset h (m + 1) (cArr 0 937 (ix (cp s u 0 27)))) := by
  rw [e179, ← m_goesBack_l (G := G) (d := d) (Q := Q) 27 s h 0 hm hs hu (by omega) rfl]
  simp only [U179, nlO_n, nlO_i, nlO_r, true_and]
end M10
