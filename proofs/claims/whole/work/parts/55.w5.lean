/-! days, in a world -/
theorem or_in {a c : Int} (h0 : 0 ≤ a) (h1 : a ≤ 255) (c0 : 0 ≤ c) (c1 : c ≤ 255) : 0 ≤ iBin 4 a c ∧ iBin 4 a c ≤ 255 := by
  have t : ∀ z : Int, 0 ≤ z → z ≤ 255 → (Int32.ofInt z).toBitVec.toNat = z.toNat := by
    intro z z0 z1
    have h2 : (Int32.ofInt z).toInt = z := i32i ⟨by omega, by omega⟩
    have h3 : (Int32.ofInt z).toBitVec.toInt = z := h2
    rw [BitVec.toInt_eq_toNat_cond] at h3
    split at h3
    · omega
    · have := (Int32.ofInt z).toBitVec.isLt; omega
  have hl : a.toNat ||| c.toNat < 2 ^ 8 := Nat.or_lt_two_pow (by omega) (by omega)
  have e : iBin 4 a c = ((a.toNat ||| c.toNat : Nat) : Int) := by
    show ((Int32.ofInt a).toBitVec ||| (Int32.ofInt c).toBitVec).toInt = _
    rw [BitVec.toInt_eq_toNat_cond, BitVec.toNat_or, t a h0 h1, t c c0 c1, if_pos (by omega)]
  rw [e]
  omega
theorem choF_in {s : Int → Int} {many how : Int} : ∀ (k : Nat) (rest set n : Int), 0 ≤ rest → rest ≤ 255 → 0 ≤ set → set ≤ 255 → 0 ≤ choF s many how k rest set n ∧ choF s many how k rest set n ≤ 255
  | 0, rest, set, n, r0, r1, t0, t1 => ⟨t0, t1⟩
  | k + 1, rest, set, n, r0, r1, t0, t1 => by
    rw [choF]
    by_cases c : n < many ∧ ¬ rest = 0
    · rw [if_pos c]
      obtain ⟨p0, p1, p2⟩ := pick_in (s := s) (how := how) r0 r1 c.2
      obtain ⟨-, ⟨q0, q1, -⟩, -⟩ := set_k r0 r1 p0 p1
      obtain ⟨-, -, u0, u1⟩ := set_k t0 t1 p0 p1
      exact choF_in k _ _ _ q0 (by omega) u0 u1
    · rw [if_neg c]
      exact ⟨t0, t1⟩
theorem CHO_in {s : Int → Int} {x many how : Int} (h0 : 0 ≤ x) (h1 : x ≤ 255) : 0 ≤ CHO s x many how ∧ CHO s x many how ≤ 255 := choF_in 256 x 0 0 h0 h1 (by omega) (by omega)
theorem SAYS_in {s : Int → Int} {p hd : Int} (oa : okA s p) : 0 ≤ SAYS s p hd ∧ SAYS s p hd ≤ 255 := by
  obtain ⟨p0, p1, k0, k1, v0, v1, n0, n1⟩ := oa
  have hlo := and_in (a := s (55 + p)) (b := iBin 5 hd (-1)) n0 (by omega)
  have hl : 0 ≤ LEFT s p hd ∧ LEFT s p hd ≤ 255 := ⟨hlo.1, by show iBin 3 _ _ ≤ 255; omega⟩
  have hc := fun (many how : Int) => CHO_in (s := s) (many := many) (how := how) hl.1 hl.2
  have hm : 0 ≤ MEEK s p hd ∧ MEEK s p hd ≤ 255 := by
    unfold MEEK
    split
    · exact hc _ _
    · omega
  unfold SAYS
  split
  · exact hc _ _
  · split
    · exact hm
    · split
      · exact hc _ _
      · split
        · have := hc (MOUTH s p hd) 1
          have := and_in (a := CHO s (LEFT s p hd) (MOUTH s p hd) 1) (b := iBin 5 (iBin 6 1 (s (49 + p) % 8)) (-1)) this.1 (by omega)
          omega
        · split
          · have := and_in (a := 1) (b := iBin 5 hd (-1)) (by omega) (by omega)
            exact or_in hm.1 hm.2 this.1 (by omega)
          · split
            · have h2 := hc (MOUTH s p hd) 2
              have h3 := and_in (a := LEFT s p hd) (b := s (61 + 4 * p + s 0 % 4)) hl.1 (by omega)
              have h4 := and_in (a := iBin 3 (LEFT s p hd) (s (61 + 4 * p + s 0 % 4))) (b := 15) h3.1 (by omega)
              exact or_in h2.1 h2.2 h4.1 (by omega)
            · exact hc _ _
theorem okW_GOA {s : Int → Int} (ok : okW s) {a : Int} (a0 : 0 ≤ a ∧ a < 5) : okW (GOA s a) := by
  have ok' := ok
  obtain ⟨okd, o34, o29, oWt, oAw, oN, oA⟩ := ok'
  have hl := lowS_GOA (s := s) a0
  refine ⟨okD_GOA a0 okd, ?_, ?_, fun f f0 f1 => ?_, fun k k0 k1 => ?_, fun i i0 i1 => ?_, fun c c0 c1 => ?_⟩
  · rw [hl 34 (by omega), hl 29 (by omega)]; exact o34
  · rw [hl 29 (by omega)]; exact o29
  · rw [hl _ (by omega)]; exact oWt f f0 f1
  · rw [hl _ (by omega)]; exact oAw k k0 k1
  · rw [hl _ (by omega)]; exact oN i i0 i1
  · by_cases e : c = a
    · subst e
      have hc := oA c c0 c1
      by_cases g : s (16 + c) = 0 ∧ s (11 + c) < s 27
      · have hp0 := okd.2.2.2.2 c c0 c1
        have h27 := okd.2.2.1
        have hS := SAYS_in (hd := s (1 + c)) (okd.2.2.2.1 _ hp0 g.2)
        have hW := WGT_le (x := SAYA s c) ok
        have eSh : SHKA s c = s (6 + c) + WGT s (SAYA s c) := ar_add (by omega)
        have hor := or_in hc.2.1.1 hc.2.1.2 hS.1 hS.2
        have hnv := NERVE_le ok
        have hnb := hc.2.2.2.1 g.1
        unfold GOA MEET
        rw [if_pos g]
        split
        · rw [up_ne (by omega), up_ne (by omega), up_ne (by omega), up_eq]
          omega
        · split
          · unfold MEETs
            rw [up_eq, up_ne (by omega), up_ne (by omega), up_eq, up_ne (by omega), up_eq, up_ne (by omega), up_ne (by omega), up_ne (by omega)]
            refine ⟨Or.inr rfl, hor, by omega, fun q => by omega, by omega⟩
          · unfold MEETs
            rw [up_ne (by omega), up_ne (by omega), up_ne (by omega), up_ne (by omega), up_ne (by omega), up_eq, up_ne (by omega), up_eq, up_eq]
            refine ⟨hc.1, hor, by omega, fun q => by omega, by omega⟩
      · have eG : GOA s c = s := if_neg g
        rw [eG]; exact hc
    · obtain ⟨q1, q2, q3, q4⟩ := GOA_oth (s := s) a0 c0 c1 e
      rw [q1, q2, q3, q4]
      exact oA c c0 c1
theorem GOF_okW : ∀ (n : Nat) (a : Int) (s : Int → Int), 0 ≤ a → a + n ≤ 5 → okW s → okW (GOF n a s)
  | 0, _, _, _, _, ok => ok
  | n + 1, a, s, a0, a1, ok => GOF_okW n (a + 1) (GOA s a) (by omega) (by omega) (okW_GOA ok ⟨a0, by omega⟩)
theorem okW_GOES {s : Int → Int} (ok : okW s) (h0 : s 0 < 100000) : okW (GOES s) := by
  have o28 := ok.1.2.1
  have hF := GOF_okW (s 28).toNat 0 s (by omega) (by omega) ok
  have hD := okD_GOES ok.1 h0
  refine ⟨hD, ?_⟩
  unfold GOES
  generalize GOF (s 28).toNat 0 s = u at *
  obtain ⟨-, o34, o29, oWt, oAw, oN, oA⟩ := hF
  have eq : ∀ k, ¬ k = 0 → up u 0 (s 0 + 1) k = u k := fun k hk => up_ne hk
  refine ⟨by rw [eq 34 (by omega), eq 29 (by omega)]; exact o34, by rw [eq 29 (by omega)]; exact o29, fun f f0 f1 => by rw [eq _ (by omega)]; exact oWt f f0 f1, fun k k0 k1 => by rw [eq _ (by omega)]; exact oAw k k0 k1, fun i i0 i1 => by rw [eq _ (by omega)]; exact oN i i0 i1, fun a a0 a1 => by rw [eq _ (by omega), eq _ (by omega), eq _ (by omega), eq _ (by omega)]; exact oA a a0 a1⟩
section W5
variable {G : MG} {d : Nat} {Q : KQ} {gb : Nat} {Bs : Nat → Prop} {ad : Int → Nat} {b : Int} {w lo : Nat} {vd : Int → Nat}
/-- the world's own object written: the day, the signs, who is away -/
theorem qW_wob {h h' : MH} {s s' : Int → Int} (z : qW G Bs ad b w vd s h) (ok : okW s) (A : qAD ad lo) (hlo : w + 22 ≤ lo) (f : qFr gb Bs (fun q => q = w) h h') (hw : h'.2.2 w = some (wO w (s' 33) (s' 0) (AWAYS s'))) (e : ∀ i, ¬ i = 0 → ¬ i = 33 → (i < 21 ∨ 27 ≤ i) → s' i = s i) : qW G Bs ad b w vd s' h' := by
  obtain ⟨⟨x1, x2, x3, x4, x5, x6, x7, c1, c2, c3, c4, x8⟩, y1, y2, y3, y4, y5, y6⟩ := z
  have oxo : qXo (fun q => q = w) h := xo_1 x1 (by omega)
  have o28 := ok.1.2.1
  have o27 := ok.1.2.2.1
  have o29 := ok.2.2.1
  have e27 : s' 27 = s 27 := e 27 (by omega) (by omega) (by omega)
  have e28 : s' 28 = s 28 := e 28 (by omega) (by omega) (by omega)
  have e29 : s' 29 = s 29 := e 29 (by omega) (by omega) (by omega)
  have e30 : s' 30 = s 30 := e 30 (by omega) (by omega) (by omega)
  have e31 : s' 31 = s 31 := e 31 (by omega) (by omega) (by omega)
  have e32 : s' 32 = s 32 := e 32 (by omega) (by omega) (by omega)
  have aw : ∀ i, ¬ ad i = w := fun i q => by have := A.2 i; omega
  refine ⟨⟨hw, qIR_cg (qIR_fo x2 f (by decide) oxo) (fun i i0 i1 => e _ (by omega) (by omega) (by omega)), qIR_cg (qIR_fo x3 f (by decide) oxo) (fun i i0 i1 => e _ (by omega) (by omega) (by omega)), ?_, ?_, ?_, qVL_fo x7 f oxo, c1, c2, c3, c4, fr_o f x8 (fun q => by omega)⟩, ?_⟩
  · rw [e30]; exact qRW_cg (qRW_fo x4 f (by decide) oxo) (fun i i0 i1 => e _ (by omega) (by omega) (by omega)) (fun i i0 i1 => e _ (by omega) (by omega) (by omega))
  · rw [e31]; exact qRW_cg (qRW_fo x5 f (by decide) oxo) (fun i i0 i1 => e _ (by omega) (by omega) (by omega)) (fun i i0 i1 => e _ (by omega) (by omega) (by omega))
  · rw [e32]; exact qRW_cg (qRW_fo x6 f (by decide) oxo) (fun i i0 i1 => e _ (by omega) (by omega) (by omega)) (fun i i0 i1 => e _ (by omega) (by omega) (by omega))
  · unfold qWY
    rw [e27, e28, e29]
    refine ⟨qLL_fo y1 f oxo, qLL_fo y2 f oxo, qLL_fo y3 f oxo, fun i i0 i1 => qAW_cg (qAW_fo (okW_k ok i i0 i1) (y4 i i0 i1) f oxo (aw _)) (e _ (by omega) (by omega) (by omega)) (e _ (by omega) (by omega) (by omega)) (e _ (by omega) (by omega) (by omega)) (fun k k0 k1 => e _ (by omega) (by omega) (by omega)), fun c c0 c1 => ?_, fun i i0 i1 => ?_⟩
    · have := qAK_fr (y5 c c0 c1) f (aw _)
      unfold qAK at this ⊢
      rw [e (1 + c) (by omega) (by omega) (by omega), e (6 + c) (by omega) (by omega) (by omega), e (11 + c) (by omega) (by omega) (by omega), e (16 + c) (by omega) (by omega) (by omega)]
      exact this
    · refine qVL_cg (qVL_fo (y6 i i0 i1) f oxo) ?_ (e _ (by omega) (by omega) (by omega))
      unfold stepsOf
      rw [e (232 + i) (by omega) (by omega) (by omega)]
      exact seg_cg _ _ (fun k hk hk2 => e k (by omega) (by omega) (by omega))
/-- a world's askers' objects, and its own -/
def qAs (ad : Int → Nat) (b : Int) (w : Nat) (n : Int) : Nat → Prop := fun q => q = w ∨ ∃ c, 0 ≤ c ∧ c < n ∧ q = ad (b + 10 + c)
theorem c_day_l (A : qAD ad lo) (hlo : w + 22 ≤ lo) {n1 n2 : Option V} (hn2 : nlO n2 = true) : ∀ (n : Nat) (s : Int → Int) (h : MH) (a : Int), qW G Bs ad b w vd s h → okW s → 0 ≤ a → a + n = s 28 → ∃ h' : MH, qW G Bs ad b w vd (GOF n a s) h' ∧ qFr gb Bs (qAs ad b w (s 28)) h h' ∧ (h'.1 = h.1 ∧ h'.2.1 = h.2.1) ∧ ∀ Q : KQ, wp G (d + 7) 54 9 [some (vR w), n1, n2, some (vI a)] [] h Q = wp G (d + 7) 54 41 [some (vR w), n1, n2, some (vI (s 28))] [] h' Q := by
  intro n
  induction n with
  | zero =>
    intro s h a z ok a0 an
    have o28 := ok.1.2.1
    refine ⟨h, z, qFr_rf, ⟨rfl, rfl⟩, fun Q => ?_⟩
    have z1 := z.1.1
    have hsz := fun (K : KQ) => ll_size (G := G) (d := d + 6) (Q := K) z.2.2.1
    have htg := fun (K : Nat → Prop) => ll_tag z.2.2.1 (K := K)
    have : a = s 28 := by omega
    subst this
    rw [u54_9]
    generalize hW : wp G (d + 7) 54 41 [some (vR w), n1, n2, some (vI (s 28))] [] h Q = W
    simp only [u54_10, u54_11, u54_14, u54_17, KK, z1, GX11, htg, hsz, VS0, List.length_nil, List.length_cons, Nat.reduceAdd, Nat.reduceLeDiff, Nat.zero_le, true_and]
    rw [if_pos (Int.le_refl _)]
    exact hW
  | succ n ih =>
    intro s h a z ok a0 an
    have o28 := ok.1.2.1
    obtain ⟨h1, r1, r2, r3, r4⟩ := c_visit (d := d) A hlo z ok (a := a) ⟨a0, by omega⟩
    have hl := lowS_GOA (s := s) (a := a) ⟨a0, by omega⟩
    obtain ⟨h2, t1, t2, t3, t4⟩ := ih (GOA s a) h1 (a + 1) r1 (okW_GOA ok ⟨a0, by omega⟩) (by omega) (by rw [hl 28 (by omega)]; omega)
    rw [hl 28 (by omega)] at t2
    refine ⟨h2, t1, qFr_tr (qFr_wk r2 (fun q hq => Or.inr ⟨a, a0, by omega, hq⟩)) t2, ⟨t3.1.trans r3.1, t3.2.trans r3.2⟩, fun Q => ?_⟩
    have t4 := t4 Q
    rw [hl 28 (by omega)] at t4
    rw [← t4]
    have z1 := z.1.1
    have hsz := fun (K : KQ) => ll_size (G := G) (d := d + 6) (Q := K) z.2.2.1
    have htg := fun (K : Nat → Prop) => ll_tag z.2.2.1 (K := K)
    have hgt := fun (K : KQ) => ll_get (G := G) (d := d + 4) (Q := K) z.2.2.1 (i := a) ⟨a0, by omega⟩
    have hk : h.2.2 (ad (b + 10 + a)) = some (cObj 1 [vI (s (1 + a)), vI (s (6 + a)), vI (s (11 + a)), vI (s (16 + a))]) := z.2.2.2.2.2.1 a a0 (by omega)
    rw [u54_9]
    generalize hW : wp G (d + 7) 54 9 [some (vR w), n1, n2, some (vI (a + 1))] [] h1 Q = W
    simp only [u54_10, u54_11, u54_14, u54_17, KK, z1, GX11, htg, hsz, VS0, List.length_nil, List.length_cons, Nat.reduceAdd, Nat.reduceLeDiff, Nat.zero_le, true_and]
    rw [if_neg (by omega)]
    simp only [u54_20, u54_21, u54_22, u54_25, u54_26, u54_29, u54_32, u54_35, u54_38, KK, z1, hk, GX11, htg, hgt, r4, OKS, xt_o, VS0, VS11, hn2, List.length_nil, List.length_cons, Nat.reduceAdd, Nat.reduceLeDiff, Nat.zero_le, true_and]
    rw [ar_add (by omega)]
    exact hW
theorem GOF_28 {s : Int → Int} (ok : okW s) : ∀ i, (i ≤ 0 ∨ 21 ≤ i) → GOF (s 28).toNat 0 s i = s i := (GOF_ok (s 28).toNat 0 s (by omega) (by have := ok.1.2.1; omega) ok.1).2
theorem c_day (A : qAD ad lo) (hlo : w + 22 ≤ lo) {s : Int → Int} {h : MH} (z : qW G Bs ad b w vd s h) (ok : okW s) (h0 : s 0 < 100000) {n1 : Option V} {i : Int} (hi : 0 ≤ i ∧ i ≤ 1000) {n3 : Option V} (hn1 : nlO n1 = true) (hn3 : nlO n3 = true) : ∃ h' : MH, qW G Bs ad b w vd (GOES s) h' ∧ qFr gb Bs (qAs ad b w (s 28)) h h' ∧ (h'.1 = h.1 ∧ h'.2.1 = h.2.1) ∧ ∀ Q : KQ, wp G (d + 7) 54 7 [some (vR w), n1, some (vI i), n3] [] h Q = wp G (d + 7) 54 2 [some (vR w), n1, some (vI (i + 1)), some (vI (s 28))] [] h' Q := by
  have o28 := ok.1.2.1
  obtain ⟨h1, r1, r2, r3, r4⟩ := c_day_l (d := d) A hlo (n1 := n1) (n2 := some (vI i)) rfl (s 28).toNat s h 0 z ok (by omega) (by omega)
  have hG := GOF_28 ok
  have z1 := r1.1.1
  have e0 : GOF (s 28).toNat 0 s 0 = s 0 := hG 0 (by omega)
  have e33 : GOF (s 28).toNat 0 s 33 = s 33 := hG 33 (by omega)
  have okF := GOF_okW (s 28).toNat 0 s (by omega) (by omega) ok
  have eA : AWAYS (GOES s) = AWAYS (GOF (s 28).toNat 0 s) := AWAYS_cg (up_ne (by omega)) (okF.1.2.2.1.1) (fun k k0 k1 => up_ne (by omega))
  have eq0 : GOES s 0 = s 0 + 1 := GOES_0
  have eq33 : GOES s 33 = GOF (s 28).toNat 0 s 33 := up_ne (by omega)
  refine ⟨hset h1 w (wO w (GOES s 33) (GOES s 0) (AWAYS (GOES s))), qW_wob (gb := gb) r1 okF A hlo (qFr_set rfl z1) hs_eq (fun i i0 _ _ => up_ne i0), qFr_tr r2 (qFr_set (Or.inl rfl) z1), ⟨r3.1, r3.2⟩, fun Q => ?_⟩
  have h1' := ok.1.1.2.2.2.2.2
  rw [u54_7, u54_8]
  simp only [hn3, nlO_i, true_and]
  rw [r4 Q]
  rw [e0] at z1
  simp only [u54_41, u54_42, u54_42a, u54_43, u54_46, u54_47, u54_48, u54_51, u54_54, KK, z1, GX11, PX11, hn1, true_and]
  rw [ar_add (by omega), ar_add (by omega), eA, eq33, eq0]
end W5
