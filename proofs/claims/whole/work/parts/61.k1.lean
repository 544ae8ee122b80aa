/-! the class as a whole -/
/-- those who would say so as they are -/
def woF (s : Int → Int) : Nat → Int → Int → Int
  | 0, _, a => a
  | n + 1, i, a => woF s n (i + 1) (iBin 4 a (if ASSAID s i = 1 then iBin 6 1 i else 0))
def WHOs (s : Int → Int) : Int := woF s (s 27).toNat 0 0
section W9b
variable {G : MG} {d : Nat} {Q : KQ} {gb : Nat} {Bs : Nat → Prop} {ad : Int → Nat} {b : Int} {x w lo : Nat} {vd : Int → Nat} {s : Int → Int} {p hi : Int} {tw : Nat}
theorem c_firm_l (okp : okP s) (hp : 0 ≤ p ∧ p < s 27) (hxw : w = x + 1) (hne : ∀ i, 0 ≤ i → i < s 27 → ¬ ad (b + i) = tw) {a1 a2 : Option V} : ∀ (k : Nat) (h : MH) (n f c : Int), qW G Bs ad b w vd s h → h.2.2 x = some (xO x hi) → qAW tw (tw + 1) (up s (49 + p) c) p h → (k : Int) ≤ 10 → 0 ≤ n → n + k ≤ 1000 → ∃ h' : MH, qFr gb Bs (fun q => q = tw) h h' ∧ qW G Bs ad b w vd s h' ∧ (h'.1 = h.1 ∧ h'.2.1 = h.2.1) ∧ ∀ Q : KQ, wp G (d + 7) 28 51 [some (vR x), a1, a2, some (vR tw), some (vI n), some (vI f), some (vI ((k : Int) - 1))] [] h Q = wp G (d + 7) 28 86 [some (vR x), a1, a2, some (vR tw), some (vI (fiF (fiP s p (49 + p)) k n f).1), some (vI (fiF (fiP s p (49 + p)) k n f).2), some (vI (-1))] [] h' Q := by
  have ok := okp.1
  have oA := ok.1.2.2.2.1 p hp.1 hp.2
  have h27 := ok.1.2.2.1
  obtain ⟨p0, p1, k0, k1, v0, v1, n0, n1⟩ := oA
  intro k
  induction k with
  | zero =>
    intro h n f c z hx zA hk n00 hn
    refine ⟨h, qFr_rf, z, ⟨rfl, rfl⟩, fun Q => ?_⟩
    rw [fiF, u28_51]
    generalize hW : wp G (d + 7) 28 86 [some (vR x), a1, a2, some (vR tw), some (vI n), some (vI f), some (vI (-1))] [] h Q = W
    rw [show ((0 : Nat) : Int) - 1 = -1 from rfl, u28_53, if_pos (by decide)]
    exact hW
  | succ k ih =>
    intro h n f c z hx zA hk n00 hn
    have zA0 := zA.1
    rw [up_ne (by omega), up_eq, up_ne (by omega)] at zA0
    obtain ⟨h1, hh1⟩ : ∃ h1, h1 = hset h tw (AUC (tw + 1) (s (43 + p)) p k (s (55 + p))) := ⟨_, rfl⟩
    have f1 : qFr gb Bs (fun q => q = tw) h h1 := by rw [hh1]; exact qFr_set rfl zA0
    have z2 := qW_tw z ok f1 ⟨k0, k1⟩ zA0 hne
    have hx1 : h1.2.2 x = some (xO x hi) := by
      obtain ⟨t, fs, e, ha⟩ := AUC_o (r := tw + 1) (p := p) (v := c) (kn := s (55 + p)) ⟨k0, k1⟩
      rw [e] at zA0
      rw [hh1, hs_ne (ne_oo hx zA0 (fun q => by subst q; exact absurd ha (by decide)))]
      exact hx
    have eA : eqA s (up s (49 + p) k) := fun i hi => up_ne (by omega)
    have zA1 : qAW tw (tw + 1) (up s (49 + p) k) p h1 := by
      refine ⟨?_, fun q => ?_⟩
      · rw [hh1, hs_eq, up_ne (by omega), up_eq, up_ne (by omega)]
      · rw [up_ne (by omega)] at q
        obtain ⟨ro, r1, r2⟩ := zA.2 (by rw [up_ne (by omega)]; exact q)
        refine ⟨ro, ?_, fun j j0 j1 => ?_⟩
        · rw [hh1, hs_ne (by omega)]; exact r1
        · have := r2 j j0 j1
          rw [up_ne (by omega)] at this ⊢
          exact this
    have oA1 : okA (up s (49 + p) k) p := by
      refine ⟨p0, p1, ?_⟩
      rw [up_ne (by omega), up_eq, up_ne (by omega)]
      omega
    obtain ⟨h2, f2, k2, w2⟩ := c_fits (gb := gb) (d := d) z2 okp eA zA1 oA1
    have z3 := qW_f0 z2 f2 (okW_k ok)
    have hx2 : h2.2.2 x = some (xO x hi) := fr_o f2 hx1 id
    have zA2 := qAW_fo ⟨oA1.2.2.1, oA1.2.2.2.1⟩ zA1 f2 (fun _ q => q.elim) id
    have hc1 : h1.1 = h.1 ∧ h1.2.1 = h.2.1 := by rw [hh1]; exact ⟨rfl, rfl⟩
    have z21 := z2.1.1
    rw [hxw] at w2 z21
    have hP1 := fun (K : MC → Prop) => AP1 (K := K) (r := tw + 1) (k := s (43 + p)) (p := p) (v := c) (kn := s (55 + p)) (x := (k : Int)) ⟨k0, k1⟩
    rw [fiF]
    by_cases c1 : fiP s p (49 + p) k
    · have c1' : ASSAID (up s (49 + p) k) p = 1 := c1
      rw [if_pos c1]
      obtain ⟨h3, t1, t2, t3, t4⟩ := ih h2 (n + 1) k k z3 hx2 zA2 (by omega) (by omega) (by omega)
      refine ⟨h3, qFr_tr f1 (qFr_tr (qFr_wk f2 (fun _ q => q.elim)) t1), t2, ⟨t3.1.trans (k2.1.trans hc1.1), t3.2.trans (k2.2.trans hc1.2)⟩, fun Q => ?_⟩
      rw [← t4 Q, u28_51, show ((k + 1 : Nat) : Int) - 1 = (k : Int) by omega]
      generalize hW : wp G (d + 7) 28 51 [some (vR x), a1, a2, some (vR tw), some (vI (n + 1)), some (vI (k : Int)), some (vI ((k : Int) - 1))] [] h2 Q = W
      rw [u28_53, if_neg (by omega)]
      simp only [u28_56, u28_57, u28_59, KK, zA0, hP1]
      rw [← hh1]
      simp only [u28_62, u28_63, u28_66, u28_67, KK, hx1, z21, GX12, VS11, xt_o, w2, c1', List.length_nil, List.length_cons, Nat.reduceAdd, Nat.reduceLeDiff, Nat.zero_le, true_and]
      rw [u28_70, if_neg (by decide)]
      simp only [u28_73, u28_76, u28_78, u28_80, u28_83, nlO_i, nlO_r, true_and]
      rw [ar_add (by omega), ar_add (by omega)]
      exact hW
    · have c1' : ASSAID (up s (49 + p) k) p = 0 := AS_01.resolve_right c1
      rw [if_neg c1]
      obtain ⟨h3, t1, t2, t3, t4⟩ := ih h2 n f k z3 hx2 zA2 (by omega) (by omega) (by omega)
      refine ⟨h3, qFr_tr f1 (qFr_tr (qFr_wk f2 (fun _ q => q.elim)) t1), t2, ⟨t3.1.trans (k2.1.trans hc1.1), t3.2.trans (k2.2.trans hc1.2)⟩, fun Q => ?_⟩
      rw [← t4 Q, u28_51, show ((k + 1 : Nat) : Int) - 1 = (k : Int) by omega]
      generalize hW : wp G (d + 7) 28 51 [some (vR x), a1, a2, some (vR tw), some (vI n), some (vI f), some (vI ((k : Int) - 1))] [] h2 Q = W
      rw [u28_53, if_neg (by omega)]
      simp only [u28_56, u28_57, u28_59, KK, zA0, hP1]
      rw [← hh1]
      simp only [u28_62, u28_63, u28_66, u28_67, KK, hx1, z21, GX12, VS11, xt_o, w2, c1', List.length_nil, List.length_cons, Nat.reduceAdd, Nat.reduceLeDiff, Nat.zero_le, true_and]
      rw [u28_70, if_pos rfl]
      simp only [u28_80, u28_83, nlO_i, nlO_r, true_and]
      rw [ar_add (by omega)]
      exact hW
theorem c_who_l (okp : okP s) (hxw : w = x + 1) : ∀ (n : Nat) (h : MH) (i a : Int), qW G Bs ad b w vd s h → h.2.2 x = some (xO x hi) → 0 ≤ i → i + n = s 27 → 0 ≤ a → a < 64 → ∃ h' : MH, qFr gb Bs (fun _ => False) h h' ∧ (h'.1 = h.1 ∧ h'.2.1 = h.2.1) ∧ ∀ Q : KQ, wp G (d + 7) 29 4 [some (vR x), some (vI a), some (vI i)] [] h Q = Q (some (vI (woF s n i a))) h' := by
  have ok := okp.1
  have h27 := ok.1.2.2.1
  intro n
  induction n with
  | zero =>
    intro h i a z hx i0 hi a0 a1
    refine ⟨h, qFr_rf, ⟨rfl, rfl⟩, fun Q => ?_⟩
    have z1 := z.1.1
    rw [hxw] at z1
    have hsz := fun (K : KQ) => ll_size (G := G) (d := d + 6) (Q := K) z.2.1
    have htg := fun (K : Nat → Prop) => ll_tag z.2.1 (K := K)
    rw [hxw] at hsz htg
    rw [woF, u29_4]
    simp (disch := omega) only [KK, Int.reduceEq, not_false_iff, ↓reduceIte, ↓if_pos, ↓if_neg, xt_o, true_and, nlO_i, nlO_n, nlO_r, List.length_nil, List.length_cons, Nat.reduceAdd, Nat.reduceLeDiff, Nat.zero_le, U29, hx, z1, hsz, htg, GX12, GX11, VS0]
  | succ n ih =>
    intro h i a z hx i0 hi' a0 a1
    have z1 := z.1.1
    have hsz := fun (K : KQ) => ll_size (G := G) (d := d + 6) (Q := K) z.2.1
    have htg := fun (K : Nat → Prop) => ll_tag z.2.1 (K := K)
    have hgt := fun (K : KQ) => ll_get (G := G) (d := d + 4) (Q := K) z.2.1 (i := i) ⟨i0, by omega⟩
    have hA := z.2.2.2.2.1 i i0 (by omega)
    have hau := hA.1
    have hk7 := okW_k ok i i0 (by omega)
    have hAC := fun (pc : Nat) (L : Loc') (st : List V) (Q : KQ) => AC (G := G) (d := d + 7) (h := h) (Q := Q) (a := ad (b + i)) (r := ad (b + i) + 1) (k := s (43 + i)) (p := i) (v := s (49 + i)) (kn := s (55 + i)) (y := 29) (pc := pc) (L := L) (st := st) hk7
    obtain ⟨h1, f1, k1, w1⟩ := c_fits (gb := gb) (d := d) z okp (fun _ _ => rfl) hA (ok.1.2.2.2.1 i i0 (by omega))
    have z2 := qW_f0 z f1 (okW_k ok)
    have hx1 : h1.2.2 x = some (xO x hi) := fr_o f1 hx id
    rw [hxw] at z1 hsz htg hgt w1
    have hs1 := shl_of i0 (show i ≤ 6 by omega)
    have hor := aw_or a0 a1 (Or.inr rfl) i0 (show i < 6 by omega)
    rcases AS_01 (s := s) (p := i) with c | c
    · have e0 : iBin 4 a 0 = a := (bit_of a0 (by omega)).2.2.2.2.1
      obtain ⟨h2, f2, k2, w2⟩ := ih h1 (i + 1) a z2 hx1 (by omega) (by omega) a0 a1
      refine ⟨h2, qFr_tr f1 f2, ⟨k2.1.trans k1.1, k2.2.trans k1.2⟩, fun Q => ?_⟩
      rw [woF]
      rw [if_neg (by omega), e0, ← w2 Q, u29_4]
      simp (disch := omega) only [KK, Int.reduceEq, not_false_iff, ↓reduceIte, ↓if_pos, ↓if_neg, xt_o, true_and, nlO_i, nlO_n, nlO_r, List.length_nil, List.length_cons, Nat.reduceAdd, Nat.reduceLeDiff, Nat.zero_le, U29, hx, z1, hsz, htg, hgt, hau, hAC, w1, c, GX12, GX11, VS0, VS11, ar_add (a := i)]
    · obtain ⟨h2, f2, k2, w2⟩ := ih h1 (i + 1) (iBin 4 a (iBin 6 1 i)) z2 hx1 (by omega) (by omega) hor.1 hor.2.1
      refine ⟨h2, qFr_tr f1 f2, ⟨k2.1.trans k1.1, k2.2.trans k1.2⟩, fun Q => ?_⟩
      rw [woF]
      rw [if_pos c, ← w2 Q, u29_4]
      simp (disch := omega) only [KK, Int.reduceEq, not_false_iff, ↓reduceIte, ↓if_pos, ↓if_neg, xt_o, true_and, nlO_i, nlO_n, nlO_r, List.length_nil, List.length_cons, Nat.reduceAdd, Nat.reduceLeDiff, Nat.zero_le, U29, hx, z1, hsz, htg, hgt, hau, hAC, w1, c, GX12, GX11, VS0, VS11, ar_add (a := i)]
end W9b
