/-! valley of the model -/
def rvF (a : Int) (s : Int → Int) (nv : Int) (L : List Int) : Int → Int := sE a (up (up (up s 33 0) (232 + a) 0) (227 + a) nv) L
def rowV (a : Int) (s : Int → Int) (r : RV) : Int → Int := rvF a s r.2.2.1 (flF r.2.2.2.1 ++ r.2.2.2.2.map trC)
def ansV (a N : Int) (r : RV) : Int := if r.1 = true ∧ r.2.1 = N then a else -10 - r.2.1
def endV (a N : Int) (s : Int → Int) (r : RV) : Int → Int := if r.1 = true ∧ r.2.1 = N then up (up (rowV a s r) 29 (a + 1)) 34 a else rowV a s r
def TV (s : Int → Int) : Int → Int := fun i => s (127 + i)
def vaS (s : Int → Int) : RV := vaF (TV s) (s 33)
def rVAL (s : Int → Int) : Int := if s 29 = 5 then -4 else ansV (s 29) (s 33) (vaS s)
def tVAL (s : Int → Int) : Int → Int := if s 29 = 5 then s else endV (s 29) (s 33) s (vaS s)
section RV1
variable {a nv : Int} {s : Int → Int} {L : List Int}
theorem rv_n : rvF a s nv L (232 + a) = L.length := by
  unfold rvF
  rw [sE_n, up_ne (by omega), up_eq]; omega
theorem rv_o (ha : 0 ≤ a ∧ a ≤ 4) {k : Int} (h1 : ¬ k = 33) (h2 : ¬ k = 232 + a) (h3 : ¬ k = 227 + a) (h4 : k < 237 + 140 * a ∨ 237 + 140 * a + L.length ≤ k) : rvF a s nv L k = s k := by
  have e : up (up (up s 33 0) (232 + a) 0) (227 + a) nv (232 + a) = 0 := by rw [up_ne (by omega), up_eq]
  unfold rvF
  rw [sE_o _ _ _ h2 (by omega), up_ne h3, up_ne h2, up_ne h1]
theorem rv_33 (ha : 0 ≤ a ∧ a ≤ 4) : rvF a s nv L 33 = 0 := by
  have e : up (up (up s 33 0) (232 + a) 0) (227 + a) nv (232 + a) = 0 := by rw [up_ne (by omega), up_eq]
  unfold rvF
  rw [sE_o _ _ _ (by omega) (by omega), up_ne (by omega), up_ne (by omega), up_eq]
theorem rv_nv (ha : 0 ≤ a ∧ a ≤ 4) : rvF a s nv L (227 + a) = nv := by
  have e : up (up (up s 33 0) (232 + a) 0) (227 + a) nv (232 + a) = 0 := by rw [up_ne (by omega), up_eq]
  unfold rvF
  rw [sE_o _ _ _ (by omega) (by omega), up_eq]
theorem rv_seg (ha : 0 ≤ a ∧ a ≤ 4) : seg (rvF a s nv L) (237 + 140 * a) L.length = L := by
  have e : up (up (up s 33 0) (232 + a) 0) (227 + a) nv (232 + a) = 0 := by rw [up_ne (by omega), up_eq]
  have := sE_seg ha.1 L (up (up (up s 33 0) (232 + a) 0) (227 + a) nv) (by omega)
  rw [e, Int.add_zero] at this
  exact this
theorem rv_T (ha : 0 ≤ a ∧ a ≤ 4) : sT (rvF a s nv L) (TV s) := by
  unfold rvF
  refine sT_sE ha _ _ (by rw [up_ne (by omega), up_eq]; omega) (fun i i0 i1 => ?_)
  rw [up_ne (by omega), up_ne (by omega), up_ne (by omega)]
  rfl
theorem rv_nu (ha : 0 ≤ a ∧ a ≤ 4) {n : Int} : up (rvF a s nv L) (227 + a) n = rvF a s n L := by
  unfold rvF
  rw [sE_up ha _ _ (by rw [up_ne (by omega), up_eq]; omega)]
  congr 1
  funext k
  unfold up
  by_cases c : k = 227 + a
  · rw [if_pos c, if_pos c]
  · rw [if_neg c, if_neg c, if_neg c]
theorem rv_ap {L' : List Int} : sE a (rvF a s nv L) L' = rvF a s nv (L ++ L') := (sE_app _ _ _).symm
theorem rv_st (ha : 0 ≤ a ∧ a ≤ 4) : up (up (up s 33 0) (227 + a) 12) (232 + a) 0 = rvF a s 12 [] := by
  show _ = up (up (up s 33 0) (232 + a) 0) (227 + a) 12
  funext k
  unfold up
  by_cases c : k = 227 + a
  · rw [if_pos c, if_neg (by omega), if_pos c]
  · rw [if_neg c, if_neg c]
end RV1
section R7
variable {G : MG} {h0 : MH}
variable {m : Nat} {f0 f4 f5 f6 f7 f8 f9 f12 f13 f14 f17 f18 f20 f21 f22 f23 : Int}
variable {p : Int} {s : Int → Int} {d : Nat}
theorem m_val_e {R : Int → Int} {b : Bool} {l1 : Option V} {Q : KQ} (hR : R 29 = f5) (h5 : 0 ≤ f5 ∧ f5 ≤ 4) (hp : 0 ≤ p ∧ p ≤ 1000) : wp G d 140 136 [some (vR m), l1] [] (mP m h0 (mO m f0 f4 f5 p f7 (wB b) 0 f12 f13 f14 f17 f18 f20 f21 f22 f23) R) Q = Q (some (vI (if b = true ∧ p = f7 then f5 else -10 - p))) (mP m h0 (mO m f0 f4 f5 p f7 (wB b) 0 f12 f13 f14 f17 f18 f20 f21 f22 f23) (if b = true ∧ p = f7 then up (up R 29 (f5 + 1)) 34 f5 else R)) := by
  cases b with
  | true =>
    by_cases c : p = f7
    · rw [if_pos ⟨rfl, c⟩, if_pos ⟨rfl, c⟩, wB_t]
      simp (disch := omega) only [KK, Int.reduceEq, not_false_iff, ↓reduceIte, ↓if_pos, ↓if_neg, xt_o, true_and, nlO_i, nlO_n, nlO_r, List.length_nil, List.length_cons, Nat.reduceAdd, Nat.reduceLeDiff, Nat.zero_le, U140, mP_m, mP_s, mP_hs, GX13, xa_i, xs_i, hR, c, ar_add]
    · rw [if_neg (fun z => c z.2), if_neg (fun z => c z.2), wB_t]
      simp (disch := omega) only [KK, Int.reduceEq, not_false_iff, ↓reduceIte, ↓if_pos, ↓if_neg, xt_o, true_and, nlO_i, nlO_n, nlO_r, List.length_nil, List.length_cons, Nat.reduceAdd, Nat.reduceLeDiff, Nat.zero_le, U140, mP_m, mP_s, GX13, c, ar_sub]
  | false =>
    rw [if_neg (fun z => ff_t z.1), if_neg (fun z => ff_t z.1), wB_f]
    simp (disch := omega) only [KK, Int.reduceEq, not_false_iff, ↓reduceIte, ↓if_pos, ↓if_neg, xt_o, true_and, nlO_i, nlO_n, nlO_r, List.length_nil, List.length_cons, Nat.reduceAdd, Nat.reduceLeDiff, Nat.zero_le, U140, mP_m, mP_s, GX13, ar_sub]
theorem m_val_c (h5 : 0 ≤ f5 ∧ f5 ≤ 4) (hN : f7 ≤ 100) (hs : s 29 = f5) {n : Nat} (IH : ∀ (p nv : Int) (cl : List (List Int × Int)), 0 ≤ p → p ≤ f7 → ((flF cl).length : Int) ≤ p → ∀ Q : KQ, wp G (d + 25) 140 94 [some (vR m), some (vI (10 - (n : Int)))] [] (mP m h0 (mO m f0 f4 f5 p f7 0 0 f12 f13 f14 f17 f18 f20 f21 f22 f23) (rvF f5 s nv (flF cl))) Q = Q (some (vI (ansV f5 f7 (vlF (TV s) f7 n p nv cl)))) (mP m h0 (mO m f0 f4 f5 ((vlF (TV s) f7 n p nv cl).2.1) f7 (wB (vlF (TV s) f7 n p nv cl).1) 0 f12 f13 f14 f17 f18 f20 f21 f22 f23) (endV f5 f7 s (vlF (TV s) f7 n p nv cl)))) {c : RC} {nv : Int} {cl : List (List Int × Int)} (p0 : 0 ≤ p) (hc : gC f7 p c) (hl : ((flF cl).length : Int) ≤ p) (Q : KQ) : wp G (d + 25) 140 94 [some (vR m), some (vI (10 - (n : Int)))] [] (mP m h0 (mO m f0 f4 f5 (c.2.1) f7 (wC c) 0 f12 f13 f14 f17 f18 f20 f21 f22 f23) (scF f5 (rvF f5 s nv (flF cl)) c)) Q = Q (some (vI (ansV f5 f7 (vsF c nv cl (vlF (TV s) f7 n))))) (mP m h0 (mO m f0 f4 f5 ((vsF c nv cl (vlF (TV s) f7 n)).2.1) f7 (wB (vsF c nv cl (vlF (TV s) f7 n)).1) 0 f12 f13 f14 f17 f18 f20 f21 f22 f23) (endV f5 f7 s (vsF c nv cl (vlF (TV s) f7 n)))) := by
  obtain ⟨⟨b1, b2⟩, g0, g1, g2⟩ := hc
  unfold wC scF vsF
  by_cases c0 : c.1 = 0
  · rw [if_pos c0, if_pos c0, if_pos c0, rv_ap]
    have g0 := g0 c0
    have he := m_val_e (G := G) (d := d + 25) (Q := Q) (h0 := h0) (m := m) (f0 := f0) (f4 := f4) (f5 := f5) (f7 := f7) (f12 := f12) (f13 := f13) (f14 := f14) (f17 := f17) (f18 := f18) (f20 := f20) (f21 := f21) (f22 := f22) (f23 := f23) (p := c.2.1) (b := false) (R := rvF f5 s nv (flF cl ++ c.2.2.2.map trC)) (l1 := some (vI (10 - (n : Int)))) (by rw [rv_o h5 (by omega) (by omega) (by omega) (by omega)]; exact hs) h5 ⟨by omega, by omega⟩
    refine Eq.trans ?_ he
    rw [u140_94]
    simp (disch := omega) only [KK, Int.reduceEq, not_false_iff, ↓reduceIte, ↓if_pos, ↓if_neg, xt_o, true_and, nlO_i, nlO_n, nlO_r, List.length_nil, List.length_cons, Nat.reduceAdd, Nat.reduceLeDiff, Nat.zero_le, u140_95, u140_98, mP_m, GX13, wB_f]
  · rw [if_neg c0, if_neg c0, if_neg c0]
    by_cases c1 : c.1 = 1
    · rw [if_pos c1, if_pos c1, rv_nu h5]
      exact IH c.2.1 c.2.2.1 cl (by omega) b2 (by omega) Q
    · have g2 := g2 c0 c1
      rw [if_neg c1, if_neg c1, rv_ap, ← flF_app (x := (c.2.2.2, c.2.2.1))]
      refine IH c.2.1 nv _ (by omega) b2 ?_ Q
      rw [flF_app, List.length_append, List.length_append, List.length_map, List.length_singleton]
      have := g2.1
      show ((((flF cl).length + (c.2.2.2.length + 1) : Nat)) : Int) ≤ c.2.1
      omega
theorem m_val_l (z : qSt G h0) (hm : G.1 ≤ m) (h5 : 0 ≤ f5 ∧ f5 ≤ 4) (hN : f7 ≤ 100) (hs : s 29 = f5) : ∀ (n : Nat), n ≤ 9 → ∀ (p nv : Int) (cl : List (List Int × Int)), 0 ≤ p → p ≤ f7 → ((flF cl).length : Int) ≤ p → ∀ Q : KQ, wp G (d + 25) 140 94 [some (vR m), some (vI (10 - (n : Int)))] [] (mP m h0 (mO m f0 f4 f5 p f7 0 0 f12 f13 f14 f17 f18 f20 f21 f22 f23) (rvF f5 s nv (flF cl))) Q = Q (some (vI (ansV f5 f7 (vlF (TV s) f7 n p nv cl)))) (mP m h0 (mO m f0 f4 f5 ((vlF (TV s) f7 n p nv cl).2.1) f7 (wB (vlF (TV s) f7 n p nv cl).1) 0 f12 f13 f14 f17 f18 f20 f21 f22 f23) (endV f5 f7 s (vlF (TV s) f7 n p nv cl))) := by
  intro n
  induction n with
  | zero =>
    intro _ p nv cl p0 p1 hl Q
    have he := m_val_e (G := G) (d := d + 25) (Q := Q) (h0 := h0) (m := m) (f0 := f0) (f4 := f4) (f5 := f5) (f7 := f7) (f12 := f12) (f13 := f13) (f14 := f14) (f17 := f17) (f18 := f18) (f20 := f20) (f21 := f21) (f22 := f22) (f23 := f23) (p := p) (b := true) (R := rvF f5 s nv (flF cl ++ ([] : List Int).map trC)) (l1 := some (vI (10 - ((0 : Nat) : Int)))) (by rw [List.map_nil, List.append_nil, rv_o h5 (by omega) (by omega) (by omega) (by omega)]; exact hs) h5 ⟨by omega, by omega⟩
    rw [vlF]
    refine Eq.trans ?_ he
    rw [List.map_nil, List.append_nil, u140_94, show (10 - ((0 : Nat) : Int) : Int) = 10 by omega]
    simp (disch := omega) only [KK, Int.reduceEq, not_false_iff, ↓reduceIte, ↓if_pos, ↓if_neg, xt_o, true_and, nlO_i, nlO_n, nlO_r, List.length_nil, List.length_cons, Nat.reduceAdd, Nat.reduceLeDiff, Nat.zero_le, u140_95, u140_98, u140_101, u140_102, u140_104, mP_m, GX13, wB_t, Int.reduceLE]
  | succ n ih =>
    intro hn p nv cl p0 p1 hl Q
    have hh := fun (K : KQ) => m_here (G := G) (d := d + 24) (Q := K) (h0 := h0) (m := m) (f0 := f0) (f4 := f4) (f5 := f5) (f7 := f7) (f12 := f12) (f13 := f13) (f14 := f14) (f17 := f17) (f18 := f18) (f20 := f20) (f21 := f21) (f22 := f22) (f23 := f23) (w := 0) (o := 0) (rv_T h5 (s := s) (nv := nv) (L := flF cl)) p0 hN
    have en : ¬ 10 ≤ 10 - ((n + 1 : Nat) : Int) := by omega
    rw [vlF]
    by_cases q : hrF (TV s) f7 p = 59
    · have lt := hr_lt (T := TV s) (N := f7) (p := p) (by omega)
      have hL := rv_n (a := f5) (s := s) (nv := nv) (L := flF cl)
      have hcl := fun (K : KQ) => m_clause (G := G) (d := d) (Q := K) (h0 := h0) (m := m) (f0 := f0) (f4 := f4) (f5 := f5) (f7 := f7) (f12 := f12) (f13 := f13) (f14 := f14) (f17 := f17) (f18 := f18) (f20 := f20) (f21 := f21) (f22 := f22) (f23 := f23) z hm (rv_T h5 (s := s) (nv := nv) (L := flF cl)) hN h5 (p := p + 1) (by omega) (by omega) (by omega) (by omega)
      have hc := cl_g (T := TV s) (N := f7) (p := p + 1) (by omega) (by omega)
      have hv := m_val_c (G := G) (d := d) (h0 := h0) (m := m) (f0 := f0) (f4 := f4) (f5 := f5) (f7 := f7) (f12 := f12) (f13 := f13) (f14 := f14) (f17 := f17) (f18 := f18) (f20 := f20) (f21 := f21) (f22 := f22) (f23 := f23) h5 hN hs (ih (by omega)) (p := p + 1) (by omega) hc (nv := nv) (cl := cl) (by omega) Q
      rw [if_pos q, ← hv, u140_94]
      have e10 : (10 - ((n + 1 : Nat) : Int) + 1 : Int) = 10 - (n : Int) := by omega
      simp (disch := omega) only [KK, Int.reduceEq, not_false_iff, ↓reduceIte, ↓if_pos, ↓if_neg, xt_o, true_and, nlO_i, nlO_n, nlO_r, List.length_nil, List.length_cons, Nat.reduceAdd, Nat.reduceLeDiff, Nat.zero_le, U140, mP_m, mP_hm, GX13, PX13, VS13, hh, q, hcl, en, ar_add, e10]
    · have he := m_val_e (G := G) (d := d + 25) (Q := Q) (h0 := h0) (m := m) (f0 := f0) (f4 := f4) (f5 := f5) (f7 := f7) (f12 := f12) (f13 := f13) (f14 := f14) (f17 := f17) (f18 := f18) (f20 := f20) (f21 := f21) (f22 := f22) (f23 := f23) (p := p) (b := true) (R := rvF f5 s nv (flF cl ++ ([] : List Int).map trC)) (l1 := some (vI (10 - ((n + 1 : Nat) : Int)))) (by rw [List.map_nil, List.append_nil, rv_o h5 (by omega) (by omega) (by omega) (by omega)]; exact hs) h5 ⟨by omega, by omega⟩
      rw [if_neg q]
      refine Eq.trans ?_ he
      rw [List.map_nil, List.append_nil, u140_94]
      simp (disch := omega) only [KK, Int.reduceEq, not_false_iff, ↓reduceIte, ↓if_pos, ↓if_neg, xt_o, true_and, nlO_i, nlO_n, nlO_r, List.length_nil, List.length_cons, Nat.reduceAdd, Nat.reduceLeDiff, Nat.zero_le, u140_95, u140_98, u140_101, u140_102, u140_104, u140_107, u140_108, u140_111, u140_113, mP_m, GX13, VS13, wB_t, hh, q, en]
end R7
section R7b
variable {G : MG} {d : Nat} {m : Nat} {s s' im bd : Int → Int} {hi rn : Int} {h : MH}
theorem mP_id {c : MC} (h1 : h.2.2 m = some c) (h2 : h.2.2 (m + 1) = some (cArr 0 937 (ix s))) : mP m h c s = h := by
  unfold mP
  rw [hs_same h1, hs_same h2]
theorem MS_P (z : MS m s im hi rn bd h) {f0 f5 f6 f7 f8 f9 f12 f13 f14 f17 f18 f21 f22 f23 : Int} : MS m s' im hi rn bd (mP m h (mO m f0 hi f5 f6 f7 f8 f9 f12 f13 f14 f17 f18 rn f21 f22 f23) s') := by
  obtain ⟨-, q1, q2, q3, j⟩ := z
  refine ⟨⟨f0, f5, f6, f7, f8, f9, f12, f13, f14, f17, f18, f21, f22, f23, mP_m⟩, mP_s, ?_, ?_, ?_⟩
  · exact (hs_ne (by omega)).trans ((hs_ne (by omega)).trans q2)
  · exact (hs_ne (by omega)).trans ((hs_ne (by omega)).trans q3)
  · exact mJ_set (by omega) (mJ_set (by omega) j)
theorem N_valley (ok : okP s) (z : MS m s im hi rn bd h) (hz : qSt G h) (hm : G.1 ≤ m) : mS G m (d + 26) 140 [] (rVAL s) (tVAL s) im hi rn bd h := by
  have zz := z
  obtain ⟨⟨f0, f5, f6, f7, f8, f9, f12, f13, f14, f17, f18, f21, f22, f23, q0⟩, q1, -⟩ := zz
  have o29 := ok.1.2.2.1
  have o33 := ok.2.2.2.2.1
  unfold rVAL tVAL
  by_cases c : s 29 = 5
  · rw [if_pos c, if_pos c]
    refine mS_id z (fun Q => ?_)
    rw [e140]
    simp (disch := omega) only [KK, Int.reduceEq, not_false_iff, ↓reduceIte, ↓if_pos, ↓if_neg, xt_o, true_and, nlO_i, nlO_n, nlO_r, List.length_nil, List.length_cons, Nat.reduceAdd, Nat.reduceLeDiff, Nat.zero_le, U140, q0, q1, c, GX13, xa_i]
  · rw [if_neg c, if_neg c]
    have h5 : 0 ≤ s 29 ∧ s 29 ≤ 4 := by omega
    refine ⟨mP m h (mO m f0 hi (s 29) (vaS s).2.1 (s 33) (wB (vaS s).1) 0 f12 f13 f14 f17 f18 rn f21 f22 f23) (endV (s 29) (s 33) s (vaS s)), MS_P z, mF_tr (mF_set (by omega)) (mF_set (by omega)), fun Q => ?_⟩
    have hcl : ∀ K : KQ, wpC G (d + 25) 141 [vR m] (mP m h (mO m f0 hi (s 29) 0 (s 33) 0 0 f12 f13 f14 f17 f18 rn f21 f22 f23) (up (up (up s 33 0) (227 + s 29) 12) (232 + s 29) 0)) K = K none (mP m h (mO m f0 hi (s 29) (clF (TV s) (s 33) 0).2.1 (s 33) (wC (clF (TV s) (s 33) 0)) 0 f12 f13 f14 f17 f18 rn f21 f22 f23) (scF (s 29) (rvF (s 29) s 12 (flF [])) (clF (TV s) (s 33) 0))) := fun K => by
      have e := rv_n (a := s 29) (s := s) (nv := 12) (L := [])
      have e' : rvF (s 29) s 12 [] (232 + s 29) = 0 := e
      rw [rv_st h5]
      exact m_clause hz hm (rv_T h5) o33.2 h5 (Int.le_refl 0) o33.1 (by omega) (by omega)
    have hv := m_val_c (G := G) (d := d) (h0 := h) (m := m) (f0 := f0) (f4 := hi) (f5 := s 29) (f7 := s 33) (f12 := f12) (f13 := f13) (f14 := f14) (f17 := f17) (f18 := f18) (f20 := rn) (f21 := f21) (f22 := f22) (f23 := f23) h5 o33.2 rfl (m_val_l hz hm h5 o33.2 rfl 9 (by omega)) (Int.le_refl 0) (cl_g (T := TV s) (N := s 33) (Int.le_refl 0) o33.1) (nv := 12) (cl := []) (Int.le_refl 0) Q
    have key : wpC G (d + 26) 140 [vR m] (mP m h (mO m f0 hi f5 f6 f7 f8 f9 f12 f13 f14 f17 f18 rn f21 f22 f23) s) Q = Q (some (vI (ansV (s 29) (s 33) (vaS s)))) (mP m h (mO m f0 hi (s 29) (vaS s).2.1 (s 33) (wB (vaS s).1) 0 f12 f13 f14 f17 f18 rn f21 f22 f23) (endV (s 29) (s 33) s (vaS s))) := by
      refine Eq.trans ?_ hv
      have e33 : up s 33 0 29 = s 29 := up_ne (by omega)
      rw [e140, show (10 - ((9 : Nat) : Int) : Int) = 1 by omega]
      simp (disch := omega) only [KK, Int.reduceEq, not_false_iff, ↓reduceIte, ↓if_pos, ↓if_neg, xt_o, true_and, nlO_i, nlO_n, nlO_r, List.length_nil, List.length_cons, Nat.reduceAdd, Nat.reduceLeDiff, Nat.zero_le, U140, mP_m, mP_s, mP_hm, mP_hs, GX13, PX13, VS13, xa_i, xs_i, c, e33, hcl, ar_add, true_or, or_true]
    rw [mP_id q0 q1] at key
    exact key
end R7b
