/-! calls by what is tried: at, on; the image -/
def cS (G : MG) (k y : Nat) (a : List V) (r : V) (s si : Int → Int) (hi rn : Int) (bd : Int → Int) (h : MH) : Prop := ∃ (Bs : Nat → Prop) (ad : Int → Nat) (vn vi vt : Int → Nat) (st : Int → Int) (h' : MH), qK G Bs ad vn vi vt s si st hi rn bd h' ∧ qFr G.1 Bs (X0 G.1) h h' ∧ (h.1 ≤ h'.1 ∧ h'.1 ≤ h.1 + 100) ∧ (h.2.1 ≤ h'.2.1 ∧ h'.2.1 ≤ h.2.1 + 400) ∧ ∀ Q : KQ, wpC G k y (vR G.1 :: a) h Q = Q (some r) h'
theorem cQ_S {G : MG} {k y : Nat} {a : List V} {r : V} {Bs : Nat → Prop} {ad : Int → Nat} {vn vi vt : Int → Nat} {s si st : Int → Int} {hi rn : Int} {bd : Int → Int} {h : MH} (z : cQ G k y a r Bs ad vn vi vt s si st hi rn bd h) : cS G k y a r s si hi rn bd h := by
  obtain ⟨h', z1, z2, z3, z4, z5⟩ := z
  exact ⟨Bs, ad, vn, vi, vt, st, h', z1, z2, by omega, by omega, z5⟩
/-! nobody is on the way after as many days as there are aunts -/
def stl (n : Int) (t : Int → Int) : Prop := ∀ c, 0 ≤ c → c < t 28 → t (16 + c) = 0 → n ≤ t (11 + c) ∨ t 27 ≤ t (11 + c)
theorem GOA_stl {t : Int → Int} {c n : Int} (c0 : 0 ≤ c ∧ c < 5) (h : t (16 + c) = 0 → n ≤ t (11 + c) ∨ t 27 ≤ t (11 + c)) : GOA t c (16 + c) = 0 → n + 1 ≤ GOA t c (11 + c) ∨ t 27 ≤ GOA t c (11 + c) := by
  unfold GOA
  by_cases g : t (16 + c) = 0 ∧ t (11 + c) < t 27
  · rw [if_pos g]
    have := h g.1
    unfold MEET
    split
    · rw [up_ne (by omega), up_eq]; omega
    · split
      · rw [up_eq]; omega
      · rw [up_eq]; omega
  · rw [if_neg g]
    intro q
    have := h q
    omega
theorem GOF_stl {n : Int} : ∀ (m : Nat) (a : Int) (t : Int → Int), 0 ≤ a → a + m ≤ 5 → (∀ c, 0 ≤ c → c < a + m → t (16 + c) = 0 → ((if c < a then n + 1 else n) ≤ t (11 + c) ∨ t 27 ≤ t (11 + c))) → ∀ c, 0 ≤ c → c < a + m → GOF m a t (16 + c) = 0 → (n + 1 ≤ GOF m a t (11 + c) ∨ GOF m a t 27 ≤ GOF m a t (11 + c))
  | 0, a, t, a0, am, h, c, c0, c1 => by
    intro q
    have := h c c0 c1 q
    rw [if_pos (by omega)] at this
    exact this
  | m + 1, a, t, a0, am, h, c, c0, c1 => by
    rw [GOF]
    have hl := lowS_GOA (s := t) (a := a) ⟨a0, by omega⟩
    exact GOF_stl (n := n) m (a + 1) (GOA t a) (by omega) (by omega) (fun k k0 k1 => by
      rw [hl 27 (by omega)]
      by_cases e : k = a
      · subst e
        rw [if_pos (by omega)]
        refine GOA_stl ⟨k0, by omega⟩ (fun q => ?_)
        have := h k k0 (by omega) q
        rw [if_neg (by omega)] at this
        exact this
      · obtain ⟨-, -, q3, q4⟩ := GOA_oth (s := t) (a := a) ⟨a0, by omega⟩ k0 (by omega) e
        rw [q3, q4]
        intro q
        have := h k k0 (by omega) q
        by_cases e2 : k < a
        · rw [if_pos e2] at this; rw [if_pos (by omega)]; exact this
        · rw [if_neg e2] at this; rw [if_neg (by omega)]; exact this) c c0 (by omega)
theorem GOES_stl {t : Int → Int} {n : Int} (ok : okW t) (h : stl n t) : stl (n + 1) (GOES t) := by
  have h28 := ok.1.2.1
  intro c c0 c1
  have e28 : GOES t 28 = t 28 := GOES_low ok.1 28 (by omega)
  rw [e28] at c1
  have hl := GOF_stl (n := n) (t 28).toNat 0 t (by omega) (by omega) (fun k k0 k1 q => by
    rw [if_neg (by omega)]; exact h k k0 (by omega) q) c c0 (by omega)
  have e16 : GOES t (16 + c) = GOF (t 28).toNat 0 t (16 + c) := up_ne (by omega)
  have e11 : GOES t (11 + c) = GOF (t 28).toNat 0 t (11 + c) := up_ne (by omega)
  have e27 : GOES t 27 = GOF (t 28).toNat 0 t 27 := up_ne (by omega)
  rw [e16, e11, e27]
  exact hl
theorem GOESn_stl : ∀ (m : Nat) {t : Int → Int} {n : Int}, okW t → t 0 + m ≤ 100000 → stl n t → stl (n + m) (GOESn m t)
  | 0, t, n, ok, h0, h => by
    rw [GOESn, show n + ((0 : Nat) : Int) = n by omega]; exact h
  | m + 1, t, n, ok, h0, h => by
    rw [GOESn, show n + ((m + 1 : Nat) : Int) = (n + 1) + (m : Int) by omega]
    exact GOESn_stl m (okW_GOES ok (by omega)) (by rw [GOES_0]; omega) (GOES_stl ok h)
theorem GOF_id {t : Int → Int} : ∀ (m : Nat) (a : Int), 0 ≤ a → (∀ c, a ≤ c → c < a + m → t (16 + c) = 0 → t 27 ≤ t (11 + c)) → GOF m a t = t
  | 0, a, a0, h => rfl
  | m + 1, a, a0, h => by
    have e : GOA t a = t := if_neg (fun q => by have := h a (Int.le_refl _) (by omega) q.1; omega)
    rw [GOF, e]
    exact GOF_id m (a + 1) (by omega) (fun c c0 c1 => h c (by omega) (by omega))
theorem GOESn_same : ∀ (m : Nat) {t : Int → Int}, okW t → t 0 + m ≤ 100000 → stl (t 27) t → ∀ k, ¬ k = 0 → GOESn m t k = t k
  | 0, t, ok, h0, h, k, hk => rfl
  | m + 1, t, ok, h0, h, k, hk => by
    have h28 := ok.1.2.1
    have e : GOF (t 28).toNat 0 t = t := GOF_id _ 0 (by omega) (fun c c0 c1 q => by have := h c c0 (by omega) q; omega)
    have eG : ∀ k, ¬ k = 0 → GOES t k = t k := fun k hk => by
      unfold GOES
      rw [e, up_ne hk]
    have hs : stl (GOES t 27) (GOES t) := fun c c0 c1 => by
      rw [eG (16 + c) (by omega), eG 27 (by omega), eG (11 + c) (by omega)]
      rw [eG 28 (by omega)] at c1
      exact h c c0 c1
    rw [GOESn, GOESn_same m (okW_GOES ok (by omega)) (by rw [GOES_0]; omega) hs k hk]
    exact eG k hk
theorem GOESn_add : ∀ (m k : Nat) (t : Int → Int), GOESn (m + k) t = GOESn k (GOESn m t)
  | 0, k, t => by rw [Nat.zero_add, GOESn]
  | m + 1, k, t => by
    rw [show m + 1 + k = (m + k) + 1 by omega, GOESn, GOESn, GOESn_add m k]
theorem COMES_n {s : Int → Int} (ok : okW s) (h0 : s 0 ≤ 90000) : ∀ k, ¬ k = 0 → GOESn 6 s k = GOESn (s 27).toNat s k := by
  have h27 := ok.1.2.2.1
  intro k hk
  have e : (6 : Nat) = (s 27).toNat + (6 - (s 27).toNat) := by omega
  rw [e, GOESn_add]
  have ok1 := okW_GOESn (s 27).toNat ok (by omega)
  have l27 := GOESn_low (s 27).toNat ok.1 (by omega) 27 (by omega)
  have l0 : GOESn (s 27).toNat s 0 = s 0 + (s 27).toNat := by
    have : ∀ (n : Nat) (t : Int → Int), GOESn n t 0 = t 0 + n := by
      intro n
      induction n with
      | zero => intro t; rw [GOESn]; omega
      | succ n ih => intro t; rw [GOESn, ih, GOES_0]; omega
    exact this _ _
  have st := GOESn_stl (s 27).toNat (n := 0) ok (by omega) (fun c c0 c1 q => by
    have := ok.1.2.2.2.2 c c0 (by have := ok.1.2.1; omega)
    omega)
  refine GOESn_same _ ok1 (by rw [l0]; omega) ?_ k hk
  rw [l27]
  rw [show (0 : Int) + ((s 27).toNat : Int) = s 27 by omega] at st
  exact st
theorem GOESn_d : ∀ (n : Nat) (t : Int → Int), GOESn n t 0 = t 0 + n := by
  intro n
  induction n with
  | zero => intro t; rw [GOESn]; omega
  | succ n ih => intro t; rw [GOESn, ih, GOES_0]; omega
def aAT (s : Int → Int) (a w : Int) : Int := if 0 ≤ a ∧ a < s 28 then (if w = 0 then s (1 + a) else if w = 1 then s (6 + a) else if w = 2 then s (11 + a) else if w = 3 then s (16 + a) else if w = 4 then COMES s a else -1) else -1
def aON (s : Int → Int) (n w : Int) : Int := if w = 0 ∨ (10 ≤ w ∧ w < 10 + s 28) ∨ (20 ≤ w ∧ w < 20 + s 28) ∨ (30 ≤ w ∧ w < 30 + s 28) then (if 0 ≤ n ∧ n ≤ 60 then (if w = 0 then BACKS (GOESn n.toNat s) else if w < 20 then GOESn n.toNat s (1 + (w - 10)) else if w < 30 then GOESn n.toNat s (11 + (w - 20)) else GOESn n.toNat s (6 + (w - 30))) else -2) else -1
section T7
variable {G : MG} {d : Nat} {Q : KQ} {Bs X : Nat → Prop} {ad : Int → Nat} {vn vi vt : Int → Nat} {s si st bd : Int → Int} {hi rn : Int} {h h' : MH}
/-- now tried for n days -/
theorem K_days (z : qK G Bs ad vn vi vt s si st hi rn bd h) (hr : h.1 + 60 ≤ maxC ∧ h.2.1 + 300 ≤ maxS) {n : Int} (hn : 0 ≤ n ∧ n ≤ 60) : ∃ (ad' : Int → Nat) (h1 h' : MH), qK G Bs ad' vn vi vn s si s hi rn bd h1 ∧ qK G Bs ad' vn vi vn s si (GOESn n.toNat s) hi rn bd h' ∧ qFr G.1 Bs (X0 G.1) h h' ∧ (h.1 ≤ h'.1 ∧ h'.1 ≤ h.1 + 60) ∧ (h.2.1 ≤ h'.2.1 ∧ h'.2.1 ≤ h.2.1 + 300) ∧ (∀ Q : KQ, wpC G (d + 8) 53 [vR (G.1 + 45), vR (G.1 + 1)] h Q = Q none h1) ∧ (∀ Q : KQ, wpC G (d + 8) 54 [vR (G.1 + 45), vI n] h1 Q = Q none h') := by
  have h0 := (K_p z).2.2.2.2.2.2.2.2.2.2
  have hd := (K_p z).1.1.1.2.2.2.2.2.1
  obtain ⟨ad', h1, z1, f1, c1, c2, w1⟩ := K_try (d := d + 1) z hr
  have ok := (K_p z).1
  obtain ⟨h2, y1, y2, y3, y4⟩ := c_daysGo (gb := G.1) (d := d) (K_A z1) (by omega) (K_t z1) ok (n := n) (by omega) (by omega)
  have ok2 := okW_GOESn n.toNat ok (by omega)
  have e29 : GOESn n.toNat s 29 = s 29 := GOESn_low n.toNat ok.1 (by omega) 29 (by omega)
  have o28 := ok.1.2.1
  refine ⟨ad', h1, h2, z1, K_trd z1 y2 y3.1 y1 ok2 e29, qFr_tr f1 (qFr_wk y2 (fun a q => ?_)), by omega, by omega, w1, y4⟩
  rcases q with q | ⟨c, c0, c1, q⟩
  · left; omega
  · right
    have := (K_A z1).2 (200 + 10 + c)
    omega
theorem A_at (z : qK G Bs ad vn vi vt s si st hi rn bd h) (hr : h.1 + 60 ≤ maxC ∧ h.2.1 + 300 ≤ maxS) {a w : Int} : cS G (d + 10) 15 [vI a, vI w] (vI (aAT s a w)) s si hi rn bd h := by
  have hx := K_x z
  have zn := (K_n z).1.1
  have ok := (K_p z).1
  have h28 := ok.1.2.1
  have hH := fun (K : KQ) => K_hask (d := d + 7) (Q := K) z (i := a)
  unfold aAT
  by_cases c : 0 ≤ a ∧ a < s 28
  · have hH := fun (K : KQ) => (hH K).trans (by rw [if_pos c])
    have hgt := fun (K : KQ) => ll_get (G := G) (d := d + 6) (Q := K) (K_n z).2.2.1 (i := a) c
    have htg := fun (K : Nat → Prop) => ll_tag (K_n z).2.2.1 (K := K)
    have hk : h.2.2 (ad (0 + 10 + a)) = some (cObj 1 [vI (s (1 + a)), vI (s (6 + a)), vI (s (11 + a)), vI (s (16 + a))]) := (K_n z).2.2.2.2.2.1 _ c.1 c.2
    rw [if_pos c]
    by_cases w0 : w = 0
    · refine cQ_S (cQ_id z (fun Q => ?_))
      rw [if_pos w0, e15]
      simp (disch := omega) only [KK, Int.reduceEq, not_false_iff, ↓reduceIte, ↓if_pos, ↓if_neg, xt_o, true_and, nlO_i, nlO_n, nlO_r, List.length_nil, List.length_cons, Nat.reduceAdd, Nat.reduceLeDiff, Nat.zero_le, U15, w0, hx, zn, hH, hgt, htg, hk, GX12, GX11, GX1, VS11, VS0, OKS]
    · rw [if_neg w0]
      by_cases w1 : w = 1
      · refine cQ_S (cQ_id z (fun Q => ?_))
        rw [if_pos w1, e15]
        simp (disch := omega) only [KK, Int.reduceEq, not_false_iff, ↓reduceIte, ↓if_pos, ↓if_neg, xt_o, true_and, nlO_i, nlO_n, nlO_r, List.length_nil, List.length_cons, Nat.reduceAdd, Nat.reduceLeDiff, Nat.zero_le, U15, w1, hx, zn, hH, hgt, htg, hk, GX12, GX11, GX1, VS11, VS0, OKS]
      · rw [if_neg w1]
        by_cases w2 : w = 2
        · refine cQ_S (cQ_id z (fun Q => ?_))
          rw [if_pos w2, e15]
          simp (disch := omega) only [KK, Int.reduceEq, not_false_iff, ↓reduceIte, ↓if_pos, ↓if_neg, xt_o, true_and, nlO_i, nlO_n, nlO_r, List.length_nil, List.length_cons, Nat.reduceAdd, Nat.reduceLeDiff, Nat.zero_le, U15, w2, hx, zn, hH, hgt, htg, hk, GX12, GX11, GX1, VS11, VS0, OKS]
        · rw [if_neg w2]
          by_cases w3 : w = 3
          · refine cQ_S (cQ_id z (fun Q => ?_))
            rw [if_pos w3, e15]
            rcases (ok.2.2.2.2.2.2 a c.1 (by omega)).1 with q | q
            · rw [q] at hk ⊢
              simp (disch := omega) only [KK, Int.reduceEq, not_false_iff, ↓reduceIte, ↓if_pos, ↓if_neg, xt_o, true_and, nlO_i, nlO_n, nlO_r, List.length_nil, List.length_cons, Nat.reduceAdd, Nat.reduceLeDiff, Nat.zero_le, U15, w3, hx, zn, hH, hgt, htg, hk, GX12, GX11, GX1, VS11, VS0, OKS]
            · rw [q] at hk ⊢
              simp (disch := omega) only [KK, Int.reduceEq, not_false_iff, ↓reduceIte, ↓if_pos, ↓if_neg, xt_o, true_and, nlO_i, nlO_n, nlO_r, List.length_nil, List.length_cons, Nat.reduceAdd, Nat.reduceLeDiff, Nat.zero_le, U15, w3, hx, zn, hH, hgt, htg, hk, GX12, GX11, GX1, VS11, VS0, OKS]
          · rw [if_neg w3]
            by_cases w4 : w = 4
            · rw [if_pos w4]
              have h27 := ok.1.2.2.1
              have hd := (K_p z).2.2.2.2.2.2.2.2.2.2
              have hd0 := ok.1.1.2.2.2.2.2.1
              obtain ⟨ad', h1, h2, z1, z2, f, c1, c2, x1, x2⟩ := K_days (d := d) z hr (n := s 27) ⟨h27.1, by omega⟩
              have hx1 := K_x z1
              have hx2 := K_x z2
              have zt0 := (K_t z).1.1
              have zt1 := (K_t z1).1.1
              have zt2 := (K_t z2).1.1
              have hsz := fun (K : KQ) => ll_size (G := G) (d := d + 7) (Q := K) (K_t z1).2.1
              have htg1 := fun (K : Nat → Prop) => ll_tag (K_t z1).2.1 (K := K)
              have l28 := GOESn_low (s 27).toNat ok.1 (by omega) 28 (by omega)
              have ok2 := K_pt z2
              obtain ⟨F2, hl2, -⟩ := ll_LS (K_t z2).2.2.1
              have hH2 := fun (K : KQ) => (c_hasAsker (G := G) (d := d + 6) (Q := K) zt2 hl2 (i := a)).trans (by rw [if_pos (by rw [l28]; exact c)])
              have hgt2 := fun (K : KQ) => ll_get (G := G) (d := d + 5) (Q := K) (K_t z2).2.2.1 (i := a) (by rw [l28]; exact c)
              have htg2 := fun (K : Nat → Prop) => ll_tag (K_t z2).2.2.1 (K := K)
              have hk2 : h2.2.2 (ad' (200 + 10 + a)) = some (cObj 1 [vI (GOESn (s 27).toNat s (1 + a)), vI (GOESn (s 27).toNat s (6 + a)), vI (GOESn (s 27).toNat s (11 + a)), vI (GOESn (s 27).toNat s (16 + a))]) := (K_t z2).2.2.2.2.2.1 _ c.1 (by rw [l28]; exact c.2)
              refine ⟨Bs, ad', vn, vi, vn, _, h2, z2, f, by omega, by omega, fun Q => ?_⟩
              unfold COMES
              rw [COMES_n ok (by omega) (16 + a) (by omega), COMES_n ok (by omega) (1 + a) (by omega)]
              have key : ∀ Q : KQ, wpC G (d + 9) 16 [vR G.1, vI a] h Q = Q (some (vI (if GOESn (s 27).toNat s (16 + a) = 1 then -5 else GOESn (s 27).toNat s (1 + a)))) h2 := fun Q => by
                rw [e16]
                rcases (ok2.2.2.2.2.2.2 a c.1 (by omega)).1 with q | q
                · rw [q] at hk2 ⊢
                  rw [if_neg (by decide)]
                  simp (disch := omega) only [KK, Int.reduceEq, not_false_iff, ↓reduceIte, ↓if_pos, ↓if_neg, xt_o, true_and, nlO_i, nlO_n, nlO_r, List.length_nil, List.length_cons, Nat.reduceAdd, Nat.reduceLeDiff, Nat.zero_le, U16, hx, zn, zt0, hx1, hx2, zt1, zt2, x1, x2, hsz, htg1, hH2, hgt2, htg2, hk2, GX12, GX11, GX1, VS11, VS0, OKS]
                · rw [q] at hk2 ⊢
                  rw [if_pos rfl]
                  simp (disch := omega) only [KK, Int.reduceEq, not_false_iff, ↓reduceIte, ↓if_pos, ↓if_neg, xt_o, true_and, nlO_i, nlO_n, nlO_r, List.length_nil, List.length_cons, Nat.reduceAdd, Nat.reduceLeDiff, Nat.zero_le, U16, hx, zn, zt0, hx1, hx2, zt1, zt2, x1, x2, hsz, htg1, hH2, hgt2, htg2, hk2, GX12, GX11, GX1, VS11, VS0, OKS]
              rw [e15]
              simp (disch := omega) only [KK, Int.reduceEq, not_false_iff, ↓reduceIte, ↓if_pos, ↓if_neg, xt_o, true_and, nlO_i, nlO_n, nlO_r, List.length_nil, List.length_cons, Nat.reduceAdd, Nat.reduceLeDiff, Nat.zero_le, U15, w4, hx, zn, hH, hgt, htg, hk, key, GX12, GX11, GX1, VS12, VS11, VS0, OKS]
            · refine cQ_S (cQ_id z (fun Q => ?_))
              rw [if_neg w4, e15]
              simp (disch := omega) only [KK, Int.reduceEq, not_false_iff, ↓reduceIte, ↓if_pos, ↓if_neg, xt_o, true_and, nlO_i, nlO_n, nlO_r, List.length_nil, List.length_cons, Nat.reduceAdd, Nat.reduceLeDiff, Nat.zero_le, U15, hx, zn, hH, hgt, htg, hk, GX12, GX11, GX1, VS11, VS0, OKS]
  · have hH := fun (K : KQ) => (hH K).trans (by rw [if_neg c])
    refine cQ_S (cQ_id z (fun Q => ?_))
    rw [if_neg c, e15]
    simp (disch := omega) only [KK, Int.reduceEq, not_false_iff, ↓reduceIte, ↓if_pos, ↓if_neg, xt_o, true_and, nlO_i, nlO_n, nlO_r, List.length_nil, List.length_cons, Nat.reduceAdd, Nat.reduceLeDiff, Nat.zero_le, U15, hx, zn, hH, GX12, VS11]
end T7
