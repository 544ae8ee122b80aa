/-! act -/
def cACT (s : Int → Int) (a k : Int) : Prop := (0 ≤ a ∧ a < s 27) ∧ 0 ≤ k ∧ k ≤ 2
def rACT (s : Int → Int) (a k x : Int) : Int := if (0 ≤ a ∧ a < s 27) ∧ 0 ≤ k ∧ k ≤ 2 then (if k = 0 then riV (s (43 + a)) a x else if k = 1 then asV (s (43 + a)) a (s (49 + a)) x else waV (s (43 + a)) a (s (49 + a)) x) else 0
def lACT (s : Int → Int) (a k : Int) : List Int := if (0 ≤ a ∧ a < s 27) ∧ 0 ≤ k ∧ k ≤ 2 then (if k = 0 then riB (s (43 + a)) else if k = 1 then asB (s (43 + a)) else waB (s (43 + a))) else []
theorem waB_len {k : Int} : (waB k).length ≤ 9 := by
  have h1 := asB_len (k := k)
  have h2 := riB_len (k := k)
  unfold waB
  split
  · rw [List.length_cons, List.length_cons]; omega
  · split
    · rw [List.length_append, List.length_cons, List.length_cons]; omega
    · rw [List.length_cons]; omega
theorem lACT_len {s : Int → Int} {a k : Int} : (lACT s a k).length ≤ 9 := by
  have h1 := asB_len (k := s (43 + a))
  have h2 := riB_len (k := s (43 + a))
  have h3 := waB_len (k := s (43 + a))
  unfold lACT
  split
  · split
    · omega
    · split <;> omega
  · rw [List.length_nil]; omega
section V2
variable {G : MG} {d : Nat} {Q : KQ} {gb : Nat} {Bs X : Nat → Prop} {ad ad' : Int → Nat} {b : Int} {w lo : Nat} {vd vn vn' vi vt : Int → Nat} {s s' si st bd bd' : Int → Int} {hi rn rn' : Int} {h h' : MH}
/-- only what ran is written -/
theorem K_ran (z : qK G Bs ad vn vi vt s si st hi rn bd h) (f : qFr G.1 Bs (fun q => q = G.1 + 67 ∨ q = G.1 + 67 + 1 ∨ q = G.1 + 67 + 2) h h') (hc : h'.1 = h.1) (r : qRn (G.1 + 67) rn' bd' h') (hr : 0 ≤ rn' ∧ rn' ≤ 100) : qK G Bs ad vn vi vt s si st hi rn' bd' h' ∧ qFr G.1 Bs (X0 G.1) h h' := by
  have A := K_A z
  have on := (K_p z).1
  have oi := (K_pi z).1
  have ot := K_pt z
  have zn := qW_fa A (K_n z) f (okW_k on) ⟨on.1.2.2.1.2, on.1.2.1.2⟩ (K_vn z) (fun a q => by omega)
  have zi := qW_fa A (K_i z) f (okW_k oi) ⟨oi.1.2.2.1.2, oi.1.2.1.2⟩ (K_vi z) (fun a q => by omega)
  have zt := qW_fa A (K_t z) f (okW_k ot) ⟨ot.1.2.2.1.2, ot.1.2.1.2⟩ (K_vt z) (fun a q => by omega)
  obtain ⟨⟨a1, a2⟩, hB, hf, ⟨hx, hhi⟩, -, -, -, o, -, -, -, q1, q2, q3, q4, q5, q6⟩ := z
  exact ⟨⟨⟨a1, fun i => (a2 i).imp (fun q => by omega) id⟩, fun a ha => ⟨by have := (hB a ha).1; omega, (hB a ha).2⟩, qFs_fr f hf, ⟨fr_o f hx (by omega), hhi⟩, zn, zi, zt, o, r, hr.1, hr.2, q1, q2, q3, by omega, fr_r f q5 (by omega), q6⟩, qFr_wk f (fun a q => by unfold X0; omega)⟩
theorem A_act (z : qK G Bs ad vn vi vt s si st hi rn bd h) {a k x : Int} : cS G (d + 8) 37 [vI a, vI k, vI x] (vI (rACT s a k x)) s si hi ((lACT s a k).length : Int) (rbL bd 0 (lACT s a k)) h := by
  have hx := K_x z
  obtain ⟨g, r⟩ := z.2.2.2.2.2.2.2.2.1
  have zt := fun (K : Nat → Prop) => rw_tag r (K := K)
  obtain ⟨h1, t1, t2, t3, t4⟩ := c_rclear (G := G) (gb := G.1) (Bs := Bs) (X := fun q => q = G.1 + 67 ∨ q = G.1 + 67 + 1 ∨ q = G.1 + 67 + 2) (d := d + 6) r (Or.inl rfl) bd g
  obtain ⟨z1, f1⟩ := K_ran z t2 t3.1 ⟨g, t1⟩ ⟨by omega, by omega⟩
  have hx1 := K_x z1
  have zn1 := (K_n z1).1.1
  have hH := fun (K : KQ) => K_has (d := d + 5) (Q := K) z1 (i := a)
  have key : ∀ Q : KQ, wpC G (d + 8) 37 [vR G.1, vI a, vI k, vI x] h Q = wp G (d + 7) 37 8 [some (vR G.1), some (vI a), some (vI k), some (vI x), none] [] h1 Q := fun Q => by
    rw [e37]
    simp only [u37_0, u37_1, u37_4, u37_7, u37_7a, KK, hx, zt, t4, GX12, VS7, xt_o, List.length_nil, List.length_cons, Nat.reduceAdd, Nat.reduceLeDiff, Nat.zero_le, true_and]
  have hin := lACT_len (s := s) (a := a) (k := k)
  by_cases c : 0 ≤ a ∧ a < s 27
  · have hH := fun (K : KQ) => (hH K).trans (by rw [if_pos c])
    have hA := (K_n z1).2.2.2.2.1 a c.1 c.2
    have hk7 := okW_k (K_p z1).1 a c.1 c.2
    have hau := hA.1
    have hgt := fun (K : KQ) => ll_get (G := G) (d := d + 4) (Q := K) (K_n z1).2.1 (i := a) c
    have htg := fun (K : Nat → Prop) => ll_tag (K_n z1).2.1 (K := K)
    have hAC := fun (Q : KQ) (pc : Nat) (L : Loc') (st : List V) => AC (G := G) (d := d + 7) (h := h1) (Q := Q) (a := ad (0 + a)) (r := ad (0 + a) + 1) (k := s (43 + a)) (p := a) (v := s (49 + a)) (kn := s (55 + a)) (y := 37) (pc := pc) (L := L) (st := st) hk7
    have hX : (fun q => q = G.1 + 67 ∨ q = G.1 + 67 + 1 ∨ q = G.1 + 67 + 2) (G.1 + 67) ∧ (fun q => q = G.1 + 67 ∨ q = G.1 + 67 + 1 ∨ q = G.1 + 67 + 2) (G.1 + 67 + 1) ∧ (fun q => q = G.1 + 67 ∨ q = G.1 + 67 + 1 ∨ q = G.1 + 67 + 2) (G.1 + 67 + 2) := ⟨Or.inl rfl, Or.inr (Or.inl rfl), Or.inr (Or.inr rfl)⟩
    have fin : ∀ (L : List Int) (val : Int) (W : KQ → Prop), L = lACT s a k → val = rACT s a k x → rE G.1 Bs (fun q => q = G.1 + 67 ∨ q = G.1 + 67 + 1 ∨ q = G.1 + 67 + 2) (ad (0 + a)) (AUC (ad (0 + a) + 1) (s (43 + a)) a (s (49 + a)) (s (55 + a))) (G.1 + 67) 0 bd L h1 W val → (∀ (h2 : MH), h2.2.2 (ad (0 + a)) = some (AUC (ad (0 + a) + 1) (s (43 + a)) a (s (49 + a)) (s (55 + a))) → (∀ Q : KQ, W Q = Q (some (vI val)) h2) → ∀ Q : KQ, wp G (d + 7) 37 8 [some (vR G.1), some (vI a), some (vI k), some (vI x), none] [] h1 Q = Q (some (vI val)) h2) → cS G (d + 8) 37 [vI a, vI k, vI x] (vI (rACT s a k x)) s si hi ((lACT s a k).length : Int) (rbL bd 0 (lACT s a k)) h := by
      intro L val W eL ev hE hw
      obtain ⟨h2, u1, u2, u3, u4, u5⟩ := hE
      subst eL; subst ev
      rw [Int.zero_add] at u1
      obtain ⟨z2, f2⟩ := K_ran z1 u3 u4.1 u1 ⟨by omega, by omega⟩
      exact ⟨Bs, ad, vn, vi, vt, st, h2, z2, qFr_tr f1 f2, ⟨by omega, by omega⟩, ⟨by omega, by omega⟩, fun Q => (key Q).trans (hw h2 u2 u5 Q)⟩
    by_cases k0 : k = 0
    · refine fin (riB (s (43 + a))) (riV (s (43 + a)) a x) _ ?_ ?_ (ARI (G := G) (d := d + 4) (x := x) ⟨g, t1⟩ (by omega) hX hau hk7) (fun h2 u2 u5 Q => ?_)
      · unfold lACT; rw [if_pos ⟨c, by omega, by omega⟩, if_pos k0]
      · unfold rACT; rw [if_pos ⟨c, by omega, by omega⟩, if_pos k0]
      · rw [u37_8]
        simp (disch := omega) only [KK, Int.reduceEq, not_false_iff, ↓reduceIte, ↓if_pos, ↓if_neg, xt_o, true_and, nlO_i, nlO_n, nlO_r, List.length_nil, List.length_cons, Nat.reduceAdd, Nat.reduceLeDiff, Nat.zero_le, U37, hx1, zn1, hH, hgt, htg, hau, hAC, k0, u5, GX12, GX11, VS11, VS0]
    · by_cases k1 : k = 1
      · refine fin (asB (s (43 + a))) (asV (s (43 + a)) a (s (49 + a)) x) _ ?_ ?_ (AAS (G := G) (d := d + 2) (x := x) ⟨g, t1⟩ (by omega) hX hau hk7) (fun h2 u2 u5 Q => ?_)
        · unfold lACT; rw [if_pos ⟨c, by omega, by omega⟩, if_neg k0, if_pos k1]
        · unfold rACT; rw [if_pos ⟨c, by omega, by omega⟩, if_neg k0, if_pos k1]
        · rw [u37_8]
          simp (disch := omega) only [KK, Int.reduceEq, not_false_iff, ↓reduceIte, ↓if_pos, ↓if_neg, xt_o, true_and, nlO_i, nlO_n, nlO_r, List.length_nil, List.length_cons, Nat.reduceAdd, Nat.reduceLeDiff, Nat.zero_le, U37, hx1, zn1, hH, hgt, htg, hau, hAC, k1, u5, GX12, GX11, VS11, VS0]
      · by_cases k2 : k = 2
        · refine fin (waB (s (43 + a))) (waV (s (43 + a)) a (s (49 + a)) x) _ ?_ ?_ (AWA (G := G) (d := d) (x := x) ⟨g, t1⟩ (by omega) hX hau hk7) (fun h2 u2 u5 Q => ?_)
          · unfold lACT; rw [if_pos ⟨c, by omega, by omega⟩, if_neg k0, if_neg k1]
          · unfold rACT; rw [if_pos ⟨c, by omega, by omega⟩, if_neg k0, if_neg k1]
          · rw [u37_8]
            simp (disch := omega) only [KK, Int.reduceEq, not_false_iff, ↓reduceIte, ↓if_pos, ↓if_neg, xt_o, true_and, nlO_i, nlO_n, nlO_r, List.length_nil, List.length_cons, Nat.reduceAdd, Nat.reduceLeDiff, Nat.zero_le, U37, hx1, zn1, hH, hgt, htg, hau, hAC, k2, u5, GX12, GX11, VS11, VS0]
        · have e1 : lACT s a k = [] := by unfold lACT; rw [if_neg (by omega)]
          have e2 : rACT s a k x = 0 := by unfold rACT; rw [if_neg (by omega)]
          rw [e1, e2]
          refine ⟨Bs, ad, vn, vi, vt, st, h1, z1, f1, ⟨by omega, by omega⟩, ⟨by omega, by omega⟩, fun Q => (key Q).trans ?_⟩
          rw [u37_8]
          simp (disch := omega) only [KK, Int.reduceEq, not_false_iff, ↓reduceIte, ↓if_pos, ↓if_neg, xt_o, true_and, nlO_i, nlO_n, nlO_r, List.length_nil, List.length_cons, Nat.reduceAdd, Nat.reduceLeDiff, Nat.zero_le, U37, hx1, zn1, hH, hgt, htg, hau, hAC, GX12, GX11, VS11, VS0]
  · have hH := fun (K : KQ) => (hH K).trans (by rw [if_neg c])
    have e1 : lACT s a k = [] := by unfold lACT; rw [if_neg (fun q => c q.1)]
    have e2 : rACT s a k x = 0 := by unfold rACT; rw [if_neg (fun q => c q.1)]
    rw [e1, e2]
    refine ⟨Bs, ad, vn, vi, vt, st, h1, z1, f1, ⟨by omega, by omega⟩, ⟨by omega, by omega⟩, fun Q => (key Q).trans ?_⟩
    rw [u37_8]
    simp (disch := omega) only [KK, Int.reduceEq, not_false_iff, ↓reduceIte, ↓if_pos, ↓if_neg, xt_o, true_and, nlO_i, nlO_n, nlO_r, List.length_nil, List.length_cons, Nat.reduceAdd, Nat.reduceLeDiff, Nat.zero_le, U37, hx1, zn1, hH, GX12, VS11]
end V2
