/-! lists: cleared, added to -/
def updA (ad : Int → Nat) (L : Int) (A : Nat) : Int → Nat := fun i => if i = L then A else ad i
theorem updA_eq {ad : Int → Nat} {L : Int} {A : Nat} : updA ad L A L = A := if_pos rfl
theorem updA_ne {ad : Int → Nat} {L i : Int} {A : Nat} (e : ¬ i = L) : updA ad L A i = ad i := if_neg e
def qG (G : MG) (ad : Int → Nat) (h : MH) : Prop := qAD ad (G.1 + 79) ∧ (∀ i, ad i < G.1 + h.1 ∨ G.1 + 700000 ≤ ad i) ∧ 79 ≤ h.1
theorem qG_mo {G : MG} {ad : Int → Nat} {h h' : MH} (z : qG G ad h) (e : h.1 ≤ h'.1) : qG G ad h' := ⟨z.1, fun i => (z.2.1 i).imp (fun q => by omega) id, by have := z.2.2; omega⟩
theorem qG_up {G : MG} {ad : Int → Nat} {h h' : MH} {L : Int} (z : qG G ad h) (e : h.1 + 1 ≤ h'.1) (e2 : h.1 + 1 ≤ maxC) : qG G (updA ad L (G.1 + h.1)) h' := by
  obtain ⟨⟨a1, a2⟩, a3, a4⟩ := z
  have hm : maxC = 683770 := rfl
  refine ⟨⟨fun i j q => ?_, fun i => ?_⟩, fun i => ?_, by omega⟩
  · unfold updA at q
    by_cases c1 : i = L
    · by_cases c2 : j = L
      · omega
      · rw [if_pos c1, if_neg c2] at q
        have := a3 j
        omega
    · by_cases c2 : j = L
      · rw [if_neg c1, if_pos c2] at q
        have := a3 i
        omega
      · rw [if_neg c1, if_neg c2] at q
        exact a1 i j q
  · unfold updA
    split
    · omega
    · exact a2 i
  · unfold updA
    split
    · left; omega
    · have := a3 i; omega
section L1
variable {G : MG} {d : Nat} {Q : KQ} {Bs X : Nat → Prop} {h : MH} {l e : Nat} {n : Int} {f : Int → Nat}
theorem c_clear_l {el : Nat} {k : Int} {l0 : Option V} (hk : k ≤ 10) : ∀ (m : Nat) (h : MH) (i : Int) (F : Int → Option Nat), h.2.2 el = some (cRef 0 10 (rx F)) → 0 ≤ i → i + m = k → ∃ F' : Int → Option Nat, ∀ Q : KQ, wp G d 236 27 [l0, some (vR el), some (vI k), some (vI i)] [] h Q = Q none (hset h el (cRef 0 10 (rx F'))) := by
  intro m
  induction m with
  | zero =>
    intro h i F hF i0 hi
    refine ⟨F, fun Q => ?_⟩
    rw [hs_same hF, u236_27]
    simp (disch := omega) only [KK, Int.reduceEq, not_false_iff, ↓reduceIte, ↓if_pos, ↓if_neg, xt_o, true_and, nlO_i, nlO_n, nlO_r, List.length_nil, List.length_cons, Nat.reduceAdd, Nat.reduceLeDiff, Nat.zero_le, U236]
  | succ m ih =>
    intro h i F hF i0 hi
    obtain ⟨F', ih⟩ := ih (hset h el (cRef 0 10 (rx (upr F i none)))) (i + 1) (upr F i none) hs_eq (by omega) (by omega)
    refine ⟨F', fun Q => ?_⟩
    have h2 := ih Q
    rw [hs_hs] at h2
    have hx : xIsO none h = True := rfl
    rw [← h2, u236_27]
    simp (disch := omega) only [KK, Int.reduceEq, not_false_iff, ↓reduceIte, ↓if_pos, ↓if_neg, xt_o, true_and, nlO_i, nlO_n, nlO_r, List.length_nil, List.length_cons, Nat.reduceAdd, Nat.reduceLeDiff, Nat.zero_le, U236, hF, xr_s, hx, ar_add (a := i)]
theorem c_clear (z : qLL G h l e n f) (hX : X l ∧ X e) (g : Int → Nat) : ∃ h' : MH, qLL G h' l e 0 g ∧ qFr G.1 Bs X h h' ∧ (h'.1 = h.1 ∧ h'.2.1 = h.2.1) ∧ ∀ Q : KQ, wpC G (d + 1) 236 [vR l] h Q = Q none h' := by
  obtain ⟨mc, ⟨q1, q2⟩ | ⟨F, q1, q2, q3, q4, q5⟩⟩ := z
  · refine ⟨hset h l (cObj 0 [vI (iBin 0 mc 1), vR (G.2.1 GE), vI 0]), ⟨_, Or.inl ⟨hs_eq, rfl, q2.2⟩⟩, qFr_set hX.1 q1, ⟨rfl, rfl⟩, fun Q => ?_⟩
    rw [q2.1] at q1
    rw [e236]
    simp (disch := omega) only [KK, Int.reduceEq, not_false_iff, ↓reduceIte, ↓if_pos, ↓if_neg, xt_o, true_and, nlO_i, nlO_n, nlO_r, List.length_nil, List.length_cons, Nat.reduceAdd, Nat.reduceLeDiff, Nat.zero_le, U236, u236_27, q1, hs_eq, hs_hs, GX0, PX0]
  · have hne : ¬ e = l := ne_ro q2 q1
    obtain ⟨F', hc⟩ := c_clear_l (G := G) (d := d) (l0 := some (vR l)) q4 n.toNat (hset h l (cObj 0 [vI (iBin 0 mc 1), vR e, vI 0])) 0 F ((hs_ne hne).trans q2) (by omega) (by omega)
    refine ⟨_, ⟨iBin 0 mc 1, Or.inr ⟨F', (hs_ne (fun q => hne q.symm)).trans hs_eq, hs_eq, by omega, by omega, fun i i0 i1 => by omega⟩⟩, qFr_tr (qFr_set hX.1 q1) (qFr_set hX.2 ((hs_ne hne).trans q2)), ⟨rfl, rfl⟩, fun Q => ?_⟩
    rw [e236, ← hc Q]
    simp (disch := omega) only [KK, Int.reduceEq, not_false_iff, ↓reduceIte, ↓if_pos, ↓if_neg, xt_o, true_and, nlO_i, nlO_n, nlO_r, List.length_nil, List.length_cons, Nat.reduceAdd, Nat.reduceLeDiff, Nat.zero_le, U236, q1, hs_eq, hs_hs, GX0, PX0]
/-- one more in a list; its row of elements may be new -/
theorem c_add (hf : qFs G h) (hst : h.2.2 (G.2.1 GE) = some (cRef 1 0 (fun _ => none))) (z : qLL G h l e n f) (hn : n < 10) (hX : X l ∧ X e) {a t : Nat} {fs : List V} (ha : h.2.2 a = some (cObj t fs)) (ht : t < 14) (ht0 : ¬ t = 0) (hr : h.1 + 1 ≤ maxC ∧ h.2.1 + 10 ≤ maxS) {g : Int → Nat} (hg : ∀ i, 0 ≤ i → i < n → g i = f i) (hgn : g n = a) : ∃ (h' : MH) (e' : Nat), qLL G h' l e' (n + 1) g ∧ ((e' = e ∧ h'.1 = h.1) ∨ (e' = G.1 + h.1 ∧ h'.1 = h.1 + 1)) ∧ qFr G.1 Bs X h h' ∧ (h.2.1 ≤ h'.2.1 ∧ h'.2.1 ≤ h.2.1 + 10) ∧ ∀ Q : KQ, wpC G (d + 5) 229 [vR l, vR a] h Q = Q (some (vI 1)) h' := by
  have h14 : (t < 14) = True := eq_true ht
  have n0 : 0 ≤ n := (ll_n z).1
  obtain ⟨mc, ⟨q1, q2⟩ | ⟨F, q1, q2, q3, q4, q5⟩⟩ := z
  · obtain ⟨q2, q2e⟩ := q2
    subst q2
    have r1 : (h.1 + 1 ≤ maxC) = True := eq_true hr.1
    have r2 : (h.2.1 + 10 ≤ maxS) = True := eq_true hr.2
    have nl : ¬ l = G.1 + h.1 := fun q => by rw [q, hf _ (Nat.le_refl _)] at q1; cases q1
    have na : ¬ a = G.1 + h.1 := fun q => by rw [q, hf _ (Nat.le_refl _)] at ha; cases ha
    have ng : ¬ G.2.1 GE = G.1 + h.1 := fun q => by rw [q, hf _ (Nat.le_refl _)] at hst; cases hst
    have ngl : ¬ G.2.1 GE = l := ne_ro hst q1
    have nal : ¬ a = l := ne_oo ha q1 ht0
    have nl' : ¬ G.1 + h.1 = l := fun q => nl q.symm
    have hf1 : ∀ c, qFs G (hset h l c) := fun c q hq => by
      have hq : G.1 + h.1 ≤ q := hq
      rw [hs_ne (fun e2 => by rw [e2] at hq; rw [hf l hq] at q1; cases q1)]
      exact hf q hq
    have hst1 : ∀ c, (hset h l c).2.2 (G.2.1 GE) = some (cRef 1 0 (fun _ => none)) := fun c => (hs_ne ngl).trans hst
    have hc2 : xIsO (some a) (hset (hnew (hset h l (cObj 0 [vI (iBin 0 mc 1), vR (G.2.1 GE), vI 0])) (G.1 + h.1) 10 (cRef 0 10 (rx (fun _ => none)))) l (cObj 0 [vI (iBin 0 mc 1), vR (G.1 + h.1), vI 0])) = True := by
      show xTag _ _ = True
      rw [hs_ne nal, hn_ne na, hs_ne nal, ha]
      exact h14
    have eG : G.2.1 12 = G.2.1 GE := rfl
    have hmx := fun (h : MH) (K : KQ) => j_max (G := G) (d := d) (h := h) (Q := K) (a := 10) (b := 1)
    have em : max (10 : Int) 1 = 10 := by decide
    rw [em] at hmx
    refine ⟨hset (hset (hset (hnew (hset h l (cObj 0 [vI (iBin 0 mc 1), vR (G.2.1 GE), vI 0])) (G.1 + h.1) 10 (cRef 0 10 (rx (fun _ => none)))) l (cObj 0 [vI (iBin 0 mc 1), vR (G.1 + h.1), vI 0])) (G.1 + h.1) (cRef 0 10 (rx (upr (fun _ => none) 0 (some a))))) l (cObj 0 [vI (iBin 0 mc 1), vR (G.1 + h.1), vI 1]), G.1 + h.1, ⟨iBin 0 mc 1, Or.inr ⟨upr (fun _ => none) 0 (some a), hs_eq, (hs_ne nl').trans hs_eq, by omega, by omega, fun i i0 i1 => ?_⟩⟩, Or.inr ⟨rfl, rfl⟩, ?_, ⟨by show h.2.1 ≤ h.2.1 + 10; omega, by show h.2.1 + 10 ≤ h.2.1 + 10; omega⟩, fun Q => ?_⟩
    · have : i = 0 := by omega
      subst this
      rw [upr_eq, ← hgn]
    · refine ⟨fun y q hq => ?_, fun b c hc hb => Or.inl ?_⟩
      · have hq : G.1 + (h.1 + 1) ≤ q := hq
        have ql : ¬ q = l := fun e2 => by
          rw [e2] at hq
          rw [hf l (by omega)] at q1; cases q1
        rw [hs_ne ql, hs_ne (by omega), hs_ne ql, hn_ne (by omega), hs_ne ql]
        exact hf q (by omega)
      · have b1 : ¬ b = l := fun e2 => hb (by rw [e2]; exact hX.1)
        have b2 : ¬ b = G.1 + h.1 := fun e2 => by
          rw [e2, hf _ (Nat.le_refl _)] at hc; cases hc
        rw [hs_ne b1, hs_ne b2, hs_ne b1, hn_ne b2, hs_ne b1]
        exact hc
    · rw [e229]
      simp (disch := omega) only [KK, Int.reduceEq, not_false_iff, ↓reduceIte, ↓if_pos, ↓if_neg, xt_o, true_and, nlO_i, nlO_n, nlO_r, List.length_nil, List.length_cons, Nat.reduceAdd, Nat.reduceLeDiff, Nat.zero_le, U229, e230, U230, e231, U231, e232, U232, q1, hst, hst1, hs_eq, hs_hs, hs_1, hs_2, hn_eq, hn_ne nl, hs_ne nl, hs_ne nl', hs_ne ngl, hc2, hmx, eG, r1, r2, xl_r, xr_s, rx_0, GX0, PX0, VS0, ar_add, or_true, Int.reduceToNat, Int.reduceAdd, Int.reduceLE, Int.reduceNeg, Int.reduceLT, and_self]
  · have hne : ¬ e = l := ne_ro q2 q1
    have hg2 : ∀ i, 0 ≤ i → i < n + 1 → upr F n (some a) i = some (g i) := fun i i0 i1 => by
      by_cases c : i = n
      · rw [c, upr_eq, hgn]
      · rw [upr_ne c, q5 i i0 (by omega), hg i i0 (by omega)]
    have c : ¬ a = l := ne_oo ha q1 ht0
    · have hc2 : ∀ z, xIsO (some a) (hset h l z) = True := fun z => by
        show xTag ((hset h l z).2.2 a) _ = True
        rw [hs_ne c, ha]
        exact h14
      refine ⟨hset (hset (hset h l (cObj 0 [vI (iBin 0 mc 1), vR e, vI n])) e (cRef 0 10 (rx (upr F n (some a))))) l (cObj 0 [vI (iBin 0 mc 1), vR e, vI (n + 1)]), e, ⟨iBin 0 mc 1, Or.inr ⟨upr F n (some a), hs_eq, (hs_ne hne).trans hs_eq, by omega, by omega, hg2⟩⟩, Or.inl ⟨rfl, rfl⟩, qFr_tr (qFr_set hX.1 q1) (qFr_tr (qFr_set hX.2 ((hs_ne hne).trans q2)) (qFr_set hX.1 ((hs_ne (fun q => hne q.symm)).trans hs_eq))), ⟨Nat.le_refl _, by show h.2.1 ≤ h.2.1 + 10; omega⟩, fun Q => ?_⟩
      rw [e229]
      simp (disch := omega) only [KK, Int.reduceEq, not_false_iff, ↓reduceIte, ↓if_pos, ↓if_neg, xt_o, true_and, nlO_i, nlO_n, nlO_r, List.length_nil, List.length_cons, Nat.reduceAdd, Nat.reduceLeDiff, Nat.zero_le, U229, e230, U230, q1, q2, hs_eq, hs_hs, hs_ne hne, hs_ne (fun q => hne q.symm), hc2, xl_r, xr_s, GX0, PX0, VS0, ar_add (a := n), or_true]
end L1
