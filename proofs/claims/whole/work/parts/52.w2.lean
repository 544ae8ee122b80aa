/-! who is away, as bits; objects written -/
def chkA (a : Int) : Bool := (List.range 6).all (fun i => (List.range 2).all (fun x => let r := iBin 4 a (iBin 6 (x : Int) (i : Int)); decide (0 ≤ r) && decide (r < 64) && (List.range 6).all (fun k => decide (¬ bt a i = 0) || decide (bt r k = if k = i then (x : Int) else bt a k)))) && (List.range 6).all (fun k => decide (bt a k = 0 ∨ bt a k = 1)) && (List.range 64).all (fun b => decide (a = b) || (List.range 6).any (fun k => decide (¬ bt a k = bt b k)))
theorem chkA_all : (List.range 64).all (fun n => chkA n) = true := by decide +kernel
theorem aw_of {a : Int} (h0 : 0 ≤ a) (h1 : a < 64) : chkA a = true := by
  have := List.all_eq_true.mp chkA_all a.toNat (List.mem_range.mpr (by omega))
  rw [Int.toNat_of_nonneg h0] at this
  exact this
theorem aw_or {a x i : Int} (h0 : 0 ≤ a) (h1 : a < 64) (hx : x = 0 ∨ x = 1) (i0 : 0 ≤ i) (i1 : i < 6) : 0 ≤ iBin 4 a (iBin 6 x i) ∧ iBin 4 a (iBin 6 x i) < 64 ∧ (bt a i = 0 → ∀ k, 0 ≤ k → k < 6 → bt (iBin 4 a (iBin 6 x i)) k = if k = i then x else bt a k) := by
  have h := aw_of h0 h1
  unfold chkA at h
  simp only [Bool.and_eq_true, List.all_eq_true] at h
  have h2 := h.1.1 i.toNat (List.mem_range.mpr (by omega)) x.toNat (List.mem_range.mpr (by omega))
  rw [Int.toNat_of_nonneg i0, Int.toNat_of_nonneg (show 0 ≤ x by omega)] at h2
  obtain ⟨⟨a1, a2⟩, a3⟩ := h2
  refine ⟨of_decide_eq_true a1, of_decide_eq_true a2, fun hb k k0 k1 => ?_⟩
  have h3 := a3 k.toNat (List.mem_range.mpr (by omega))
  simp only [Bool.or_eq_true, decide_eq_true_eq] at h3
  rw [Int.toNat_of_nonneg k0] at h3
  have h4 := h3.resolve_left (fun z => z hb)
  rw [h4]
  by_cases e : k = i
  · rw [if_pos e, if_pos (by omega)]
  · rw [if_neg e, if_neg (by omega)]
theorem aw_ext {a c : Int} (h0 : 0 ≤ a) (h1 : a < 64) (c0 : 0 ≤ c) (c1 : c < 64) (e : ∀ k, 0 ≤ k → k < 6 → bt a k = bt c k) : a = c := by
  have h := aw_of h0 h1
  unfold chkA at h
  simp only [Bool.and_eq_true, List.all_eq_true] at h
  have h2 := h.2 c.toNat (List.mem_range.mpr (by omega))
  rw [Int.toNat_of_nonneg c0] at h2
  simp only [Bool.or_eq_true, decide_eq_true_eq] at h2
  rcases h2 with h2 | h2
  · exact h2
  · obtain ⟨k, hk, h3⟩ := List.any_eq_true.mp h2
    have := List.mem_range.mp hk
    exact absurd (e k (by omega) (by omega)) (of_decide_eq_true h3)
theorem aw_01 {a k : Int} (h0 : 0 ≤ a) (h1 : a < 64) (k0 : 0 ≤ k) (k1 : k < 6) : bt a k = 0 ∨ bt a k = 1 := by
  have h := aw_of h0 h1
  unfold chkA at h
  simp only [Bool.and_eq_true, List.all_eq_true] at h
  have h2 := h.1.2 k.toNat (List.mem_range.mpr (by omega))
  rw [Int.toNat_of_nonneg k0] at h2
  exact of_decide_eq_true h2
theorem awF_bt {s : Int → Int} (h01 : ∀ k, 0 ≤ k → k < 6 → s (21 + k) = 0 ∨ s (21 + k) = 1) : ∀ (n : Nat) (i a : Int), 0 ≤ i → i + n ≤ 6 → 0 ≤ a → a < 64 → (∀ k, i ≤ k → k < 6 → bt a k = 0) → (0 ≤ awF s n i a ∧ awF s n i a < 64) ∧ ∀ k, 0 ≤ k → k < 6 → bt (awF s n i a) k = if k < i then bt a k else if k < i + n then s (21 + k) else 0 := by
  intro n
  induction n with
  | zero =>
    intro i a i0 hi a0 a1 hz
    refine ⟨⟨a0, a1⟩, fun k k0 k1 => ?_⟩
    rw [awF]
    by_cases e : k < i
    · rw [if_pos e]
    · rw [if_neg e, if_neg (by omega)]
      exact hz k (by omega) k1
  | succ n ih =>
    intro i a i0 hi a0 a1 hz
    have i6 : i < 6 := by omega
    obtain ⟨r0, r1, r2⟩ := aw_or a0 a1 (h01 i i0 i6) i0 i6
    have r2 := r2 (hz i (by omega) i6)
    obtain ⟨q1, q2⟩ := ih (i + 1) (iBin 4 a (iBin 6 (s (21 + i)) i)) (by omega) (by omega) r0 r1 (fun k k0 k1 => by
      rw [r2 k (by omega) k1, if_neg (by omega)]
      exact hz k (by omega) k1)
    rw [awF]
    refine ⟨q1, fun k k0 k1 => ?_⟩
    rw [q2 k k0 k1]
    by_cases e : k < i
    · rw [if_pos (by omega), if_pos e, r2 k k0 k1, if_neg (by omega)]
    · rw [if_neg e]
      by_cases e2 : k = i
      · rw [if_pos (by omega), r2 k k0 k1, if_pos e2, if_pos (by omega), e2]
      · rw [if_neg (by omega)]
        by_cases e3 : k < i + 1 + n
        · rw [if_pos e3, if_pos (by omega)]
        · rw [if_neg e3, if_neg (by omega)]
theorem zero_bt : ∀ k : Int, 0 ≤ k → k < 6 → bt 0 k = 0 := by
  intro k k0 k1
  rcases (show k = 0 ∨ k = 1 ∨ k = 2 ∨ k = 3 ∨ k = 4 ∨ k = 5 by omega) with e | e | e | e | e | e <;> subst e <;> decide
theorem AWAYS_bt {s : Int → Int} (h01 : ∀ k, 0 ≤ k → k < 6 → s (21 + k) = 0 ∨ s (21 + k) = 1) (h27 : 0 ≤ s 27 ∧ s 27 ≤ 6) : (0 ≤ AWAYS s ∧ AWAYS s < 64) ∧ ∀ k, 0 ≤ k → k < 6 → bt (AWAYS s) k = if k < s 27 then s (21 + k) else 0 := by
  obtain ⟨q1, q2⟩ := awF_bt h01 (s 27).toNat 0 0 (by omega) (by omega) (by omega) (by omega) (fun k k0 k1 => zero_bt k k0 k1)
  refine ⟨q1, fun k k0 k1 => ?_⟩
  have := q2 k k0 k1
  rw [if_neg (by omega)] at this
  unfold AWAYS
  rw [this]
  by_cases e : k < s 27
  · rw [if_pos e, if_pos (by omega)]
  · rw [if_neg e, if_neg (by omega)]
section WO
variable {G : MG} {gb : Nat} {Bs X : Nat → Prop} {h h' : MH} {s s' : Int → Int} {ad : Int → Nat} {b : Int} {w : Nat} {vd : Int → Nat}
/-- only objects that are no lists, no valleys, no worlds, no rows of pairs are written -/
def qXo (X : Nat → Prop) (h : MH) : Prop := ∀ a, X a → ∃ (t : Nat) (fs : List V), h.2.2 a = some (cObj t fs) ∧ ¬ t = 0 ∧ ¬ t = 10 ∧ ¬ t = 7
theorem xo_o {a t : Nat} {fs : List V} (o : qXo X h) (ha : h.2.2 a = some (cObj t fs)) (ht : t = 0 ∨ t = 10 ∨ t = 7) : ¬ X a := fun x => by
  obtain ⟨u, gs, e, e1, e2, e3⟩ := o a x
  rw [ha] at e; cases e; omega
theorem xo_a {a t n : Nat} {f : Nat → Int} (o : qXo X h) (ha : h.2.2 a = some (cArr t n f)) : ¬ X a := fun x => by
  obtain ⟨u, gs, e, -⟩ := o a x
  rw [ha] at e; cases e
theorem xo_r {a t n : Nat} {f : Nat → Option Nat} (o : qXo X h) (ha : h.2.2 a = some (cRef t n f)) : ¬ X a := fun x => by
  obtain ⟨u, gs, e, -⟩ := o a x
  rw [ha] at e; cases e
theorem qVL_fo {v : Nat} {l : List Int} {nv : Int} (z : qVL Bs v l nv h) (f : qFr gb Bs X h h') (o : qXo X h) : qVL Bs v l nv h' := by
  obtain ⟨nc, pl, cs, sn, C, S, E, y, q1, q2, q3, q4, q5, q6, q7⟩ := z
  obtain ⟨y', q2'⟩ := fr_6 f q2 (xo_a o q2)
  exact ⟨nc, pl, cs, sn, C, S, E, y', fr_o f q1 (xo_o o q1 (by omega)), q2', fr_b f q3 q6.2 (xo_a o q3), fr_a f q4 (by decide) (xo_a o q4), fr_a f q5 (by decide) (xo_a o q5), q6, q7⟩
theorem qLL_fo {l e : Nat} {n : Int} {g : Int → Nat} (z : qLL G h l e n g) (f : qFr gb Bs X h h') (o : qXo X h) : qLL G h' l e n g := by
  obtain ⟨mc, ⟨q1, q2⟩ | ⟨F, q1, q2, q3⟩⟩ := z
  · exact ⟨mc, Or.inl ⟨fr_o f q1 (xo_o o q1 (by omega)), q2⟩⟩
  · exact ⟨mc, Or.inr ⟨F, fr_o f q1 (xo_o o q1 (by omega)), fr_r f q2 (xo_r o q2), q3⟩⟩
theorem qRW_fo {o' cap : Nat} {n : Int} {g1 g2 : Int → Int} (z : qRW h o' cap n g1 g2) (f : qFr gb Bs X h h') (hc : ¬ cap = 6) (o : qXo X h) : qRW h' o' cap n g1 g2 := by
  obtain ⟨r1, r2, q1, q2, q3, q4⟩ := z
  exact ⟨r1, r2, fr_o f q1 (xo_o o q1 (by omega)), fr_a f q2 hc (xo_a o q2), fr_a f q3 hc (xo_a o q3), q4⟩
theorem qIR_fo {a n : Nat} {g : Int → Int} (z : qIR h a n g) (f : qFr gb Bs X h h') (hn : ¬ n = 6) (o : qXo X h) : qIR h' a n g := by
  obtain ⟨W, q1, q2⟩ := z
  exact ⟨W, fr_a f q1 hn (xo_a o q1), q2⟩
theorem qAW_fo {a r : Nat} {p : Int} (hk : 0 ≤ s (43 + p) ∧ s (43 + p) ≤ 6) (z : qAW a r s p h) (f : qFr gb Bs X h h') (o : qXo X h) (ha : ¬ X a) : qAW a r s p h' := by
  obtain ⟨t', fs, e, -⟩ := AUC_o (r := r) (p := p) (v := s (49 + p)) (kn := s (55 + p)) hk
  refine ⟨?_, fun q => ?_⟩
  · have := fr_o f (z.1.trans (congrArg some e)) ha
    exact this.trans (congrArg some e.symm)
  · obtain ⟨ro, r1, r2⟩ := z.2 q
    exact ⟨ro, fr_a f r1 (by decide) (xo_a o r1), r2⟩
theorem qWX_fo (z : qWX Bs w s h) (f : qFr gb Bs X h h') (o : qXo X h) (h0 : ¬ X w) (h21 : ¬ X (w + 21)) : qWX Bs w s h' := by
  obtain ⟨z1, z2, z3, z4, z5, z6, z7, c1, c2, c3, c4, z8⟩ := z
  exact ⟨fr_o f z1 h0, qIR_fo z2 f (by decide) o, qIR_fo z3 f (by decide) o, qRW_fo z4 f (by decide) o, qRW_fo z5 f (by decide) o, qRW_fo z6 f (by decide) o, qVL_fo z7 f o, c1, c2, c3, c4, fr_o f z8 h21⟩
theorem qWY_fo (z : qWY G Bs ad b w vd s h) (f : qFr gb Bs X h h') (hk : ∀ i, 0 ≤ i → i < s 27 → 0 ≤ s (43 + i) ∧ s (43 + i) ≤ 6) (o : qXo X h) (hd : ∀ k, 0 ≤ k → k < s 27 → ¬ X (ad (b + k))) (ha : ∀ k, 0 ≤ k → k < s 28 → ¬ X (ad (b + 10 + k))) : qWY G Bs ad b w vd s h' := by
  obtain ⟨z1, z2, z3, z4, z5, z6⟩ := z
  exact ⟨qLL_fo z1 f o, qLL_fo z2 f o, qLL_fo z3 f o, fun i i0 i1 => qAW_fo (hk i i0 i1) (z4 i i0 i1) f o (hd i i0 i1), fun i i0 i1 => qAK_fr (z5 i i0 i1) f (ha i i0 i1), fun i i0 i1 => qVL_fo (z6 i i0 i1) f o⟩
theorem qW_fo (z : qW G Bs ad b w vd s h) (f : qFr gb Bs X h h') (hk : ∀ i, 0 ≤ i → i < s 27 → 0 ≤ s (43 + i) ∧ s (43 + i) ≤ 6) (o : qXo X h) (h0 : ¬ X w) (h21 : ¬ X (w + 21)) (hd : ∀ k, 0 ≤ k → k < s 27 → ¬ X (ad (b + k))) (ha : ∀ k, 0 ≤ k → k < s 28 → ¬ X (ad (b + 10 + k))) : qW G Bs ad b w vd s h' := ⟨qWX_fo z.1 f o h0 h21, qWY_fo z.2 f hk o hd ha⟩
theorem qW_f0 (z : qW G Bs ad b w vd s h) (f : qFr gb Bs (fun _ => False) h h') (hk : ∀ i, 0 ≤ i → i < s 27 → 0 ≤ s (43 + i) ∧ s (43 + i) ≤ 6) : qW G Bs ad b w vd s h' := qW_fo z f hk (fun _ x => x.elim) id id (fun _ _ _ => id) (fun _ _ _ => id)
end WO
/-- what a world's numbers must be -/
def okW (s : Int → Int) : Prop := okD s ∧ s 34 = s 29 - 1 ∧ (0 ≤ s 29 ∧ s 29 ≤ 5) ∧ (∀ f, 0 ≤ f → f < 8 → 0 ≤ s (35 + f) ∧ s (35 + f) ≤ 9) ∧ (∀ k, 0 ≤ k → k < 6 → s (21 + k) = 0 ∨ s (21 + k) = 1) ∧ (∀ i, 0 ≤ i → i < 5 → 0 ≤ s (227 + i) ∧ s (227 + i) ≤ 99) ∧ (∀ a, 0 ≤ a → a < 5 → (s (16 + a) = 0 ∨ s (16 + a) = 1) ∧ (0 ≤ s (1 + a) ∧ s (1 + a) ≤ 255) ∧ (0 ≤ s (6 + a) ∧ s (6 + a) ≤ 200) ∧ (s (16 + a) = 0 → s (6 + a) ≤ 99) ∧ s (11 + a) ≤ 6)
theorem okW_k {s : Int → Int} (ok : okW s) : ∀ i, 0 ≤ i → i < s 27 → 0 ≤ s (43 + i) ∧ s (43 + i) ≤ 6 := fun i i0 i1 => by
  obtain ⟨⟨-, -, -, oA, -⟩, -⟩ := ok
  obtain ⟨-, -, k0, k1, -⟩ := oA i i0 i1
  exact ⟨k0, k1⟩
theorem NERVE_le {s : Int → Int} (ok : okW s) : 0 ≤ NERVE s ∧ NERVE s ≤ 99 := by
  obtain ⟨-, o34, o29, -, -, oN, -⟩ := ok
  unfold NERVE
  by_cases e : s 34 = -1
  · rw [if_pos e]; omega
  · rw [if_neg e]
    exact oN (s 34) (by omega) (by omega)
theorem wsum_le {s : Int → Int} (hw : ∀ f, 0 ≤ f → f < 8 → 0 ≤ s (35 + f) ∧ s (35 + f) ≤ 9) {x : Int} : ∀ (n : Nat) (i a : Int), 0 ≤ i → i + n = 8 → 0 ≤ a → a ≤ 9 * i → 0 ≤ wsum s x n i a ∧ wsum s x n i a ≤ 72 := by
  intro n
  induction n with
  | zero => intro i a i0 hi a0 a1; rw [wsum]; omega
  | succ n ih =>
    intro i a i0 hi a0 a1
    have hwi := hw i i0 (by omega)
    rw [wsum]
    have e : 0 ≤ (if bt x i = 1 then s (35 + i) else 0) ∧ (if bt x i = 1 then s (35 + i) else 0) ≤ 9 := by split <;> omega
    rw [ar_add (by omega)]
    exact ih (i + 1) _ (by omega) (by omega) (by omega) (by omega)
theorem WGT_le {s : Int → Int} (ok : okW s) {x : Int} : 0 ≤ WGT s x ∧ WGT s x ≤ 72 := wsum_le ok.2.2.2.1 8 0 0 (by omega) rfl (by omega) (by omega)
