/-! worlds: what is in their cells; what is left alone -/
def qFr (gb : Nat) (Bs X : Nat → Prop) (h h' : MH) : Prop := ((∀ q, gb + h.1 ≤ q → h.2.2 q = none) → ∀ q, gb + h'.1 ≤ q → h'.2.2 q = none) ∧ ∀ (a : Nat) (c : MC), h.2.2 a = some c → ¬ X a → (h'.2.2 a = some c ∨ (Bs a ∧ ∃ y y' : Int → Int, c = cArr 0 6 (ix y) ∧ h'.2.2 a = some (cArr 0 6 (ix y'))))
section FR
variable {gb : Nat} {Bs X X' : Nat → Prop} {h h' h'' : MH}
theorem qFr_rf : qFr gb Bs X h h := ⟨fun z => z, fun _ _ z _ => Or.inl z⟩
theorem qFr_tr (z : qFr gb Bs X h h') (z' : qFr gb Bs X h' h'') : qFr gb Bs X h h'' := ⟨fun y => z'.1 (z.1 y), fun a c hc hx => by
  rcases z.2 a c hc hx with q | ⟨hb, y, y', e, q⟩
  · exact z'.2 a c q hx
  · rcases z'.2 a _ q hx with q' | ⟨-, y1, y2, e2, q'⟩
    · exact Or.inr ⟨hb, y, y', e, q'⟩
    · exact Or.inr ⟨hb, y, y2, e, q'⟩⟩
theorem qFr_wk (z : qFr gb Bs X h h') (w : ∀ a, X a → X' a) : qFr gb Bs X' h h' := ⟨z.1, fun a c hc hx => z.2 a c hc (fun q => hx (w a q))⟩
theorem qFr_B {Bs' : Nat → Prop} (z : qFr gb Bs X h h') (w : ∀ a, Bs a → Bs' a) : qFr gb Bs' X h h' := ⟨z.1, fun a c hc hx => (z.2 a c hc hx).imp id (fun q => ⟨w a q.1, q.2⟩)⟩
theorem qFr_set {x : Nat} {c c0 : MC} (hx : X x) (h0 : h.2.2 x = some c0) : qFr gb Bs X h (hset h x c) := ⟨fun z q hq => by
  have e : ¬ q = x := fun e => by have := z q hq; rw [e, h0] at this; cases this
  rw [hs_ne e]; exact z q hq, fun a c' hc ha => Or.inl ((hs_ne (fun e => ha (by rw [e]; exact hx))).trans hc)⟩
theorem qFr_sb {x : Nat} {y y' : Int → Int} (hb : Bs x) (hx : h.2.2 x = some (cArr 0 6 (ix y))) : qFr gb Bs X h (hset h x (cArr 0 6 (ix y'))) := ⟨fun z q hq => by
  have e : ¬ q = x := fun e => by have := z q hq; rw [e, hx] at this; cases this
  rw [hs_ne e]; exact z q hq, fun a c' hc ha => by
  by_cases e : a = x
  · subst e
    rw [hx] at hc
    cases hc
    exact Or.inr ⟨hb, y, y', rfl, hs_eq⟩
  · exact Or.inl ((hs_ne e).trans hc)⟩
theorem qFr_new {n : Nat} {c : MC} (hf : ∀ q, gb + h.1 ≤ q → h.2.2 q = none) : qFr gb Bs X h (hnew h (gb + h.1) n c) := ⟨fun z q hq => by
  rw [hn_1] at hq
  rw [hn_ne (by omega)]; exact z q (by omega), fun a c' hc ha => Or.inl ((hn_ne (fun e => by rw [e, hf _ (Nat.le_refl _)] at hc; cases hc)).trans hc)⟩
variable {a : Nat}
theorem fr_o {t : Nat} {fs : List V} (z : qFr gb Bs X h h') (hc : h.2.2 a = some (cObj t fs)) (hx : ¬ X a) : h'.2.2 a = some (cObj t fs) := by
  rcases z.2 a _ hc hx with q | ⟨-, y, y', e, -⟩
  · exact q
  · cases e
theorem fr_r {t n : Nat} {f : Nat → Option Nat} (z : qFr gb Bs X h h') (hc : h.2.2 a = some (cRef t n f)) (hx : ¬ X a) : h'.2.2 a = some (cRef t n f) := by
  rcases z.2 a _ hc hx with q | ⟨-, y, y', e, -⟩
  · exact q
  · cases e
theorem fr_a {t n : Nat} {f : Nat → Int} (z : qFr gb Bs X h h') (hc : h.2.2 a = some (cArr t n f)) (hn : ¬ n = 6) (hx : ¬ X a) : h'.2.2 a = some (cArr t n f) := by
  rcases z.2 a _ hc hx with q | ⟨-, y, y', e, -⟩
  · exact q
  · cases e; exact absurd rfl hn
theorem fr_b {c : MC} (z : qFr gb Bs X h h') (hc : h.2.2 a = some c) (hb : ¬ Bs a) (hx : ¬ X a) : h'.2.2 a = some c := by
  rcases z.2 a _ hc hx with q | ⟨e, -⟩
  · exact q
  · exact absurd e hb
theorem fr_6 {y : Int → Int} (z : qFr gb Bs X h h') (hc : h.2.2 a = some (cArr 0 6 (ix y))) (hx : ¬ X a) : ∃ y' : Int → Int, h'.2.2 a = some (cArr 0 6 (ix y')) := by
  rcases z.2 a _ hc hx with q | ⟨-, y1, y2, e, q⟩
  · exact ⟨y, q⟩
  · exact ⟨y2, q⟩
end FR
/-- a valley's cells, from v on -/
def qVL (Bs : Nat → Prop) (v : Nat) (l : List Int) (nv : Int) (h : MH) : Prop := ∃ (nc : Nat) (pl cs sn : Int) (C S E y : Int → Int), h.2.2 v = some (vO' (v + 1) (v + 5) (v + 2) (v + 3) (v + 4) pl cs sn nv) ∧ h.2.2 (v + 4) = some (cArr 0 6 (ix y)) ∧ h.2.2 (v + 5) = some (cArr 0 nc (ix C)) ∧ h.2.2 (v + 2) = some (cArr 0 10 (ix S)) ∧ h.2.2 (v + 3) = some (cArr 0 10 (ix E)) ∧ (Bs (v + 4) ∧ ¬ Bs (v + 5)) ∧ nc ≤ 100 ∧ 0 ≤ sn ∧ sn ≤ 10 ∧ VR C S E nc sn.toNat 0 0 l
def qLL (G : MG) (h : MH) (l e : Nat) (n : Int) (f : Int → Nat) : Prop := ∃ mc : Int, (h.2.2 l = some (cObj 0 [vI mc, vR (G.2.1 GE), vI n]) ∧ n = 0 ∧ G.1 + 700000 ≤ e) ∨ (∃ F : Int → Option Nat, h.2.2 l = some (cObj 0 [vI mc, vR e, vI n]) ∧ h.2.2 e = some (cRef 0 10 (rx F)) ∧ 0 ≤ n ∧ n ≤ 10 ∧ ∀ i, 0 ≤ i → i < n → F i = some (f i))
def qRW (h : MH) (o cap : Nat) (n : Int) (f g : Int → Int) : Prop := ∃ r1 r2 : Int → Int, h.2.2 o = some (cObj 7 [vR (o + 1), vR (o + 2), vI n]) ∧ h.2.2 (o + 1) = some (cArr 0 cap (ix r1)) ∧ h.2.2 (o + 2) = some (cArr 0 cap (ix r2)) ∧ ∀ i, 0 ≤ i → i < n → i < cap → r1 i = f i ∧ r2 i = g i
def qAK (a : Nat) (s : Int → Int) (i : Int) (h : MH) : Prop := h.2.2 a = some (cObj 1 [vI (s (1 + i)), vI (s (6 + i)), vI (s (11 + i)), vI (s (16 + i))])
/-- an int row that agrees with f below n -/
def qIR (h : MH) (a n : Nat) (f : Int → Int) : Prop := ∃ W : Int → Int, h.2.2 a = some (cArr 0 n (ix W)) ∧ ∀ i, 0 ≤ i → i < (n : Int) → W i = f i
abbrev stepsOf (s : Int → Int) (i : Int) : List Int := seg s (237 + 140 * i) (s (232 + i)).toNat
section PC
variable {G : MG} {gb : Nat} {Bs X : Nat → Prop} {h h' : MH} {s s' : Int → Int}
theorem qVL_fr {v : Nat} {l : List Int} {nv : Int} (z : qVL Bs v l nv h) (f : qFr gb Bs X h h') (hx : ∀ k : Nat, k ≤ 5 → ¬ X (v + k)) : qVL Bs v l nv h' := by
  obtain ⟨nc, pl, cs, sn, C, S, E, y, q1, q2, q3, q4, q5, q6, q7⟩ := z
  obtain ⟨y', q2'⟩ := fr_6 f q2 (hx 4 (by omega))
  exact ⟨nc, pl, cs, sn, C, S, E, y', fr_o f q1 (hx 0 (by omega)), q2', fr_b f q3 q6.2 (hx 5 (by omega)), fr_a f q4 (by decide) (hx 2 (by omega)), fr_a f q5 (by decide) (hx 3 (by omega)), q6, q7⟩
theorem qLL_fr {l e : Nat} {n : Int} {g : Int → Nat} (z : qLL G h l e n g) (f : qFr gb Bs X h h') (hl : ¬ X l) (he : ¬ X e) : qLL G h' l e n g := by
  obtain ⟨mc, ⟨q1, q2⟩ | ⟨F, q1, q2, q3⟩⟩ := z
  · exact ⟨mc, Or.inl ⟨fr_o f q1 hl, q2⟩⟩
  · exact ⟨mc, Or.inr ⟨F, fr_o f q1 hl, fr_r f q2 he, q3⟩⟩
theorem qRW_fr {o cap : Nat} {n : Int} {g1 g2 : Int → Int} (z : qRW h o cap n g1 g2) (f : qFr gb Bs X h h') (hc : ¬ cap = 6) (h0 : ¬ X o) (h1 : ¬ X (o + 1)) (h2 : ¬ X (o + 2)) : qRW h' o cap n g1 g2 := by
  obtain ⟨r1, r2, q1, q2, q3, q4⟩ := z
  exact ⟨r1, r2, fr_o f q1 h0, fr_a f q2 hc h1, fr_a f q3 hc h2, q4⟩
theorem qRW_cg {o cap : Nat} {n : Int} {g1 g2 e1 e2 : Int → Int} (z : qRW h o cap n g1 g2) (h1 : ∀ i, 0 ≤ i → i < (cap : Int) → e1 i = g1 i) (h2 : ∀ i, 0 ≤ i → i < (cap : Int) → e2 i = g2 i) : qRW h o cap n e1 e2 := by
  obtain ⟨r1, r2, q1, q2, q3, q4⟩ := z
  exact ⟨r1, r2, q1, q2, q3, fun i i0 i1 i2 => ⟨(q4 i i0 i1 i2).1.trans (h1 i i0 i2).symm, (q4 i i0 i1 i2).2.trans (h2 i i0 i2).symm⟩⟩
theorem qAK_fr {a : Nat} {i : Int} (z : qAK a s i h) (f : qFr gb Bs X h h') (hx : ¬ X a) : qAK a s i h' := fr_o f z hx
theorem qIR_fr {a n : Nat} {g : Int → Int} (z : qIR h a n g) (f : qFr gb Bs X h h') (hn : ¬ n = 6) (hx : ¬ X a) : qIR h' a n g := by
  obtain ⟨W, q1, q2⟩ := z
  exact ⟨W, fr_a f q1 hn hx, q2⟩
theorem qIR_cg {a n : Nat} {g g' : Int → Int} (z : qIR h a n g) (e : ∀ i, 0 ≤ i → i < (n : Int) → g' i = g i) : qIR h a n g' := by
  obtain ⟨W, q1, q2⟩ := z
  exact ⟨W, q1, fun i i0 i1 => (q2 i i0 i1).trans (e i i0 i1).symm⟩
theorem qAW_fr {a r : Nat} {p : Int} (hk : 0 ≤ s (43 + p) ∧ s (43 + p) ≤ 6) (z : qAW a r s p h) (f : qFr gb Bs X h h') (ha : ¬ X a) (hr : s (43 + p) = 6 → ¬ X r) : qAW a r s p h' := by
  obtain ⟨t', fs, e, -⟩ := AUC_o (r := r) (p := p) (v := s (49 + p)) (kn := s (55 + p)) hk
  refine ⟨?_, fun q => ?_⟩
  · have := fr_o f (z.1.trans (congrArg some e)) ha
    exact this.trans (congrArg some e.symm)
  · obtain ⟨ro, r1, r2⟩ := z.2 q
    exact ⟨ro, fr_a f r1 (by decide) (hr q), r2⟩
theorem qAW_cg {a r : Nat} {p : Int} (z : qAW a r s p h) (e1 : s' (43 + p) = s (43 + p)) (e2 : s' (49 + p) = s (49 + p)) (e3 : s' (55 + p) = s (55 + p)) (e4 : ∀ k, 0 ≤ k → k < 4 → s' (61 + 4 * p + k) = s (61 + 4 * p + k)) : qAW a r s' p h := by
  unfold qAW
  rw [e1, e2, e3]
  refine ⟨z.1, fun q => ?_⟩
  obtain ⟨ro, r1, r2⟩ := z.2 q
  exact ⟨ro, r1, fun k k0 k1 => ⟨(r2 k k0 k1).1.trans (e4 k k0 k1).symm, (r2 k k0 k1).2⟩⟩
theorem seg_cg {s s' : Int → Int} : ∀ (n : Nat) (i : Int), (∀ k, i ≤ k → k < i + n → s' k = s k) → seg s' i n = seg s i n
  | 0, _, _ => rfl
  | n + 1, i, h => by
    rw [seg, seg, h i (Int.le_refl _) (by omega), seg_cg n (i + 1) (fun k hk hk2 => h k (by omega) (by omega))]
theorem awF_cg {s s' : Int → Int} : ∀ (n : Nat) (i a : Int), (∀ k, i ≤ k → k < i + n → s' (21 + k) = s (21 + k)) → awF s' n i a = awF s n i a
  | 0, _, _, _ => rfl
  | n + 1, i, a, h => by
    rw [awF, awF, h i (Int.le_refl _) (by omega), awF_cg n (i + 1) _ (fun k hk hk2 => h k (by omega) (by omega))]
theorem AWAYS_cg {s s' : Int → Int} (e : s' 27 = s 27) (h27 : 0 ≤ s 27) (h : ∀ k, 0 ≤ k → k < s 27 → s' (21 + k) = s (21 + k)) : AWAYS s' = AWAYS s := by
  unfold AWAYS
  rw [e]
  exact awF_cg _ 0 0 (fun k k0 k1 => h k k0 (by omega))
end PC
/-- world w's cells, as s has it: the fixed ones -/
def qWX (Bs : Nat → Prop) (w : Nat) (s : Int → Int) (h : MH) : Prop := h.2.2 w = some (wO w (s 33) (s 0) (AWAYS s)) ∧ qIR h (w + 4) 8 (fun f => s (35 + f)) ∧ qIR h (w + 5) 100 (fun i => s (127 + i)) ∧ qRW h (w + 6) 5 (s 30) (fun i => s (85 + i)) (fun i => s (90 + i)) ∧ qRW h (w + 9) 8 (s 31) (fun i => s (95 + i)) (fun i => s (103 + i)) ∧ qRW h (w + 12) 8 (s 32) (fun i => s (111 + i)) (fun i => s (119 + i)) ∧ qVL Bs (w + 15) [] 12 h ∧ ∃ c1 c2 c3 c4 : Int, h.2.2 (w + 21) = some (cObj 1 [vI c1, vI c2, vI c3, vI c4])
/-- the others -/
def qWY (G : MG) (Bs : Nat → Prop) (ad : Int → Nat) (b : Int) (w : Nat) (vd : Int → Nat) (s : Int → Int) (h : MH) : Prop := qLL G h (w + 1) (ad (b + 20)) (s 27) (fun i => ad (b + i)) ∧ qLL G h (w + 2) (ad (b + 21)) (s 28) (fun i => ad (b + 10 + i)) ∧ qLL G h (w + 3) (ad (b + 22)) (s 29) vd ∧ (∀ i, 0 ≤ i → i < s 27 → qAW (ad (b + i)) (ad (b + i) + 1) s i h) ∧ (∀ i, 0 ≤ i → i < s 28 → qAK (ad (b + 10 + i)) s i h) ∧ (∀ i, 0 ≤ i → i < s 29 → qVL Bs (vd i) (stepsOf s i) (s (227 + i)) h)
def qW (G : MG) (Bs : Nat → Prop) (ad : Int → Nat) (b : Int) (w : Nat) (vd : Int → Nat) (s : Int → Int) (h : MH) : Prop := qWX Bs w s h ∧ qWY G Bs ad b w vd s h
section WF
variable {G : MG} {gb : Nat} {Bs X : Nat → Prop} {h h' : MH} {s s' : Int → Int} {ad : Int → Nat} {b : Int} {w : Nat} {vd : Int → Nat}
theorem qWX_fr (z : qWX Bs w s h) (f : qFr gb Bs X h h') (hx : ∀ k : Nat, k < 22 → ¬ X (w + k)) : qWX Bs w s h' := by
  obtain ⟨z1, z2, z3, z4, z5, z6, z7, c1, c2, c3, c4, z8⟩ := z
  exact ⟨fr_o f z1 (hx 0 (by omega)), qIR_fr z2 f (by decide) (hx 4 (by omega)), qIR_fr z3 f (by decide) (hx 5 (by omega)), qRW_fr z4 f (by decide) (hx 6 (by omega)) (hx 7 (by omega)) (hx 8 (by omega)), qRW_fr z5 f (by decide) (hx 9 (by omega)) (hx 10 (by omega)) (hx 11 (by omega)), qRW_fr z6 f (by decide) (hx 12 (by omega)) (hx 13 (by omega)) (hx 14 (by omega)), qVL_fr z7 f (fun k hk => by have := hx (15 + k) (by omega); rw [← Nat.add_assoc] at this; exact this), c1, c2, c3, c4, fr_o f z8 (hx 21 (by omega))⟩
theorem qWY_fr (z : qWY G Bs ad b w vd s h) (f : qFr gb Bs X h h') (hk : ∀ i, 0 ≤ i → i < s 27 → 0 ≤ s (43 + i) ∧ s (43 + i) ≤ 6) (h6 : s 27 ≤ 6 ∧ s 28 ≤ 5) (hx : ∀ k : Nat, 1 ≤ k → k < 4 → ¬ X (w + k)) (hd : ∀ k, 0 ≤ k → k < 25 → ¬ X (ad (b + k))) (hr : ∀ k, 0 ≤ k → k < s 27 → s (43 + k) = 6 → ¬ X (ad (b + k) + 1)) (hv : ∀ (i : Int) (k : Nat), 0 ≤ i → i < s 29 → k ≤ 5 → ¬ X (vd i + k)) : qWY G Bs ad b w vd s h' := by
  obtain ⟨z1, z2, z3, z4, z5, z6⟩ := z
  refine ⟨qLL_fr z1 f (hx 1 (by omega) (by omega)) (hd 20 (by omega) (by omega)), qLL_fr z2 f (hx 2 (by omega) (by omega)) (hd 21 (by omega) (by omega)), qLL_fr z3 f (hx 3 (by omega) (by omega)) (hd 22 (by omega) (by omega)), fun i i0 i1 => qAW_fr (hk i i0 i1) (z4 i i0 i1) f (hd i i0 (by omega)) (hr i i0 i1), fun i i0 i1 => qAK_fr (z5 i i0 i1) f ?_, fun i i0 i1 => qVL_fr (z6 i i0 i1) f (fun k hk => hv i k i0 i1 hk)⟩
  have := hd (10 + i) (by omega) (by omega)
  rw [← Int.add_assoc] at this
  exact this
/-- all of a world's numbers that its cells tell are as before -/
theorem qWX_cg (z : qWX Bs w s h) (e0 : s' 0 = s 0) (e33 : s' 33 = s 33) (ea : AWAYS s' = AWAYS s) (e30 : s' 30 = s 30 ∧ s' 31 = s 31 ∧ s' 32 = s 32) (e : ∀ i, 35 ≤ i → i < 43 → s' i = s i) (e' : ∀ i, 85 ≤ i → i < 227 → s' i = s i) : qWX Bs w s' h := by
  obtain ⟨z1, z2, z3, z4, z5, z6, z7, z8⟩ := z
  unfold qWX
  rw [e0, e33, ea, e30.1, e30.2.1, e30.2.2]
  exact ⟨z1, qIR_cg z2 (fun i i0 i1 => e _ (by omega) (by omega)), qIR_cg z3 (fun i i0 i1 => e' _ (by omega) (by omega)), qRW_cg z4 (fun i i0 i1 => e' _ (by omega) (by omega)) (fun i i0 i1 => e' _ (by omega) (by omega)), qRW_cg z5 (fun i i0 i1 => e' _ (by omega) (by omega)) (fun i i0 i1 => e' _ (by omega) (by omega)), qRW_cg z6 (fun i i0 i1 => e' _ (by omega) (by omega)) (fun i i0 i1 => e' _ (by omega) (by omega)), z7, z8⟩
theorem qVL_cg {v : Nat} {l l' : List Int} {nv nv' : Int} (z : qVL Bs v l nv h) (e : l' = l) (e2 : nv' = nv) : qVL Bs v l' nv' h := by
  rw [e, e2]; exact z
theorem steps_cg {i : Int} (i0 : 0 ≤ i) (i1 : i < 5) (hm : s (232 + i) ≤ 140) (e : ∀ k, 227 ≤ k → s' k = s k) : stepsOf s' i = stepsOf s i := by
  unfold stepsOf
  rw [e (232 + i) (by omega)]
  exact seg_cg _ _ (fun k hk hk2 => e k (by omega))
end WF
