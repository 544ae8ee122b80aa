/-! the model reads: its small methods -/
def mP (m : Nat) (h0 : MH) (c : MC) (s : Int → Int) : MH := hset (hset h0 m c) (m + 1) (cArr 0 937 (ix s))
def sT (s T : Int → Int) : Prop := ∀ i, 0 ≤ i → i < 100 → s (127 + i) = T i
def wB (b : Bool) : Int := if b = true then 0 else 1
theorem wB_t : wB true = 0 := rfl
theorem wB_f : wB false = 1 := rfl
section R3
variable {G : MG} {d : Nat} {Q : KQ} {h0 : MH} {s T : Int → Int} {c c' : MC} {s' : Int → Int}
variable {m : Nat} {f0 f4 f5 f6 f7 f8 f9 f12 f13 f14 f17 f18 f20 f21 f22 f23 : Int}
variable {p o : Int}
theorem mP_m : (mP m h0 c s).2.2 m = some c := (hs_ne (by omega)).trans hs_eq
theorem mP_s : (mP m h0 c s).2.2 (m + 1) = some (cArr 0 937 (ix s)) := hs_eq
theorem mP_hm : hset (mP m h0 c s) m c' = mP m h0 c' s := by
  unfold mP
  rw [hs_comm (show ¬ m + 1 = m by omega), hs_hs]
theorem mP_hs : hset (mP m h0 c s) (m + 1) (cArr 0 937 (ix s')) = mP m h0 c s' := hs_hs
theorem qSt_mP (z : qSt G h0) (hm : G.1 ≤ m) : qSt G (mP m h0 c s) := fun i hi => by
  obtain ⟨v, g, z1, z2, z3, z4⟩ := z i hi
  exact ⟨v, g, z1, (hs_ne (by omega)).trans ((hs_ne (by omega)).trans z2), z3, z4⟩
theorem sT_em {a x : Int} (ha : 0 ≤ a ∧ a ≤ 4) (h0 : 0 ≤ s (232 + a)) (h : sT s T) : sT (emF a s x) T := fun i i0 i1 => by
  unfold emF
  rw [up_ne (by omega), up_ne (by omega)]
  exact h i i0 i1
theorem sT_sE {a : Int} (ha : 0 ≤ a ∧ a ≤ 4) : ∀ (L : List Int) (s : Int → Int), 0 ≤ s (232 + a) → sT s T → sT (sE a s L) T := by
  intro L
  induction L with
  | nil => intro s _ h; exact h
  | cons x L ih => intro s h0 h; exact ih _ (by rw [em_n]; omega) (sT_em ha h0 h)
theorem m_here {w : Int} (hT : sT s T) (hp : 0 ≤ p) (hN : f7 ≤ 100) : wpC G (d + 1) 142 [vR m] (mP m h0 (mO m f0 f4 f5 p f7 w o f12 f13 f14 f17 f18 f20 f21 f22 f23) s) Q = Q (some (vI (hrF T f7 p))) (mP m h0 (mO m f0 f4 f5 p f7 w o f12 f13 f14 f17 f18 f20 f21 f22 f23) s) := by
  rw [e142]
  unfold hrF
  by_cases q : p < f7
  · rw [if_pos q, ← hT p hp (by omega)]
    simp (disch := omega) only [KK, Int.reduceEq, not_false_iff, ↓reduceIte, ↓if_pos, ↓if_neg, xt_o, true_and, nlO_i, nlO_n, nlO_r, List.length_nil, List.length_cons, Nat.reduceAdd, Nat.reduceLeDiff, Nat.zero_le, U142, mP_m, mP_s, GX13, xa_i, ar_add]
  · rw [if_neg q]
    simp (disch := omega) only [KK, Int.reduceEq, not_false_iff, ↓reduceIte, ↓if_pos, ↓if_neg, xt_o, true_and, nlO_i, nlO_n, nlO_r, List.length_nil, List.length_cons, Nat.reduceAdd, Nat.reduceLeDiff, Nat.zero_le, U142, mP_m, mP_s, GX13]
theorem m_must1 {x : Int} (hp : 0 ≤ p ∧ p ≤ 1000) : wpC G (d + 2) 145 [vR m, vI x] (mP m h0 (mO m f0 f4 f5 p f7 1 o f12 f13 f14 f17 f18 f20 f21 f22 f23) s) Q = Q none (mP m h0 (mO m f0 f4 f5 p f7 1 o f12 f13 f14 f17 f18 f20 f21 f22 f23) s) := by
  rw [e145]
  simp (disch := omega) only [KK, Int.reduceEq, not_false_iff, ↓reduceIte, ↓if_pos, ↓if_neg, xt_o, true_and, nlO_i, nlO_n, nlO_r, List.length_nil, List.length_cons, Nat.reduceAdd, Nat.reduceLeDiff, Nat.zero_le, U145, mP_m, mP_s, mP_hm, GX13, PX13, ar_add, true_or, or_true, Int.add_zero]
theorem m_must0 {x : Int} (hT : sT s T) (hp : 0 ≤ p) (hN : f7 ≤ 100) (hp2 : p ≤ f7) : wpC G (d + 2) 145 [vR m, vI x] (mP m h0 (mO m f0 f4 f5 p f7 0 o f12 f13 f14 f17 f18 f20 f21 f22 f23) s) Q = Q none (if hrF T f7 p = x then (mP m h0 (mO m f0 f4 f5 (p + 1) f7 0 o f12 f13 f14 f17 f18 f20 f21 f22 f23) s) else (mP m h0 (mO m f0 f4 f5 p f7 1 o f12 f13 f14 f17 f18 f20 f21 f22 f23) s)) := by
  have hh := fun (K : KQ) => m_here (G := G) (d := d) (Q := K) (h0 := h0) (m := m) (f0 := f0) (f4 := f4) (f5 := f5) (f7 := f7) (f12 := f12) (f13 := f13) (f14 := f14) (f17 := f17) (f18 := f18) (f20 := f20) (f21 := f21) (f22 := f22) (f23 := f23) (w := 0) (o := o) hT hp hN
  rw [e145]
  by_cases q : hrF T f7 p = x
  · rw [if_pos q]
    simp (disch := omega) only [KK, Int.reduceEq, not_false_iff, ↓reduceIte, ↓if_pos, ↓if_neg, xt_o, true_and, nlO_i, nlO_n, nlO_r, List.length_nil, List.length_cons, Nat.reduceAdd, Nat.reduceLeDiff, Nat.zero_le, U145, mP_m, mP_s, mP_hm, GX13, PX13, hh, q, VS13, ar_add, true_or, or_true]
  · rw [if_neg q]
    simp (disch := omega) only [KK, Int.reduceEq, not_false_iff, ↓reduceIte, ↓if_pos, ↓if_neg, xt_o, true_and, nlO_i, nlO_n, nlO_r, List.length_nil, List.length_cons, Nat.reduceAdd, Nat.reduceLeDiff, Nat.zero_le, U145, mP_m, mP_s, mP_hm, GX13, PX13, hh, q, VS13, ar_add, true_or, or_true, Int.add_zero]
theorem m_spells_1 (z : qSt G h0) (hm : G.1 ≤ m) {i : Nat} (hi : i < 12) (hp : 0 ≤ p ∧ p ≤ 1000) : ∀ (n j : Nat), j + n = sL i → wp G (d + 4) 144 2 [some (vR m), some (vR (G.2.1 i)), some (vI (j : Int))] [] (mP m h0 (mO m f0 f4 f5 p f7 1 o f12 f13 f14 f17 f18 f20 f21 f22 f23) s) Q = Q none (mP m h0 (mO m f0 f4 f5 p f7 1 o f12 f13 f14 f17 f18 f20 f21 f22 f23) s) := by
  have hL := sL_b hi
  have zz := qSt_mP (c := (mO m f0 f4 f5 p f7 1 o f12 f13 f14 f17 f18 f20 f21 f22 f23)) (s := s) z hm
  have hl := fun (K : KQ) => s_len (G := G) (d := d + 2) (Q := K) zz hi
  obtain ⟨v, g, z1, z2, -⟩ := zz i hi
  have hu := fun (x : Int) (K : KQ) => m_must1 (G := G) (d := d + 2) (Q := K) (h0 := h0) (s := s) (m := m) (f0 := f0) (f4 := f4) (f5 := f5) (f7 := f7) (f12 := f12) (f13 := f13) (f14 := f14) (f17 := f17) (f18 := f18) (f20 := f20) (f21 := f21) (f22 := f22) (f23 := f23) (o := o) (x := x) hp
  intro n
  induction n with
  | zero =>
    intro j hj
    rw [u144_2]
    simp (disch := omega) only [KK, Int.reduceEq, not_false_iff, ↓reduceIte, ↓if_pos, ↓if_neg, xt_o, true_and, nlO_i, nlO_n, nlO_r, List.length_nil, List.length_cons, Nat.reduceAdd, Nat.reduceLeDiff, Nat.zero_le, U144, z1, xr0, hl]
  | succ n ih =>
    intro j hj
    have hc := fun (K : KQ) => s_chr (G := G) (d := d) (Q := K) zz hi (show j < sL i by omega)
    have ih' := ih (j + 1) (by omega)
    rw [show ((j + 1 : Nat) : Int) = (j : Int) + 1 by omega] at ih'
    rw [← ih', u144_2]
    simp (disch := omega) only [KK, Int.reduceEq, not_false_iff, ↓reduceIte, ↓if_pos, ↓if_neg, xt_o, true_and, nlO_i, nlO_n, nlO_r, List.length_nil, List.length_cons, Nat.reduceAdd, Nat.reduceLeDiff, Nat.zero_le, U144, z1, xr0, hl, hc, hu, mP_m, VS13, ar_add]
theorem m_spells_l (z : qSt G h0) (hm : G.1 ≤ m) (hT : sT s T) (hN : f7 ≤ 100) {i : Nat} (hi : i < 12) : ∀ (n j : Nat) (p : Int), j + n = sL i → 0 ≤ p → p ≤ f7 → wp G (d + 4) 144 2 [some (vR m), some (vR (G.2.1 i)), some (vI (j : Int))] [] (mP m h0 (mO m f0 f4 f5 p f7 0 o f12 f13 f14 f17 f18 f20 f21 f22 f23) s) Q = Q none (mP m h0 (mO m f0 f4 f5 ((wdF T f7 ((wS i).drop j) p).2) f7 (wB (wdF T f7 ((wS i).drop j) p).1) o f12 f13 f14 f17 f18 f20 f21 f22 f23) s) := by
  have hL := sL_b hi
  intro n
  induction n with
  | zero =>
    intro j p hj p0 p1
    have zz := qSt_mP (c := (mO m f0 f4 f5 p f7 0 o f12 f13 f14 f17 f18 f20 f21 f22 f23)) (s := s) z hm
    have hl := fun (K : KQ) => s_len (G := G) (d := d + 2) (Q := K) zz hi
    obtain ⟨v, g, z1, z2, -⟩ := zz i hi
    have e : (wS i).drop j = [] := List.drop_eq_nil_of_le (by show sL i ≤ j; omega)
    rw [e, wdF, u144_2]
    simp (disch := omega) only [KK, Int.reduceEq, not_false_iff, ↓reduceIte, ↓if_pos, ↓if_neg, xt_o, true_and, nlO_i, nlO_n, nlO_r, List.length_nil, List.length_cons, Nat.reduceAdd, Nat.reduceLeDiff, Nat.zero_le, U144, z1, xr0, hl, wB_t]
  | succ n ih =>
    intro j p hj p0 p1
    have zz := qSt_mP (c := (mO m f0 f4 f5 p f7 0 o f12 f13 f14 f17 f18 f20 f21 f22 f23)) (s := s) z hm
    have hl := fun (K : KQ) => s_len (G := G) (d := d + 2) (Q := K) zz hi
    obtain ⟨v, g, z1, z2, -⟩ := zz i hi
    have hc := fun (K : KQ) => s_chr (G := G) (d := d) (Q := K) zz hi (show j < sL i by omega)
    have hb := (sB_b hi (show j < sL i by omega)).1
    have hu := fun (K : KQ) => m_must0 (G := G) (d := d + 2) (Q := K) (h0 := h0) (m := m) (f0 := f0) (f4 := f4) (f5 := f5) (f7 := f7) (f12 := f12) (f13 := f13) (f14 := f14) (f17 := f17) (f18 := f18) (f20 := f20) (f21 := f21) (f22 := f22) (f23 := f23) (o := o) (x := sB i j) hT p0 hN p1
    rw [sB_w (show j < sL i by omega), wdF]
    by_cases q : hrF T f7 p = sB i j
    · have lt := hr_lt (T := T) (N := f7) (p := p) (by omega)
      have hu := fun (K : KQ) => (hu K).trans (by rw [if_pos q])
      have ih' := ih (j + 1) (p + 1) (by omega) (by omega) (by omega)
      rw [show ((j + 1 : Nat) : Int) = (j : Int) + 1 by omega] at ih'
      rw [if_pos q, ← ih', u144_2]
      simp (disch := omega) only [KK, Int.reduceEq, not_false_iff, ↓reduceIte, ↓if_pos, ↓if_neg, xt_o, true_and, nlO_i, nlO_n, nlO_r, List.length_nil, List.length_cons, Nat.reduceAdd, Nat.reduceLeDiff, Nat.zero_le, U144, z1, xr0, hl, hc, hu, mP_m, VS13, ar_add]
    · have hu := fun (K : KQ) => (hu K).trans (by rw [if_neg q])
      have ih' := m_spells_1 (G := G) (d := d) (Q := Q) (h0 := h0) (s := s) (m := m) (f0 := f0) (f4 := f4) (f5 := f5) (f7 := f7) (f12 := f12) (f13 := f13) (f14 := f14) (f17 := f17) (f18 := f18) (f20 := f20) (f21 := f21) (f22 := f22) (f23 := f23) (o := o) z hm hi (p := p) ⟨p0, by omega⟩ n (j + 1) (by omega)
      rw [show ((j + 1 : Nat) : Int) = (j : Int) + 1 by omega] at ih'
      rw [if_neg q, wB_f, ← ih', u144_2]
      simp (disch := omega) only [KK, Int.reduceEq, not_false_iff, ↓reduceIte, ↓if_pos, ↓if_neg, xt_o, true_and, nlO_i, nlO_n, nlO_r, List.length_nil, List.length_cons, Nat.reduceAdd, Nat.reduceLeDiff, Nat.zero_le, U144, z1, xr0, hl, hc, hu, mP_m, VS13, ar_add]
theorem m_spells (z : qSt G h0) (hm : G.1 ≤ m) (hT : sT s T) (hN : f7 ≤ 100) {i : Nat} (hi : i < 12) (p0 : 0 ≤ p) (p1 : p ≤ f7) : wpC G (d + 5) 144 [vR m, vR (G.2.1 i)] (mP m h0 (mO m f0 f4 f5 p f7 0 o f12 f13 f14 f17 f18 f20 f21 f22 f23) s) Q = Q none (mP m h0 (mO m f0 f4 f5 ((wdF T f7 (wS i) p).2) f7 (wB (wdF T f7 (wS i) p).1) o f12 f13 f14 f17 f18 f20 f21 f22 f23) s) := by
  have := m_spells_l (G := G) (d := d) (Q := Q) (h0 := h0) (m := m) (f0 := f0) (f4 := f4) (f5 := f5) (f7 := f7) (f12 := f12) (f13 := f13) (f14 := f14) (f17 := f17) (f18 := f18) (f20 := f20) (f21 := f21) (f22 := f22) (f23 := f23) (o := o) z hm hT hN hi (sL i) 0 p (by omega) p0 p1
  rw [List.drop_zero] at this
  rw [← this, e144]
  simp (disch := omega) only [KK, Int.reduceEq, not_false_iff, ↓reduceIte, ↓if_pos, ↓if_neg, xt_o, true_and, nlO_i, nlO_n, nlO_r, List.length_nil, List.length_cons, Nat.reduceAdd, Nat.reduceLeDiff, Nat.zero_le, U144]
  rfl
theorem m_among_l (z : qSt G h0) (hm : G.1 ≤ m) (hT : sT s T) (hN : f7 ≤ 100) {i : Nat} (hi : i < 12) (p0 : 0 ≤ p) (p1 : p ≤ f7) : ∀ (n j : Nat), j + n = sL i → wp G (d + 4) 152 2 [some (vR m), some (vR (G.2.1 i)), some (vI (j : Int))] [] (mP m h0 (mO m f0 f4 f5 p f7 0 o f12 f13 f14 f17 f18 f20 f21 f22 f23) s) Q = Q (some (vI (ofF (hrF T f7 p) ((wS i).drop j) j))) (mP m h0 (mO m f0 f4 f5 (if ofF (hrF T f7 p) ((wS i).drop j) j = -1 then p else p + 1) f7 0 o f12 f13 f14 f17 f18 f20 f21 f22 f23) s) := by
  have hL := sL_b hi
  have zz := qSt_mP (c := (mO m f0 f4 f5 p f7 0 o f12 f13 f14 f17 f18 f20 f21 f22 f23)) (s := s) z hm
  have hl := fun (K : KQ) => s_len (G := G) (d := d + 2) (Q := K) zz hi
  obtain ⟨v, g, z1, z2, -⟩ := zz i hi
  have hh := fun (K : KQ) => m_here (G := G) (d := d + 3) (Q := K) (h0 := h0) (m := m) (f0 := f0) (f4 := f4) (f5 := f5) (f7 := f7) (f12 := f12) (f13 := f13) (f14 := f14) (f17 := f17) (f18 := f18) (f20 := f20) (f21 := f21) (f22 := f22) (f23 := f23) (w := 0) (o := o) hT p0 hN
  intro n
  induction n with
  | zero =>
    intro j hj
    have e : (wS i).drop j = [] := List.drop_eq_nil_of_le (by show sL i ≤ j; omega)
    rw [e, ofF, if_pos rfl, u152_2]
    simp (disch := omega) only [KK, Int.reduceEq, not_false_iff, ↓reduceIte, ↓if_pos, ↓if_neg, xt_o, true_and, nlO_i, nlO_n, nlO_r, List.length_nil, List.length_cons, Nat.reduceAdd, Nat.reduceLeDiff, Nat.zero_le, U152, z1, xr0, hl]
  | succ n ih =>
    intro j hj
    have hc := fun (K : KQ) => s_chr (G := G) (d := d) (Q := K) zz hi (show j < sL i by omega)
    rw [sB_w (show j < sL i by omega), ofF]
    by_cases q : hrF T f7 p = sB i j
    · rw [if_pos q, if_neg (by omega), u152_2]
      simp (disch := omega) only [KK, Int.reduceEq, not_false_iff, ↓reduceIte, ↓if_pos, ↓if_neg, xt_o, true_and, nlO_i, nlO_n, nlO_r, List.length_nil, List.length_cons, Nat.reduceAdd, Nat.reduceLeDiff, Nat.zero_le, U152, z1, xr0, hl, hc, hh, q, mP_m, mP_hm, GX13, PX13, VS13, ar_add]
    · have ih' := ih (j + 1) (by omega)
      rw [show ((j + 1 : Nat) : Int) = (j : Int) + 1 by omega] at ih'
      rw [if_neg q, ← ih', u152_2]
      simp (disch := omega) only [KK, Int.reduceEq, not_false_iff, ↓reduceIte, ↓if_pos, ↓if_neg, xt_o, true_and, nlO_i, nlO_n, nlO_r, List.length_nil, List.length_cons, Nat.reduceAdd, Nat.reduceLeDiff, Nat.zero_le, U152, z1, xr0, hl, hc, hh, q, mP_m, VS13, ar_add]
theorem m_among (z : qSt G h0) (hm : G.1 ≤ m) (hT : sT s T) (hN : f7 ≤ 100) {i : Nat} (hi : i < 12) (p0 : 0 ≤ p) (p1 : p ≤ f7) : wpC G (d + 5) 152 [vR m, vR (G.2.1 i)] (mP m h0 (mO m f0 f4 f5 p f7 0 o f12 f13 f14 f17 f18 f20 f21 f22 f23) s) Q = Q (some (vI (ofS (hrF T f7 p) i))) (mP m h0 (mO m f0 f4 f5 (if ofS (hrF T f7 p) i = -1 then p else p + 1) f7 0 o f12 f13 f14 f17 f18 f20 f21 f22 f23) s) := by
  have := m_among_l (G := G) (d := d) (Q := Q) (h0 := h0) (m := m) (f0 := f0) (f4 := f4) (f5 := f5) (f7 := f7) (f12 := f12) (f13 := f13) (f14 := f14) (f17 := f17) (f18 := f18) (f20 := f20) (f21 := f21) (f22 := f22) (f23 := f23) (o := o) z hm hT hN hi p0 p1 (sL i) 0 (by omega)
  rw [List.drop_zero] at this
  unfold ofS
  refine Eq.trans ?_ this
  rw [e152]
  simp (disch := omega) only [KK, Int.reduceEq, not_false_iff, ↓reduceIte, ↓if_pos, ↓if_neg, xt_o, true_and, nlO_i, nlO_n, nlO_r, List.length_nil, List.length_cons, Nat.reduceAdd, Nat.reduceLeDiff, Nat.zero_le, U152]
  rfl
theorem m_emits1 {x : Int} : wpC G (d + 1) 151 [vR m, vI x] (mP m h0 (mO m f0 f4 f5 p f7 1 o f12 f13 f14 f17 f18 f20 f21 f22 f23) s) Q = Q none (mP m h0 (mO m f0 f4 f5 p f7 1 o f12 f13 f14 f17 f18 f20 f21 f22 f23) s) := by
  rw [e151]
  simp (disch := omega) only [KK, Int.reduceEq, not_false_iff, ↓reduceIte, ↓if_pos, ↓if_neg, xt_o, true_and, nlO_i, nlO_n, nlO_r, List.length_nil, List.length_cons, Nat.reduceAdd, Nat.reduceLeDiff, Nat.zero_le, U151, mP_m, mP_s, GX13]
theorem m_emits0 {x : Int} (h5 : 0 ≤ f5 ∧ f5 ≤ 4) (hn : 0 ≤ s (232 + f5) ∧ s (232 + f5) ≤ 120) : wpC G (d + 1) 151 [vR m, vI x] (mP m h0 (mO m f0 f4 f5 p f7 0 o f12 f13 f14 f17 f18 f20 f21 f22 f23) s) Q = Q none (mP m h0 (mO m f0 f4 f5 p f7 0 o f12 f13 f14 f17 f18 f20 f21 f22 f23) (emF f5 s x)) := by
  have e : up s (237 + 140 * f5 + s (232 + f5)) x (232 + f5) = s (232 + f5) := up_ne (by omega)
  rw [e151]
  unfold emF
  simp (disch := omega) only [KK, Int.reduceEq, not_false_iff, ↓reduceIte, ↓if_pos, ↓if_neg, xt_o, true_and, nlO_i, nlO_n, nlO_r, List.length_nil, List.length_cons, Nat.reduceAdd, Nat.reduceLeDiff, Nat.zero_le, U151, mP_m, mP_s, mP_hs, GX13, xa_i, xs_i, ar_add, ar_mul, e]
theorem m_figures1 (hT : sT s T) (p0 : 0 ≤ p) (hN : f7 ≤ 100) : wpC G (d + 2) 146 [vR m] (mP m h0 (mO m f0 f4 f5 p f7 1 o f12 f13 f14 f17 f18 f20 f21 f22 f23) s) Q = Q (some (vI 0)) (mP m h0 (mO m f0 f4 f5 p f7 1 o f12 f13 f14 f17 f18 f20 f21 f22 f23) s) := by
  rw [e146]
  simp (disch := omega) only [KK, Int.reduceEq, not_false_iff, ↓reduceIte, ↓if_pos, ↓if_neg, xt_o, true_and, nlO_i, nlO_n, nlO_r, List.length_nil, List.length_cons, Nat.reduceAdd, Nat.reduceLeDiff, Nat.zero_le, U146, mP_m, mP_s, mP_hm, GX13, PX13, true_or, or_true]
  rw [u146_34]
  simp (disch := omega) only [KK, Int.reduceEq, not_false_iff, ↓reduceIte, ↓if_pos, ↓if_neg, xt_o, true_and, nlO_i, nlO_n, nlO_r, List.length_nil, List.length_cons, Nat.reduceAdd, Nat.reduceLeDiff, Nat.zero_le, U146, mP_m, mP_s, mP_hm, GX13, PX13, true_or, or_true]
theorem m_figures0 (hT : sT s T) (p0 : 0 ≤ p) (p1 : p ≤ f7) (hN : f7 ≤ 100) : wpC G (d + 2) 146 [vR m] (mP m h0 (mO m f0 f4 f5 p f7 0 o f12 f13 f14 f17 f18 f20 f21 f22 f23) s) Q = Q (some (vI (if (nuF T f7 p).1 = -1 then 0 else (nuF T f7 p).1))) (mP m h0 (mO m f0 f4 f5 ((nuF T f7 p).2) f7 (if (nuF T f7 p).1 = -1 then 1 else 0) o f12 f13 f14 f17 f18 f20 f21 f22 f23) s) := by
  have hh := fun (q w : Int) (q0 : 0 ≤ q) (K : KQ) => m_here (G := G) (d := d) (Q := K) (h0 := h0) (m := m) (f0 := f0) (f4 := f4) (f5 := f5) (f7 := f7) (f12 := f12) (f13 := f13) (f14 := f14) (f17 := f17) (f18 := f18) (f20 := f20) (f21 := f21) (f22 := f22) (f23 := f23) (p := q) (w := w) (o := o) hT q0 hN
  have h1 := hh p 0 p0
  have h2 := hh (p + 1) 0 (by omega)
  have lt := hr_lt (T := T) (N := f7) (p := p)
  have lt2 := hr_lt (T := T) (N := f7) (p := p + 1)
  unfold nuF
  generalize hrF T f7 p = x at h1 lt ⊢
  generalize hrF T f7 (p + 1) = y at h2 lt2 ⊢
  have m1 := fun (h : MH) (K : KQ) => m_in (G := G) (d := d) (h := h) (Q := K) (v := x) (lo := 48) (hi := 57)
  have m2 := fun (h : MH) (K : KQ) => m_in (G := G) (d := d) (h := h) (Q := K) (v := y) (lo := 48) (hi := 57)
  have e1 : (10 * 0 + x - 48 : Int) = x - 48 := by omega
  have e2 : (p + 1 + 1 : Int) = p + 2 := by omega
  have e3 : (10 * (x - 48) + y - 48 : Int) = (x - 48) * 10 + (y - 48) := by omega
  by_cases c : 0 ≤ x - 48 ∧ x - 48 ≤ 9
  · have c' : 48 ≤ x ∧ x ≤ 57 := by omega
    have lt := lt (by omega)
    have m1 := fun (h : MH) (K : KQ) => (m1 h K).trans (by rw [if_pos c'])
    rw [if_pos c]
    by_cases c2 : ¬ x - 48 = 0 ∧ 0 ≤ y - 48 ∧ y - 48 ≤ 9
    · have c2' : 48 ≤ y ∧ y ≤ 57 := by omega
      have lt2 := lt2 (by omega)
      have m2 := fun (h : MH) (K : KQ) => (m2 h K).trans (by rw [if_pos c2'])
      rw [if_pos c2, if_neg (by omega), if_neg (by omega), e146]
      simp (disch := omega) only [KK, Int.reduceEq, not_false_iff, ↓reduceIte, ↓if_pos, ↓if_neg, xt_o, true_and, nlO_i, nlO_n, nlO_r, List.length_nil, List.length_cons, Nat.reduceAdd, Nat.reduceLeDiff, Nat.zero_le, U146, mP_m, mP_s, mP_hm, GX13, PX13, VS13, h1, m1, true_or, or_true]
      rw [u146_34]
      simp (disch := omega) only [KK, Int.reduceEq, not_false_iff, ↓reduceIte, ↓if_pos, ↓if_neg, xt_o, true_and, nlO_i, nlO_n, nlO_r, List.length_nil, List.length_cons, Nat.reduceAdd, Nat.reduceLeDiff, Nat.zero_le, U146, mP_m, mP_s, mP_hm, GX13, PX13, VS13, h1, m1, ar_add, ar_sub, ar_mul, e1, true_or, or_true, Int.reduceLE]
      rw [u146_34]
      simp (disch := omega) only [KK, Int.reduceEq, not_false_iff, ↓reduceIte, ↓if_pos, ↓if_neg, xt_o, true_and, nlO_i, nlO_n, nlO_r, List.length_nil, List.length_cons, Nat.reduceAdd, Nat.reduceLeDiff, Nat.zero_le, U146, mP_m, mP_s, mP_hm, GX13, PX13, VS13, h2, m2, ar_add, ar_sub, ar_mul, e2, e3, true_or, or_true, Int.reduceLE, Int.reduceAdd]
      rw [u146_34]
      simp (disch := omega) only [KK, Int.reduceEq, not_false_iff, ↓reduceIte, ↓if_pos, ↓if_neg, xt_o, true_and, nlO_i, nlO_n, nlO_r, List.length_nil, List.length_cons, Nat.reduceAdd, Nat.reduceLeDiff, Nat.zero_le, U146, mP_m, mP_s, mP_hm, GX13, PX13, VS13, Int.reduceLE]
    · rw [if_neg c2, if_neg (by omega), if_neg (by omega), e146]
      simp (disch := omega) only [KK, Int.reduceEq, not_false_iff, ↓reduceIte, ↓if_pos, ↓if_neg, xt_o, true_and, nlO_i, nlO_n, nlO_r, List.length_nil, List.length_cons, Nat.reduceAdd, Nat.reduceLeDiff, Nat.zero_le, U146, mP_m, mP_s, mP_hm, GX13, PX13, VS13, h1, m1, true_or, or_true]
      rw [u146_34]
      simp (disch := omega) only [KK, Int.reduceEq, not_false_iff, ↓reduceIte, ↓if_pos, ↓if_neg, xt_o, true_and, nlO_i, nlO_n, nlO_r, List.length_nil, List.length_cons, Nat.reduceAdd, Nat.reduceLeDiff, Nat.zero_le, U146, mP_m, mP_s, mP_hm, GX13, PX13, VS13, h1, m1, ar_add, ar_sub, ar_mul, e1, true_or, or_true, Int.reduceLE]
      rw [u146_34]
      by_cases c3 : 48 ≤ y ∧ y ≤ 57
      · have m2 := fun (h : MH) (K : KQ) => (m2 h K).trans (by rw [if_pos c3])
        simp (disch := omega) only [KK, Int.reduceEq, not_false_iff, ↓reduceIte, ↓if_pos, ↓if_neg, xt_o, true_and, nlO_i, nlO_n, nlO_r, List.length_nil, List.length_cons, Nat.reduceAdd, Nat.reduceLeDiff, Nat.zero_le, U146, mP_m, mP_s, mP_hm, GX13, PX13, VS13, h2, m2, true_or, or_true, Int.reduceLE]
      · have m2 := fun (h : MH) (K : KQ) => (m2 h K).trans (by rw [if_neg c3])
        simp (disch := omega) only [KK, Int.reduceEq, not_false_iff, ↓reduceIte, ↓if_pos, ↓if_neg, xt_o, true_and, nlO_i, nlO_n, nlO_r, List.length_nil, List.length_cons, Nat.reduceAdd, Nat.reduceLeDiff, Nat.zero_le, U146, mP_m, mP_s, mP_hm, GX13, PX13, VS13, h2, m2, true_or, or_true, Int.reduceLE]
  · have m1 := fun (h : MH) (K : KQ) => (m1 h K).trans (by rw [if_neg (show ¬ (48 ≤ x ∧ x ≤ 57) by omega)])
    rw [if_neg c, if_pos rfl, if_pos rfl, e146]
    simp (disch := omega) only [KK, Int.reduceEq, not_false_iff, ↓reduceIte, ↓if_pos, ↓if_neg, xt_o, true_and, nlO_i, nlO_n, nlO_r, List.length_nil, List.length_cons, Nat.reduceAdd, Nat.reduceLeDiff, Nat.zero_le, U146, mP_m, mP_s, mP_hm, GX13, PX13, VS13, h1, m1, true_or, or_true]
    rw [u146_34]
    simp (disch := omega) only [KK, Int.reduceEq, not_false_iff, ↓reduceIte, ↓if_pos, ↓if_neg, xt_o, true_and, nlO_i, nlO_n, nlO_r, List.length_nil, List.length_cons, Nat.reduceAdd, Nat.reduceLeDiff, Nat.zero_le, U146, mP_m, mP_s, mP_hm, GX13, PX13, VS13, true_or, or_true, Int.reduceLE]
end R3
