/-! rows that are written step by step; texts that are constants -/
def emF (a : Int) (s : Int → Int) (c : Int) : Int → Int := up (up s (237 + 140 * a + s (232 + a)) c) (232 + a) (s (232 + a) + 1)
def sE (a : Int) : (Int → Int) → List Int → (Int → Int)
  | s, [] => s
  | s, c :: L => sE a (emF a s c) L
theorem sE_app {a : Int} : ∀ (L L' : List Int) (s : Int → Int), sE a s (L ++ L') = sE a (sE a s L) L' := by
  intro L
  induction L with
  | nil => intro L' s; rfl
  | cons c L ih => intro L' s; show sE a (emF a s c) (L ++ L') = _; rw [ih]; rfl
theorem em_n {a c : Int} {s : Int → Int} : emF a s c (232 + a) = s (232 + a) + 1 := up_eq
theorem sE_n {a : Int} : ∀ (L : List Int) (s : Int → Int), sE a s L (232 + a) = s (232 + a) + L.length := by
  intro L
  induction L with
  | nil => intro s; show s (232 + a) = s (232 + a) + ((0 : Nat) : Int); omega
  | cons c L ih => intro s; rw [sE, ih, em_n, List.length_cons]; omega
theorem sE_o {a : Int} : ∀ (L : List Int) (s : Int → Int) (k : Int), ¬ k = 232 + a → (k < 237 + 140 * a + s (232 + a) ∨ 237 + 140 * a + s (232 + a) + L.length ≤ k) → sE a s L k = s k := by
  intro L
  induction L with
  | nil => intro s k _ _; rfl
  | cons c L ih =>
    intro s k h1 h2
    rw [List.length_cons] at h2
    rw [sE, ih _ _ h1 (by rw [em_n]; omega)]
    unfold emF
    rw [up_ne h1, up_ne (by omega)]
theorem sE_seg {a : Int} (ha : 0 ≤ a) : ∀ (L : List Int) (s : Int → Int), 0 ≤ s (232 + a) → seg (sE a s L) (237 + 140 * a + s (232 + a)) L.length = L := by
  intro L
  induction L with
  | nil => intro s _; rfl
  | cons c L ih =>
    intro s h0
    have e := ih (emF a s c) (by rw [em_n]; omega)
    rw [em_n, show 237 + 140 * a + (s (232 + a) + 1) = 237 + 140 * a + s (232 + a) + 1 by omega] at e
    rw [sE, List.length_cons, seg, e, sE_o _ _ _ (by omega) (by rw [em_n]; omega)]
    unfold emF
    rw [up_ne (by omega), up_eq]
theorem sE_up {a n : Int} (ha : 0 ≤ a ∧ a ≤ 4) : ∀ (L : List Int) (s : Int → Int), 0 ≤ s (232 + a) → up (sE a s L) (227 + a) n = sE a (up s (227 + a) n) L := by
  intro L
  induction L with
  | nil => intro s _; rfl
  | cons c L ih =>
    intro s h0
    have e : emF a (up s (227 + a) n) c = up (emF a s c) (227 + a) n := by
      unfold emF
      rw [up_ne (show ¬ 232 + a = 227 + a by omega)]
      funext k
      unfold up
      by_cases k1 : k = 232 + a
      · rw [if_pos k1, if_neg (by omega), if_pos k1]
      · rw [if_neg k1]
        by_cases k2 : k = 237 + 140 * a + s (232 + a)
        · rw [if_pos k2, if_neg (by omega), if_neg k1, if_pos k2]
        · rw [if_neg k2]
          by_cases k3 : k = 227 + a
          · rw [if_pos k3, if_pos k3]
          · rw [if_neg k3, if_neg k3, if_neg k1, if_neg k2]
    show up (sE a (emF a s c) L) (227 + a) n = sE a (emF a (up s (227 + a) n) c) L
    rw [ih _ (by rw [em_n]; omega), e]
def kE : (Int → Int) → Int → List Int → (Int → Int)
  | C, _, [] => C
  | C, n, c :: L => kE (up C n c) (n + 1) L
theorem kE_app : ∀ (L L' : List Int) (C : Int → Int) (n : Int), kE C n (L ++ L') = kE (kE C n L) (n + L.length) L' := by
  intro L
  induction L with
  | nil => intro L' C n; show kE C n L' = kE C (n + ((0 : Nat) : Int)) L'; rw [show n + ((0 : Nat) : Int) = n by omega]
  | cons c L ih => intro L' C n; show kE (up C n c) (n + 1) (L ++ L') = _; rw [ih, List.length_cons, show n + 1 + (L.length : Int) = n + ((L.length + 1 : Nat) : Int) by omega]; rfl
theorem kE_o : ∀ (L : List Int) (C : Int → Int) (n k : Int), (k < n ∨ n + L.length ≤ k) → kE C n L k = C k := by
  intro L
  induction L with
  | nil => intro C n k _; rfl
  | cons c L ih =>
    intro C n k h
    rw [List.length_cons] at h
    rw [kE, ih _ _ _ (by omega), up_ne (by omega)]
theorem kE_seg : ∀ (L : List Int) (C : Int → Int) (n : Int), seg (kE C n L) n L.length = L := by
  intro L
  induction L with
  | nil => intro C n; rfl
  | cons c L ih =>
    intro C n
    rw [kE, List.length_cons, seg, ih, kE_o _ _ _ _ (by omega), up_eq]
/-- the texts that are constants -/
def qSt (G : MG) (h : MH) : Prop := ∀ i, i < 12 → ∃ (v : Nat) (f : Nat → Int), G.2.2.2 (G.2.1 i) = some v ∧ h.2.2 v = some (cArr 10 (sL i) f) ∧ (∀ j, j < sL i → f j = sB i j) ∧ v < G.1
theorem xr0 {v : Nat} {K : V → Prop} : xRoS 0 (some v) K = K (vR v) := rfl
theorem xr1 {v : Nat} {K : V → Prop} : xRoS 1 (some v) K = K (vI 0) := rfl
def chkS : Bool := (List.range 12).all (fun i => decide (sL i ≤ 6) && decide (1 ≤ sL i) && decide (iBin 7 (sL i : Int) 0 = sL i) && (List.range 6).all (fun j => decide (0 ≤ sB i j) && decide (sB i j ≤ 127) && decide (iBin 3 (sB i j) 255 = sB i j) && decide (i2cF (sB i j) = sB i j)))
theorem chkS_t : chkS = true := by decide +kernel
theorem sL_b {i : Nat} (hi : i < 12) : sL i ≤ 6 ∧ 1 ≤ sL i ∧ iBin 7 (sL i : Int) 0 = sL i := by
  have h := List.all_eq_true.mp chkS_t i (List.mem_range.mpr hi)
  simp only [Bool.and_eq_true, decide_eq_true_eq] at h
  exact ⟨h.1.1.1, h.1.1.2, h.1.2⟩
theorem sB_b {i j : Nat} (hi : i < 12) (hj : j < sL i) : (0 ≤ sB i j ∧ sB i j ≤ 127) ∧ iBin 3 (sB i j) 255 = sB i j ∧ i2cF (sB i j) = sB i j := by
  have h := List.all_eq_true.mp chkS_t i (List.mem_range.mpr hi)
  simp only [Bool.and_eq_true, decide_eq_true_eq] at h
  have h2 := List.all_eq_true.mp h.2 j (List.mem_range.mpr (by omega))
  simp only [Bool.and_eq_true, decide_eq_true_eq] at h2
  exact ⟨⟨h2.1.1.1, h2.1.1.2⟩, h2.1.2, h2.2⟩
theorem sB_w {i j : Nat} (hj : j < (wS i).length) : (wS i).drop j = sB i j :: (wS i).drop (j + 1) := by
  rw [List.drop_eq_getElem_cons hj]
  congr 1
  show _ = (wS i).getD j 0
  rw [List.getD_eq_getElem?_getD, List.getElem?_eq_getElem hj]
  rfl
def chkB8 : Bool := (List.range 128).all (fun x => decide (i2bF (x : Int) = x) && decide (i2cF (x : Int) = x))
theorem chkB8_t : chkB8 = true := by decide +kernel
theorem i2_of {x : Int} (h : 0 ≤ x ∧ x ≤ 127) : i2bF x = x ∧ i2cF x = x := by
  have h2 := List.all_eq_true.mp chkB8_t x.toNat (List.mem_range.mpr (by omega))
  rw [Int.toNat_of_nonneg h.1] at h2
  simp only [Bool.and_eq_true, decide_eq_true_eq] at h2
  exact h2
section S1
variable {G : MG} {d : Nat} {h : MH} {Q : KQ}
theorem s_len (z : qSt G h) {i : Nat} (hi : i < 12) : wpC G (d + 2) 244 [vR (G.2.1 i)] h Q = Q (some (vI (sL i : Int))) h := by
  obtain ⟨v, f, z1, z2, z3, z4⟩ := z i hi
  rw [e244]
  simp (disch := omega) only [KK, Int.reduceEq, not_false_iff, ↓reduceIte, ↓if_pos, ↓if_neg, xt_o, true_and, nlO_i, nlO_n, nlO_r, List.length_nil, List.length_cons, Nat.reduceAdd, Nat.reduceLeDiff, Nat.zero_le, U244, e245, U245, z1, z2, xr0, xr1, xl_a, (sL_b hi).2.2, Int.reduceLE, Int.reduceLT]
theorem s_lat (z : qSt G h) {i : Nat} (hi : i < 12) : wpC G (d + 1) 247 [vR (G.2.1 i)] h Q = Q (some (vI 1)) h := by
  obtain ⟨v, f, z1, z2, z3, z4⟩ := z i hi
  rw [e247]
  simp (disch := omega) only [KK, Int.reduceEq, not_false_iff, ↓reduceIte, ↓if_pos, ↓if_neg, xt_o, true_and, nlO_i, nlO_n, nlO_r, List.length_nil, List.length_cons, Nat.reduceAdd, Nat.reduceLeDiff, Nat.zero_le, U247, z1, z2, xr0, xr1, true_or, or_true]
theorem s_chr (z : qSt G h) {i j : Nat} (hi : i < 12) (hj : j < sL i) : wpC G (d + 4) 246 [vR (G.2.1 i), vI (j : Int)] h Q = Q (some (vI (sB i j))) h := by
  have hl := fun (K : KQ) => s_lat (G := G) (d := d + 2) (Q := K) z hi
  obtain ⟨v, f, z1, z2, z3, z4⟩ := z i hi
  have hb := sB_b hi hj
  have hc := fun (K : KQ) => j_chk (G := G) (d := d) (h := h) (Q := K) (i := (j : Int)) (n := (sL i : Int)) (r := G.2.2.1) (by omega)
  have hf : f j = sB i j := z3 j hj
  have hq : (0 ≤ sB i j ∧ sB i j < 65536) = True := eq_true (by omega)
  rw [e246]
  simp (disch := omega) only [KK, Int.reduceEq, not_false_iff, ↓reduceIte, ↓if_pos, ↓if_neg, xt_o, true_and, nlO_i, nlO_n, nlO_r, List.length_nil, List.length_cons, Nat.reduceAdd, Nat.reduceLeDiff, Nat.zero_le, U246, e252, U252, e248, U248, z1, z2, xr0, xr1, hl, hc, xl_a, xa_b, Int.toNat_natCast, hf, hb.2.1, hb.2.2, hq]
theorem s_idx_l {x : Int} {i v : Nat} {f : Nat → Int} (hi : i < 12) (hx : 0 ≤ x ∧ x ≤ 127) (hv : h.2.2 v = some (cArr 10 (sL i) f)) (hf : ∀ j, j < sL i → f j = sB i j) {l1 l2 : Option V} : ∀ (n j : Nat), j + n = sL i → wp G d 255 7 [some (vR v), l1, l2, some (vI (sL i : Int)), some (vI x), some (vI (j : Int))] [] h Q = Q (some (vI (ofF x ((wS i).drop j) j))) h := by
  have hL := sL_b hi
  intro n
  induction n with
  | zero =>
    intro j hj
    have e : (wS i).drop j = [] := List.drop_eq_nil_of_le (by show sL i ≤ j; omega)
    rw [e, ofF, u255_7]
    simp (disch := omega) only [KK, Int.reduceEq, not_false_iff, ↓reduceIte, ↓if_pos, ↓if_neg, xt_o, true_and, nlO_i, nlO_n, nlO_r, List.length_nil, List.length_cons, Nat.reduceAdd, Nat.reduceLeDiff, Nat.zero_le, U255]
  | succ n ih =>
    intro j hj
    have hb := sB_b hi (show j < sL i by omega)
    rw [sB_w (show j < sL i by omega), ofF, u255_7]
    have e1 : f j = sB i j := hf j (by omega)
    by_cases c : x = sB i j
    · rw [if_pos c]
      simp (disch := omega) only [KK, Int.reduceEq, not_false_iff, ↓reduceIte, ↓if_pos, ↓if_neg, xt_o, true_and, nlO_i, nlO_n, nlO_r, List.length_nil, List.length_cons, Nat.reduceAdd, Nat.reduceLeDiff, Nat.zero_le, U255, hv, xa_b, Int.toNat_natCast, e1, c]
    · rw [if_neg c]
      have ih' := ih (j + 1) (by omega)
      rw [show ((j + 1 : Nat) : Int) = (j : Int) + 1 by omega] at ih'
      have c' : ¬ sB i j = x := fun q => c q.symm
      rw [← ih']
      simp (disch := omega) only [KK, Int.reduceEq, not_false_iff, ↓reduceIte, ↓if_pos, ↓if_neg, xt_o, true_and, nlO_i, nlO_n, nlO_r, List.length_nil, List.length_cons, Nat.reduceAdd, Nat.reduceLeDiff, Nat.zero_le, U255, hv, xa_b, Int.toNat_natCast, e1, c', ar_add]
theorem s_idx (z : qSt G h) {i : Nat} (hi : i < 12) {x : Int} (hx : 0 ≤ x ∧ x ≤ 127) : wpC G (d + 4) 249 [vR (G.2.1 i), vI x] h Q = Q (some (vI (ofS x i))) h := by
  have hl := fun (K : KQ) => s_lat (G := G) (d := d + 1) (Q := K) z hi
  have hn := fun (K : KQ) => s_len (G := G) (d := d) (Q := K) z hi
  obtain ⟨v, f, z1, z2, z3, z4⟩ := z i hi
  have hL := sL_b hi
  have hm := fun (K : KQ) => j_max (G := G) (d := d) (h := h) (Q := K) (a := 0) (b := 0)
  have hmi := fun (K : KQ) => j_min (G := G) (d := d) (h := h) (Q := K) (a := (sL i : Int)) (b := (sL i : Int))
  rw [Int.max_eq_right (Int.le_refl 0)] at hm
  rw [Int.min_eq_left (Int.le_refl _)] at hmi
  have hi' : ∀ (l1 l2 : Option V) (K : KQ), wp G d 255 7 [some (vR v), l1, l2, some (vI (sL i : Int)), some (vI x), some (vI 0)] [] h K = K (some (vI (ofS x i))) h := fun l1 l2 K => s_idx_l (G := G) (d := d) (h := h) (Q := K) (x := x) hi hx z2 z3 (l1 := l1) (l2 := l2) (sL i) 0 (by omega)
  rw [e249]
  simp (disch := omega) only [KK, Int.reduceEq, not_false_iff, ↓reduceIte, ↓if_pos, ↓if_neg, xt_o, true_and, nlO_i, nlO_n, nlO_r, List.length_nil, List.length_cons, Nat.reduceAdd, Nat.reduceLeDiff, Nat.zero_le, U249, e250, U250, e253, U253, e254, U254, e255, U255, hl, hn, hm, hmi, hi', z1, z2, xr0, xr1, xl_a, (i2_of hx).1, true_or, or_true]
theorem qSt_fr {Bs X : Nat → Prop} {h' : MH} (z : qSt G h) (f : qFr G.1 Bs X h h') (hX : ∀ a, X a → G.1 ≤ a) : qSt G h' := fun i hi => by
  obtain ⟨v, g, z1, z2, z3, z4⟩ := z i hi
  refine ⟨v, g, z1, ?_, z3, z4⟩
  rcases f.2 v _ z2 (fun q => by have := hX v q; omega) with q | ⟨-, y, y', e, -⟩
  · exact q
  · cases e
end S1
