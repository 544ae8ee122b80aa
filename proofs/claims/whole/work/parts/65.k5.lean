/-! fractions in lowest terms; odds, means; says, looked -/
def gcF : Nat → Int → Int → Int
  | 0, x, _ => x
  | n + 1, x, y => if y = 0 then x else gcF n y (x % y)
def chkG (up : Int) : Bool := (List.range 7).all (fun low => decide ((low : Int) = 0) || (decide (gcF 64 low up = gcF 64 up low) && decide (0 < gcF 64 up low) && decide (gcF 64 up low ≤ 2000)))
theorem chkG_all : (List.range 1201).all (fun n => chkG n) = true := by decide +kernel
theorem gc_of {u l : Int} (u0 : 0 ≤ u) (u1 : u ≤ 1200) (l0 : 1 ≤ l) (l1 : l ≤ 6) : gcF 64 l u = gcF 64 u l ∧ 0 < gcF 64 u l ∧ gcF 64 u l ≤ 2000 := by
  have h := List.all_eq_true.mp chkG_all u.toNat (List.mem_range.mpr (by omega))
  rw [Int.toNat_of_nonneg u0] at h
  unfold chkG at h
  have h2 := List.all_eq_true.mp h l.toNat (List.mem_range.mpr (by omega))
  rw [Int.toNat_of_nonneg (show 0 ≤ l by omega)] at h2
  simp only [Bool.or_eq_true, Bool.and_eq_true, decide_eq_true_eq] at h2
  have h3 := h2.resolve_left (by omega)
  exact ⟨h3.1.1, h3.1.2, h3.2⟩
theorem gcF_fu : ∀ (n m : Nat) (x y : Int), 0 ≤ y → y.toNat < n → y.toNat < m → gcF n x y = gcF m x y
  | 0, _, _, _, _, h, _ => absurd h (Nat.not_lt_zero _)
  | _ + 1, 0, _, _, _, _, h => absurd h (Nat.not_lt_zero _)
  | n + 1, m + 1, x, y, y0, h1, h2 => by
    rw [gcF, gcF]
    by_cases c : y = 0
    · rw [if_pos c, if_pos c]
    · rw [if_neg c, if_neg c]
      have a := Int.emod_nonneg x c
      have b := Int.emod_lt_of_pos x (show 0 < y by omega)
      exact gcF_fu n m y (x % y) a (by omega) (by omega)
def LOWs (u l part : Int) : Int := (if part = 0 then u else l) / gcF 64 u l
theorem al_add {a b : Int} (h : -9223372036854775808 ≤ a + b ∧ a + b < 9223372036854775808) : lAdd a b = a + b := by
  show (Int64.ofInt a + Int64.ofInt b).toInt = _
  rw [← Int64.ofInt_add]
  exact i64i h
theorem al_div {a b : Int} (h : 0 ≤ a ∧ a < 2147483648 ∧ 0 < b ∧ b < 2147483648) : lDiv a b = a / b := by
  obtain ⟨h1, h2, h3, h4⟩ := h
  show (Int64.ofInt a / Int64.ofInt b).toInt = _
  rw [Int64.toInt_div, i64i ⟨by omega, by omega⟩, i64i ⟨by omega, by omega⟩, Int.tdiv_eq_ediv_of_nonneg h1]
  have q1 : 0 ≤ a / b := Int.ediv_nonneg h1 (Int.le_of_lt h3)
  have q2 : a / b ≤ a := Int.ediv_le_self _ h1
  exact Int.bmod_eq_of_le (by omega) (by omega)
theorem al_rem {a b : Int} (h : 0 ≤ a ∧ a < 2147483648 ∧ 0 < b ∧ b < 2147483648) : lRem a b = a % b := by
  have hd := al_div h
  obtain ⟨h1, h2, h3, h4⟩ := h
  unfold lDiv at hd
  have q1 : 0 ≤ a / b := Int.ediv_nonneg h1 (Int.le_of_lt h3)
  have q2 : a / b ≤ a := Int.ediv_le_self _ h1
  have e : Int64.ofInt a / Int64.ofInt b = Int64.ofInt (a / b) := by
    apply Int64.toInt_inj.mp
    rw [hd, i64i ⟨by omega, by omega⟩]
  show (Int64.ofInt a - Int64.ofInt a / Int64.ofInt b * Int64.ofInt b).toInt = _
  rw [e, ← Int64.ofInt_mul, ← Int64.ofInt_sub]
  have m1 := Int.emod_nonneg a (show b ≠ 0 by omega)
  have m2 := Int.emod_lt_of_pos a h3
  have m3 : a - a / b * b = a % b := by
    have := Int.emod_add_mul_ediv a b
    rw [Int.mul_comm] at this
    omega
  rw [m3]
  exact i64i ⟨by omega, by omega⟩
def odF (s : Int → Int) (hd f : Int) : Nat → Int → Int → Int
  | 0, _, a => a
  | n + 1, i, a => odF s hd f n (i + 1) (a + bt (CLIMB (up s (21 + i) 1) 0 hd).1 f)
def meF (s : Int → Int) : Nat → Int → Int → Int
  | 0, _, a => a
  | n + 1, i, a => meF s n (i + 1) (a + s (6 + i))
abbrev NOl : Int := -9223372036854775808
def aODDS (s : Int → Int) (hd f part : Int) : Int := if (0 ≤ hd ∧ hd ≤ 255) ∧ (0 ≤ f ∧ f ≤ 7) ∧ (0 ≤ part ∧ part ≤ 1) ∧ ¬ s 27 = 0 then LOWs (odF s hd f (s 27).toNat 0 0) (s 27) part else NOl
def aMEAN (s : Int → Int) (part : Int) : Int := if (0 ≤ part ∧ part ≤ 1) ∧ ¬ s 28 = 0 then LOWs (meF s (s 28).toNat 0 0) (s 28) part else NOl
theorem CLF_in {s : Int → Int} (ok : okW s) {way : Int} : ∀ (n : Nat) (k H S B : Int), 0 ≤ k → k + n = s 27 → 0 ≤ H → H ≤ 255 → 0 ≤ (CLF s way n k H S B).1 ∧ (CLF s way n k H S B).1 ≤ 255
  | 0, _, _, _, _, _, _, h0, h1 => ⟨h0, h1⟩
  | n + 1, k, H, S, B, k0, kn, h0, h1 => by
    have hp : 0 ≤ CLP s way k ∧ CLP s way k < s 27 := by
      unfold CLP
      split <;> omega
    have h2 : 0 ≤ clH s (CLP s way k) H B ∧ clH s (CLP s way k) H B ≤ 255 := by
      unfold clH
      split
      · have := SAYS_in (hd := H) (ok.1.2.2.2.1 _ hp.1 hp.2)
        exact or_in h0 h1 this.1 this.2
      · exact ⟨h0, h1⟩
    rw [CLF]
    exact CLF_in ok n (k + 1) _ _ _ (by omega) (by omega) h2.1 h2.2
theorem CLIMB_in {s : Int → Int} (ok : okW s) {way hd : Int} (hh : 0 ≤ hd ∧ hd ≤ 255) : 0 ≤ (CLIMB s way hd).1 ∧ (CLIMB s way hd).1 ≤ 255 := by
  have h27 := ok.1.2.2.1
  exact CLF_in ok _ 0 hd 0 (-5) (by omega) (by omega) hh.1 hh.2
theorem set_bt {x k : Int} (h0 : 0 ≤ x) (h1 : x ≤ 255) (k0 : 0 ≤ k) (k1 : k < 8) : bt x k = 0 ∨ bt x k = 1 := (set_k h0 h1 k0 k1).1
theorem upV {s : Int → Int} {i : Int} (i0 : 0 ≤ i) (i1 : i < 6) : eqV s (up s (21 + i) 1) := fun j hj => up_ne (by omega)
theorem up01 {s : Int → Int} (h01 : ∀ k, 0 ≤ k → k < 6 → s (21 + k) = 0 ∨ s (21 + k) = 1) {i : Int} : ∀ k, 0 ≤ k → k < 6 → up s (21 + i) 1 (21 + k) = 0 ∨ up s (21 + i) 1 (21 + k) = 1 := fun k k0 k1 => by
  by_cases e : k = i
  · rw [e, up_eq]; exact Or.inr rfl
  · rw [up_ne (by omega)]; exact h01 k k0 k1
theorem odF_in {s : Int → Int} (ok : okW s) {hd f : Int} (hh : 0 ≤ hd ∧ hd ≤ 255) (hf : 0 ≤ f ∧ f < 8) : ∀ (n : Nat) (i a : Int), 0 ≤ i → i + n = s 27 → a ≤ odF s hd f n i a ∧ odF s hd f n i a ≤ a + n
  | 0, _, a, _, _ => by rw [odF]; omega
  | n + 1, i, a, i0, hi => by
    have h27 := ok.1.2.2.1
    have hc := CLIMB_in (way := 0) (okW_V (upV i0 (show i < 6 by omega)) (up01 ok.2.2.2.2.1) ok) hh
    have hb := set_bt hc.1 hc.2 hf.1 hf.2
    have := odF_in ok hh hf n (i + 1) (a + bt (CLIMB (up s (21 + i) 1) 0 hd).1 f) (by omega) (by omega)
    rw [odF]
    omega
theorem meF_in {s : Int → Int} (ok : okW s) : ∀ (n : Nat) (i a : Int), 0 ≤ i → i + n = s 28 → a ≤ meF s n i a ∧ meF s n i a ≤ a + 200 * n
  | 0, _, a, _, _ => by rw [meF]; omega
  | n + 1, i, a, i0, hi => by
    have h28 := ok.1.2.1
    have h6 := (ok.2.2.2.2.2.2 i i0 (by omega)).2.2.1
    have := meF_in ok n (i + 1) (a + s (6 + i)) (by omega) (by omega)
    rw [meF]
    omega
section K6
variable {G : MG} {d : Nat} {Q : KQ} {h : MH}
theorem c_low_l {u l part : Int} : ∀ (n : Nat) (i x y : Int) (l6 : Option V), i + n = 64 → 0 ≤ i → 0 ≤ x → x ≤ 2000 → 0 ≤ y → y ≤ 2000 → nlO l6 = true → ∃ (i' y' : Int) (l6' : Option V), nlO l6' = true ∧ ∀ Q : KQ, wp G d 31 8 [some (vI u), some (vI l), some (vI part), some (vI x), some (vI y), some (vI i), l6] [] h Q = wp G d 31 39 [some (vI u), some (vI l), some (vI part), some (vI (gcF n x y)), some (vI y'), some (vI i'), l6'] [] h Q := by
  intro n
  induction n with
  | zero =>
    intro i x y l6 hi i0 x0 x1 y0 y1 n6
    refine ⟨i, y, l6, n6, fun Q => ?_⟩
    rw [gcF, u31_8, u31_10, u31_12, if_pos (by omega)]
  | succ n ih =>
    intro i x y l6 hi i0 x0 x1 y0 y1 n6
    rw [gcF]
    by_cases c : y = 0
    · rw [if_pos c]
      refine ⟨i, y, l6, n6, fun Q => ?_⟩
      rw [u31_8, u31_10, u31_12, if_neg (by omega), u31_15, u31_17, if_pos (by omega)]
    · rw [if_neg c]
      have a := Int.emod_nonneg x c
      have b := Int.emod_lt_of_pos x (show 0 < y by omega)
      obtain ⟨i', y', l6', q, ih⟩ := ih (i + 1) y (x % y) (some (vI (x % y))) (by omega) (by omega) y0 y1 a (by omega) rfl
      refine ⟨i', y', l6', q, fun Q => ?_⟩
      rw [← ih Q, u31_8, u31_10, u31_12, if_neg (by omega), u31_15, u31_17, if_neg (by omega)]
      generalize hW : wp G d 31 8 [some (vI u), some (vI l), some (vI part), some (vI y), some (vI (x % y)), some (vI (i + 1)), some (vI (x % y))] [] h Q = W
      simp only [u31_20, u31_21, u31_23, u31_24, u31_26, u31_28, u31_29, u31_31, u31_33, u31_36, n6, nlO_i, true_and]
      rw [ar_rem (by omega), ar_add (by omega)]
      exact (propext (and_iff_right (show ¬ y = 0 from c))).trans hW
theorem c_lowest {u l part : Int} (u0 : 0 ≤ u) (u1 : u ≤ 1200) (l0 : 1 ≤ l) (l1 : l ≤ 6) : wpC G (d + 1) 31 [vI u, vI l, vI part] h Q = Q (some (vL (LOWs u l part))) h := by
  obtain ⟨i', y', l6', q, hl⟩ := c_low_l (G := G) (d := d) (h := h) (u := u) (l := l) (part := part) 64 0 l u none rfl (by omega) (by omega) (by omega) u0 (by omega) rfl
  have g := gc_of u0 u1 l0 l1
  rw [g.1] at hl
  unfold LOWs
  have key : wp G d 31 0 [some (vI u), some (vI l), some (vI part), none, none, none, none] [] h Q = wp G d 31 8 [some (vI u), some (vI l), some (vI part), some (vI l), some (vI u), some (vI 0), none] [] h Q := by
    simp only [u31_0, u31_1, u31_2, u31_3, u31_5, u31_6, nlO_i, nlO_n, true_and]
  rw [e31, key, hl Q]
  have hd1 := ar_div (a := u) (b := gcF 64 u l) (by omega)
  have hd2 := ar_div (a := l) (b := gcF 64 u l) (by omega)
  have hnz : ¬ gcF 64 u l = 0 := by omega
  by_cases c : part = 0
  · rw [if_pos c]
    simp (disch := omega) only [KK, Int.reduceEq, not_false_iff, ↓reduceIte, ↓if_pos, ↓if_neg, xt_o, true_and, nlO_i, nlO_n, nlO_r, List.length_nil, List.length_cons, Nat.reduceAdd, Nat.reduceLeDiff, Nat.zero_le, U31, c, q, hd1, hnz]
  · rw [if_neg c]
    simp (disch := omega) only [KK, Int.reduceEq, not_false_iff, ↓reduceIte, ↓if_pos, ↓if_neg, xt_o, true_and, nlO_i, nlO_n, nlO_r, List.length_nil, List.length_cons, Nat.reduceAdd, Nat.reduceLeDiff, Nat.zero_le, U31, q, hd2, hnz]
theorem m_low_l {u l part : Int} : ∀ (n : Nat) (x y : Int) (l9 l10 : Option V), 0 ≤ x → x ≤ 2000 → 0 ≤ y → y ≤ 2000 → y.toNat < n → nlO l10 = true → ∃ (l9' l10' : Option V), nlO l10' = true ∧ ∀ Q : KQ, wp G d 205 17 [some (vL u), none, some (vL l), none, some (vI part), some (vL x), none, some (vL y), none, l9, l10] [] h Q = wp G d 205 42 [some (vL u), none, some (vL l), none, some (vI part), some (vL (gcF n x y)), none, some (vL 0), none, l9', l10'] [] h Q := by
  intro n
  induction n with
  | zero => intro x y l9 l10 x0 x1 y0 y1 h; exact absurd h (Nat.not_lt_zero _)
  | succ n ih =>
    intro x y l9 l10 x0 x1 y0 y1 hn n10
    rw [gcF]
    by_cases c : y = 0
    · rw [if_pos c]
      refine ⟨l9, l10, n10, fun Q => ?_⟩
      subst c
      have e : lCmp 0 0 = 0 := by decide
      rw [u205_17, u205_19, u205_20, e, u205_21, if_pos rfl]
    · rw [if_neg c]
      have a := Int.emod_nonneg x c
      have b := Int.emod_lt_of_pos x (show 0 < y by omega)
      obtain ⟨l9', l10', q, ih⟩ := ih y (x % y) (some (vL (x % y))) none y0 y1 a (by omega) (by omega) rfl
      refine ⟨l9', l10', q, fun Q => ?_⟩
      have e : lCmp y 0 = 1 := by
        unfold lCmp
        rw [if_neg (by omega), if_neg c]
      rw [← ih Q]
      generalize hW : wp G d 205 17 [some (vL u), none, some (vL l), none, some (vI part), some (vL y), none, some (vL (x % y)), none, some (vL (x % y)), none] [] h Q = W
      rw [u205_17, u205_19, u205_20, e, u205_21, if_neg (by decide)]
      simp only [u205_24, u205_26, u205_28, u205_29, u205_31, u205_33, u205_35, u205_37, u205_39, n10, nlO_i, nlO_n, true_and]
      rw [al_rem (by omega)]
      exact (propext (and_iff_right (show ¬ y = 0 from c))).trans hW
theorem m_lowest {u l part : Int} (u0 : 0 ≤ u) (u1 : u ≤ 1200) (l0 : 1 ≤ l) (l1 : l ≤ 6) : wpC G (d + 1) 205 [vL u, vL l, vI part] h Q = Q (some (vL (LOWs u l part))) h := by
  obtain ⟨l9', l10', q, hl⟩ := m_low_l (G := G) (d := d) (h := h) (u := u) (l := l) (part := part) 64 u l none none u0 (by omega) (by omega) (by omega) (by omega) rfl
  have g := gc_of u0 u1 l0 l1
  unfold LOWs
  have e : 0 ≤ lCmp u 0 := by
    unfold lCmp
    rw [if_neg (by omega)]
    split <;> omega
  have key : wp G d 205 0 [some (vL u), none, some (vL l), none, some (vI part), none, none, none, none, none, none] [] h Q = wp G d 205 17 [some (vL u), none, some (vL l), none, some (vI part), some (vL u), none, some (vL l), none, none, none] [] h Q := by
    generalize hW : wp G d 205 17 [some (vL u), none, some (vL l), none, some (vI part), some (vL u), none, some (vL l), none, none, none] [] h Q = W
    rw [u205_0, u205_1, u205_2, u205_3, if_pos e]
    simp only [u205_11, u205_12, u205_14, u205_15, nlO_i, nlO_n, true_and]
    exact hW
  rw [e205, key, hl Q]
  have hd1 := al_div (a := u) (b := gcF 64 u l) (by omega)
  have hd2 := al_div (a := l) (b := gcF 64 u l) (by omega)
  have hnz : ¬ gcF 64 u l = 0 := by omega
  by_cases c : part = 0
  · rw [if_pos c, u205_42, u205_44, if_neg (fun z => z c)]
    simp only [u205_47, u205_48, u205_52, u205_54, u205_55, hd1, hnz, not_false_iff, true_and]
  · rw [if_neg c, u205_42, u205_44, if_pos c]
    simp only [u205_51, u205_52, u205_54, u205_55, hd2, hnz, not_false_iff, true_and]
end K6
