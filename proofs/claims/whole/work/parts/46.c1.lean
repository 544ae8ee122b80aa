/-! the class's small methods -/
theorem ok50_2 : okSet 50 2 = true := rfl
theorem ok50_3 : okSet 50 3 = true := rfl
theorem ok50_4 : okSet 50 4 = true := rfl
theorem ok50_5 : okSet 50 5 = true := rfl
theorem ok50_6 : okSet 50 6 = true := rfl
theorem ok50_8 : okSet 50 8 = true := rfl
theorem ok50_9 : okSet 50 9 = true := rfl
theorem ok51_2 : okSet 51 2 = false := rfl
theorem ok51_3 : okSet 51 3 = false := rfl
theorem ok51_4 : okSet 51 4 = true := rfl
theorem ok51_5 : okSet 51 5 = false := rfl
theorem ok51_6 : okSet 51 6 = true := rfl
theorem ok51_8 : okSet 51 8 = false := rfl
theorem ok51_9 : okSet 51 9 = false := rfl
theorem ok52_2 : okSet 52 2 = false := rfl
theorem ok52_3 : okSet 52 3 = true := rfl
theorem ok52_4 : okSet 52 4 = false := rfl
theorem ok52_5 : okSet 52 5 = true := rfl
theorem ok52_6 : okSet 52 6 = false := rfl
theorem ok52_8 : okSet 52 8 = false := rfl
theorem ok52_9 : okSet 52 9 = false := rfl
theorem ok53_2 : okSet 53 2 = false := rfl
theorem ok53_3 : okSet 53 3 = false := rfl
theorem ok53_4 : okSet 53 4 = false := rfl
theorem ok53_5 : okSet 53 5 = false := rfl
theorem ok53_6 : okSet 53 6 = false := rfl
theorem ok53_8 : okSet 53 8 = true := rfl
theorem ok53_9 : okSet 53 9 = true := rfl
theorem ok0_0 : okSet 0 0 = true := rfl
theorem ok1_1 : okSet 1 1 = true := rfl
theorem ok2_2 : okSet 2 2 = true := rfl
theorem ok2_3 : okSet 2 3 = false := rfl
theorem ok2_4 : okSet 2 4 = false := rfl
theorem ok2_5 : okSet 2 5 = false := rfl
theorem ok2_6 : okSet 2 6 = false := rfl
theorem ok2_8 : okSet 2 8 = false := rfl
theorem ok2_9 : okSet 2 9 = false := rfl
theorem ok3_2 : okSet 3 2 = false := rfl
theorem ok3_3 : okSet 3 3 = true := rfl
theorem ok3_4 : okSet 3 4 = false := rfl
theorem ok3_5 : okSet 3 5 = false := rfl
theorem ok3_6 : okSet 3 6 = false := rfl
theorem ok3_8 : okSet 3 8 = false := rfl
theorem ok3_9 : okSet 3 9 = false := rfl
theorem ok4_2 : okSet 4 2 = false := rfl
theorem ok4_3 : okSet 4 3 = false := rfl
theorem ok4_4 : okSet 4 4 = true := rfl
theorem ok4_5 : okSet 4 5 = false := rfl
theorem ok4_6 : okSet 4 6 = false := rfl
theorem ok4_8 : okSet 4 8 = false := rfl
theorem ok4_9 : okSet 4 9 = false := rfl
theorem ok5_2 : okSet 5 2 = false := rfl
theorem ok5_3 : okSet 5 3 = false := rfl
theorem ok5_4 : okSet 5 4 = false := rfl
theorem ok5_5 : okSet 5 5 = true := rfl
theorem ok5_6 : okSet 5 6 = false := rfl
theorem ok5_8 : okSet 5 8 = false := rfl
theorem ok5_9 : okSet 5 9 = false := rfl
theorem ok6_2 : okSet 6 2 = false := rfl
theorem ok6_3 : okSet 6 3 = false := rfl
theorem ok6_4 : okSet 6 4 = false := rfl
theorem ok6_5 : okSet 6 5 = false := rfl
theorem ok6_6 : okSet 6 6 = true := rfl
theorem ok6_8 : okSet 6 8 = false := rfl
theorem ok6_9 : okSet 6 9 = false := rfl
theorem ok7_7 : okSet 7 7 = true := rfl
theorem ok8_2 : okSet 8 2 = false := rfl
theorem ok8_3 : okSet 8 3 = false := rfl
theorem ok8_4 : okSet 8 4 = false := rfl
theorem ok8_5 : okSet 8 5 = false := rfl
theorem ok8_6 : okSet 8 6 = false := rfl
theorem ok8_8 : okSet 8 8 = true := rfl
theorem ok8_9 : okSet 8 9 = false := rfl
theorem ok9_2 : okSet 9 2 = false := rfl
theorem ok9_3 : okSet 9 3 = false := rfl
theorem ok9_4 : okSet 9 4 = false := rfl
theorem ok9_5 : okSet 9 5 = false := rfl
theorem ok9_6 : okSet 9 6 = false := rfl
theorem ok9_8 : okSet 9 8 = false := rfl
theorem ok9_9 : okSet 9 9 = true := rfl
theorem ok10_10 : okSet 10 10 = true := rfl
theorem ok11_11 : okSet 11 11 = true := rfl
theorem ok12_12 : okSet 12 12 = true := rfl
theorem ok13_13 : okSet 13 13 = true := rfl
theorem at_2 : auntT 2 = true := rfl
theorem at_3 : auntT 3 = true := rfl
theorem at_4 : auntT 4 = true := rfl
theorem at_5 : auntT 5 = true := rfl
theorem at_6 : auntT 6 = true := rfl
theorem at_8 : auntT 8 = true := rfl
theorem at_9 : auntT 9 = true := rfl
theorem lt14_0 : (0 < 14) = True := eq_true (by decide)
theorem lt14_1 : (1 < 14) = True := eq_true (by decide)
theorem lt14_2 : (2 < 14) = True := eq_true (by decide)
theorem lt14_3 : (3 < 14) = True := eq_true (by decide)
theorem lt14_4 : (4 < 14) = True := eq_true (by decide)
theorem lt14_5 : (5 < 14) = True := eq_true (by decide)
theorem lt14_6 : (6 < 14) = True := eq_true (by decide)
theorem lt14_7 : (7 < 14) = True := eq_true (by decide)
theorem lt14_8 : (8 < 14) = True := eq_true (by decide)
theorem lt14_9 : (9 < 14) = True := eq_true (by decide)
theorem lt14_10 : (10 < 14) = True := eq_true (by decide)
theorem lt14_11 : (11 < 14) = True := eq_true (by decide)
theorem lt14_12 : (12 < 14) = True := eq_true (by decide)
theorem lt14_13 : (13 < 14) = True := eq_true (by decide)
def OKS := And.intro ok50_2 (And.intro ok50_3 (And.intro ok50_4 (And.intro ok50_5 (And.intro ok50_6 (And.intro ok50_8 (And.intro ok50_9 (And.intro ok51_2 (And.intro ok51_3 (And.intro ok51_4 (And.intro ok51_5 (And.intro ok51_6 (And.intro ok51_8 (And.intro ok51_9 (And.intro ok52_2 (And.intro ok52_3 (And.intro ok52_4 (And.intro ok52_5 (And.intro ok52_6 (And.intro ok52_8 (And.intro ok52_9 (And.intro ok53_2 (And.intro ok53_3 (And.intro ok53_4 (And.intro ok53_5 (And.intro ok53_6 (And.intro ok53_8 (And.intro ok53_9 (And.intro ok0_0 (And.intro ok1_1 (And.intro ok2_2 (And.intro ok2_3 (And.intro ok2_4 (And.intro ok2_5 (And.intro ok2_6 (And.intro ok2_8 (And.intro ok2_9 (And.intro ok3_2 (And.intro ok3_3 (And.intro ok3_4 (And.intro ok3_5 (And.intro ok3_6 (And.intro ok3_8 (And.intro ok3_9 (And.intro ok4_2 (And.intro ok4_3 (And.intro ok4_4 (And.intro ok4_5 (And.intro ok4_6 (And.intro ok4_8 (And.intro ok4_9 (And.intro ok5_2 (And.intro ok5_3 (And.intro ok5_4 (And.intro ok5_5 (And.intro ok5_6 (And.intro ok5_8 (And.intro ok5_9 (And.intro ok6_2 (And.intro ok6_3 (And.intro ok6_4 (And.intro ok6_5 (And.intro ok6_6 (And.intro ok6_8 (And.intro ok6_9 (And.intro ok7_7 (And.intro ok8_2 (And.intro ok8_3 (And.intro ok8_4 (And.intro ok8_5 (And.intro ok8_6 (And.intro ok8_8 (And.intro ok8_9 (And.intro ok9_2 (And.intro ok9_3 (And.intro ok9_4 (And.intro ok9_5 (And.intro ok9_6 (And.intro ok9_8 (And.intro ok9_9 (And.intro ok10_10 (And.intro ok11_11 (And.intro ok12_12 (And.intro ok13_13 (And.intro at_2 (And.intro at_3 (And.intro at_4 (And.intro at_5 (And.intro at_6 (And.intro at_8 (And.intro at_9 (And.intro lt14_0 (And.intro lt14_1 (And.intro lt14_2 (And.intro lt14_3 (And.intro lt14_4 (And.intro lt14_5 (And.intro lt14_6 (And.intro lt14_7 (And.intro lt14_8 (And.intro lt14_9 (And.intro lt14_10 (And.intro lt14_11 (And.intro lt14_12 (lt14_13))))))))))))))))))))))))))))))))))))))))))))))))))))))))))))))))))))))))))))))))))))))))))))))))))))))))
def bc1 (x : Int) : Int := iBin 1 x (iBin 3 (iBin 8 x 1) 1431655765)
def bc2 (x : Int) : Int := iBin 0 (iBin 3 x 858993459) (iBin 3 (iBin 8 x 2) 858993459)
def bc3 (x : Int) : Int := iBin 3 (iBin 0 x (iBin 8 x 4)) 252645135
def bc4 (x : Int) : Int := iBin 0 x (iBin 8 x 8)
def bc5 (x : Int) : Int := iBin 0 x (iBin 8 x 16)
def bcF (x : Int) : Int := iBin 3 (bc5 (bc4 (bc3 (bc2 (bc1 x))))) 63
theorem bc_all : (List.range 256).all (fun n => decide (bcF n = cnt n)) = true := by decide +kernel
theorem bc_of {x : Int} (h : 0 ≤ x ∧ x ≤ 255) : bcF x = cnt x := by
  have := List.all_eq_true.mp bc_all x.toNat (List.mem_range.mpr (by omega))
  rw [Int.toNat_of_nonneg h.1] at this
  exact of_decide_eq_true this
/-- facts of f or above; those below f -/
def hiF (x f : Int) : Int := iBin 3 x (iBin 6 (-1) f)
def loF (x f : Int) : Int := iBin 3 x (iBin 1 (iBin 6 1 f) 1)
def chkHi (x : Int) : Bool := (List.range 8).all (fun k =>
  (if bt x k = 1 then decide (pickF (fun _ => 0) (hiF x k) 0 8 0 (-1) = k) && decide (iBin 3 (hiF x k) (iBin 5 (iBin 6 1 k) (-1)) = hiF x (k + 1)) && decide (¬ hiF x k = 0) else decide (hiF x (k + 1) = hiF x k)) &&
  (if bt x k = 1 then decide (pickF (fun _ => 0) (loF x (k + 1)) 2 8 0 (-1) = k) && decide (iBin 3 (loF x (k + 1)) (iBin 5 (iBin 6 1 k) (-1)) = loF x k) && decide (¬ loF x (k + 1) = 0) else decide (loF x (k + 1) = loF x k)) &&
  (decide (¬ bt x k = 1) || decide (cnt (iBin 3 x (iBin 5 (iBin 6 1 k) (-1))) = cnt x - 1))) && decide (hiF x 0 = x) && decide (hiF x 8 = 0) && decide (loF x 8 = x) && decide (loF x 0 = 0) && (decide (x = 0) || decide (¬ cnt x = 0))
theorem chkHi_all : (List.range 256).all (fun n => chkHi n) = true := by decide +kernel
theorem hi_of {x : Int} (h0 : 0 ≤ x) (h1 : x ≤ 255) : chkHi x = true := by
  have := List.all_eq_true.mp chkHi_all x.toNat (List.mem_range.mpr (by omega))
  rw [Int.toNat_of_nonneg h0] at this
  exact this
theorem hi_ends {x : Int} (h0 : 0 ≤ x) (h1 : x ≤ 255) : hiF x 0 = x ∧ hiF x 8 = 0 ∧ loF x 8 = x ∧ loF x 0 = 0 ∧ (x = 0 ∨ ¬ cnt x = 0) := by
  have h := hi_of h0 h1
  unfold chkHi at h
  simp only [Bool.and_eq_true, Bool.or_eq_true, decide_eq_true_eq] at h
  exact ⟨h.1.1.1.1.2, h.1.1.1.2, h.1.1.2, h.1.2, h.2⟩
theorem hi_at {x k : Int} (h0 : 0 ≤ x) (h1 : x ≤ 255) (k0 : 0 ≤ k) (k1 : k < 8) :
    ((bt x k = 1 → pickF (fun _ => 0) (hiF x k) 0 8 0 (-1) = k ∧ iBin 3 (hiF x k) (iBin 5 (iBin 6 1 k) (-1)) = hiF x (k + 1) ∧ ¬ hiF x k = 0) ∧ (¬ bt x k = 1 → hiF x (k + 1) = hiF x k)) ∧
    ((bt x k = 1 → pickF (fun _ => 0) (loF x (k + 1)) 2 8 0 (-1) = k ∧ iBin 3 (loF x (k + 1)) (iBin 5 (iBin 6 1 k) (-1)) = loF x k ∧ ¬ loF x (k + 1) = 0) ∧ (¬ bt x k = 1 → loF x (k + 1) = loF x k)) ∧
    (bt x k = 1 → cnt (iBin 3 x (iBin 5 (iBin 6 1 k) (-1))) = cnt x - 1) := by
  have h := hi_of h0 h1
  unfold chkHi at h
  simp only [Bool.and_eq_true, List.all_eq_true] at h
  have h2 := h.1.1.1.1.1 k.toNat (List.mem_range.mpr (by omega))
  rw [Int.toNat_of_nonneg k0] at h2
  by_cases e : bt x k = 1
  · simp only [if_pos e, Bool.and_eq_true, Bool.or_eq_true, decide_eq_true_eq] at h2
    exact ⟨⟨fun _ => ⟨h2.1.1.1.1, h2.1.1.1.2, h2.1.1.2⟩, fun z => absurd e z⟩, ⟨fun _ => ⟨h2.1.2.1.1, h2.1.2.1.2, h2.1.2.2⟩, fun z => absurd e z⟩, fun _ => h2.2.resolve_left (fun z => z e)⟩
  · simp only [if_neg e, Bool.and_eq_true, Bool.or_eq_true, decide_eq_true_eq] at h2
    exact ⟨⟨fun z => absurd z e, fun _ => h2.1.1⟩, ⟨fun z => absurd z e, fun _ => h2.1.2⟩, fun z => absurd z e⟩
theorem pickF_s {s s' : Int → Int} {rest how : Int} (hh : ¬ how = 1) : ∀ (n : Nat) (f b : Int), pickF s rest how n f b = pickF s' rest how n f b
  | 0, _, _ => rfl
  | n + 1, f, b => by
    rw [pickF, pickF, pickF_s (s := s) (s' := s') hh n]
    have e : (bt rest f = 1 ∧ btr s how b f) ↔ (bt rest f = 1 ∧ btr s' how b f) := by
      unfold btr
      constructor
      · rintro ⟨a, c | c | c⟩
        · exact ⟨a, Or.inl c⟩
        · exact ⟨a, Or.inr (Or.inl c)⟩
        · exact absurd c.1 hh
      · rintro ⟨a, c | c | c⟩
        · exact ⟨a, Or.inl c⟩
        · exact ⟨a, Or.inr (Or.inl c)⟩
        · exact absurd c.1 hh
    simp only [e]
/-- the least first: as the class goes -/
def caF (x : Int) : Nat → Int → Int → Int → Int
  | 0, _, p, _ => p
  | n + 1, f, p, r => if 0 < r then (if bt x f = 1 then caF x n (f + 1) (iBin 4 p (iBin 6 1 f)) (r - 1) else caF x n (f + 1) p r) else p
/-- the greatest first -/
def cdF (x : Int) : Nat → Int → Int → Int
  | 0, p, _ => p
  | n + 1, p, r => if 0 < r then (if bt x n = 1 then cdF x n (iBin 4 p (iBin 6 1 n)) (r - 1) else cdF x n p r) else p
theorem caF_cho {s : Int → Int} {x many : Int} (h0 : 0 ≤ x) (h1 : x ≤ 255) : ∀ (n : Nat) (f p c : Int) (k : Nat), f + n = 8 → 0 ≤ c → c ≤ f → n < k → caF x n f p (many - c) = choF s many 0 k (hiF x f) p c
  | 0, f, p, c, k, hf, c0, c1, hk => by
    have : f = 8 := by omega
    subst this
    rw [(hi_ends h0 h1).2.1, caF]
    match k, hk with
    | k + 1, _ => rw [choF, if_neg (fun z => z.2 rfl)]
  | n + 1, f, p, c, k, hf, c0, c1, hk => by
    obtain ⟨⟨ha, hb⟩, -, -⟩ := hi_at h0 h1 (show 0 ≤ f by omega) (show f < 8 by omega)
    rw [caF]
    by_cases e : bt x f = 1
    · obtain ⟨a1, a2, a3⟩ := ha e
      match k, hk with
      | k + 1, hk =>
        rw [choF]
        by_cases e2 : c < many
        · have hp : pick s (hiF x f) 0 = f := (pickF_s (by omega) 8 0 (-1)).trans a1
          rw [if_pos (show 0 < many - c by omega), if_pos e, if_pos ⟨e2, a3⟩, hp, a2, ar_add (by omega), show many - c - 1 = many - (c + 1) by omega]
          exact caF_cho h0 h1 n (f + 1) _ (c + 1) k (by omega) (by omega) (by omega) (by omega)
        · rw [if_neg (show ¬ 0 < many - c by omega), if_neg (fun z => e2 z.1)]
    · rw [if_neg e, ← hb e]
      by_cases e2 : c < many
      · rw [if_pos (show 0 < many - c by omega)]
        exact caF_cho h0 h1 n (f + 1) p c k (by omega) (by omega) (by omega) (by omega)
      · rw [if_neg (show ¬ 0 < many - c by omega)]
        match k, hk with
        | k + 1, hk => rw [choF, if_neg (fun z => e2 z.1)]
theorem cdF_cho {s : Int → Int} {x many : Int} (h0 : 0 ≤ x) (h1 : x ≤ 255) : ∀ (n : Nat) (p c : Int) (k : Nat), n ≤ 8 → 0 ≤ c → c ≤ 8 - n → n < k → cdF x n p (many - c) = choF s many 2 k (loF x n) p c
  | 0, p, c, k, hf, c0, c1, hk => by
    rw [show ((0 : Nat) : Int) = 0 from rfl, (hi_ends h0 h1).2.2.2.1, cdF]
    match k, hk with
    | k + 1, _ => rw [choF, if_neg (fun z => z.2 rfl)]
  | n + 1, p, c, k, hf, c0, c1, hk => by
    obtain ⟨-, ⟨ha, hb⟩, -⟩ := hi_at h0 h1 (show 0 ≤ (n : Int) by omega) (show (n : Int) < 8 by omega)
    rw [cdF, show ((n + 1 : Nat) : Int) = (n : Int) + 1 by omega]
    by_cases e : bt x n = 1
    · obtain ⟨a1, a2, a3⟩ := ha e
      match k, hk with
      | k + 1, hk =>
        rw [choF]
        by_cases e2 : c < many
        · have hp : pick s (loF x (n + 1)) 2 = n := (pickF_s (by omega) 8 0 (-1)).trans a1
          rw [if_pos (show 0 < many - c by omega), if_pos e, if_pos ⟨e2, a3⟩, hp, a2, ar_add (by omega), show many - c - 1 = many - (c + 1) by omega]
          exact cdF_cho h0 h1 n _ (c + 1) k (by omega) (by omega) (by omega) (by omega)
        · rw [if_neg (show ¬ 0 < many - c by omega), if_neg (fun z => e2 z.1)]
    · rw [if_neg e, hb e]
      by_cases e2 : c < many
      · rw [if_pos (show 0 < many - c by omega)]
        exact cdF_cho h0 h1 n p c k (by omega) (by omega) (by omega) (by omega)
      · rw [if_neg (show ¬ 0 < many - c by omega)]
        match k, hk with
        | k + 1, hk => rw [choF, if_neg (fun z => e2 z.1)]
theorem caF_all {s : Int → Int} {x many : Int} (h0 : 0 ≤ x) (h1 : x ≤ 255) : caF x 8 0 0 many = CHO s x many 0 := by
  have := caF_cho (s := s) (many := many) h0 h1 8 0 0 0 256 rfl (by omega) (by omega) (by omega)
  rw [(hi_ends h0 h1).1, Int.sub_zero] at this
  exact this
theorem cdF_all {s : Int → Int} {x many : Int} (h0 : 0 ≤ x) (h1 : x ≤ 255) : cdF x 8 0 many = CHO s x many 2 := by
  have := cdF_cho (s := s) (many := many) h0 h1 8 0 0 256 (by omega) (by omega) (by omega) (by omega)
  rw [show ((8 : Nat) : Int) = 8 from rfl, (hi_ends h0 h1).2.2.1, Int.sub_zero] at this
  exact this
theorem xor_nn {a b : Int} (ha : 0 ≤ a ∧ a < 2147483648) (hb : 0 ≤ b ∧ b < 2147483648) : 0 ≤ iBin 5 a b := by
  have m : ∀ z : Int, 0 ≤ z ∧ z < 2147483648 → (Int32.ofInt z).toBitVec.msb = false := by
    intro z hz
    have h2 : (Int32.ofInt z).toBitVec.toInt = z := i32i ⟨by omega, hz.2⟩
    rw [BitVec.msb_eq_toInt, h2]
    exact decide_eq_false (by omega)
  have e : ((Int32.ofInt a).toBitVec ^^^ (Int32.ofInt b).toBitVec).msb = false := by
    rw [BitVec.msb_xor, m a ha, m b hb]; rfl
  rw [BitVec.msb_eq_toInt] at e
  have := of_decide_eq_false e
  show 0 ≤ ((Int32.ofInt a).toBitVec ^^^ (Int32.ofInt b).toBitVec).toInt
  omega
/-- a world's object at w, what belongs to it behind it -/
abbrev wO (w : Nat) (sg dy aw : Int) : MC := cObj 11 [vR (w + 1), vR (w + 2), vR (w + 3), vR (w + 4), vR (w + 5), vI sg, vR (w + 6), vR (w + 9), vR (w + 12), vI dy, vI aw, vR (w + 15), vR (w + 21)]
section C1
variable {G : MG} {d : Nat} {h : MH} {Q : KQ}
theorem j_bc {x : Int} (hx : 0 ≤ x ∧ x ≤ 255) : wpC G (d + 1) 259 [vI x] h Q = Q (some (vI (cnt x))) h := by
  rw [e259, ← bc_of hx]
  simp only [KK, Int.reduceEq, not_false_iff, ↓reduceIte, ↓if_pos, ↓if_neg, xt_o, true_and, nlO_i, nlO_n, nlO_r, List.length_nil, List.length_cons, Nat.reduceAdd, Nat.reduceLeDiff, Nat.zero_le, U259]
  rfl
theorem j_fmod {a : Int} (ha : 0 ≤ a ∧ a < 2147483648) : wpC G (d + 1) 241 [vI a, vI 4] h Q = Q (some (vI (a % 4))) h := by
  rw [e241]
  have hx := xor_nn ha (b := 4) (by omega)
  have hm := ar_rem (a := a) (b := 4) (by omega)
  simp (disch := omega) only [KK, Int.reduceEq, not_false_iff, ↓reduceIte, ↓if_pos, ↓if_neg, xt_o, true_and, nlO_i, nlO_n, nlO_r, List.length_nil, List.length_cons, Nat.reduceAdd, Nat.reduceLeDiff, Nat.zero_le, U241, hm]
variable {w : Nat} {sg dy aw : Int} {s W : Int → Int}
theorem c_weight_l (hw : h.2.2 w = some (wO w sg dy aw)) (hwt : h.2.2 (w + 4) = some (cArr 0 8 (ix W))) (hW : ∀ f, 0 ≤ f → f < 8 → W f = s (35 + f)) {x : Int} : ∀ (n : Nat) (i a : Int), i + n = 8 → 0 ≤ i → -2147483648 ≤ a → a < 2147483648 → wp G d 56 4 [some (vR w), some (vI x), some (vI a), some (vI i)] [] h Q = Q (some (vI (wsum s x n i a))) h := by
  intro n
  induction n with
  | zero =>
    intro i a hi i0 a0 a1
    rw [wsum, u56_4]
    simp (disch := omega) only [KK, Int.reduceEq, not_false_iff, ↓reduceIte, ↓if_pos, ↓if_neg, xt_o, true_and, nlO_i, nlO_n, nlO_r, List.length_nil, List.length_cons, Nat.reduceAdd, Nat.reduceLeDiff, Nat.zero_le, U56]
  | succ n ih =>
    intro i a hi i0 a0 a1
    have r := iBin_r 0 a (if bt x i = 1 then s (35 + i) else 0)
    rw [wsum, ← ih (i + 1) (iBin 0 a (if bt x i = 1 then s (35 + i) else 0)) (by omega) (by omega) r.1 r.2, u56_4]
    unfold bt
    by_cases e : iBin 3 (iBin 7 x i) 1 = 1
    · simp (disch := omega) only [KK, Int.reduceEq, not_false_iff, ↓reduceIte, ↓if_pos, ↓if_neg, xt_o, true_and, nlO_i, nlO_n, nlO_r, List.length_nil, List.length_cons, Nat.reduceAdd, Nat.reduceLeDiff, Nat.zero_le, U56, e, hw, hwt, GX11, xa_i, hW, ar_add (a := i)]
    · rw [if_neg e, ar_add (a := a) (b := 0) (by omega), Int.add_zero]
      simp (disch := omega) only [KK, Int.reduceEq, not_false_iff, ↓reduceIte, ↓if_pos, ↓if_neg, xt_o, true_and, nlO_i, nlO_n, nlO_r, List.length_nil, List.length_cons, Nat.reduceAdd, Nat.reduceLeDiff, Nat.zero_le, U56, hw, hwt, GX11, xa_i, hW, ar_add (a := i)]
theorem c_weightOf (hw : h.2.2 w = some (wO w sg dy aw)) (hwt : h.2.2 (w + 4) = some (cArr 0 8 (ix W))) (hW : ∀ f, 0 ≤ f → f < 8 → W f = s (35 + f)) {x : Int} : wpC G (d + 1) 56 [vR w, vI x] h Q = Q (some (vI (WGT s x))) h := by
  unfold WGT
  rw [e56, ← c_weight_l (G := G) (d := d) (Q := Q) hw hwt hW (x := x) 8 0 0 rfl (by omega) (by omega) (by omega)]
  simp only [KK, Int.reduceEq, not_false_iff, ↓reduceIte, ↓if_pos, ↓if_neg, xt_o, true_and, nlO_i, nlO_n, nlO_r, List.length_nil, List.length_cons, Nat.reduceAdd, Nat.reduceLeDiff, Nat.zero_le, U56]
theorem c_heavy_l (hw : h.2.2 w = some (wO w sg dy aw)) (hwt : h.2.2 (w + 4) = some (cArr 0 8 (ix W))) (hW : ∀ f, 0 ≤ f → f < 8 → W f = s (35 + f)) (hs : ∀ f, 0 ≤ f → f < 8 → 0 ≤ s (35 + f)) {x : Int} : ∀ (n : Nat) (f b hv wt : Int), f + n = 8 → 0 ≤ f → ((b = -1 ∧ hv = 0 ∧ wt = -1) ∨ (0 ≤ b ∧ b < f ∧ hv = b ∧ wt = s (35 + b))) → wp G d 50 7 [some (vR w), some (vI x), some (vI hv), some (vI wt), some (vI f)] [] h Q = Q (some (vI (if pickF s x 1 n f b = -1 then 0 else pickF s x 1 n f b))) h := by
  intro n
  induction n with
  | zero =>
    intro f b hv wt hf f0 hb
    have : f = 8 := by omega
    subst this
    have e : hv = (if b = -1 then 0 else b) := by
      rcases hb with ⟨b1, b2, b3⟩ | ⟨b1, b2, b3, b4⟩
      · rw [if_pos b1]; exact b2
      · rw [if_neg (by omega)]; exact b3
    rw [pickF, ← e, u50_7]
    simp (disch := omega) only [KK, Int.reduceEq, not_false_iff, ↓reduceIte, ↓if_pos, ↓if_neg, xt_o, true_and, nlO_i, nlO_n, nlO_r, List.length_nil, List.length_cons, Nat.reduceAdd, Nat.reduceLeDiff, Nat.zero_le, U50]
  | succ n ih =>
    intro f b hv wt hf f0 hb
    have hsf := hs f f0 (by omega)
    by_cases e : bt x f = 1
    · by_cases e2 : wt < s (35 + f)
      · have e3 : btr s 1 b f := by
          rcases hb with ⟨b1, b2, b3⟩ | ⟨b1, b2, b3, b4⟩
          · exact Or.inl b1
          · exact Or.inr (Or.inr ⟨rfl, by omega⟩)
        have eP : pickF s x 1 (n + 1) f b = pickF s x 1 n (f + 1) f := by rw [pickF, if_pos ⟨e, e3⟩]
        rw [eP, ← ih (f + 1) f f (s (35 + f)) (by omega) (by omega) (Or.inr ⟨f0, by omega, rfl, rfl⟩), u50_7]
        unfold bt at e
        simp (disch := omega) only [KK, Int.reduceEq, not_false_iff, ↓reduceIte, ↓if_pos, ↓if_neg, xt_o, true_and, nlO_i, nlO_n, nlO_r, List.length_nil, List.length_cons, Nat.reduceAdd, Nat.reduceLeDiff, Nat.zero_le, U50, e, hw, hwt, GX11, xa_i, hW, ar_add (a := f)]
      · have e3 : ¬ btr s 1 b f := by
          rcases hb with ⟨b1, b2, b3⟩ | ⟨b1, b2, b3, b4⟩
          · omega
          · rintro (c | c | c)
            · omega
            · omega
            · omega
        have eP : pickF s x 1 (n + 1) f b = pickF s x 1 n (f + 1) b := by rw [pickF, if_neg (fun z => e3 z.2)]
        rw [eP, ← ih (f + 1) b hv wt (by omega) (by omega) (by omega), u50_7]
        unfold bt at e
        simp (disch := omega) only [KK, Int.reduceEq, not_false_iff, ↓reduceIte, ↓if_pos, ↓if_neg, xt_o, true_and, nlO_i, nlO_n, nlO_r, List.length_nil, List.length_cons, Nat.reduceAdd, Nat.reduceLeDiff, Nat.zero_le, U50, e, hw, hwt, GX11, xa_i, hW, ar_add (a := f)]
    · have eP : pickF s x 1 (n + 1) f b = pickF s x 1 n (f + 1) b := by rw [pickF, if_neg (fun z => e z.1)]
      rw [eP, ← ih (f + 1) b hv wt (by omega) (by omega) (by omega), u50_7]
      unfold bt at e
      simp (disch := omega) only [KK, Int.reduceEq, not_false_iff, ↓reduceIte, ↓if_pos, ↓if_neg, xt_o, true_and, nlO_i, nlO_n, nlO_r, List.length_nil, List.length_cons, Nat.reduceAdd, Nat.reduceLeDiff, Nat.zero_le, U50, hw, hwt, GX11, xa_i, hW, ar_add (a := f)]
theorem c_heaviest (hw : h.2.2 w = some (wO w sg dy aw)) (hwt : h.2.2 (w + 4) = some (cArr 0 8 (ix W))) (hW : ∀ f, 0 ≤ f → f < 8 → W f = s (35 + f)) (hs : ∀ f, 0 ≤ f → f < 8 → 0 ≤ s (35 + f)) {x : Int} (h0 : 0 ≤ x) (h1 : x ≤ 255) (hx : ¬ x = 0) : wpC G (d + 1) 50 [vR w, vI x] h Q = Q (some (vI (pick s x 1))) h := by
  have hp := pick_in (s := s) (how := 1) h0 h1 hx
  have := c_heavy_l (G := G) (d := d) (Q := Q) hw hwt hW hs (x := x) 8 0 (-1) 0 (-1) rfl (by omega) (Or.inl ⟨rfl, rfl, rfl⟩)
  have hp' : ¬ pickF s x 1 8 0 (-1) = -1 := by
    have := hp.1
    unfold pick at this
    omega
  rw [if_neg hp'] at this
  rw [e50]
  unfold pick
  rw [← this]
  simp only [KK, Int.reduceEq, not_false_iff, ↓reduceIte, ↓if_pos, ↓if_neg, xt_o, true_and, nlO_i, nlO_n, nlO_r, List.length_nil, List.length_cons, Nat.reduceAdd, Nat.reduceLeDiff, Nat.zero_le, U50]
end C1
