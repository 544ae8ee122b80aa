/-! a valley's clauses, as rows of steps: what they come to -/
def seg (s : Int → Int) : Int → Nat → List Int
  | _, 0 => []
  | a, n + 1 => s a :: seg s (a + 1) n
def tsv (y : Int → Int) (c : Int) : Bool := if c / 8 % 4 = 0 then decide (y (c % 8) < c / 32) else if c / 8 % 4 = 1 then decide (y (c % 8) = c / 32) else decide (c / 32 < y (c % 8))
def ntF : List Bool → List Bool
  | b :: r => (!b) :: r
  | [] => []
def joF (c : Int) : List Bool → List Bool
  | b :: b2 :: r => (if c = -2 then b2 && b else b2 || b) :: r
  | r => r
def enF (c : Int) (S : List Bool) : Int := if S.headD false = true then (if -200 < c then -10 - c else c + 200) else 0
def evL (y : Int → Int) : List Int → List Bool → Int → Int
  | [], _, a => a
  | c :: l, S, a => if 0 ≤ c then evL y l (tsv y c :: S) a else if c = -1 then evL y l (ntF S) a else if -10 < c then evL y l (joF c S) a else evL y l [] (a + enF c S)
/-- the steps are such that nothing is taken that is not there -/
def wfM : List Int → Nat → Prop
  | [], _ => True
  | c :: l, k => if 0 ≤ c then (c ≤ 4000 ∧ c % 8 ≤ 5 ∧ k + 1 ≤ 13) ∧ wfM l (k + 1) else if c = -1 then 1 ≤ k ∧ wfM l k else if -10 < c then (2 ≤ k ∧ (c = -2 ∨ c = -3)) ∧ wfM l (k - 1) else (k = 1 ∧ -299 ≤ c) ∧ wfM l 0
/-- a row of truths is a stack's -/
def trS (t : Int → Int) : List Bool → Prop
  | [] => True
  | b :: r => t r.length = (if b = true then 1 else 0) ∧ trS t r
theorem trS_up {t : Int → Int} {x k : Int} : ∀ {S : List Bool}, (S.length : Int) ≤ k → trS t S → trS (up t k x) S
  | [], _, _ => trivial
  | b :: r, hk, h => by
    rw [List.length_cons] at hk
    exact ⟨by rw [up_ne (by omega)]; exact h.1, trS_up (by omega) h.2⟩
def U159 := And.intro U159_0 (And.intro U159_1 (And.intro U159_2 U159_3))
section M3
variable {G : MG} {d : Nat} {Q : KQ}
variable {m : Nat} {s : Int → Int} {f0 f4 f5 f6 f7 f8 f9 f12 f13 f14 f17 f18 f20 f21 f22 f23 : Int}
theorem m_mou_push {h : MH} (hm : h.2.2 m = some (mO m f0 f4 f5 f6 f7 f8 f9 f12 f13 f14 f17 f18 f20 f21 f22 f23)) (hs : h.2.2 (m + 1) = some (cArr 0 937 (ix s))) {y t : Int → Int} (hy : h.2.2 (m + 4) = some (cArr 0 6 (ix y))) (ht : h.2.2 (m + 5) = some (cArr 1 64 (ix t))) {l1 l2 l8 l9 l10 l11 : Option V} {sum many fr top i : Int} (hi : 0 ≤ fr ∧ 0 ≤ many ∧ fr ≤ i ∧ i < fr + many ∧ fr + many ≤ 937) (n8 : nlO l8 = true) (n9 : nlO l9 = true) (n10 : nlO l10 = true) (n11 : nlO l11 = true) (c0 : 0 ≤ s i) (c1 : s i ≤ 4000) (c2 : s i % 8 ≤ 5) (tp : 0 ≤ top ∧ top < 64) : wp G d 159 113 [some (vR m), l1, l2, some (vI sum), some (vI many), some (vI fr), some (vI top), some (vI i), l8, l9, l10, l11] [] h Q = wp G d 159 113 [some (vR m), l1, l2, some (vI sum), some (vI many), some (vI fr), some (vI (top + 1)), some (vI (i + 1)), some (vI (s i)), some (vI (y (s i % 8))), some (vI (s i / 8 % 4)), some (vI (s i / 32))] [] (hset h (m + 5) (cArr 1 64 (ix (up t top (if tsv y (s i) = true then 1 else 0))))) Q := by
  by_cases q0 : s i / 8 % 4 = 0
  · by_cases q : y (s i % 8) < s i / 32
    · have e : tsv y (s i) = true := by simp [tsv, q0, q]
      rw [e, u159_113]
      simp (disch := omega) only [U159, KK, Int.reduceEq, not_false_iff, ↓reduceIte, ↓if_neg, ↓if_pos, hm, hs, hy, ht, GX13, xa_i, xs_z, ar_add, ar_rem, ar_div, n8, n9, n10, n11, nlO_i, true_and, true_or, or_true]
    · have e : tsv y (s i) = false := by simp [tsv, q0, q]
      rw [e, u159_113]
      simp (disch := omega) only [U159, KK, Int.reduceEq, not_false_iff, ↓reduceIte, ↓if_neg, ↓if_pos, hm, hs, hy, ht, GX13, xa_i, xs_z, ar_add, ar_rem, ar_div, n8, n9, n10, n11, nlO_i, true_and, true_or, or_true, Bool.false_eq_true]
  · by_cases q1 : s i / 8 % 4 = 1
    · by_cases q : y (s i % 8) = s i / 32
      · have e : tsv y (s i) = true := by simp [tsv, q1, q]
        rw [e, u159_113]
        simp (disch := omega) only [U159, KK, Int.reduceEq, not_false_iff, ↓reduceIte, ↓if_neg, ↓if_pos, hm, hs, hy, ht, GX13, xa_i, xs_z, ar_add, ar_rem, ar_div, n8, n9, n10, n11, nlO_i, true_and, true_or, or_true]
      · have e : tsv y (s i) = false := by simp [tsv, q1, q]
        rw [e, u159_113]
        simp (disch := omega) only [U159, KK, Int.reduceEq, not_false_iff, ↓reduceIte, ↓if_neg, ↓if_pos, hm, hs, hy, ht, GX13, xa_i, xs_z, ar_add, ar_rem, ar_div, n8, n9, n10, n11, nlO_i, true_and, true_or, or_true, Bool.false_eq_true]
    · by_cases q : s i / 32 < y (s i % 8)
      · have e : tsv y (s i) = true := by simp [tsv, q0, q1, q]
        rw [e, u159_113]
        simp (disch := omega) only [U159, KK, Int.reduceEq, not_false_iff, ↓reduceIte, ↓if_neg, ↓if_pos, hm, hs, hy, ht, GX13, xa_i, xs_z, ar_add, ar_rem, ar_div, n8, n9, n10, n11, nlO_i, true_and, true_or, or_true]
      · have e : tsv y (s i) = false := by simp [tsv, q0, q1, q]
        rw [e, u159_113]
        simp (disch := omega) only [U159, KK, Int.reduceEq, not_false_iff, ↓reduceIte, ↓if_neg, ↓if_pos, hm, hs, hy, ht, GX13, xa_i, xs_z, ar_add, ar_rem, ar_div, n8, n9, n10, n11, nlO_i, true_and, true_or, or_true, Bool.false_eq_true]
theorem m_mou_not {h : MH} (hm : h.2.2 m = some (mO m f0 f4 f5 f6 f7 f8 f9 f12 f13 f14 f17 f18 f20 f21 f22 f23)) (hs : h.2.2 (m + 1) = some (cArr 0 937 (ix s))) {t : Int → Int} (ht : h.2.2 (m + 5) = some (cArr 1 64 (ix t))) {l1 l2 l8 l9 l10 l11 : Option V} {sum many fr top i : Int} (hi : 0 ≤ fr ∧ 0 ≤ many ∧ fr ≤ i ∧ i < fr + many ∧ fr + many ≤ 937) (n8 : nlO l8 = true) (n7 : s i = -1) (tp : 1 ≤ top ∧ top < 64) {b : Bool} (hb : t (top - 1) = (if b = true then 1 else 0)) : wp G d 159 113 [some (vR m), l1, l2, some (vI sum), some (vI many), some (vI fr), some (vI top), some (vI i), l8, l9, l10, l11] [] h Q = wp G d 159 113 [some (vR m), l1, l2, some (vI sum), some (vI many), some (vI fr), some (vI top), some (vI (i + 1)), some (vI (s i)), l9, l10, l11] [] (hset h (m + 5) (cArr 1 64 (ix (up t (top - 1) (if (!b) = true then 1 else 0))))) Q := by
  rw [u159_113]
  cases b with
  | true =>
    have hb' : t (top - 1) = 1 := hb
    simp (disch := omega) only [U159, KK, Int.reduceEq, not_false_iff, ↓reduceIte, ↓if_neg, ↓if_pos, hm, hs, ht, GX13, xa_i, xa_z, xs_z, ar_add, ar_sub, hb', n8, nlO_i, true_and, true_or, or_true, Bool.not_true, Bool.false_eq_true]
  | false =>
    have hb' : t (top - 1) = 0 := hb
    simp (disch := omega) only [U159, KK, Int.reduceEq, not_false_iff, ↓reduceIte, ↓if_neg, ↓if_pos, hm, hs, ht, GX13, xa_i, xa_z, xs_z, ar_add, ar_sub, hb', n8, nlO_i, true_and, true_or, or_true, Bool.not_false]
theorem m_mou_join {h : MH} (hm : h.2.2 m = some (mO m f0 f4 f5 f6 f7 f8 f9 f12 f13 f14 f17 f18 f20 f21 f22 f23)) (hs : h.2.2 (m + 1) = some (cArr 0 937 (ix s))) {t : Int → Int} (ht : h.2.2 (m + 5) = some (cArr 1 64 (ix t))) {l1 l2 l8 l9 l10 l11 : Option V} {sum many fr top i : Int} (hi : 0 ≤ fr ∧ 0 ≤ many ∧ fr ≤ i ∧ i < fr + many ∧ fr + many ≤ 937) (n8 : nlO l8 = true) (n5 : nlO (some (vI fr)) = true) (n7 : s i = -2 ∨ s i = -3) (tp : 2 ≤ top ∧ top < 64) {b b2 : Bool} (hb : t (top + -1) = (if b = true then 1 else 0)) (hb2 : t (top + -1 - 1) = (if b2 = true then 1 else 0)) : wp G d 159 113 [some (vR m), l1, l2, some (vI sum), some (vI many), some (vI fr), some (vI top), some (vI i), l8, l9, l10, l11] [] h Q = wp G d 159 113 [some (vR m), l1, l2, some (vI sum), some (vI many), some (vI fr), some (vI (top + -1)), some (vI (i + 1)), some (vI (s i)), l9, l10, l11] [] (hset h (m + 5) (cArr 1 64 (ix (up t (top + -1 - 1) (if (if s i = -2 then b2 && b else b2 || b) = true then 1 else 0))))) Q := by
  rw [u159_113]
  rcases n7 with n7 | n7
  · cases b2 with
    | true =>
      have hb2' : t (top + -1 - 1) = 1 := hb2
      cases b with
      | true =>
        have hb' : t (top + -1) = 1 := hb
        simp (disch := omega) only [U159, KK, Int.reduceEq, not_false_iff, ↓reduceIte, ↓if_neg, ↓if_pos, hm, hs, ht, GX13, xa_i, xa_z, xs_z, ar_add, ar_sub, hb', hb2', n8, nlO_i, true_and, true_or, or_true, Bool.and_true]
      | false =>
        have hb' : t (top + -1) = 0 := hb
        simp (disch := omega) only [U159, KK, Int.reduceEq, not_false_iff, ↓reduceIte, ↓if_neg, ↓if_pos, hm, hs, ht, GX13, xa_i, xa_z, xs_z, ar_add, ar_sub, hb', hb2', n8, nlO_i, true_and, true_or, or_true, Bool.and_false, Bool.false_eq_true]
    | false =>
      have hb2' : t (top + -1 - 1) = 0 := hb2
      simp (disch := omega) only [U159, KK, Int.reduceEq, not_false_iff, ↓reduceIte, ↓if_neg, ↓if_pos, hm, hs, ht, GX13, xa_i, xa_z, xs_z, ar_add, ar_sub, hb2', n8, nlO_i, true_and, true_or, or_true, Bool.false_and, Bool.false_eq_true]
  · cases b2 with
    | true =>
      have hb2' : t (top + -1 - 1) = 1 := hb2
      simp (disch := omega) only [U159, KK, Int.reduceEq, not_false_iff, ↓reduceIte, ↓if_neg, ↓if_pos, hm, hs, ht, GX13, xa_i, xa_z, xs_z, ar_add, ar_sub, hb2', n8, nlO_i, true_and, true_or, or_true, Bool.true_or]
    | false =>
      have hb2' : t (top + -1 - 1) = 0 := hb2
      cases b with
      | true =>
        have hb' : t (top + -1) = 1 := hb
        simp (disch := omega) only [U159, KK, Int.reduceEq, not_false_iff, ↓reduceIte, ↓if_neg, ↓if_pos, hm, hs, ht, GX13, xa_i, xa_z, xs_z, ar_add, ar_sub, hb', hb2', n8, nlO_i, true_and, true_or, or_true, Bool.or_true]
      | false =>
        have hb' : t (top + -1) = 0 := hb
        simp (disch := omega) only [U159, KK, Int.reduceEq, not_false_iff, ↓reduceIte, ↓if_neg, ↓if_pos, hm, hs, ht, GX13, xa_i, xa_z, xs_z, ar_add, ar_sub, hb', hb2', n8, nlO_i, true_and, true_or, or_true, Bool.or_false, Bool.false_eq_true]
theorem m_mou_end {h : MH} (hm : h.2.2 m = some (mO m f0 f4 f5 f6 f7 f8 f9 f12 f13 f14 f17 f18 f20 f21 f22 f23)) (hs : h.2.2 (m + 1) = some (cArr 0 937 (ix s))) {t : Int → Int} (ht : h.2.2 (m + 5) = some (cArr 1 64 (ix t))) {l1 l2 l8 l9 l10 l11 : Option V} {sum many fr top i : Int} (n2 : nlO l2 = true) (hi : 0 ≤ fr ∧ 0 ≤ many ∧ fr ≤ i ∧ i < fr + many ∧ fr + many ≤ 937) (n8 : nlO l8 = true) (n9 : nlO l9 = true) (hc : s i ≤ -10 ∧ -299 ≤ s i) (hsum : -100000 ≤ sum ∧ sum ≤ 100000) {S : List Bool} (hS : S.length = 1) (hb : t 0 = (if S.headD false = true then 1 else 0)) : wp G d 159 113 [some (vR m), l1, l2, some (vI sum), some (vI many), some (vI fr), some (vI top), some (vI i), l8, l9, l10, l11] [] h Q = wp G d 159 113 [some (vR m), l1, l2, some (vI (sum + enF (s i) S)), some (vI many), some (vI fr), some (vI 0), some (vI (i + 1)), some (vI (s i)), some (vI (t 0)), l10, l11] [] h Q := by
  rw [u159_113]
  unfold enF
  by_cases e : S.headD false = true
  · rw [if_pos e] at hb
    rw [if_pos e]
    by_cases c2 : -200 < s i
    · rw [if_pos c2]
      simp (disch := omega) only [U159, KK, Int.reduceEq, not_false_iff, ↓reduceIte, ↓if_neg, ↓if_pos, hm, hs, ht, GX13, xa_i, xa_z, ar_add, ar_sub, hb, n2, n8, n9, nlO_i, true_and, Int.sub_zero]
    · rw [if_neg c2]
      simp (disch := omega) only [U159, KK, Int.reduceEq, not_false_iff, ↓reduceIte, ↓if_neg, ↓if_pos, hm, hs, ht, GX13, xa_i, xa_z, ar_add, ar_sub, hb, n2, n8, n9, nlO_i, true_and, Int.add_zero]
      rw [show sum - (-200 - s i) = sum + (s i + 200) by omega]
  · rw [if_neg e] at hb
    rw [if_neg e]
    simp (disch := omega) only [U159, KK, Int.reduceEq, not_false_iff, ↓reduceIte, ↓if_neg, ↓if_pos, hm, hs, ht, GX13, xa_i, xa_z, ar_add, ar_sub, hb, n2, n8, n9, nlO_i, true_and, Int.add_zero, Int.sub_zero]
end M3
