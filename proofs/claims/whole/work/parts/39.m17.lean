/-! acts -/
/-- is kind k the kind c, or under it -/
abbrev UND (k c : Int) : Prop := c = 0 ∨ c = k ∨ (0 < c ∧ c < 4 ∧ k = c + 3)
section M17
variable {G : MG} {d : Nat} {Q : KQ} {h : MH}
theorem m_isUnder {k c : Int} (hc : 0 ≤ c ∧ c ≤ 10) : wpC G (d + 1) 214 [vI k, vI c] h Q = Q (some (vI (if UND k c then 1 else 0))) h := by
  rw [e214]
  by_cases c0 : c = 0
  · rw [if_pos (Or.inl c0)]
    simp (disch := omega) only [U214, ↓if_pos, ↓if_neg, or_true, true_or, true_and]
  · by_cases c1 : c = k
    · rw [if_pos (Or.inr (Or.inl c1))]
      simp (disch := omega) only [U214, ↓if_pos, ↓if_neg, or_true, true_or, true_and]
    · by_cases c2 : 0 < c ∧ c < 4 ∧ k = c + 3
      · rw [if_pos (Or.inr (Or.inr c2))]
        simp (disch := omega) only [U214, ↓if_pos, ↓if_neg, ar_add, or_true, true_or, true_and]
      · rw [if_neg (fun z => z.elim c0 (fun z => z.elim c1 c2))]
        by_cases c3 : c < 4
        · simp (disch := omega) only [U214, ↓if_pos, ↓if_neg, ar_add, or_true, true_or, true_and]
        · simp (disch := omega) only [U214, ↓if_pos, ↓if_neg, or_true, true_or, true_and]
/-- the bodies' row with one more -/
def rbF (b : Int → Int) (r x : Int) : Int → Int := if r < 20 then up b r x else b
variable {m : Nat} {f0 f4 f5 f6 f7 f8 f9 f12 f13 f14 f17 f18 f20 f21 f22 f23 : Int}
theorem m_ranBody {b : Int → Int} (hm : h.2.2 m = some (mO m f0 f4 f5 f6 f7 f8 f9 f12 f13 f14 f17 f18 f20 f21 f22 f23)) (hb : h.2.2 (m + 8) = some (cArr 0 20 (ix b))) (hr : 0 ≤ f20 ∧ f20 ≤ 1000) {x : Int} : wpC G (d + 1) 215 [vR m, vI x] h Q = Q none (hset (hset h (m + 8) (cArr 0 20 (ix (rbF b f20 x)))) m (mO m f0 f4 f5 f6 f7 f8 f9 f12 f13 f14 f17 f18 (f20 + 1) f21 f22 f23)) := by
  have n8 : ¬ m = m + 8 := by omega
  rw [e215]
  unfold rbF
  by_cases c : f20 < 20
  · rw [if_pos c]
    simp (disch := omega) only [U215, KK, ↓if_pos, ↓if_neg, hm, hb, hs_ne n8, GX13, PX13, xs_i, ar_add, true_and]
  · rw [if_neg c, hs_same hb]
    simp (disch := omega) only [U215, KK, ↓if_pos, ↓if_neg, hm, GX13, PX13, ar_add, true_and]
end M17
section M18
variable {G : MG} {d : Nat} {Q : KQ} {h : MH}
variable {m : Nat} {f0 f4 f5 f6 f7 f8 f9 f12 f13 f14 f17 f18 f20 f21 f22 f23 : Int}
/-- bodies that ran, told behind those that ran before -/
def rbL (b : Int → Int) (r : Int) : List Int → (Int → Int)
  | [] => b
  | x :: l => rbL (rbF b r x) (r + 1) l
theorem m_plainRings {b : Int → Int} (hm : h.2.2 m = some (mO m f0 f4 f5 f6 f7 f8 f9 f12 f13 f14 f17 f18 f20 f21 f22 f23)) (hb : h.2.2 (m + 8) = some (cArr 0 20 (ix b))) (hr : 0 ≤ f20 ∧ f20 ≤ 1000) {x : Int} : wpC G (d + 2) 216 [vR m, vI x] h Q = Q (some (vI (iBin 0 x f22))) (hset (hset h (m + 8) (cArr 0 20 (ix (rbF b f20 1)))) m (mO m f0 f4 f5 f6 f7 f8 f9 f12 f13 f14 f17 f18 (f20 + 1) f21 f22 f23)) := by
  rw [e216]
  have h1 := fun (x : Int) (K : KQ) => m_ranBody (G := G) (d := d) (Q := K) hm hb hr (x := x)
  simp only [U216, KK, hm, hs_eq, GX13, h1, xt_o, VS13, List.length_nil, List.length_cons, Nat.reduceAdd, Nat.reduceLeDiff, Nat.zero_le, true_and]
end M18
