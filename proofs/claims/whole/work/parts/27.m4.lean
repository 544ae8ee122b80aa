/-! a mouth, what is said -/
theorem and_in {a b : Int} (h0 : 0 ≤ a) (h1 : a < 2147483648) : 0 ≤ iBin 3 a b ∧ iBin 3 a b ≤ a := by
  have e : (iBin 3 a b) = ((((Int32.ofInt a).toBitVec.toNat &&& (Int32.ofInt b).toBitVec.toNat : Nat)) : Int) := by
    show (Int32.ofInt a &&& Int32.ofInt b).toInt = _
    have ha : (Int32.ofInt a).toBitVec.toNat = a.toNat := by
      have h2 : (Int32.ofInt a).toInt = a := i32i ⟨by omega, h1⟩
      have h3 : (Int32.ofInt a).toBitVec.toInt = a := h2
      rw [BitVec.toInt_eq_toNat_cond] at h3
      split at h3
      · omega
      · have := (Int32.ofInt a).toBitVec.isLt; omega
    have hl : (Int32.ofInt a).toBitVec.toNat &&& (Int32.ofInt b).toBitVec.toNat ≤ a.toNat := by rw [← ha]; exact Nat.and_le_left
    show ((Int32.ofInt a).toBitVec &&& (Int32.ofInt b).toBitVec).toInt = _
    rw [BitVec.toInt_eq_toNat_cond, BitVec.toNat_and, if_pos (by omega)]
  have ha : (Int32.ofInt a).toBitVec.toNat = a.toNat := by
    have h2 : (Int32.ofInt a).toInt = a := i32i ⟨by omega, h1⟩
    have h3 : (Int32.ofInt a).toBitVec.toInt = a := h2
    rw [BitVec.toInt_eq_toNat_cond] at h3
    split at h3
    · omega
    · have := (Int32.ofInt a).toBitVec.isLt; omega
  have hl : (Int32.ofInt a).toBitVec.toNat &&& (Int32.ofInt b).toBitVec.toNat ≤ a.toNat := by rw [← ha]; exact Nat.and_le_left
  rw [e]
  omega
theorem evL_congr {y y' : Int → Int} (hy : ∀ k, 0 ≤ k → k ≤ 5 → y k = y' k) : ∀ (l : List Int) (S : List Bool) (a : Int) (k : Nat), wfM l k → evL y l S a = evL y' l S a
  | [], _, _, _, _ => rfl
  | c :: l, S, a, k, h => by
    rw [evL, evL]
    rw [wfM] at h
    by_cases c0 : 0 ≤ c
    · rw [if_pos c0, if_pos c0]
      rw [if_pos c0] at h
      have e : tsv y c = tsv y' c := by
        unfold tsv
        rw [hy (c % 8) (by omega) h.1.2.1]
      rw [e]
      exact evL_congr hy l _ a _ h.2
    · rw [if_neg c0, if_neg c0]
      rw [if_neg c0] at h
      by_cases c1 : c = -1
      · rw [if_pos c1, if_pos c1]
        rw [if_pos c1] at h
        exact evL_congr hy l _ a _ h.2
      · rw [if_neg c1, if_neg c1]
        rw [if_neg c1] at h
        by_cases c2 : -10 < c
        · rw [if_pos c2, if_pos c2]
          rw [if_pos c2] at h
          exact evL_congr hy l _ a _ h.2
        · rw [if_neg c2, if_neg c2]
          rw [if_neg c2] at h
          exact evL_congr hy l _ _ _ h.2
theorem ntF_len {S : List Bool} : (ntF S).length = S.length := by
  cases S <;> rfl
theorem joF_len {c : Int} {S : List Bool} (h : 2 ≤ S.length) : (joF c S).length = S.length - 1 := by
  match S, h with
  | _ :: _ :: r, _ => rfl
section M4
variable {G : MG} {d : Nat} {Q : KQ}
variable {m : Nat} {s : Int → Int} {f0 f4 f5 f6 f7 f8 f9 f12 f13 f14 f17 f18 f20 f21 f22 f23 : Int}
theorem m_mou_l {y : Int → Int} {l1 l2 : Option V} (n2 : nlO l2 = true) {many fr : Int} (hf : 0 ≤ fr ∧ 0 ≤ many ∧ fr + many ≤ 937) : ∀ (n : Nat) (i sum : Int) (S : List Bool) (t : Int → Int) (h : MH) (l8 l9 l10 l11 : Option V), h.2.2 m = some (mO m f0 f4 f5 f6 f7 f8 f9 f12 f13 f14 f17 f18 f20 f21 f22 f23) → h.2.2 (m + 1) = some (cArr 0 937 (ix s)) → h.2.2 (m + 4) = some (cArr 0 6 (ix y)) → h.2.2 (m + 5) = some (cArr 1 64 (ix t)) → fr ≤ i → i + n = fr + many → nlO l8 = true → nlO l9 = true → nlO l10 = true → nlO l11 = true → wfM (seg s i n) S.length → S.length ≤ 13 → trS t S → (n : Int) ≤ 200 → -100000 + 300 * (n : Int) ≤ sum → sum ≤ 100000 - 300 * (n : Int) → ∃ t' : Int → Int, ∀ Q : KQ, wp G d 159 113 [some (vR m), l1, l2, some (vI sum), some (vI many), some (vI fr), some (vI (S.length : Int)), some (vI i), l8, l9, l10, l11] [] h Q = Q (some (vI (max 0 (evL y (seg s i n) S sum)))) (hset h (m + 5) (cArr 1 64 (ix t'))) := by
  intro n
  induction n with
  | zero =>
    intro i sum S t h l8 l9 l10 l11 hm hs hy ht hi hn n8 n9 n10 n11 hw hS hT b0 b1 b2
    refine ⟨t, fun Q => ?_⟩
    rw [u159_113, hs_same ht, seg, evL]
    by_cases c : 0 ≤ sum
    · simp (disch := omega) only [U159, KK, ↓if_neg, ↓if_pos, ar_add, Int.max_eq_right c]
    · simp (disch := omega) only [U159, KK, ↓if_neg, ↓if_pos, ar_add, Int.max_eq_left (show sum ≤ 0 by omega)]
  | succ n ih0 =>
    intro i sum S t h l8 l9 l10 l11 hm hs hy ht hi hn n8 n9 n10 n11 hw hS hT b0 b1 b2
    rw [seg] at hw ⊢
    rw [wfM] at hw
    have ne0 : ¬ m = m + 5 := by omega
    have ne1 : ¬ m + 1 = m + 5 := by omega
    have ne4 : ¬ m + 4 = m + 5 := by omega
    have hii : 0 ≤ fr ∧ 0 ≤ many ∧ fr ≤ i ∧ i < fr + many ∧ fr + many ≤ 937 := ⟨hf.1, hf.2.1, hi, by omega, hf.2.2⟩
    by_cases c0 : 0 ≤ s i
    · rw [if_pos c0] at hw
      obtain ⟨⟨w1, w2, w3⟩, w4⟩ := hw
      obtain ⟨t', ih⟩ := ih0 (i + 1) sum (tsv y (s i) :: S) (up t (S.length : Int) (if tsv y (s i) = true then 1 else 0)) (hset h (m + 5) (cArr 1 64 (ix (up t (S.length : Int) (if tsv y (s i) = true then 1 else 0))))) (some (vI (s i))) (some (vI (y (s i % 8)))) (some (vI (s i / 8 % 4))) (some (vI (s i / 32))) (by rw [hs_ne ne0]; exact hm) (by rw [hs_ne ne1]; exact hs) (by rw [hs_ne ne4]; exact hy) hs_eq (by omega) (by omega) rfl rfl rfl rfl w4 w3 ⟨up_eq, trS_up (by omega) hT⟩ (by omega) (by omega) (by omega)
      refine ⟨t', fun Q => ?_⟩
      rw [m_mou_push hm hs hy ht hii n8 n9 n10 n11 c0 w1 w2 ⟨by omega, by omega⟩]
      rw [evL, if_pos c0]
      have := ih Q
      rw [hs_hs] at this
      rw [← this, List.length_cons]
      rfl
    · rw [if_neg c0] at hw
      rw [evL, if_neg c0]
      by_cases c1 : s i = -1
      · rw [if_pos c1] at hw
        rw [if_pos c1]
        match S, hw, hS, hT with
        | b :: r, hw, hS, hT =>
          obtain ⟨t', ih⟩ := ih0 (i + 1) sum ((!b) :: r) (up t (((b :: r).length : Int) - 1) (if (!b) = true then 1 else 0)) (hset h (m + 5) (cArr 1 64 (ix (up t (((b :: r).length : Int) - 1) (if (!b) = true then 1 else 0))))) (some (vI (s i))) l9 l10 l11 (by rw [hs_ne ne0]; exact hm) (by rw [hs_ne ne1]; exact hs) (by rw [hs_ne ne4]; exact hy) hs_eq (by omega) (by omega) rfl n9 n10 n11 hw.2 hS ⟨by rw [show ((r.length : Nat) : Int) = ((b :: r).length : Int) - 1 by rw [List.length_cons]; omega]; exact up_eq, trS_up (by rw [List.length_cons]; omega) hT.2⟩ (by omega) (by omega) (by omega)
          refine ⟨t', fun Q => ?_⟩
          rw [List.length_cons] at hS
          rw [m_mou_not hm hs ht hii n8 c1 ⟨by rw [List.length_cons]; omega, by rw [List.length_cons]; omega⟩ (b := b) (by rw [show ((b :: r).length : Int) - 1 = ((r.length : Nat) : Int) by rw [List.length_cons]; omega]; exact hT.1)]
          have := ih Q
          rw [hs_hs] at this
          exact this
      · rw [if_neg c1] at hw
        rw [if_neg c1]
        by_cases c2 : -10 < s i
        · rw [if_pos c2] at hw
          rw [if_pos c2]
          match S, hw, hS, hT with
          | b :: b2 :: r, hw, hS, hT =>
            have l1e : ((b :: b2 :: r).length : Int) + -1 = (((b2 :: r).length : Nat) : Int) := by rw [List.length_cons]; omega
            have l2e : ((b :: b2 :: r).length : Int) + -1 - 1 = ((r.length : Nat) : Int) := by rw [List.length_cons, List.length_cons]; omega
            obtain ⟨t', ih⟩ := ih0 (i + 1) sum ((if s i = -2 then b2 && b else b2 || b) :: r) (up t (((b :: b2 :: r).length : Int) + -1 - 1) (if (if s i = -2 then b2 && b else b2 || b) = true then 1 else 0)) (hset h (m + 5) (cArr 1 64 (ix (up t (((b :: b2 :: r).length : Int) + -1 - 1) (if (if s i = -2 then b2 && b else b2 || b) = true then 1 else 0))))) (some (vI (s i))) l9 l10 l11 (by rw [hs_ne ne0]; exact hm) (by rw [hs_ne ne1]; exact hs) (by rw [hs_ne ne4]; exact hy) hs_eq (by omega) (by omega) rfl n9 n10 n11 hw.2 (by rw [List.length_cons] at hS ⊢; rw [List.length_cons] at hS; omega) ⟨by rw [l2e]; exact up_eq, trS_up (by rw [l2e]; exact Int.le_refl _) hT.2.2⟩ (by omega) (by omega) (by omega)
            refine ⟨t', fun Q => ?_⟩
            rw [List.length_cons, List.length_cons] at hS
            rw [m_mou_join hm hs ht hii n8 rfl hw.1.2 ⟨by rw [List.length_cons, List.length_cons]; omega, by rw [List.length_cons, List.length_cons]; omega⟩ (b := b) (b2 := b2) (by rw [l1e]; exact hT.1) (by rw [l2e]; exact hT.2.1)]
            have := ih Q
            rw [hs_hs] at this
            rw [l1e] at this ⊢
            exact this
        · rw [if_neg c2] at hw
          rw [if_neg c2]
          obtain ⟨⟨w1, w2⟩, w3⟩ := hw
          have hb : t 0 = (if S.headD false = true then 1 else 0) := by
            match S, w1, hT with
            | [b], _, hT => exact hT.1
          have hen : -300 ≤ enF (s i) S ∧ enF (s i) S ≤ 300 := by
            unfold enF
            split
            · split <;> omega
            · omega
          obtain ⟨t', ih⟩ := ih0 (i + 1) (sum + enF (s i) S) [] t h (some (vI (s i))) (some (vI (t 0))) l10 l11 hm hs hy ht (by omega) (by omega) rfl rfl n10 n11 w3 (by show 0 ≤ 13; omega) trivial (by omega) (by omega) (by omega)
          refine ⟨t', fun Q => ?_⟩
          rw [m_mou_end hm hs ht n2 hii n8 n9 ⟨by omega, w2⟩ ⟨by omega, by omega⟩ w1 hb]
          exact ih Q
end M4
