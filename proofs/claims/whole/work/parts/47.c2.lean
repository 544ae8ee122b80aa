/-! a valley's conditions as the class keeps them -/
def chkB (x : Int) : Bool := decide (iBin 5 x 1 = (if x % 2 = 1 then x - 1 else x + 1)) && decide (iBin 3 x 1 = x % 2) && decide (iBin 7 x 1 = x / 2) && decide (iBin 4 x 1 = x / 2 * 2 + 1) && decide (iBin 4 x 0 = x) && decide (iBin 3 x (iBin 4 1 (-2)) = x) && decide (iBin 3 x (iBin 4 0 (-2)) = x / 2 * 2) && decide (iBin 6 x 1 = 2 * x)
theorem chkB_all : (List.range 8192).all (fun n => chkB n) = true := by decide +kernel
theorem bit_of {x : Int} (h0 : 0 ≤ x) (h1 : x < 8192) : iBin 5 x 1 = (if x % 2 = 1 then x - 1 else x + 1) ∧ iBin 3 x 1 = x % 2 ∧ iBin 7 x 1 = x / 2 ∧ iBin 4 x 1 = x / 2 * 2 + 1 ∧ iBin 4 x 0 = x ∧ iBin 3 x (iBin 4 1 (-2)) = x ∧ iBin 3 x (iBin 4 0 (-2)) = x / 2 * 2 ∧ iBin 6 x 1 = 2 * x := by
  have h := List.all_eq_true.mp chkB_all x.toNat (List.mem_range.mpr (by omega))
  rw [Int.toNat_of_nonneg h0] at h
  unfold chkB at h
  simp only [Bool.and_eq_true, decide_eq_true_eq] at h
  obtain ⟨⟨⟨⟨⟨⟨⟨a, b⟩, c⟩, e⟩, f⟩, g⟩, i⟩, j⟩ := h
  exact ⟨a, b, c, e, f, g, i, j⟩
/-- a stack of truths as a number -/
def sv : List Bool → Int
  | [] => 0
  | b :: r => 2 * sv r + (if b = true then 1 else 0)
def p2 : Nat → Int
  | 0 => 1
  | n + 1 => 2 * p2 n
theorem p2_mo : ∀ {n k : Nat}, n ≤ k → p2 n ≤ p2 k
  | 0, 0, _ => Int.le_refl _
  | 0, k + 1, _ => by have := p2_mo (Nat.zero_le k); rw [p2] at *; show 1 ≤ 2 * p2 k; omega
  | n + 1, k + 1, h => by have := p2_mo (Nat.le_of_succ_le_succ h); rw [p2, p2]; omega
theorem sv_lt : ∀ (S : List Bool), 0 ≤ sv S ∧ sv S < p2 S.length
  | [] => ⟨Int.le_refl _, by show (0 : Int) < 1; omega⟩
  | b :: r => by
    have := sv_lt r
    rw [sv, List.length_cons, p2]
    split <;> omega
theorem sv_b {S : List Bool} (h : S.length ≤ 13) : 0 ≤ sv S ∧ sv S < 8192 := by
  have h1 := sv_lt S
  have h2 := p2_mo h
  have h3 : p2 13 = 8192 := by decide
  omega
theorem sv_f {r : List Bool} : sv (false :: r) = 2 * sv r := by
  show 2 * sv r + 0 = _; omega
theorem sv_t {r : List Bool} : sv (true :: r) = 2 * sv r + 1 := rfl
theorem if_ft {a b : Int} : (if false = true then a else b) = b := rfl
theorem if_tt {a b : Int} : (if true = true then a else b) = a := rfl
theorem sv_nt {S : List Bool} (h : S.length ≤ 13) (h1 : 1 ≤ S.length) : iBin 5 (sv S) 1 = sv (ntF S) := by
  have hb := sv_b h
  rw [(bit_of hb.1 hb.2).1]
  match S, h1 with
  | b :: r, _ =>
    cases b
    · show (if sv (false :: r) % 2 = 1 then _ else _) = sv (true :: r)
      rw [sv_f, sv_t, if_neg (by omega)]
    · show (if sv (true :: r) % 2 = 1 then _ else _) = sv (false :: r)
      rw [sv_f, sv_t, if_pos (by omega)]; omega
theorem sv_last {b : Bool} {r : List Bool} (h : (b :: r).length ≤ 13) : iBin 3 (sv (b :: r)) 1 = (if b = true then 1 else 0) ∧ iBin 7 (sv (b :: r)) 1 = sv r := by
  have hb := sv_b h
  have h2 := bit_of hb.1 hb.2
  rw [h2.2.1, h2.2.2.1]
  cases b
  · rw [sv_f, if_ft]; omega
  · rw [sv_t, if_tt]; omega
theorem sv_and {b b2 : Bool} {r : List Bool} (h : (b2 :: r).length ≤ 13) : iBin 3 (sv (b2 :: r)) (iBin 4 (if b = true then 1 else 0) (-2)) = sv (joF (-2) (b :: b2 :: r)) := by
  have hb := sv_b h
  have h2 := bit_of hb.1 hb.2
  cases b
  · show iBin 3 (sv (b2 :: r)) (iBin 4 0 (-2)) = sv ((b2 && false) :: r)
    rw [h2.2.2.2.2.2.2.1, Bool.and_false, sv_f]
    cases b2
    · rw [sv_f]; omega
    · rw [sv_t]; omega
  · show iBin 3 (sv (b2 :: r)) (iBin 4 1 (-2)) = sv ((b2 && true) :: r)
    rw [h2.2.2.2.2.2.1, Bool.and_true]
theorem sv_or {b b2 : Bool} {r : List Bool} (h : (b2 :: r).length ≤ 13) : iBin 4 (sv (b2 :: r)) (if b = true then 1 else 0) = sv (joF (-3) (b :: b2 :: r)) := by
  have hb := sv_b h
  have h2 := bit_of hb.1 hb.2
  cases b
  · show iBin 4 (sv (b2 :: r)) 0 = sv ((b2 || false) :: r)
    rw [h2.2.2.2.2.1, Bool.or_false]
  · show iBin 4 (sv (b2 :: r)) 1 = sv ((b2 || true) :: r)
    rw [h2.2.2.2.1, Bool.or_true, sv_t]
    cases b2
    · rw [sv_f]; omega
    · rw [sv_t]; omega
theorem sv_push {b : Bool} {S : List Bool} (h : S.length ≤ 12) : iBin 4 (iBin 6 (sv S) 1) (if b = true then 1 else 0) = sv (b :: S) := by
  have hb := sv_b (S := S) (by omega)
  have h3 := sv_b (S := false :: S) (by rw [List.length_cons]; omega)
  rw [sv_f] at h3
  have h2 := bit_of hb.1 hb.2
  have h4 := bit_of h3.1 h3.2
  rw [h2.2.2.2.2.2.2.2]
  cases b
  · rw [if_ft, h4.2.2.2.2.1, sv_f]
  · rw [if_tt, h4.2.2.2.1, sv_t]; omega
/-- what of the class's is what of the model's -/
def trC (c : Int) : Int := if c < 0 then c else c / 300 + 8 * (c / 100 % 3) + 32 * (c % 100)
/-- a row of the class's steps on a stack -/
def stk (y : Int → Int) : List Int → List Bool → List Bool
  | [], S => S
  | c :: l, S => if c = -3 ∨ c = -2 then stk y l (joF c S) else if c = -1 then stk y l (ntF S) else stk y l (tsv y (trC c) :: S)
theorem evL_stk {y : Int → Int} {e : Int} (he : e ≤ -10) {l' : List Int} : ∀ (l : List Int) (S : List Bool) (a : Int), (∀ c ∈ l, -3 ≤ c ∧ c < 1800) → evL y (l.map trC ++ e :: l') S a = evL y l' [] (a + enF e (stk y l S)) := by
  intro l
  induction l with
  | nil =>
    intro S a _
    show evL y (e :: l') S a = _
    rw [evL, if_neg (by omega), if_neg (by omega), if_neg (by omega), stk]
  | cons c l ih =>
    intro S a h
    have hc := h c List.mem_cons_self
    have hl : ∀ c ∈ l, -3 ≤ c ∧ c < 1800 := fun c hc => h c (List.mem_cons_of_mem _ hc)
    show evL y (trC c :: (l.map trC ++ e :: l')) S a = _
    rw [evL, stk]
    by_cases c0 : 0 ≤ c
    · have t0 : 0 ≤ trC c := by unfold trC; rw [if_neg (by omega)]; omega
      rw [if_pos t0, if_neg (by omega), if_neg (by omega)]
      exact ih _ _ hl
    · have t0 : trC c = c := by unfold trC; rw [if_pos (by omega)]
      rw [t0, if_neg c0]
      by_cases c1 : c = -1
      · rw [if_pos c1, if_neg (by omega), if_pos c1]
        exact ih _ _ hl
      · rw [if_neg c1, if_pos (by omega), if_pos (by omega)]
        exact ih _ _ hl
/-- the class's steps are such that nothing is taken that is not there; how deep the stack is then -/
def wfK : List Int → Nat → Prop
  | [], _ => True
  | c :: l, k => if c = -3 ∨ c = -2 then 2 ≤ k ∧ wfK l (k - 1) else if c = -1 then 1 ≤ k ∧ wfK l k else k + 1 ≤ 13 ∧ wfK l (k + 1)
theorem wfM_K {e : Int} {l' : List Int} (he : e ≤ -10) : ∀ (l : List Int) (k : Nat), (∀ c ∈ l, -3 ≤ c ∧ c < 1800) → wfM (l.map trC ++ e :: l') k → wfK l k ∧ wfM l' 0 ∧ -299 ≤ e := by
  intro l
  induction l with
  | nil =>
    intro k _ h
    have h : wfM (e :: l') k := h
    rw [wfM, if_neg (by omega), if_neg (by omega), if_neg (by omega)] at h
    exact ⟨trivial, h.2, h.1.2⟩
  | cons c l ih =>
    intro k h hw
    have hc := h c List.mem_cons_self
    have hl : ∀ c ∈ l, -3 ≤ c ∧ c < 1800 := fun c hc => h c (List.mem_cons_of_mem _ hc)
    have hw : wfM (trC c :: (l.map trC ++ e :: l')) k := hw
    rw [wfM] at hw
    rw [wfK]
    by_cases c0 : 0 ≤ c
    · have t0 : 0 ≤ trC c := by unfold trC; rw [if_neg (by omega)]; omega
      rw [if_pos t0] at hw
      rw [if_neg (by omega), if_neg (by omega)]
      obtain ⟨i1, i2⟩ := ih _ hl hw.2
      exact ⟨⟨hw.1.2.2, i1⟩, i2⟩
    · have t0 : trC c = c := by unfold trC; rw [if_pos (by omega)]
      rw [t0, if_neg c0] at hw
      by_cases c1 : c = -1
      · rw [if_pos c1] at hw
        rw [if_neg (by omega), if_pos c1]
        obtain ⟨i1, i2⟩ := ih _ hl hw.2
        exact ⟨⟨hw.1, i1⟩, i2⟩
      · rw [if_neg c1, if_pos (by omega)] at hw
        rw [if_pos (by omega)]
        obtain ⟨i1, i2⟩ := ih _ hl hw.2
        exact ⟨⟨hw.1.1, i1⟩, i2⟩
/-- the class's rows of a valley are the model's steps -/
def VR (C S E : Int → Int) (nc : Int) : Nat → Int → Int → List Int → Prop
  | 0, _, _, l => l = []
  | k + 1, i, fr, l => ∃ (n : Nat) (e : Int) (l' : List Int), l = (seg C fr n).map trC ++ e :: l' ∧ E i = fr + n ∧ fr + n ≤ nc ∧ (e ≤ -10 ∧ enF e [true] = S i) ∧ (∀ c ∈ seg C fr n, -3 ≤ c ∧ c < 1800) ∧ VR C S E nc k (i + 1) (fr + n) l'
abbrev vO' (tx co sh ce sb : Nat) (pl cs sn nv : Int) : MC := cObj 10 [vR tx, vI pl, vR co, vI cs, vR sh, vR ce, vI sn, vR sb, vI nv]
section C2
variable {G : MG} {d : Nat} {h : MH} {Q : KQ}
variable {v tx co sh ce sb nc : Nat} {pl cs sn nv : Int} {C S E y : Int → Int}
theorem tsv_tr {y : Int → Int} {c : Int} (h0 : 0 ≤ c) (h1 : c < 1800) : tsv y (trC c) = (if c / 100 % 3 = 0 then decide (y (c / 300) < c % 100) else if c / 100 % 3 = 1 then decide (y (c / 300) = c % 100) else decide (c % 100 < y (c / 300))) := by
  have e : trC c = c / 300 + 8 * (c / 100 % 3) + 32 * (c % 100) := if_neg (by omega)
  have k : ∀ q r v : Int, 0 ≤ q → q ≤ 5 → 0 ≤ r → r ≤ 2 → 0 ≤ v → (q + 8 * r + 32 * v) / 8 % 4 = r ∧ (q + 8 * r + 32 * v) % 8 = q ∧ (q + 8 * r + 32 * v) / 32 = v := by
    intro q r v a1 a2 a3 a4 a5
    have : (q + 8 * r + 32 * v) / 8 = r + 4 * v := by omega
    omega
  obtain ⟨k1, k2, k3⟩ := k (c / 300) (c / 100 % 3) (c % 100) (by omega) (by omega) (by omega) (by omega) (by omega)
  unfold tsv
  rw [e, k1, k2, k3]
theorem c_passes (hv : h.2.2 v = some (vO' tx co sh ce sb pl cs sn nv)) (hy : h.2.2 sb = some (cArr 0 6 (ix y))) {c : Int} (h0 : 0 ≤ c) (h1 : c < 1800) : wpC G (d + 1) 84 [vR v, vI c] h Q = Q (some (vI (if tsv y (trC c) = true then 1 else 0))) h := by
  rw [tsv_tr h0 h1, e84]
  rcases (show c / 100 % 3 = 0 ∨ c / 100 % 3 = 1 ∨ c / 100 % 3 = 2 by omega) with e | e | e
  · by_cases e2 : y (c / 300) < c % 100
    · simp (disch := omega) only [KK, Int.reduceEq, not_false_iff, ↓reduceIte, ↓if_pos, ↓if_neg, xt_o, true_and, nlO_i, nlO_n, nlO_r, List.length_nil, List.length_cons, Nat.reduceAdd, Nat.reduceLeDiff, Nat.zero_le, U84, hv, hy, GX10, xa_i, xl_a, ar_div, ar_rem, e, e2, decide_true, or_true, true_or]
    · simp (disch := omega) only [KK, Int.reduceEq, not_false_iff, ↓reduceIte, ↓if_pos, ↓if_neg, xt_o, true_and, nlO_i, nlO_n, nlO_r, List.length_nil, List.length_cons, Nat.reduceAdd, Nat.reduceLeDiff, Nat.zero_le, U84, hv, hy, GX10, xa_i, xl_a, ar_div, ar_rem, e, e2, decide_false, Bool.false_eq_true, or_true, true_or]
  · by_cases e2 : y (c / 300) = c % 100
    · simp (disch := omega) only [KK, Int.reduceEq, not_false_iff, ↓reduceIte, ↓if_pos, ↓if_neg, xt_o, true_and, nlO_i, nlO_n, nlO_r, List.length_nil, List.length_cons, Nat.reduceAdd, Nat.reduceLeDiff, Nat.zero_le, U84, hv, hy, GX10, xa_i, xl_a, ar_div, ar_rem, e, e2, decide_true, or_true, true_or]
    · simp (disch := omega) only [KK, Int.reduceEq, not_false_iff, ↓reduceIte, ↓if_pos, ↓if_neg, xt_o, true_and, nlO_i, nlO_n, nlO_r, List.length_nil, List.length_cons, Nat.reduceAdd, Nat.reduceLeDiff, Nat.zero_le, U84, hv, hy, GX10, xa_i, xl_a, ar_div, ar_rem, e, e2, decide_false, Bool.false_eq_true, or_true, true_or]
  · by_cases e2 : c % 100 < y (c / 300)
    · simp (disch := omega) only [KK, Int.reduceEq, not_false_iff, ↓reduceIte, ↓if_pos, ↓if_neg, xt_o, true_and, nlO_i, nlO_n, nlO_r, List.length_nil, List.length_cons, Nat.reduceAdd, Nat.reduceLeDiff, Nat.zero_le, U84, hv, hy, GX10, xa_i, xl_a, ar_div, ar_rem, e, e2, decide_true, or_true, true_or]
    · simp (disch := omega) only [KK, Int.reduceEq, not_false_iff, ↓reduceIte, ↓if_pos, ↓if_neg, xt_o, true_and, nlO_i, nlO_n, nlO_r, List.length_nil, List.length_cons, Nat.reduceAdd, Nat.reduceLeDiff, Nat.zero_le, U84, hv, hy, GX10, xa_i, xl_a, ar_div, ar_rem, e, e2, decide_false, Bool.false_eq_true, or_true, true_or]
theorem c_holds_l (hv : h.2.2 v = some (vO' tx co sh ce sb pl cs sn nv)) (hy : h.2.2 sb = some (cArr 0 6 (ix y))) (hc : h.2.2 co = some (cArr 0 nc (ix C))) (hnc : nc ≤ 100) {a1 : Option V} {en : Int} (hen : en ≤ nc) : ∀ (n : Nat) (i : Int) (T : List Bool) (l5 : Option V), 0 ≤ i → i + n = en → nlO l5 = true → (∀ c ∈ seg C i n, -3 ≤ c ∧ c < 1800) → T.length ≤ 13 → wfK (seg C i n) T.length → wp G (d + 1) 83 9 [some (vR v), a1, some (vI en), some (vI (sv T)), some (vI i), l5] [] h Q = Q (some (vI (if (stk y (seg C i n) T).headD false = true then 1 else 0))) h := by
  intro n
  induction n with
  | zero =>
    intro i T l5 i0 hi n5 hr hT hw
    rw [seg, stk, u83_9]
    match T with
    | [] =>
      have e : iBin 3 (sv []) 1 = 0 := by decide
      simp (disch := omega) only [KK, Int.reduceEq, not_false_iff, ↓reduceIte, ↓if_pos, ↓if_neg, xt_o, true_and, nlO_i, nlO_n, nlO_r, List.length_nil, List.length_cons, Nat.reduceAdd, Nat.reduceLeDiff, Nat.zero_le, U83, e, List.headD_nil, Bool.false_eq_true, or_true, true_or]
    | b :: r =>
      have e := (sv_last (b := b) (r := r) hT).1
      cases b
      · simp (disch := omega) only [KK, Int.reduceEq, not_false_iff, ↓reduceIte, ↓if_pos, ↓if_neg, xt_o, true_and, nlO_i, nlO_n, nlO_r, List.length_nil, List.length_cons, Nat.reduceAdd, Nat.reduceLeDiff, Nat.zero_le, U83, e, List.headD_cons, Bool.false_eq_true, or_true, true_or]
      · simp (disch := omega) only [KK, Int.reduceEq, not_false_iff, ↓reduceIte, ↓if_pos, ↓if_neg, xt_o, true_and, nlO_i, nlO_n, nlO_r, List.length_nil, List.length_cons, Nat.reduceAdd, Nat.reduceLeDiff, Nat.zero_le, U83, e, List.headD_cons, or_true, true_or]
  | succ n ih =>
    intro i T l5 i0 hi n5 hr hT hw
    rw [seg] at hr hw ⊢
    have hc0 := hr _ List.mem_cons_self
    have hr' : ∀ c ∈ seg C (i + 1) n, -3 ≤ c ∧ c < 1800 := fun c hc => hr c (List.mem_cons_of_mem _ hc)
    rw [wfK] at hw
    rw [stk]
    by_cases c3 : C i = -3
    · rw [if_pos (Or.inl c3)] at hw ⊢
      obtain ⟨w1, w2⟩ := hw
      match T, w1, hT, w2 with
      | b :: b2 :: r, _, hT, w2 =>
        have hT2 : (b2 :: r).length ≤ 13 := by rw [List.length_cons] at hT; omega
        have e1 := sv_last hT
        have e2 := sv_or (b := b) hT2
        rw [c3]
        rw [← ih (i + 1) (joF (-3) (b :: b2 :: r)) (some (vI (if b = true then 1 else 0))) (by omega) (by omega) rfl hr' (by rw [joF_len (by rw [List.length_cons, List.length_cons]; omega)]; omega) (by rw [joF_len (by rw [List.length_cons, List.length_cons]; omega)]; exact w2), ← e2, u83_9]
        simp (disch := omega) only [KK, Int.reduceEq, not_false_iff, ↓reduceIte, ↓if_pos, ↓if_neg, xt_o, true_and, nlO_i, nlO_n, nlO_r, List.length_nil, List.length_cons, Nat.reduceAdd, Nat.reduceLeDiff, Nat.zero_le, U83, hv, hc, GX10, xa_i, xl_a, c3, e1.1, e1.2, n5, ar_add (a := i)]
    · by_cases c2 : C i = -2
      · rw [if_pos (Or.inr c2)] at hw ⊢
        obtain ⟨w1, w2⟩ := hw
        match T, w1, hT, w2 with
        | b :: b2 :: r, _, hT, w2 =>
          have hT2 : (b2 :: r).length ≤ 13 := by rw [List.length_cons] at hT; omega
          have e1 := sv_last hT
          have e2 := sv_and (b := b) hT2
          rw [c2]
          rw [← ih (i + 1) (joF (-2) (b :: b2 :: r)) (some (vI (if b = true then 1 else 0))) (by omega) (by omega) rfl hr' (by rw [joF_len (by rw [List.length_cons, List.length_cons]; omega)]; omega) (by rw [joF_len (by rw [List.length_cons, List.length_cons]; omega)]; exact w2), ← e2, u83_9]
          simp (disch := omega) only [KK, Int.reduceEq, not_false_iff, ↓reduceIte, ↓if_pos, ↓if_neg, xt_o, true_and, nlO_i, nlO_n, nlO_r, List.length_nil, List.length_cons, Nat.reduceAdd, Nat.reduceLeDiff, Nat.zero_le, U83, hv, hc, GX10, xa_i, xl_a, c2, e1.1, e1.2, n5, ar_add (a := i)]
      · rw [if_neg (show ¬ (C i = -3 ∨ C i = -2) by omega)] at hw ⊢
        by_cases c1 : C i = -1
        · rw [if_pos c1] at hw ⊢
          obtain ⟨w1, w2⟩ := hw
          have e2 := sv_nt hT w1
          rw [← ih (i + 1) (ntF T) (some (vI (iBin 3 (sv T) 1))) (by omega) (by omega) rfl hr' (by rw [ntF_len]; exact hT) (by rw [ntF_len]; exact w2), ← e2, u83_9]
          simp (disch := omega) only [KK, Int.reduceEq, not_false_iff, ↓reduceIte, ↓if_pos, ↓if_neg, xt_o, true_and, nlO_i, nlO_n, nlO_r, List.length_nil, List.length_cons, Nat.reduceAdd, Nat.reduceLeDiff, Nat.zero_le, U83, hv, hc, GX10, xa_i, xl_a, c1, n5, ar_add (a := i)]
        · rw [if_neg c1] at hw ⊢
          obtain ⟨w1, w2⟩ := hw
          have e2 := sv_push (b := tsv y (trC (C i))) (S := T) (by omega)
          have hp := fun (K : KQ) => c_passes (G := G) (d := d) (Q := K) hv hy (c := C i) (by omega) (by omega)
          rw [← ih (i + 1) (tsv y (trC (C i)) :: T) (some (vI (iBin 3 (sv T) 1))) (by omega) (by omega) rfl hr' (by rw [List.length_cons]; omega) (by rw [List.length_cons]; exact w2), ← e2, u83_9]
          by_cases t : tsv y (trC (C i)) = true
          · rw [if_pos t] at hp ⊢
            simp (disch := omega) only [KK, Int.reduceEq, not_false_iff, ↓reduceIte, ↓if_pos, ↓if_neg, xt_o, true_and, nlO_i, nlO_n, nlO_r, List.length_nil, List.length_cons, Nat.reduceAdd, Nat.reduceLeDiff, Nat.zero_le, U83, hv, hc, GX10, VS10, xa_i, xl_a, hp, n5, ar_add (a := i)]
          · rw [if_neg t] at hp ⊢
            simp (disch := omega) only [KK, Int.reduceEq, not_false_iff, ↓reduceIte, ↓if_pos, ↓if_neg, xt_o, true_and, nlO_i, nlO_n, nlO_r, List.length_nil, List.length_cons, Nat.reduceAdd, Nat.reduceLeDiff, Nat.zero_le, U83, hv, hc, GX10, VS10, xa_i, xl_a, hp, n5, ar_add (a := i)]
theorem c_holds (hv : h.2.2 v = some (vO' tx co sh ce sb pl cs sn nv)) (hy : h.2.2 sb = some (cArr 0 6 (ix y))) (hc : h.2.2 co = some (cArr 0 nc (ix C))) (hnc : nc ≤ 100) {fr : Int} {n : Nat} (f0 : 0 ≤ fr) (hen : fr + n ≤ nc) (hr : ∀ c ∈ seg C fr n, -3 ≤ c ∧ c < 1800) (hw : wfK (seg C fr n) 0) : wpC G (d + 2) 83 [vR v, vI fr, vI (fr + n)] h Q = Q (some (vI (if (stk y (seg C fr n) []).headD false = true then 1 else 0))) h := by
  rw [e83, ← c_holds_l (G := G) (d := d) (Q := Q) hv hy hc hnc (a1 := some (vI fr)) (en := fr + n) hen n fr [] none f0 rfl rfl hr (by show 0 ≤ 13; omega) hw]
  have hm := fun (K : KQ) => j_max (G := G) (d := d) (h := h) (Q := K) (a := 0) (b := fr)
  rw [Int.max_eq_right f0] at hm
  simp only [KK, Int.reduceEq, not_false_iff, ↓reduceIte, ↓if_pos, ↓if_neg, xt_o, true_and, nlO_i, nlO_n, nlO_r, List.length_nil, List.length_cons, Nat.reduceAdd, Nat.reduceLeDiff, Nat.zero_le, U83, hm]
  rfl
end C2
