/-! the start: the constants, the script -/
def sBy : List (List Int) := [[110, 101, 114, 118, 101, 32], [98, 111, 108, 100, 32], [115, 104, 121, 32], [32], [41], [112, 107, 118, 104, 108, 100], [60, 61, 62], [112, 107, 118, 104, 108, 100], [60, 61, 62], [110, 101, 114, 118, 101, 32], [98, 111, 108, 100, 32], [115, 104, 121, 32]]
def sL (i : Nat) : Nat := (sBy.getD i []).length
def sB (i j : Nat) : Int := (sBy.getD i []).getD j 0
def fl : List Cond := flatC (Jvm.Cond.and given_1 narrow_1)
abbrev tV (q : String × Nat × String × Nat) : Term := .field (.string q.1 q.2.1) "java/lang/String" "value" "[B"
def ckStr (q : String × Nat × String × Nat) : Bool := decide (Cond.exactly (.string q.1 q.2.1) "java/lang/String" ∈ fl) && decide (Cond.eq (.field (.string q.1 q.2.1) "java/lang/String" "coder" "B") (.int 0) ∈ fl) && decide (Cond.arrayOf (tV q) .byte ∈ fl) && decide (Cond.eq (.length (tV q)) (.int (Int32.ofNat (sL q.2.2.2))) ∈ fl) &&
  (List.range (sL q.2.2.2)).all (fun j => decide (Cond.eq (.elem (tV q) (.int (Int32.ofNat j))) (.int (Int32.ofInt (sB q.2.2.2 j))) ∈ fl)) && decide (Cond.stringRef q.1 q.2.1 q.2.2.1 ∈ lw_tbl) && decide (q.2.2.2 < 12)
theorem ckStr_all : strT.all ckStr = true := by decide +kernel
theorem ckNc_all : ncT.all (fun q => decide (Cond.not (.castable q.1 q.2) ∈ fl)) = true := by decide +kernel
theorem ckCa_all : caT.all (fun q => decide (Cond.castable q.1 q.2 ∈ lw_tbl)) = true := by decide +kernel
theorem ckNe_all : neT.all (fun q => decide (Cond.methodLinkNest q.1 q.2.1 q.2.2.1 q.2.2.2 ∈ lw_tbl)) = true := by decide +kernel
theorem ckIn_all : (List.range 14).all (fun t => decide (Cond.instantiable (cN t) (cL t) ∈ mT)) = true := by decide +kernel
/-- the places of the texts' numbers -/
theorem strT_ix : ∀ i, i < 12 → ∃ q ∈ strT, q.2.2.2 = i := by decide +kernel
/-- what is asked of the law's start -/
def hStart (G : MG) (h : MH) (b L : Nat) (xs : Nat → Int) : Prop :=
  h.1 = 0 ∧ h.2.1 = 0 ∧ L ≤ 2048 ∧ (∀ j, iR (xs j)) ∧ b < G.1 ∧ h.2.2 b = some (cArr 11 L xs) ∧ h.2.2 (G.2.1 GE) = some (cRef 1 0 (fun _ => none)) ∧ G.2.1 GE < G.1 ∧
  (∀ i, i < 12 → ∃ (v : Nat) (f : Nat → Int), G.2.2.2 (G.2.1 i) = some v ∧ h.2.2 v = some (cArr 10 (sL i) f) ∧ ∀ j, j < sL i → f j = sB i j) ∧
  ∀ a c, h.2.2 a = some c → a < G.1
section TOP
theorem T_uniq {ty ty' : FieldType} {a n n' : Nat} {f f' : Nat → Value} {A : Nat → Prop} {U : State} {H : Heap} (h1 : va_T ty a n f A U H) (h2 : va_T ty' a n' f' A U H) : ty = ty' ∧ Int32.ofNat n = Int32.ofNat n' ∧ ∀ j, j < n → j < n' → f j = f' j := by
  obtain ⟨c1, a1, ⟨-, k1, b1, comp1, d1⟩, -, -, e1, g1, -⟩ := h1
  obtain ⟨c2, a2, ⟨-, k2, b2, comp2, d2⟩, -, -, e2, g2, -⟩ := h2
  cases a1.symm.trans a2
  cases b1.symm.trans b2
  have := d1.symm.trans d2
  cases this
  exact ⟨rfl, e1.symm.trans e2, fun j hj hj' => Option.some.inj ((g1 j hj).symm.trans (g2 j hj'))⟩
theorem OF_uniq {o n d : String} {v v' : Value} {a : Nat} {A : Nat → Prop} {U : State} {H : Heap} (h1 : va_OF o n d v a A U H) (h2 : va_OF o n d v' a A U H) : v = v' := by
  obtain ⟨cf, k, i, f, c1, a1, -, a3, -, a5, -⟩ := h1
  obtain ⟨cf', k', i', f', c2, b1, -, b3, -, b5, -⟩ := h2
  cases a1.symm.trans b1
  cases a3.symm.trans b3
  exact Option.some.inj (a5.symm.trans b5)
theorem ofNat_inj {n n' : Nat} (h : n < 2147483648) (h' : n' < 2147483648) (e : Int32.ofNat n = Int32.ofNat n') : n = n' := by
  have := congrArg Int32.toInt e
  rw [Int32.toInt_ofNat_of_lt (by omega), Int32.toInt_ofNat_of_lt (by omega)] at this
  omega
theorem sL_lt (i : Nat) : sL i < 2147483648 := by
  unfold sL
  rw [List.getD_eq_getElem?_getD]
  by_cases h : i < sBy.length
  · have : ∀ i, i < sBy.length → (sBy.getD i []).length < 100 := by decide +kernel
    have h2 := this i h
    rw [List.getD_eq_getElem?_getD] at h2
    omega
  · rw [List.getElem?_eq_none (by omega)]
    decide
theorem sB_r : ∀ i j, iR (sB i j) := by
  intro i j
  have key : ∀ l ∈ sBy, ∀ x ∈ l, 0 ≤ x ∧ x < 256 := by decide +kernel
  unfold sB
  rw [List.getD_eq_getElem?_getD, List.getD_eq_getElem?_getD]
  cases h1 : sBy[i]? with
  | none => exact iR_0
  | some l =>
    cases h2 : l[j]? with
    | none => simp only [Option.getD_some, h2]; exact iR_0
    | some x =>
      simp only [Option.getD_some, h2]
      have := key l (List.mem_of_getElem? h1) x (List.mem_of_getElem? h2)
      exact ⟨by omega, by omega⟩
variable {s : State} {args : Array Value}
theorem str_at (hs : ∀ c ∈ fl, c.before args s = true) {A : Nat → Prop} (hA : ∀ a : Nat, a < s.heap.size → ¬ A a) (q : String × Nat × String × Nat) (hq : q ∈ strT) : ∃ a v : Nat, (Term.string q.1 q.2.1).eval args s none [] s = some (.ref a) ∧ va_O "java/lang/String" a A s s.heap ∧ va_OF "java/lang/String" "value" "[B" (.ref v) a A s s.heap ∧ va_OF "java/lang/String" "coder" "B" (.int 0) a A s s.heap ∧ va_T .byte v (sL q.2.2.2) (fun j => .int (Int32.ofInt (sB q.2.2.2 j))) A s s.heap := by
  have h := List.all_eq_true.mp ckStr_all q hq
  unfold ckStr at h
  simp only [Bool.and_eq_true, decide_eq_true_eq] at h
  obtain ⟨⟨⟨⟨⟨⟨h1, h2⟩, h3⟩, h4⟩, h5⟩, h6⟩, h7⟩ := h
  obtain ⟨a, c, cA, kA, q1, q2, q3, q4, q5, q6, -⟩ := Cond.exactly_spec (args := args) (first := s) (o := none) (s := s) (idx := []) (t := .string q.1 q.2.1) (cls := "java/lang/String") (hs _ h1)
  obtain ⟨v, hv, hT⟩ := va_Tof (f := fun j => .int (Int32.ofInt (sB q.2.2.2 j))) (A := A) (sL_lt _) (hs _ h3) (va_eqt (hs _ h4)) (fun j hj => va_eqt (hs _ (of_decide_eq_true (List.all_eq_true.mp h5 j (List.mem_range.mpr hj))))) hA
  exact ⟨a, v, q1, ⟨cA, q3, q5, by rw [q6]; exact q2, hA a (Array.getElem?_eq_some_iff.mp q3).1⟩, vk_OFof q1 hv hA, vk_OFof q1 (va_eqt (hs _ h2)) hA, hT⟩
theorem strT_one : ∀ q ∈ strT, ∀ q' ∈ strT, q.2.2.2 = q'.2.2.2 → q = q' := by decide +kernel
abbrev teT : Term := .static "java/util/ArrayList" "DEFAULTCAPACITY_EMPTY_ELEMENTDATA" "[Ljava/lang/Object;"
theorem fl_te : Cond.arrayOf teT oA ∈ fl ∧ Cond.eq (.length teT) (.int 0) ∈ fl ∧ Cond.eq (.static "java/lang/String" "COMPACT_STRINGS" "Z") (.int 1) ∈ fl ∧ Cond.isRef (.static "jdk/internal/util/Preconditions" "SIOOBE_FORMATTER" "Ljava/util/function/BiFunction;") ∈ fl := by decide +kernel
theorem tb_st : Cond.laysStatic "java/util/ArrayList" "DEFAULTCAPACITY_EMPTY_ELEMENTDATA" "[Ljava/lang/Object;" ∈ lw_tbl ∧ Cond.initialized "java/util/ArrayList" ∈ lw_tbl ∧ Cond.laysStatic "java/lang/String" "COMPACT_STRINGS" "Z" ∈ lw_tbl ∧ Cond.initialized "java/lang/String" ∈ lw_tbl ∧ Cond.laysStatic "jdk/internal/util/Preconditions" "SIOOBE_FORMATTER" "Ljava/util/function/BiFunction;" ∈ lw_tbl ∧ Cond.initialized "jdk/internal/util/Preconditions" ∈ lw_tbl ∧ Cond.arrayClass .int ∈ lw_tbl ∧ Cond.arrayClass .boolean ∈ lw_tbl ∧ Cond.arrayOver oA ∈ lw_tbl := by decide +kernel
theorem T_lt {ty : FieldType} {a n : Nat} {f : Nat → Value} {A : Nat → Prop} {U : State} {H : Heap} (h : va_T ty a n f A U H) : a < H.size := by
  obtain ⟨c1, a1, -⟩ := h
  exact (Array.getElem?_eq_some_iff.mp a1).1
theorem start_ex (hts : ∀ w ∈ lw_tbl, w.before args s = true) (hs : ∀ c ∈ fl, c.before args s = true) {b L : Nat} {xs : Nat → Int32} (hX : va_X b L xs s s.heap) (hbl : b < s.heap.size) (hL : L ≤ 2048) : ∃ (E : ME) (h0 : MH), KU E s ∧ mmR E s h0 s.heap ∧ hStart E.2.2.2 h0 b L (fun j => (xs j).toInt) ∧ eB E = s.heap.size := by
  obtain ⟨A, hAd⟩ : ∃ A : Nat → Prop, A = fun q => s.heap.size ≤ q := ⟨_, rfl⟩
  have hA : ∀ a : Nat, a < s.heap.size → ¬ A a := fun a h => by rw [hAd]; exact Nat.not_le.mpr h
  have hc : ∀ i : Nat, ∃ p : Nat × Nat, i < 12 → ∃ q ∈ strT, q.2.2.2 = i ∧ (Term.string q.1 q.2.1).eval args s none [] s = some (.ref p.1) ∧ va_O "java/lang/String" p.1 A s s.heap ∧ va_OF "java/lang/String" "value" "[B" (.ref p.2) p.1 A s s.heap ∧ va_OF "java/lang/String" "coder" "B" (.int 0) p.1 A s s.heap ∧ va_T .byte p.2 (sL i) (fun j => .int (Int32.ofInt (sB i j))) A s s.heap := by
    intro i
    by_cases hi : i < 12
    · obtain ⟨q, hq, e⟩ := strT_ix i hi
      obtain ⟨a, v, h1, h2, h3, h4, h5⟩ := str_at hs hA q hq
      exact ⟨(a, v), fun _ => ⟨q, hq, e, h1, h2, h3, h4, by rw [e] at h5; exact h5⟩⟩
    · exact ⟨(0, 0), fun h => absurd h hi⟩
  obtain ⟨ad, had⟩ := Classical.axiomOfChoice hc
  obtain ⟨f1, f2, f3, f4⟩ := fl_te
  obtain ⟨t1, t2, t3, t4, t5, t6, t7, t8, t9⟩ := tb_st
  obtain ⟨te, hte, hTe⟩ := va_Tof (f := fun _ => va_rf none) (N := 0) (A := A) (by decide) (hs _ f1) (va_eqt (hs _ f2)) (fun j hj => absurd hj (Nat.not_lt_zero j)) hA
  obtain ⟨r, hr⟩ : ∃ r : Option Nat, va_Z "jdk/internal/util/Preconditions" "SIOOBE_FORMATTER" "Ljava/util/function/BiFunction;" (va_rf r) A s s.heap := by
    rcases va_Zqof (hts _ t5) (hts _ t6) (hs _ f4) hA with h | ⟨t, h⟩
    · exact ⟨none, h⟩
    · exact ⟨some t, h⟩
  have hTb : va_T .int b L (fun j => .int (Int32.ofInt ((xs j).toInt))) A s s.heap := by
    obtain ⟨scr, h1, h2, h3, h4, h5⟩ := hX
    exact ⟨scr, h1, h2, h3, by omega, by rw [h4], fun j hj => by show scr.slots[j]? = some (Value.int (Int32.ofInt (xs j).toInt)); rw [Int32.ofInt_toInt]; exact h5 j hj, hA b hbl⟩
  have hcl : ∀ k : Nat, ∃ p : ClassId × (Nat → Nat), ∀ q : vw_C, mCl[k]? = some q → u_Kn s q.1 q.2.1 q.2.2 p.1 p.2 := by
    intro k
    by_cases hk : k < 14
    · have h2 := of_decide_eq_true (List.all_eq_true.mp ckIn_all k (List.mem_range.mpr hk))
      obtain ⟨c, iS, h⟩ := u_known (C := cN k) (T := cT k) (N := cL k) (n := cL k) (ws := mT) (args := args) (fun w hw => hts w (mT_sub w hw)) (g_lay hk) (hts _ (mT_sub _ h2))
      exact ⟨(c, iS), fun q hq => by rw [mCl_get hk] at hq; cases hq; exact h⟩
    · refine ⟨(0, fun _ => 0), fun q hq => ?_⟩
      have hl : k < mCl.length := (List.getElem?_eq_some_iff.mp hq).1
      rw [show mCl.length = 14 by unfold mCl; rw [List.length_map, mFs_len]] at hl
      exact absurd hl hk
  obtain ⟨dD, hdD⟩ := Classical.axiomOfChoice hcl
  obtain ⟨cI, kI, coI, i1, i2, i3⟩ := Cond.arrayClass_spec (hts _ t7)
  obtain ⟨cZ, kZ, coZ, z1, z2, z3⟩ := Cond.arrayClass_spec (hts _ t8)
  obtain ⟨coO, cO, kO, o1, -, o2, o3, o4⟩ := Cond.arrayOver_spec (hts _ t9)
  have aot : ∀ {c : ClassId} {k : Class} {co : ClassId} {ty : FieldType}, s.vm.classes[c]? = some k → k.kind = .array co ty → ArrOfT s c ty := fun h1 h2 n z => ⟨fun k h => (by cases h), _, h1, _, h2⟩
  obtain ⟨roS, hroS⟩ : ∃ roS : Nat → Option Nat, (∀ i, i < 12 → ∃ i', i' < 12 ∧ (ad i').1 = (ad i).1 ∧ roS (ad i).1 = some (ad i').2) ∧ ∀ a v, roS a = some v → ∃ i, i < 12 ∧ a = (ad i).1 ∧ v = (ad i).2 := by
    refine ⟨fun a => @dite _ (∃ i, i < 12 ∧ a = (ad i).1) (Classical.propDecidable _) (fun h => some (ad (Classical.choose h)).2) (fun _ => none), fun i hi => ?_, fun a v h => ?_⟩
    · have hex : ∃ i', i' < 12 ∧ (ad i).1 = (ad i').1 := ⟨i, hi, rfl⟩
      refine ⟨Classical.choose hex, (Classical.choose_spec hex).1, (Classical.choose_spec hex).2.symm, ?_⟩
      exact dif_pos hex
    · replace h : @dite _ (∃ i, i < 12 ∧ a = (ad i).1) (Classical.propDecidable _) (fun h => some (ad (Classical.choose h)).2) (fun _ => none) = some v := h
      by_cases hex : ∃ i, i < 12 ∧ a = (ad i).1
      · rw [dif_pos hex] at h
        exact ⟨_, (Classical.choose_spec hex).1, (Classical.choose_spec hex).2, (Option.some.inj h).symm⟩
      · rw [dif_neg hex] at h
        cases h
  obtain ⟨mp, hmp⟩ : ∃ mp : Nat → Option MC, mp b = some (cArr 11 L (fun j => (xs j).toInt)) ∧ mp te = some (cRef 1 0 (fun _ => none)) ∧ (∀ i, i < 12 → ∃ i', i' < 12 ∧ (ad i').2 = (ad i).2 ∧ mp (ad i).2 = some (cArr 10 (sL i') (sB i'))) ∧ ∀ a c, mp a = some c → (a = b ∧ c = cArr 11 L (fun j => (xs j).toInt)) ∨ (a = te ∧ c = cRef 1 0 (fun _ => none)) ∨ ∃ i, i < 12 ∧ a = (ad i).2 ∧ c = cArr 10 (sL i) (sB i) := by
    have tb' : ¬ te = b := fun e => by
      have h2 := (T_uniq hTe (e ▸ hTb)).1
      cases h2
    refine ⟨fun a => if a = b then some (cArr 11 L (fun j => (xs j).toInt)) else if a = te then some (cRef 1 0 (fun _ => none)) else @dite _ (∃ i, i < 12 ∧ a = (ad i).2) (Classical.propDecidable _) (fun h => some (cArr 10 (sL (Classical.choose h)) (sB (Classical.choose h)))) (fun _ => none), if_pos rfl, (by show (if te = b then _ else _) = _; rw [if_neg tb', if_pos rfl]), fun i hi => ?_, fun a c h => ?_⟩
    · have hex : ∃ i', i' < 12 ∧ (ad i).2 = (ad i').2 := ⟨i, hi, rfl⟩
      obtain ⟨q, -, -, -, -, -, -, hTi⟩ := had i hi
      have n1 : ¬ (ad i).2 = b := fun e => by
        have h2 := (T_uniq hTi (e ▸ hTb)).1
        cases h2
      have n2 : ¬ (ad i).2 = te := fun e => by
        have h2 := (T_uniq hTi (e ▸ hTe)).1
        cases h2
      refine ⟨Classical.choose hex, (Classical.choose_spec hex).1, (Classical.choose_spec hex).2.symm, ?_⟩
      show (if (ad i).2 = b then _ else _) = _
      rw [if_neg n1, if_neg n2]
      exact dif_pos hex
    · replace h : (if a = b then some (cArr 11 L (fun j => (xs j).toInt)) else if a = te then some (cRef 1 0 (fun _ => none)) else @dite _ (∃ i, i < 12 ∧ a = (ad i).2) (Classical.propDecidable _) (fun h => some (cArr 10 (sL (Classical.choose h)) (sB (Classical.choose h)))) (fun _ => none)) = some c := h
      by_cases e1 : a = b
      · rw [if_pos e1] at h
        exact Or.inl ⟨e1, (Option.some.inj h).symm⟩
      · rw [if_neg e1] at h
        by_cases e2 : a = te
        · rw [if_pos e2] at h
          exact Or.inr (Or.inl ⟨e2, (Option.some.inj h).symm⟩)
        · rw [if_neg e2] at h
          by_cases hex : ∃ i, i < 12 ∧ a = (ad i).2
          · rw [dif_pos hex] at h
            exact Or.inr (Or.inr ⟨_, (Classical.choose_spec hex).1, (Classical.choose_spec hex).2, (Option.some.inj h).symm⟩)
          · rw [dif_neg hex] at h
            cases h
  obtain ⟨hp1, hp2, hp3, hp4⟩ := hmp
  have hGE : GE = 12 := rfl
  have i12 : ∀ i, i < 12 → (if i = GE then te else (ad i).1) = (ad i).1 := fun i hi => if_neg (by rw [hGE]; omega)
  refine ⟨((fun k => (dD k).1, fun k => (dD k).2), (cI, cZ, cO), s.heap, (s.heap.size, (fun i => if i = GE then te else (ad i).1), r, roS)), (0, 0, mp), ?_, ?_, ?_, rfl⟩
  · have eAA : eA ((fun k => (dD k).1, fun k => (dD k).2), (cI, cZ, cO), s.heap, (s.heap.size, (fun i => if i = GE then te else (ad i).1), r, roS)) = A := by rw [hAd]; rfl
    refine ⟨⟨fun c q hq => hdD c q hq, fun k q hq => ?_⟩, ?_, ?_, ?_, fun q hq => ?_, fun q hq => va_Nc.of (hs _ (of_decide_eq_true (List.all_eq_true.mp ckNc_all q hq))), fun q hq => va_Nw.of rfl (hts _ (of_decide_eq_true (List.all_eq_true.mp ckCa_all q hq))), fun q hq => va_Nw.of rfl (hts _ (of_decide_eq_true (List.all_eq_true.mp ckNe_all q hq))), va_AO.of (hts _ t9), fun a v hav => ?_⟩
    · match k, hq with
      | 0, hq => cases hq; exact ⟨aot i2 i3, i1⟩
      | 1, hq => cases hq; exact ⟨aot z2 z3, z1⟩
      | 2, hq => cases hq; exact ⟨aot o2 o3, kO, coO, o2, o3, o1, o4⟩
      | k + 3, hq => simp at hq
    · rw [eAA]; exact va_Zof (hts _ t1) (hts _ t2) hte hA
    · rw [eAA]; exact va_Zof (hts _ t3) (hts _ t4) (va_eqi (hs _ f3)) hA
    · rw [eAA]; exact hr
    · have hck := List.all_eq_true.mp ckStr_all q hq
      unfold ckStr at hck
      simp only [Bool.and_eq_true, decide_eq_true_eq] at hck
      obtain ⟨⟨-, h6⟩, h7⟩ := hck
      obtain ⟨q', hq', e, hev, -⟩ := had q.2.2.2 h7
      have eqq := strT_one q' hq' q hq e
      subst eqq
      exact vk_R.of (A := args) (hts _ h6) (by show (Term.string q'.1 q'.2.1).eval args s none [] s = some (.ref (if q'.2.2.2 = GE then te else (ad q'.2.2.2).1)); rw [i12 _ h7]; exact hev)
    · obtain ⟨i, hi, e1, e2⟩ := hroS.2 a v hav
      subst e1; subst e2
      obtain ⟨q, -, -, -, p1, p2, p3, -⟩ := had i hi
      rw [eAA]
      exact ⟨p1, p2, p3⟩
  · have eAA : eA ((fun k => (dD k).1, fun k => (dD k).2), (cI, cZ, cO), s.heap, (s.heap.size, (fun i => if i = GE then te else (ad i).1), r, roS)) = A := by rw [hAd]; rfl
    refine ⟨rfl, fun q _ => rfl, fun a c hac => ?_⟩
    rcases hp4 a c hac with ⟨rfl, rfl⟩ | ⟨rfl, rfl⟩ | ⟨i, hi, rfl, rfl⟩
    · exact ⟨Or.inr (Or.inr ⟨rfl, by rw [eAA]; exact hTb⟩), by omega, fun j => i32r _⟩
    · exact ⟨Or.inr ⟨rfl, by rw [eAA]; exact hTe⟩, by show 0 < 2147483648; omega⟩
    · obtain ⟨q, -, -, -, -, -, -, hTi⟩ := had i hi
      exact ⟨Or.inr (Or.inl ⟨rfl, by rw [eAA]; exact hTi⟩), sL_lt i, fun j => sB_r i j⟩
  · refine ⟨rfl, rfl, hL, fun j => i32r _, hbl, hp1, ?_, ?_, fun i hi => ?_, fun a c hac => ?_⟩
    · show mp (if GE = GE then te else (ad GE).1) = _
      rw [if_pos rfl]; exact hp2
    · show (if GE = GE then te else (ad GE).1) < _
      rw [if_pos rfl]; exact T_lt hTe
    · obtain ⟨i', hi', e1, e2⟩ := hroS.1 i hi
      obtain ⟨q, -, -, -, -, p2, -, hTi⟩ := had i hi
      obtain ⟨q', -, -, -, -, p2', -, hTi'⟩ := had i' hi'
      have ev : (ad i').2 = (ad i).2 := Value.ref.inj (OF_uniq (e1 ▸ p2') p2)
      obtain ⟨i2, hi2, e3, e4⟩ := hp3 i hi
      obtain ⟨q2, -, -, -, -, -, -, hTi2⟩ := had i2 hi2
      obtain ⟨-, u2, u3⟩ := T_uniq (e3 ▸ hTi2) hTi
      have el : sL i2 = sL i := ofNat_inj (sL_lt _) (sL_lt _) u2
      refine ⟨(ad i').2, sB i2, ?_, ?_, fun j hj => ?_⟩
      · show roS (if i = GE then te else (ad i).1) = _
        rw [i12 i hi]; exact e2
      · show mp (ad i').2 = _
        rw [ev, e4, el]
      · have := u3 j (by omega) hj
        exact (i32eq (sB_r _ _) (sB_r _ _)).mp (Value.int.inj this)
    · rcases hp4 a c hac with ⟨rfl, -⟩ | ⟨rfl, -⟩ | ⟨i, hi, rfl, -⟩
      · exact hbl
      · exact T_lt hTe
      · obtain ⟨q, -, -, -, -, -, -, hTi⟩ := had i hi
        exact T_lt hTi
end TOP
