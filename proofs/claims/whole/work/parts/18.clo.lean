/-! the machine does what the small machine does -/
theorem ckM_of {y : Nat} (hy : y < mN) (hl : y ≠ lawY) : codeW y ∈ mT ∧ Cond.initialized (mn y).cls ∈ mT ∧ (isSt y = true → Cond.static (mn y) ∈ mT) ∧ (isSt y = false → Cond.instanceMethod (mn y) ∈ mT) ∧ plainFor (mn y) = true ∧ ((mn y).cls ≠ "java/lang/invoke/MethodHandle" ∧ (mn y).cls ≠ "java/lang/invoke/VarHandle" ∧ (parseMethodDescriptor (mn y).desc).map (fun d => d.parameters.length) = some (nas y)) ∧ ml y ≤ 45 := by
  have h := ckM_all hy hl
  unfold ckM at h
  unfold isSt
  generalize mhT.getD y (0, 0, 0, 0) = q at h ⊢
  obtain ⟨a, b, c, k⟩ := q
  simp only [Bool.and_eq_true, noMH, prm, decide_eq_true_eq] at h
  obtain ⟨⟨⟨⟨⟨⟨h1, h2⟩, h3⟩, h4⟩, h5, h6⟩, h7⟩, h8⟩ := h
  refine ⟨tb_in h1, tb_in h2, fun hk => ?_, fun hk => ?_, h4, ⟨h5, h6, h7⟩, h8⟩
  · simp only [beq_iff_eq] at hk
    rw [if_pos hk] at h3
    exact tb_in h3
  · simp only [beq_eq_false_iff_ne] at hk
    rw [if_neg hk] at h3
    exact tb_in h3
/-- what holds inside a method -/
def inM (E : ME) (p : Program) (s : State) (m : MethodId) (args : Array Value) (meth : Method) (c : Code) (y : Nat) : Prop :=
  p.tables.exec = Jvm.exec ∧ c.code = mc y ∧ meth.sig.returnType = mr y ∧ c.maxLocals = ml y ∧ s.vm.findClass (own y) = some m.cls ∧ (∀ w ∈ mT, w.before args s = true) ∧ meth.locks = false ∧ KU E s ∧ ((mn y).name = "<init>" → meth.name = "<init>")
/-- contracts of all methods, so many calls deep -/
def Snd (E : ME) (l : Launch) (d : Nat) : Prop := ∀ (y : Nat) (a : List V) (h : MH) (r : Option V) (hf : MH), y < mN → y ≠ lawY → wpC E.2.2.2 d y a h (qEq r hf) → wfS a → MetD E l d y a h r hf
section CLO
variable {E : ME} {p : Program} {l : Launch} {e : Env} {R : Room} {s : State} {m : MethodId} {args : Array Value} {below : List Frame} {meth : Method} {c : Code} {hf h0 : MH} {nL : Nat} {Qf : State → Prop}
variable {pc nx : Nat} {L : Loc'} {st : List V} {h : MH} {y d : Nat} {r : Option V}
theorem wfS_rt {n : Nat} (ws : wfS st) : wfS ((st.take n).reverse) := fun v hv => ws v (List.mem_of_mem_take (List.mem_reverse.mp hv))
theorem range14 {P : Nat → Bool} (h : (List.range 14).all P = true) {t : Nat} (ht : t < 14) : P t = true := List.all_eq_true.mp h t (List.mem_range.mpr ht)
theorem ckF_of {own' : String} {ini put : Bool} {ix k w ty : Nat} {hh : List Nat} (hts : ∀ w ∈ mT, w.before args s = true) (hc : ckF own' ini put y ix k w ty hh = true) : ∃ ref name desc : String, (Cond.fieldLink (own y) ix ref name desc).before args s = true ∧ (put = false → fOK s k w ref name desc) ∧ (put = true → pOK s own' ini k w ty ref name desc) := by
  unfold ckF at hc
  split at hc
  · rename_i o2 i2 ref name desc hw
    simp only [Bool.and_eq_true, decide_eq_true_eq] at hc
    obtain ⟨⟨⟨rfl, rfl⟩, h1⟩, h2⟩ := hc
    have key : ∀ t, t < 14 → okSet w t = true → (k < cL t ∧ (cT t k).2.1 = name ∧ (cT t k).2.2.1 = desc ∧ ∀ x, s.fieldFound? (cT t k).1 name desc = some x → s.fieldFound? ref name desc = some x) ∧ (put = true → ((cT t k).2.2.2 = false ∨ ((cT t k).2.2.2 = true ∧ ini = true ∧ (cT t k).1 = own')) ∧ ((ty = 0 ∧ desc = "I") ∨ (ty = 1 ∧ desc = "Z") ∨ (ty = 2 ∧ ∃ ft, parseFieldDescriptor desc = some ft ∧ ft.isReference = true))) := by
      intro t ht hok
      have z := range14 h2 ht
      simp only [hok, Bool.not_true, Bool.false_or, Bool.and_eq_true, decide_eq_true_eq, Bool.or_eq_true] at z
      obtain ⟨⟨⟨⟨z1, z2⟩, z3⟩, z4⟩, z5⟩ := z
      refine ⟨⟨z1, z2, z3, fun x hx => ?_⟩, fun hp => ?_⟩
      · rcases z4 with z4 | z4
        · rw [← z4]; exact hx
        · exact u_same (hts _ (tb_in z4)) x hx
      · subst hp
        simp only [Bool.not_true, Bool.false_eq_true, false_or] at z5
        obtain ⟨q1, q2⟩ := z5
        refine ⟨?_, ?_⟩
        · rcases q1 with q1 | ⟨q1, q3⟩
          · exact Or.inl q1
          · cases hfin : (cT t k).2.2.2 with
            | false => exact Or.inl rfl
            | true => exact Or.inr ⟨rfl, q1, q3⟩
        · rcases q2 with (q2 | q2) | ⟨q2, q3⟩
          · exact Or.inl q2
          · exact Or.inr (Or.inl q2)
          · refine Or.inr (Or.inr ⟨q2, ?_⟩)
            split at q3
            · rename_i ft hft; exact ⟨ft, hft, q3⟩
            · cases q3
    refine ⟨ref, name, desc, hts _ (tb_in h1), fun hp => fun t ht hok => (key t ht hok).1, fun hp t ht hok => ?_⟩
    · obtain ⟨⟨k1, k2, k3, k4⟩, k5⟩ := key t ht hok
      exact ⟨k1, k2, k3, k4, (k5 hp).1, (k5 hp).2⟩
  · cases hc
theorem ckX_of {x n t z : Nat} (hc : ckX x n = true) (hz : vsel x t = some z) : (parseMethodDescriptor (xn x).desc).map (fun d => d.parameters.length) = some n ∧ t < 14 ∧ z < mN ∧ z ≠ lawY ∧ isSt z = false ∧ nas z = n ∧ Cond.selects (cN t) (xn x) (mn z) ∈ mT ∧
    (xn x = mn z ∨ ∃ z0, Cond.sameMethod (xn x).cls (mn z0).cls (xn x).name (xn x).desc ∈ mT ∧ (⟨(mn z0).cls, (xn x).name, (xn x).desc⟩ : MethodName) = mn z0 ∧ z0 < mN ∧ z0 ≠ lawY ∧ isSt z0 = false) := by
  unfold ckX at hc
  simp only [Bool.and_eq_true, decide_eq_true_eq] at hc
  obtain ⟨⟨h1, h2⟩, h3⟩ := hc
  have am : ∀ {l : List (Nat × Nat)} {t z : Nat}, assoc l t = some z → ∃ i : Nat, l[i]? = some (t, z) := by
    intro l
    induction l with
    | nil => intro t z h; cases h
    | cons q l ih =>
      intro t z h
      obtain ⟨a, b⟩ := q
      unfold assoc at h
      split at h
      · rename_i e; cases h; subst e; exact ⟨0, rfl⟩
      · obtain ⟨i, hi⟩ := ih h
        exact ⟨i + 1, by simpa using hi⟩
  obtain ⟨i, hi⟩ := am hz
  have hil := (List.getElem?_eq_some_iff.mp hi).1
  obtain ⟨j, hj⟩ : ∃ j, (xsT.getD x [])[i]? = some j := ⟨_, List.getElem?_eq_getElem (by omega)⟩
  have hm : ((t, z), j) ∈ ((vselT[x]?).getD []).zip (xsT.getD x []) := List.mem_of_getElem? (i := i) (by rw [List.getElem?_zip_eq_some]; exact ⟨hi, hj⟩)
  have h4 := List.all_eq_true.mp h2 _ hm
  unfold ckS at h4
  unfold prm at h1
  simp only [Bool.and_eq_true, Bool.or_eq_true, decide_eq_true_eq, Bool.not_eq_true'] at h4 h1
  obtain ⟨⟨⟨⟨⟨⟨a1, a2⟩, a3⟩, a4⟩, a5⟩, a6⟩, a7⟩ := h4
  refine ⟨h1, a1, a2, a3, a4, a5, tb_in a6, ?_⟩
  rcases a7 with a7 | a7
  · exact Or.inl a7
  · right
    generalize xmT.getD x (0, 0) = q at a7
    obtain ⟨j2, z0⟩ := q
    simp only [Bool.and_eq_true, decide_eq_true_eq, Bool.not_eq_true'] at a7
    obtain ⟨⟨⟨⟨b1, b2⟩, b3⟩, b4⟩, b5⟩ := a7
    exact ⟨z0, tb_in b1, b2, b3, b4, b5⟩
/-- one instruction: what the small machine does from there on, the machine does -/
theorem clo (hI : inM E p s m args meth c y) (hSnd : Snd E l d) (hR1 : d + 2 ≤ R.frames) (hR2 : 64 * d + 192 ≤ R.locals) (hR3 : hf.1 - h0.1 ≤ R.cells ∧ hf.2.1 - h0.2.1 ≤ R.slots) (hnf : nativeFrameWords "java/lang/System" "arraycopy" 5 ≤ 100) (hnL : nL = ml y)
    (hret : ∀ (i : Instr) (v : Int) (o : List Nat), cd y pc = some (nx, i, v, o) → (i = .ireturn ∨ i = .lreturn ∨ i = .areturn ∨ i = .return_) → stp E.2.2.2 (wpC E.2.2.2 d) (qEq r hf) (mmW E p l e R s m args below meth c Qf hf h0 nL) pc (some (nx, i, v, o)) L st h → mmX E p l e R s m args below meth c Qf h0 nL pc L st h)
    {ins : Instr} {v : Int} {o : List Nat} (hcd : cd y pc = some (nx, ins, v, o))
    (hs : stp E.2.2.2 (wpC E.2.2.2 d) (qEq r hf) (mmW E p l e R s m args below meth c Qf hf h0 nL) pc (some (nx, ins, v, o)) L st h) : mmX E p l e R s m args below meth c Qf h0 nL pc L st h := by
  obtain ⟨hx, hb, hrt, hml, hown, hts, hlocks, hU, hnm⟩ := hI
  subst hnL
  obtain ⟨hd, hnx, hc⟩ := ck_all hcd
  have rmk : ∀ {z : Nat}, z < mN → z ≠ lawY → rmOK R d z h0 hf := fun {z} hz hl => ⟨hR1, by have := (ckM_of hz hl).2.2.2.2.2.2; omega, hR3⟩
  cases ins with
  | iconst a0 =>
    obtain rfl : nx = pc + 1 := hnx
    exact z_iconst (G := E.2.2.2) (C := wpC E.2.2.2 d) (Q := qEq r hf) hx hb hd hs
  | bipush a0 =>
    obtain rfl : nx = pc + 2 := hnx
    exact z_bipush (G := E.2.2.2) (C := wpC E.2.2.2 d) (Q := qEq r hf) hx hb hd hs
  | sipush a0 =>
    obtain rfl : nx = pc + 3 := hnx
    exact z_sipush (G := E.2.2.2) (C := wpC E.2.2.2 d) (Q := qEq r hf) hx hb hd hs
  | lconst a0 =>
    obtain rfl : nx = pc + 1 := hnx
    exact z_lconst (G := E.2.2.2) (C := wpC E.2.2.2 d) (Q := qEq r hf) hx hb hd hs
  | aconst_null  =>
    obtain rfl : nx = pc + 1 := hnx
    exact z_nul (G := E.2.2.2) (C := wpC E.2.2.2 d) (Q := qEq r hf) hx hb hd hs
  | iload_n a0 =>
    obtain rfl : nx = pc + 1 := hnx
    exact z_iload_n (G := E.2.2.2) (C := wpC E.2.2.2 d) (Q := qEq r hf) hx hb hd hs
  | iload a0 =>
    obtain rfl : nx = pc + 2 := hnx
    exact z_iload (G := E.2.2.2) (C := wpC E.2.2.2 d) (Q := qEq r hf) hx hb hd hs
  | lload_n a0 =>
    obtain rfl : nx = pc + 1 := hnx
    exact z_lload_n (G := E.2.2.2) (C := wpC E.2.2.2 d) (Q := qEq r hf) hx hb hd hs
  | lload a0 =>
    obtain rfl : nx = pc + 2 := hnx
    exact z_lload (G := E.2.2.2) (C := wpC E.2.2.2 d) (Q := qEq r hf) hx hb hd hs
  | aload_n a0 =>
    obtain rfl : nx = pc + 1 := hnx
    exact z_aload_n (G := E.2.2.2) (C := wpC E.2.2.2 d) (Q := qEq r hf) hx hb hd hs
  | aload a0 =>
    obtain rfl : nx = pc + 2 := hnx
    exact z_aload (G := E.2.2.2) (C := wpC E.2.2.2 d) (Q := qEq r hf) hx hb hd hs
  | istore_n a0 =>
    obtain rfl : nx = pc + 1 := hnx
    exact z_istore_n (G := E.2.2.2) (C := wpC E.2.2.2 d) (Q := qEq r hf) hx hb hd hs
  | istore a0 =>
    obtain rfl : nx = pc + 2 := hnx
    exact z_istore (G := E.2.2.2) (C := wpC E.2.2.2 d) (Q := qEq r hf) hx hb hd hs
  | lstore_n a0 =>
    obtain rfl : nx = pc + 1 := hnx
    exact z_lstore_n (G := E.2.2.2) (C := wpC E.2.2.2 d) (Q := qEq r hf) hx hb hd hs
  | lstore a0 =>
    obtain rfl : nx = pc + 2 := hnx
    exact z_lstore (G := E.2.2.2) (C := wpC E.2.2.2 d) (Q := qEq r hf) hx hb hd hs
  | astore_n a0 =>
    obtain rfl : nx = pc + 1 := hnx
    exact z_astore_n (G := E.2.2.2) (C := wpC E.2.2.2 d) (Q := qEq r hf) hx hb hd hs
  | astore a0 =>
    obtain rfl : nx = pc + 2 := hnx
    exact z_astore (G := E.2.2.2) (C := wpC E.2.2.2 d) (Q := qEq r hf) hx hb hd hs
  | iinc a0 a1 =>
    obtain rfl : nx = pc + 3 := hnx
    exact z_iinc (G := E.2.2.2) (C := wpC E.2.2.2 d) (Q := qEq r hf) hx hb hd hs
  | iadd  =>
    obtain rfl : nx = pc + 1 := hnx
    exact z_iadd (G := E.2.2.2) (C := wpC E.2.2.2 d) (Q := qEq r hf) hx hb hd hs
  | isub  =>
    obtain rfl : nx = pc + 1 := hnx
    exact z_isub (G := E.2.2.2) (C := wpC E.2.2.2 d) (Q := qEq r hf) hx hb hd hs
  | imul  =>
    obtain rfl : nx = pc + 1 := hnx
    exact z_imul (G := E.2.2.2) (C := wpC E.2.2.2 d) (Q := qEq r hf) hx hb hd hs
  | iand  =>
    obtain rfl : nx = pc + 1 := hnx
    exact z_iand (G := E.2.2.2) (C := wpC E.2.2.2 d) (Q := qEq r hf) hx hb hd hs
  | ior  =>
    obtain rfl : nx = pc + 1 := hnx
    exact z_ior (G := E.2.2.2) (C := wpC E.2.2.2 d) (Q := qEq r hf) hx hb hd hs
  | ixor  =>
    obtain rfl : nx = pc + 1 := hnx
    exact z_ixor (G := E.2.2.2) (C := wpC E.2.2.2 d) (Q := qEq r hf) hx hb hd hs
  | ishl  =>
    obtain rfl : nx = pc + 1 := hnx
    exact z_ishl (G := E.2.2.2) (C := wpC E.2.2.2 d) (Q := qEq r hf) hx hb hd hs
  | ishr  =>
    obtain rfl : nx = pc + 1 := hnx
    exact z_ishr (G := E.2.2.2) (C := wpC E.2.2.2 d) (Q := qEq r hf) hx hb hd hs
  | iushr  =>
    obtain rfl : nx = pc + 1 := hnx
    exact z_iushr (G := E.2.2.2) (C := wpC E.2.2.2 d) (Q := qEq r hf) hx hb hd hs
  | idiv  =>
    obtain rfl : nx = pc + 1 := hnx
    exact z_idiv (G := E.2.2.2) (C := wpC E.2.2.2 d) (Q := qEq r hf) hx hb hd hs
  | irem  =>
    obtain rfl : nx = pc + 1 := hnx
    exact z_irem (G := E.2.2.2) (C := wpC E.2.2.2 d) (Q := qEq r hf) hx hb hd hs
  | ineg  =>
    obtain rfl : nx = pc + 1 := hnx
    exact z_ineg (G := E.2.2.2) (C := wpC E.2.2.2 d) (Q := qEq r hf) hx hb hd hs
  | i2c  =>
    obtain rfl : nx = pc + 1 := hnx
    exact z_i2c (G := E.2.2.2) (C := wpC E.2.2.2 d) (Q := qEq r hf) hx hb hd hs
  | i2b  =>
    obtain rfl : nx = pc + 1 := hnx
    exact z_i2b (G := E.2.2.2) (C := wpC E.2.2.2 d) (Q := qEq r hf) hx hb hd hs
  | i2l  =>
    obtain rfl : nx = pc + 1 := hnx
    exact z_i2l (G := E.2.2.2) (C := wpC E.2.2.2 d) (Q := qEq r hf) hx hb hd hs
  | ladd  =>
    obtain rfl : nx = pc + 1 := hnx
    exact z_ladd (G := E.2.2.2) (C := wpC E.2.2.2 d) (Q := qEq r hf) hx hb hd hs
  | lneg  =>
    obtain rfl : nx = pc + 1 := hnx
    exact z_lneg (G := E.2.2.2) (C := wpC E.2.2.2 d) (Q := qEq r hf) hx hb hd hs
  | lrem  =>
    obtain rfl : nx = pc + 1 := hnx
    exact z_lrem (G := E.2.2.2) (C := wpC E.2.2.2 d) (Q := qEq r hf) hx hb hd hs
  | ldiv  =>
    obtain rfl : nx = pc + 1 := hnx
    exact z_ldiv (G := E.2.2.2) (C := wpC E.2.2.2 d) (Q := qEq r hf) hx hb hd hs
  | lcmp  =>
    obtain rfl : nx = pc + 1 := hnx
    exact z_lcmp (G := E.2.2.2) (C := wpC E.2.2.2 d) (Q := qEq r hf) hx hb hd hs
  | dup  =>
    obtain rfl : nx = pc + 1 := hnx
    exact z_dup (G := E.2.2.2) (C := wpC E.2.2.2 d) (Q := qEq r hf) hx hb hd hs
  | pop  =>
    obtain rfl : nx = pc + 1 := hnx
    exact z_pop (G := E.2.2.2) (C := wpC E.2.2.2 d) (Q := qEq r hf) hx hb hd hs
  | dup_x1  =>
    obtain rfl : nx = pc + 1 := hnx
    exact z_dup_x1 (G := E.2.2.2) (C := wpC E.2.2.2 d) (Q := qEq r hf) hx hb hd hs
  | dup2  =>
    obtain rfl : nx = pc + 1 := hnx
    exact z_dup2 (G := E.2.2.2) (C := wpC E.2.2.2 d) (Q := qEq r hf) hx hb hd hs
  | iaload  =>
    obtain rfl : nx = pc + 1 := hnx
    exact z_iald (C := wpC E.2.2.2 d) (Q := qEq r hf) hx hb hU hd hs
  | baload  =>
    obtain rfl : nx = pc + 1 := hnx
    exact z_bald (C := wpC E.2.2.2 d) (Q := qEq r hf) hx hb hU hd hs
  | aaload  =>
    obtain rfl : nx = pc + 1 := hnx
    exact z_aald (C := wpC E.2.2.2 d) (Q := qEq r hf) hx hb hU hd hs
  | iastore  =>
    obtain rfl : nx = pc + 1 := hnx
    exact z_iast (C := wpC E.2.2.2 d) (Q := qEq r hf) hx hb hU hd hs
  | bastore  =>
    obtain rfl : nx = pc + 1 := hnx
    exact z_bast (C := wpC E.2.2.2 d) (Q := qEq r hf) hx hb hU hd hs
  | arraylength  =>
    obtain rfl : nx = pc + 1 := hnx
    exact z_alen (C := wpC E.2.2.2 d) (Q := qEq r hf) hx hb hU hd hs
  | aastore  =>
    obtain rfl : nx = pc + 1 := hnx
    exact z_aast (C := wpC E.2.2.2 d) (Q := qEq r hf) hx hb hts hU hd hs
  | ifCond a0 a1 =>
    obtain rfl : nx = pc + 3 := hnx
    exact z_ifc (G := E.2.2.2) (C := wpC E.2.2.2 d) (Q := qEq r hf) hx hb (of_decide_eq_true hc) hd hs
  | if_icmp a0 a1 =>
    obtain rfl : nx = pc + 3 := hnx
    exact z_icmp (G := E.2.2.2) (C := wpC E.2.2.2 d) (Q := qEq r hf) hx hb (of_decide_eq_true hc) hd hs
  | ifnull a0 =>
    obtain rfl : nx = pc + 3 := hnx
    exact z_ifnull (G := E.2.2.2) (C := wpC E.2.2.2 d) (Q := qEq r hf) hx hb (of_decide_eq_true hc) hd hs
  | ifnonnull a0 =>
    obtain rfl : nx = pc + 3 := hnx
    exact z_ifnn (G := E.2.2.2) (C := wpC E.2.2.2 d) (Q := qEq r hf) hx hb (of_decide_eq_true hc) hd hs
  | goto a0 =>
    obtain rfl : nx = pc + 3 := hnx
    exact z_goto (nx := pc + 3) (G := E.2.2.2) (C := wpC E.2.2.2 d) (Q := qEq r hf) hx hb (of_decide_eq_true hc) hd hs
  | if_acmp a0 a1 =>
    obtain rfl : nx = pc + 3 := hnx
    cases a0 with
    | eq => exact z_acmpe (nx := pc + 3) (G := E.2.2.2) (C := wpC E.2.2.2 d) (Q := qEq r hf) hx hb (of_decide_eq_true hc) hd hs
    | ne => exact z_acmpn (nx := pc + 3) (G := E.2.2.2) (C := wpC E.2.2.2 d) (Q := qEq r hf) hx hb (of_decide_eq_true hc) hd hs
  | tableswitch a0 a1 a2 a3 =>
    simp only [ckI, Bool.and_eq_true, decide_eq_true_eq] at hc
    obtain ⟨⟨h1, h2⟩, h3⟩ := hc
    refine z_tsw (nx := nx) (G := E.2.2.2) (C := wpC E.2.2.2 d) (Q := qEq r hf) hx hb h1 h2 (fun i hi => ?_) hd hs
    have h4 := List.all_eq_true.mp h3 (a3.getD i 0) (by
      rw [Array.getD_eq_getD_getElem?, Array.getElem?_eq_getElem hi]
      simp)
    simpa using h4
  | lookupswitch a0 a1 =>
    simp only [ckI, Bool.and_eq_true, decide_eq_true_eq] at hc
    obtain ⟨⟨h1, h2⟩, h3⟩ := hc
    refine z_lsw (nx := nx) (G := E.2.2.2) (C := wpC E.2.2.2 d) (Q := qEq r hf) hx hb h1 (fun x => ?_) hd hs
    have key : ∀ (l : List (Int × Int)), (∀ q ∈ l, 0 ≤ (pc : Int) + q.2) → 0 ≤ (pc : Int) + Op.lookupswitch.offset l a0 x := by
      intro l
      induction l with
      | nil => intro _; exact h2
      | cons q l ih =>
        intro hq
        obtain ⟨q1, q2⟩ := q
        rw [Op.lookupswitch.offset_cons]
        split
        · exact hq (q1, q2) List.mem_cons_self
        · exact ih (fun z hz => hq z (List.mem_cons_of_mem _ hz))
    exact key _ (fun q hq => by simpa using List.all_eq_true.mp h3 q hq)
  | ldc a0 =>
    obtain rfl : nx = pc + 2 := hnx
    cases o with
    | nil =>
      simp only [ckI, rInt, Bool.and_eq_true, decide_eq_true_eq] at hc
      exact z_ldc (G := E.2.2.2) (C := wpC E.2.2.2 d) (Q := qEq r hf) hx hb hc.1 hown (hts _ (tb_in hc.2)) hd hs
    | cons k l =>
      simp only [ckI, List.any_eq_true, Bool.and_eq_true, decide_eq_true_eq] at hc
      obtain ⟨⟨q1, q2, q3, q4⟩, hq, ⟨rfl, rfl⟩, rfl⟩ := hc
      exact z_ldcs (C := wpC E.2.2.2 d) (Q := qEq r hf) hx hb hU hown hq hd hs
  | ldc_w a0 =>
    obtain rfl : nx = pc + 3 := hnx
    simp only [ckI, rInt, Bool.and_eq_true, decide_eq_true_eq] at hc
    exact z_ldcw (G := E.2.2.2) (C := wpC E.2.2.2 d) (Q := qEq r hf) hx hb hc.1 hown (hts _ (tb_in hc.2)) hd hs
  | ldc2_w a0 =>
    obtain rfl : nx = pc + 3 := hnx
    simp only [ckI, rLong, Bool.and_eq_true, decide_eq_true_eq] at hc
    exact z_ldc2 (G := E.2.2.2) (C := wpC E.2.2.2 d) (Q := qEq r hf) hx hb hc.1 hown (hts _ (tb_in hc.2)) hd hs
  | getfield a0 =>
    obtain rfl : nx = pc + 3 := hnx
    have gf : ckF (own y) false false y a0 (nOp o 0) (nOp o 1) 0 (hn y pc) = true → s_getf E.2.2.2 (wpC E.2.2.2 d) (qEq r hf) (mmW E p l e R s m args below meth c Qf hf h0 (ml y)) (pc + 3) (nOp o 0) (nOp o 1) L st h → mmX E p l e R s m args below meth c Qf h0 (ml y) pc L st h := fun hc hs => by
      obtain ⟨ref, name, desc, h1, h2, -⟩ := ckF_of hts hc
      exact z_getf (C := wpC E.2.2.2 d) (Q := qEq r hf) hx hb hts hU hown h1 (h2 rfl) hd hs
    cases o with
    | nil => exact gf hc hs
    | cons k l2 =>
      cases l2 with
      | cons _ _ => exact gf hc hs
      | nil =>
        simp only [ckI] at hc
        split at hc
        · rename_i o2 i2 ref name desc hw
          simp only [Bool.and_eq_true, Bool.or_eq_true, decide_eq_true_eq] at hc
          obtain ⟨⟨⟨⟨rfl, rfl⟩, h1⟩, h2⟩, h3⟩ := hc
          refine z_gets (C := wpC E.2.2.2 d) (Q := qEq r hf) hx hb hU hown (hts _ (tb_in h1)) ⟨h2, ?_⟩ hd hs
          rcases h3 with q2 | q2
          · exact Or.inl ⟨q2.1.1, q2.1.2, q2.2⟩
          · exact Or.inr ⟨q2.1.1, q2.1.2, q2.2⟩
        · cases hc
  | putfield a0 =>
    obtain rfl : nx = pc + 3 := hnx
    obtain ⟨ref, name, desc, h1, -, h2⟩ := ckF_of hts hc
    exact z_putf (C := wpC E.2.2.2 d) (Q := qEq r hf) hx hb hts hU (fun q => hnm (of_decide_eq_true q)) hown h1 (h2 rfl) hd hs
  | getstatic a0 =>
    obtain rfl : nx = pc + 3 := hnx
    cases o with
    | nil =>
      simp only [ckI, Bool.and_eq_true, decide_eq_true_eq] at hc
      obtain ⟨rfl, hc⟩ := hc
      exact z_gstG (v := vI 1) hx hb hU.2.2.1 ⟨by decide, by decide⟩ hown (hts _ (tb_in hc)) hd hs.2
    | cons k l =>
      cases l with
      | nil =>
        simp only [ckI, Bool.and_eq_true, decide_eq_true_eq] at hc
        obtain ⟨rfl, hc⟩ := hc
        exact z_gstG (v := vR (E.2.2.2.2.1 GE)) hx hb hU.2.1 trivial hown (hts _ (tb_in hc)) hd hs.2
      | cons k2 l2 =>
        exact z_gstG (v := vO E.2.2.2.2.2.1) hx hb (by rw [cV_o]; exact hU.2.2.2.1) trivial hown (hts _ (tb_in hc)) hd hs.2
  | new a0 =>
    obtain rfl : nx = pc + 3 := hnx
    simp only [ckI, Bool.and_eq_true, decide_eq_true_eq] at hc
    exact z_new (C := wpC E.2.2.2 d) (Q := qEq r hf) hx hb hts hU hc.1 hown (hts _ (tb_in hc.2)) hR3 hd hs
  | newarray a0 =>
    obtain rfl : nx = pc + 2 := hnx
    cases a0 with
    | int => exact z_newa (C := wpC E.2.2.2 d) (Q := qEq r hf) hx hb hU (Or.inl ⟨rfl, rfl⟩) (hts _ (tb_in hc)) hR3 hd hs
    | boolean => exact z_newa (C := wpC E.2.2.2 d) (Q := qEq r hf) hx hb hU (Or.inr ⟨rfl, rfl⟩) (hts _ (tb_in hc)) hR3 hd hs
    | _ => exact hs.elim
  | anewarray a0 =>
    obtain rfl : nx = pc + 3 := hnx
    exact z_anew (C := wpC E.2.2.2 d) (Q := qEq r hf) hx hb hU hown (hts _ (tb_in hc)) hR3 hd hs
  | checkcast a0 =>
    obtain rfl : nx = pc + 3 := hnx
    cases o with
    | nil => exact z_casta (C := wpC E.2.2.2 d) (Q := qEq r hf) hx hb hU hown (hts _ (tb_in hc)) hd hs
    | cons w l =>
      simp only [ckI] at hc
      split at hc
      · rename_i o2 i2 nm hw
        simp only [Bool.and_eq_true, decide_eq_true_eq] at hc
        obtain ⟨⟨⟨rfl, rfl⟩, h1⟩, h3⟩ := hc
        refine z_cast (C := wpC E.2.2.2 d) (Q := qEq r hf) hx hb hts hU hown (hts _ (tb_in h1)) (fun t ht hok => ?_) hd hs
        have z := range14 h3 ht
        simp only [hok, Bool.not_true, Bool.false_or, Bool.or_eq_true, decide_eq_true_eq] at z
        exact z
      · cases hc
  | instanceof a0 =>
    obtain rfl : nx = pc + 3 := hnx
    simp only [ckI] at hc
    split at hc
    · rename_i o2 i2 nm hw
      simp only [Bool.and_eq_true, decide_eq_true_eq] at hc
      obtain ⟨⟨⟨rfl, rfl⟩, h1⟩, h3⟩ := hc
      refine z_inst (C := wpC E.2.2.2 d) (Q := qEq r hf) hx hb hts hU hown (hts _ (tb_in h1)) (fun t ht hau => ?_) hd hs
      have z := range14 h3 ht
      simp only [hau, Bool.not_true, Bool.false_or] at z
      refine ⟨fun hok => ?_, fun hok => ?_⟩
      · rw [if_pos hok] at z
        simpa using z
      · rw [if_neg (by rw [hok]; decide)] at z
        exact of_decide_eq_true z
    · cases hc
  | invokestatic a0 =>
    obtain rfl : nx = pc + 3 := hnx
    cases o with
    | nil =>
      simp only [ckI, Bool.and_eq_true] at hc
      exact z_cpya (C := wpC E.2.2.2 d) (Q := qEq r hf) hx hb hU hml hown (hts _ (tb_in hc.1.1.1)) (hts _ (tb_in hc.1.1.2)) (hts _ (tb_in hc.1.2)) (hts _ (tb_in hc.2)) (by omega) (by omega) hd hs
    | cons z l =>
      simp only [ckI, Bool.and_eq_true, Bool.or_eq_true, decide_eq_true_eq] at hc
      obtain ⟨⟨⟨⟨h1, h2⟩, h3⟩, h4⟩, h5⟩ := hc
      obtain ⟨m1, m2, m3, m4, m5, m6, m7⟩ := ckM_of h1 h2
      obtain ⟨hl, hC⟩ := hs
      obtain ⟨r1, h1', hP, hb1, hw⟩ := wpC_ex d _ _ _ _ hC
      intro hg wl ws hn H locs ls hR hlo hls
      refine z_stat hx hb hts hU hml hown m1 ?_ (m3 h3) m2 (by rw [h4]; exact m6) (rmk h1 h2) hd (hSnd z _ _ _ _ h1 h2 hw (wfS_rt ws)) hb1 hl hP hg wl ws hn H locs ls hR hlo hls
      rcases h5 with h5 | h5
      · exact Or.inl (tb_in h5)
      · simp only [List.any_eq_true, Bool.and_eq_true, decide_eq_true_eq] at h5
        obtain ⟨⟨q1, q2, q3, q4⟩, hq, ⟨rfl, rfl⟩, rfl⟩ := h5
        exact Or.inr ⟨q4, hq⟩
  | invokevirtual a0 =>
    obtain rfl : nx = pc + 3 := hnx
    cases o with
    | nil =>
      simp only [ckI, Bool.and_eq_true] at hc
      exact z_cln (C := wpC E.2.2.2 d) (Q := qEq r hf) hx hb hU hml hown (hts _ (tb_in hc.1.1.1.1)) (hts _ (tb_in hc.1.1.1.2)) (hts _ (tb_in hc.1.1.2)) (hts _ (tb_in hc.1.2)) (hts _ (tb_in hc.2)) (by omega) (by omega) hR3 hd hs
    | cons x l2 =>
      cases l2 with
      | nil =>
        have vs : (decide (x < mN) && decide (x ≠ lawY) && !isSt x && decide (nOp [] 0 = nas x) && tb ((hn y pc).getD 0 0) (.methodLink (own y) a0 (mn x)) && tb ((hn y pc).getD 1 0) (.selects "java/lang/String" (mn x) (mn x))) = true → s_vstr E.2.2.2 (wpC E.2.2.2 d) (qEq r hf) (mmW E p l e R s m args below meth c Qf hf h0 (ml y)) (pc + 3) x (nOp [] 0) L st h → mmX E p l e R s m args below meth c Qf h0 (ml y) pc L st h := fun hc hs => by
          simp only [Bool.and_eq_true, decide_eq_true_eq, Bool.not_eq_true'] at hc
          obtain ⟨⟨⟨⟨⟨h1, h2⟩, h3⟩, h4⟩, k1⟩, k2⟩ := hc
          obtain ⟨m1, m2, m3, m4, m5, m6, m7⟩ := ckM_of h1 h2
          obtain ⟨hl, hs⟩ := hs
          split at hs
          · rename_i a hv
            cases hro : E.2.2.2.2.2.2 a with
            | none => rw [hro] at hs; exact hs.elim
            | some v' =>
              rw [hro] at hs
              obtain ⟨r1, h1', hP, hb1, hw⟩ := wpC_ex d _ _ _ _ (show wpC E.2.2.2 d x _ h _ from hs)
              intro hg wl ws hn H locs ls hR hlo hls
              refine z_virt (t := 0) (fs := []) (cn := "java/lang/String") hx hb hts hU hml hown m1 (tb_in k1) (m4 h3) m2 ?_ (tb_in k2) (Or.inl rfl) (by rw [h4]; exact m6) (by rw [h4]; exact m6.2.2) (rmk h1 h2) hd (hSnd x _ _ _ _ h1 h2 hw (wfS_rt ws)) hb1 hl hv hP hg wl ws hn H locs ls hR hlo hls
              refine ⟨default, fun H hR => ?_⟩
              obtain ⟨⟨cell, o1, o2, o3, o4⟩, -, -⟩ := hU.2.2.2.2.2.2.2.2.2 a v' hro
              exact ⟨cell, by rw [hR.2.1 a (Nat.not_le.mp o4)]; exact o1, o2, o3⟩
          · exact hs.elim
        exact vs hc hs
      | cons n l3 =>
        cases l3 with
        | nil =>
            simp only [ckI, Bool.and_eq_true] at hc
            obtain ⟨k1, k2⟩ := hc
            obtain ⟨hl, hs⟩ := hs
            split at hs
            · rename_i a hv
              unfold xTag at hs
              split at hs
              · rename_i t fs hcell
                unfold xSel at hs
                split at hs
                · rename_i z hz
                  obtain ⟨b1, b2, b3, b4, b5, b6, b7, b8⟩ := ckX_of k2 hz
                  obtain ⟨m1, m2, m3, m4, m5, m6, m7⟩ := ckM_of b3 b4
                  obtain ⟨r1, h1', hP, hb1, hw⟩ := wpC_ex d _ _ _ _ hs
                  intro hg wl ws hn H locs ls hR hlo hls
                  refine z_virt (t := t) (fs := fs) (cn := cN t) hx hb hts hU hml hown m1 (tb_in k1) (m4 b5) m2 ?_ b7 ?_ (by rw [← b6]; exact m6) b1 (rmk b3 b4) hd (hSnd z _ _ _ _ b3 b4 hw (wfS_rt ws)) hb1 hl hv hP hg wl ws hn H locs ls hR hlo hls
                  · refine ⟨default, fun H hR => ?_⟩
                    exact recvC hU hR hcell b2
                  · rcases b8 with b8 | ⟨z0, c1, c2, c3, c4, c5⟩
                    · exact Or.inl b8
                    · obtain ⟨n1, n2, n3, n4, n5, n6, n7⟩ := ckM_of c3 c4
                      exact Or.inr ⟨_, z0, c1, c2, n1, n4 c5, n6.1, n6.2.1⟩
                · exact hs.elim
              · exact hs.elim
            · exact hs.elim
        | cons q l4 =>
          have vs : (decide (x < mN) && decide (x ≠ lawY) && !isSt x && decide (nOp (n :: q :: l4) 0 = nas x) && tb ((hn y pc).getD 0 0) (.methodLink (own y) a0 (mn x)) && tb ((hn y pc).getD 1 0) (.selects "java/lang/String" (mn x) (mn x))) = true → s_vstr E.2.2.2 (wpC E.2.2.2 d) (qEq r hf) (mmW E p l e R s m args below meth c Qf hf h0 (ml y)) (pc + 3) x (nOp (n :: q :: l4) 0) L st h → mmX E p l e R s m args below meth c Qf h0 (ml y) pc L st h := fun hc hs => by
            simp only [Bool.and_eq_true, decide_eq_true_eq, Bool.not_eq_true'] at hc
            obtain ⟨⟨⟨⟨⟨h1, h2⟩, h3⟩, h4⟩, k1⟩, k2⟩ := hc
            obtain ⟨m1, m2, m3, m4, m5, m6, m7⟩ := ckM_of h1 h2
            obtain ⟨hl, hs⟩ := hs
            split at hs
            · rename_i a hv
              cases hro : E.2.2.2.2.2.2 a with
              | none => rw [hro] at hs; exact hs.elim
              | some v' =>
                rw [hro] at hs
                obtain ⟨r1, h1', hP, hb1, hw⟩ := wpC_ex d _ _ _ _ (show wpC E.2.2.2 d x _ h _ from hs)
                intro hg wl ws hn H locs ls hR hlo hls
                refine z_virt (t := 0) (fs := []) (cn := "java/lang/String") hx hb hts hU hml hown m1 (tb_in k1) (m4 h3) m2 ?_ (tb_in k2) (Or.inl rfl) (by rw [h4]; exact m6) (by rw [h4]; exact m6.2.2) (rmk h1 h2) hd (hSnd x _ _ _ _ h1 h2 hw (wfS_rt ws)) hb1 hl hv hP hg wl ws hn H locs ls hR hlo hls
                refine ⟨default, fun H hR => ?_⟩
                obtain ⟨⟨cell, o1, o2, o3, o4⟩, -, -⟩ := hU.2.2.2.2.2.2.2.2.2 a v' hro
                exact ⟨cell, by rw [hR.2.1 a (Nat.not_le.mp o4)]; exact o1, o2, o3⟩
            · exact hs.elim
          exact vs hc hs
  | invokespecial a0 =>
    obtain rfl : nx = pc + 3 := hnx
    cases o with
    | nil =>
      simp only [ckI, Bool.and_eq_true] at hc
      exact z_oini (C := wpC E.2.2.2 d) (Q := qEq r hf) hx hb hown (hts _ (tb_in hc.1.1)) (hts _ (tb_in hc.1.2)) (hts _ (tb_in hc.2)) hml (by omega) (by omega) hd hs
    | cons z l =>
      simp only [ckI, Bool.and_eq_true, decide_eq_true_eq, Bool.not_eq_true'] at hc
      obtain ⟨⟨⟨⟨h1, h2⟩, h3⟩, h4⟩, h5⟩ := hc
      obtain ⟨m1, m2, m3, m4, m5, m6, m7⟩ := ckM_of h1 h2
      obtain ⟨hl, hs⟩ := hs
      split at hs
      · rename_i a hv
        unfold xTag at hs
        split at hs
        · rename_i t fs hcell
          obtain ⟨h14, hC⟩ := hs
          obtain ⟨r1, h1', hP, hb1, hw⟩ := wpC_ex d _ _ _ _ hC
          split at h5
          · rename_i hin
            simp only [Bool.and_eq_true, Bool.or_eq_true, decide_eq_true_eq] at h5
            obtain ⟨h5, h6⟩ := h5
            intro hg wl ws hn H locs ls hR hlo hls
            refine z_init hx hb hts hU hml hown m1 ?_ hin h5 (m4 h3) m2 (by rw [h4]; exact m6) (rmk h1 h2) hd (hSnd z _ _ _ _ h1 h2 hw (wfS_rt ws)) hb1 hl hv hP hg wl ws hn H locs ls hR hlo hls
            rcases h6 with h6 | h6
            · exact Or.inl (tb_in h6)
            · simp only [List.any_eq_true, Bool.and_eq_true, decide_eq_true_eq] at h6
              obtain ⟨⟨q1, q2, q3, q4⟩, hq, ⟨rfl, rfl⟩, rfl⟩ := h6
              exact Or.inr ⟨q4, hq⟩
          · rename_i hin
            split at h5
            · rename_i o2 i2 x hw2
              simp only [Bool.and_eq_true, Bool.or_eq_true, decide_eq_true_eq] at h5
              obtain ⟨⟨⟨⟨⟨⟨⟨rfl, rfl⟩, k1⟩, k2⟩, k3⟩, k4⟩, k5⟩, k6⟩ := h5
              intro hg wl ws hn H locs ls hR hlo hls
              refine z_super hx hb hts hU hml hown m1 (tb_in k1) (tb_in k2) ⟨k3, k4⟩ (tb_in k5) ?_ hin (m4 h3) m2 ?_ (by rw [h4]; exact m6) (rmk h1 h2) hd (hSnd z _ _ _ _ h1 h2 hw (wfS_rt ws)) hb1 hl hv hP hg wl ws hn H locs ls hR hlo hls
              · rcases k6 with k6 | k6
                · exact Or.inl k6
                · exact Or.inr (tb_in k6)
              · refine ⟨default, fun H hR => ?_⟩
                obtain ⟨cell, c1, c2, c3⟩ := recvC hU hR hcell h14
                obtain ⟨kC, hkC, -⟩ := Vm.findClass_spec c3
                exact ⟨cell, kC, c1, c2, hkC⟩
            · cases h5
        · exact hs.elim
      · exact hs.elim
  | ireturn  =>
    exact hret _ _ _ hcd (Or.inl rfl) hs
  | lreturn  =>
    exact hret _ _ _ hcd (Or.inr (Or.inl rfl)) hs
  | areturn  =>
    exact hret _ _ _ hcd (Or.inr (Or.inr (Or.inl rfl))) hs
  | return_  =>
    exact hret _ _ _ hcd (Or.inr (Or.inr (Or.inr rfl))) hs
  | _ => exact hs.elim
end CLO
