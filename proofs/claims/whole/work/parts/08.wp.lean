def s_cst (G : MG) (C : KC) (Q : KQ) (P : KP) (nx : Nat) (v : Int) (L : Loc') (st : List V) (h : MH) : Prop := P nx L (vI v :: st) h
def s_lcst (G : MG) (C : KC) (Q : KQ) (P : KP) (nx : Nat) (v : Int) (L : Loc') (st : List V) (h : MH) : Prop := P nx L (vL v :: st) h
def s_nul (G : MG) (C : KC) (Q : KQ) (P : KP) (nx : Nat) (L : Loc') (st : List V) (h : MH) : Prop := P nx L (vN :: st) h
def s_ldi (G : MG) (C : KC) (Q : KQ) (P : KP) (nx : Nat) (n : Nat) (L : Loc') (st : List V) (h : MH) : Prop := match L[n]? with | some (some (Sum.inl x)) => P nx L (vI x :: st) h | _ => False
def s_ldl (G : MG) (C : KC) (Q : KQ) (P : KP) (nx : Nat) (n : Nat) (L : Loc') (st : List V) (h : MH) : Prop := match L[n]? with | some (some (Sum.inr (Sum.inl x))) => P nx L (vL x :: st) h | _ => False
def s_ldr (G : MG) (C : KC) (Q : KQ) (P : KP) (nx : Nat) (n : Nat) (L : Loc') (st : List V) (h : MH) : Prop := match L[n]? with | some (some (Sum.inr (Sum.inr r))) => P nx L (vO r :: st) h | _ => False
def s_sti (G : MG) (C : KC) (Q : KQ) (P : KP) (nx : Nat) (n : Nat) (L : Loc') (st : List V) (h : MH) : Prop := match st with | Sum.inl x :: st' => (n < L.length ∧ noLgB L n = true ∧ noLg L n = true) ∧ P nx (L.set n (some (vI x))) st' h | _ => False
def s_stl (G : MG) (C : KC) (Q : KQ) (P : KP) (nx : Nat) (n : Nat) (L : Loc') (st : List V) (h : MH) : Prop := match st with | Sum.inr (Sum.inl x) :: st' => (n + 1 < L.length ∧ noLgB L n = true ∧ noLg L (n + 1) = true) ∧ P nx ((L.set n (some (vL x))).set (n + 1) none) st' h | _ => False
def s_str (G : MG) (C : KC) (Q : KQ) (P : KP) (nx : Nat) (n : Nat) (L : Loc') (st : List V) (h : MH) : Prop := match st with | Sum.inr (Sum.inr r) :: st' => (n < L.length ∧ noLgB L n = true ∧ noLg L n = true) ∧ P nx (L.set n (some (vO r))) st' h | _ => False
def s_iinc (G : MG) (C : KC) (Q : KQ) (P : KP) (nx : Nat) (n : Nat) (c : Int) (L : Loc') (st : List V) (h : MH) : Prop := match L[n]? with | some (some (Sum.inl x)) => noLgB L n = true ∧ P nx (L.set n (some (vI (iBin 0 x c)))) st h | _ => False
def s_bin (G : MG) (C : KC) (Q : KQ) (P : KP) (nx : Nat) (k : Nat) (L : Loc') (st : List V) (h : MH) : Prop := match st with | Sum.inl b :: Sum.inl a :: st' => P nx L (vI (iBin k a b) :: st') h | _ => False
def s_idiv (G : MG) (C : KC) (Q : KQ) (P : KP) (nx : Nat) (L : Loc') (st : List V) (h : MH) : Prop := match st with | Sum.inl b :: Sum.inl a :: st' => ¬ b = 0 ∧ P nx L (vI (iDiv a b) :: st') h | _ => False
def s_irem (G : MG) (C : KC) (Q : KQ) (P : KP) (nx : Nat) (L : Loc') (st : List V) (h : MH) : Prop := match st with | Sum.inl b :: Sum.inl a :: st' => ¬ b = 0 ∧ P nx L (vI (iRem a b) :: st') h | _ => False
def s_ineg (G : MG) (C : KC) (Q : KQ) (P : KP) (nx : Nat) (L : Loc') (st : List V) (h : MH) : Prop := match st with | Sum.inl a :: st' => P nx L (vI (iNeg a) :: st') h | _ => False
def s_i2c (G : MG) (C : KC) (Q : KQ) (P : KP) (nx : Nat) (L : Loc') (st : List V) (h : MH) : Prop := match st with | Sum.inl a :: st' => P nx L (vI (i2cF a) :: st') h | _ => False
def s_i2b (G : MG) (C : KC) (Q : KQ) (P : KP) (nx : Nat) (L : Loc') (st : List V) (h : MH) : Prop := match st with | Sum.inl a :: st' => P nx L (vI (i2bF a) :: st') h | _ => False
def s_i2l (G : MG) (C : KC) (Q : KQ) (P : KP) (nx : Nat) (L : Loc') (st : List V) (h : MH) : Prop := match st with | Sum.inl a :: st' => P nx L (vL a :: st') h | _ => False
def s_ladd (G : MG) (C : KC) (Q : KQ) (P : KP) (nx : Nat) (L : Loc') (st : List V) (h : MH) : Prop := match st with | Sum.inr (Sum.inl b) :: Sum.inr (Sum.inl a) :: st' => P nx L (vL (lAdd a b) :: st') h | _ => False
def s_lneg (G : MG) (C : KC) (Q : KQ) (P : KP) (nx : Nat) (L : Loc') (st : List V) (h : MH) : Prop := match st with | Sum.inr (Sum.inl a) :: st' => P nx L (vL (lNeg a) :: st') h | _ => False
def s_lrem (G : MG) (C : KC) (Q : KQ) (P : KP) (nx : Nat) (L : Loc') (st : List V) (h : MH) : Prop := match st with | Sum.inr (Sum.inl b) :: Sum.inr (Sum.inl a) :: st' => ¬ b = 0 ∧ P nx L (vL (lRem a b) :: st') h | _ => False
def s_ldiv (G : MG) (C : KC) (Q : KQ) (P : KP) (nx : Nat) (L : Loc') (st : List V) (h : MH) : Prop := match st with | Sum.inr (Sum.inl b) :: Sum.inr (Sum.inl a) :: st' => ¬ b = 0 ∧ P nx L (vL (lDiv a b) :: st') h | _ => False
def s_lcmp (G : MG) (C : KC) (Q : KQ) (P : KP) (nx : Nat) (L : Loc') (st : List V) (h : MH) : Prop := match st with | Sum.inr (Sum.inl b) :: Sum.inr (Sum.inl a) :: st' => P nx L (vI (lCmp a b) :: st') h | _ => False
def s_dup (G : MG) (C : KC) (Q : KQ) (P : KP) (nx : Nat) (L : Loc') (st : List V) (h : MH) : Prop := match st with | Sum.inl x :: st' => P nx L (vI x :: vI x :: st') h | Sum.inr (Sum.inr r) :: st' => P nx L (vO r :: vO r :: st') h | _ => False
def s_pop (G : MG) (C : KC) (Q : KQ) (P : KP) (nx : Nat) (L : Loc') (st : List V) (h : MH) : Prop := match st with | Sum.inl _ :: st' => P nx L st' h | Sum.inr (Sum.inr _) :: st' => P nx L st' h | _ => False
def s_dupx1 (G : MG) (C : KC) (Q : KQ) (P : KP) (nx : Nat) (L : Loc') (st : List V) (h : MH) : Prop := match st with | Sum.inl x :: Sum.inr (Sum.inr r) :: st' => P nx L (vI x :: vO r :: vI x :: st') h | Sum.inr (Sum.inr q) :: Sum.inr (Sum.inr r) :: st' => P nx L (vO q :: vO r :: vO q :: st') h | _ => False
def s_dup2 (G : MG) (C : KC) (Q : KQ) (P : KP) (nx : Nat) (L : Loc') (st : List V) (h : MH) : Prop := match st with | Sum.inl x :: Sum.inr (Sum.inr r) :: st' => P nx L (vI x :: vO r :: vI x :: vO r :: st') h | _ => False
def s_ifc (G : MG) (C : KC) (Q : KQ) (P : KP) (nx : Nat) (k : ClassFile.Cond) (t : Nat) (L : Loc') (st : List V) (h : MH) : Prop := match st with | Sum.inl a :: st' => (cmpI k a 0 → P t L st' h) ∧ (¬ cmpI k a 0 → P nx L st' h) | _ => False
def s_icmp (G : MG) (C : KC) (Q : KQ) (P : KP) (nx : Nat) (k : ClassFile.Cond) (t : Nat) (L : Loc') (st : List V) (h : MH) : Prop := match st with | Sum.inl b :: Sum.inl a :: st' => (cmpI k a b → P t L st' h) ∧ (¬ cmpI k a b → P nx L st' h) | _ => False
def s_ifnull (G : MG) (C : KC) (Q : KQ) (P : KP) (nx : Nat) (t : Nat) (L : Loc') (st : List V) (h : MH) : Prop := match st with | Sum.inr (Sum.inr r) :: st' => (r = none → P t L st' h) ∧ (¬ r = none → P nx L st' h) | _ => False
def s_ifnn (G : MG) (C : KC) (Q : KQ) (P : KP) (nx : Nat) (t : Nat) (L : Loc') (st : List V) (h : MH) : Prop := match st with | Sum.inr (Sum.inr r) :: st' => (r = none → P nx L st' h) ∧ (¬ r = none → P t L st' h) | _ => False
def s_acmp (G : MG) (C : KC) (Q : KQ) (P : KP) (nx : Nat) (te tn : Nat) (L : Loc') (st : List V) (h : MH) : Prop := match st with | Sum.inr (Sum.inr b) :: Sum.inr (Sum.inr a) :: st' => (a = b → P te L st' h) ∧ (¬ a = b → P tn L st' h) | _ => False
def s_goto (G : MG) (C : KC) (Q : KQ) (P : KP) (nx : Nat) (t : Nat) (L : Loc') (st : List V) (h : MH) : Prop := P t L st h
def s_swi (G : MG) (C : KC) (Q : KQ) (P : KP) (nx : Nat) (f : Int → Nat) (L : Loc') (st : List V) (h : MH) : Prop := match st with | Sum.inl x :: st' => P (f x) L st' h | _ => False
def s_getf (G : MG) (C : KC) (Q : KQ) (P : KP) (nx : Nat) (k w : Nat) (L : Loc') (st : List V) (h : MH) : Prop := match st with | Sum.inr (Sum.inr (some a)) :: st' => xGet k w (h.2.2 a) (fun v => P nx L (v :: st') h) | _ => False
def s_putf (G : MG) (C : KC) (Q : KQ) (P : KP) (nx : Nat) (k w ty : Nat) (L : Loc') (st : List V) (h : MH) : Prop := match st with | v :: Sum.inr (Sum.inr (some a)) :: st' => vFit ty v ∧ xPut k w v (h.2.2 a) (fun x => P nx L st' (hset h a x)) | _ => False
def s_iald (G : MG) (C : KC) (Q : KQ) (P : KP) (nx : Nat) (L : Loc') (st : List V) (h : MH) : Prop := match st with | Sum.inl i :: Sum.inr (Sum.inr (some a)) :: st' => xAld (fun t => t == 0 || t == 11) i (h.2.2 a) (fun x => P nx L (vI x :: st') h) | _ => False
def s_bald (G : MG) (C : KC) (Q : KQ) (P : KP) (nx : Nat) (L : Loc') (st : List V) (h : MH) : Prop := match st with | Sum.inl i :: Sum.inr (Sum.inr (some a)) :: st' => xAld (fun t => t == 1 || t == 10) i (h.2.2 a) (fun x => P nx L (vI x :: st') h) | _ => False
def s_aald (G : MG) (C : KC) (Q : KQ) (P : KP) (nx : Nat) (L : Loc') (st : List V) (h : MH) : Prop := match st with | Sum.inl i :: Sum.inr (Sum.inr (some a)) :: st' => xRld i (h.2.2 a) (fun v => P nx L (v :: st') h) | _ => False
def s_iast (G : MG) (C : KC) (Q : KQ) (P : KP) (nx : Nat) (L : Loc') (st : List V) (h : MH) : Prop := match st with | Sum.inl x :: Sum.inl i :: Sum.inr (Sum.inr (some a)) :: st' => xAst 0 i x (h.2.2 a) (fun y => P nx L st' (hset h a y)) | _ => False
def s_bast (G : MG) (C : KC) (Q : KQ) (P : KP) (nx : Nat) (L : Loc') (st : List V) (h : MH) : Prop := match st with | Sum.inl x :: Sum.inl i :: Sum.inr (Sum.inr (some a)) :: st' => (x = 0 ∨ x = 1) ∧ xAst 1 i x (h.2.2 a) (fun y => P nx L st' (hset h a y)) | _ => False
def s_aast (G : MG) (C : KC) (Q : KQ) (P : KP) (nx : Nat) (L : Loc') (st : List V) (h : MH) : Prop := match st with | Sum.inr (Sum.inr r) :: Sum.inl i :: Sum.inr (Sum.inr (some a)) :: st' => xIsO r h ∧ xRst i r (h.2.2 a) (fun y => P nx L st' (hset h a y)) | _ => False
def s_alen (G : MG) (C : KC) (Q : KQ) (P : KP) (nx : Nat) (L : Loc') (st : List V) (h : MH) : Prop := match st with | Sum.inr (Sum.inr (some a)) :: st' => xLen (h.2.2 a) (fun n => P nx L (vI n :: st') h) | _ => False
def s_new (G : MG) (C : KC) (Q : KQ) (P : KP) (nx : Nat) (t : Nat) (L : Loc') (st : List V) (h : MH) : Prop := (h.1 + 1 ≤ maxC ∧ h.2.1 + (defs t).length ≤ maxS) ∧ P nx L (vR (G.1 + h.1) :: st) (hnew h (G.1 + h.1) (defs t).length (cObj t (defs t)))
def s_newa (G : MG) (C : KC) (Q : KQ) (P : KP) (nx : Nat) (ty : Nat) (L : Loc') (st : List V) (h : MH) : Prop := match st with | Sum.inl n :: st' => (0 ≤ n ∧ n ≤ 100000 ∧ h.1 + 1 ≤ maxC ∧ h.2.1 + n.toNat ≤ maxS) ∧ P nx L (vR (G.1 + h.1) :: st') (hnew h (G.1 + h.1) n.toNat (cArr ty n.toNat (fun _ => 0))) | _ => False
def s_anew (G : MG) (C : KC) (Q : KQ) (P : KP) (nx : Nat) (L : Loc') (st : List V) (h : MH) : Prop := match st with | Sum.inl n :: st' => (0 ≤ n ∧ n ≤ 100000 ∧ h.1 + 1 ≤ maxC ∧ h.2.1 + n.toNat ≤ maxS) ∧ P nx L (vR (G.1 + h.1) :: st') (hnew h (G.1 + h.1) n.toNat (cRef 0 n.toNat (fun _ => none))) | _ => False
def s_cast (G : MG) (C : KC) (Q : KQ) (P : KP) (nx : Nat) (w : Nat) (L : Loc') (st : List V) (h : MH) : Prop := match st with | Sum.inr (Sum.inr (some a)) :: st' => xTag (h.2.2 a) (fun t => okSet w t = true ∧ P nx L (vR a :: st') h) | _ => False
def s_casta (G : MG) (C : KC) (Q : KQ) (P : KP) (nx : Nat) (L : Loc') (st : List V) (h : MH) : Prop := match st with | Sum.inr (Sum.inr (some a)) :: st' => xRow (h.2.2 a) (P nx L (vR a :: st') h) | _ => False
def s_inst (G : MG) (C : KC) (Q : KQ) (P : KP) (nx : Nat) (w : Nat) (L : Loc') (st : List V) (h : MH) : Prop := match st with | Sum.inr (Sum.inr (some a)) :: st' => xTag (h.2.2 a) (fun t => auntT t = true ∧ P nx L (vI (if okSet w t then 1 else 0) :: st') h) | _ => False
def s_virt (G : MG) (C : KC) (Q : KQ) (P : KP) (nx : Nat) (x n : Nat) (L : Loc') (st : List V) (h : MH) : Prop := (st.drop (n + 1)).length ≤ 4 ∧ (match st[n]? with | some (Sum.inr (Sum.inr (some a))) => xTag (h.2.2 a) (fun t => xSel (vsel x t) (fun y => C y ((st.take (n + 1)).reverse) h (fun r h' => P nx L (r.toList ++ st.drop (n + 1)) h'))) | _ => False)
def s_stat (G : MG) (C : KC) (Q : KQ) (P : KP) (nx : Nat) (y n : Nat) (L : Loc') (st : List V) (h : MH) : Prop := ((st.drop n).length ≤ 4 ∧ n ≤ st.length) ∧ C y ((st.take n).reverse) h (fun r h' => P nx L (r.toList ++ st.drop n) h')
def s_spec (G : MG) (C : KC) (Q : KQ) (P : KP) (nx : Nat) (y n : Nat) (L : Loc') (st : List V) (h : MH) : Prop := (st.drop (n + 1)).length ≤ 4 ∧ (match st[n]? with | some (Sum.inr (Sum.inr (some a))) => xTag (h.2.2 a) (fun t => t < 14 ∧ C y ((st.take (n + 1)).reverse) h (fun r h' => P nx L (r.toList ++ st.drop (n + 1)) h')) | _ => False)
def s_oini (G : MG) (C : KC) (Q : KQ) (P : KP) (nx : Nat) (L : Loc') (st : List V) (h : MH) : Prop := match st with | Sum.inr (Sum.inr (some _)) :: st' => st'.length ≤ 4 ∧ P nx L st' h | _ => False
def s_iret (G : MG) (C : KC) (Q : KQ) (P : KP) (nx : Nat) (ty : Nat) (L : Loc') (st : List V) (h : MH) : Prop := match st with | [Sum.inl x] => rFit ty x ∧ Q (some (vI x)) h | _ => False
def s_lret (G : MG) (C : KC) (Q : KQ) (P : KP) (nx : Nat) (L : Loc') (st : List V) (h : MH) : Prop := match st with | [Sum.inr (Sum.inl x)] => Q (some (vL x)) h | _ => False
def s_aret (G : MG) (C : KC) (Q : KQ) (P : KP) (nx : Nat) (L : Loc') (st : List V) (h : MH) : Prop := match st with | [Sum.inr (Sum.inr r)] => Q (some (vO r)) h | _ => False
def s_vret (G : MG) (C : KC) (Q : KQ) (P : KP) (nx : Nat) (L : Loc') (st : List V) (h : MH) : Prop := match st with | [] => Q none h | _ => False
def s_cpya (G : MG) (C : KC) (Q : KQ) (P : KP) (nx : Nat) (L : Loc') (st : List V) (h : MH) : Prop := match st with | Sum.inl n :: Sum.inl dp :: Sum.inr (Sum.inr (some b)) :: Sum.inl sp :: Sum.inr (Sum.inr (some a)) :: st' => st'.length ≤ 4 ∧ xCpy (h.2.2 a) (h.2.2 b) sp dp n (fun y => P nx L st' (hset h b y)) | _ => False
def s_cln (G : MG) (C : KC) (Q : KQ) (P : KP) (nx : Nat) (L : Loc') (st : List V) (h : MH) : Prop := match st with | Sum.inr (Sum.inr (some a)) :: st' => st'.length ≤ 4 ∧ xCln (h.2.2 a) (fun n y => (h.1 + 1 ≤ maxC ∧ h.2.1 + n ≤ maxS) ∧ P nx L (vR (G.1 + h.1) :: st') (hnew h (G.1 + h.1) n y)) | _ => False
def s_gref (G : MG) (C : KC) (Q : KQ) (P : KP) (nx : Nat) (k : Nat) (L : Loc') (st : List V) (h : MH) : Prop := P nx L (vR (G.2.1 k) :: st) h
def s_gets (G : MG) (C : KC) (Q : KQ) (P : KP) (nx : Nat) (k : Nat) (L : Loc') (st : List V) (h : MH) : Prop := match st with | Sum.inr (Sum.inr (some a)) :: st' => xRoS k (G.2.2.2 a) (fun v => P nx L (v :: st') h) | _ => False
def s_vstr (G : MG) (C : KC) (Q : KQ) (P : KP) (nx : Nat) (y n : Nat) (L : Loc') (st : List V) (h : MH) : Prop := (st.drop (n + 1)).length ≤ 4 ∧ (match st[n]? with | some (Sum.inr (Sum.inr (some a))) => xRoS 0 (G.2.2.2 a) (fun _ => C y ((st.take (n + 1)).reverse) h (fun r h' => P nx L (r.toList ++ st.drop (n + 1)) h')) | _ => False)
def s_gopt (G : MG) (C : KC) (Q : KQ) (P : KP) (nx : Nat) (L : Loc') (st : List V) (h : MH) : Prop := P nx L (vO G.2.2.1 :: st) h
/-- where a jump of an instruction at pc goes -/
def jmp (pc : Nat) (f : Int) : Nat := ((pc : Int) + f).toNat
def tswF (d lo hi : Int) (fs : Array Int) (x : Int) : Int := if x < lo ∨ hi < x then d else (fs[(x - lo).toNat]?).getD d
/-- one step of the instruction at pc -/
def stp (G : MG) (C : KC) (Q : KQ) (P : KP) (pc : Nat) (i : Option (Nat × Instr × Int × List Nat)) (L : Loc') (st : List V) (h : MH) : Prop := match i with
  | none => False
  | some (nx, ins, v, o) => match ins with
    | .iconst n => s_cst G C Q P nx ((Int32.ofInt n).toInt) L st h
    | .bipush n => s_cst G C Q P nx ((Int8.ofInt n).toInt32.toInt) L st h
    | .sipush n => s_cst G C Q P nx ((Int16.ofInt n).toInt32.toInt) L st h
    | .ldc _ => match o with | [] => s_cst G C Q P nx v L st h | k :: _ => s_gref G C Q P nx k L st h
    | .ldc_w _ => s_cst G C Q P nx (v) L st h
    | .ldc2_w _ => s_lcst G C Q P nx (v) L st h
    | .lconst n => s_lcst G C Q P nx ((n.val : Int)) L st h
    | .aconst_null => s_nul G C Q P nx L st h
    | .iload_n k => s_ldi G C Q P nx k.val L st h
    | .iload k => s_ldi G C Q P nx k L st h
    | .lload_n k => s_ldl G C Q P nx k.val L st h
    | .lload k => s_ldl G C Q P nx k L st h
    | .aload_n k => s_ldr G C Q P nx k.val L st h
    | .aload k => s_ldr G C Q P nx k L st h
    | .istore_n k => s_sti G C Q P nx k.val L st h
    | .istore k => s_sti G C Q P nx k L st h
    | .lstore_n k => s_stl G C Q P nx k.val L st h
    | .lstore k => s_stl G C Q P nx k L st h
    | .astore_n k => s_str G C Q P nx k.val L st h
    | .astore k => s_str G C Q P nx k L st h
    | .iinc k n => s_iinc G C Q P nx k (Int32.ofInt n).toInt L st h
    | .iadd => s_bin G C Q P nx 0 L st h
    | .isub => s_bin G C Q P nx 1 L st h
    | .imul => s_bin G C Q P nx 2 L st h
    | .iand => s_bin G C Q P nx 3 L st h
    | .ior => s_bin G C Q P nx 4 L st h
    | .ixor => s_bin G C Q P nx 5 L st h
    | .ishl => s_bin G C Q P nx 6 L st h
    | .ishr => s_bin G C Q P nx 7 L st h
    | .iushr => s_bin G C Q P nx 8 L st h
    | .idiv => s_idiv G C Q P nx L st h
    | .irem => s_irem G C Q P nx L st h
    | .ineg => s_ineg G C Q P nx L st h
    | .i2c => s_i2c G C Q P nx L st h
    | .i2b => s_i2b G C Q P nx L st h
    | .i2l => s_i2l G C Q P nx L st h
    | .ladd => s_ladd G C Q P nx L st h
    | .lneg => s_lneg G C Q P nx L st h
    | .lrem => s_lrem G C Q P nx L st h
    | .ldiv => s_ldiv G C Q P nx L st h
    | .lcmp => s_lcmp G C Q P nx L st h
    | .dup => s_dup G C Q P nx L st h
    | .pop => s_pop G C Q P nx L st h
    | .dup_x1 => s_dupx1 G C Q P nx L st h
    | .dup2 => s_dup2 G C Q P nx L st h
    | .ifCond k f => s_ifc G C Q P nx k (jmp pc f) L st h
    | .if_icmp k f => s_icmp G C Q P nx k (jmp pc f) L st h
    | .ifnull f => s_ifnull G C Q P nx (jmp pc f) L st h
    | .ifnonnull f => s_ifnn G C Q P nx (jmp pc f) L st h
    | .if_acmp .eq f => s_acmp G C Q P nx (jmp pc f) nx L st h
    | .if_acmp .ne f => s_acmp G C Q P nx nx (jmp pc f) L st h
    | .goto f => s_goto G C Q P nx (jmp pc f) L st h
    | .tableswitch d lo hi fs => s_swi G C Q P nx (fun x => jmp pc (tswF d lo hi fs x)) L st h
    | .lookupswitch d ps => s_swi G C Q P nx (fun x => jmp pc (Op.lookupswitch.offset ps.toList d x)) L st h
    | .getfield _ => match o with | [k] => s_gets G C Q P nx k L st h | _ => s_getf G C Q P nx (nOp o 0) (nOp o 1) L st h
    | .putfield _ => s_putf G C Q P nx (nOp o 0) (nOp o 1) (nOp o 2) L st h
    | .iaload => s_iald G C Q P nx L st h
    | .baload => s_bald G C Q P nx L st h
    | .aaload => s_aald G C Q P nx L st h
    | .iastore => s_iast G C Q P nx L st h
    | .bastore => s_bast G C Q P nx L st h
    | .aastore => s_aast G C Q P nx L st h
    | .arraylength => s_alen G C Q P nx L st h
    | .new _ => s_new G C Q P nx (nOp o 0) L st h
    | .newarray .int => s_newa G C Q P nx 0 L st h
    | .newarray .boolean => s_newa G C Q P nx 1 L st h
    | .anewarray _ => s_anew G C Q P nx L st h
    | .checkcast _ => match o with | [] => s_casta G C Q P nx L st h | w :: _ => s_cast G C Q P nx w L st h
    | .instanceof _ => s_inst G C Q P nx (nOp o 0) L st h
    | .invokevirtual _ => match o with | [] => s_cln G C Q P nx L st h | x :: l => (match l with | [n] => s_virt G C Q P nx x n L st h | _ => s_vstr G C Q P nx x (nOp l 0) L st h)
    | .invokestatic _ => match o with | [] => s_cpya G C Q P nx L st h | y :: l => s_stat G C Q P nx y (nOp l 0) L st h
    | .invokespecial _ => match o with | [] => s_oini G C Q P nx L st h | y :: l => s_spec G C Q P nx y (nOp l 0) L st h
    | .ireturn => s_iret G C Q P nx (nOp o 0) L st h
    | .lreturn => s_lret G C Q P nx L st h
    | .areturn => s_aret G C Q P nx L st h
    | .return_ => s_vret G C Q P nx L st h
    | .getstatic _ => match o with | [] => s_cst G C Q P nx v L st h | [k] => s_gref G C Q P nx k L st h | _ => s_gopt G C Q P nx L st h
    | _ => False
def wpS (G : MG) (C : KC) (y : Nat) (Q : KQ) : KP := fun pc L st h => ∀ P : KP, (∀ pc L st h, stp G C Q P pc (cd y pc) L st h → P pc L st h) → P pc L st h
/-- what a call of method y, at most d calls deep, does -/
def wpC (G : MG) : Nat → KC
  | 0 => fun _ _ _ _ => False
  | d + 1 => fun y a h Q => (entL a).length ≤ mLs.getD y 0 ∧ wpS G (wpC G d) y Q 0 (entA y a) [] h
/-- method y goes on from pc, and ends with Q -/
def wp (G : MG) (d y pc : Nat) (L : Loc') (st : List V) (h : MH) (Q : KQ) : Prop := wpS G (wpC G d) y Q pc L st h
/-! laws: what is more is more -/
def moC (C C' : KC) : Prop := ∀ y a h (Q Q' : KQ), (∀ r h, Q r h → Q' r h) → C y a h Q → C' y a h Q'
theorem xGet_mo {k w : Nat} {c : Option MC} {K K' : V → Prop} (f : ∀ v, K v → K' v) : xGet k w c K → xGet k w c K' := by
  unfold xGet; intro hs; split at hs
  · refine ⟨hs.1, ?_⟩; have h2 := hs.2; split at h2
    · exact f _ h2
    · exact h2.elim
  · exact hs.elim
theorem xPut_mo {k w : Nat} {v : V} {c : Option MC} {K K' : MC → Prop} (f : ∀ v, K v → K' v) : xPut k w v c K → xPut k w v c K' := by
  unfold xPut; intro hs; split at hs
  · exact ⟨hs.1, hs.2.1, hs.2.2.1, f _ hs.2.2.2⟩
  · exact hs.elim
theorem xAld_mo {ok : Nat → Bool} {i : Int} {c : Option MC} {K K' : Int → Prop} (f : ∀ v, K v → K' v) : xAld ok i c K → xAld ok i c K' := by
  unfold xAld; intro hs; split at hs
  · exact ⟨hs.1, hs.2.1, hs.2.2.1, f _ hs.2.2.2⟩
  · exact hs.elim
theorem xAst_mo {t : Nat} {i x : Int} {c : Option MC} {K K' : MC → Prop} (f : ∀ v, K v → K' v) : xAst t i x c K → xAst t i x c K' := by
  unfold xAst; intro hs; split at hs
  · exact ⟨hs.1, hs.2.1, hs.2.2.1, f _ hs.2.2.2⟩
  · exact hs.elim
theorem xRld_mo {i : Int} {c : Option MC} {K K' : V → Prop} (f : ∀ v, K v → K' v) : xRld i c K → xRld i c K' := by
  unfold xRld; intro hs; split at hs
  · exact ⟨hs.1, hs.2.1, hs.2.2.1, f _ hs.2.2.2⟩
  · exact hs.elim
theorem xRst_mo {i : Int} {r : Option Nat} {c : Option MC} {K K' : MC → Prop} (f : ∀ v, K v → K' v) : xRst i r c K → xRst i r c K' := by
  unfold xRst; intro hs; split at hs
  · exact ⟨hs.1, hs.2.1, hs.2.2.1, f _ hs.2.2.2⟩
  · exact hs.elim
theorem xLen_mo {c : Option MC} {K K' : Int → Prop} (f : ∀ v, K v → K' v) : xLen c K → xLen c K' := by
  unfold xLen; intro hs; split at hs
  · exact f _ hs
  · exact f _ hs
  · exact hs.elim
theorem xTag_mo {c : Option MC} {K K' : Nat → Prop} (f : ∀ v, K v → K' v) : xTag c K → xTag c K' := by
  unfold xTag; intro hs; split at hs
  · exact f _ hs
  · exact hs.elim
theorem xSel_mo {c : Option Nat} {K K' : Nat → Prop} (f : ∀ v, K v → K' v) : xSel c K → xSel c K' := by
  unfold xSel; intro hs; split at hs
  · exact f _ hs
  · exact hs.elim
theorem xRow_mo {c : Option MC} {K K' : Prop} (f : K → K') : xRow c K → xRow c K' := by
  unfold xRow; intro hs; split at hs
  · exact ⟨hs.1, f hs.2⟩
  · exact hs.elim
theorem xRoS_mo {k : Nat} {r : Option Nat} {K K' : V → Prop} (f : ∀ v, K v → K' v) : xRoS k r K → xRoS k r K' := by
  unfold xRoS; intro hs; split at hs
  · exact f _ hs
  · exact f _ hs
  · exact hs.elim
theorem xCpy_mo {a b : Option MC} {sp dp n : Int} {K K' : MC → Prop} (f : ∀ v, K v → K' v) : xCpy a b sp dp n K → xCpy a b sp dp n K' := by
  unfold xCpy; intro hs; split at hs
  · exact ⟨hs.1, hs.2.1, hs.2.2.1, hs.2.2.2.1, hs.2.2.2.2.1, hs.2.2.2.2.2.1, hs.2.2.2.2.2.2.1, f _ hs.2.2.2.2.2.2.2⟩
  · exact hs.elim
theorem xCln_mo {c : Option MC} {K K' : Nat → MC → Prop} (f : ∀ n v, K n v → K' n v) : xCln c K → xCln c K' := by
  unfold xCln; intro hs; split at hs
  · exact ⟨hs.1, f _ _ hs.2⟩
  · exact hs.elim
theorem m_cst {G : MG} {C C' : KC} {Q Q' : KQ} {P P' : KP} {nx : Nat} {v : Int} {L : Loc'} {st : List V} {h : MH} (hC : moC C C') (hQ : ∀ r h, Q r h → Q' r h) (hP : ∀ pc L st h, P pc L st h → P' pc L st h) : s_cst G C Q P nx v L st h → s_cst G C' Q' P' nx v L st h := by
  exact hP _ _ _ _
theorem m_lcst {G : MG} {C C' : KC} {Q Q' : KQ} {P P' : KP} {nx : Nat} {v : Int} {L : Loc'} {st : List V} {h : MH} (hC : moC C C') (hQ : ∀ r h, Q r h → Q' r h) (hP : ∀ pc L st h, P pc L st h → P' pc L st h) : s_lcst G C Q P nx v L st h → s_lcst G C' Q' P' nx v L st h := by
  exact hP _ _ _ _
theorem m_nul {G : MG} {C C' : KC} {Q Q' : KQ} {P P' : KP} {nx : Nat}  {L : Loc'} {st : List V} {h : MH} (hC : moC C C') (hQ : ∀ r h, Q r h → Q' r h) (hP : ∀ pc L st h, P pc L st h → P' pc L st h) : s_nul G C Q P nx L st h → s_nul G C' Q' P' nx L st h := by
  exact hP _ _ _ _
theorem m_ldi {G : MG} {C C' : KC} {Q Q' : KQ} {P P' : KP} {nx : Nat} {n : Nat} {L : Loc'} {st : List V} {h : MH} (hC : moC C C') (hQ : ∀ r h, Q r h → Q' r h) (hP : ∀ pc L st h, P pc L st h → P' pc L st h) : s_ldi G C Q P nx n L st h → s_ldi G C' Q' P' nx n L st h := by
  unfold s_ldi; intro hs
  split at hs <;> first | exact hs.elim | exact hP _ _ _ _ hs | exact hQ _ _ hs | exact ⟨hs.1, hP _ _ _ _ hs.2⟩ | exact ⟨hs.1, hQ _ _ hs.2⟩ | exact ⟨fun z => hP _ _ _ _ (hs.1 z), fun z => hP _ _ _ _ (hs.2 z)⟩ | exact xGet_mo (fun _ z => hP _ _ _ _ z) hs | exact ⟨hs.1, xPut_mo (fun _ z => hP _ _ _ _ z) hs.2⟩ | exact xAld_mo (fun _ z => hP _ _ _ _ z) hs | exact xAst_mo (fun _ z => hP _ _ _ _ z) hs | exact ⟨hs.1, xAst_mo (fun _ z => hP _ _ _ _ z) hs.2⟩ | exact xRld_mo (fun _ z => hP _ _ _ _ z) hs | exact ⟨hs.1, xRst_mo (fun _ z => hP _ _ _ _ z) hs.2⟩ | exact xLen_mo (fun _ z => hP _ _ _ _ z) hs | exact xTag_mo (fun _ z => ⟨z.1, hP _ _ _ _ z.2⟩) hs | exact xRow_mo (hP _ _ _ _) hs | exact xRoS_mo (fun _ z => hP _ _ _ _ z) hs | exact ⟨hs.1, xCpy_mo (fun _ z => hP _ _ _ _ z) hs.2⟩ | exact ⟨hs.1, xCln_mo (fun _ _ z => ⟨z.1, hP _ _ _ _ z.2⟩) hs.2⟩
theorem m_ldl {G : MG} {C C' : KC} {Q Q' : KQ} {P P' : KP} {nx : Nat} {n : Nat} {L : Loc'} {st : List V} {h : MH} (hC : moC C C') (hQ : ∀ r h, Q r h → Q' r h) (hP : ∀ pc L st h, P pc L st h → P' pc L st h) : s_ldl G C Q P nx n L st h → s_ldl G C' Q' P' nx n L st h := by
  unfold s_ldl; intro hs
  split at hs <;> first | exact hs.elim | exact hP _ _ _ _ hs | exact hQ _ _ hs | exact ⟨hs.1, hP _ _ _ _ hs.2⟩ | exact ⟨hs.1, hQ _ _ hs.2⟩ | exact ⟨fun z => hP _ _ _ _ (hs.1 z), fun z => hP _ _ _ _ (hs.2 z)⟩ | exact xGet_mo (fun _ z => hP _ _ _ _ z) hs | exact ⟨hs.1, xPut_mo (fun _ z => hP _ _ _ _ z) hs.2⟩ | exact xAld_mo (fun _ z => hP _ _ _ _ z) hs | exact xAst_mo (fun _ z => hP _ _ _ _ z) hs | exact ⟨hs.1, xAst_mo (fun _ z => hP _ _ _ _ z) hs.2⟩ | exact xRld_mo (fun _ z => hP _ _ _ _ z) hs | exact ⟨hs.1, xRst_mo (fun _ z => hP _ _ _ _ z) hs.2⟩ | exact xLen_mo (fun _ z => hP _ _ _ _ z) hs | exact xTag_mo (fun _ z => ⟨z.1, hP _ _ _ _ z.2⟩) hs | exact xRow_mo (hP _ _ _ _) hs | exact xRoS_mo (fun _ z => hP _ _ _ _ z) hs | exact ⟨hs.1, xCpy_mo (fun _ z => hP _ _ _ _ z) hs.2⟩ | exact ⟨hs.1, xCln_mo (fun _ _ z => ⟨z.1, hP _ _ _ _ z.2⟩) hs.2⟩
theorem m_ldr {G : MG} {C C' : KC} {Q Q' : KQ} {P P' : KP} {nx : Nat} {n : Nat} {L : Loc'} {st : List V} {h : MH} (hC : moC C C') (hQ : ∀ r h, Q r h → Q' r h) (hP : ∀ pc L st h, P pc L st h → P' pc L st h) : s_ldr G C Q P nx n L st h → s_ldr G C' Q' P' nx n L st h := by
  unfold s_ldr; intro hs
  split at hs <;> first | exact hs.elim | exact hP _ _ _ _ hs | exact hQ _ _ hs | exact ⟨hs.1, hP _ _ _ _ hs.2⟩ | exact ⟨hs.1, hQ _ _ hs.2⟩ | exact ⟨fun z => hP _ _ _ _ (hs.1 z), fun z => hP _ _ _ _ (hs.2 z)⟩ | exact xGet_mo (fun _ z => hP _ _ _ _ z) hs | exact ⟨hs.1, xPut_mo (fun _ z => hP _ _ _ _ z) hs.2⟩ | exact xAld_mo (fun _ z => hP _ _ _ _ z) hs | exact xAst_mo (fun _ z => hP _ _ _ _ z) hs | exact ⟨hs.1, xAst_mo (fun _ z => hP _ _ _ _ z) hs.2⟩ | exact xRld_mo (fun _ z => hP _ _ _ _ z) hs | exact ⟨hs.1, xRst_mo (fun _ z => hP _ _ _ _ z) hs.2⟩ | exact xLen_mo (fun _ z => hP _ _ _ _ z) hs | exact xTag_mo (fun _ z => ⟨z.1, hP _ _ _ _ z.2⟩) hs | exact xRow_mo (hP _ _ _ _) hs | exact xRoS_mo (fun _ z => hP _ _ _ _ z) hs | exact ⟨hs.1, xCpy_mo (fun _ z => hP _ _ _ _ z) hs.2⟩ | exact ⟨hs.1, xCln_mo (fun _ _ z => ⟨z.1, hP _ _ _ _ z.2⟩) hs.2⟩
theorem m_sti {G : MG} {C C' : KC} {Q Q' : KQ} {P P' : KP} {nx : Nat} {n : Nat} {L : Loc'} {st : List V} {h : MH} (hC : moC C C') (hQ : ∀ r h, Q r h → Q' r h) (hP : ∀ pc L st h, P pc L st h → P' pc L st h) : s_sti G C Q P nx n L st h → s_sti G C' Q' P' nx n L st h := by
  unfold s_sti; intro hs
  split at hs <;> first | exact hs.elim | exact hP _ _ _ _ hs | exact hQ _ _ hs | exact ⟨hs.1, hP _ _ _ _ hs.2⟩ | exact ⟨hs.1, hQ _ _ hs.2⟩ | exact ⟨fun z => hP _ _ _ _ (hs.1 z), fun z => hP _ _ _ _ (hs.2 z)⟩ | exact xGet_mo (fun _ z => hP _ _ _ _ z) hs | exact ⟨hs.1, xPut_mo (fun _ z => hP _ _ _ _ z) hs.2⟩ | exact xAld_mo (fun _ z => hP _ _ _ _ z) hs | exact xAst_mo (fun _ z => hP _ _ _ _ z) hs | exact ⟨hs.1, xAst_mo (fun _ z => hP _ _ _ _ z) hs.2⟩ | exact xRld_mo (fun _ z => hP _ _ _ _ z) hs | exact ⟨hs.1, xRst_mo (fun _ z => hP _ _ _ _ z) hs.2⟩ | exact xLen_mo (fun _ z => hP _ _ _ _ z) hs | exact xTag_mo (fun _ z => ⟨z.1, hP _ _ _ _ z.2⟩) hs | exact xRow_mo (hP _ _ _ _) hs | exact xRoS_mo (fun _ z => hP _ _ _ _ z) hs | exact ⟨hs.1, xCpy_mo (fun _ z => hP _ _ _ _ z) hs.2⟩ | exact ⟨hs.1, xCln_mo (fun _ _ z => ⟨z.1, hP _ _ _ _ z.2⟩) hs.2⟩
theorem m_stl {G : MG} {C C' : KC} {Q Q' : KQ} {P P' : KP} {nx : Nat} {n : Nat} {L : Loc'} {st : List V} {h : MH} (hC : moC C C') (hQ : ∀ r h, Q r h → Q' r h) (hP : ∀ pc L st h, P pc L st h → P' pc L st h) : s_stl G C Q P nx n L st h → s_stl G C' Q' P' nx n L st h := by
  unfold s_stl; intro hs
  split at hs <;> first | exact hs.elim | exact hP _ _ _ _ hs | exact hQ _ _ hs | exact ⟨hs.1, hP _ _ _ _ hs.2⟩ | exact ⟨hs.1, hQ _ _ hs.2⟩ | exact ⟨fun z => hP _ _ _ _ (hs.1 z), fun z => hP _ _ _ _ (hs.2 z)⟩ | exact xGet_mo (fun _ z => hP _ _ _ _ z) hs | exact ⟨hs.1, xPut_mo (fun _ z => hP _ _ _ _ z) hs.2⟩ | exact xAld_mo (fun _ z => hP _ _ _ _ z) hs | exact xAst_mo (fun _ z => hP _ _ _ _ z) hs | exact ⟨hs.1, xAst_mo (fun _ z => hP _ _ _ _ z) hs.2⟩ | exact xRld_mo (fun _ z => hP _ _ _ _ z) hs | exact ⟨hs.1, xRst_mo (fun _ z => hP _ _ _ _ z) hs.2⟩ | exact xLen_mo (fun _ z => hP _ _ _ _ z) hs | exact xTag_mo (fun _ z => ⟨z.1, hP _ _ _ _ z.2⟩) hs | exact xRow_mo (hP _ _ _ _) hs | exact xRoS_mo (fun _ z => hP _ _ _ _ z) hs | exact ⟨hs.1, xCpy_mo (fun _ z => hP _ _ _ _ z) hs.2⟩ | exact ⟨hs.1, xCln_mo (fun _ _ z => ⟨z.1, hP _ _ _ _ z.2⟩) hs.2⟩
theorem m_str {G : MG} {C C' : KC} {Q Q' : KQ} {P P' : KP} {nx : Nat} {n : Nat} {L : Loc'} {st : List V} {h : MH} (hC : moC C C') (hQ : ∀ r h, Q r h → Q' r h) (hP : ∀ pc L st h, P pc L st h → P' pc L st h) : s_str G C Q P nx n L st h → s_str G C' Q' P' nx n L st h := by
  unfold s_str; intro hs
  split at hs <;> first | exact hs.elim | exact hP _ _ _ _ hs | exact hQ _ _ hs | exact ⟨hs.1, hP _ _ _ _ hs.2⟩ | exact ⟨hs.1, hQ _ _ hs.2⟩ | exact ⟨fun z => hP _ _ _ _ (hs.1 z), fun z => hP _ _ _ _ (hs.2 z)⟩ | exact xGet_mo (fun _ z => hP _ _ _ _ z) hs | exact ⟨hs.1, xPut_mo (fun _ z => hP _ _ _ _ z) hs.2⟩ | exact xAld_mo (fun _ z => hP _ _ _ _ z) hs | exact xAst_mo (fun _ z => hP _ _ _ _ z) hs | exact ⟨hs.1, xAst_mo (fun _ z => hP _ _ _ _ z) hs.2⟩ | exact xRld_mo (fun _ z => hP _ _ _ _ z) hs | exact ⟨hs.1, xRst_mo (fun _ z => hP _ _ _ _ z) hs.2⟩ | exact xLen_mo (fun _ z => hP _ _ _ _ z) hs | exact xTag_mo (fun _ z => ⟨z.1, hP _ _ _ _ z.2⟩) hs | exact xRow_mo (hP _ _ _ _) hs | exact xRoS_mo (fun _ z => hP _ _ _ _ z) hs | exact ⟨hs.1, xCpy_mo (fun _ z => hP _ _ _ _ z) hs.2⟩ | exact ⟨hs.1, xCln_mo (fun _ _ z => ⟨z.1, hP _ _ _ _ z.2⟩) hs.2⟩
theorem m_iinc {G : MG} {C C' : KC} {Q Q' : KQ} {P P' : KP} {nx : Nat} {n : Nat} {c : Int} {L : Loc'} {st : List V} {h : MH} (hC : moC C C') (hQ : ∀ r h, Q r h → Q' r h) (hP : ∀ pc L st h, P pc L st h → P' pc L st h) : s_iinc G C Q P nx n c L st h → s_iinc G C' Q' P' nx n c L st h := by
  unfold s_iinc; intro hs
  split at hs <;> first | exact hs.elim | exact hP _ _ _ _ hs | exact hQ _ _ hs | exact ⟨hs.1, hP _ _ _ _ hs.2⟩ | exact ⟨hs.1, hQ _ _ hs.2⟩ | exact ⟨fun z => hP _ _ _ _ (hs.1 z), fun z => hP _ _ _ _ (hs.2 z)⟩ | exact xGet_mo (fun _ z => hP _ _ _ _ z) hs | exact ⟨hs.1, xPut_mo (fun _ z => hP _ _ _ _ z) hs.2⟩ | exact xAld_mo (fun _ z => hP _ _ _ _ z) hs | exact xAst_mo (fun _ z => hP _ _ _ _ z) hs | exact ⟨hs.1, xAst_mo (fun _ z => hP _ _ _ _ z) hs.2⟩ | exact xRld_mo (fun _ z => hP _ _ _ _ z) hs | exact ⟨hs.1, xRst_mo (fun _ z => hP _ _ _ _ z) hs.2⟩ | exact xLen_mo (fun _ z => hP _ _ _ _ z) hs | exact xTag_mo (fun _ z => ⟨z.1, hP _ _ _ _ z.2⟩) hs | exact xRow_mo (hP _ _ _ _) hs | exact xRoS_mo (fun _ z => hP _ _ _ _ z) hs | exact ⟨hs.1, xCpy_mo (fun _ z => hP _ _ _ _ z) hs.2⟩ | exact ⟨hs.1, xCln_mo (fun _ _ z => ⟨z.1, hP _ _ _ _ z.2⟩) hs.2⟩
theorem m_bin {G : MG} {C C' : KC} {Q Q' : KQ} {P P' : KP} {nx : Nat} {k : Nat} {L : Loc'} {st : List V} {h : MH} (hC : moC C C') (hQ : ∀ r h, Q r h → Q' r h) (hP : ∀ pc L st h, P pc L st h → P' pc L st h) : s_bin G C Q P nx k L st h → s_bin G C' Q' P' nx k L st h := by
  unfold s_bin; intro hs
  split at hs <;> first | exact hs.elim | exact hP _ _ _ _ hs | exact hQ _ _ hs | exact ⟨hs.1, hP _ _ _ _ hs.2⟩ | exact ⟨hs.1, hQ _ _ hs.2⟩ | exact ⟨fun z => hP _ _ _ _ (hs.1 z), fun z => hP _ _ _ _ (hs.2 z)⟩ | exact xGet_mo (fun _ z => hP _ _ _ _ z) hs | exact ⟨hs.1, xPut_mo (fun _ z => hP _ _ _ _ z) hs.2⟩ | exact xAld_mo (fun _ z => hP _ _ _ _ z) hs | exact xAst_mo (fun _ z => hP _ _ _ _ z) hs | exact ⟨hs.1, xAst_mo (fun _ z => hP _ _ _ _ z) hs.2⟩ | exact xRld_mo (fun _ z => hP _ _ _ _ z) hs | exact ⟨hs.1, xRst_mo (fun _ z => hP _ _ _ _ z) hs.2⟩ | exact xLen_mo (fun _ z => hP _ _ _ _ z) hs | exact xTag_mo (fun _ z => ⟨z.1, hP _ _ _ _ z.2⟩) hs | exact xRow_mo (hP _ _ _ _) hs | exact xRoS_mo (fun _ z => hP _ _ _ _ z) hs | exact ⟨hs.1, xCpy_mo (fun _ z => hP _ _ _ _ z) hs.2⟩ | exact ⟨hs.1, xCln_mo (fun _ _ z => ⟨z.1, hP _ _ _ _ z.2⟩) hs.2⟩
theorem m_idiv {G : MG} {C C' : KC} {Q Q' : KQ} {P P' : KP} {nx : Nat}  {L : Loc'} {st : List V} {h : MH} (hC : moC C C') (hQ : ∀ r h, Q r h → Q' r h) (hP : ∀ pc L st h, P pc L st h → P' pc L st h) : s_idiv G C Q P nx L st h → s_idiv G C' Q' P' nx L st h := by
  unfold s_idiv; intro hs
  split at hs <;> first | exact hs.elim | exact hP _ _ _ _ hs | exact hQ _ _ hs | exact ⟨hs.1, hP _ _ _ _ hs.2⟩ | exact ⟨hs.1, hQ _ _ hs.2⟩ | exact ⟨fun z => hP _ _ _ _ (hs.1 z), fun z => hP _ _ _ _ (hs.2 z)⟩ | exact xGet_mo (fun _ z => hP _ _ _ _ z) hs | exact ⟨hs.1, xPut_mo (fun _ z => hP _ _ _ _ z) hs.2⟩ | exact xAld_mo (fun _ z => hP _ _ _ _ z) hs | exact xAst_mo (fun _ z => hP _ _ _ _ z) hs | exact ⟨hs.1, xAst_mo (fun _ z => hP _ _ _ _ z) hs.2⟩ | exact xRld_mo (fun _ z => hP _ _ _ _ z) hs | exact ⟨hs.1, xRst_mo (fun _ z => hP _ _ _ _ z) hs.2⟩ | exact xLen_mo (fun _ z => hP _ _ _ _ z) hs | exact xTag_mo (fun _ z => ⟨z.1, hP _ _ _ _ z.2⟩) hs | exact xRow_mo (hP _ _ _ _) hs | exact xRoS_mo (fun _ z => hP _ _ _ _ z) hs | exact ⟨hs.1, xCpy_mo (fun _ z => hP _ _ _ _ z) hs.2⟩ | exact ⟨hs.1, xCln_mo (fun _ _ z => ⟨z.1, hP _ _ _ _ z.2⟩) hs.2⟩
theorem m_irem {G : MG} {C C' : KC} {Q Q' : KQ} {P P' : KP} {nx : Nat}  {L : Loc'} {st : List V} {h : MH} (hC : moC C C') (hQ : ∀ r h, Q r h → Q' r h) (hP : ∀ pc L st h, P pc L st h → P' pc L st h) : s_irem G C Q P nx L st h → s_irem G C' Q' P' nx L st h := by
  unfold s_irem; intro hs
  split at hs <;> first | exact hs.elim | exact hP _ _ _ _ hs | exact hQ _ _ hs | exact ⟨hs.1, hP _ _ _ _ hs.2⟩ | exact ⟨hs.1, hQ _ _ hs.2⟩ | exact ⟨fun z => hP _ _ _ _ (hs.1 z), fun z => hP _ _ _ _ (hs.2 z)⟩ | exact xGet_mo (fun _ z => hP _ _ _ _ z) hs | exact ⟨hs.1, xPut_mo (fun _ z => hP _ _ _ _ z) hs.2⟩ | exact xAld_mo (fun _ z => hP _ _ _ _ z) hs | exact xAst_mo (fun _ z => hP _ _ _ _ z) hs | exact ⟨hs.1, xAst_mo (fun _ z => hP _ _ _ _ z) hs.2⟩ | exact xRld_mo (fun _ z => hP _ _ _ _ z) hs | exact ⟨hs.1, xRst_mo (fun _ z => hP _ _ _ _ z) hs.2⟩ | exact xLen_mo (fun _ z => hP _ _ _ _ z) hs | exact xTag_mo (fun _ z => ⟨z.1, hP _ _ _ _ z.2⟩) hs | exact xRow_mo (hP _ _ _ _) hs | exact xRoS_mo (fun _ z => hP _ _ _ _ z) hs | exact ⟨hs.1, xCpy_mo (fun _ z => hP _ _ _ _ z) hs.2⟩ | exact ⟨hs.1, xCln_mo (fun _ _ z => ⟨z.1, hP _ _ _ _ z.2⟩) hs.2⟩
theorem m_ineg {G : MG} {C C' : KC} {Q Q' : KQ} {P P' : KP} {nx : Nat}  {L : Loc'} {st : List V} {h : MH} (hC : moC C C') (hQ : ∀ r h, Q r h → Q' r h) (hP : ∀ pc L st h, P pc L st h → P' pc L st h) : s_ineg G C Q P nx L st h → s_ineg G C' Q' P' nx L st h := by
  unfold s_ineg; intro hs
  split at hs <;> first | exact hs.elim | exact hP _ _ _ _ hs | exact hQ _ _ hs | exact ⟨hs.1, hP _ _ _ _ hs.2⟩ | exact ⟨hs.1, hQ _ _ hs.2⟩ | exact ⟨fun z => hP _ _ _ _ (hs.1 z), fun z => hP _ _ _ _ (hs.2 z)⟩ | exact xGet_mo (fun _ z => hP _ _ _ _ z) hs | exact ⟨hs.1, xPut_mo (fun _ z => hP _ _ _ _ z) hs.2⟩ | exact xAld_mo (fun _ z => hP _ _ _ _ z) hs | exact xAst_mo (fun _ z => hP _ _ _ _ z) hs | exact ⟨hs.1, xAst_mo (fun _ z => hP _ _ _ _ z) hs.2⟩ | exact xRld_mo (fun _ z => hP _ _ _ _ z) hs | exact ⟨hs.1, xRst_mo (fun _ z => hP _ _ _ _ z) hs.2⟩ | exact xLen_mo (fun _ z => hP _ _ _ _ z) hs | exact xTag_mo (fun _ z => ⟨z.1, hP _ _ _ _ z.2⟩) hs | exact xRow_mo (hP _ _ _ _) hs | exact xRoS_mo (fun _ z => hP _ _ _ _ z) hs | exact ⟨hs.1, xCpy_mo (fun _ z => hP _ _ _ _ z) hs.2⟩ | exact ⟨hs.1, xCln_mo (fun _ _ z => ⟨z.1, hP _ _ _ _ z.2⟩) hs.2⟩
theorem m_i2c {G : MG} {C C' : KC} {Q Q' : KQ} {P P' : KP} {nx : Nat}  {L : Loc'} {st : List V} {h : MH} (hC : moC C C') (hQ : ∀ r h, Q r h → Q' r h) (hP : ∀ pc L st h, P pc L st h → P' pc L st h) : s_i2c G C Q P nx L st h → s_i2c G C' Q' P' nx L st h := by
  unfold s_i2c; intro hs
  split at hs <;> first | exact hs.elim | exact hP _ _ _ _ hs | exact hQ _ _ hs | exact ⟨hs.1, hP _ _ _ _ hs.2⟩ | exact ⟨hs.1, hQ _ _ hs.2⟩ | exact ⟨fun z => hP _ _ _ _ (hs.1 z), fun z => hP _ _ _ _ (hs.2 z)⟩ | exact xGet_mo (fun _ z => hP _ _ _ _ z) hs | exact ⟨hs.1, xPut_mo (fun _ z => hP _ _ _ _ z) hs.2⟩ | exact xAld_mo (fun _ z => hP _ _ _ _ z) hs | exact xAst_mo (fun _ z => hP _ _ _ _ z) hs | exact ⟨hs.1, xAst_mo (fun _ z => hP _ _ _ _ z) hs.2⟩ | exact xRld_mo (fun _ z => hP _ _ _ _ z) hs | exact ⟨hs.1, xRst_mo (fun _ z => hP _ _ _ _ z) hs.2⟩ | exact xLen_mo (fun _ z => hP _ _ _ _ z) hs | exact xTag_mo (fun _ z => ⟨z.1, hP _ _ _ _ z.2⟩) hs | exact xRow_mo (hP _ _ _ _) hs | exact xRoS_mo (fun _ z => hP _ _ _ _ z) hs | exact ⟨hs.1, xCpy_mo (fun _ z => hP _ _ _ _ z) hs.2⟩ | exact ⟨hs.1, xCln_mo (fun _ _ z => ⟨z.1, hP _ _ _ _ z.2⟩) hs.2⟩
theorem m_i2b {G : MG} {C C' : KC} {Q Q' : KQ} {P P' : KP} {nx : Nat}  {L : Loc'} {st : List V} {h : MH} (hC : moC C C') (hQ : ∀ r h, Q r h → Q' r h) (hP : ∀ pc L st h, P pc L st h → P' pc L st h) : s_i2b G C Q P nx L st h → s_i2b G C' Q' P' nx L st h := by
  unfold s_i2b; intro hs
  split at hs <;> first | exact hs.elim | exact hP _ _ _ _ hs | exact hQ _ _ hs | exact ⟨hs.1, hP _ _ _ _ hs.2⟩ | exact ⟨hs.1, hQ _ _ hs.2⟩ | exact ⟨fun z => hP _ _ _ _ (hs.1 z), fun z => hP _ _ _ _ (hs.2 z)⟩ | exact xGet_mo (fun _ z => hP _ _ _ _ z) hs | exact ⟨hs.1, xPut_mo (fun _ z => hP _ _ _ _ z) hs.2⟩ | exact xAld_mo (fun _ z => hP _ _ _ _ z) hs | exact xAst_mo (fun _ z => hP _ _ _ _ z) hs | exact ⟨hs.1, xAst_mo (fun _ z => hP _ _ _ _ z) hs.2⟩ | exact xRld_mo (fun _ z => hP _ _ _ _ z) hs | exact ⟨hs.1, xRst_mo (fun _ z => hP _ _ _ _ z) hs.2⟩ | exact xLen_mo (fun _ z => hP _ _ _ _ z) hs | exact xTag_mo (fun _ z => ⟨z.1, hP _ _ _ _ z.2⟩) hs | exact xRow_mo (hP _ _ _ _) hs | exact xRoS_mo (fun _ z => hP _ _ _ _ z) hs | exact ⟨hs.1, xCpy_mo (fun _ z => hP _ _ _ _ z) hs.2⟩ | exact ⟨hs.1, xCln_mo (fun _ _ z => ⟨z.1, hP _ _ _ _ z.2⟩) hs.2⟩
theorem m_i2l {G : MG} {C C' : KC} {Q Q' : KQ} {P P' : KP} {nx : Nat}  {L : Loc'} {st : List V} {h : MH} (hC : moC C C') (hQ : ∀ r h, Q r h → Q' r h) (hP : ∀ pc L st h, P pc L st h → P' pc L st h) : s_i2l G C Q P nx L st h → s_i2l G C' Q' P' nx L st h := by
  unfold s_i2l; intro hs
  split at hs <;> first | exact hs.elim | exact hP _ _ _ _ hs | exact hQ _ _ hs | exact ⟨hs.1, hP _ _ _ _ hs.2⟩ | exact ⟨hs.1, hQ _ _ hs.2⟩ | exact ⟨fun z => hP _ _ _ _ (hs.1 z), fun z => hP _ _ _ _ (hs.2 z)⟩ | exact xGet_mo (fun _ z => hP _ _ _ _ z) hs | exact ⟨hs.1, xPut_mo (fun _ z => hP _ _ _ _ z) hs.2⟩ | exact xAld_mo (fun _ z => hP _ _ _ _ z) hs | exact xAst_mo (fun _ z => hP _ _ _ _ z) hs | exact ⟨hs.1, xAst_mo (fun _ z => hP _ _ _ _ z) hs.2⟩ | exact xRld_mo (fun _ z => hP _ _ _ _ z) hs | exact ⟨hs.1, xRst_mo (fun _ z => hP _ _ _ _ z) hs.2⟩ | exact xLen_mo (fun _ z => hP _ _ _ _ z) hs | exact xTag_mo (fun _ z => ⟨z.1, hP _ _ _ _ z.2⟩) hs | exact xRow_mo (hP _ _ _ _) hs | exact xRoS_mo (fun _ z => hP _ _ _ _ z) hs | exact ⟨hs.1, xCpy_mo (fun _ z => hP _ _ _ _ z) hs.2⟩ | exact ⟨hs.1, xCln_mo (fun _ _ z => ⟨z.1, hP _ _ _ _ z.2⟩) hs.2⟩
theorem m_ladd {G : MG} {C C' : KC} {Q Q' : KQ} {P P' : KP} {nx : Nat}  {L : Loc'} {st : List V} {h : MH} (hC : moC C C') (hQ : ∀ r h, Q r h → Q' r h) (hP : ∀ pc L st h, P pc L st h → P' pc L st h) : s_ladd G C Q P nx L st h → s_ladd G C' Q' P' nx L st h := by
  unfold s_ladd; intro hs
  split at hs <;> first | exact hs.elim | exact hP _ _ _ _ hs | exact hQ _ _ hs | exact ⟨hs.1, hP _ _ _ _ hs.2⟩ | exact ⟨hs.1, hQ _ _ hs.2⟩ | exact ⟨fun z => hP _ _ _ _ (hs.1 z), fun z => hP _ _ _ _ (hs.2 z)⟩ | exact xGet_mo (fun _ z => hP _ _ _ _ z) hs | exact ⟨hs.1, xPut_mo (fun _ z => hP _ _ _ _ z) hs.2⟩ | exact xAld_mo (fun _ z => hP _ _ _ _ z) hs | exact xAst_mo (fun _ z => hP _ _ _ _ z) hs | exact ⟨hs.1, xAst_mo (fun _ z => hP _ _ _ _ z) hs.2⟩ | exact xRld_mo (fun _ z => hP _ _ _ _ z) hs | exact ⟨hs.1, xRst_mo (fun _ z => hP _ _ _ _ z) hs.2⟩ | exact xLen_mo (fun _ z => hP _ _ _ _ z) hs | exact xTag_mo (fun _ z => ⟨z.1, hP _ _ _ _ z.2⟩) hs | exact xRow_mo (hP _ _ _ _) hs | exact xRoS_mo (fun _ z => hP _ _ _ _ z) hs | exact ⟨hs.1, xCpy_mo (fun _ z => hP _ _ _ _ z) hs.2⟩ | exact ⟨hs.1, xCln_mo (fun _ _ z => ⟨z.1, hP _ _ _ _ z.2⟩) hs.2⟩
theorem m_lneg {G : MG} {C C' : KC} {Q Q' : KQ} {P P' : KP} {nx : Nat}  {L : Loc'} {st : List V} {h : MH} (hC : moC C C') (hQ : ∀ r h, Q r h → Q' r h) (hP : ∀ pc L st h, P pc L st h → P' pc L st h) : s_lneg G C Q P nx L st h → s_lneg G C' Q' P' nx L st h := by
  unfold s_lneg; intro hs
  split at hs <;> first | exact hs.elim | exact hP _ _ _ _ hs | exact hQ _ _ hs | exact ⟨hs.1, hP _ _ _ _ hs.2⟩ | exact ⟨hs.1, hQ _ _ hs.2⟩ | exact ⟨fun z => hP _ _ _ _ (hs.1 z), fun z => hP _ _ _ _ (hs.2 z)⟩ | exact xGet_mo (fun _ z => hP _ _ _ _ z) hs | exact ⟨hs.1, xPut_mo (fun _ z => hP _ _ _ _ z) hs.2⟩ | exact xAld_mo (fun _ z => hP _ _ _ _ z) hs | exact xAst_mo (fun _ z => hP _ _ _ _ z) hs | exact ⟨hs.1, xAst_mo (fun _ z => hP _ _ _ _ z) hs.2⟩ | exact xRld_mo (fun _ z => hP _ _ _ _ z) hs | exact ⟨hs.1, xRst_mo (fun _ z => hP _ _ _ _ z) hs.2⟩ | exact xLen_mo (fun _ z => hP _ _ _ _ z) hs | exact xTag_mo (fun _ z => ⟨z.1, hP _ _ _ _ z.2⟩) hs | exact xRow_mo (hP _ _ _ _) hs | exact xRoS_mo (fun _ z => hP _ _ _ _ z) hs | exact ⟨hs.1, xCpy_mo (fun _ z => hP _ _ _ _ z) hs.2⟩ | exact ⟨hs.1, xCln_mo (fun _ _ z => ⟨z.1, hP _ _ _ _ z.2⟩) hs.2⟩
theorem m_lrem {G : MG} {C C' : KC} {Q Q' : KQ} {P P' : KP} {nx : Nat}  {L : Loc'} {st : List V} {h : MH} (hC : moC C C') (hQ : ∀ r h, Q r h → Q' r h) (hP : ∀ pc L st h, P pc L st h → P' pc L st h) : s_lrem G C Q P nx L st h → s_lrem G C' Q' P' nx L st h := by
  unfold s_lrem; intro hs
  split at hs <;> first | exact hs.elim | exact hP _ _ _ _ hs | exact hQ _ _ hs | exact ⟨hs.1, hP _ _ _ _ hs.2⟩ | exact ⟨hs.1, hQ _ _ hs.2⟩ | exact ⟨fun z => hP _ _ _ _ (hs.1 z), fun z => hP _ _ _ _ (hs.2 z)⟩ | exact xGet_mo (fun _ z => hP _ _ _ _ z) hs | exact ⟨hs.1, xPut_mo (fun _ z => hP _ _ _ _ z) hs.2⟩ | exact xAld_mo (fun _ z => hP _ _ _ _ z) hs | exact xAst_mo (fun _ z => hP _ _ _ _ z) hs | exact ⟨hs.1, xAst_mo (fun _ z => hP _ _ _ _ z) hs.2⟩ | exact xRld_mo (fun _ z => hP _ _ _ _ z) hs | exact ⟨hs.1, xRst_mo (fun _ z => hP _ _ _ _ z) hs.2⟩ | exact xLen_mo (fun _ z => hP _ _ _ _ z) hs | exact xTag_mo (fun _ z => ⟨z.1, hP _ _ _ _ z.2⟩) hs | exact xRow_mo (hP _ _ _ _) hs | exact xRoS_mo (fun _ z => hP _ _ _ _ z) hs | exact ⟨hs.1, xCpy_mo (fun _ z => hP _ _ _ _ z) hs.2⟩ | exact ⟨hs.1, xCln_mo (fun _ _ z => ⟨z.1, hP _ _ _ _ z.2⟩) hs.2⟩
theorem m_ldiv {G : MG} {C C' : KC} {Q Q' : KQ} {P P' : KP} {nx : Nat}  {L : Loc'} {st : List V} {h : MH} (hC : moC C C') (hQ : ∀ r h, Q r h → Q' r h) (hP : ∀ pc L st h, P pc L st h → P' pc L st h) : s_ldiv G C Q P nx L st h → s_ldiv G C' Q' P' nx L st h := by
  unfold s_ldiv; intro hs
  split at hs <;> first | exact hs.elim | exact hP _ _ _ _ hs | exact hQ _ _ hs | exact ⟨hs.1, hP _ _ _ _ hs.2⟩ | exact ⟨hs.1, hQ _ _ hs.2⟩ | exact ⟨fun z => hP _ _ _ _ (hs.1 z), fun z => hP _ _ _ _ (hs.2 z)⟩ | exact xGet_mo (fun _ z => hP _ _ _ _ z) hs | exact ⟨hs.1, xPut_mo (fun _ z => hP _ _ _ _ z) hs.2⟩ | exact xAld_mo (fun _ z => hP _ _ _ _ z) hs | exact xAst_mo (fun _ z => hP _ _ _ _ z) hs | exact ⟨hs.1, xAst_mo (fun _ z => hP _ _ _ _ z) hs.2⟩ | exact xRld_mo (fun _ z => hP _ _ _ _ z) hs | exact ⟨hs.1, xRst_mo (fun _ z => hP _ _ _ _ z) hs.2⟩ | exact xLen_mo (fun _ z => hP _ _ _ _ z) hs | exact xTag_mo (fun _ z => ⟨z.1, hP _ _ _ _ z.2⟩) hs | exact xRow_mo (hP _ _ _ _) hs | exact xRoS_mo (fun _ z => hP _ _ _ _ z) hs | exact ⟨hs.1, xCpy_mo (fun _ z => hP _ _ _ _ z) hs.2⟩ | exact ⟨hs.1, xCln_mo (fun _ _ z => ⟨z.1, hP _ _ _ _ z.2⟩) hs.2⟩
theorem m_lcmp {G : MG} {C C' : KC} {Q Q' : KQ} {P P' : KP} {nx : Nat}  {L : Loc'} {st : List V} {h : MH} (hC : moC C C') (hQ : ∀ r h, Q r h → Q' r h) (hP : ∀ pc L st h, P pc L st h → P' pc L st h) : s_lcmp G C Q P nx L st h → s_lcmp G C' Q' P' nx L st h := by
  unfold s_lcmp; intro hs
  split at hs <;> first | exact hs.elim | exact hP _ _ _ _ hs | exact hQ _ _ hs | exact ⟨hs.1, hP _ _ _ _ hs.2⟩ | exact ⟨hs.1, hQ _ _ hs.2⟩ | exact ⟨fun z => hP _ _ _ _ (hs.1 z), fun z => hP _ _ _ _ (hs.2 z)⟩ | exact xGet_mo (fun _ z => hP _ _ _ _ z) hs | exact ⟨hs.1, xPut_mo (fun _ z => hP _ _ _ _ z) hs.2⟩ | exact xAld_mo (fun _ z => hP _ _ _ _ z) hs | exact xAst_mo (fun _ z => hP _ _ _ _ z) hs | exact ⟨hs.1, xAst_mo (fun _ z => hP _ _ _ _ z) hs.2⟩ | exact xRld_mo (fun _ z => hP _ _ _ _ z) hs | exact ⟨hs.1, xRst_mo (fun _ z => hP _ _ _ _ z) hs.2⟩ | exact xLen_mo (fun _ z => hP _ _ _ _ z) hs | exact xTag_mo (fun _ z => ⟨z.1, hP _ _ _ _ z.2⟩) hs | exact xRow_mo (hP _ _ _ _) hs | exact xRoS_mo (fun _ z => hP _ _ _ _ z) hs | exact ⟨hs.1, xCpy_mo (fun _ z => hP _ _ _ _ z) hs.2⟩ | exact ⟨hs.1, xCln_mo (fun _ _ z => ⟨z.1, hP _ _ _ _ z.2⟩) hs.2⟩
theorem m_dup {G : MG} {C C' : KC} {Q Q' : KQ} {P P' : KP} {nx : Nat}  {L : Loc'} {st : List V} {h : MH} (hC : moC C C') (hQ : ∀ r h, Q r h → Q' r h) (hP : ∀ pc L st h, P pc L st h → P' pc L st h) : s_dup G C Q P nx L st h → s_dup G C' Q' P' nx L st h := by
  unfold s_dup; intro hs
  split at hs <;> first | exact hs.elim | exact hP _ _ _ _ hs | exact hQ _ _ hs | exact ⟨hs.1, hP _ _ _ _ hs.2⟩ | exact ⟨hs.1, hQ _ _ hs.2⟩ | exact ⟨fun z => hP _ _ _ _ (hs.1 z), fun z => hP _ _ _ _ (hs.2 z)⟩ | exact xGet_mo (fun _ z => hP _ _ _ _ z) hs | exact ⟨hs.1, xPut_mo (fun _ z => hP _ _ _ _ z) hs.2⟩ | exact xAld_mo (fun _ z => hP _ _ _ _ z) hs | exact xAst_mo (fun _ z => hP _ _ _ _ z) hs | exact ⟨hs.1, xAst_mo (fun _ z => hP _ _ _ _ z) hs.2⟩ | exact xRld_mo (fun _ z => hP _ _ _ _ z) hs | exact ⟨hs.1, xRst_mo (fun _ z => hP _ _ _ _ z) hs.2⟩ | exact xLen_mo (fun _ z => hP _ _ _ _ z) hs | exact xTag_mo (fun _ z => ⟨z.1, hP _ _ _ _ z.2⟩) hs | exact xRow_mo (hP _ _ _ _) hs | exact xRoS_mo (fun _ z => hP _ _ _ _ z) hs | exact ⟨hs.1, xCpy_mo (fun _ z => hP _ _ _ _ z) hs.2⟩ | exact ⟨hs.1, xCln_mo (fun _ _ z => ⟨z.1, hP _ _ _ _ z.2⟩) hs.2⟩
theorem m_pop {G : MG} {C C' : KC} {Q Q' : KQ} {P P' : KP} {nx : Nat}  {L : Loc'} {st : List V} {h : MH} (hC : moC C C') (hQ : ∀ r h, Q r h → Q' r h) (hP : ∀ pc L st h, P pc L st h → P' pc L st h) : s_pop G C Q P nx L st h → s_pop G C' Q' P' nx L st h := by
  unfold s_pop; intro hs
  split at hs <;> first | exact hs.elim | exact hP _ _ _ _ hs | exact hQ _ _ hs | exact ⟨hs.1, hP _ _ _ _ hs.2⟩ | exact ⟨hs.1, hQ _ _ hs.2⟩ | exact ⟨fun z => hP _ _ _ _ (hs.1 z), fun z => hP _ _ _ _ (hs.2 z)⟩ | exact xGet_mo (fun _ z => hP _ _ _ _ z) hs | exact ⟨hs.1, xPut_mo (fun _ z => hP _ _ _ _ z) hs.2⟩ | exact xAld_mo (fun _ z => hP _ _ _ _ z) hs | exact xAst_mo (fun _ z => hP _ _ _ _ z) hs | exact ⟨hs.1, xAst_mo (fun _ z => hP _ _ _ _ z) hs.2⟩ | exact xRld_mo (fun _ z => hP _ _ _ _ z) hs | exact ⟨hs.1, xRst_mo (fun _ z => hP _ _ _ _ z) hs.2⟩ | exact xLen_mo (fun _ z => hP _ _ _ _ z) hs | exact xTag_mo (fun _ z => ⟨z.1, hP _ _ _ _ z.2⟩) hs | exact xRow_mo (hP _ _ _ _) hs | exact xRoS_mo (fun _ z => hP _ _ _ _ z) hs | exact ⟨hs.1, xCpy_mo (fun _ z => hP _ _ _ _ z) hs.2⟩ | exact ⟨hs.1, xCln_mo (fun _ _ z => ⟨z.1, hP _ _ _ _ z.2⟩) hs.2⟩
theorem m_dupx1 {G : MG} {C C' : KC} {Q Q' : KQ} {P P' : KP} {nx : Nat}  {L : Loc'} {st : List V} {h : MH} (hC : moC C C') (hQ : ∀ r h, Q r h → Q' r h) (hP : ∀ pc L st h, P pc L st h → P' pc L st h) : s_dupx1 G C Q P nx L st h → s_dupx1 G C' Q' P' nx L st h := by
  unfold s_dupx1; intro hs
  split at hs <;> first | exact hs.elim | exact hP _ _ _ _ hs | exact hQ _ _ hs | exact ⟨hs.1, hP _ _ _ _ hs.2⟩ | exact ⟨hs.1, hQ _ _ hs.2⟩ | exact ⟨fun z => hP _ _ _ _ (hs.1 z), fun z => hP _ _ _ _ (hs.2 z)⟩ | exact xGet_mo (fun _ z => hP _ _ _ _ z) hs | exact ⟨hs.1, xPut_mo (fun _ z => hP _ _ _ _ z) hs.2⟩ | exact xAld_mo (fun _ z => hP _ _ _ _ z) hs | exact xAst_mo (fun _ z => hP _ _ _ _ z) hs | exact ⟨hs.1, xAst_mo (fun _ z => hP _ _ _ _ z) hs.2⟩ | exact xRld_mo (fun _ z => hP _ _ _ _ z) hs | exact ⟨hs.1, xRst_mo (fun _ z => hP _ _ _ _ z) hs.2⟩ | exact xLen_mo (fun _ z => hP _ _ _ _ z) hs | exact xTag_mo (fun _ z => ⟨z.1, hP _ _ _ _ z.2⟩) hs | exact xRow_mo (hP _ _ _ _) hs | exact xRoS_mo (fun _ z => hP _ _ _ _ z) hs | exact ⟨hs.1, xCpy_mo (fun _ z => hP _ _ _ _ z) hs.2⟩ | exact ⟨hs.1, xCln_mo (fun _ _ z => ⟨z.1, hP _ _ _ _ z.2⟩) hs.2⟩
theorem m_dup2 {G : MG} {C C' : KC} {Q Q' : KQ} {P P' : KP} {nx : Nat}  {L : Loc'} {st : List V} {h : MH} (hC : moC C C') (hQ : ∀ r h, Q r h → Q' r h) (hP : ∀ pc L st h, P pc L st h → P' pc L st h) : s_dup2 G C Q P nx L st h → s_dup2 G C' Q' P' nx L st h := by
  unfold s_dup2; intro hs
  split at hs <;> first | exact hs.elim | exact hP _ _ _ _ hs | exact hQ _ _ hs | exact ⟨hs.1, hP _ _ _ _ hs.2⟩ | exact ⟨hs.1, hQ _ _ hs.2⟩ | exact ⟨fun z => hP _ _ _ _ (hs.1 z), fun z => hP _ _ _ _ (hs.2 z)⟩ | exact xGet_mo (fun _ z => hP _ _ _ _ z) hs | exact ⟨hs.1, xPut_mo (fun _ z => hP _ _ _ _ z) hs.2⟩ | exact xAld_mo (fun _ z => hP _ _ _ _ z) hs | exact xAst_mo (fun _ z => hP _ _ _ _ z) hs | exact ⟨hs.1, xAst_mo (fun _ z => hP _ _ _ _ z) hs.2⟩ | exact xRld_mo (fun _ z => hP _ _ _ _ z) hs | exact ⟨hs.1, xRst_mo (fun _ z => hP _ _ _ _ z) hs.2⟩ | exact xLen_mo (fun _ z => hP _ _ _ _ z) hs | exact xTag_mo (fun _ z => ⟨z.1, hP _ _ _ _ z.2⟩) hs | exact xRow_mo (hP _ _ _ _) hs | exact xRoS_mo (fun _ z => hP _ _ _ _ z) hs | exact ⟨hs.1, xCpy_mo (fun _ z => hP _ _ _ _ z) hs.2⟩ | exact ⟨hs.1, xCln_mo (fun _ _ z => ⟨z.1, hP _ _ _ _ z.2⟩) hs.2⟩
theorem m_ifc {G : MG} {C C' : KC} {Q Q' : KQ} {P P' : KP} {nx : Nat} {k : ClassFile.Cond} {t : Nat} {L : Loc'} {st : List V} {h : MH} (hC : moC C C') (hQ : ∀ r h, Q r h → Q' r h) (hP : ∀ pc L st h, P pc L st h → P' pc L st h) : s_ifc G C Q P nx k t L st h → s_ifc G C' Q' P' nx k t L st h := by
  unfold s_ifc; intro hs
  split at hs <;> first | exact hs.elim | exact hP _ _ _ _ hs | exact hQ _ _ hs | exact ⟨hs.1, hP _ _ _ _ hs.2⟩ | exact ⟨hs.1, hQ _ _ hs.2⟩ | exact ⟨fun z => hP _ _ _ _ (hs.1 z), fun z => hP _ _ _ _ (hs.2 z)⟩ | exact xGet_mo (fun _ z => hP _ _ _ _ z) hs | exact ⟨hs.1, xPut_mo (fun _ z => hP _ _ _ _ z) hs.2⟩ | exact xAld_mo (fun _ z => hP _ _ _ _ z) hs | exact xAst_mo (fun _ z => hP _ _ _ _ z) hs | exact ⟨hs.1, xAst_mo (fun _ z => hP _ _ _ _ z) hs.2⟩ | exact xRld_mo (fun _ z => hP _ _ _ _ z) hs | exact ⟨hs.1, xRst_mo (fun _ z => hP _ _ _ _ z) hs.2⟩ | exact xLen_mo (fun _ z => hP _ _ _ _ z) hs | exact xTag_mo (fun _ z => ⟨z.1, hP _ _ _ _ z.2⟩) hs | exact xRow_mo (hP _ _ _ _) hs | exact xRoS_mo (fun _ z => hP _ _ _ _ z) hs | exact ⟨hs.1, xCpy_mo (fun _ z => hP _ _ _ _ z) hs.2⟩ | exact ⟨hs.1, xCln_mo (fun _ _ z => ⟨z.1, hP _ _ _ _ z.2⟩) hs.2⟩
theorem m_icmp {G : MG} {C C' : KC} {Q Q' : KQ} {P P' : KP} {nx : Nat} {k : ClassFile.Cond} {t : Nat} {L : Loc'} {st : List V} {h : MH} (hC : moC C C') (hQ : ∀ r h, Q r h → Q' r h) (hP : ∀ pc L st h, P pc L st h → P' pc L st h) : s_icmp G C Q P nx k t L st h → s_icmp G C' Q' P' nx k t L st h := by
  unfold s_icmp; intro hs
  split at hs <;> first | exact hs.elim | exact hP _ _ _ _ hs | exact hQ _ _ hs | exact ⟨hs.1, hP _ _ _ _ hs.2⟩ | exact ⟨hs.1, hQ _ _ hs.2⟩ | exact ⟨fun z => hP _ _ _ _ (hs.1 z), fun z => hP _ _ _ _ (hs.2 z)⟩ | exact xGet_mo (fun _ z => hP _ _ _ _ z) hs | exact ⟨hs.1, xPut_mo (fun _ z => hP _ _ _ _ z) hs.2⟩ | exact xAld_mo (fun _ z => hP _ _ _ _ z) hs | exact xAst_mo (fun _ z => hP _ _ _ _ z) hs | exact ⟨hs.1, xAst_mo (fun _ z => hP _ _ _ _ z) hs.2⟩ | exact xRld_mo (fun _ z => hP _ _ _ _ z) hs | exact ⟨hs.1, xRst_mo (fun _ z => hP _ _ _ _ z) hs.2⟩ | exact xLen_mo (fun _ z => hP _ _ _ _ z) hs | exact xTag_mo (fun _ z => ⟨z.1, hP _ _ _ _ z.2⟩) hs | exact xRow_mo (hP _ _ _ _) hs | exact xRoS_mo (fun _ z => hP _ _ _ _ z) hs | exact ⟨hs.1, xCpy_mo (fun _ z => hP _ _ _ _ z) hs.2⟩ | exact ⟨hs.1, xCln_mo (fun _ _ z => ⟨z.1, hP _ _ _ _ z.2⟩) hs.2⟩
theorem m_ifnull {G : MG} {C C' : KC} {Q Q' : KQ} {P P' : KP} {nx : Nat} {t : Nat} {L : Loc'} {st : List V} {h : MH} (hC : moC C C') (hQ : ∀ r h, Q r h → Q' r h) (hP : ∀ pc L st h, P pc L st h → P' pc L st h) : s_ifnull G C Q P nx t L st h → s_ifnull G C' Q' P' nx t L st h := by
  unfold s_ifnull; intro hs
  split at hs <;> first | exact hs.elim | exact hP _ _ _ _ hs | exact hQ _ _ hs | exact ⟨hs.1, hP _ _ _ _ hs.2⟩ | exact ⟨hs.1, hQ _ _ hs.2⟩ | exact ⟨fun z => hP _ _ _ _ (hs.1 z), fun z => hP _ _ _ _ (hs.2 z)⟩ | exact xGet_mo (fun _ z => hP _ _ _ _ z) hs | exact ⟨hs.1, xPut_mo (fun _ z => hP _ _ _ _ z) hs.2⟩ | exact xAld_mo (fun _ z => hP _ _ _ _ z) hs | exact xAst_mo (fun _ z => hP _ _ _ _ z) hs | exact ⟨hs.1, xAst_mo (fun _ z => hP _ _ _ _ z) hs.2⟩ | exact xRld_mo (fun _ z => hP _ _ _ _ z) hs | exact ⟨hs.1, xRst_mo (fun _ z => hP _ _ _ _ z) hs.2⟩ | exact xLen_mo (fun _ z => hP _ _ _ _ z) hs | exact xTag_mo (fun _ z => ⟨z.1, hP _ _ _ _ z.2⟩) hs | exact xRow_mo (hP _ _ _ _) hs | exact xRoS_mo (fun _ z => hP _ _ _ _ z) hs | exact ⟨hs.1, xCpy_mo (fun _ z => hP _ _ _ _ z) hs.2⟩ | exact ⟨hs.1, xCln_mo (fun _ _ z => ⟨z.1, hP _ _ _ _ z.2⟩) hs.2⟩
theorem m_ifnn {G : MG} {C C' : KC} {Q Q' : KQ} {P P' : KP} {nx : Nat} {t : Nat} {L : Loc'} {st : List V} {h : MH} (hC : moC C C') (hQ : ∀ r h, Q r h → Q' r h) (hP : ∀ pc L st h, P pc L st h → P' pc L st h) : s_ifnn G C Q P nx t L st h → s_ifnn G C' Q' P' nx t L st h := by
  unfold s_ifnn; intro hs
  split at hs <;> first | exact hs.elim | exact hP _ _ _ _ hs | exact hQ _ _ hs | exact ⟨hs.1, hP _ _ _ _ hs.2⟩ | exact ⟨hs.1, hQ _ _ hs.2⟩ | exact ⟨fun z => hP _ _ _ _ (hs.1 z), fun z => hP _ _ _ _ (hs.2 z)⟩ | exact xGet_mo (fun _ z => hP _ _ _ _ z) hs | exact ⟨hs.1, xPut_mo (fun _ z => hP _ _ _ _ z) hs.2⟩ | exact xAld_mo (fun _ z => hP _ _ _ _ z) hs | exact xAst_mo (fun _ z => hP _ _ _ _ z) hs | exact ⟨hs.1, xAst_mo (fun _ z => hP _ _ _ _ z) hs.2⟩ | exact xRld_mo (fun _ z => hP _ _ _ _ z) hs | exact ⟨hs.1, xRst_mo (fun _ z => hP _ _ _ _ z) hs.2⟩ | exact xLen_mo (fun _ z => hP _ _ _ _ z) hs | exact xTag_mo (fun _ z => ⟨z.1, hP _ _ _ _ z.2⟩) hs | exact xRow_mo (hP _ _ _ _) hs | exact xRoS_mo (fun _ z => hP _ _ _ _ z) hs | exact ⟨hs.1, xCpy_mo (fun _ z => hP _ _ _ _ z) hs.2⟩ | exact ⟨hs.1, xCln_mo (fun _ _ z => ⟨z.1, hP _ _ _ _ z.2⟩) hs.2⟩
theorem m_acmp {G : MG} {C C' : KC} {Q Q' : KQ} {P P' : KP} {nx : Nat} {te tn : Nat} {L : Loc'} {st : List V} {h : MH} (hC : moC C C') (hQ : ∀ r h, Q r h → Q' r h) (hP : ∀ pc L st h, P pc L st h → P' pc L st h) : s_acmp G C Q P nx te tn L st h → s_acmp G C' Q' P' nx te tn L st h := by
  unfold s_acmp; intro hs
  split at hs <;> first | exact hs.elim | exact hP _ _ _ _ hs | exact hQ _ _ hs | exact ⟨hs.1, hP _ _ _ _ hs.2⟩ | exact ⟨hs.1, hQ _ _ hs.2⟩ | exact ⟨fun z => hP _ _ _ _ (hs.1 z), fun z => hP _ _ _ _ (hs.2 z)⟩ | exact xGet_mo (fun _ z => hP _ _ _ _ z) hs | exact ⟨hs.1, xPut_mo (fun _ z => hP _ _ _ _ z) hs.2⟩ | exact xAld_mo (fun _ z => hP _ _ _ _ z) hs | exact xAst_mo (fun _ z => hP _ _ _ _ z) hs | exact ⟨hs.1, xAst_mo (fun _ z => hP _ _ _ _ z) hs.2⟩ | exact xRld_mo (fun _ z => hP _ _ _ _ z) hs | exact ⟨hs.1, xRst_mo (fun _ z => hP _ _ _ _ z) hs.2⟩ | exact xLen_mo (fun _ z => hP _ _ _ _ z) hs | exact xTag_mo (fun _ z => ⟨z.1, hP _ _ _ _ z.2⟩) hs | exact xRow_mo (hP _ _ _ _) hs | exact xRoS_mo (fun _ z => hP _ _ _ _ z) hs | exact ⟨hs.1, xCpy_mo (fun _ z => hP _ _ _ _ z) hs.2⟩ | exact ⟨hs.1, xCln_mo (fun _ _ z => ⟨z.1, hP _ _ _ _ z.2⟩) hs.2⟩
theorem m_goto {G : MG} {C C' : KC} {Q Q' : KQ} {P P' : KP} {nx : Nat} {t : Nat} {L : Loc'} {st : List V} {h : MH} (hC : moC C C') (hQ : ∀ r h, Q r h → Q' r h) (hP : ∀ pc L st h, P pc L st h → P' pc L st h) : s_goto G C Q P nx t L st h → s_goto G C' Q' P' nx t L st h := by
  exact hP _ _ _ _
theorem m_swi {G : MG} {C C' : KC} {Q Q' : KQ} {P P' : KP} {nx : Nat} {f : Int → Nat} {L : Loc'} {st : List V} {h : MH} (hC : moC C C') (hQ : ∀ r h, Q r h → Q' r h) (hP : ∀ pc L st h, P pc L st h → P' pc L st h) : s_swi G C Q P nx f L st h → s_swi G C' Q' P' nx f L st h := by
  unfold s_swi; intro hs
  split at hs <;> first | exact hs.elim | exact hP _ _ _ _ hs | exact hQ _ _ hs | exact ⟨hs.1, hP _ _ _ _ hs.2⟩ | exact ⟨hs.1, hQ _ _ hs.2⟩ | exact ⟨fun z => hP _ _ _ _ (hs.1 z), fun z => hP _ _ _ _ (hs.2 z)⟩ | exact xGet_mo (fun _ z => hP _ _ _ _ z) hs | exact ⟨hs.1, xPut_mo (fun _ z => hP _ _ _ _ z) hs.2⟩ | exact xAld_mo (fun _ z => hP _ _ _ _ z) hs | exact xAst_mo (fun _ z => hP _ _ _ _ z) hs | exact ⟨hs.1, xAst_mo (fun _ z => hP _ _ _ _ z) hs.2⟩ | exact xRld_mo (fun _ z => hP _ _ _ _ z) hs | exact ⟨hs.1, xRst_mo (fun _ z => hP _ _ _ _ z) hs.2⟩ | exact xLen_mo (fun _ z => hP _ _ _ _ z) hs | exact xTag_mo (fun _ z => ⟨z.1, hP _ _ _ _ z.2⟩) hs | exact xRow_mo (hP _ _ _ _) hs | exact xRoS_mo (fun _ z => hP _ _ _ _ z) hs | exact ⟨hs.1, xCpy_mo (fun _ z => hP _ _ _ _ z) hs.2⟩ | exact ⟨hs.1, xCln_mo (fun _ _ z => ⟨z.1, hP _ _ _ _ z.2⟩) hs.2⟩
theorem m_getf {G : MG} {C C' : KC} {Q Q' : KQ} {P P' : KP} {nx : Nat} {k w : Nat} {L : Loc'} {st : List V} {h : MH} (hC : moC C C') (hQ : ∀ r h, Q r h → Q' r h) (hP : ∀ pc L st h, P pc L st h → P' pc L st h) : s_getf G C Q P nx k w L st h → s_getf G C' Q' P' nx k w L st h := by
  unfold s_getf; intro hs
  split at hs <;> first | exact hs.elim | exact hP _ _ _ _ hs | exact hQ _ _ hs | exact ⟨hs.1, hP _ _ _ _ hs.2⟩ | exact ⟨hs.1, hQ _ _ hs.2⟩ | exact ⟨fun z => hP _ _ _ _ (hs.1 z), fun z => hP _ _ _ _ (hs.2 z)⟩ | exact xGet_mo (fun _ z => hP _ _ _ _ z) hs | exact ⟨hs.1, xPut_mo (fun _ z => hP _ _ _ _ z) hs.2⟩ | exact xAld_mo (fun _ z => hP _ _ _ _ z) hs | exact xAst_mo (fun _ z => hP _ _ _ _ z) hs | exact ⟨hs.1, xAst_mo (fun _ z => hP _ _ _ _ z) hs.2⟩ | exact xRld_mo (fun _ z => hP _ _ _ _ z) hs | exact ⟨hs.1, xRst_mo (fun _ z => hP _ _ _ _ z) hs.2⟩ | exact xLen_mo (fun _ z => hP _ _ _ _ z) hs | exact xTag_mo (fun _ z => ⟨z.1, hP _ _ _ _ z.2⟩) hs | exact xRow_mo (hP _ _ _ _) hs | exact xRoS_mo (fun _ z => hP _ _ _ _ z) hs | exact ⟨hs.1, xCpy_mo (fun _ z => hP _ _ _ _ z) hs.2⟩ | exact ⟨hs.1, xCln_mo (fun _ _ z => ⟨z.1, hP _ _ _ _ z.2⟩) hs.2⟩
theorem m_putf {G : MG} {C C' : KC} {Q Q' : KQ} {P P' : KP} {nx : Nat} {k w ty : Nat} {L : Loc'} {st : List V} {h : MH} (hC : moC C C') (hQ : ∀ r h, Q r h → Q' r h) (hP : ∀ pc L st h, P pc L st h → P' pc L st h) : s_putf G C Q P nx k w ty L st h → s_putf G C' Q' P' nx k w ty L st h := by
  unfold s_putf; intro hs
  split at hs <;> first | exact hs.elim | exact hP _ _ _ _ hs | exact hQ _ _ hs | exact ⟨hs.1, hP _ _ _ _ hs.2⟩ | exact ⟨hs.1, hQ _ _ hs.2⟩ | exact ⟨fun z => hP _ _ _ _ (hs.1 z), fun z => hP _ _ _ _ (hs.2 z)⟩ | exact xGet_mo (fun _ z => hP _ _ _ _ z) hs | exact ⟨hs.1, xPut_mo (fun _ z => hP _ _ _ _ z) hs.2⟩ | exact xAld_mo (fun _ z => hP _ _ _ _ z) hs | exact xAst_mo (fun _ z => hP _ _ _ _ z) hs | exact ⟨hs.1, xAst_mo (fun _ z => hP _ _ _ _ z) hs.2⟩ | exact xRld_mo (fun _ z => hP _ _ _ _ z) hs | exact ⟨hs.1, xRst_mo (fun _ z => hP _ _ _ _ z) hs.2⟩ | exact xLen_mo (fun _ z => hP _ _ _ _ z) hs | exact xTag_mo (fun _ z => ⟨z.1, hP _ _ _ _ z.2⟩) hs | exact xRow_mo (hP _ _ _ _) hs | exact xRoS_mo (fun _ z => hP _ _ _ _ z) hs | exact ⟨hs.1, xCpy_mo (fun _ z => hP _ _ _ _ z) hs.2⟩ | exact ⟨hs.1, xCln_mo (fun _ _ z => ⟨z.1, hP _ _ _ _ z.2⟩) hs.2⟩
theorem m_iald {G : MG} {C C' : KC} {Q Q' : KQ} {P P' : KP} {nx : Nat}  {L : Loc'} {st : List V} {h : MH} (hC : moC C C') (hQ : ∀ r h, Q r h → Q' r h) (hP : ∀ pc L st h, P pc L st h → P' pc L st h) : s_iald G C Q P nx L st h → s_iald G C' Q' P' nx L st h := by
  unfold s_iald; intro hs
  split at hs <;> first | exact hs.elim | exact hP _ _ _ _ hs | exact hQ _ _ hs | exact ⟨hs.1, hP _ _ _ _ hs.2⟩ | exact ⟨hs.1, hQ _ _ hs.2⟩ | exact ⟨fun z => hP _ _ _ _ (hs.1 z), fun z => hP _ _ _ _ (hs.2 z)⟩ | exact xGet_mo (fun _ z => hP _ _ _ _ z) hs | exact ⟨hs.1, xPut_mo (fun _ z => hP _ _ _ _ z) hs.2⟩ | exact xAld_mo (fun _ z => hP _ _ _ _ z) hs | exact xAst_mo (fun _ z => hP _ _ _ _ z) hs | exact ⟨hs.1, xAst_mo (fun _ z => hP _ _ _ _ z) hs.2⟩ | exact xRld_mo (fun _ z => hP _ _ _ _ z) hs | exact ⟨hs.1, xRst_mo (fun _ z => hP _ _ _ _ z) hs.2⟩ | exact xLen_mo (fun _ z => hP _ _ _ _ z) hs | exact xTag_mo (fun _ z => ⟨z.1, hP _ _ _ _ z.2⟩) hs | exact xRow_mo (hP _ _ _ _) hs | exact xRoS_mo (fun _ z => hP _ _ _ _ z) hs | exact ⟨hs.1, xCpy_mo (fun _ z => hP _ _ _ _ z) hs.2⟩ | exact ⟨hs.1, xCln_mo (fun _ _ z => ⟨z.1, hP _ _ _ _ z.2⟩) hs.2⟩
theorem m_bald {G : MG} {C C' : KC} {Q Q' : KQ} {P P' : KP} {nx : Nat}  {L : Loc'} {st : List V} {h : MH} (hC : moC C C') (hQ : ∀ r h, Q r h → Q' r h) (hP : ∀ pc L st h, P pc L st h → P' pc L st h) : s_bald G C Q P nx L st h → s_bald G C' Q' P' nx L st h := by
  unfold s_bald; intro hs
  split at hs <;> first | exact hs.elim | exact hP _ _ _ _ hs | exact hQ _ _ hs | exact ⟨hs.1, hP _ _ _ _ hs.2⟩ | exact ⟨hs.1, hQ _ _ hs.2⟩ | exact ⟨fun z => hP _ _ _ _ (hs.1 z), fun z => hP _ _ _ _ (hs.2 z)⟩ | exact xGet_mo (fun _ z => hP _ _ _ _ z) hs | exact ⟨hs.1, xPut_mo (fun _ z => hP _ _ _ _ z) hs.2⟩ | exact xAld_mo (fun _ z => hP _ _ _ _ z) hs | exact xAst_mo (fun _ z => hP _ _ _ _ z) hs | exact ⟨hs.1, xAst_mo (fun _ z => hP _ _ _ _ z) hs.2⟩ | exact xRld_mo (fun _ z => hP _ _ _ _ z) hs | exact ⟨hs.1, xRst_mo (fun _ z => hP _ _ _ _ z) hs.2⟩ | exact xLen_mo (fun _ z => hP _ _ _ _ z) hs | exact xTag_mo (fun _ z => ⟨z.1, hP _ _ _ _ z.2⟩) hs | exact xRow_mo (hP _ _ _ _) hs | exact xRoS_mo (fun _ z => hP _ _ _ _ z) hs | exact ⟨hs.1, xCpy_mo (fun _ z => hP _ _ _ _ z) hs.2⟩ | exact ⟨hs.1, xCln_mo (fun _ _ z => ⟨z.1, hP _ _ _ _ z.2⟩) hs.2⟩
theorem m_aald {G : MG} {C C' : KC} {Q Q' : KQ} {P P' : KP} {nx : Nat}  {L : Loc'} {st : List V} {h : MH} (hC : moC C C') (hQ : ∀ r h, Q r h → Q' r h) (hP : ∀ pc L st h, P pc L st h → P' pc L st h) : s_aald G C Q P nx L st h → s_aald G C' Q' P' nx L st h := by
  unfold s_aald; intro hs
  split at hs <;> first | exact hs.elim | exact hP _ _ _ _ hs | exact hQ _ _ hs | exact ⟨hs.1, hP _ _ _ _ hs.2⟩ | exact ⟨hs.1, hQ _ _ hs.2⟩ | exact ⟨fun z => hP _ _ _ _ (hs.1 z), fun z => hP _ _ _ _ (hs.2 z)⟩ | exact xGet_mo (fun _ z => hP _ _ _ _ z) hs | exact ⟨hs.1, xPut_mo (fun _ z => hP _ _ _ _ z) hs.2⟩ | exact xAld_mo (fun _ z => hP _ _ _ _ z) hs | exact xAst_mo (fun _ z => hP _ _ _ _ z) hs | exact ⟨hs.1, xAst_mo (fun _ z => hP _ _ _ _ z) hs.2⟩ | exact xRld_mo (fun _ z => hP _ _ _ _ z) hs | exact ⟨hs.1, xRst_mo (fun _ z => hP _ _ _ _ z) hs.2⟩ | exact xLen_mo (fun _ z => hP _ _ _ _ z) hs | exact xTag_mo (fun _ z => ⟨z.1, hP _ _ _ _ z.2⟩) hs | exact xRow_mo (hP _ _ _ _) hs | exact xRoS_mo (fun _ z => hP _ _ _ _ z) hs | exact ⟨hs.1, xCpy_mo (fun _ z => hP _ _ _ _ z) hs.2⟩ | exact ⟨hs.1, xCln_mo (fun _ _ z => ⟨z.1, hP _ _ _ _ z.2⟩) hs.2⟩
theorem m_iast {G : MG} {C C' : KC} {Q Q' : KQ} {P P' : KP} {nx : Nat}  {L : Loc'} {st : List V} {h : MH} (hC : moC C C') (hQ : ∀ r h, Q r h → Q' r h) (hP : ∀ pc L st h, P pc L st h → P' pc L st h) : s_iast G C Q P nx L st h → s_iast G C' Q' P' nx L st h := by
  unfold s_iast; intro hs
  split at hs <;> first | exact hs.elim | exact hP _ _ _ _ hs | exact hQ _ _ hs | exact ⟨hs.1, hP _ _ _ _ hs.2⟩ | exact ⟨hs.1, hQ _ _ hs.2⟩ | exact ⟨fun z => hP _ _ _ _ (hs.1 z), fun z => hP _ _ _ _ (hs.2 z)⟩ | exact xGet_mo (fun _ z => hP _ _ _ _ z) hs | exact ⟨hs.1, xPut_mo (fun _ z => hP _ _ _ _ z) hs.2⟩ | exact xAld_mo (fun _ z => hP _ _ _ _ z) hs | exact xAst_mo (fun _ z => hP _ _ _ _ z) hs | exact ⟨hs.1, xAst_mo (fun _ z => hP _ _ _ _ z) hs.2⟩ | exact xRld_mo (fun _ z => hP _ _ _ _ z) hs | exact ⟨hs.1, xRst_mo (fun _ z => hP _ _ _ _ z) hs.2⟩ | exact xLen_mo (fun _ z => hP _ _ _ _ z) hs | exact xTag_mo (fun _ z => ⟨z.1, hP _ _ _ _ z.2⟩) hs | exact xRow_mo (hP _ _ _ _) hs | exact xRoS_mo (fun _ z => hP _ _ _ _ z) hs | exact ⟨hs.1, xCpy_mo (fun _ z => hP _ _ _ _ z) hs.2⟩ | exact ⟨hs.1, xCln_mo (fun _ _ z => ⟨z.1, hP _ _ _ _ z.2⟩) hs.2⟩
theorem m_bast {G : MG} {C C' : KC} {Q Q' : KQ} {P P' : KP} {nx : Nat}  {L : Loc'} {st : List V} {h : MH} (hC : moC C C') (hQ : ∀ r h, Q r h → Q' r h) (hP : ∀ pc L st h, P pc L st h → P' pc L st h) : s_bast G C Q P nx L st h → s_bast G C' Q' P' nx L st h := by
  unfold s_bast; intro hs
  split at hs <;> first | exact hs.elim | exact hP _ _ _ _ hs | exact hQ _ _ hs | exact ⟨hs.1, hP _ _ _ _ hs.2⟩ | exact ⟨hs.1, hQ _ _ hs.2⟩ | exact ⟨fun z => hP _ _ _ _ (hs.1 z), fun z => hP _ _ _ _ (hs.2 z)⟩ | exact xGet_mo (fun _ z => hP _ _ _ _ z) hs | exact ⟨hs.1, xPut_mo (fun _ z => hP _ _ _ _ z) hs.2⟩ | exact xAld_mo (fun _ z => hP _ _ _ _ z) hs | exact xAst_mo (fun _ z => hP _ _ _ _ z) hs | exact ⟨hs.1, xAst_mo (fun _ z => hP _ _ _ _ z) hs.2⟩ | exact xRld_mo (fun _ z => hP _ _ _ _ z) hs | exact ⟨hs.1, xRst_mo (fun _ z => hP _ _ _ _ z) hs.2⟩ | exact xLen_mo (fun _ z => hP _ _ _ _ z) hs | exact xTag_mo (fun _ z => ⟨z.1, hP _ _ _ _ z.2⟩) hs | exact xRow_mo (hP _ _ _ _) hs | exact xRoS_mo (fun _ z => hP _ _ _ _ z) hs | exact ⟨hs.1, xCpy_mo (fun _ z => hP _ _ _ _ z) hs.2⟩ | exact ⟨hs.1, xCln_mo (fun _ _ z => ⟨z.1, hP _ _ _ _ z.2⟩) hs.2⟩
theorem m_aast {G : MG} {C C' : KC} {Q Q' : KQ} {P P' : KP} {nx : Nat}  {L : Loc'} {st : List V} {h : MH} (hC : moC C C') (hQ : ∀ r h, Q r h → Q' r h) (hP : ∀ pc L st h, P pc L st h → P' pc L st h) : s_aast G C Q P nx L st h → s_aast G C' Q' P' nx L st h := by
  unfold s_aast; intro hs
  split at hs <;> first | exact hs.elim | exact hP _ _ _ _ hs | exact hQ _ _ hs | exact ⟨hs.1, hP _ _ _ _ hs.2⟩ | exact ⟨hs.1, hQ _ _ hs.2⟩ | exact ⟨fun z => hP _ _ _ _ (hs.1 z), fun z => hP _ _ _ _ (hs.2 z)⟩ | exact xGet_mo (fun _ z => hP _ _ _ _ z) hs | exact ⟨hs.1, xPut_mo (fun _ z => hP _ _ _ _ z) hs.2⟩ | exact xAld_mo (fun _ z => hP _ _ _ _ z) hs | exact xAst_mo (fun _ z => hP _ _ _ _ z) hs | exact ⟨hs.1, xAst_mo (fun _ z => hP _ _ _ _ z) hs.2⟩ | exact xRld_mo (fun _ z => hP _ _ _ _ z) hs | exact ⟨hs.1, xRst_mo (fun _ z => hP _ _ _ _ z) hs.2⟩ | exact xLen_mo (fun _ z => hP _ _ _ _ z) hs | exact xTag_mo (fun _ z => ⟨z.1, hP _ _ _ _ z.2⟩) hs | exact xRow_mo (hP _ _ _ _) hs | exact xRoS_mo (fun _ z => hP _ _ _ _ z) hs | exact ⟨hs.1, xCpy_mo (fun _ z => hP _ _ _ _ z) hs.2⟩ | exact ⟨hs.1, xCln_mo (fun _ _ z => ⟨z.1, hP _ _ _ _ z.2⟩) hs.2⟩
theorem m_alen {G : MG} {C C' : KC} {Q Q' : KQ} {P P' : KP} {nx : Nat}  {L : Loc'} {st : List V} {h : MH} (hC : moC C C') (hQ : ∀ r h, Q r h → Q' r h) (hP : ∀ pc L st h, P pc L st h → P' pc L st h) : s_alen G C Q P nx L st h → s_alen G C' Q' P' nx L st h := by
  unfold s_alen; intro hs
  split at hs <;> first | exact hs.elim | exact hP _ _ _ _ hs | exact hQ _ _ hs | exact ⟨hs.1, hP _ _ _ _ hs.2⟩ | exact ⟨hs.1, hQ _ _ hs.2⟩ | exact ⟨fun z => hP _ _ _ _ (hs.1 z), fun z => hP _ _ _ _ (hs.2 z)⟩ | exact xGet_mo (fun _ z => hP _ _ _ _ z) hs | exact ⟨hs.1, xPut_mo (fun _ z => hP _ _ _ _ z) hs.2⟩ | exact xAld_mo (fun _ z => hP _ _ _ _ z) hs | exact xAst_mo (fun _ z => hP _ _ _ _ z) hs | exact ⟨hs.1, xAst_mo (fun _ z => hP _ _ _ _ z) hs.2⟩ | exact xRld_mo (fun _ z => hP _ _ _ _ z) hs | exact ⟨hs.1, xRst_mo (fun _ z => hP _ _ _ _ z) hs.2⟩ | exact xLen_mo (fun _ z => hP _ _ _ _ z) hs | exact xTag_mo (fun _ z => ⟨z.1, hP _ _ _ _ z.2⟩) hs | exact xRow_mo (hP _ _ _ _) hs | exact xRoS_mo (fun _ z => hP _ _ _ _ z) hs | exact ⟨hs.1, xCpy_mo (fun _ z => hP _ _ _ _ z) hs.2⟩ | exact ⟨hs.1, xCln_mo (fun _ _ z => ⟨z.1, hP _ _ _ _ z.2⟩) hs.2⟩
theorem m_new {G : MG} {C C' : KC} {Q Q' : KQ} {P P' : KP} {nx : Nat} {t : Nat} {L : Loc'} {st : List V} {h : MH} (hC : moC C C') (hQ : ∀ r h, Q r h → Q' r h) (hP : ∀ pc L st h, P pc L st h → P' pc L st h) : s_new G C Q P nx t L st h → s_new G C' Q' P' nx t L st h := by
  exact fun hs => ⟨hs.1, hP _ _ _ _ hs.2⟩
theorem m_newa {G : MG} {C C' : KC} {Q Q' : KQ} {P P' : KP} {nx : Nat} {ty : Nat} {L : Loc'} {st : List V} {h : MH} (hC : moC C C') (hQ : ∀ r h, Q r h → Q' r h) (hP : ∀ pc L st h, P pc L st h → P' pc L st h) : s_newa G C Q P nx ty L st h → s_newa G C' Q' P' nx ty L st h := by
  unfold s_newa; intro hs
  split at hs <;> first | exact hs.elim | exact hP _ _ _ _ hs | exact hQ _ _ hs | exact ⟨hs.1, hP _ _ _ _ hs.2⟩ | exact ⟨hs.1, hQ _ _ hs.2⟩ | exact ⟨fun z => hP _ _ _ _ (hs.1 z), fun z => hP _ _ _ _ (hs.2 z)⟩ | exact xGet_mo (fun _ z => hP _ _ _ _ z) hs | exact ⟨hs.1, xPut_mo (fun _ z => hP _ _ _ _ z) hs.2⟩ | exact xAld_mo (fun _ z => hP _ _ _ _ z) hs | exact xAst_mo (fun _ z => hP _ _ _ _ z) hs | exact ⟨hs.1, xAst_mo (fun _ z => hP _ _ _ _ z) hs.2⟩ | exact xRld_mo (fun _ z => hP _ _ _ _ z) hs | exact ⟨hs.1, xRst_mo (fun _ z => hP _ _ _ _ z) hs.2⟩ | exact xLen_mo (fun _ z => hP _ _ _ _ z) hs | exact xTag_mo (fun _ z => ⟨z.1, hP _ _ _ _ z.2⟩) hs | exact xRow_mo (hP _ _ _ _) hs | exact xRoS_mo (fun _ z => hP _ _ _ _ z) hs | exact ⟨hs.1, xCpy_mo (fun _ z => hP _ _ _ _ z) hs.2⟩ | exact ⟨hs.1, xCln_mo (fun _ _ z => ⟨z.1, hP _ _ _ _ z.2⟩) hs.2⟩
theorem m_anew {G : MG} {C C' : KC} {Q Q' : KQ} {P P' : KP} {nx : Nat}  {L : Loc'} {st : List V} {h : MH} (hC : moC C C') (hQ : ∀ r h, Q r h → Q' r h) (hP : ∀ pc L st h, P pc L st h → P' pc L st h) : s_anew G C Q P nx L st h → s_anew G C' Q' P' nx L st h := by
  unfold s_anew; intro hs
  split at hs <;> first | exact hs.elim | exact hP _ _ _ _ hs | exact hQ _ _ hs | exact ⟨hs.1, hP _ _ _ _ hs.2⟩ | exact ⟨hs.1, hQ _ _ hs.2⟩ | exact ⟨fun z => hP _ _ _ _ (hs.1 z), fun z => hP _ _ _ _ (hs.2 z)⟩ | exact xGet_mo (fun _ z => hP _ _ _ _ z) hs | exact ⟨hs.1, xPut_mo (fun _ z => hP _ _ _ _ z) hs.2⟩ | exact xAld_mo (fun _ z => hP _ _ _ _ z) hs | exact xAst_mo (fun _ z => hP _ _ _ _ z) hs | exact ⟨hs.1, xAst_mo (fun _ z => hP _ _ _ _ z) hs.2⟩ | exact xRld_mo (fun _ z => hP _ _ _ _ z) hs | exact ⟨hs.1, xRst_mo (fun _ z => hP _ _ _ _ z) hs.2⟩ | exact xLen_mo (fun _ z => hP _ _ _ _ z) hs | exact xTag_mo (fun _ z => ⟨z.1, hP _ _ _ _ z.2⟩) hs | exact xRow_mo (hP _ _ _ _) hs | exact xRoS_mo (fun _ z => hP _ _ _ _ z) hs | exact ⟨hs.1, xCpy_mo (fun _ z => hP _ _ _ _ z) hs.2⟩ | exact ⟨hs.1, xCln_mo (fun _ _ z => ⟨z.1, hP _ _ _ _ z.2⟩) hs.2⟩
theorem m_cast {G : MG} {C C' : KC} {Q Q' : KQ} {P P' : KP} {nx : Nat} {w : Nat} {L : Loc'} {st : List V} {h : MH} (hC : moC C C') (hQ : ∀ r h, Q r h → Q' r h) (hP : ∀ pc L st h, P pc L st h → P' pc L st h) : s_cast G C Q P nx w L st h → s_cast G C' Q' P' nx w L st h := by
  unfold s_cast; intro hs
  split at hs <;> first | exact hs.elim | exact hP _ _ _ _ hs | exact hQ _ _ hs | exact ⟨hs.1, hP _ _ _ _ hs.2⟩ | exact ⟨hs.1, hQ _ _ hs.2⟩ | exact ⟨fun z => hP _ _ _ _ (hs.1 z), fun z => hP _ _ _ _ (hs.2 z)⟩ | exact xGet_mo (fun _ z => hP _ _ _ _ z) hs | exact ⟨hs.1, xPut_mo (fun _ z => hP _ _ _ _ z) hs.2⟩ | exact xAld_mo (fun _ z => hP _ _ _ _ z) hs | exact xAst_mo (fun _ z => hP _ _ _ _ z) hs | exact ⟨hs.1, xAst_mo (fun _ z => hP _ _ _ _ z) hs.2⟩ | exact xRld_mo (fun _ z => hP _ _ _ _ z) hs | exact ⟨hs.1, xRst_mo (fun _ z => hP _ _ _ _ z) hs.2⟩ | exact xLen_mo (fun _ z => hP _ _ _ _ z) hs | exact xTag_mo (fun _ z => ⟨z.1, hP _ _ _ _ z.2⟩) hs | exact xRow_mo (hP _ _ _ _) hs | exact xRoS_mo (fun _ z => hP _ _ _ _ z) hs | exact ⟨hs.1, xCpy_mo (fun _ z => hP _ _ _ _ z) hs.2⟩ | exact ⟨hs.1, xCln_mo (fun _ _ z => ⟨z.1, hP _ _ _ _ z.2⟩) hs.2⟩
theorem m_casta {G : MG} {C C' : KC} {Q Q' : KQ} {P P' : KP} {nx : Nat}  {L : Loc'} {st : List V} {h : MH} (hC : moC C C') (hQ : ∀ r h, Q r h → Q' r h) (hP : ∀ pc L st h, P pc L st h → P' pc L st h) : s_casta G C Q P nx L st h → s_casta G C' Q' P' nx L st h := by
  unfold s_casta; intro hs
  split at hs <;> first | exact hs.elim | exact hP _ _ _ _ hs | exact hQ _ _ hs | exact ⟨hs.1, hP _ _ _ _ hs.2⟩ | exact ⟨hs.1, hQ _ _ hs.2⟩ | exact ⟨fun z => hP _ _ _ _ (hs.1 z), fun z => hP _ _ _ _ (hs.2 z)⟩ | exact xGet_mo (fun _ z => hP _ _ _ _ z) hs | exact ⟨hs.1, xPut_mo (fun _ z => hP _ _ _ _ z) hs.2⟩ | exact xAld_mo (fun _ z => hP _ _ _ _ z) hs | exact xAst_mo (fun _ z => hP _ _ _ _ z) hs | exact ⟨hs.1, xAst_mo (fun _ z => hP _ _ _ _ z) hs.2⟩ | exact xRld_mo (fun _ z => hP _ _ _ _ z) hs | exact ⟨hs.1, xRst_mo (fun _ z => hP _ _ _ _ z) hs.2⟩ | exact xLen_mo (fun _ z => hP _ _ _ _ z) hs | exact xTag_mo (fun _ z => ⟨z.1, hP _ _ _ _ z.2⟩) hs | exact xRow_mo (hP _ _ _ _) hs | exact xRoS_mo (fun _ z => hP _ _ _ _ z) hs | exact ⟨hs.1, xCpy_mo (fun _ z => hP _ _ _ _ z) hs.2⟩ | exact ⟨hs.1, xCln_mo (fun _ _ z => ⟨z.1, hP _ _ _ _ z.2⟩) hs.2⟩
theorem m_inst {G : MG} {C C' : KC} {Q Q' : KQ} {P P' : KP} {nx : Nat} {w : Nat} {L : Loc'} {st : List V} {h : MH} (hC : moC C C') (hQ : ∀ r h, Q r h → Q' r h) (hP : ∀ pc L st h, P pc L st h → P' pc L st h) : s_inst G C Q P nx w L st h → s_inst G C' Q' P' nx w L st h := by
  unfold s_inst; intro hs
  split at hs <;> first | exact hs.elim | exact hP _ _ _ _ hs | exact hQ _ _ hs | exact ⟨hs.1, hP _ _ _ _ hs.2⟩ | exact ⟨hs.1, hQ _ _ hs.2⟩ | exact ⟨fun z => hP _ _ _ _ (hs.1 z), fun z => hP _ _ _ _ (hs.2 z)⟩ | exact xGet_mo (fun _ z => hP _ _ _ _ z) hs | exact ⟨hs.1, xPut_mo (fun _ z => hP _ _ _ _ z) hs.2⟩ | exact xAld_mo (fun _ z => hP _ _ _ _ z) hs | exact xAst_mo (fun _ z => hP _ _ _ _ z) hs | exact ⟨hs.1, xAst_mo (fun _ z => hP _ _ _ _ z) hs.2⟩ | exact xRld_mo (fun _ z => hP _ _ _ _ z) hs | exact ⟨hs.1, xRst_mo (fun _ z => hP _ _ _ _ z) hs.2⟩ | exact xLen_mo (fun _ z => hP _ _ _ _ z) hs | exact xTag_mo (fun _ z => ⟨z.1, hP _ _ _ _ z.2⟩) hs | exact xRow_mo (hP _ _ _ _) hs | exact xRoS_mo (fun _ z => hP _ _ _ _ z) hs | exact ⟨hs.1, xCpy_mo (fun _ z => hP _ _ _ _ z) hs.2⟩ | exact ⟨hs.1, xCln_mo (fun _ _ z => ⟨z.1, hP _ _ _ _ z.2⟩) hs.2⟩
theorem m_virt {G : MG} {C C' : KC} {Q Q' : KQ} {P P' : KP} {nx : Nat} {x n : Nat} {L : Loc'} {st : List V} {h : MH} (hC : moC C C') (hQ : ∀ r h, Q r h → Q' r h) (hP : ∀ pc L st h, P pc L st h → P' pc L st h) : s_virt G C Q P nx x n L st h → s_virt G C' Q' P' nx x n L st h := by
  unfold s_virt; intro hs
  refine ⟨hs.1, ?_⟩; have h2 := hs.2; split at h2
  · exact xTag_mo (fun _ z => xSel_mo (fun _ z => hC _ _ _ _ _ (fun _ _ z => hP _ _ _ _ z) z) z) h2
  · exact h2.elim
theorem m_stat {G : MG} {C C' : KC} {Q Q' : KQ} {P P' : KP} {nx : Nat} {y n : Nat} {L : Loc'} {st : List V} {h : MH} (hC : moC C C') (hQ : ∀ r h, Q r h → Q' r h) (hP : ∀ pc L st h, P pc L st h → P' pc L st h) : s_stat G C Q P nx y n L st h → s_stat G C' Q' P' nx y n L st h := by
  exact fun hs => ⟨hs.1, hC _ _ _ _ _ (fun _ _ z => hP _ _ _ _ z) hs.2⟩
theorem m_spec {G : MG} {C C' : KC} {Q Q' : KQ} {P P' : KP} {nx : Nat} {y n : Nat} {L : Loc'} {st : List V} {h : MH} (hC : moC C C') (hQ : ∀ r h, Q r h → Q' r h) (hP : ∀ pc L st h, P pc L st h → P' pc L st h) : s_spec G C Q P nx y n L st h → s_spec G C' Q' P' nx y n L st h := by
  unfold s_spec; intro hs
  refine ⟨hs.1, ?_⟩; have h2 := hs.2; split at h2
  · exact xTag_mo (fun _ z => ⟨z.1, hC _ _ _ _ _ (fun _ _ z => hP _ _ _ _ z) z.2⟩) h2
  · exact h2.elim
theorem m_oini {G : MG} {C C' : KC} {Q Q' : KQ} {P P' : KP} {nx : Nat}  {L : Loc'} {st : List V} {h : MH} (hC : moC C C') (hQ : ∀ r h, Q r h → Q' r h) (hP : ∀ pc L st h, P pc L st h → P' pc L st h) : s_oini G C Q P nx L st h → s_oini G C' Q' P' nx L st h := by
  unfold s_oini; intro hs
  split at hs <;> first | exact hs.elim | exact hP _ _ _ _ hs | exact hQ _ _ hs | exact ⟨hs.1, hP _ _ _ _ hs.2⟩ | exact ⟨hs.1, hQ _ _ hs.2⟩ | exact ⟨fun z => hP _ _ _ _ (hs.1 z), fun z => hP _ _ _ _ (hs.2 z)⟩ | exact xGet_mo (fun _ z => hP _ _ _ _ z) hs | exact ⟨hs.1, xPut_mo (fun _ z => hP _ _ _ _ z) hs.2⟩ | exact xAld_mo (fun _ z => hP _ _ _ _ z) hs | exact xAst_mo (fun _ z => hP _ _ _ _ z) hs | exact ⟨hs.1, xAst_mo (fun _ z => hP _ _ _ _ z) hs.2⟩ | exact xRld_mo (fun _ z => hP _ _ _ _ z) hs | exact ⟨hs.1, xRst_mo (fun _ z => hP _ _ _ _ z) hs.2⟩ | exact xLen_mo (fun _ z => hP _ _ _ _ z) hs | exact xTag_mo (fun _ z => ⟨z.1, hP _ _ _ _ z.2⟩) hs | exact xRow_mo (hP _ _ _ _) hs | exact xRoS_mo (fun _ z => hP _ _ _ _ z) hs | exact ⟨hs.1, xCpy_mo (fun _ z => hP _ _ _ _ z) hs.2⟩ | exact ⟨hs.1, xCln_mo (fun _ _ z => ⟨z.1, hP _ _ _ _ z.2⟩) hs.2⟩
theorem m_iret {G : MG} {C C' : KC} {Q Q' : KQ} {P P' : KP} {nx : Nat} {ty : Nat} {L : Loc'} {st : List V} {h : MH} (hC : moC C C') (hQ : ∀ r h, Q r h → Q' r h) (hP : ∀ pc L st h, P pc L st h → P' pc L st h) : s_iret G C Q P nx ty L st h → s_iret G C' Q' P' nx ty L st h := by
  unfold s_iret; intro hs
  split at hs <;> first | exact hs.elim | exact hP _ _ _ _ hs | exact hQ _ _ hs | exact ⟨hs.1, hP _ _ _ _ hs.2⟩ | exact ⟨hs.1, hQ _ _ hs.2⟩ | exact ⟨fun z => hP _ _ _ _ (hs.1 z), fun z => hP _ _ _ _ (hs.2 z)⟩ | exact xGet_mo (fun _ z => hP _ _ _ _ z) hs | exact ⟨hs.1, xPut_mo (fun _ z => hP _ _ _ _ z) hs.2⟩ | exact xAld_mo (fun _ z => hP _ _ _ _ z) hs | exact xAst_mo (fun _ z => hP _ _ _ _ z) hs | exact ⟨hs.1, xAst_mo (fun _ z => hP _ _ _ _ z) hs.2⟩ | exact xRld_mo (fun _ z => hP _ _ _ _ z) hs | exact ⟨hs.1, xRst_mo (fun _ z => hP _ _ _ _ z) hs.2⟩ | exact xLen_mo (fun _ z => hP _ _ _ _ z) hs | exact xTag_mo (fun _ z => ⟨z.1, hP _ _ _ _ z.2⟩) hs | exact xRow_mo (hP _ _ _ _) hs | exact xRoS_mo (fun _ z => hP _ _ _ _ z) hs | exact ⟨hs.1, xCpy_mo (fun _ z => hP _ _ _ _ z) hs.2⟩ | exact ⟨hs.1, xCln_mo (fun _ _ z => ⟨z.1, hP _ _ _ _ z.2⟩) hs.2⟩
theorem m_lret {G : MG} {C C' : KC} {Q Q' : KQ} {P P' : KP} {nx : Nat}  {L : Loc'} {st : List V} {h : MH} (hC : moC C C') (hQ : ∀ r h, Q r h → Q' r h) (hP : ∀ pc L st h, P pc L st h → P' pc L st h) : s_lret G C Q P nx L st h → s_lret G C' Q' P' nx L st h := by
  unfold s_lret; intro hs
  split at hs <;> first | exact hs.elim | exact hP _ _ _ _ hs | exact hQ _ _ hs | exact ⟨hs.1, hP _ _ _ _ hs.2⟩ | exact ⟨hs.1, hQ _ _ hs.2⟩ | exact ⟨fun z => hP _ _ _ _ (hs.1 z), fun z => hP _ _ _ _ (hs.2 z)⟩ | exact xGet_mo (fun _ z => hP _ _ _ _ z) hs | exact ⟨hs.1, xPut_mo (fun _ z => hP _ _ _ _ z) hs.2⟩ | exact xAld_mo (fun _ z => hP _ _ _ _ z) hs | exact xAst_mo (fun _ z => hP _ _ _ _ z) hs | exact ⟨hs.1, xAst_mo (fun _ z => hP _ _ _ _ z) hs.2⟩ | exact xRld_mo (fun _ z => hP _ _ _ _ z) hs | exact ⟨hs.1, xRst_mo (fun _ z => hP _ _ _ _ z) hs.2⟩ | exact xLen_mo (fun _ z => hP _ _ _ _ z) hs | exact xTag_mo (fun _ z => ⟨z.1, hP _ _ _ _ z.2⟩) hs | exact xRow_mo (hP _ _ _ _) hs | exact xRoS_mo (fun _ z => hP _ _ _ _ z) hs | exact ⟨hs.1, xCpy_mo (fun _ z => hP _ _ _ _ z) hs.2⟩ | exact ⟨hs.1, xCln_mo (fun _ _ z => ⟨z.1, hP _ _ _ _ z.2⟩) hs.2⟩
theorem m_aret {G : MG} {C C' : KC} {Q Q' : KQ} {P P' : KP} {nx : Nat}  {L : Loc'} {st : List V} {h : MH} (hC : moC C C') (hQ : ∀ r h, Q r h → Q' r h) (hP : ∀ pc L st h, P pc L st h → P' pc L st h) : s_aret G C Q P nx L st h → s_aret G C' Q' P' nx L st h := by
  unfold s_aret; intro hs
  split at hs <;> first | exact hs.elim | exact hP _ _ _ _ hs | exact hQ _ _ hs | exact ⟨hs.1, hP _ _ _ _ hs.2⟩ | exact ⟨hs.1, hQ _ _ hs.2⟩ | exact ⟨fun z => hP _ _ _ _ (hs.1 z), fun z => hP _ _ _ _ (hs.2 z)⟩ | exact xGet_mo (fun _ z => hP _ _ _ _ z) hs | exact ⟨hs.1, xPut_mo (fun _ z => hP _ _ _ _ z) hs.2⟩ | exact xAld_mo (fun _ z => hP _ _ _ _ z) hs | exact xAst_mo (fun _ z => hP _ _ _ _ z) hs | exact ⟨hs.1, xAst_mo (fun _ z => hP _ _ _ _ z) hs.2⟩ | exact xRld_mo (fun _ z => hP _ _ _ _ z) hs | exact ⟨hs.1, xRst_mo (fun _ z => hP _ _ _ _ z) hs.2⟩ | exact xLen_mo (fun _ z => hP _ _ _ _ z) hs | exact xTag_mo (fun _ z => ⟨z.1, hP _ _ _ _ z.2⟩) hs | exact xRow_mo (hP _ _ _ _) hs | exact xRoS_mo (fun _ z => hP _ _ _ _ z) hs | exact ⟨hs.1, xCpy_mo (fun _ z => hP _ _ _ _ z) hs.2⟩ | exact ⟨hs.1, xCln_mo (fun _ _ z => ⟨z.1, hP _ _ _ _ z.2⟩) hs.2⟩
theorem m_vret {G : MG} {C C' : KC} {Q Q' : KQ} {P P' : KP} {nx : Nat}  {L : Loc'} {st : List V} {h : MH} (hC : moC C C') (hQ : ∀ r h, Q r h → Q' r h) (hP : ∀ pc L st h, P pc L st h → P' pc L st h) : s_vret G C Q P nx L st h → s_vret G C' Q' P' nx L st h := by
  unfold s_vret; intro hs
  split at hs <;> first | exact hs.elim | exact hP _ _ _ _ hs | exact hQ _ _ hs | exact ⟨hs.1, hP _ _ _ _ hs.2⟩ | exact ⟨hs.1, hQ _ _ hs.2⟩ | exact ⟨fun z => hP _ _ _ _ (hs.1 z), fun z => hP _ _ _ _ (hs.2 z)⟩ | exact xGet_mo (fun _ z => hP _ _ _ _ z) hs | exact ⟨hs.1, xPut_mo (fun _ z => hP _ _ _ _ z) hs.2⟩ | exact xAld_mo (fun _ z => hP _ _ _ _ z) hs | exact xAst_mo (fun _ z => hP _ _ _ _ z) hs | exact ⟨hs.1, xAst_mo (fun _ z => hP _ _ _ _ z) hs.2⟩ | exact xRld_mo (fun _ z => hP _ _ _ _ z) hs | exact ⟨hs.1, xRst_mo (fun _ z => hP _ _ _ _ z) hs.2⟩ | exact xLen_mo (fun _ z => hP _ _ _ _ z) hs | exact xTag_mo (fun _ z => ⟨z.1, hP _ _ _ _ z.2⟩) hs | exact xRow_mo (hP _ _ _ _) hs | exact xRoS_mo (fun _ z => hP _ _ _ _ z) hs | exact ⟨hs.1, xCpy_mo (fun _ z => hP _ _ _ _ z) hs.2⟩ | exact ⟨hs.1, xCln_mo (fun _ _ z => ⟨z.1, hP _ _ _ _ z.2⟩) hs.2⟩
theorem m_cpya {G : MG} {C C' : KC} {Q Q' : KQ} {P P' : KP} {nx : Nat}  {L : Loc'} {st : List V} {h : MH} (hC : moC C C') (hQ : ∀ r h, Q r h → Q' r h) (hP : ∀ pc L st h, P pc L st h → P' pc L st h) : s_cpya G C Q P nx L st h → s_cpya G C' Q' P' nx L st h := by
  unfold s_cpya; intro hs
  split at hs <;> first | exact hs.elim | exact hP _ _ _ _ hs | exact hQ _ _ hs | exact ⟨hs.1, hP _ _ _ _ hs.2⟩ | exact ⟨hs.1, hQ _ _ hs.2⟩ | exact ⟨fun z => hP _ _ _ _ (hs.1 z), fun z => hP _ _ _ _ (hs.2 z)⟩ | exact xGet_mo (fun _ z => hP _ _ _ _ z) hs | exact ⟨hs.1, xPut_mo (fun _ z => hP _ _ _ _ z) hs.2⟩ | exact xAld_mo (fun _ z => hP _ _ _ _ z) hs | exact xAst_mo (fun _ z => hP _ _ _ _ z) hs | exact ⟨hs.1, xAst_mo (fun _ z => hP _ _ _ _ z) hs.2⟩ | exact xRld_mo (fun _ z => hP _ _ _ _ z) hs | exact ⟨hs.1, xRst_mo (fun _ z => hP _ _ _ _ z) hs.2⟩ | exact xLen_mo (fun _ z => hP _ _ _ _ z) hs | exact xTag_mo (fun _ z => ⟨z.1, hP _ _ _ _ z.2⟩) hs | exact xRow_mo (hP _ _ _ _) hs | exact xRoS_mo (fun _ z => hP _ _ _ _ z) hs | exact ⟨hs.1, xCpy_mo (fun _ z => hP _ _ _ _ z) hs.2⟩ | exact ⟨hs.1, xCln_mo (fun _ _ z => ⟨z.1, hP _ _ _ _ z.2⟩) hs.2⟩
theorem m_cln {G : MG} {C C' : KC} {Q Q' : KQ} {P P' : KP} {nx : Nat}  {L : Loc'} {st : List V} {h : MH} (hC : moC C C') (hQ : ∀ r h, Q r h → Q' r h) (hP : ∀ pc L st h, P pc L st h → P' pc L st h) : s_cln G C Q P nx L st h → s_cln G C' Q' P' nx L st h := by
  unfold s_cln; intro hs
  split at hs <;> first | exact hs.elim | exact hP _ _ _ _ hs | exact hQ _ _ hs | exact ⟨hs.1, hP _ _ _ _ hs.2⟩ | exact ⟨hs.1, hQ _ _ hs.2⟩ | exact ⟨fun z => hP _ _ _ _ (hs.1 z), fun z => hP _ _ _ _ (hs.2 z)⟩ | exact xGet_mo (fun _ z => hP _ _ _ _ z) hs | exact ⟨hs.1, xPut_mo (fun _ z => hP _ _ _ _ z) hs.2⟩ | exact xAld_mo (fun _ z => hP _ _ _ _ z) hs | exact xAst_mo (fun _ z => hP _ _ _ _ z) hs | exact ⟨hs.1, xAst_mo (fun _ z => hP _ _ _ _ z) hs.2⟩ | exact xRld_mo (fun _ z => hP _ _ _ _ z) hs | exact ⟨hs.1, xRst_mo (fun _ z => hP _ _ _ _ z) hs.2⟩ | exact xLen_mo (fun _ z => hP _ _ _ _ z) hs | exact xTag_mo (fun _ z => ⟨z.1, hP _ _ _ _ z.2⟩) hs | exact xRow_mo (hP _ _ _ _) hs | exact xRoS_mo (fun _ z => hP _ _ _ _ z) hs | exact ⟨hs.1, xCpy_mo (fun _ z => hP _ _ _ _ z) hs.2⟩ | exact ⟨hs.1, xCln_mo (fun _ _ z => ⟨z.1, hP _ _ _ _ z.2⟩) hs.2⟩
theorem m_gref {G : MG} {C C' : KC} {Q Q' : KQ} {P P' : KP} {nx : Nat} {k : Nat} {L : Loc'} {st : List V} {h : MH} (hC : moC C C') (hQ : ∀ r h, Q r h → Q' r h) (hP : ∀ pc L st h, P pc L st h → P' pc L st h) : s_gref G C Q P nx k L st h → s_gref G C' Q' P' nx k L st h := by
  exact hP _ _ _ _
theorem m_gets {G : MG} {C C' : KC} {Q Q' : KQ} {P P' : KP} {nx : Nat} {k : Nat} {L : Loc'} {st : List V} {h : MH} (hC : moC C C') (hQ : ∀ r h, Q r h → Q' r h) (hP : ∀ pc L st h, P pc L st h → P' pc L st h) : s_gets G C Q P nx k L st h → s_gets G C' Q' P' nx k L st h := by
  unfold s_gets; intro hs
  split at hs <;> first | exact hs.elim | exact hP _ _ _ _ hs | exact hQ _ _ hs | exact ⟨hs.1, hP _ _ _ _ hs.2⟩ | exact ⟨hs.1, hQ _ _ hs.2⟩ | exact ⟨fun z => hP _ _ _ _ (hs.1 z), fun z => hP _ _ _ _ (hs.2 z)⟩ | exact xGet_mo (fun _ z => hP _ _ _ _ z) hs | exact ⟨hs.1, xPut_mo (fun _ z => hP _ _ _ _ z) hs.2⟩ | exact xAld_mo (fun _ z => hP _ _ _ _ z) hs | exact xAst_mo (fun _ z => hP _ _ _ _ z) hs | exact ⟨hs.1, xAst_mo (fun _ z => hP _ _ _ _ z) hs.2⟩ | exact xRld_mo (fun _ z => hP _ _ _ _ z) hs | exact ⟨hs.1, xRst_mo (fun _ z => hP _ _ _ _ z) hs.2⟩ | exact xLen_mo (fun _ z => hP _ _ _ _ z) hs | exact xTag_mo (fun _ z => ⟨z.1, hP _ _ _ _ z.2⟩) hs | exact xRow_mo (hP _ _ _ _) hs | exact xRoS_mo (fun _ z => hP _ _ _ _ z) hs | exact ⟨hs.1, xCpy_mo (fun _ z => hP _ _ _ _ z) hs.2⟩ | exact ⟨hs.1, xCln_mo (fun _ _ z => ⟨z.1, hP _ _ _ _ z.2⟩) hs.2⟩
theorem m_vstr {G : MG} {C C' : KC} {Q Q' : KQ} {P P' : KP} {nx : Nat} {y n : Nat} {L : Loc'} {st : List V} {h : MH} (hC : moC C C') (hQ : ∀ r h, Q r h → Q' r h) (hP : ∀ pc L st h, P pc L st h → P' pc L st h) : s_vstr G C Q P nx y n L st h → s_vstr G C' Q' P' nx y n L st h := by
  unfold s_vstr; intro hs
  refine ⟨hs.1, ?_⟩; have h2 := hs.2; split at h2
  · exact xRoS_mo (fun _ z => hC _ _ _ _ _ (fun _ _ z => hP _ _ _ _ z) z) h2
  · exact h2.elim
theorem m_gopt {G : MG} {C C' : KC} {Q Q' : KQ} {P P' : KP} {nx : Nat}  {L : Loc'} {st : List V} {h : MH} (hC : moC C C') (hQ : ∀ r h, Q r h → Q' r h) (hP : ∀ pc L st h, P pc L st h → P' pc L st h) : s_gopt G C Q P nx L st h → s_gopt G C' Q' P' nx L st h := by
  exact hP _ _ _ _
theorem stp_mo {G : MG} {C C' : KC} {Q Q' : KQ} {P P' : KP} {pc : Nat} {i : Option (Nat × Instr × Int × List Nat)} {L : Loc'} {st : List V} {h : MH} (hC : moC C C') (hQ : ∀ r h, Q r h → Q' r h) (hP : ∀ pc L st h, P pc L st h → P' pc L st h) : stp G C Q P pc i L st h → stp G C' Q' P' pc i L st h := by
  rcases i with _ | ⟨nx, ins, v, o⟩
  · exact id
  cases ins with
  | iconst a0 => exact m_cst (G := G) (nx := nx) (L := L) (st := st) (h := h) (P := P) (P' := P') (C := C) (C' := C') (Q := Q) (Q' := Q') hC hQ hP
  | bipush a0 => exact m_cst (G := G) (nx := nx) (L := L) (st := st) (h := h) (P := P) (P' := P') (C := C) (C' := C') (Q := Q) (Q' := Q') hC hQ hP
  | sipush a0 => exact m_cst (G := G) (nx := nx) (L := L) (st := st) (h := h) (P := P) (P' := P') (C := C) (C' := C') (Q := Q) (Q' := Q') hC hQ hP
  | ldc a0 => cases o with
    | nil => exact m_cst (G := G) (nx := nx) (L := L) (st := st) (h := h) (P := P) (P' := P') (C := C) (C' := C') (Q := Q) (Q' := Q') hC hQ hP
    | cons k l => exact m_gref (G := G) (nx := nx) (L := L) (st := st) (h := h) (P := P) (P' := P') (C := C) (C' := C') (Q := Q) (Q' := Q') hC hQ hP
  | ldc_w a0 => exact m_cst (G := G) (nx := nx) (L := L) (st := st) (h := h) (P := P) (P' := P') (C := C) (C' := C') (Q := Q) (Q' := Q') hC hQ hP
  | ldc2_w a0 => exact m_lcst (G := G) (nx := nx) (L := L) (st := st) (h := h) (P := P) (P' := P') (C := C) (C' := C') (Q := Q) (Q' := Q') hC hQ hP
  | lconst a0 => exact m_lcst (G := G) (nx := nx) (L := L) (st := st) (h := h) (P := P) (P' := P') (C := C) (C' := C') (Q := Q) (Q' := Q') hC hQ hP
  | aconst_null  => exact m_nul (G := G) (nx := nx) (L := L) (st := st) (h := h) (P := P) (P' := P') (C := C) (C' := C') (Q := Q) (Q' := Q') hC hQ hP
  | iload_n a0 => exact m_ldi (G := G) (nx := nx) (L := L) (st := st) (h := h) (P := P) (P' := P') (C := C) (C' := C') (Q := Q) (Q' := Q') hC hQ hP
  | iload a0 => exact m_ldi (G := G) (nx := nx) (L := L) (st := st) (h := h) (P := P) (P' := P') (C := C) (C' := C') (Q := Q) (Q' := Q') hC hQ hP
  | lload_n a0 => exact m_ldl (G := G) (nx := nx) (L := L) (st := st) (h := h) (P := P) (P' := P') (C := C) (C' := C') (Q := Q) (Q' := Q') hC hQ hP
  | lload a0 => exact m_ldl (G := G) (nx := nx) (L := L) (st := st) (h := h) (P := P) (P' := P') (C := C) (C' := C') (Q := Q) (Q' := Q') hC hQ hP
  | aload_n a0 => exact m_ldr (G := G) (nx := nx) (L := L) (st := st) (h := h) (P := P) (P' := P') (C := C) (C' := C') (Q := Q) (Q' := Q') hC hQ hP
  | aload a0 => exact m_ldr (G := G) (nx := nx) (L := L) (st := st) (h := h) (P := P) (P' := P') (C := C) (C' := C') (Q := Q) (Q' := Q') hC hQ hP
  | istore_n a0 => exact m_sti (G := G) (nx := nx) (L := L) (st := st) (h := h) (P := P) (P' := P') (C := C) (C' := C') (Q := Q) (Q' := Q') hC hQ hP
  | istore a0 => exact m_sti (G := G) (nx := nx) (L := L) (st := st) (h := h) (P := P) (P' := P') (C := C) (C' := C') (Q := Q) (Q' := Q') hC hQ hP
  | lstore_n a0 => exact m_stl (G := G) (nx := nx) (L := L) (st := st) (h := h) (P := P) (P' := P') (C := C) (C' := C') (Q := Q) (Q' := Q') hC hQ hP
  | lstore a0 => exact m_stl (G := G) (nx := nx) (L := L) (st := st) (h := h) (P := P) (P' := P') (C := C) (C' := C') (Q := Q) (Q' := Q') hC hQ hP
  | astore_n a0 => exact m_str (G := G) (nx := nx) (L := L) (st := st) (h := h) (P := P) (P' := P') (C := C) (C' := C') (Q := Q) (Q' := Q') hC hQ hP
  | astore a0 => exact m_str (G := G) (nx := nx) (L := L) (st := st) (h := h) (P := P) (P' := P') (C := C) (C' := C') (Q := Q) (Q' := Q') hC hQ hP
  | iinc a0 a1 => exact m_iinc (G := G) (nx := nx) (L := L) (st := st) (h := h) (P := P) (P' := P') (C := C) (C' := C') (Q := Q) (Q' := Q') hC hQ hP
  | iadd  => exact m_bin (G := G) (nx := nx) (L := L) (st := st) (h := h) (P := P) (P' := P') (C := C) (C' := C') (Q := Q) (Q' := Q') hC hQ hP
  | isub  => exact m_bin (G := G) (nx := nx) (L := L) (st := st) (h := h) (P := P) (P' := P') (C := C) (C' := C') (Q := Q) (Q' := Q') hC hQ hP
  | imul  => exact m_bin (G := G) (nx := nx) (L := L) (st := st) (h := h) (P := P) (P' := P') (C := C) (C' := C') (Q := Q) (Q' := Q') hC hQ hP
  | iand  => exact m_bin (G := G) (nx := nx) (L := L) (st := st) (h := h) (P := P) (P' := P') (C := C) (C' := C') (Q := Q) (Q' := Q') hC hQ hP
  | ior  => exact m_bin (G := G) (nx := nx) (L := L) (st := st) (h := h) (P := P) (P' := P') (C := C) (C' := C') (Q := Q) (Q' := Q') hC hQ hP
  | ixor  => exact m_bin (G := G) (nx := nx) (L := L) (st := st) (h := h) (P := P) (P' := P') (C := C) (C' := C') (Q := Q) (Q' := Q') hC hQ hP
  | ishl  => exact m_bin (G := G) (nx := nx) (L := L) (st := st) (h := h) (P := P) (P' := P') (C := C) (C' := C') (Q := Q) (Q' := Q') hC hQ hP
  | ishr  => exact m_bin (G := G) (nx := nx) (L := L) (st := st) (h := h) (P := P) (P' := P') (C := C) (C' := C') (Q := Q) (Q' := Q') hC hQ hP
  | iushr  => exact m_bin (G := G) (nx := nx) (L := L) (st := st) (h := h) (P := P) (P' := P') (C := C) (C' := C') (Q := Q) (Q' := Q') hC hQ hP
  | idiv  => exact m_idiv (G := G) (nx := nx) (L := L) (st := st) (h := h) (P := P) (P' := P') (C := C) (C' := C') (Q := Q) (Q' := Q') hC hQ hP
  | irem  => exact m_irem (G := G) (nx := nx) (L := L) (st := st) (h := h) (P := P) (P' := P') (C := C) (C' := C') (Q := Q) (Q' := Q') hC hQ hP
  | ineg  => exact m_ineg (G := G) (nx := nx) (L := L) (st := st) (h := h) (P := P) (P' := P') (C := C) (C' := C') (Q := Q) (Q' := Q') hC hQ hP
  | i2c  => exact m_i2c (G := G) (nx := nx) (L := L) (st := st) (h := h) (P := P) (P' := P') (C := C) (C' := C') (Q := Q) (Q' := Q') hC hQ hP
  | i2b  => exact m_i2b (G := G) (nx := nx) (L := L) (st := st) (h := h) (P := P) (P' := P') (C := C) (C' := C') (Q := Q) (Q' := Q') hC hQ hP
  | i2l  => exact m_i2l (G := G) (nx := nx) (L := L) (st := st) (h := h) (P := P) (P' := P') (C := C) (C' := C') (Q := Q) (Q' := Q') hC hQ hP
  | ladd  => exact m_ladd (G := G) (nx := nx) (L := L) (st := st) (h := h) (P := P) (P' := P') (C := C) (C' := C') (Q := Q) (Q' := Q') hC hQ hP
  | lneg  => exact m_lneg (G := G) (nx := nx) (L := L) (st := st) (h := h) (P := P) (P' := P') (C := C) (C' := C') (Q := Q) (Q' := Q') hC hQ hP
  | lrem  => exact m_lrem (G := G) (nx := nx) (L := L) (st := st) (h := h) (P := P) (P' := P') (C := C) (C' := C') (Q := Q) (Q' := Q') hC hQ hP
  | ldiv  => exact m_ldiv (G := G) (nx := nx) (L := L) (st := st) (h := h) (P := P) (P' := P') (C := C) (C' := C') (Q := Q) (Q' := Q') hC hQ hP
  | lcmp  => exact m_lcmp (G := G) (nx := nx) (L := L) (st := st) (h := h) (P := P) (P' := P') (C := C) (C' := C') (Q := Q) (Q' := Q') hC hQ hP
  | dup  => exact m_dup (G := G) (nx := nx) (L := L) (st := st) (h := h) (P := P) (P' := P') (C := C) (C' := C') (Q := Q) (Q' := Q') hC hQ hP
  | pop  => exact m_pop (G := G) (nx := nx) (L := L) (st := st) (h := h) (P := P) (P' := P') (C := C) (C' := C') (Q := Q) (Q' := Q') hC hQ hP
  | dup_x1  => exact m_dupx1 (G := G) (nx := nx) (L := L) (st := st) (h := h) (P := P) (P' := P') (C := C) (C' := C') (Q := Q) (Q' := Q') hC hQ hP
  | dup2  => exact m_dup2 (G := G) (nx := nx) (L := L) (st := st) (h := h) (P := P) (P' := P') (C := C) (C' := C') (Q := Q) (Q' := Q') hC hQ hP
  | ifCond a0 a1 => exact m_ifc (G := G) (nx := nx) (L := L) (st := st) (h := h) (P := P) (P' := P') (C := C) (C' := C') (Q := Q) (Q' := Q') hC hQ hP
  | if_icmp a0 a1 => exact m_icmp (G := G) (nx := nx) (L := L) (st := st) (h := h) (P := P) (P' := P') (C := C) (C' := C') (Q := Q) (Q' := Q') hC hQ hP
  | ifnull a0 => exact m_ifnull (G := G) (nx := nx) (L := L) (st := st) (h := h) (P := P) (P' := P') (C := C) (C' := C') (Q := Q) (Q' := Q') hC hQ hP
  | ifnonnull a0 => exact m_ifnn (G := G) (nx := nx) (L := L) (st := st) (h := h) (P := P) (P' := P') (C := C) (C' := C') (Q := Q) (Q' := Q') hC hQ hP
  | if_acmp k f => cases k with
    | eq => exact m_acmp (G := G) (nx := nx) (L := L) (st := st) (h := h) (P := P) (P' := P') (C := C) (C' := C') (Q := Q) (Q' := Q') hC hQ hP
    | ne => exact m_acmp (G := G) (nx := nx) (L := L) (st := st) (h := h) (P := P) (P' := P') (C := C) (C' := C') (Q := Q) (Q' := Q') hC hQ hP
  | goto a0 => exact m_goto (G := G) (nx := nx) (L := L) (st := st) (h := h) (P := P) (P' := P') (C := C) (C' := C') (Q := Q) (Q' := Q') hC hQ hP
  | tableswitch a0 a1 a2 a3 => exact m_swi (G := G) (nx := nx) (L := L) (st := st) (h := h) (P := P) (P' := P') (C := C) (C' := C') (Q := Q) (Q' := Q') hC hQ hP
  | lookupswitch a0 a1 => exact m_swi (G := G) (nx := nx) (L := L) (st := st) (h := h) (P := P) (P' := P') (C := C) (C' := C') (Q := Q) (Q' := Q') hC hQ hP
  | getfield a0 => cases o with
    | nil => exact m_getf (G := G) (nx := nx) (L := L) (st := st) (h := h) (P := P) (P' := P') (C := C) (C' := C') (Q := Q) (Q' := Q') hC hQ hP
    | cons k l => cases l with
      | nil => exact m_gets (G := G) (nx := nx) (L := L) (st := st) (h := h) (P := P) (P' := P') (C := C) (C' := C') (Q := Q) (Q' := Q') hC hQ hP
      | cons _ _ => exact m_getf (G := G) (nx := nx) (L := L) (st := st) (h := h) (P := P) (P' := P') (C := C) (C' := C') (Q := Q) (Q' := Q') hC hQ hP
  | putfield a0 => exact m_putf (G := G) (nx := nx) (L := L) (st := st) (h := h) (P := P) (P' := P') (C := C) (C' := C') (Q := Q) (Q' := Q') hC hQ hP
  | iaload  => exact m_iald (G := G) (nx := nx) (L := L) (st := st) (h := h) (P := P) (P' := P') (C := C) (C' := C') (Q := Q) (Q' := Q') hC hQ hP
  | baload  => exact m_bald (G := G) (nx := nx) (L := L) (st := st) (h := h) (P := P) (P' := P') (C := C) (C' := C') (Q := Q) (Q' := Q') hC hQ hP
  | aaload  => exact m_aald (G := G) (nx := nx) (L := L) (st := st) (h := h) (P := P) (P' := P') (C := C) (C' := C') (Q := Q) (Q' := Q') hC hQ hP
  | iastore  => exact m_iast (G := G) (nx := nx) (L := L) (st := st) (h := h) (P := P) (P' := P') (C := C) (C' := C') (Q := Q) (Q' := Q') hC hQ hP
  | bastore  => exact m_bast (G := G) (nx := nx) (L := L) (st := st) (h := h) (P := P) (P' := P') (C := C) (C' := C') (Q := Q) (Q' := Q') hC hQ hP
  | aastore  => exact m_aast (G := G) (nx := nx) (L := L) (st := st) (h := h) (P := P) (P' := P') (C := C) (C' := C') (Q := Q) (Q' := Q') hC hQ hP
  | arraylength  => exact m_alen (G := G) (nx := nx) (L := L) (st := st) (h := h) (P := P) (P' := P') (C := C) (C' := C') (Q := Q) (Q' := Q') hC hQ hP
  | new a0 => exact m_new (G := G) (nx := nx) (L := L) (st := st) (h := h) (P := P) (P' := P') (C := C) (C' := C') (Q := Q) (Q' := Q') hC hQ hP
  | newarray k => cases k with
    | int => exact m_newa (G := G) (nx := nx) (L := L) (st := st) (h := h) (P := P) (P' := P') (C := C) (C' := C') (Q := Q) (Q' := Q') hC hQ hP
    | boolean => exact m_newa (G := G) (nx := nx) (L := L) (st := st) (h := h) (P := P) (P' := P') (C := C) (C' := C') (Q := Q) (Q' := Q') hC hQ hP
    | _ => exact id
  | anewarray a0 => exact m_anew (G := G) (nx := nx) (L := L) (st := st) (h := h) (P := P) (P' := P') (C := C) (C' := C') (Q := Q) (Q' := Q') hC hQ hP
  | checkcast a0 => cases o with
    | nil => exact m_casta (G := G) (nx := nx) (L := L) (st := st) (h := h) (P := P) (P' := P') (C := C) (C' := C') (Q := Q) (Q' := Q') hC hQ hP
    | cons k l => exact m_cast (G := G) (nx := nx) (L := L) (st := st) (h := h) (P := P) (P' := P') (C := C) (C' := C') (Q := Q) (Q' := Q') hC hQ hP
  | instanceof a0 => exact m_inst (G := G) (nx := nx) (L := L) (st := st) (h := h) (P := P) (P' := P') (C := C) (C' := C') (Q := Q) (Q' := Q') hC hQ hP
  | invokevirtual a0 => cases o with
    | nil => exact m_cln (G := G) (nx := nx) (L := L) (st := st) (h := h) (P := P) (P' := P') (C := C) (C' := C') (Q := Q) (Q' := Q') hC hQ hP
    | cons k l => cases l with
      | nil => exact m_vstr (G := G) (nx := nx) (L := L) (st := st) (h := h) (P := P) (P' := P') (C := C) (C' := C') (Q := Q) (Q' := Q') hC hQ hP
      | cons _ l2 => cases l2 with
        | nil => exact m_virt (G := G) (nx := nx) (L := L) (st := st) (h := h) (P := P) (P' := P') (C := C) (C' := C') (Q := Q) (Q' := Q') hC hQ hP
        | cons _ _ => exact m_vstr (G := G) (nx := nx) (L := L) (st := st) (h := h) (P := P) (P' := P') (C := C) (C' := C') (Q := Q) (Q' := Q') hC hQ hP
  | invokestatic a0 => cases o with
    | nil => exact m_cpya (G := G) (nx := nx) (L := L) (st := st) (h := h) (P := P) (P' := P') (C := C) (C' := C') (Q := Q) (Q' := Q') hC hQ hP
    | cons k l => exact m_stat (G := G) (nx := nx) (L := L) (st := st) (h := h) (P := P) (P' := P') (C := C) (C' := C') (Q := Q) (Q' := Q') hC hQ hP
  | invokespecial a0 => cases o with
    | nil => exact m_oini (G := G) (nx := nx) (L := L) (st := st) (h := h) (P := P) (P' := P') (C := C) (C' := C') (Q := Q) (Q' := Q') hC hQ hP
    | cons k l => exact m_spec (G := G) (nx := nx) (L := L) (st := st) (h := h) (P := P) (P' := P') (C := C) (C' := C') (Q := Q) (Q' := Q') hC hQ hP
  | ireturn  => exact m_iret (G := G) (nx := nx) (L := L) (st := st) (h := h) (P := P) (P' := P') (C := C) (C' := C') (Q := Q) (Q' := Q') hC hQ hP
  | lreturn  => exact m_lret (G := G) (nx := nx) (L := L) (st := st) (h := h) (P := P) (P' := P') (C := C) (C' := C') (Q := Q) (Q' := Q') hC hQ hP
  | areturn  => exact m_aret (G := G) (nx := nx) (L := L) (st := st) (h := h) (P := P) (P' := P') (C := C) (C' := C') (Q := Q) (Q' := Q') hC hQ hP
  | return_  => exact m_vret (G := G) (nx := nx) (L := L) (st := st) (h := h) (P := P) (P' := P') (C := C) (C' := C') (Q := Q) (Q' := Q') hC hQ hP
  | getstatic a0 => cases o with
    | nil => exact m_cst (G := G) (nx := nx) (L := L) (st := st) (h := h) (P := P) (P' := P') (C := C) (C' := C') (Q := Q) (Q' := Q') hC hQ hP
    | cons k l => cases l with
      | nil => exact m_gref (G := G) (nx := nx) (L := L) (st := st) (h := h) (P := P) (P' := P') (C := C) (C' := C') (Q := Q) (Q' := Q') hC hQ hP
      | cons _ _ => exact m_gopt (G := G) (nx := nx) (L := L) (st := st) (h := h) (P := P) (P' := P') (C := C) (C' := C') (Q := Q) (Q' := Q') hC hQ hP
  | _ => exact id
theorem wpS_fold {G : MG} {C : KC} {y : Nat} {Q : KQ} {pc : Nat} {L : Loc'} {st : List V} {h : MH} (hC : moC C C) (hs : stp G C Q (wpS G C y Q) pc (cd y pc) L st h) : wpS G C y Q pc L st h := by
  intro P hP
  exact hP _ _ _ _ (stp_mo hC (fun _ _ z => z) (fun pc L st h z => z P hP) hs)
theorem wpS_unf {G : MG} {C : KC} {y : Nat} {Q : KQ} {pc : Nat} {L : Loc'} {st : List V} {h : MH} (hC : moC C C) (hs : wpS G C y Q pc L st h) : stp G C Q (wpS G C y Q) pc (cd y pc) L st h :=
  hs (fun pc L st h => stp G C Q (wpS G C y Q) pc (cd y pc) L st h) (fun _ _ _ _ z => stp_mo hC (fun _ _ z => z) (fun _ _ _ _ z => wpS_fold hC z) z)
theorem wpS_mo {G : MG} {C C' : KC} {y : Nat} {Q Q' : KQ} (hC : moC C C') (hC' : moC C' C') (hQ : ∀ r h, Q r h → Q' r h) {pc : Nat} {L : Loc'} {st : List V} {h : MH} (hs : wpS G C y Q pc L st h) : wpS G C' y Q' pc L st h :=
  hs (wpS G C' y Q') (fun _ _ _ _ z => wpS_fold hC' (stp_mo hC hQ (fun _ _ _ _ z => z) z))
theorem wpC_mo {G : MG} : ∀ d, moC (wpC G d) (wpC G d)
  | 0 => fun _ _ _ _ _ _ z => z
  | d + 1 => fun _ _ _ _ _ hQ z => ⟨z.1, wpS_mo (wpC_mo d) (wpC_mo d) hQ z.2⟩
theorem wpC_up {G : MG} : ∀ d, moC (wpC G d) (wpC G (d + 1))
  | 0 => fun _ _ _ _ _ _ z => z.elim
  | d + 1 => fun _ _ _ _ _ hQ z => ⟨z.1, wpS_mo (wpC_up d) (wpC_mo (d + 1)) hQ z.2⟩
theorem wp_unf {G : MG} {d y pc : Nat} {L : Loc'} {st : List V} {h : MH} {Q : KQ} : wp G d y pc L st h Q = stp G (wpC G d) Q (fun pc L st h => wp G d y pc L st h Q) pc (cd y pc) L st h :=
  propext ⟨wpS_unf (wpC_mo d), wpS_fold (wpC_mo d)⟩
theorem wpC_eq {G : MG} {d y : Nat} {a : List V} {h : MH} {Q : KQ} (hl : (entL a).length ≤ mLs.getD y 0) : wpC G (d + 1) y a h Q = wp G d y 0 (entA y a) [] h Q := propext ⟨fun z => z.2, fun z => ⟨hl, z⟩⟩
theorem wp_mo {G : MG} {d y pc : Nat} {L : Loc'} {st : List V} {h : MH} {Q Q' : KQ} (hQ : ∀ r h, Q r h → Q' r h) (z : wp G d y pc L st h Q) : wp G d y pc L st h Q' := wpS_mo (wpC_mo d) (wpC_mo d) hQ z
