def wsOf (y : Nat) : List Cond := codeW y :: mT
def rmD (d : Nat) (h hf : MH) : Room := { frames := d + 1, cells := hf.1 - h.1, slots := hf.2.1 - h.2.1, locals := 64 * d + 128 }
def PcD (E : ME) (a : List V) (h : MH) : Array Value → State → Prop := va_Pc (a.map cV) (fun U => KU E U ∧ mmR E U h U.heap)
theorem PcD_blind (E : ME) (a : List V) (h : MH) : FrameBlind (PcD E a h) := by
  intro ar U g mk hp
  obtain ⟨h1, h2, h3⟩ := hp
  exact ⟨h1, KU_warm (s := U) (U := U.calling g mk ar) (State.WarmedH.refl U) h2, mmR_moved (Vm.Alike.refl U.vm) h3⟩
/-- what a method does, as a contract -/
def MetD (E : ME) (l : Launch) (d y : Nat) (a : List V) (h : MH) (r : Option V) (hf : MH) : Prop := Met l (mn y) (wsOf y) (rmD d h hf) (PcD E a h) (QcD E r hf) (hf.1 - h.1) (hf.2.1 - h.2.1) (fun q => eB E ≤ q)
section ZC
variable {E : ME} {p : Program} {l : Launch} {e : Env} {R : Room} {s : State} {m : MethodId} {args : Array Value} {below : List Frame} {meth : Method} {c : Code} {Qf : State → Prop} {hf h0 : MH} {nL : Nat}
variable {cc : ByteArray} {pc nx : Nat} {L : Loc'} {st : List V} {h : MH} {C : KC} {Q : KQ}
theorem z_back {r1 : Option V} {h1 : MH} {rest : List V} {st0 : List Value} {aa : Array Value} {H : Heap} {locs : List Loc} {ls : Array Slot} (hb1 : h.1 ≤ h1.1 ∧ h.2.1 ≤ h1.2.1) (hg : h0.1 ≤ h.1 ∧ h0.2.1 ≤ h.2.1) (run : va_Run p l e R s m args below meth c H locs (h.1 - h0.1) (h.2.1 - h0.2.1) (h1.1 - h.1) (h1.2.1 - h.2.1) (F0 m pc ls st0) (rest.map cV) (QcD E r1 h1 aa) (fun q => eB E ≤ q))
    (hk : mmX E p l e R s m args below meth c Qf h0 nL (pc + 3) L (r1.toList ++ rest) h1) (wl : wfL L) (wr : wfS rest) (hn : L.length = nL) (hlo : ∀ q ∈ locs, eB E ≤ q.base) (hls : lv_has ls nL (lasc L 0)) : W p l e R s m args below meth c H locs (h.1 - h0.1) (h.2.1 - h0.2.1) Qf (F0 m pc ls st0) := by
  intro T hT X
  obtain ⟨v, s0, t, T', Lc, e0, X', hL, e1, e2, ⟨hv, hR, hwf⟩, st'⟩ := run T hT X
  have hv' : v = r1.map cV := Outcome.returned.inj hv
  subst hv'
  have hal : t.vm.Alike s.vm := by rw [← e2]; exact X'.warmed.alike.symm
  have hR' : mmR E s h1 T'.heap := by rw [e1]; exact mmR_moved hal hR
  have ws' : wfS (r1.toList ++ rest) := by
    intro x hx
    rcases List.mem_append.mp hx with hx | hx
    · cases r1 with
      | none => simp at hx
      | some w => simp at hx; subst hx; exact hwf _ rfl
    · exact wr x hx
  have k := hk ⟨Nat.le_trans hg.1 hb1.1, Nat.le_trans hg.2 hb1.2⟩ wl ws' hn T'.heap (locs ++ Lc) ls hR' (fun q hq => by
    rcases List.mem_append.mp hq with hq | hq
    · exact hlo q hq
    · exact hL q hq) hls
  have a1 : h1.1 - h0.1 = h.1 - h0.1 + (h1.1 - h.1) := by have := hb1.1; have := hg.1; omega
  have a2 : h1.2.1 - h0.2.1 = h.2.1 - h0.2.1 + (h1.2.1 - h.2.1) := by have := hb1.2; have := hg.2; omega
  rw [a1, a2] at k
  obtain ⟨t2, b1, b2⟩ := k T' rfl X'
  refine ⟨t2, st' t2 ?_, b2⟩
  have e3 : (r1.map cV).toList ++ rest.map cV = (r1.toList ++ rest).map cV := by cases r1 <;> simp
  rw [e3]
  exact b1
theorem pc_of {a : List V} {H : Heap} (hU : KU E s) (hR : mmR E s h H) : ∀ U : State, U.heap = H → s.WarmedH U.vm → PcD E a h (a.map cV).toArray U := fun U hU2 hW => ⟨rfl, KU_warm hW hU, by rw [hU2]; exact mmR_moved hW.alike hR⟩
theorem ws_good {y : Nat} (hts : ∀ w ∈ mT, w.before args s = true) (hc : codeW y ∈ mT) : GoodIn mT (wsOf y) := by
  intro w hw
  rcases List.mem_cons.mp hw with rfl | hw
  · exact ⟨hc, good_of_word (mT_good _ hc)⟩
  · exact ⟨hw, good_of_word (mT_good _ hw)⟩
theorem w4 {rest : List V} (h : rest.length ≤ 4) (pc : Nat) (ls : Array Slot) (st0 : List Value) : 2 * (F0 m pc ls st0).monitorRoom + ((rest.map cV).map fun v => v.category).sum ≤ 8 := by
  have := cat_le rest
  show 2 * 0 + _ ≤ _
  omega
/-- what a callee's room asks of its caller's -/
def rmOK (R : Room) (d y : Nat) (h0 hf : MH) : Prop := d + 2 ≤ R.frames ∧ 8 + (ml y + 11) + (64 * d + 128) ≤ R.locals ∧ hf.1 - h0.1 ≤ R.cells ∧ hf.2.1 - h0.2.1 ≤ R.slots
theorem cells_ok {d y : Nat} {h1 : MH} (hr : rmOK R d y h0 hf) (hb1 : h.1 ≤ h1.1 ∧ h.2.1 ≤ h1.2.1) (hb2 : mmB hf h1) (hg : h0.1 ≤ h.1 ∧ h0.2.1 ≤ h.2.1) : h.1 - h0.1 + (h1.1 - h.1) ≤ R.cells ∧ h.2.1 - h0.2.1 + (h1.2.1 - h.2.1) ≤ R.slots := by
  obtain ⟨-, -, r1, r2⟩ := hr
  obtain ⟨q1, q2⟩ := hb2
  obtain ⟨b1, b2⟩ := hb1
  obtain ⟨g1, g2⟩ := hg
  constructor <;> omega
theorem rev_st {st : List V} {n : Nat} : st.map cV = (((st.take n).reverse).map cV).reverse ++ (st.drop n).map cV := by
  rw [← List.map_reverse, List.reverse_reverse, ← List.map_append, List.take_append_drop]
/-- a static call -/
theorem z_stat {d y n : Nat} {own : String} {ix : Nat} {r1 : Option V} {h1 : MH} (hx : p.tables.exec = Jvm.exec) (hb : c.code = cc) (hts : ∀ w ∈ mT, w.before args s = true) (hU : KU E s) (hml : c.maxLocals = nL) (hown : s.vm.findClass own = some m.cls)
    (hc : codeW y ∈ mT) (hlk : Cond.methodLink own ix (mn y) ∈ mT ∨ ∃ host, (own, ix, mn y, host) ∈ neT) (hst : Cond.static (mn y) ∈ mT) (hini : Cond.initialized (mn y).cls ∈ mT) (hd' : (mn y).cls ≠ "java/lang/invoke/MethodHandle" ∧ (mn y).cls ≠ "java/lang/invoke/VarHandle" ∧ (parseMethodDescriptor (mn y).desc).map (fun d => d.parameters.length) = some n) (hr : rmOK R d y h0 hf)
    (hd : decode cc pc = .ok (.invokestatic ix, 3)) (hM : MetD E l d y ((st.take n).reverse) h r1 h1) (hb1 : h.1 ≤ h1.1 ∧ h.2.1 ≤ h1.2.1) (h4 : (st.drop n).length ≤ 4 ∧ n ≤ st.length)
    (hk : mmW E p l e R s m args below meth c Qf hf h0 nL (pc + 3) L (r1.toList ++ st.drop n) h1) : mmX E p l e R s m args below meth c Qf h0 nL pc L st h := by
  intro hg wl ws hn H locs ls hR hlo hls
  have hcl := cells_ok hr hb1 hk.1 hg
  refine z_back hb1 hg (aa := (((st.take n).reverse).map cV).toArray) ?_ hk.2 wl (fun x hx => ws x (List.mem_of_mem_drop hx)) hn hlo hls
  have hlen : (((st.take n).reverse).map cV).length = n := by simp; omega
  have hpre : PreS s H (PcD E ((st.take n).reverse) h) (((st.take n).reverse).map cV) := ⟨PcD_blind _ _ _, pc_of hU hR⟩
  have hRr : (rmD d h h1).frames + 1 ≤ R.frames ∧ 8 + (ml y + 11) + (rmD d h h1).locals ≤ R.locals := ⟨hr.1, hr.2.1⟩
  rcases hlk with hlk | ⟨host, hlk⟩
  · have cw : CallB R s args own ix (mn y) (mc y) (ml y) (mr y) (wsOf y) (rmD d h h1) (h1.1 - h.1) (h1.2.1 - h.2.1) n ∧ (Cond.static (mn y)).before args s = true :=
      ⟨callB_of n hts (ws_good hts hc) rfl rfl rfl (hts _ hini) (hts _ hlk) hd' hRr, hts _ hst⟩
    exact va_runS (Ts := mT) ⟨hx, hb, hml, hown, hts⟩ hM cw hpre rfl hlen hls.1 rev_st (w4 h4.1 _ _ _) hd hcl
  · have cw : va_CN R s args own ix (mn y) host (mc y) (ml y) (mr y) (wsOf y) (rmD d h h1) (h1.1 - h.1) (h1.2.1 - h.2.1) n ∧ (Cond.static (mn y)).before args s = true ∧ True :=
      ⟨va_cnB n hts (ws_good hts hc) rfl rfl rfl (hU.2.2.2.2.2.2.2.1 _ hlk) (hts _ hini) hd' hRr, hts _ hst, trivial⟩
    exact va_runSN (Ts := mT) ⟨hx, hb, hml, hown, hts⟩ hM cw hpre rfl hlen hls.1 rev_st (w4 h4.1 _ _ _) hd hcl
theorem st_split {st : List V} {n a : Nat} (h : st[n]? = some (vR a)) : st.take (n + 1) = st.take n ++ [vR a] ∧ (st.take n).length = n := by
  obtain ⟨hl, hv⟩ := List.getElem?_eq_some_iff.mp h
  refine ⟨?_, by simp; omega⟩
  rw [← hv]
  simp [List.take_concat_get]
theorem rev_st1 {st : List V} {n a : Nat} (h : st[n]? = some (vR a)) : st.map cV = (((st.take n).reverse).map cV).reverse ++ .ref a :: (st.drop (n + 1)).map cV := by
  have e : st = st.take n ++ vR a :: st.drop (n + 1) := by
    conv => lhs; rw [← List.take_append_drop (n + 1) st]
    rw [(st_split h).1, List.append_assoc]; rfl
  conv => lhs; rw [e]
  rw [List.map_append, ← List.map_reverse, List.reverse_reverse]; rfl
theorem arg1 {st : List V} {n a : Nat} (h : st[n]? = some (vR a)) : ((st.take (n + 1)).reverse).map cV = .ref a :: ((st.take n).reverse).map cV := by
  rw [(st_split h).1, List.reverse_append]; rfl
/-- a call of the receiver's class's method -/
theorem z_virt {d y n t a : Nat} {fs : List V} {own : String} {ix : Nat} {x : MethodName} {r1 : Option V} {h1 : MH} (hx : p.tables.exec = Jvm.exec) (hb : c.code = cc) (hts : ∀ w ∈ mT, w.before args s = true) (hU : KU E s) (hml : c.maxLocals = nL) (hown : s.vm.findClass own = some m.cls)
    (hc : codeW y ∈ mT) (hlk : Cond.methodLink own ix x ∈ mT) (hin : Cond.instanceMethod (mn y) ∈ mT) (hini : Cond.initialized (mn y).cls ∈ mT) {cn : String} (hcn : ∃ cell : Cell, ∀ H, mmR E s h H → ∃ cell : Cell, H[a]? = some cell ∧ cell.vm.isStatics = false ∧ s.vm.findClass cn = some cell.cls) (hsel : Cond.selects cn x (mn y) ∈ mT)
    (hxy : x = mn y ∨ ∃ (owner : String) (y0 : Nat), Cond.sameMethod x.cls owner x.name x.desc ∈ mT ∧ (⟨owner, x.name, x.desc⟩ : MethodName) = mn y0 ∧ codeW y0 ∈ mT ∧ Cond.instanceMethod (mn y0) ∈ mT ∧ owner ≠ "java/lang/invoke/MethodHandle" ∧ owner ≠ "java/lang/invoke/VarHandle")
    (hd' : (mn y).cls ≠ "java/lang/invoke/MethodHandle" ∧ (mn y).cls ≠ "java/lang/invoke/VarHandle" ∧ (parseMethodDescriptor (mn y).desc).map (fun d => d.parameters.length) = some n) (hdx : (parseMethodDescriptor x.desc).map (fun d => d.parameters.length) = some n) (hr : rmOK R d y h0 hf)
    (hd : decode cc pc = .ok (.invokevirtual ix, 3)) (hM : MetD E l d y ((st.take (n + 1)).reverse) h r1 h1) (hb1 : h.1 ≤ h1.1 ∧ h.2.1 ≤ h1.2.1) (h4 : (st.drop (n + 1)).length ≤ 4) (hv : st[n]? = some (vR a))
    (hk : mmW E p l e R s m args below meth c Qf hf h0 nL (pc + 3) L (r1.toList ++ st.drop (n + 1)) h1) : mmX E p l e R s m args below meth c Qf h0 nL pc L st h := by
  intro hg wl ws hn H locs ls hR hlo hls
  have hcl := cells_ok hr hb1 hk.1 hg
  refine z_back hb1 hg (aa := (Value.ref a :: ((st.take n).reverse).map cV).toArray) ?_ hk.2 wl (fun x hx => ws x (List.mem_of_mem_drop hx)) hn hlo hls
  have hlen : (((st.take n).reverse).map cV).length = n := by rw [List.length_map, List.length_reverse]; exact (st_split hv).2
  have hpre : PreV s H cn a (PcD E ((st.take (n + 1)).reverse) h) (((st.take n).reverse).map cV) := ⟨PcD_blind _ _ _, hcn.choose_spec H hR, fun U h1 h2 => by rw [← arg1 hv]; exact pc_of hU hR U h1 h2⟩
  have hRr : (rmD d h h1).frames + 1 ≤ R.frames ∧ 8 + (ml y + 11) + (rmD d h h1).locals ≤ R.locals := ⟨hr.1, hr.2.1⟩
  rcases hxy with rfl | ⟨owner, y0, e1, e2, e3, e4, e5⟩
  · have cw : CallW R s args own cn ix (mn y) (mc y) (ml y) (mr y) (wsOf y) (rmD d h h1) (h1.1 - h.1) (h1.2.1 - h.2.1) n :=
      ⟨callB_of n hts (ws_good hts hc) rfl rfl rfl (hts _ hini) (hts _ hlk) hd' hRr, hts _ hin, hts _ hsel⟩
    exact va_runV (Ts := mT) ⟨hx, hb, hml, hown, hts⟩ hM cw hpre rfl hlen hls.1 (rev_st1 hv) (w4 h4 _ _ _) hd hcl
  · have cw : va_CU R s args own cn owner ix x (mn y) (mc y) (ml y) (mr y) (wsOf y) (rmD d h h1) (h1.1 - h.1) (h1.2.1 - h.2.1) n :=
      ⟨⟨rfl, rfl, hRr.1, hRr.2, pay_in hts (ws_good hts hc), List.mem_cons_self⟩, hts _ hc, hts _ hini, e5, fun sig h => by rw [h] at hdx; exact (Option.some.inj hdx).symm, hts _ hlk, hts _ e1, va_Decl.of (by rw [e2]; exact hts _ e4) (by rw [e2]; exact hts _ e3), hts _ hsel, hts _ hin⟩
    exact va_runU (Ts := mT) ⟨hx, hb, hml, hown, hts⟩ hM cw hpre rfl hlen hls.1 (rev_st1 hv) (w4 h4 _ _ _) hd hcl
/-- a constructor -/
theorem z_init {d y n a : Nat} {own : String} {ix : Nat} {r1 : Option V} {h1 : MH} (hx : p.tables.exec = Jvm.exec) (hb : c.code = cc) (hts : ∀ w ∈ mT, w.before args s = true) (hU : KU E s) (hml : c.maxLocals = nL) (hown : s.vm.findClass own = some m.cls)
    (hc : codeW y ∈ mT) (hlk : Cond.methodLink own ix (mn y) ∈ mT ∨ ∃ host, (own, ix, mn y, host) ∈ neT) (hnm : (mn y).name = "<init>") (hrv : mr y = none) (hin : Cond.instanceMethod (mn y) ∈ mT) (hini : Cond.initialized (mn y).cls ∈ mT)
    (hd' : (mn y).cls ≠ "java/lang/invoke/MethodHandle" ∧ (mn y).cls ≠ "java/lang/invoke/VarHandle" ∧ (parseMethodDescriptor (mn y).desc).map (fun d => d.parameters.length) = some n) (hr : rmOK R d y h0 hf)
    (hd : decode cc pc = .ok (.invokespecial ix, 3)) (hM : MetD E l d y ((st.take (n + 1)).reverse) h r1 h1) (hb1 : h.1 ≤ h1.1 ∧ h.2.1 ≤ h1.2.1) (h4 : (st.drop (n + 1)).length ≤ 4) (hv : st[n]? = some (vR a))
    (hk : mmW E p l e R s m args below meth c Qf hf h0 nL (pc + 3) L (r1.toList ++ st.drop (n + 1)) h1) : mmX E p l e R s m args below meth c Qf h0 nL pc L st h := by
  intro hg wl ws hn H locs ls hR hlo hls
  have hcl := cells_ok hr hb1 hk.1 hg
  refine z_back hb1 hg (aa := (Value.ref a :: ((st.take n).reverse).map cV).toArray) ?_ hk.2 wl (fun x hx => ws x (List.mem_of_mem_drop hx)) hn hlo hls
  have hlen : (((st.take n).reverse).map cV).length = n := by rw [List.length_map, List.length_reverse]; exact (st_split hv).2
  have hpre : PreS s H (PcD E ((st.take (n + 1)).reverse) h) (.ref a :: ((st.take n).reverse).map cV) := ⟨PcD_blind _ _ _, fun U h1 h2 => by rw [← arg1 hv]; exact pc_of hU hR U h1 h2⟩
  have hRr : (rmD d h h1).frames + 1 ≤ R.frames ∧ 8 + (ml y + 11) + (rmD d h h1).locals ≤ R.locals := ⟨hr.1, hr.2.1⟩
  have ewx : wsOf y = Cond.code (mn y) (mc y) (ml y) none :: mT := by unfold wsOf codeW; rw [hrv]
  rcases hlk with hlk | ⟨host, hlk⟩
  · have cw : CallB R s args own ix (mn y) (mc y) (ml y) none (wsOf y) (rmD d h h1) (h1.1 - h.1) (h1.2.1 - h.2.1) n ∧ (mn y).name = "<init>" ∧ (Cond.instanceMethod (mn y)).before args s = true :=
      ⟨callB_of n hts (ws_good hts hc) ewx rfl rfl (hts _ hini) (hts _ hlk) hd' hRr, hnm, hts _ hin⟩
    exact va_runI (Ts := mT) ⟨hx, hb, hml, hown, hts⟩ hM cw hpre rfl hlen hls.1 (rev_st1 hv) (w4 h4 _ _ _) hd hcl
  · have cw : va_CN R s args own ix (mn y) host (mc y) (ml y) none (wsOf y) (rmD d h h1) (h1.1 - h.1) (h1.2.1 - h.2.1) n ∧ (mn y).name = "<init>" ∧ (Cond.instanceMethod (mn y)).before args s = true :=
      ⟨va_cnB n hts (ws_good hts hc) ewx rfl rfl (hU.2.2.2.2.2.2.2.1 _ hlk) (hts _ hini) hd' hRr, hnm, hts _ hin⟩
    exact va_runIN (Ts := mT) ⟨hx, hb, hml, hown, hts⟩ hM cw hpre rfl hlen hls.1 (rev_st1 hv) (w4 h4 _ _ _) hd hcl
/-- super's method -/
theorem z_super {d y n a : Nat} {own : String} {ix : Nat} {x : MethodName} {r1 : Option V} {h1 : MH} (hx : p.tables.exec = Jvm.exec) (hb : c.code = cc) (hts : ∀ w ∈ mT, w.before args s = true) (hU : KU E s) (hml : c.maxLocals = nL) (hown : s.vm.findClass own = some m.cls)
    (hc : codeW y ∈ mT) (hlk : Cond.methodLink own ix x ∈ mT) (hsm : Cond.sameMethod x.cls (mn y).cls x.name x.desc ∈ mT) (hxy : x.name = (mn y).name ∧ x.desc = (mn y).desc) (hsu : Cond.superclass own x.cls ∈ mT) (hsu2 : x.cls = (mn y).cls ∨ Cond.superclass x.cls (mn y).cls ∈ mT) (hnm : (mn y).name ≠ "<init>") (hin : Cond.instanceMethod (mn y) ∈ mT) (hini : Cond.initialized (mn y).cls ∈ mT)
    (hcn : ∃ cell : Cell, ∀ H, mmR E s h H → ∃ (cell : Cell) (k : Class), H[a]? = some cell ∧ cell.vm.isStatics = false ∧ s.vm.classes[cell.cls]? = some k)
    (hd' : (mn y).cls ≠ "java/lang/invoke/MethodHandle" ∧ (mn y).cls ≠ "java/lang/invoke/VarHandle" ∧ (parseMethodDescriptor (mn y).desc).map (fun d => d.parameters.length) = some n) (hr : rmOK R d y h0 hf)
    (hd : decode cc pc = .ok (.invokespecial ix, 3)) (hM : MetD E l d y ((st.take (n + 1)).reverse) h r1 h1) (hb1 : h.1 ≤ h1.1 ∧ h.2.1 ≤ h1.2.1) (h4 : (st.drop (n + 1)).length ≤ 4) (hv : st[n]? = some (vR a))
    (hk : mmW E p l e R s m args below meth c Qf hf h0 nL (pc + 3) L (r1.toList ++ st.drop (n + 1)) h1) : mmX E p l e R s m args below meth c Qf h0 nL pc L st h := by
  intro hg wl ws hn H locs ls hR hlo hls
  have hcl := cells_ok hr hb1 hk.1 hg
  refine z_back hb1 hg (aa := (Value.ref a :: ((st.take n).reverse).map cV).toArray) ?_ hk.2 wl (fun x hx => ws x (List.mem_of_mem_drop hx)) hn hlo hls
  have hlen : (((st.take n).reverse).map cV).length = n := by rw [List.length_map, List.length_reverse]; exact (st_split hv).2
  obtain ⟨cell, kB, hcell, hobj, hkB⟩ := hcn.choose_spec H hR
  have hK : Back l R p e below s args (mn y) 3 8 (PreOf R (h1.1 - h.1) (h1.2.1 - h.2.1) (PcD E ((st.take (n + 1)).reverse) h)) (PostOf (QcD E r1 h1) (h1.1 - h.1) (h1.2.1 - h.2.1) (fun q => eB E ≤ q)) :=
    back_of (bytes := mc y) (maxL := ml y) (ret := mr y) hM (PcD_blind _ _ _) rfl rfl hr.1 hr.2.1 (pay_in hts (ws_good hts hc)) List.mem_cons_self (fun a' U hW => word_at hW (Or.inl (by first | rfl | simp [Cond.onTables, Cond.keeps, Cond.steady])) (hts _ hini))
  obtain ⟨mk, methM, hnamed, hmethM, hstM, habM⟩ := Cond.instanceMethod_spec (hts _ hin)
  obtain ⟨methM', cM, hmethM', -, -, -, -, -, -, hsigM⟩ := Cond.code_spec hnamed (hts _ hc)
  cases hmethM.symm.trans hmethM'
  obtain ⟨ps, dk, kp, hps, hdk, hkp, hsuper, -, -, hnid⟩ := Cond.superclass_spec hown (hts _ hsu)
  have hn2 : s.methodNamed? ⟨(mn y).cls, x.name, x.desc⟩ = some mk := by rw [hxy.1, hxy.2]; exact hnamed
  have hsub : s.vm.isSubclass ps mk.cls = true := by
    rcases hsu2 with h2 | h2
    · have hpm : ps = mk.cls := Option.some.inj (hps.symm.trans (by rw [h2]; exact findClass_of_methodNamed hnamed))
      rw [hpm]; simp [Vm.isSubclass, Vm.isSubclassAux]
    · obtain ⟨ps2, dk2, kp2, hps2, hdk2, -, hsuper2, -⟩ := Cond.superclass_spec hps (hts _ h2)
      have hpm : ps2 = mk.cls := Option.some.inj (hps2.symm.trans (findClass_of_methodNamed hnamed))
      have hz : 0 < s.vm.classes.size := Nat.lt_of_le_of_lt (Nat.zero_le _) (Array.getElem?_eq_some_iff.mp hdk2).1
      obtain ⟨f, hf⟩ : ∃ f, s.vm.classes.size = f + 1 := ⟨s.vm.classes.size - 1, by omega⟩
      rw [← hpm]
      unfold Vm.isSubclass
      rw [hf]
      simp [Vm.isSubclassAux, hdk2, hsuper2]
  have hlen2 : ((st.take n).reverse.map cV).length = methM.sig.parameters.length := by
    have h2 := hd'.2.2
    rw [hsigM] at h2
    exact hlen.trans (Option.some.inj h2).symm
  intro T hT X
  obtain ⟨vm₁, X₁, hstep₁⟩ := X.invokespecialUp hx hown (hts _ hlk) (owner := (mn y).cls) (hts _ hsm) hn2 hmethM hstM habM (by rw [hxy.1]; exact hnm) hdk hnid hps hsuper hsub (a := a) (cell := cell) (by rw [hT]; exact hcell)
    (fun z h => by rw [h] at hobj; cases hobj) hkB (g := F0 m pc ls (st.map cV)) rfl (argsL := ((st.take n).reverse).map cV) (rest := (st.drop (n + 1)).map cV) hlen2 (rev_st1 hv) (by rw [hb]; exact hd)
  obtain ⟨v, B, X', hpost, hsteps⟩ := hK m meth c ⟨T.setVm vm₁, locs, h.1 - h0.1, h.2.1 - h0.2.1⟩ { (F0 m pc ls (st.map cV)) with stack := (st.drop (n + 1)).map cV } (.invokespecial ix) mk (Value.ref a :: ((st.take n).reverse).map cV).toArray X₁ rfl (hls.1.trans hml.symm) (by rw [hb]; exact hd) (w4 h4 _ _ _) (X₁.named hnamed) ⟨hcl.1, hcl.2, by rw [← arg1 hv]; exact pc_of hU hR (T.setVm vm₁) hT X₁.warmed⟩
  obtain ⟨U', l2, c2, s2⟩ := B
  obtain ⟨g', mk', t, L', e1, e2, hq, q1, hL, q2, q3⟩ := hpost
  dsimp only [Pt.U, Pt.locs, Pt.cells, Pt.slots] at X' e1 e2 q1 q2 q3 hsteps
  subst q1; subst q2; subst q3
  exact ⟨v, (T.setVm vm₁).calling g' mk' (Value.ref a :: ((st.take n).reverse).map cV).toArray, t, U', L', hT, X', hL, e1, e2, hq, fun target h => hstep₁ _ (by rw [doInvoke_state]; exact hsteps.trans h)⟩
end ZC
