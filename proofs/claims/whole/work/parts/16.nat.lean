section ZN
variable {E : ME} {p : Program} {l : Launch} {e : Env} {R : Room} {s : State} {m : MethodId} {args : Array Value} {below : List Frame} {meth : Method} {c : Code} {Qf : State → Prop} {hf h0 : MH} {nL : Nat}
variable {cc : ByteArray} {pc nx : Nat} {L : Loc'} {st : List V} {h : MH} {C : KC} {Q : KQ}
theorem cpy_va {f g : Nat → Int} {sp dp n : Nat} : va_cpy (fun j => Int32.ofInt (f j)) (fun j => Int32.ofInt (g j)) sp dp n = fun j => Int32.ofInt (cpy f g sp dp n j) := by
  funext j
  unfold va_cpy cpy
  split <;> rfl
theorem wf_cpy {f g : Nat → Int} {sp dp n : Nat} (hf : ∀ j, iR (f j)) (hg : ∀ j, iR (g j)) : ∀ j, iR (cpy f g sp dp n j) := by
  intro j; unfold cpy; split
  · exact hf _
  · exact hg _
theorem rc0 {E : ME} {s : State} {H : Heap} {a n : Nat} {f : Nat → Int} (h : Rc E s H a (cArr 0 n f)) : eB E ≤ a ∧ va_at E.1 mCl (a, cE E (cArr 0 n f) a) H := by
  rcases h with ⟨-, h1, h2⟩ | h
  · exact ⟨h1, h2⟩
  · rcases h with ⟨q, -⟩ | ⟨q, -⟩ <;> omega
theorem z_cpya (hx : p.tables.exec = Jvm.exec) (hb : c.code = cc) (hU : KU E s) (hml : c.maxLocals = nL) {own : String} {ix : Nat} (hown : s.vm.findClass own = some m.cls) (hlink : (Cond.methodLink own ix arraycopyName).before args s = true) (hnat : (Cond.native arraycopyName).before args s = true) (hstat : (Cond.static arraycopyName).before args s = true) (hini : (Cond.initialized "java/lang/System").before args s = true) (hR1 : 1 ≤ R.frames) (hR2 : 8 + (nativeFrameWords "java/lang/System" "arraycopy" 5 + 11) ≤ R.locals) (hd : decode cc pc = .ok (.invokestatic ix, 3)) (hs : s_cpya E.2.2.2 C Q (mmW E p l e R s m args below meth c Qf hf h0 nL) (pc + 3) L st h) : mmX E p l e R s m args below meth c Qf h0 nL pc L st h := by
  intro hg wl ws hn H locs ls hR hlo hls
  unfold s_cpya at hs; split at hs
  · rename_i n dp b sp a st'
    obtain ⟨h4, hs⟩ := hs
    unfold xCpy at hs; split at hs
    · rename_i ty0 m0 f ty1 m1 g hca hcb
      obtain ⟨rfl, rfl, d1, d2, d3, d4, d5, hs⟩ := hs
      obtain ⟨hRa, hwa⟩ := hR.2.2 a _ hca
      obtain ⟨hRb, hwb⟩ := hR.2.2 b _ hcb
      have wn : iR n := wfS_h ws
      have wdp : iR dp := wfS_h (wfS_t ws)
      have wsp : iR sp := wfS_h (wfS_t (wfS_t (wfS_t ws)))
      obtain ⟨hba, hata⟩ := rc0 hRa
      obtain ⟨hbb, hatb⟩ := rc0 hRb
      intro T hT X
      obtain ⟨-, k0, hk0, cm0, hkk0⟩ := (ar_ty hU).1 m0 (fun j => .int (Int32.ofInt (f j)))
      have hc0 : H[a]? = some (vp_cell E.2.1.1 (m0, .inl (fun j => Int32.ofInt (f j)))) := hata
      have hc1 : H[b]? = some (vp_cell E.2.1.1 (m1, .inl (fun j => Int32.ofInt (g j)))) := hatb
      have en : (Int32.ofInt n).toInt = n := i32i wn
      have esp : (Int32.ofInt sp).toInt = sp := i32i wsp
      have edp : (Int32.ofInt dp).toInt = dp := i32i wdp
      have cn : (Int32.ofInt n).toNatClampNeg = n.toNat := i32cl wn d3
      have csp : (Int32.ofInt sp).toNatClampNeg = sp.toNat := i32cl wsp d1
      have cdp : (Int32.ofInt dp).toNatClampNeg = dp.toNat := i32cl wdp d2
      have neg : ∀ {z : Int}, iR z → 0 ≤ z → ¬ Int32.ofInt z < 0 := fun {z} hz h0 => by rw [← i32_0, i32lt hz iR_0]; omega
      obtain ⟨vm', X', step⟩ := X.arraycopy hx hown hlink hnat hstat hini (src := a) (dst := b) (cs := vp_cell E.2.1.1 (m0, .inl (fun j => Int32.ofInt (f j)))) (cd := vp_cell E.2.1.1 (m1, .inl (fun j => Int32.ofInt (g j)))) (srcPos := Int32.ofInt sp) (destPos := Int32.ofInt dp) (n := Int32.ofInt n) (by rw [hT]; exact hc0) (by rw [hT]; exact hc1)
        (fun _ h => by cases h) (fun _ h => by cases h) (fun h => by cases h) (fun h => by cases h) hk0 hk0 hkk0 hkk0 (by simp [show refKind FieldType.int = false from rfl]) (neg wsp d1) (neg wdp d2) (neg wn d3)
        (by rw [en, esp]; show ¬ _ > ((arrV E.2.1.1 m0 (fun j => .int (Int32.ofInt (f j)))).slots.size : Int); rw [arrV_size]; omega)
        (by rw [en, edp]; show ¬ _ > ((arrV E.2.1.1 m1 (fun j => .int (Int32.ofInt (g j)))).slots.size : Int); rw [arrV_size]; omega)
        (fun vm₁ _ i hi => by
          rw [cn] at hi
          have e : (vp_cell E.2.1.1 (m0, .inl (fun j => Int32.ofInt (f j)))).slots.getD ((Int32.ofInt sp).toNatClampNeg + i) .null = .int (Int32.ofInt (f ((Int32.ofInt sp).toNatClampNeg + i))) := by
            show (arrV E.2.1.1 m0 (fun j => .int (Int32.ofInt (f j)))).slots.getD _ _ = _
            rw [Array.getD_eq_getD_getElem?, arrV_read _ _ (by rw [csp]; omega)]
            rfl
          refine ⟨?_, ?_⟩
          · rw [e]; rfl
          · rw [e]; exact trivial)
        (g := F0 m pc ls (.int (Int32.ofInt n) :: .int (Int32.ofInt dp) :: .ref b :: .int (Int32.ofInt sp) :: .ref a :: st'.map cV)) rfl (by rw [hml]; exact hls.1) (rest := st'.map cV) rfl (by rw [hb]; exact hd) hR1 (by
          have := cat_le st'
          show 2 * 0 + _ + _ ≤ _; omega)
      have e1 : copied (vp_cell E.2.1.1 (m0, .inl (fun j => Int32.ofInt (f j)))) (vp_cell E.2.1.1 (m1, .inl (fun j => Int32.ofInt (g j)))) (Int32.ofInt sp) (Int32.ofInt dp) (Int32.ofInt n) = vp_cell E.2.1.1 (m1, .inl (fun j => Int32.ofInt (cpy f g sp.toNat dp.toNat n.toNat j))) := by
        rw [← cpy_va, ← csp, ← cdp, ← cn]
        exact va_copied (fun z => .int z) E.2.1.1 E.2.1.1 (fun j => Int32.ofInt (f j)) (fun j => Int32.ofInt (g j)) (by rw [csp, cn]; omega)
      rw [e1] at X' step
      generalize hcell : vp_cell E.2.1.1 (m1, .inl (fun j => Int32.ofInt (cpy f g sp.toNat dp.toNat n.toNat j))) = cell' at X' step
      have hl : b < H.size := (Array.getElem?_eq_some_iff.mp hc1).1
      have hheap : ((T.setVm vm').setCell b cell').heap = H.setIfInBounds b cell' := by rw [← hT]; rfl
      have hR' : mmR E s (hset h b (cArr 0 m1 (cpy f g sp.toNat dp.toNat n.toNat))) (H.setIfInBounds b cell') := mmR_set hR hcb (Or.inl rfl) (by simp) (fun q hq => by simp [Array.getElem?_setIfInBounds, Ne.symm hq]) (Or.inl rfl) (by
          show (H.setIfInBounds b cell')[b]? = some _
          rw [← hcell]
          simp [Array.getElem?_setIfInBounds, hl]) ⟨hwb.1, wf_cpy hwa.2 hwb.2⟩
      have k := fun (locs' : List Loc) (hl' : ∀ q ∈ locs', eB E ≤ q.base) => hs.2 hg wl (wfS_t (wfS_t (wfS_t (wfS_t (wfS_t ws))))) hn _ locs' ls hR' hl' hls
      obtain ⟨t, a1, b1⟩ := k _ (by
        intro q hq
        rcases List.mem_append.mp hq with hq | hq
        · exact hlo q hq
        · obtain ⟨z, -, hz⟩ := List.mem_map.mp hq
          rw [← hz]
          exact hbb) _ hheap X'
      exact ⟨t, step t a1, b1⟩
    · exact hs.elim
  · exact hs.elim
theorem z_cln (hx : p.tables.exec = Jvm.exec) (hb : c.code = cc) (hU : KU E s) (hml : c.maxLocals = nL) {own : String} {ix : Nat} (hown : s.vm.findClass own = some m.cls) (hlink : (Cond.methodLink own ix ⟨"[I", "clone", "()Ljava/lang/Object;"⟩).before args s = true) (hsame : (Cond.sameMethod "[I" "java/lang/Object" "clone" "()Ljava/lang/Object;").before args s = true)
    (hnat : (Cond.native ⟨"java/lang/Object", "clone", "()Ljava/lang/Object;"⟩).before args s = true) (hinst : (Cond.instanceMethod ⟨"java/lang/Object", "clone", "()Ljava/lang/Object;"⟩).before args s = true)
    (hsel : (Cond.selects "[I" ⟨"[I", "clone", "()Ljava/lang/Object;"⟩ ⟨"java/lang/Object", "clone", "()Ljava/lang/Object;"⟩).before args s = true) (hR1 : 1 ≤ R.frames) (hR2 : 32 ≤ R.locals) (hRm : hf.1 - h0.1 ≤ R.cells ∧ hf.2.1 - h0.2.1 ≤ R.slots) (hd : decode cc pc = .ok (.invokevirtual ix, 3)) (hs : s_cln E.2.2.2 C Q (mmW E p l e R s m args below meth c Qf hf h0 nL) (pc + 3) L st h) : mmX E p l e R s m args below meth c Qf h0 nL pc L st h := by
  intro hg wl ws hn H locs ls hR hlo hls
  unfold s_cln at hs; split at hs
  · rename_i a st'
    obtain ⟨h4, hs⟩ := hs
    unfold xCln at hs; split at hs
    · rename_i ty n f hc
      obtain ⟨rfl, ⟨b1, b2⟩, hbd, hs⟩ := hs
      obtain ⟨hRc, hwf⟩ := hR.2.2 a _ hc
      have hbd1 : h.1 + 1 ≤ hf.1 := hbd.1
      have hbd2 : h.2.1 + n ≤ hf.2.1 := hbd.2
      have hsz : H.size = E.2.2.2.1 + h.1 := hR.1
      obtain ⟨hba, hat⟩ := rc0 hRc
      have hnm : s.vm.findClass "[I" = some E.2.1.1 := (hU.1.2 0 (E.2.1.1, .int) rfl).2
      obtain ⟨c0, t0', f1, f2, f3⟩ := Cond.castable_spec (va_Nw.use (A := args) rfl (hU.2.2.2.2.2.2.1 ("[I", "java/lang/Cloneable") (by decide +kernel)))
      cases hnm.symm.trans f1
      intro T hT X
      obtain ⟨x0, hx0⟩ : ∃ x0 : vp_A, x0 = (n, .inl (fun j => Int32.ofInt (f j))) := ⟨_, rfl⟩
      have hcellE : ({ cls := (vp_cell E.2.1.1 x0).cls, slots := (vp_cell E.2.1.1 x0).slots } : Cell) = vp_cell E.2.1.1 x0 := by subst hx0; rfl
      have hszc : (vp_cell E.2.1.1 x0).slots.size = n := by subst hx0; exact arrV_size _ _ _
      have hvm0 : (vp_cell E.2.1.1 x0).vm = .none := by subst hx0; rfl
      have hcl0 : (vp_cell E.2.1.1 x0).cls = E.2.1.1 := by subst hx0; rfl
      have hcellT : T.heap[a]? = some (vp_cell E.2.1.1 x0) := by rw [hT, hx0]; exact hat
      obtain ⟨-, kA, hkA, comp, hkind⟩ := State.isArrayOf_alike X.warmed.alike ((ar_ty hU).1 0 (fun _ => .null))
      obtain ⟨-, kS, hkS, compS, hkindS⟩ := (ar_ty hU).1 0 (fun _ => .null)
      obtain ⟨vm', X', st2⟩ := X.cloneArray hx hown hlink hsame hnat hinst hsel (a := a) (cell := vp_cell E.2.1.1 x0) hcellT (fun k h => by rw [hvm0] at h; cases h) (by rw [hvm0]; exact fun h => by cases h) (by rw [hcl0]; exact hnm) f2 (by rw [hcl0]; exact f3)
        (fun i v hv => by
          rw [hcl0]
          have hk' : T.vm.classes[E.2.1.1]? = some kA := hkA
          have hfit : fits .int v = true := by
            rw [hx0] at hv
            have hi : i < n := by
              have := (Array.getElem?_eq_some_iff.mp hv).1
              rw [show (vp_cell E.2.1.1 (n, .inl (fun j => Int32.ofInt (f j)))).slots.size = n from arrV_size _ _ _] at this
              exact this
            rw [show (vp_cell E.2.1.1 (n, .inl (fun j => Int32.ofInt (f j)))).slots[i]? = some (.int (Int32.ofInt (f i))) from arrV_read _ _ hi] at hv
            cases hv; rfl
          simpa [State.fitsSlot, State.slotType?, hk', hkind] using hfit)
        (g := F0 m pc ls (.ref a :: st'.map cV)) rfl (by rw [hml]; exact hls.1) rfl (by rw [hb]; exact hd) hR1 (by
          have := cat_le st'
          show 2 * 0 + _ + 14 ≤ _; omega) (by omega) (by rw [hszc]; omega) (hloader := by rw [hcl0]; exact Vm.clonesLoader_of_array hkS hkindS)
      rw [hcellE, hszc] at X'
      generalize hH1 : H.push (vp_cell E.2.1.1 x0) = H1
      have z1 : H1.size = H.size + 1 := by rw [← hH1, Array.size_push]
      have q1 : H1[H.size]? = some (vp_cell E.2.1.1 x0) := by rw [← hH1, Array.getElem?_push_size]
      have o1 : ∀ q : Nat, q < H.size → H1[q]? = H[q]? := fun q hq => by rw [← hH1, Array.getElem?_push, if_neg (Nat.ne_of_lt hq)]
      have hR' : mmR E s (hnew h (E.2.2.2.1 + h.1) n (cArr 0 n f)) H1 := mmR_new hR z1 o1 (Or.inl rfl) (by rw [hx0] at q1; exact q1) hwf
      have k := hs (by constructor <;> simp only [hnew] <;> omega) wl (wfS_c (v := vR (E.2.2.2.1 + h.1)) trivial (wfS_t ws)) hn H1 locs ls hR' hlo hls
      have a1 : (hnew h (E.2.2.2.1 + h.1) n (cArr 0 n f)).1 - h0.1 = h.1 - h0.1 + 1 := by show h.1 + 1 - h0.1 = _; omega
      have a2 : (hnew h (E.2.2.2.1 + h.1) n (cArr 0 n f)).2.1 - h0.2.1 = h.2.1 - h0.2.1 + n := by show h.2.1 + n - h0.2.1 = _; omega
      rw [a1, a2] at k
      obtain ⟨t, r1, r2⟩ := k ((T.setVm vm').pushCell (vp_cell E.2.1.1 x0)) (by rw [← hH1, ← hT]; rfl) X'
      refine ⟨t, st2 t ?_, r2⟩
      rw [hcellE, hT, hsz]
      exact r1
    · exact hs.elim
  · exact hs.elim
end ZN
