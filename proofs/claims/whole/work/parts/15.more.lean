section ZM
variable {E : ME} {p : Program} {l : Launch} {e : Env} {R : Room} {s : State} {m : MethodId} {args : Array Value} {below : List Frame} {meth : Method} {c : Code} {Qf : State → Prop} {hf h0 : MH} {nL : Nat}
variable {cc : ByteArray} {pc nx : Nat} {L : Loc'} {st : List V} {h : MH} {C : KC} {Q : KQ}
theorem nw_of {w : Cond} (hw : w.onTables = true) (h : w.before args s = true) : va_Nw w s := va_any hw h
theorem z_cast (hx : p.tables.exec = Jvm.exec) (hb : c.code = cc) (hts : ∀ w ∈ mT, w.before args s = true) (hU : KU E s) {own nm : String} {ix w : Nat} (hown : s.vm.findClass own = some m.cls) (hlink : (Cond.classLink own ix nm).before args s = true) (hC : ∀ t, t < 14 → okSet w t = true → cN t = nm ∨ (cN t, nm) ∈ caT) (hd : decode cc pc = .ok (.checkcast ix, 3)) (hs : s_cast E.2.2.2 C Q (mmW E p l e R s m args below meth c Qf hf h0 nL) (pc + 3) w L st h) : mmX E p l e R s m args below meth c Qf h0 nL pc L st h := by
  intro hg wl ws hn H locs ls hR hlo hls
  unfold s_cast at hs; split at hs
  · rename_i a st'
    unfold xTag at hs; split at hs
    · rename_i t fs hc
      obtain ⟨hok, hs⟩ := hs
      have h14 : t < 14 := by
        rcases (hR.2.2 a _ hc).1 with ⟨⟨h1, -⟩, -⟩ | h1
        · exact h1
        · exact h1.elim
      have k := hs.2 hg wl (wfS_c (v := vR a) trivial (wfS_t ws)) hn H locs ls hR hlo hls
      have hr := recvC hU hR hc h14
      rcases hC t h14 hok with e1 | e1
      · rw [e1] at hr
        have hcl := (hU.1.1 t _ (mCl_get h14)).2
        rw [show (cN t, cT t, cL t).1 = nm from e1] at hcl
        exact va_castS hx hb hown hlink hcl hr hd k
      · exact va_castY hx hb hown hlink (hU.2.2.2.2.2.2.1 _ e1) hr hd k
    · exact hs.elim
  · exact hs.elim
theorem z_casta (hx : p.tables.exec = Jvm.exec) (hb : c.code = cc) (hU : KU E s) {own : String} {ix : Nat} (hown : s.vm.findClass own = some m.cls) (hlink : (Cond.classLink own ix "[I").before args s = true) (hd : decode cc pc = .ok (.checkcast ix, 3)) (hs : s_casta E.2.2.2 C Q (mmW E p l e R s m args below meth c Qf hf h0 nL) (pc + 3) L st h) : mmX E p l e R s m args below meth c Qf h0 nL pc L st h := by
  intro hg wl ws hn H locs ls hR hlo hls
  unfold s_casta at hs; split at hs
  · rename_i a st'
    unfold xRow at hs; split at hs
    · rename_i ty n f hc
      obtain ⟨rfl, hs⟩ := hs
      have k := hs.2 hg wl (wfS_c (v := vR a) trivial (wfS_t ws)) hn H locs ls hR hlo hls
      rcases (hR.2.2 a _ hc).1 with ⟨-, -, hat⟩ | h1
      · exact va_castA hx hb hown hlink (va_P1 hat) 0 rfl (hU.1.2 0 (E.2.1.1, .int) rfl).2 hd k
      · rcases h1 with ⟨h1, -⟩ | ⟨h1, -⟩ <;> omega
    · exact hs.elim
  · exact hs.elim
theorem aunt14 {t : Nat} (h : auntT t = true) : t < 14 := by
  simp only [auntT, Bool.or_eq_true, beq_iff_eq] at h
  omega
theorem z_inst (hx : p.tables.exec = Jvm.exec) (hb : c.code = cc) (hts : ∀ w ∈ mT, w.before args s = true) (hU : KU E s) {own nm : String} {ix w : Nat} (hown : s.vm.findClass own = some m.cls) (hlink : (Cond.classLink own ix nm).before args s = true) (hC : ∀ t, t < 14 → auntT t = true → (okSet w t = true → cN t = nm ∨ (cN t, nm) ∈ caT) ∧ (okSet w t = false → (cN t, nm) ∈ ncT)) (hd : decode cc pc = .ok (.instanceof ix, 3)) (hs : s_inst E.2.2.2 C Q (mmW E p l e R s m args below meth c Qf hf h0 nL) (pc + 3) w L st h) : mmX E p l e R s m args below meth c Qf h0 nL pc L st h := by
  intro hg wl ws hn H locs ls hR hlo hls
  unfold s_inst at hs; split at hs
  · rename_i a st'
    unfold xTag at hs; split at hs
    · rename_i t fs hc
      obtain ⟨hau, hs⟩ := hs
      have h14 := aunt14 hau
      have hr := recvC hU hR hc h14
      cases hok : okSet w t with
      | true =>
        rw [hok] at hs
        have k := hs.2 hg wl (wfS_c (v := vI 1) ⟨by decide, by decide⟩ (wfS_t ws)) hn H locs ls hR hlo hls
        rcases (hC t h14 hau).1 hok with e1 | e1
        · rw [e1] at hr
          have hcl := (hU.1.1 t _ (mCl_get h14)).2
          rw [show (cN t, cT t, cL t).1 = nm from e1] at hcl
          exact va_instS hx hb hown hlink hcl hr hd k
        · exact va_instY hx hb hown hlink (hU.2.2.2.2.2.2.1 _ e1) hr hd k
      | false =>
        rw [hok] at hs
        have k := hs.2 hg wl (wfS_c (v := vI 0) iR_0 (wfS_t ws)) hn H locs ls hR hlo hls
        exact va_instNo hx hb hown hlink (hU.2.2.2.2.2.1 _ ((hC t h14 hau).2 hok)) hr hd k
    · exact hs.elim
  · exact hs.elim
theorem cat_le : ∀ (st : List V), ((st.map cV).map fun v => v.category).sum ≤ 2 * st.length
  | [] => Nat.le_refl _
  | v :: l => by
    have ih := cat_le l
    have hv : (cV v).category ≤ 2 := by
      rcases v with x | x | r
      · exact Nat.le_succ 1
      · exact Nat.le_refl 2
      · cases r <;> exact Nat.le_succ 1
    simp only [List.map_cons, List.sum_cons, List.length_cons]
    omega
theorem z_oini (hx : p.tables.exec = Jvm.exec) (hb : c.code = cc) {own : String} {ix : Nat} (hown : s.vm.findClass own = some m.cls) (hlink : (Cond.methodLink own ix Lib.objectInit).before args s = true) (hinst : (Cond.instanceMethod Lib.objectInit).before args s = true) (hcode : (Cond.code Lib.objectInit ⟨#[0xb1]⟩ 1 none).before args s = true) (hml : c.maxLocals = nL) (hR1 : 1 ≤ R.frames) (hR2 : 20 ≤ R.locals) (hd : decode cc pc = .ok (.invokespecial ix, 3)) (hs : s_oini E.2.2.2 C Q (mmW E p l e R s m args below meth c Qf hf h0 nL) (pc + 3) L st h) : mmX E p l e R s m args below meth c Qf h0 nL pc L st h := by
  intro hg wl ws hn H locs ls hR hlo hls
  unfold s_oini at hs; split at hs
  · rename_i a st'
    obtain ⟨h4, hs⟩ := hs
    have k := hs.2 hg wl (wfS_t ws) hn H locs ls hR hlo hls
    refine W.objInit hx hb hown hlink hinst hcode rfl (by rw [hml]; exact hls.1) rfl hd hR1 ?_ k
    have := cat_le st'
    show 2 * 0 + _ + 12 ≤ _
    omega
  · exact hs.elim
theorem z_ldcs (hx : p.tables.exec = Jvm.exec) (hb : c.code = cc) (hU : KU E s) {own tx : String} {ix k : Nat} (hown : s.vm.findClass own = some m.cls) (hin : (own, ix, tx, k) ∈ strT) (hd : decode cc pc = .ok (.ldc ix, 2)) (hs : s_gref E.2.2.2 C Q (mmW E p l e R s m args below meth c Qf hf h0 nL) (pc + 2) k L st h) : mmX E p l e R s m args below meth c Qf h0 nL pc L st h := by
  intro hg wl ws hn H locs ls hR hlo hls
  have k2 := hs.2 hg wl (wfS_c (v := vR (E.2.2.2.2.1 k)) trivial ws) hn H locs ls hR hlo hls
  exact va_ldcS hx hb hown (hU.2.2.2.2.1 _ hin) hd k2
theorem z_gst (hx : p.tables.exec = Jvm.exec) (hb : c.code = cc) {own nm d : String} {ix : Nat} {v : V} (hZ : va_Z own nm d (cV v) (eA E) s E.2.2.1) (hwv : wfV v) (hown : s.vm.findClass own = some m.cls) (hlink : (Cond.fieldLink own ix own nm d).before args s = true) (hd : decode cc pc = .ok (.getstatic ix, 3)) (hs : mmX E p l e R s m args below meth c Qf h0 nL (pc + 3) L (v :: st) h) : mmX E p l e R s m args below meth c Qf h0 nL pc L st h := by
  intro hg wl ws hn H locs ls hR hlo hls
  have k2 := hs hg wl (wfS_c hwv ws) hn H locs ls hR hlo hls
  obtain ⟨cf, kf, fi, f, a, cell, h1, h2, h3, h4, h5, h6, h7, h8⟩ := hZ
  exact W.gets hx hb hown hlink h1 h2 h3 h4 (by rw [hR.2.1 a (Nat.not_le.mp h8)]; exact h5) (fun e => by rw [e] at h6; cases h6) h7 rfl hd k2
theorem z_gstG (hx : p.tables.exec = Jvm.exec) (hb : c.code = cc) {own nm d ref : String} {ix : Nat} {v : V} (hZ : va_Z ref nm d (cV v) (eA E) s E.2.2.1) (hwv : wfV v) (hown : s.vm.findClass own = some m.cls) (hlink : (Cond.fieldLink own ix ref nm d).before args s = true) (hd : decode cc pc = .ok (.getstatic ix, 3)) (hs : mmX E p l e R s m args below meth c Qf h0 nL (pc + 3) L (v :: st) h) : mmX E p l e R s m args below meth c Qf h0 nL pc L st h := by
  intro hg wl ws hn H locs ls hR hlo hls
  have k2 := hs hg wl (wfS_c hwv ws) hn H locs ls hR hlo hls
  obtain ⟨cf, kf, fi, f, a, cell, h1, h2, h3, h4, h5, h6, h7, h8⟩ := hZ
  exact W.gets hx hb hown hlink h1 h2 h3 h4 (by rw [hR.2.1 a (Nat.not_le.mp h8)]; exact h5) (fun e => by rw [e] at h6; cases h6) h7 rfl hd k2
/-- a method's end -/
def QcD (E : ME) (r : Option V) (hf : MH) : Array Value → State → Outcome → State → Prop := fun _ _ o t => o = .returned (r.map cV) ∧ mmR E t hf t.heap ∧ ∀ v, r = some v → wfV v
abbrev QfD (E : ME) (below : List Frame) (args : Array Value) (s : State) (r : Option V) (hf h0 : MH) : State → Prop := MQ below (QcD E r hf) args s (hf.1 - h0.1) (hf.2.1 - h0.2.1) (fun q => eB E ≤ q)
theorem z_iret {r : Option V} {ty : Nat} {rt : FieldType} (hx : p.tables.exec = Jvm.exec) (hb : c.code = cc) (hr : meth.sig.returnType = some rt) (hrt : (ty = 0 ∧ rt = .int) ∨ (ty = 1 ∧ rt = .boolean) ∨ (ty = 2 ∧ rt = .char) ∨ (ty = 3 ∧ rt = .byte)) (hlocks : meth.locks = false) (hd : decode cc pc = .ok (.ireturn, 1)) {P : KP} (hs : s_iret E.2.2.2 C (qEq r hf) P nx ty L st h) : mmX E p l e R s m args below meth c (QfD E below args s r hf h0) h0 nL pc L st h := by
  intro hg wl ws hn H locs ls hR hlo hls
  unfold s_iret at hs; split at hs
  · rename_i x
    obtain ⟨hfit, hr1, rfl⟩ := hs
    have wx : iR x := wfS_h ws
    have hq : ∀ t : State, t.heap = H → s.WarmedH t.vm → QcD E r h args s (.returned (some (.int (Int32.ofInt x)))) t := fun t ht hW => ⟨by rw [← hr1]; rfl, by rw [ht]; exact mmR_moved hW.alike hR, fun v hv => by rw [← hr1] at hv; cases hv; exact wx⟩
    have nar : narrow rt (.int (Int32.ofInt x)) = .int (Int32.ofInt x) := by
      rcases hrt with ⟨-, rfl⟩ | ⟨rfl, rfl⟩ | ⟨rfl, rfl⟩ | ⟨rfl, rfl⟩
      · rfl
      · rcases hfit with rfl | rfl <;> rfl
      · obtain ⟨f1, f2⟩ := hfit
        have e1 : Int32.ofInt x = nI x.toNat := by rw [show x = ((x.toNat : Nat) : Int) by omega, i32nat]; rfl
        rw [e1]
        exact (pk_charN (by omega)).1
      · obtain ⟨f1, f2⟩ := hfit
        show Value.int ((Int32.ofInt x).toInt8.toInt32) = _
        congr 1
        apply Int32.toInt_inj.mp
        rw [Int8.toInt_toInt32, Int32.toInt_toInt8, i32i wx]
        exact Int.bmod_eq_of_le (by omega) (by omega)
    exact W.zret hx hb hr nar hq hlo hd
  · exact hs.elim
theorem z_lret {r : Option V} (hx : p.tables.exec = Jvm.exec) (hb : c.code = cc) (hr : meth.sig.returnType = some .long) (hlocks : meth.locks = false) (hd : decode cc pc = .ok (.lreturn, 1)) {P : KP} (hs : s_lret E.2.2.2 C (qEq r hf) P nx L st h) : mmX E p l e R s m args below meth c (QfD E below args s r hf h0) h0 nL pc L st h := by
  intro hg wl ws hn H locs ls hR hlo hls
  unfold s_lret at hs; split at hs
  · rename_i x
    obtain ⟨hr1, rfl⟩ := hs
    exact W.lret hx hb hr (fun t ht hW => ⟨by rw [← hr1]; rfl, by rw [ht]; exact mmR_moved hW.alike hR, fun v hv => by rw [← hr1] at hv; cases hv; exact wfS_h ws⟩) hlo hd
  · exact hs.elim
theorem z_aret {r : Option V} {rt : FieldType} (hx : p.tables.exec = Jvm.exec) (hb : c.code = cc) (hr : meth.sig.returnType = some rt) (hrt : (∃ n, rt = .object n) ∨ ∃ t, rt = .array t) (hlocks : meth.locks = false) (hd : decode cc pc = .ok (.areturn, 1)) {P : KP} (hs : s_aret E.2.2.2 C (qEq r hf) P nx L st h) : mmX E p l e R s m args below meth c (QfD E below args s r hf h0) h0 nL pc L st h := by
  intro hg wl ws hn H locs ls hR hlo hls
  unfold s_aret at hs; split at hs
  · rename_i x
    obtain ⟨hr1, rfl⟩ := hs
    refine W.aret (v := cV (vO x)) hx hb hr hrt (by cases x with
      | none => exact Or.inl rfl
      | some a => exact Or.inr ⟨a, rfl⟩) (fun t ht hW => ⟨by rw [← hr1]; rfl, by rw [ht]; exact mmR_moved hW.alike hR, fun v hv => by rw [← hr1] at hv; cases hv; trivial⟩) hlo hd
  · exact hs.elim
theorem z_vret {r : Option V} (hx : p.tables.exec = Jvm.exec) (hb : c.code = cc) (hr : meth.sig.returnType = none) (hlocks : meth.locks = false) (hd : decode cc pc = .ok (.return_, 1)) {P : KP} (hs : s_vret E.2.2.2 C (qEq r hf) P nx L st h) : mmX E p l e R s m args below meth c (QfD E below args s r hf h0) h0 nL pc L st h := by
  intro hg wl ws hn H locs ls hR hlo hls
  unfold s_vret at hs; split at hs
  · obtain ⟨hr1, rfl⟩ := hs
    exact W.vret hx hb hr (fun t ht hW => ⟨by rw [← hr1]; rfl, by rw [ht]; exact mmR_moved hW.alike hR, fun v hv => by rw [← hr1] at hv; cases hv⟩) hlo hd
  · exact hs.elim
end ZM
