/-! every method meets its contract -/
theorem Met_ofF {l : Launch} {y : MethodName} {ws ws' : List Cond} {rm : Room} {Pc : Array Value → State → Prop} {Qc : Array Value → State → Outcome → State → Prop} {mc ms : Nat} {free : Addr → Prop} {cc : ByteArray} {maxL : Nat} {ret : Option FieldType}
    (hy : plainFor y = true) (hw : ws = Cond.code y cc maxL ret :: ws')
    (body : ∀ p e s m args below meth c s₁, BodyLoose p l y (headSpec ws rm) cc maxL ret e s m args below meth c s₁ → c.maxLocals = maxL → Pc args s →
      W p l e (headSpec ws rm).room s m args below meth c s.heap [] 0 0 (MQ below Qc args s mc ms free) (entryFrame m args maxL)) : Met l y ws rm Pc Qc mc ms free := by
  refine MetFree.of_bodySF (code := cc) (maxLocals := maxL) (ret := ret) hy ?_ ?_
  · intro args s m h hn
    obtain ⟨meth, c, h1, h2, h3, h4, h5, h6, -, -⟩ := Cond.code_spec hn (atoms_spec (ws := ws) h _ (by rw [hw]; exact List.mem_cons_self))
    exact ⟨meth, c, h1, h2, h3, h4, h5, h6⟩
  · intro p e s m args below meth c s₁ B hml hP _
    have hh0 : s₁.heap = s.heap := by rw [B.state]; rfl
    obtain ⟨t, a1, o, b1, b2, b3⟩ := body p e s m args below meth c s₁ B hml hP s₁ hh0 (Stand.of_body B)
    exact ⟨t, o, a1, b1, b2, ⟨b3.1, b3.2⟩⟩
theorem entL_len : ∀ (a : List V), (lg_sl (a.map cV)).length = (entL a).length
  | [] => rfl
  | v :: l => by
    have ih := entL_len l
    unfold lg_sl at ih ⊢
    rw [List.map_cons, List.flatMap_cons, List.length_append, ih]
    rcases v with x | x | r
    · show 1 + _ = (entL l).length + 1; omega
    · show 2 + _ = (entL l).length + 1 + 1; omega
    · cases r <;> (show 1 + _ = (entL l).length + 1; omega)
theorem ent_args : ∀ (a : List V) (k i : Nat) (q : Nat × Value), q ∈ lasc (entL a ++ List.replicate k none) i → q ∈ lv_args i (a.map cV)
  | [], k, i, q, h => by
    obtain ⟨j, v, h1, -⟩ := mem_lasc.mp h
    rw [show entL ([] : List V) = [] from rfl, List.nil_append, List.getElem?_replicate] at h1
    split at h1 <;> cases h1
  | v :: l, k, i, q, h => by
    rcases v with x | x | r
    · rw [show entL (Sum.inl x :: l) = some (vI x) :: entL l from rfl, List.cons_append, lasc, List.mem_cons] at h
      rw [List.map_cons, lv_args, List.mem_cons]
      rcases h with h | h
      · exact Or.inl h
      · exact Or.inr (ent_args l k (i + 1) q h)
    · rw [show entL (Sum.inr (Sum.inl x) :: l) = some (vL x) :: none :: entL l from rfl, List.cons_append, List.cons_append, lasc, lasc, List.mem_cons] at h
      rw [List.map_cons, lv_args, List.mem_cons]
      rcases h with h | h
      · exact Or.inl h
      · exact Or.inr (ent_args l k (i + 2) q h)
    · rw [show entL (Sum.inr (Sum.inr r) :: l) = some (vO r) :: entL l from rfl, List.cons_append, lasc, List.mem_cons] at h
      rw [List.map_cons, lv_args, List.mem_cons]
      rcases h with h | h
      · exact Or.inl h
      · right
        have e : (cV (Sum.inr (Sum.inr r))).category = 1 := by cases r <;> rfl
        rw [e]
        exact ent_args l k (i + 1) q h
theorem ent_wf : ∀ (a : List V) (k : Nat), wfS a → wfL (entL a ++ List.replicate k none)
  | [], k, _ => by
    intro i v h
    rw [show entL ([] : List V) = [] from rfl, List.nil_append, List.getElem?_replicate] at h
    split at h <;> cases h
  | w :: l, k, ha => by
    have ih := ent_wf l k (wfS_t ha)
    intro i v h
    rcases w with x | x | r
    · rw [show entL (Sum.inl x :: l) = some (vI x) :: entL l from rfl, List.cons_append] at h
      cases i with
      | zero => cases h; exact wfS_h ha
      | succ i => exact ih i v (by simpa using h)
    · rw [show entL (Sum.inr (Sum.inl x) :: l) = some (vL x) :: none :: entL l from rfl, List.cons_append, List.cons_append] at h
      cases i with
      | zero => cases h; exact wfS_h ha
      | succ i =>
        cases i with
        | zero => cases h
        | succ i => exact ih i v (by simpa using h)
    · rw [show entL (Sum.inr (Sum.inr r) :: l) = some (vO r) :: entL l from rfl, List.cons_append] at h
      cases i with
      | zero => cases h; trivial
      | succ i => exact ih i v (by simpa using h)
theorem nf100 : nativeFrameWords "java/lang/System" "arraycopy" 5 ≤ 100 := by decide +kernel
section SND
variable {E : ME} {p : Program} {l : Launch} {e : Env} {R : Room} {s : State} {m : MethodId} {args : Array Value} {below : List Frame} {meth : Method} {c : Code}
/-- the closure: all that the small machine can do in method y -/
theorem clo_all {d y : Nat} {r : Option V} {hf h0 : MH} (hI : inM E p s m args meth c y) (hSnd : Snd E l d) (hR1 : d + 2 ≤ R.frames) (hR2 : 64 * d + 192 ≤ R.locals) (hR3 : hf.1 - h0.1 ≤ R.cells ∧ hf.2.1 - h0.2.1 ≤ R.slots) {Qf : State → Prop}
    (hQ : ∀ {pc nx : Nat} {i : Instr} {v : Int} {o : List Nat} {L : Loc'} {st : List V} {h : MH}, cd y pc = some (nx, i, v, o) → (i = .ireturn ∨ i = .lreturn ∨ i = .areturn ∨ i = .return_) → stp E.2.2.2 (wpC E.2.2.2 d) (qEq r hf) (mmW E p l e R s m args below meth c Qf hf h0 (ml y)) pc (some (nx, i, v, o)) L st h → mmX E p l e R s m args below meth c Qf h0 (ml y) pc L st h) {pc : Nat} {L : Loc'} {st : List V} {h : MH}
    (hw : wpS E.2.2.2 (wpC E.2.2.2 d) y (qEq r hf) pc L st h) : mmW E p l e R s m args below meth c Qf hf h0 (ml y) pc L st h := by
  refine hw (mmW E p l e R s m args below meth c Qf hf h0 (ml y)) ?_
  intro pc L st h hst
  refine ⟨?_, ?_⟩
  · rcases stp_lin hst with ⟨r1, ⟨-, e2⟩, -⟩ | ⟨pc', L', st', h2, hp, hb, -⟩ | ⟨y', a, nx, L', rest, hc, -⟩
    · subst e2; exact b_rf
    · exact ⟨Nat.le_trans hb.1 hp.1.1, Nat.le_trans hb.2 hp.1.2⟩
    · obtain ⟨r1, h1, hp, hb, -⟩ := wpC_ex d _ _ _ _ hc
      exact ⟨Nat.le_trans hb.1 hp.1.1, Nat.le_trans hb.2 hp.1.2⟩
  · cases hcd : cd y pc with
    | none => rw [hcd] at hst; exact hst.elim
    | some q =>
      obtain ⟨nx, ins, v, o⟩ := q
      rw [hcd] at hst
      exact clo hI hSnd hR1 hR2 hR3 nf100 rfl (fun i v o h1 h2 h3 => hQ h1 h2 h3) hcd hst
theorem ret_all {d y : Nat} {r : Option V} {hf h0 : MH} (hI : inM E p s m args meth c y) {pc nx : Nat} {i : Instr} {v : Int} {o : List Nat} {L : Loc'} {st : List V} {h : MH} {P : KP} (hcd : cd y pc = some (nx, i, v, o)) (hi : i = .ireturn ∨ i = .lreturn ∨ i = .areturn ∨ i = .return_)
    (hs : stp E.2.2.2 (wpC E.2.2.2 d) (qEq r hf) P pc (some (nx, i, v, o)) L st h) : mmX E p l e R s m args below meth c (QfD E below args s r hf h0) h0 (ml y) pc L st h := by
  obtain ⟨hx, hb, hrt, hml, hown, hts, hlocks, hU, hnm⟩ := hI
  obtain ⟨hd, -, hc⟩ := ck_all hcd
  rcases hi with rfl | rfl | rfl | rfl
  · simp only [ckI, Bool.or_eq_true, Bool.and_eq_true, decide_eq_true_eq] at hc
    rcases hc with ((⟨h1, h2⟩ | ⟨h1, h2⟩) | ⟨h1, h2⟩) | ⟨h1, h2⟩
    · exact z_iret (P := P) (C := wpC E.2.2.2 d) (nx := nx) hx hb (hrt.trans h2) (Or.inl ⟨h1, rfl⟩) hlocks hd hs
    · exact z_iret (P := P) (C := wpC E.2.2.2 d) (nx := nx) hx hb (hrt.trans h2) (Or.inr (Or.inl ⟨h1, rfl⟩)) hlocks hd hs
    · exact z_iret (P := P) (C := wpC E.2.2.2 d) (nx := nx) hx hb (hrt.trans h2) (Or.inr (Or.inr (Or.inl ⟨h1, rfl⟩))) hlocks hd hs
    · exact z_iret (P := P) (C := wpC E.2.2.2 d) (nx := nx) hx hb (hrt.trans h2) (Or.inr (Or.inr (Or.inr ⟨h1, rfl⟩))) hlocks hd hs
  · exact z_lret (P := P) (C := wpC E.2.2.2 d) (nx := nx) hx hb (hrt.trans (of_decide_eq_true hc)) hlocks hd hs
  · simp only [ckI] at hc
    split at hc
    · rename_i n hm; exact z_aret (P := P) (C := wpC E.2.2.2 d) (nx := nx) hx hb (hrt.trans hm) (Or.inl ⟨n, rfl⟩) hlocks hd hs
    · rename_i n hm; exact z_aret (P := P) (C := wpC E.2.2.2 d) (nx := nx) hx hb (hrt.trans hm) (Or.inr ⟨n, rfl⟩) hlocks hd hs
    · cases hc
  · exact z_vret (P := P) (C := wpC E.2.2.2 d) (nx := nx) hx hb (hrt.trans (of_decide_eq_true hc)) hlocks hd hs
theorem snd_all (E : ME) (l : Launch) : ∀ d, Snd E l d
  | 0 => fun _ _ _ _ _ _ _ z => z.elim
  | d + 1 => by
    intro y a h r hf hy hl hw ha
    obtain ⟨hlen, hw⟩ := hw
    obtain ⟨m1, m2, m3, m4, m5, m6, m7⟩ := ckM_of hy hl
    refine Met_ofF m5 rfl ?_
    intro p e s m args below meth c s₁ B hml hv
    obtain ⟨rfl, hU, hR⟩ := hv
    have hts0 := atoms_spec (ws := wsOf y) B.pre
    have hI : inM E p s m (a.map cV).toArray meth c y := ⟨B.exec, B.bytes, B.returns, hml, findClass_of_methodNamed B.named, fun w hw => hts0 w (List.mem_cons_of_mem _ hw), B.notSynchronized, hU, fun q => (name_of_methodNamed B.named B.method).1.trans q⟩
    have key := clo_all (l := l) (e := e) (R := rmD (d + 1) h hf) (below := below) (h0 := h) (Qf := QfD E below (a.map cV).toArray s r hf h) hI (snd_all E l d) (by show d + 2 ≤ d + 1 + 1; omega) (by show 64 * d + 192 ≤ 64 * (d + 1) + 128; omega) ⟨Nat.le_refl _, Nat.le_refl _⟩ (fun h1 h2 h3 => ret_all hI h1 h2 h3) hw
    have hl0 := lv_entry (a.map cV) (n := ml y) (by rw [entL_len]; exact hlen)
    rw [lg_entry_eq]
    generalize (lg_sl (a.map cV) ++ List.replicate (ml y - (lg_sl (a.map cV)).length) Slot.unset).toArray = ls at hl0 ⊢
    have hl1 : lv_has ls (ml y) (lasc (entA y a) 0) := ⟨hl0.1, hl0.2.1, fun q hq => hl0.2.2 q (ent_args a _ 0 q hq)⟩
    have k := key.2 b_rf (ent_wf a _ ha) (fun v hv => absurd hv List.not_mem_nil) (by unfold entA ml; rw [List.length_append, List.length_replicate]; omega) s.heap [] ls hR (fun q hq => absurd hq List.not_mem_nil) hl1
    rw [Nat.sub_self, Nat.sub_self] at k
    exact k
end SND
