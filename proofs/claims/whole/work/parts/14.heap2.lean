def ckObj (t : Nat) : Bool := decide ((cN t, "java/lang/Object") ∈ caT)
theorem g_obj0 : (List.range 14).all ckObj = true := by decide +kernel
theorem g_obj {t : Nat} (ht : t < 14) : (cN t, "java/lang/Object") ∈ caT := of_decide_eq_true (List.all_eq_true.mp g_obj0 t (List.mem_range.mpr ht))
def ckNew (t : Nat) : Bool := decide (Cond.instantiable (cN t) (cL t) ∈ mT) && decide (Cond.initialized (cN t) ∈ mT) && decide ((defs t).map cV = (List.range (cL t)).map (fun k => defaultValue (tyOf t k)))
theorem g_new0 : (List.range 14).all ckNew = true := by decide +kernel
theorem g_new {t : Nat} (ht : t < 14) : Cond.instantiable (cN t) (cL t) ∈ mT ∧ Cond.initialized (cN t) ∈ mT ∧ (defs t).map cV = (List.range (cL t)).map (fun k => defaultValue (tyOf t k)) := by
  have h := List.all_eq_true.mp g_new0 t (List.mem_range.mpr ht)
  unfold ckNew at h
  simp only [Bool.and_eq_true, decide_eq_true_eq] at h
  exact ⟨h.1.1, h.1.2, h.2⟩
theorem defs_in (t : Nat) : ∀ v ∈ defs t, v = vI 0 ∨ v = vN := by
  unfold defs
  split <;> decide
theorem defs_wf (t : Nat) : ∀ v ∈ defs t, wfV v := by
  intro v hv
  rcases defs_in t v hv with rfl | rfl
  · exact iR_0
  · exact trivial
section ZK
variable {E : ME} {p : Program} {l : Launch} {e : Env} {R : Room} {s : State} {m : MethodId} {args : Array Value} {below : List Frame} {meth : Method} {c : Code} {Qf : State → Prop} {hf h0 : MH} {nL : Nat}
variable {cc : ByteArray} {pc nx : Nat} {L : Loc'} {st : List V} {h : MH} {C : KC} {Q : KQ}
theorem wf_up {f : Nat → Int} {k : Nat} {x : Int} (h : ∀ j, iR (f j)) (hx : iR x) : ∀ j, iR (up1 f k x j) := by
  intro j; unfold up1; split
  · exact hx
  · exact h j
theorem updV_up {f : Nat → Int} {k : Nat} {x : Int} : updV (fun j => Value.int (Int32.ofInt (f j))) k (.int (Int32.ofInt x)) = (fun j => Value.int (Int32.ofInt (up1 f k x j))) := by
  funext q
  by_cases hq : q = k
  · subst hq; simp [updV, up1]
  · simp [updV, up1, hq]
theorem updV_upr {f : Nat → Option Nat} {k : Nat} {r : Option Nat} : updV (fun j => va_rf (f j)) k (va_rf r) = (fun j => va_rf (up1 f k r j)) := by
  funext q
  by_cases hq : q = k
  · subst hq; simp [updV, up1]
  · simp [updV, up1, hq]
theorem z_iast (hx : p.tables.exec = Jvm.exec) (hb : c.code = cc) (hU : KU E s) (hd : decode cc pc = .ok (.iastore, 1)) (hs : s_iast E.2.2.2 C Q (mmW E p l e R s m args below meth c Qf hf h0 nL) (pc + 1) L st h) : mmX E p l e R s m args below meth c Qf h0 nL pc L st h := by
  intro hg wl ws hn H locs ls hR hlo hls
  unfold s_iast at hs; split at hs
  · rename_i x i a st'
    unfold xAst at hs; split at hs
    · rename_i ty n f hc
      obtain ⟨rfl, g0, g1, hs⟩ := hs
      obtain ⟨hRc, hwf⟩ := hR.2.2 a _ hc
      rcases hRc with ⟨-, hba, hat⟩ | hro
      · refine W.iast (j := Int32.ofInt i) (x := Int32.ofInt x) hx hb hat ((ar_ty hU).1 n _) (fun q => by cases q) ?_ rfl rfl hd (fun H' e1 e2 e3 => ?_)
        · show ¬ (_ ∨ (arrV _ _ _).slots.size ≤ _)
          rw [arrV_size]; exact i32in (wfS_h (wfS_t ws)) g0 g1
        · rw [i32cl (wfS_h (wfS_t ws)) g0] at e1 ⊢
          rw [show vp_cell E.2.1.1 (n, .inl (fun j => Int32.ofInt (f j))) = arrV E.2.1.1 n (fun j => .int (Int32.ofInt (f j))) from rfl, arrV_store, updV_up] at e1
          have hR' : mmR E s (hset h a (cArr 0 n (up1 f i.toNat x))) H' := mmR_set hR hc (Or.inl rfl) e2 e3 (Or.inl rfl) e1 ⟨hwf.1, wf_up hwf.2 (wfS_h ws)⟩
          exact hs.2 hg wl (wfS_t (wfS_t (wfS_t ws))) hn H' _ ls hR' (fun q hq => by
            rcases List.mem_append.mp hq with hq | hq
            · exact hlo q hq
            · rw [List.mem_singleton.mp hq]; exact hba) hls
      · rcases hro with ⟨h1, -⟩ | ⟨h1, -⟩ <;> omega
    · exact hs.elim
  · exact hs.elim
theorem z_bast (hx : p.tables.exec = Jvm.exec) (hb : c.code = cc) (hU : KU E s) (hd : decode cc pc = .ok (.bastore, 1)) (hs : s_bast E.2.2.2 C Q (mmW E p l e R s m args below meth c Qf hf h0 nL) (pc + 1) L st h) : mmX E p l e R s m args below meth c Qf h0 nL pc L st h := by
  intro hg wl ws hn H locs ls hR hlo hls
  unfold s_bast at hs; split at hs
  · rename_i x i a st'
    obtain ⟨hx01, hs⟩ := hs
    unfold xAst at hs; split at hs
    · rename_i ty n f hc
      obtain ⟨rfl, g0, g1, hs⟩ := hs
      obtain ⟨hRc, hwf⟩ := hR.2.2 a _ hc
      rcases hRc with ⟨-, hba, hat⟩ | hro
      · refine W.zast (j := Int32.ofInt i) (x := Int32.ofInt x) hx hb hat ((ar_ty hU).2.1 n _) (fun q => by cases q) ?_ rfl rfl hd (fun H' e1 e2 e3 => ?_)
        · show ¬ (_ ∨ (arrV _ _ _).slots.size ≤ _)
          rw [arrV_size]; exact i32in (wfS_h (wfS_t ws)) g0 g1
        · rw [i32cl (wfS_h (wfS_t ws)) g0] at e1 ⊢
          rw [show narrow .boolean (.int (Int32.ofInt x)) = .int (Int32.ofInt x) by rcases hx01 with rfl | rfl <;> rfl] at e1
          rw [show vp_cell E.2.1.2.1 (n, .inl (fun j => Int32.ofInt (f j))) = arrV E.2.1.2.1 n (fun j => .int (Int32.ofInt (f j))) from rfl, arrV_store, updV_up] at e1
          have hR' : mmR E s (hset h a (cArr 1 n (up1 f i.toNat x))) H' := mmR_set hR hc (Or.inr rfl) e2 e3 (Or.inr rfl) e1 ⟨hwf.1, wf_up hwf.2 (wfS_h ws)⟩
          exact hs.2 hg wl (wfS_t (wfS_t (wfS_t ws))) hn H' _ ls hR' (fun q hq => by
            rcases List.mem_append.mp hq with hq | hq
            · exact hlo q hq
            · rw [List.mem_singleton.mp hq]; exact hba) hls
      · rcases hro with ⟨h1, -⟩ | ⟨h1, -⟩ <;> omega
    · exact hs.elim
  · exact hs.elim
theorem recvC {E : ME} {s : State} (hU : KU E s) {h : MH} {H : Heap} (hR : mmR E s h H) {a t : Nat} {fs : List V} (hc : h.2.2 a = some (cObj t fs)) (h14 : t < 14) : ∃ cell : Cell, H[a]? = some cell ∧ cell.vm.isStatics = false ∧ s.vm.findClass (cN t) = some cell.cls := by
  rcases (hR.2.2 a _ hc).1 with ⟨-, -, hat⟩ | h1
  · exact va_recv (q0 := 0) (fs := fs.map cV) hU.1 (va_P1 hat) (mCl_get h14) rfl
  · exact h1.elim
theorem z_aast (hx : p.tables.exec = Jvm.exec) (hb : c.code = cc) (hts : ∀ w ∈ mT, w.before args s = true) (hU : KU E s) (hd : decode cc pc = .ok (.aastore, 1)) (hs : s_aast E.2.2.2 C Q (mmW E p l e R s m args below meth c Qf hf h0 nL) (pc + 1) L st h) : mmX E p l e R s m args below meth c Qf h0 nL pc L st h := by
  intro hg wl ws hn H locs ls hR hlo hls
  unfold s_aast at hs; split at hs
  · rename_i r i a st'
    obtain ⟨hO, hs⟩ := hs
    unfold xRst at hs; split at hs
    · rename_i ty n f hc
      obtain ⟨rfl, g0, g1, hs⟩ := hs
      obtain ⟨hRc, hwf⟩ := hR.2.2 a _ hc
      rcases hRc with ⟨-, hba, hat⟩ | hro
      · have hin : ¬ (Int32.ofInt i < 0 ∨ n ≤ (Int32.ofInt i).toNatClampNeg) := i32in (wfS_h (wfS_t ws)) g0 g1
        have fin : ∀ H' : Heap, H'[a]? = some ((vp_cell E.2.1.2.2 (n, .inr (.inr (.inr (.inr f))))).setSlot (Int32.ofInt i).toNatClampNeg (va_rf r)) → H'.size = H.size → (∀ q, q ≠ a → H'[q]? = H[q]?) → W p l e R s m args below meth c H' (locs ++ [⟨a, (Int32.ofInt i).toNatClampNeg⟩]) (h.1 - h0.1) (h.2.1 - h0.2.1) Qf (F0 m (pc + 1) ls (st'.map cV)) := by
          intro H' e1 e2 e3
          rw [i32cl (wfS_h (wfS_t ws)) g0] at e1 ⊢
          rw [show vp_cell E.2.1.2.2 (n, .inr (.inr (.inr (.inr f)))) = arrV E.2.1.2.2 n (fun j => va_rf (f j)) from rfl, arrV_store, updV_upr] at e1
          have hR' : mmR E s (hset h a (cRef 0 n (up1 f i.toNat r))) H' := mmR_set hR hc rfl e2 e3 rfl e1 hwf
          exact hs.2 hg wl (wfS_t (wfS_t (wfS_t ws))) hn H' _ ls hR' (fun q hq => by
            rcases List.mem_append.mp hq with hq | hq
            · exact hlo q hq
            · rw [List.mem_singleton.mp hq]; exact hba) hls
        cases r with
        | none =>
          exact va_WaastN (C := "java/lang/Object") (j := Int32.ofInt i) hx hb hat ((ar_ty hU).2.2 n (fun j => va_rf (f j))) (fun h => by cases h) (by show ¬ (_ ∨ (arrV _ _ _).slots.size ≤ _); rw [arrV_size]; exact hin) rfl rfl hd fin
        | some v =>
          have hO2 : xTag (h.2.2 v) (fun t => t < 14) := hO
          unfold xTag at hO2
          split at hO2
          · rename_i t fs hcv
            obtain ⟨cellV, c1, c2, c3⟩ := recvC hU hR hcv hO2
            obtain ⟨kC, hkC, -⟩ := Vm.findClass_spec c3
            obtain ⟨kA, comp, k1, k2, k3, -⟩ := (hU.1.2 2 (E.2.1.2.2, oA) rfl).2
            obtain ⟨kE, hkE, -⟩ := Vm.findClass_spec k3
            obtain ⟨c0, t0', f1, f2, f3⟩ := Cond.castable_spec (va_Nw.use (A := args) rfl (hU.2.2.2.2.2.2.1 _ (g_obj hO2)))
            cases c3.symm.trans f1
            cases k3.symm.trans f2
            exact W.aast (j := Int32.ofInt i) hx hb hat (fun q h => by cases h) (fun h => by cases h) k1 k2 rfl hkE ⟨fun q => hin (Or.inl q), by show _ < (arrV _ _ _).slots.size; rw [arrV_size]; exact Nat.not_le.mp fun q => hin (Or.inr q)⟩ c1 (fun q h => by rw [h] at c2; cases c2) hkC f3 rfl rfl hd fin
          · exact hO2.elim
      · have := hro.1; omega
    · exact hs.elim
  · exact hs.elim
theorem z_new (hx : p.tables.exec = Jvm.exec) (hb : c.code = cc) (hts : ∀ w ∈ mT, w.before args s = true) (hU : KU E s) {own : String} {ix t : Nat} (h14 : t < 14) (hown : s.vm.findClass own = some m.cls) (hcl : (Cond.classLink own ix (cN t)).before args s = true) (hRm : hf.1 - h0.1 ≤ R.cells ∧ hf.2.1 - h0.2.1 ≤ R.slots) (hd : decode cc pc = .ok (.new ix, 3)) (hs : s_new E.2.2.2 C Q (mmW E p l e R s m args below meth c Qf hf h0 nL) (pc + 3) t L st h) : mmX E p l e R s m args below meth c Qf h0 nL pc L st h := by
  intro hg wl ws hn H locs ls hR hlo hls
  obtain ⟨hm, hbd, hs⟩ := hs
  obtain ⟨n1, n2, n3⟩ := g_new h14
  have dl : (defs t).length = cL t := by have := congrArg List.length n3; simpa using this
  have hbd1 : h.1 + 1 ≤ hf.1 := hbd.1
  have hbd2 : h.2.1 + (defs t).length ≤ hf.2.1 := hbd.2
  rw [dl] at hbd2
  have hsz : H.size = E.2.2.2.1 + h.1 := hR.1
  refine W.newcK hx hb hown hcl (hts _ n1) (hts _ n2) rfl hd (by omega) (by omega) (hU.1.1 t _ (mCl_get h14)).2.1 hsz (fun H1 kC hkC e1 z1 o1 => ?_)
  have hKn := hU.1.1 t _ (mCl_get h14)
  have hat : va_at E.1 mCl (E.2.2.2.1 + h.1, .inr (t, (defs t).map cV)) H1 := ⟨_, mCl_get h14, (u_born (tyOf t) hts (g_lay h14) hKn hkC e1 (g_ty h14)).to (fun k hk => by
    rw [n3]
    simp [vp_V, hk])⟩
  have hR' : mmR E s (hnew h (E.2.2.2.1 + h.1) (defs t).length (cObj t (defs t))) H1 := mmR_new hR (by rw [z1, hsz]) (fun q hq => o1 q (by omega)) ⟨h14, dl⟩ (by rw [hsz]; exact hat) (defs_wf t)
  have k := hs (by constructor <;> simp only [hnew] <;> omega) wl (wfS_c (v := vR (E.2.2.2.1 + h.1)) trivial ws) hn H1 locs ls hR' hlo hls
  have a1 : (hnew h (E.2.2.2.1 + h.1) (defs t).length (cObj t (defs t))).1 - h0.1 = h.1 - h0.1 + 1 := by show h.1 + 1 - h0.1 = _; omega
  have a2 : (hnew h (E.2.2.2.1 + h.1) (defs t).length (cObj t (defs t))).2.1 - h0.2.1 = h.2.1 - h0.2.1 + cL t := by show h.2.1 + (defs t).length - h0.2.1 = _; rw [dl]; omega
  rw [a1, a2] at k
  exact k
theorem z_newa (hx : p.tables.exec = Jvm.exec) (hb : c.code = cc) (hU : KU E s) {at' : ArrayType} {ty : Nat} (hty : (at' = .int ∧ ty = 0) ∨ (at' = .boolean ∧ ty = 1)) (harr : (Cond.arrayClass (newarray.typeOf at')).before args s = true) (hRm : hf.1 - h0.1 ≤ R.cells ∧ hf.2.1 - h0.2.1 ≤ R.slots) (hd : decode cc pc = .ok (.newarray at', 2)) (hs : s_newa E.2.2.2 C Q (mmW E p l e R s m args below meth c Qf hf h0 nL) (pc + 2) ty L st h) : mmX E p l e R s m args below meth c Qf h0 nL pc L st h := by
  intro hg wl ws hn H locs ls hR hlo hls
  unfold s_newa at hs; split at hs
  · rename_i n st'
    obtain ⟨⟨m1, m2, m3, m4⟩, hbd, hs⟩ := hs
    have hbd1 : h.1 + 1 ≤ hf.1 := hbd.1
    have hbd2 : h.2.1 + n.toNat ≤ hf.2.1 := hbd.2
    have hsz : H.size = E.2.2.2.1 + h.1 := hR.1
    have wn : iR n := wfS_h ws
    refine va_newaK (n := Int32.ofInt n) (N := n.toNat) hx hb harr rfl hd rfl (by rw [← i32_0, i32lt wn iR_0]; omega) (i32cl wn m1) ?_ (by omega) (by omega) hsz (fun H1 cA e1 z1 o1 hAr hNm => ?_)
    · rcases hty with ⟨rfl, -⟩ | ⟨rfl, -⟩
      · show n.toNat * 4 ≤ _; omega
      · show n.toNat * 1 ≤ _; omega
    have hcA : cA = (if ty = 0 then E.2.1.1 else E.2.1.2.1) := by
      rcases hty with ⟨rfl, rfl⟩ | ⟨rfl, rfl⟩
      · have := (hU.1.2 0 (E.2.1.1, .int) rfl).2
        exact Option.some.inj (hNm.symm.trans this)
      · have := (hU.1.2 1 (E.2.1.2.1, .boolean) rfl).2
        exact Option.some.inj (hNm.symm.trans this)
    have hat : va_at E.1 mCl (H.size, cE E (cArr ty n.toNat (fun _ => 0)) (E.2.2.2.1 + h.1)) H1 := by
      rcases hty with ⟨rfl, rfl⟩ | ⟨rfl, rfl⟩
      · subst hcA; rw [hsz]; exact e1
      · subst hcA; rw [hsz]; exact e1
    have hR' : mmR E s (hnew h (E.2.2.2.1 + h.1) n.toNat (cArr ty n.toNat (fun _ => 0))) H1 := mmR_new hR (by rw [z1, hsz]) (fun q hq => o1 q (by omega)) (by rcases hty with ⟨-, h⟩ | ⟨-, h⟩ <;> simp [rwC, h]) hat ⟨by omega, fun _ => iR_0⟩
    have k := hs (by constructor <;> simp only [hnew] <;> omega) wl (wfS_c (v := vR (E.2.2.2.1 + h.1)) trivial (wfS_t ws)) hn H1 locs ls hR' hlo hls
    have a1 : (hnew h (E.2.2.2.1 + h.1) n.toNat (cArr ty n.toNat (fun _ => 0))).1 - h0.1 = h.1 - h0.1 + 1 := by show h.1 + 1 - h0.1 = _; omega
    have a2 : (hnew h (E.2.2.2.1 + h.1) n.toNat (cArr ty n.toNat (fun _ => 0))).2.1 - h0.2.1 = h.2.1 - h0.2.1 + n.toNat := by show h.2.1 + n.toNat - h0.2.1 = _; omega
    rw [a1, a2] at k
    exact k
  · exact hs.elim
theorem z_anew (hx : p.tables.exec = Jvm.exec) (hb : c.code = cc) (hU : KU E s) {own : String} {ix : Nat} (hown : s.vm.findClass own = some m.cls) (hcl : (Cond.classLink own ix "java/lang/Object").before args s = true) (hRm : hf.1 - h0.1 ≤ R.cells ∧ hf.2.1 - h0.2.1 ≤ R.slots) (hd : decode cc pc = .ok (.anewarray ix, 3)) (hs : s_anew E.2.2.2 C Q (mmW E p l e R s m args below meth c Qf hf h0 nL) (pc + 3) L st h) : mmX E p l e R s m args below meth c Qf h0 nL pc L st h := by
  intro hg wl ws hn H locs ls hR hlo hls
  unfold s_anew at hs; split at hs
  · rename_i n st'
    obtain ⟨⟨m1, m2, m3, m4⟩, hbd, hs⟩ := hs
    have hbd1 : h.1 + 1 ≤ hf.1 := hbd.1
    have hbd2 : h.2.1 + n.toNat ≤ hf.2.1 := hbd.2
    have hsz : H.size = E.2.2.2.1 + h.1 := hR.1
    have wn : iR n := wfS_h ws
    have ecl : (Int32.ofInt n).toNatClampNeg = n.toNat := i32cl wn m1
    refine W.anew (n := Int32.ofInt n) hx hb hown hcl (va_AO.use hU.2.2.2.2.2.2.2.2.1) rfl hd rfl (by rw [← i32_0, i32lt wn iR_0]; omega) (by rw [ecl]; omega) (by omega) (by rw [ecl]; omega) (fun cA kA comp e1 e2 e3 e4 => ?_)
    rw [ecl, arrV_new]
    have hcA : cA = E.2.1.2.2 := by
      obtain ⟨kA', comp', k1, k2, k3, k4⟩ := (hU.1.2 2 (E.2.1.2.2, oA) rfl).2
      exact Option.some.inj (e1.symm.trans k4)
    subst hcA
    generalize hH1 : H.push (arrV E.2.1.2.2 n.toNat (fun _ => .null)) = H1
    have z1 : H1.size = H.size + 1 := by rw [← hH1, Array.size_push]
    have q1 : H1[H.size]? = some (arrV E.2.1.2.2 n.toNat (fun _ => .null)) := by rw [← hH1, Array.getElem?_push_size]
    have o1 : ∀ q : Nat, q < H.size → H1[q]? = H[q]? := fun q hq => by rw [← hH1, Array.getElem?_push, if_neg (Nat.ne_of_lt hq)]
    have hR' : mmR E s (hnew h (E.2.2.2.1 + h.1) n.toNat (cRef 0 n.toNat (fun _ => none))) H1 := mmR_new hR z1 o1 rfl q1 (show n.toNat < 2147483648 by omega)
    have k := hs (by constructor <;> simp only [hnew] <;> omega) wl (wfS_c (v := vR (E.2.2.2.1 + h.1)) trivial (wfS_t ws)) hn H1 locs ls hR' hlo hls
    have a1 : (hnew h (E.2.2.2.1 + h.1) n.toNat (cRef 0 n.toNat (fun _ => none))).1 - h0.1 = h.1 - h0.1 + 1 := by show h.1 + 1 - h0.1 = _; omega
    have a2 : (hnew h (E.2.2.2.1 + h.1) n.toNat (cRef 0 n.toNat (fun _ => none))).2.1 - h0.2.1 = h.2.1 - h0.2.1 + n.toNat := by show h.2.1 + n.toNat - h0.2.1 = _; omega
    rw [a1, a2] at k
    rw [hsz]
    exact k
  · exact hs.elim
end ZK
